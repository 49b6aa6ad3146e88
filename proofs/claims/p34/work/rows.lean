section
-- ===== PART A: goes FIRST, ahead of the names: the tables' words, and 'selects' of the private methods out of them =====
/-- a private method of a class that the tables say can be made, by its rows of tables_1 -/
def lw_okq (q : MethodName × Nat) : Prop := (q.1.cls ≠ "java/lang/invoke/MethodHandle" ∧ q.1.cls ≠ "java/lang/invoke/VarHandle") ∧ Cond.instantiable q.1.cls q.2 ∈ tables_1 ∧ Cond.privateMethod q.1 ∈ tables_1 ∧ Cond.instanceMethod q.1 ∈ tables_1
theorem lw_p0 : lw_okq (⟨"ClauseDrafts$Tape", "readSign", "(I)V"⟩, 7) := ⟨⟨by decide +kernel, by decide +kernel⟩, List.mem_of_getElem? (i := 24) (by decide +kernel), List.mem_of_getElem? (i := 367) (by decide +kernel), List.mem_of_getElem? (i := 368) (by decide +kernel)⟩
theorem lw_p1 : lw_okq (⟨"ClauseDrafts$Tape", "faultOf", "(I)I"⟩, 7) := ⟨⟨by decide +kernel, by decide +kernel⟩, List.mem_of_getElem? (i := 24) (by decide +kernel), List.mem_of_getElem? (i := 371) (by decide +kernel), List.mem_of_getElem? (i := 372) (by decide +kernel)⟩
theorem lw_p2 : lw_okq (⟨"ClauseDrafts$Tape", "mayStand", "(I)Z"⟩, 7) := ⟨⟨by decide +kernel, by decide +kernel⟩, List.mem_of_getElem? (i := 24) (by decide +kernel), List.mem_of_getElem? (i := 386) (by decide +kernel), List.mem_of_getElem? (i := 387) (by decide +kernel)⟩
theorem lw_p3 : lw_okq (⟨"ClauseDrafts$Tape", "takeSign", "(I)V"⟩, 7) := ⟨⟨by decide +kernel, by decide +kernel⟩, List.mem_of_getElem? (i := 24) (by decide +kernel), List.mem_of_getElem? (i := 407) (by decide +kernel), List.mem_of_getElem? (i := 408) (by decide +kernel)⟩
theorem lw_p4 : lw_okq (⟨"ClauseDrafts", "compareAgain", "()V"⟩, 11) := ⟨⟨by decide +kernel, by decide +kernel⟩, List.mem_of_getElem? (i := 16) (by decide +kernel), List.mem_of_getElem? (i := 471) (by decide +kernel), List.mem_of_getElem? (i := 472) (by decide +kernel)⟩
theorem lw_p5 : lw_okq (⟨"ClauseDrafts$Costs", "noteClauses", "(LClauseDrafts$Drafts;I)V"⟩, 5) := ⟨⟨by decide +kernel, by decide +kernel⟩, List.mem_of_getElem? (i := 123) (by decide +kernel), List.mem_of_getElem? (i := 480) (by decide +kernel), List.mem_of_getElem? (i := 481) (by decide +kernel)⟩
theorem lw_p6 : lw_okq (⟨"ClauseDrafts$Pairing", "forgetAll", "()V"⟩, 11) := ⟨⟨by decide +kernel, by decide +kernel⟩, List.mem_of_getElem? (i := 147) (by decide +kernel), List.mem_of_getElem? (i := 542) (by decide +kernel), List.mem_of_getElem? (i := 543) (by decide +kernel)⟩
theorem lw_p7 : lw_okq (⟨"ClauseDrafts$Pairing", "walkRows", "(LClauseDrafts$Drafts;LClauseDrafts$Costs;)V"⟩, 11) := ⟨⟨by decide +kernel, by decide +kernel⟩, List.mem_of_getElem? (i := 147) (by decide +kernel), List.mem_of_getElem? (i := 550) (by decide +kernel), List.mem_of_getElem? (i := 551) (by decide +kernel)⟩
theorem lw_p8 : lw_okq (⟨"ClauseDrafts$Pairing", "appendStep", "(III)V"⟩, 11) := ⟨⟨by decide +kernel, by decide +kernel⟩, List.mem_of_getElem? (i := 147) (by decide +kernel), List.mem_of_getElem? (i := 565) (by decide +kernel), List.mem_of_getElem? (i := 566) (by decide +kernel)⟩
theorem lw_p9 : lw_okq (⟨"ClauseDrafts$Pairing", "noteStep", "(LClauseDrafts$Drafts;LClauseDrafts$Costs;I)V"⟩, 11) := ⟨⟨by decide +kernel, by decide +kernel⟩, List.mem_of_getElem? (i := 147) (by decide +kernel), List.mem_of_getElem? (i := 572) (by decide +kernel), List.mem_of_getElem? (i := 573) (by decide +kernel)⟩
theorem lw_p10 : lw_okq (⟨"ClauseDrafts$Pairing", "keepWords", "(LClauseDrafts$Drafts;LClauseDrafts$Costs;II)V"⟩, 11) := ⟨⟨by decide +kernel, by decide +kernel⟩, List.mem_of_getElem? (i := 147) (by decide +kernel), List.mem_of_getElem? (i := 589) (by decide +kernel), List.mem_of_getElem? (i := 590) (by decide +kernel)⟩
theorem lw_p11 : lw_okq (⟨"ClauseDrafts$Pairing", "lookForMove", "(LClauseDrafts$Drafts;LClauseDrafts$Costs;I)V"⟩, 11) := ⟨⟨by decide +kernel, by decide +kernel⟩, List.mem_of_getElem? (i := 147) (by decide +kernel), List.mem_of_getElem? (i := 604) (by decide +kernel), List.mem_of_getElem? (i := 605) (by decide +kernel)⟩
theorem lw_p12 : lw_okq (⟨"ClauseDrafts$Pairing", "noteMove", "(III)V"⟩, 11) := ⟨⟨by decide +kernel, by decide +kernel⟩, List.mem_of_getElem? (i := 147) (by decide +kernel), List.mem_of_getElem? (i := 619) (by decide +kernel), List.mem_of_getElem? (i := 620) (by decide +kernel)⟩
theorem lw_p13 : lw_okq (⟨"ClauseDrafts$Changes", "collectPair", "(LClauseDrafts$Drafts;LClauseDrafts$Pairing;II)V"⟩, 4) := ⟨⟨by decide +kernel, by decide +kernel⟩, List.mem_of_getElem? (i := 189) (by decide +kernel), List.mem_of_getElem? (i := 634) (by decide +kernel), List.mem_of_getElem? (i := 635) (by decide +kernel)⟩
theorem lw_p14 : lw_okq (⟨"ClauseDrafts$Changes", "appendStretch", "(IIIIII)V"⟩, 4) := ⟨⟨by decide +kernel, by decide +kernel⟩, List.mem_of_getElem? (i := 189) (by decide +kernel), List.mem_of_getElem? (i := 644) (by decide +kernel), List.mem_of_getElem? (i := 645) (by decide +kernel)⟩
theorem lw_p15 : lw_okq (⟨"ClauseDrafts$Changes", "append", "(III)V"⟩, 4) := ⟨⟨by decide +kernel, by decide +kernel⟩, List.mem_of_getElem? (i := 189) (by decide +kernel), List.mem_of_getElem? (i := 648) (by decide +kernel), List.mem_of_getElem? (i := 649) (by decide +kernel)⟩
def lw_privs_1 : List (MethodName × Nat) := [(⟨"ClauseDrafts$Tape", "readSign", "(I)V"⟩, 7), (⟨"ClauseDrafts$Tape", "faultOf", "(I)I"⟩, 7), (⟨"ClauseDrafts$Tape", "mayStand", "(I)Z"⟩, 7), (⟨"ClauseDrafts$Tape", "takeSign", "(I)V"⟩, 7), (⟨"ClauseDrafts", "compareAgain", "()V"⟩, 11), (⟨"ClauseDrafts$Costs", "noteClauses", "(LClauseDrafts$Drafts;I)V"⟩, 5), (⟨"ClauseDrafts$Pairing", "forgetAll", "()V"⟩, 11), (⟨"ClauseDrafts$Pairing", "walkRows", "(LClauseDrafts$Drafts;LClauseDrafts$Costs;)V"⟩, 11), (⟨"ClauseDrafts$Pairing", "appendStep", "(III)V"⟩, 11), (⟨"ClauseDrafts$Pairing", "noteStep", "(LClauseDrafts$Drafts;LClauseDrafts$Costs;I)V"⟩, 11), (⟨"ClauseDrafts$Pairing", "keepWords", "(LClauseDrafts$Drafts;LClauseDrafts$Costs;II)V"⟩, 11), (⟨"ClauseDrafts$Pairing", "lookForMove", "(LClauseDrafts$Drafts;LClauseDrafts$Costs;I)V"⟩, 11), (⟨"ClauseDrafts$Pairing", "noteMove", "(III)V"⟩, 11), (⟨"ClauseDrafts$Changes", "collectPair", "(LClauseDrafts$Drafts;LClauseDrafts$Pairing;II)V"⟩, 4), (⟨"ClauseDrafts$Changes", "appendStretch", "(IIIIII)V"⟩, 4), (⟨"ClauseDrafts$Changes", "append", "(III)V"⟩, 4)]
theorem lw_r1 : ∀ q ∈ lw_privs_1, lw_okq q := List.forall_mem_cons.mpr ⟨lw_p0, List.forall_mem_cons.mpr ⟨lw_p1, List.forall_mem_cons.mpr ⟨lw_p2, List.forall_mem_cons.mpr ⟨lw_p3, List.forall_mem_cons.mpr ⟨lw_p4, List.forall_mem_cons.mpr ⟨lw_p5, List.forall_mem_cons.mpr ⟨lw_p6, List.forall_mem_cons.mpr ⟨lw_p7, List.forall_mem_cons.mpr ⟨lw_p8, List.forall_mem_cons.mpr ⟨lw_p9, List.forall_mem_cons.mpr ⟨lw_p10, List.forall_mem_cons.mpr ⟨lw_p11, List.forall_mem_cons.mpr ⟨lw_p12, List.forall_mem_cons.mpr ⟨lw_p13, List.forall_mem_cons.mpr ⟨lw_p14, List.forall_mem_cons.mpr ⟨lw_p15, fun _ h => absurd h List.not_mem_nil⟩⟩⟩⟩⟩⟩⟩⟩⟩⟩⟩⟩⟩⟩⟩⟩
theorem lw_p16 : lw_okq (⟨"ClauseDrafts$Changes", "noteWords", "(IIII)V"⟩, 4) := ⟨⟨by decide +kernel, by decide +kernel⟩, List.mem_of_getElem? (i := 189) (by decide +kernel), List.mem_of_getElem? (i := 652) (by decide +kernel), List.mem_of_getElem? (i := 653) (by decide +kernel)⟩
theorem lw_p17 : lw_okq (⟨"ClauseDrafts$Changes", "collectKept", "(LClauseDrafts$Drafts;LClauseDrafts$Pairing;IIII)V"⟩, 4) := ⟨⟨by decide +kernel, by decide +kernel⟩, List.mem_of_getElem? (i := 189) (by decide +kernel), List.mem_of_getElem? (i := 656) (by decide +kernel), List.mem_of_getElem? (i := 657) (by decide +kernel)⟩
theorem lw_p18 : lw_okq (⟨"ClauseDrafts$Changes", "collectRemoved", "(LClauseDrafts$Pairing;I)V"⟩, 4) := ⟨⟨by decide +kernel, by decide +kernel⟩, List.mem_of_getElem? (i := 189) (by decide +kernel), List.mem_of_getElem? (i := 671) (by decide +kernel), List.mem_of_getElem? (i := 672) (by decide +kernel)⟩
theorem lw_p19 : lw_okq (⟨"ClauseDrafts$View", "listStep", "(LClauseDrafts$Drafts;LClauseDrafts$Pairing;LClauseDrafts$Changes;I)V"⟩, 8) := ⟨⟨by decide +kernel, by decide +kernel⟩, List.mem_of_getElem? (i := 210) (by decide +kernel), List.mem_of_getElem? (i := 685) (by decide +kernel), List.mem_of_getElem? (i := 686) (by decide +kernel)⟩
theorem lw_p20 : lw_okq (⟨"ClauseDrafts$View", "listClause", "(LClauseDrafts$Drafts;LClauseDrafts$Pairing;II)V"⟩, 8) := ⟨⟨by decide +kernel, by decide +kernel⟩, List.mem_of_getElem? (i := 210) (by decide +kernel), List.mem_of_getElem? (i := 691) (by decide +kernel), List.mem_of_getElem? (i := 692) (by decide +kernel)⟩
theorem lw_p21 : lw_okq (⟨"ClauseDrafts$View", "accepts", "(LClauseDrafts$Changes;I)Z"⟩, 8) := ⟨⟨by decide +kernel, by decide +kernel⟩, List.mem_of_getElem? (i := 210) (by decide +kernel), List.mem_of_getElem? (i := 705) (by decide +kernel), List.mem_of_getElem? (i := 706) (by decide +kernel)⟩
theorem lw_p22 : lw_okq (⟨"ClauseDrafts$View", "showPair", "(LClauseDrafts$Drafts;LClauseDrafts$Changes;III)V"⟩, 8) := ⟨⟨by decide +kernel, by decide +kernel⟩, List.mem_of_getElem? (i := 210) (by decide +kernel), List.mem_of_getElem? (i := 716) (by decide +kernel), List.mem_of_getElem? (i := 717) (by decide +kernel)⟩
theorem lw_p23 : lw_okq (⟨"ClauseDrafts$View", "showWords", "(LClauseDrafts$Drafts;IIIII)V"⟩, 8) := ⟨⟨by decide +kernel, by decide +kernel⟩, List.mem_of_getElem? (i := 210) (by decide +kernel), List.mem_of_getElem? (i := 732) (by decide +kernel), List.mem_of_getElem? (i := 733) (by decide +kernel)⟩
theorem lw_p24 : lw_okq (⟨"ClauseDrafts$View", "shownReference", "(LClauseDrafts$Draft;II)I"⟩, 8) := ⟨⟨by decide +kernel, by decide +kernel⟩, List.mem_of_getElem? (i := 210) (by decide +kernel), List.mem_of_getElem? (i := 738) (by decide +kernel), List.mem_of_getElem? (i := 739) (by decide +kernel)⟩
theorem lw_p25 : lw_okq (⟨"ClauseDrafts", "isClause", "(II)Z"⟩, 11) := ⟨⟨by decide +kernel, by decide +kernel⟩, List.mem_of_getElem? (i := 16) (by decide +kernel), List.mem_of_getElem? (i := 787) (by decide +kernel), List.mem_of_getElem? (i := 788) (by decide +kernel)⟩
theorem lw_p26 : lw_okq (⟨"ClauseDrafts", "isWord", "(III)Z"⟩, 11) := ⟨⟨by decide +kernel, by decide +kernel⟩, List.mem_of_getElem? (i := 16) (by decide +kernel), List.mem_of_getElem? (i := 806) (by decide +kernel), List.mem_of_getElem? (i := 807) (by decide +kernel)⟩
theorem lw_p27 : lw_okq (⟨"ClauseDrafts", "rootCost", "()I"⟩, 11) := ⟨⟨by decide +kernel, by decide +kernel⟩, List.mem_of_getElem? (i := 16) (by decide +kernel), List.mem_of_getElem? (i := 826) (by decide +kernel), List.mem_of_getElem? (i := 827) (by decide +kernel)⟩
theorem lw_p28 : lw_okq (⟨"ClauseDrafts", "isChange", "(I)Z"⟩, 11) := ⟨⟨by decide +kernel, by decide +kernel⟩, List.mem_of_getElem? (i := 16) (by decide +kernel), List.mem_of_getElem? (i := 863) (by decide +kernel), List.mem_of_getElem? (i := 864) (by decide +kernel)⟩
theorem lw_p29 : lw_okq (⟨"ClauseDrafts", "showAgain", "()V"⟩, 11) := ⟨⟨by decide +kernel, by decide +kernel⟩, List.mem_of_getElem? (i := 16) (by decide +kernel), List.mem_of_getElem? (i := 881) (by decide +kernel), List.mem_of_getElem? (i := 882) (by decide +kernel)⟩
theorem lw_p30 : lw_okq (⟨"ClauseDrafts", "viewOf", "(I)LClauseDrafts$View;"⟩, 11) := ⟨⟨by decide +kernel, by decide +kernel⟩, List.mem_of_getElem? (i := 16) (by decide +kernel), List.mem_of_getElem? (i := 907) (by decide +kernel), List.mem_of_getElem? (i := 908) (by decide +kernel)⟩
theorem lw_p31 : lw_okq (⟨"ClauseDrafts$Draft", "copyClause", "(LClauseDrafts$Draft;II)V"⟩, 4) := ⟨⟨by decide +kernel, by decide +kernel⟩, List.mem_of_getElem? (i := 47) (by decide +kernel), List.mem_of_getElem? (i := 1030) (by decide +kernel), List.mem_of_getElem? (i := 1031) (by decide +kernel)⟩
def lw_privs_2 : List (MethodName × Nat) := [(⟨"ClauseDrafts$Changes", "noteWords", "(IIII)V"⟩, 4), (⟨"ClauseDrafts$Changes", "collectKept", "(LClauseDrafts$Drafts;LClauseDrafts$Pairing;IIII)V"⟩, 4), (⟨"ClauseDrafts$Changes", "collectRemoved", "(LClauseDrafts$Pairing;I)V"⟩, 4), (⟨"ClauseDrafts$View", "listStep", "(LClauseDrafts$Drafts;LClauseDrafts$Pairing;LClauseDrafts$Changes;I)V"⟩, 8), (⟨"ClauseDrafts$View", "listClause", "(LClauseDrafts$Drafts;LClauseDrafts$Pairing;II)V"⟩, 8), (⟨"ClauseDrafts$View", "accepts", "(LClauseDrafts$Changes;I)Z"⟩, 8), (⟨"ClauseDrafts$View", "showPair", "(LClauseDrafts$Drafts;LClauseDrafts$Changes;III)V"⟩, 8), (⟨"ClauseDrafts$View", "showWords", "(LClauseDrafts$Drafts;IIIII)V"⟩, 8), (⟨"ClauseDrafts$View", "shownReference", "(LClauseDrafts$Draft;II)I"⟩, 8), (⟨"ClauseDrafts", "isClause", "(II)Z"⟩, 11), (⟨"ClauseDrafts", "isWord", "(III)Z"⟩, 11), (⟨"ClauseDrafts", "rootCost", "()I"⟩, 11), (⟨"ClauseDrafts", "isChange", "(I)Z"⟩, 11), (⟨"ClauseDrafts", "showAgain", "()V"⟩, 11), (⟨"ClauseDrafts", "viewOf", "(I)LClauseDrafts$View;"⟩, 11), (⟨"ClauseDrafts$Draft", "copyClause", "(LClauseDrafts$Draft;II)V"⟩, 4)]
theorem lw_r2 : ∀ q ∈ lw_privs_2, lw_okq q := List.forall_mem_cons.mpr ⟨lw_p16, List.forall_mem_cons.mpr ⟨lw_p17, List.forall_mem_cons.mpr ⟨lw_p18, List.forall_mem_cons.mpr ⟨lw_p19, List.forall_mem_cons.mpr ⟨lw_p20, List.forall_mem_cons.mpr ⟨lw_p21, List.forall_mem_cons.mpr ⟨lw_p22, List.forall_mem_cons.mpr ⟨lw_p23, List.forall_mem_cons.mpr ⟨lw_p24, List.forall_mem_cons.mpr ⟨lw_p25, List.forall_mem_cons.mpr ⟨lw_p26, List.forall_mem_cons.mpr ⟨lw_p27, List.forall_mem_cons.mpr ⟨lw_p28, List.forall_mem_cons.mpr ⟨lw_p29, List.forall_mem_cons.mpr ⟨lw_p30, List.forall_mem_cons.mpr ⟨lw_p31, fun _ h => absurd h List.not_mem_nil⟩⟩⟩⟩⟩⟩⟩⟩⟩⟩⟩⟩⟩⟩⟩⟩
theorem lw_p32 : lw_okq (⟨"ClauseDrafts", "imageOf", "(I)LClauseDrafts$Image;"⟩, 11) := ⟨⟨by decide +kernel, by decide +kernel⟩, List.mem_of_getElem? (i := 16) (by decide +kernel), List.mem_of_getElem? (i := 1056) (by decide +kernel), List.mem_of_getElem? (i := 1057) (by decide +kernel)⟩
theorem lw_p33 : lw_okq (⟨"ClauseDrafts", "findingOfPaste", "(IIII)I"⟩, 11) := ⟨⟨by decide +kernel, by decide +kernel⟩, List.mem_of_getElem? (i := 16) (by decide +kernel), List.mem_of_getElem? (i := 1127) (by decide +kernel), List.mem_of_getElem? (i := 1128) (by decide +kernel)⟩
theorem lw_p34 : lw_okq (⟨"ClauseDraftsModel", "compares", "()V"⟩, 50) := ⟨⟨by decide +kernel, by decide +kernel⟩, List.mem_of_getElem? (i := 1156) (by decide +kernel), List.mem_of_getElem? (i := 1162) (by decide +kernel), List.mem_of_getElem? (i := 1163) (by decide +kernel)⟩
theorem lw_p35 : lw_okq (⟨"ClauseDraftsModel", "measures", "()V"⟩, 50) := ⟨⟨by decide +kernel, by decide +kernel⟩, List.mem_of_getElem? (i := 1156) (by decide +kernel), List.mem_of_getElem? (i := 1166) (by decide +kernel), List.mem_of_getElem? (i := 1167) (by decide +kernel)⟩
theorem lw_p36 : lw_okq (⟨"ClauseDraftsModel", "leaves", "(II)I"⟩, 50) := ⟨⟨by decide +kernel, by decide +kernel⟩, List.mem_of_getElem? (i := 1156) (by decide +kernel), List.mem_of_getElem? (i := 1170) (by decide +kernel), List.mem_of_getElem? (i := 1171) (by decide +kernel)⟩
theorem lw_p37 : lw_okq (⟨"ClauseDraftsModel", "lengthOf", "(II)I"⟩, 50) := ⟨⟨by decide +kernel, by decide +kernel⟩, List.mem_of_getElem? (i := 1156) (by decide +kernel), List.mem_of_getElem? (i := 1174) (by decide +kernel), List.mem_of_getElem? (i := 1175) (by decide +kernel)⟩
theorem lw_p38 : lw_okq (⟨"ClauseDraftsModel", "wordOf", "(III)I"⟩, 50) := ⟨⟨by decide +kernel, by decide +kernel⟩, List.mem_of_getElem? (i := 1156) (by decide +kernel), List.mem_of_getElem? (i := 1181) (by decide +kernel), List.mem_of_getElem? (i := 1182) (by decide +kernel)⟩
theorem lw_p39 : lw_okq (⟨"ClauseDraftsModel", "rows", "(II)I"⟩, 50) := ⟨⟨by decide +kernel, by decide +kernel⟩, List.mem_of_getElem? (i := 1156) (by decide +kernel), List.mem_of_getElem? (i := 1191) (by decide +kernel), List.mem_of_getElem? (i := 1192) (by decide +kernel)⟩
theorem lw_p40 : lw_okq (⟨"ClauseDraftsModel", "isUnder", "(III)Z"⟩, 50) := ⟨⟨by decide +kernel, by decide +kernel⟩, List.mem_of_getElem? (i := 1156) (by decide +kernel), List.mem_of_getElem? (i := 1195) (by decide +kernel), List.mem_of_getElem? (i := 1196) (by decide +kernel)⟩
theorem lw_p41 : lw_okq (⟨"ClauseDraftsModel", "above", "(II)I"⟩, 50) := ⟨⟨by decide +kernel, by decide +kernel⟩, List.mem_of_getElem? (i := 1156) (by decide +kernel), List.mem_of_getElem? (i := 1199) (by decide +kernel), List.mem_of_getElem? (i := 1200) (by decide +kernel)⟩
theorem lw_p42 : lw_okq (⟨"ClauseDraftsModel", "depthOf", "(II)I"⟩, 50) := ⟨⟨by decide +kernel, by decide +kernel⟩, List.mem_of_getElem? (i := 1156) (by decide +kernel), List.mem_of_getElem? (i := 1203) (by decide +kernel), List.mem_of_getElem? (i := 1204) (by decide +kernel)⟩
theorem lw_p43 : lw_okq (⟨"ClauseDraftsModel", "least", "(II)I"⟩, 50) := ⟨⟨by decide +kernel, by decide +kernel⟩, List.mem_of_getElem? (i := 1156) (by decide +kernel), List.mem_of_getElem? (i := 1207) (by decide +kernel), List.mem_of_getElem? (i := 1208) (by decide +kernel)⟩
theorem lw_p44 : lw_okq (⟨"ClauseDraftsModel", "weightOf", "(II)I"⟩, 50) := ⟨⟨by decide +kernel, by decide +kernel⟩, List.mem_of_getElem? (i := 1156) (by decide +kernel), List.mem_of_getElem? (i := 1212) (by decide +kernel), List.mem_of_getElem? (i := 1213) (by decide +kernel)⟩
theorem lw_p45 : lw_okq (⟨"ClauseDraftsModel", "endOf", "(II)I"⟩, 50) := ⟨⟨by decide +kernel, by decide +kernel⟩, List.mem_of_getElem? (i := 1156) (by decide +kernel), List.mem_of_getElem? (i := 1216) (by decide +kernel), List.mem_of_getElem? (i := 1217) (by decide +kernel)⟩
theorem lw_p46 : lw_okq (⟨"ClauseDraftsModel", "wordsFrom", "(III)I"⟩, 50) := ⟨⟨by decide +kernel, by decide +kernel⟩, List.mem_of_getElem? (i := 1156) (by decide +kernel), List.mem_of_getElem? (i := 1220) (by decide +kernel), List.mem_of_getElem? (i := 1221) (by decide +kernel)⟩
theorem lw_p47 : lw_okq (⟨"ClauseDraftsModel", "piles", "(II)V"⟩, 50) := ⟨⟨by decide +kernel, by decide +kernel⟩, List.mem_of_getElem? (i := 1156) (by decide +kernel), List.mem_of_getElem? (i := 1224) (by decide +kernel), List.mem_of_getElem? (i := 1225) (by decide +kernel)⟩
def lw_privs_3 : List (MethodName × Nat) := [(⟨"ClauseDrafts", "imageOf", "(I)LClauseDrafts$Image;"⟩, 11), (⟨"ClauseDrafts", "findingOfPaste", "(IIII)I"⟩, 11), (⟨"ClauseDraftsModel", "compares", "()V"⟩, 50), (⟨"ClauseDraftsModel", "measures", "()V"⟩, 50), (⟨"ClauseDraftsModel", "leaves", "(II)I"⟩, 50), (⟨"ClauseDraftsModel", "lengthOf", "(II)I"⟩, 50), (⟨"ClauseDraftsModel", "wordOf", "(III)I"⟩, 50), (⟨"ClauseDraftsModel", "rows", "(II)I"⟩, 50), (⟨"ClauseDraftsModel", "isUnder", "(III)Z"⟩, 50), (⟨"ClauseDraftsModel", "above", "(II)I"⟩, 50), (⟨"ClauseDraftsModel", "depthOf", "(II)I"⟩, 50), (⟨"ClauseDraftsModel", "least", "(II)I"⟩, 50), (⟨"ClauseDraftsModel", "weightOf", "(II)I"⟩, 50), (⟨"ClauseDraftsModel", "endOf", "(II)I"⟩, 50), (⟨"ClauseDraftsModel", "wordsFrom", "(III)I"⟩, 50), (⟨"ClauseDraftsModel", "piles", "(II)V"⟩, 50)]
theorem lw_r3 : ∀ q ∈ lw_privs_3, lw_okq q := List.forall_mem_cons.mpr ⟨lw_p32, List.forall_mem_cons.mpr ⟨lw_p33, List.forall_mem_cons.mpr ⟨lw_p34, List.forall_mem_cons.mpr ⟨lw_p35, List.forall_mem_cons.mpr ⟨lw_p36, List.forall_mem_cons.mpr ⟨lw_p37, List.forall_mem_cons.mpr ⟨lw_p38, List.forall_mem_cons.mpr ⟨lw_p39, List.forall_mem_cons.mpr ⟨lw_p40, List.forall_mem_cons.mpr ⟨lw_p41, List.forall_mem_cons.mpr ⟨lw_p42, List.forall_mem_cons.mpr ⟨lw_p43, List.forall_mem_cons.mpr ⟨lw_p44, List.forall_mem_cons.mpr ⟨lw_p45, List.forall_mem_cons.mpr ⟨lw_p46, List.forall_mem_cons.mpr ⟨lw_p47, fun _ h => absurd h List.not_mem_nil⟩⟩⟩⟩⟩⟩⟩⟩⟩⟩⟩⟩⟩⟩⟩⟩
theorem lw_p48 : lw_okq (⟨"ClauseDraftsModel", "steps", "()V"⟩, 50) := ⟨⟨by decide +kernel, by decide +kernel⟩, List.mem_of_getElem? (i := 1156) (by decide +kernel), List.mem_of_getElem? (i := 1228) (by decide +kernel), List.mem_of_getElem? (i := 1229) (by decide +kernel)⟩
theorem lw_p49 : lw_okq (⟨"ClauseDraftsModel", "comes", "(III)V"⟩, 50) := ⟨⟨by decide +kernel, by decide +kernel⟩, List.mem_of_getElem? (i := 1156) (by decide +kernel), List.mem_of_getElem? (i := 1232) (by decide +kernel), List.mem_of_getElem? (i := 1233) (by decide +kernel)⟩
theorem lw_p50 : lw_okq (⟨"ClauseDraftsModel", "statuses", "()V"⟩, 50) := ⟨⟨by decide +kernel, by decide +kernel⟩, List.mem_of_getElem? (i := 1156) (by decide +kernel), List.mem_of_getElem? (i := 1236) (by decide +kernel), List.mem_of_getElem? (i := 1237) (by decide +kernel)⟩
theorem lw_p51 : lw_okq (⟨"ClauseDraftsModel", "keepsWords", "(II)V"⟩, 50) := ⟨⟨by decide +kernel, by decide +kernel⟩, List.mem_of_getElem? (i := 1156) (by decide +kernel), List.mem_of_getElem? (i := 1240) (by decide +kernel), List.mem_of_getElem? (i := 1241) (by decide +kernel)⟩
theorem lw_p52 : lw_okq (⟨"ClauseDraftsModel", "moves", "()V"⟩, 50) := ⟨⟨by decide +kernel, by decide +kernel⟩, List.mem_of_getElem? (i := 1156) (by decide +kernel), List.mem_of_getElem? (i := 1244) (by decide +kernel), List.mem_of_getElem? (i := 1245) (by decide +kernel)⟩
theorem lw_p53 : lw_okq (⟨"ClauseDraftsModel", "areLike", "(II)Z"⟩, 50) := ⟨⟨by decide +kernel, by decide +kernel⟩, List.mem_of_getElem? (i := 1156) (by decide +kernel), List.mem_of_getElem? (i := 1248) (by decide +kernel), List.mem_of_getElem? (i := 1249) (by decide +kernel)⟩
theorem lw_p54 : lw_okq (⟨"ClauseDraftsModel", "marks", "(II)V"⟩, 50) := ⟨⟨by decide +kernel, by decide +kernel⟩, List.mem_of_getElem? (i := 1156) (by decide +kernel), List.mem_of_getElem? (i := 1252) (by decide +kernel), List.mem_of_getElem? (i := 1253) (by decide +kernel)⟩
theorem lw_p55 : lw_okq (⟨"ClauseDraftsModel", "lists", "()V"⟩, 50) := ⟨⟨by decide +kernel, by decide +kernel⟩, List.mem_of_getElem? (i := 1156) (by decide +kernel), List.mem_of_getElem? (i := 1256) (by decide +kernel), List.mem_of_getElem? (i := 1257) (by decide +kernel)⟩
theorem lw_p56 : lw_okq (⟨"ClauseDraftsModel", "changesOfPair", "(II)V"⟩, 50) := ⟨⟨by decide +kernel, by decide +kernel⟩, List.mem_of_getElem? (i := 1156) (by decide +kernel), List.mem_of_getElem? (i := 1260) (by decide +kernel), List.mem_of_getElem? (i := 1261) (by decide +kernel)⟩
theorem lw_p57 : lw_okq (⟨"ClauseDraftsModel", "loose", "(III)I"⟩, 50) := ⟨⟨by decide +kernel, by decide +kernel⟩, List.mem_of_getElem? (i := 1156) (by decide +kernel), List.mem_of_getElem? (i := 1264) (by decide +kernel), List.mem_of_getElem? (i := 1265) (by decide +kernel)⟩
theorem lw_p58 : lw_okq (⟨"ClauseDraftsModel", "changedWords", "(IIIIIII)V"⟩, 50) := ⟨⟨by decide +kernel, by decide +kernel⟩, List.mem_of_getElem? (i := 1156) (by decide +kernel), List.mem_of_getElem? (i := 1268) (by decide +kernel), List.mem_of_getElem? (i := 1269) (by decide +kernel)⟩
theorem lw_p59 : lw_okq (⟨"ClauseDraftsModel", "changed", "(III)V"⟩, 50) := ⟨⟨by decide +kernel, by decide +kernel⟩, List.mem_of_getElem? (i := 1156) (by decide +kernel), List.mem_of_getElem? (i := 1272) (by decide +kernel), List.mem_of_getElem? (i := 1273) (by decide +kernel)⟩
theorem lw_p60 : lw_okq (⟨"ClauseDraftsModel", "isTurn", "(IIII)Z"⟩, 50) := ⟨⟨by decide +kernel, by decide +kernel⟩, List.mem_of_getElem? (i := 1156) (by decide +kernel), List.mem_of_getElem? (i := 1276) (by decide +kernel), List.mem_of_getElem? (i := 1277) (by decide +kernel)⟩
theorem lw_p61 : lw_okq (⟨"ClauseDraftsModel", "target", "(II)I"⟩, 50) := ⟨⟨by decide +kernel, by decide +kernel⟩, List.mem_of_getElem? (i := 1156) (by decide +kernel), List.mem_of_getElem? (i := 1280) (by decide +kernel), List.mem_of_getElem? (i := 1281) (by decide +kernel)⟩
theorem lw_p62 : lw_okq (⟨"ClauseDraftsModel", "faultOf", "(I)I"⟩, 50) := ⟨⟨by decide +kernel, by decide +kernel⟩, List.mem_of_getElem? (i := 1156) (by decide +kernel), List.mem_of_getElem? (i := 1452) (by decide +kernel), List.mem_of_getElem? (i := 1453) (by decide +kernel)⟩
theorem lw_p63 : lw_okq (⟨"ClauseDraftsModel", "faultOfClause", "(I)I"⟩, 50) := ⟨⟨by decide +kernel, by decide +kernel⟩, List.mem_of_getElem? (i := 1156) (by decide +kernel), List.mem_of_getElem? (i := 1463) (by decide +kernel), List.mem_of_getElem? (i := 1464) (by decide +kernel)⟩
def lw_privs_4 : List (MethodName × Nat) := [(⟨"ClauseDraftsModel", "steps", "()V"⟩, 50), (⟨"ClauseDraftsModel", "comes", "(III)V"⟩, 50), (⟨"ClauseDraftsModel", "statuses", "()V"⟩, 50), (⟨"ClauseDraftsModel", "keepsWords", "(II)V"⟩, 50), (⟨"ClauseDraftsModel", "moves", "()V"⟩, 50), (⟨"ClauseDraftsModel", "areLike", "(II)Z"⟩, 50), (⟨"ClauseDraftsModel", "marks", "(II)V"⟩, 50), (⟨"ClauseDraftsModel", "lists", "()V"⟩, 50), (⟨"ClauseDraftsModel", "changesOfPair", "(II)V"⟩, 50), (⟨"ClauseDraftsModel", "loose", "(III)I"⟩, 50), (⟨"ClauseDraftsModel", "changedWords", "(IIIIIII)V"⟩, 50), (⟨"ClauseDraftsModel", "changed", "(III)V"⟩, 50), (⟨"ClauseDraftsModel", "isTurn", "(IIII)Z"⟩, 50), (⟨"ClauseDraftsModel", "target", "(II)I"⟩, 50), (⟨"ClauseDraftsModel", "faultOf", "(I)I"⟩, 50), (⟨"ClauseDraftsModel", "faultOfClause", "(I)I"⟩, 50)]
theorem lw_r4 : ∀ q ∈ lw_privs_4, lw_okq q := List.forall_mem_cons.mpr ⟨lw_p48, List.forall_mem_cons.mpr ⟨lw_p49, List.forall_mem_cons.mpr ⟨lw_p50, List.forall_mem_cons.mpr ⟨lw_p51, List.forall_mem_cons.mpr ⟨lw_p52, List.forall_mem_cons.mpr ⟨lw_p53, List.forall_mem_cons.mpr ⟨lw_p54, List.forall_mem_cons.mpr ⟨lw_p55, List.forall_mem_cons.mpr ⟨lw_p56, List.forall_mem_cons.mpr ⟨lw_p57, List.forall_mem_cons.mpr ⟨lw_p58, List.forall_mem_cons.mpr ⟨lw_p59, List.forall_mem_cons.mpr ⟨lw_p60, List.forall_mem_cons.mpr ⟨lw_p61, List.forall_mem_cons.mpr ⟨lw_p62, List.forall_mem_cons.mpr ⟨lw_p63, fun _ h => absurd h List.not_mem_nil⟩⟩⟩⟩⟩⟩⟩⟩⟩⟩⟩⟩⟩⟩⟩⟩
theorem lw_p64 : lw_okq (⟨"ClauseDraftsModel", "faultOfWord", "(I)I"⟩, 50) := ⟨⟨by decide +kernel, by decide +kernel⟩, List.mem_of_getElem? (i := 1156) (by decide +kernel), List.mem_of_getElem? (i := 1470) (by decide +kernel), List.mem_of_getElem? (i := 1471) (by decide +kernel)⟩
theorem lw_p65 : lw_okq (⟨"ClauseDraftsModel", "faultOfFigure", "(I)I"⟩, 50) := ⟨⟨by decide +kernel, by decide +kernel⟩, List.mem_of_getElem? (i := 1156) (by decide +kernel), List.mem_of_getElem? (i := 1474) (by decide +kernel), List.mem_of_getElem? (i := 1475) (by decide +kernel)⟩
theorem lw_p66 : lw_okq (⟨"ClauseDraftsModel", "isSide", "(I)Z"⟩, 50) := ⟨⟨by decide +kernel, by decide +kernel⟩, List.mem_of_getElem? (i := 1156) (by decide +kernel), List.mem_of_getElem? (i := 1486) (by decide +kernel), List.mem_of_getElem? (i := 1487) (by decide +kernel)⟩
theorem lw_p67 : lw_okq (⟨"ClauseDraftsModel", "references", "(IZ)I"⟩, 50) := ⟨⟨by decide +kernel, by decide +kernel⟩, List.mem_of_getElem? (i := 1156) (by decide +kernel), List.mem_of_getElem? (i := 1490) (by decide +kernel), List.mem_of_getElem? (i := 1491) (by decide +kernel)⟩
theorem lw_p68 : lw_okq (⟨"ClauseDraftsModel", "isClause", "(II)Z"⟩, 50) := ⟨⟨by decide +kernel, by decide +kernel⟩, List.mem_of_getElem? (i := 1156) (by decide +kernel), List.mem_of_getElem? (i := 1498) (by decide +kernel), List.mem_of_getElem? (i := 1499) (by decide +kernel)⟩
theorem lw_p69 : lw_okq (⟨"ClauseDraftsModel", "isWord", "(III)Z"⟩, 50) := ⟨⟨by decide +kernel, by decide +kernel⟩, List.mem_of_getElem? (i := 1156) (by decide +kernel), List.mem_of_getElem? (i := 1510) (by decide +kernel), List.mem_of_getElem? (i := 1511) (by decide +kernel)⟩
theorem lw_p70 : lw_okq (⟨"ClauseDraftsModel", "wordCosts", "()I"⟩, 50) := ⟨⟨by decide +kernel, by decide +kernel⟩, List.mem_of_getElem? (i := 1156) (by decide +kernel), List.mem_of_getElem? (i := 1522) (by decide +kernel), List.mem_of_getElem? (i := 1523) (by decide +kernel)⟩
theorem lw_p71 : lw_okq (⟨"ClauseDraftsModel", "weights", "(IZ)I"⟩, 50) := ⟨⟨by decide +kernel, by decide +kernel⟩, List.mem_of_getElem? (i := 1156) (by decide +kernel), List.mem_of_getElem? (i := 1526) (by decide +kernel), List.mem_of_getElem? (i := 1527) (by decide +kernel)⟩
theorem lw_p72 : lw_okq (⟨"ClauseDraftsModel", "isChange", "(I)Z"⟩, 50) := ⟨⟨by decide +kernel, by decide +kernel⟩, List.mem_of_getElem? (i := 1156) (by decide +kernel), List.mem_of_getElem? (i := 1538) (by decide +kernel), List.mem_of_getElem? (i := 1539) (by decide +kernel)⟩
theorem lw_p73 : lw_okq (⟨"ClauseDraftsModel", "showsAll", "(I)V"⟩, 50) := ⟨⟨by decide +kernel, by decide +kernel⟩, List.mem_of_getElem? (i := 1156) (by decide +kernel), List.mem_of_getElem? (i := 1556) (by decide +kernel), List.mem_of_getElem? (i := 1557) (by decide +kernel)⟩
theorem lw_p74 : lw_okq (⟨"ClauseDraftsModel", "showsClauses", "(I)V"⟩, 50) := ⟨⟨by decide +kernel, by decide +kernel⟩, List.mem_of_getElem? (i := 1156) (by decide +kernel), List.mem_of_getElem? (i := 1560) (by decide +kernel), List.mem_of_getElem? (i := 1561) (by decide +kernel)⟩
theorem lw_p75 : lw_okq (⟨"ClauseDraftsModel", "showsClause", "(IIII)V"⟩, 50) := ⟨⟨by decide +kernel, by decide +kernel⟩, List.mem_of_getElem? (i := 1156) (by decide +kernel), List.mem_of_getElem? (i := 1564) (by decide +kernel), List.mem_of_getElem? (i := 1565) (by decide +kernel)⟩
theorem lw_p76 : lw_okq (⟨"ClauseDraftsModel", "changeOf", "(II)I"⟩, 50) := ⟨⟨by decide +kernel, by decide +kernel⟩, List.mem_of_getElem? (i := 1156) (by decide +kernel), List.mem_of_getElem? (i := 1568) (by decide +kernel), List.mem_of_getElem? (i := 1569) (by decide +kernel)⟩
theorem lw_p77 : lw_okq (⟨"ClauseDraftsModel", "isIn", "(II)Z"⟩, 50) := ⟨⟨by decide +kernel, by decide +kernel⟩, List.mem_of_getElem? (i := 1156) (by decide +kernel), List.mem_of_getElem? (i := 1572) (by decide +kernel), List.mem_of_getElem? (i := 1573) (by decide +kernel)⟩
theorem lw_p78 : lw_okq (⟨"ClauseDraftsModel", "showsBranch", "(II)V"⟩, 50) := ⟨⟨by decide +kernel, by decide +kernel⟩, List.mem_of_getElem? (i := 1156) (by decide +kernel), List.mem_of_getElem? (i := 1576) (by decide +kernel), List.mem_of_getElem? (i := 1577) (by decide +kernel)⟩
theorem lw_p79 : lw_okq (⟨"ClauseDraftsModel", "showsPair", "(II)V"⟩, 50) := ⟨⟨by decide +kernel, by decide +kernel⟩, List.mem_of_getElem? (i := 1156) (by decide +kernel), List.mem_of_getElem? (i := 1580) (by decide +kernel), List.mem_of_getElem? (i := 1581) (by decide +kernel)⟩
def lw_privs_5 : List (MethodName × Nat) := [(⟨"ClauseDraftsModel", "faultOfWord", "(I)I"⟩, 50), (⟨"ClauseDraftsModel", "faultOfFigure", "(I)I"⟩, 50), (⟨"ClauseDraftsModel", "isSide", "(I)Z"⟩, 50), (⟨"ClauseDraftsModel", "references", "(IZ)I"⟩, 50), (⟨"ClauseDraftsModel", "isClause", "(II)Z"⟩, 50), (⟨"ClauseDraftsModel", "isWord", "(III)Z"⟩, 50), (⟨"ClauseDraftsModel", "wordCosts", "()I"⟩, 50), (⟨"ClauseDraftsModel", "weights", "(IZ)I"⟩, 50), (⟨"ClauseDraftsModel", "isChange", "(I)Z"⟩, 50), (⟨"ClauseDraftsModel", "showsAll", "(I)V"⟩, 50), (⟨"ClauseDraftsModel", "showsClauses", "(I)V"⟩, 50), (⟨"ClauseDraftsModel", "showsClause", "(IIII)V"⟩, 50), (⟨"ClauseDraftsModel", "changeOf", "(II)I"⟩, 50), (⟨"ClauseDraftsModel", "isIn", "(II)Z"⟩, 50), (⟨"ClauseDraftsModel", "showsBranch", "(II)V"⟩, 50), (⟨"ClauseDraftsModel", "showsPair", "(II)V"⟩, 50)]
theorem lw_r5 : ∀ q ∈ lw_privs_5, lw_okq q := List.forall_mem_cons.mpr ⟨lw_p64, List.forall_mem_cons.mpr ⟨lw_p65, List.forall_mem_cons.mpr ⟨lw_p66, List.forall_mem_cons.mpr ⟨lw_p67, List.forall_mem_cons.mpr ⟨lw_p68, List.forall_mem_cons.mpr ⟨lw_p69, List.forall_mem_cons.mpr ⟨lw_p70, List.forall_mem_cons.mpr ⟨lw_p71, List.forall_mem_cons.mpr ⟨lw_p72, List.forall_mem_cons.mpr ⟨lw_p73, List.forall_mem_cons.mpr ⟨lw_p74, List.forall_mem_cons.mpr ⟨lw_p75, List.forall_mem_cons.mpr ⟨lw_p76, List.forall_mem_cons.mpr ⟨lw_p77, List.forall_mem_cons.mpr ⟨lw_p78, List.forall_mem_cons.mpr ⟨lw_p79, fun _ h => absurd h List.not_mem_nil⟩⟩⟩⟩⟩⟩⟩⟩⟩⟩⟩⟩⟩⟩⟩⟩
theorem lw_p80 : lw_okq (⟨"ClauseDraftsModel", "changeAt", "(IIII)I"⟩, 50) := ⟨⟨by decide +kernel, by decide +kernel⟩, List.mem_of_getElem? (i := 1156) (by decide +kernel), List.mem_of_getElem? (i := 1584) (by decide +kernel), List.mem_of_getElem? (i := 1585) (by decide +kernel)⟩
theorem lw_p81 : lw_okq (⟨"ClauseDraftsModel", "showsSome", "(IIIII)V"⟩, 50) := ⟨⟨by decide +kernel, by decide +kernel⟩, List.mem_of_getElem? (i := 1156) (by decide +kernel), List.mem_of_getElem? (i := 1588) (by decide +kernel), List.mem_of_getElem? (i := 1589) (by decide +kernel)⟩
theorem lw_p82 : lw_okq (⟨"ClauseDraftsModel", "showsWord", "(III)V"⟩, 50) := ⟨⟨by decide +kernel, by decide +kernel⟩, List.mem_of_getElem? (i := 1156) (by decide +kernel), List.mem_of_getElem? (i := 1592) (by decide +kernel), List.mem_of_getElem? (i := 1593) (by decide +kernel)⟩
theorem lw_p83 : lw_okq (⟨"ClauseDraftsModel", "findIn", "(II)I"⟩, 50) := ⟨⟨by decide +kernel, by decide +kernel⟩, List.mem_of_getElem? (i := 1156) (by decide +kernel), List.mem_of_getElem? (i := 1596) (by decide +kernel), List.mem_of_getElem? (i := 1597) (by decide +kernel)⟩
theorem lw_p84 : lw_okq (⟨"ClauseDraftsModel", "summed", "(I)I"⟩, 50) := ⟨⟨by decide +kernel, by decide +kernel⟩, List.mem_of_getElem? (i := 1156) (by decide +kernel), List.mem_of_getElem? (i := 1600) (by decide +kernel), List.mem_of_getElem? (i := 1601) (by decide +kernel)⟩
theorem lw_p85 : lw_okq (⟨"ClauseDraftsModel", "isTooMuch", "()Z"⟩, 50) := ⟨⟨by decide +kernel, by decide +kernel⟩, List.mem_of_getElem? (i := 1156) (by decide +kernel), List.mem_of_getElem? (i := 1620) (by decide +kernel), List.mem_of_getElem? (i := 1621) (by decide +kernel)⟩
theorem lw_p86 : lw_okq (⟨"ClauseDraftsModel", "drafts", "()V"⟩, 50) := ⟨⟨by decide +kernel, by decide +kernel⟩, List.mem_of_getElem? (i := 1156) (by decide +kernel), List.mem_of_getElem? (i := 1655) (by decide +kernel), List.mem_of_getElem? (i := 1656) (by decide +kernel)⟩
theorem lw_p87 : lw_okq (⟨"ClauseDraftsModel", "takes", "(IIIII)V"⟩, 50) := ⟨⟨by decide +kernel, by decide +kernel⟩, List.mem_of_getElem? (i := 1156) (by decide +kernel), List.mem_of_getElem? (i := 1659) (by decide +kernel), List.mem_of_getElem? (i := 1660) (by decide +kernel)⟩
theorem lw_p88 : lw_okq (⟨"ClauseDraftsModel", "chosen", "(I)I"⟩, 50) := ⟨⟨by decide +kernel, by decide +kernel⟩, List.mem_of_getElem? (i := 1156) (by decide +kernel), List.mem_of_getElem? (i := 1703) (by decide +kernel), List.mem_of_getElem? (i := 1704) (by decide +kernel)⟩
theorem lw_p89 : lw_okq (⟨"ClauseDraftsModel", "pairs", "()I"⟩, 50) := ⟨⟨by decide +kernel, by decide +kernel⟩, List.mem_of_getElem? (i := 1156) (by decide +kernel), List.mem_of_getElem? (i := 1707) (by decide +kernel), List.mem_of_getElem? (i := 1708) (by decide +kernel)⟩
theorem lw_p90 : lw_okq (⟨"ClauseDraftsModel", "ofKind", "(I)I"⟩, 50) := ⟨⟨by decide +kernel, by decide +kernel⟩, List.mem_of_getElem? (i := 1156) (by decide +kernel), List.mem_of_getElem? (i := 1711) (by decide +kernel), List.mem_of_getElem? (i := 1712) (by decide +kernel)⟩
theorem lw_p91 : lw_okq (⟨"ClauseDraftsModel", "renumbered", "()I"⟩, 50) := ⟨⟨by decide +kernel, by decide +kernel⟩, List.mem_of_getElem? (i := 1156) (by decide +kernel), List.mem_of_getElem? (i := 1715) (by decide +kernel), List.mem_of_getElem? (i := 1716) (by decide +kernel)⟩
def lw_privs_6 : List (MethodName × Nat) := [(⟨"ClauseDraftsModel", "changeAt", "(IIII)I"⟩, 50), (⟨"ClauseDraftsModel", "showsSome", "(IIIII)V"⟩, 50), (⟨"ClauseDraftsModel", "showsWord", "(III)V"⟩, 50), (⟨"ClauseDraftsModel", "findIn", "(II)I"⟩, 50), (⟨"ClauseDraftsModel", "summed", "(I)I"⟩, 50), (⟨"ClauseDraftsModel", "isTooMuch", "()Z"⟩, 50), (⟨"ClauseDraftsModel", "drafts", "()V"⟩, 50), (⟨"ClauseDraftsModel", "takes", "(IIIII)V"⟩, 50), (⟨"ClauseDraftsModel", "chosen", "(I)I"⟩, 50), (⟨"ClauseDraftsModel", "pairs", "()I"⟩, 50), (⟨"ClauseDraftsModel", "ofKind", "(I)I"⟩, 50), (⟨"ClauseDraftsModel", "renumbered", "()I"⟩, 50)]
theorem lw_r6 : ∀ q ∈ lw_privs_6, lw_okq q := List.forall_mem_cons.mpr ⟨lw_p80, List.forall_mem_cons.mpr ⟨lw_p81, List.forall_mem_cons.mpr ⟨lw_p82, List.forall_mem_cons.mpr ⟨lw_p83, List.forall_mem_cons.mpr ⟨lw_p84, List.forall_mem_cons.mpr ⟨lw_p85, List.forall_mem_cons.mpr ⟨lw_p86, List.forall_mem_cons.mpr ⟨lw_p87, List.forall_mem_cons.mpr ⟨lw_p88, List.forall_mem_cons.mpr ⟨lw_p89, List.forall_mem_cons.mpr ⟨lw_p90, List.forall_mem_cons.mpr ⟨lw_p91, fun _ h => absurd h List.not_mem_nil⟩⟩⟩⟩⟩⟩⟩⟩⟩⟩⟩⟩
def lw_privs : List (MethodName × Nat) := lw_privs_1 ++ (lw_privs_2 ++ (lw_privs_3 ++ (lw_privs_4 ++ (lw_privs_5 ++ (lw_privs_6)))))
def lw_tbl : List Cond := k2_sels lw_privs ++ tables_1
theorem lw_privs_ok : ∀ q ∈ lw_privs, lw_okq q := by
  show ∀ q ∈ lw_privs_1 ++ (lw_privs_2 ++ (lw_privs_3 ++ (lw_privs_4 ++ (lw_privs_5 ++ (lw_privs_6))))), lw_okq q
  exact List.forall_mem_append.mpr ⟨lw_r1, List.forall_mem_append.mpr ⟨lw_r2, List.forall_mem_append.mpr ⟨lw_r3, List.forall_mem_append.mpr ⟨lw_r4, List.forall_mem_append.mpr ⟨lw_r5, lw_r6⟩⟩⟩⟩⟩
end
section
/-! ===== BEGIN words of one list among another's, by their places ===== -/
theorem goodIn_r {big : List Cond} (ws : List Cond) (ps : List Nat) (hp : ws = ps.filterMap (fun i => big[i]?)) (h : ws.all goodWord = true) : GoodIn big ws := by
  intro w hw
  have h1 := List.all_eq_true.mp h w hw
  rw [hp] at hw
  obtain ⟨i, -, hi⟩ := List.mem_filterMap.mp hw
  have hm : w ∈ big := by first | exact List.mem_of_getElem? hi | exact List.getElem?_mem hi
  exact ⟨hm, good_of_word h1⟩
theorem goodIn_app {big a b : List Cond} (ha : GoodIn big a) (hb : GoodIn big b) : GoodIn big (a ++ b) := fun w h => (List.mem_append.mp h).elim (ha w) (hb w)
theorem goodIn_ca {big a b : List Cond} {c : Cond} (ha : GoodIn big (c :: a)) (hb : GoodIn big b) : GoodIn big (c :: (a ++ b)) := fun w h => (List.mem_cons.mp h).elim (fun e => ha w (List.mem_cons.mpr (Or.inl e))) (fun h => (List.mem_append.mp h).elim (fun h => ha w (List.mem_cons.mpr (Or.inr h))) (hb w))
theorem goodIn_sub {big ws : List Cond} (hm : ∀ w ∈ ws, w ∈ big) (h : ws.all goodWord = true) : GoodIn big ws := fun w hw => ⟨hm w hw, good_of_word (List.all_eq_true.mp h w hw)⟩
/-! ===== END ===== -/

/-! ===== BEGIN printed: names, fields, word lists, decode rows ===== -/
def RX0 : String := "ClauseDrafts$Changes"
def TX0 : u_T := fun k => match k with
  | 0 => ("ClauseDrafts$Changes", "rows", "LClauseDrafts$Table;", true)
  | 1 => ("ClauseDrafts$Changes", "firsts", "LClauseDrafts$Table;", true)
  | 2 => ("ClauseDrafts$Changes", "size", "I", false)
  | _ => ("ClauseDrafts$Changes", "renumbered", "I", false)
def tyX0 : Nat → FieldType := fun k => match k with
  | 0 => .object "ClauseDrafts$Table"
  | 1 => .object "ClauseDrafts$Table"
  | 2 => .int
  | _ => .int
abbrev wsX00 : List Cond := u_ws RX0 TX0 4
theorem nmX0 : ∀ a, a < 4 → ∀ b, b < 4 → a ≠ b → (TX0 a).2.1 ≠ (TX0 b).2.1 := by decide +kernel
theorem tyX0_ok : ∀ k, k < 4 → parseFieldDescriptor (TX0 k).2.2.1 = some (tyX0 k) := by decide +kernel
abbrev cX0_init : ByteArray := prog_2_method_1_code
def yX0_init : MethodName := ⟨RX0, "<init>", "()V"⟩
abbrev cX0_size : ByteArray := prog_2_method_2_code
def yX0_size : MethodName := ⟨RX0, "size", "()I"⟩
abbrev cX0_renumbered : ByteArray := prog_2_method_3_code
def yX0_renumbered : MethodName := ⟨RX0, "renumbered", "()I"⟩
abbrev cX0_property : ByteArray := prog_2_method_4_code
def yX0_property : MethodName := ⟨RX0, "property", "(II)I"⟩
abbrev cX0_choiceOf : ByteArray := prog_2_method_5_code
def yX0_choiceOf : MethodName := ⟨RX0, "choiceOf", "(I)I"⟩
abbrev cX0_setChoice : ByteArray := prog_2_method_6_code
def yX0_setChoice : MethodName := ⟨RX0, "setChoice", "(II)V"⟩
abbrev cX0_firstOf : ByteArray := prog_2_method_7_code
def yX0_firstOf : MethodName := ⟨RX0, "firstOf", "(II)I"⟩
abbrev cX0_isInPair : ByteArray := prog_2_method_8_code
def yX0_isInPair : MethodName := ⟨RX0, "isInPair", "(II)Z"⟩
abbrev cX0_oldBegin : ByteArray := prog_2_method_9_code
def yX0_oldBegin : MethodName := ⟨RX0, "oldBegin", "(I)I"⟩
abbrev cX0_oldEnd : ByteArray := prog_2_method_10_code
def yX0_oldEnd : MethodName := ⟨RX0, "oldEnd", "(I)I"⟩
abbrev cX0_newBegin : ByteArray := prog_2_method_11_code
def yX0_newBegin : MethodName := ⟨RX0, "newBegin", "(I)I"⟩
abbrev cX0_newEnd : ByteArray := prog_2_method_12_code
def yX0_newEnd : MethodName := ⟨RX0, "newEnd", "(I)I"⟩
abbrev cX0_countOf : ByteArray := prog_2_method_13_code
def yX0_countOf : MethodName := ⟨RX0, "countOf", "(II)I"⟩
abbrev cX0_reopen : ByteArray := prog_2_method_14_code
def yX0_reopen : MethodName := ⟨RX0, "reopen", "()I"⟩
abbrev cX0_closeOpen : ByteArray := prog_2_method_15_code
def yX0_closeOpen : MethodName := ⟨RX0, "closeOpen", "(I)I"⟩
abbrev cX0_collect : ByteArray := prog_2_method_16_code
def yX0_collect : MethodName := ⟨RX0, "collect", "(LClauseDrafts$Drafts;LClauseDrafts$Pairing;)V"⟩
abbrev cX0_collectRemoved : ByteArray := prog_2_method_17_code
def yX0_collectRemoved : MethodName := ⟨RX0, "collectRemoved", "(LClauseDrafts$Pairing;I)V"⟩
abbrev cX0_collectPair : ByteArray := prog_2_method_18_code
def yX0_collectPair : MethodName := ⟨RX0, "collectPair", "(LClauseDrafts$Drafts;LClauseDrafts$Pairing;II)V"⟩
abbrev cX0_appendStretch : ByteArray := prog_2_method_19_code
def yX0_appendStretch : MethodName := ⟨RX0, "appendStretch", "(IIIIII)V"⟩
abbrev cX0_collectKept : ByteArray := prog_2_method_20_code
def yX0_collectKept : MethodName := ⟨RX0, "collectKept", "(LClauseDrafts$Drafts;LClauseDrafts$Pairing;IIII)V"⟩
abbrev cX0_append : ByteArray := prog_2_method_21_code
def yX0_append : MethodName := ⟨RX0, "append", "(III)V"⟩
abbrev cX0_noteWords : ByteArray := prog_2_method_22_code
def yX0_noteWords : MethodName := ⟨RX0, "noteWords", "(IIII)V"⟩
def RX1 : String := "ClauseDrafts$Costs"
def TX1 : u_T := fun k => match k with
  | 0 => ("ClauseDrafts$Costs", "words", "LClauseDrafts$Table;", true)
  | 1 => ("ClauseDrafts$Costs", "pairs", "LClauseDrafts$Table;", true)
  | 2 => ("ClauseDrafts$Costs", "rows", "LClauseDrafts$Table;", true)
  | 3 => ("ClauseDrafts$Costs", "weights", "LClauseDrafts$Table;", true)
  | _ => ("ClauseDrafts$Costs", "nexts", "LClauseDrafts$Table;", true)
def tyX1 : Nat → FieldType := fun k => match k with
  | 0 => .object "ClauseDrafts$Table"
  | 1 => .object "ClauseDrafts$Table"
  | 2 => .object "ClauseDrafts$Table"
  | 3 => .object "ClauseDrafts$Table"
  | _ => .object "ClauseDrafts$Table"
abbrev wsX10 : List Cond := u_ws RX1 TX1 5
theorem nmX1 : ∀ a, a < 5 → ∀ b, b < 5 → a ≠ b → (TX1 a).2.1 ≠ (TX1 b).2.1 := by decide +kernel
theorem tyX1_ok : ∀ k, k < 5 → parseFieldDescriptor (TX1 k).2.2.1 = some (tyX1 k) := by decide +kernel
abbrev cX1_init : ByteArray := prog_3_method_1_code
def yX1_init : MethodName := ⟨RX1, "<init>", "()V"⟩
abbrev cX1_weightOf : ByteArray := prog_3_method_2_code
def yX1_weightOf : MethodName := ⟨RX1, "weightOf", "(II)I"⟩
abbrev cX1_ofPair : ByteArray := prog_3_method_3_code
def yX1_ofPair : MethodName := ⟨RX1, "ofPair", "(II)I"⟩
abbrev cX1_ofRows : ByteArray := prog_3_method_4_code
def yX1_ofRows : MethodName := ⟨RX1, "ofRows", "(II)I"⟩
abbrev cX1_ofWords : ByteArray := prog_3_method_5_code
def yX1_ofWords : MethodName := ⟨RX1, "ofWords", "(II)I"⟩
abbrev cX1_byPair : ByteArray := prog_3_method_6_code
def yX1_byPair : MethodName := ⟨RX1, "byPair", "(II)I"⟩
abbrev cX1_byRemoval : ByteArray := prog_3_method_7_code
def yX1_byRemoval : MethodName := ⟨RX1, "byRemoval", "(II)I"⟩
abbrev cX1_byAddition : ByteArray := prog_3_method_8_code
def yX1_byAddition : MethodName := ⟨RX1, "byAddition", "(II)I"⟩
abbrev cX1_measure : ByteArray := prog_3_method_9_code
def yX1_measure : MethodName := ⟨RX1, "measure", "(LClauseDrafts$Drafts;)V"⟩
abbrev cX1_noteClauses : ByteArray := prog_3_method_10_code
def yX1_noteClauses : MethodName := ⟨RX1, "noteClauses", "(LClauseDrafts$Drafts;I)V"⟩
abbrev cX1_alignWords : ByteArray := prog_3_method_11_code
def yX1_alignWords : MethodName := ⟨RX1, "alignWords", "(LClauseDrafts$Draft;ILClauseDrafts$Draft;I)V"⟩
def RX2 : String := "ClauseDrafts$Draft"
def TX2 : u_T := fun k => match k with
  | 0 => ("ClauseDrafts$Draft", "depths", "LClauseDrafts$Line;", true)
  | 1 => ("ClauseDrafts$Draft", "lengths", "LClauseDrafts$Line;", true)
  | 2 => ("ClauseDrafts$Draft", "codes", "LClauseDrafts$Table;", true)
  | _ => ("ClauseDrafts$Draft", "size", "I", false)
def tyX2 : Nat → FieldType := fun k => match k with
  | 0 => .object "ClauseDrafts$Line"
  | 1 => .object "ClauseDrafts$Line"
  | 2 => .object "ClauseDrafts$Table"
  | _ => .int
abbrev wsX20 : List Cond := u_ws RX2 TX2 4
theorem nmX2 : ∀ a, a < 4 → ∀ b, b < 4 → a ≠ b → (TX2 a).2.1 ≠ (TX2 b).2.1 := by decide +kernel
theorem tyX2_ok : ∀ k, k < 4 → parseFieldDescriptor (TX2 k).2.2.1 = some (tyX2 k) := by decide +kernel
abbrev cX2_init : ByteArray := prog_4_method_1_code
def yX2_init : MethodName := ⟨RX2, "<init>", "()V"⟩
abbrev cX2_size : ByteArray := prog_4_method_2_code
def yX2_size : MethodName := ⟨RX2, "size", "()I"⟩
abbrev cX2_has : ByteArray := prog_4_method_3_code
def yX2_has : MethodName := ⟨RX2, "has", "(I)Z"⟩
abbrev cX2_hasWord : ByteArray := prog_4_method_4_code
def yX2_hasWord : MethodName := ⟨RX2, "hasWord", "(II)Z"⟩
abbrev cX2_depthOf : ByteArray := prog_4_method_5_code
def yX2_depthOf : MethodName := ⟨RX2, "depthOf", "(I)I"⟩
abbrev cX2_lengthOf : ByteArray := prog_4_method_6_code
def yX2_lengthOf : MethodName := ⟨RX2, "lengthOf", "(I)I"⟩
abbrev cX2_codeOf : ByteArray := prog_4_method_7_code
def yX2_codeOf : MethodName := ⟨RX2, "codeOf", "(II)I"⟩
abbrev cX2_setCode : ByteArray := prog_4_method_8_code
def yX2_setCode : MethodName := ⟨RX2, "setCode", "(III)V"⟩
abbrev cX2_copyAll : ByteArray := prog_4_method_9_code
def yX2_copyAll : MethodName := ⟨RX2, "copyAll", "(LClauseDrafts$Draft;)V"⟩
abbrev cX2_removeAll : ByteArray := prog_4_method_10_code
def yX2_removeAll : MethodName := ⟨RX2, "removeAll", "()V"⟩
abbrev cX2_allowsDepth : ByteArray := prog_4_method_11_code
def yX2_allowsDepth : MethodName := ⟨RX2, "allowsDepth", "(I)Z"⟩
abbrev cX2_appendClause : ByteArray := prog_4_method_12_code
def yX2_appendClause : MethodName := ⟨RX2, "appendClause", "(I)V"⟩
abbrev cX2_insertWord : ByteArray := prog_4_method_13_code
def yX2_insertWord : MethodName := ⟨RX2, "insertWord", "(III)V"⟩
abbrev cX2_appendWord : ByteArray := prog_4_method_14_code
def yX2_appendWord : MethodName := ⟨RX2, "appendWord", "(II)V"⟩
abbrev cX2_removeWord : ByteArray := prog_4_method_15_code
def yX2_removeWord : MethodName := ⟨RX2, "removeWord", "(II)V"⟩
abbrev cX2_removeWords : ByteArray := prog_4_method_16_code
def yX2_removeWords : MethodName := ⟨RX2, "removeWords", "(I)V"⟩
abbrev cX2_branchSize : ByteArray := prog_4_method_17_code
def yX2_branchSize : MethodName := ⟨RX2, "branchSize", "(I)I"⟩
abbrev cX2_parentOf : ByteArray := prog_4_method_18_code
def yX2_parentOf : MethodName := ⟨RX2, "parentOf", "(I)I"⟩
abbrev cX2_firstRoot : ByteArray := prog_4_method_19_code
def yX2_firstRoot : MethodName := ⟨RX2, "firstRoot", "()I"⟩
abbrev cX2_nextInRow : ByteArray := prog_4_method_20_code
def yX2_nextInRow : MethodName := ⟨RX2, "nextInRow", "(I)I"⟩
abbrev cX2_firstChild : ByteArray := prog_4_method_21_code
def yX2_firstChild : MethodName := ⟨RX2, "firstChild", "(I)I"⟩
abbrev cX2_atDepth : ByteArray := prog_4_method_22_code
def yX2_atDepth : MethodName := ⟨RX2, "atDepth", "(II)I"⟩
abbrev cX2_wordsFrom : ByteArray := prog_4_method_23_code
def yX2_wordsFrom : MethodName := ⟨RX2, "wordsFrom", "(II)I"⟩
abbrev cX2_targetOf : ByteArray := prog_4_method_24_code
def yX2_targetOf : MethodName := ⟨RX2, "targetOf", "(II)I"⟩
abbrev cX2_references : ByteArray := prog_4_method_25_code
def yX2_references : MethodName := ⟨RX2, "references", "()I"⟩
abbrev cX2_danglingReferences : ByteArray := prog_4_method_26_code
def yX2_danglingReferences : MethodName := ⟨RX2, "danglingReferences", "()I"⟩
abbrev cX2_removeBranch : ByteArray := prog_4_method_27_code
def yX2_removeBranch : MethodName := ⟨RX2, "removeBranch", "(I)V"⟩
abbrev cX2_exchangeBranches : ByteArray := prog_4_method_28_code
def yX2_exchangeBranches : MethodName := ⟨RX2, "exchangeBranches", "(IILClauseDrafts$Draft;)V"⟩
abbrev cX2_copyClause : ByteArray := prog_4_method_29_code
def yX2_copyClause : MethodName := ⟨RX2, "copyClause", "(LClauseDrafts$Draft;II)V"⟩
def RX3 : String := "ClauseDrafts$Drafts"
def TX3 : u_T := fun k => match k with
  | 0 => ("ClauseDrafts$Drafts", "before", "LClauseDrafts$Draft;", false)
  | 1 => ("ClauseDrafts$Drafts", "after", "LClauseDrafts$Draft;", false)
  | _ => ("ClauseDrafts$Drafts", "headWeight", "I", false)
def tyX3 : Nat → FieldType := fun k => match k with
  | 0 => .object "ClauseDrafts$Draft"
  | 1 => .object "ClauseDrafts$Draft"
  | _ => .int
abbrev wsX30 : List Cond := u_ws RX3 TX3 3
theorem nmX3 : ∀ a, a < 3 → ∀ b, b < 3 → a ≠ b → (TX3 a).2.1 ≠ (TX3 b).2.1 := by decide +kernel
theorem tyX3_ok : ∀ k, k < 3 → parseFieldDescriptor (TX3 k).2.2.1 = some (tyX3 k) := by decide +kernel
abbrev cX3_init : ByteArray := prog_5_method_1_code
def yX3_init : MethodName := ⟨RX3, "<init>", "()V"⟩
abbrev cX3_of : ByteArray := prog_5_method_2_code
def yX3_of : MethodName := ⟨RX3, "of", "(I)LClauseDrafts$Draft;"⟩
abbrev cX3_headWeight : ByteArray := prog_5_method_3_code
def yX3_headWeight : MethodName := ⟨RX3, "headWeight", "()I"⟩
abbrev cX3_setHeadWeight : ByteArray := prog_5_method_4_code
def yX3_setHeadWeight : MethodName := ⟨RX3, "setHeadWeight", "(I)V"⟩
abbrev cX3_copyTexts : ByteArray := prog_5_method_5_code
def yX3_copyTexts : MethodName := ⟨RX3, "copyTexts", "(LClauseDrafts$Drafts;)V"⟩
abbrev cX3_removeTexts : ByteArray := prog_5_method_6_code
def yX3_removeTexts : MethodName := ⟨RX3, "removeTexts", "()V"⟩
abbrev cX3_turnAround : ByteArray := prog_5_method_7_code
def yX3_turnAround : MethodName := ⟨RX3, "turnAround", "()V"⟩
abbrev cX3_weightOf : ByteArray := prog_5_method_8_code
def yX3_weightOf : MethodName := ⟨RX3, "weightOf", "(III)I"⟩
def RX4 : String := "ClauseDrafts$Image"
def TX4 : u_T := fun k => match k with
  | 0 => ("ClauseDrafts$Image", "copy", "LClauseDrafts$Drafts;", true)
  | 1 => ("ClauseDrafts$Image", "choices", "LClauseDrafts$Line;", true)
  | _ => ("ClauseDrafts$Image", "filled", "Z", false)
def tyX4 : Nat → FieldType := fun k => match k with
  | 0 => .object "ClauseDrafts$Drafts"
  | 1 => .object "ClauseDrafts$Line"
  | _ => .boolean
abbrev wsX40 : List Cond := u_ws RX4 TX4 3
theorem nmX4 : ∀ a, a < 3 → ∀ b, b < 3 → a ≠ b → (TX4 a).2.1 ≠ (TX4 b).2.1 := by decide +kernel
theorem tyX4_ok : ∀ k, k < 3 → parseFieldDescriptor (TX4 k).2.2.1 = some (tyX4 k) := by decide +kernel
abbrev cX4_init : ByteArray := prog_6_method_1_code
def yX4_init : MethodName := ⟨RX4, "<init>", "()V"⟩
abbrev cX4_isFilled : ByteArray := prog_6_method_2_code
def yX4_isFilled : MethodName := ⟨RX4, "isFilled", "()Z"⟩
abbrev cX4_makeEmpty : ByteArray := prog_6_method_3_code
def yX4_makeEmpty : MethodName := ⟨RX4, "makeEmpty", "()V"⟩
abbrev cX4_take : ByteArray := prog_6_method_4_code
def yX4_take : MethodName := ⟨RX4, "take", "(LClauseDrafts$Drafts;LClauseDrafts$Changes;)V"⟩
abbrev cX4_restoreDrafts : ByteArray := prog_6_method_5_code
def yX4_restoreDrafts : MethodName := ⟨RX4, "restoreDrafts", "(LClauseDrafts$Drafts;)V"⟩
abbrev cX4_restoreChoices : ByteArray := prog_6_method_6_code
def yX4_restoreChoices : MethodName := ⟨RX4, "restoreChoices", "(LClauseDrafts$Changes;)V"⟩
def RX5 : String := "ClauseDrafts$Line"
def TX5 : u_T := fun k => match k with
  | _ => ("ClauseDrafts$Line", "cells", "[I", true)
def tyX5 : Nat → FieldType := fun k => match k with
  | _ => .array .int
abbrev wsX50 : List Cond := u_ws RX5 TX5 1
theorem nmX5 : ∀ a, a < 1 → ∀ b, b < 1 → a ≠ b → (TX5 a).2.1 ≠ (TX5 b).2.1 := by decide +kernel
theorem tyX5_ok : ∀ k, k < 1 → parseFieldDescriptor (TX5 k).2.2.1 = some (tyX5 k) := by decide +kernel
abbrev cX5_init : ByteArray := prog_7_method_1_code
def yX5_init : MethodName := ⟨RX5, "<init>", "(I)V"⟩
abbrev cX5_get : ByteArray := prog_7_method_2_code
def yX5_get : MethodName := ⟨RX5, "get", "(I)I"⟩
abbrev cX5_set : ByteArray := prog_7_method_3_code
def yX5_set : MethodName := ⟨RX5, "set", "(II)V"⟩
abbrev cX5_copy : ByteArray := prog_7_method_4_code
def yX5_copy : MethodName := ⟨RX5, "copy", "(LClauseDrafts$Line;)V"⟩
def RX6 : String := "ClauseDrafts$Pairing"
def TX6 : u_T := fun k => match k with
  | 0 => ("ClauseDrafts$Pairing", "steps", "LClauseDrafts$Table;", true)
  | 1 => ("ClauseDrafts$Pairing", "same", "LClauseDrafts$Table;", true)
  | 2 => ("ClauseDrafts$Pairing", "fates", "LClauseDrafts$Table;", true)
  | 3 => ("ClauseDrafts$Pairing", "oldKept", "LClauseDrafts$Table;", true)
  | 4 => ("ClauseDrafts$Pairing", "newKept", "LClauseDrafts$Table;", true)
  | 5 => ("ClauseDrafts$Pairing", "size", "I", false)
  | 6 => ("ClauseDrafts$Pairing", "pairs", "I", false)
  | 7 => ("ClauseDrafts$Pairing", "wordCosts", "I", false)
  | 8 => ("ClauseDrafts$Pairing", "removedWeight", "I", false)
  | 9 => ("ClauseDrafts$Pairing", "addedWeight", "I", false)
  | _ => ("ClauseDrafts$Pairing", "movedWeight", "I", false)
def tyX6 : Nat → FieldType := fun k => match k with
  | 0 => .object "ClauseDrafts$Table"
  | 1 => .object "ClauseDrafts$Table"
  | 2 => .object "ClauseDrafts$Table"
  | 3 => .object "ClauseDrafts$Table"
  | 4 => .object "ClauseDrafts$Table"
  | 5 => .int
  | 6 => .int
  | 7 => .int
  | 8 => .int
  | 9 => .int
  | _ => .int
abbrev wsX60 : List Cond := u_ws RX6 TX6 11
theorem nmX6 : ∀ a, a < 11 → ∀ b, b < 11 → a ≠ b → (TX6 a).2.1 ≠ (TX6 b).2.1 := by decide +kernel
theorem tyX6_ok : ∀ k, k < 11 → parseFieldDescriptor (TX6 k).2.2.1 = some (tyX6 k) := by decide +kernel
abbrev cX6_init : ByteArray := prog_8_method_1_code
def yX6_init : MethodName := ⟨RX6, "<init>", "()V"⟩
abbrev cX6_size : ByteArray := prog_8_method_2_code
def yX6_size : MethodName := ⟨RX6, "size", "()I"⟩
abbrev cX6_kindOf : ByteArray := prog_8_method_3_code
def yX6_kindOf : MethodName := ⟨RX6, "kindOf", "(I)I"⟩
abbrev cX6_clauseOf : ByteArray := prog_8_method_4_code
def yX6_clauseOf : MethodName := ⟨RX6, "clauseOf", "(II)I"⟩
abbrev cX6_sameAs : ByteArray := prog_8_method_5_code
def yX6_sameAs : MethodName := ⟨RX6, "sameAs", "(II)I"⟩
abbrev cX6_fateOf : ByteArray := prog_8_method_6_code
def yX6_fateOf : MethodName := ⟨RX6, "fateOf", "(II)I"⟩
abbrev cX6_keptWith : ByteArray := prog_8_method_7_code
def yX6_keptWith : MethodName := ⟨RX6, "keptWith", "(III)I"⟩
abbrev cX6_pairs : ByteArray := prog_8_method_8_code
def yX6_pairs : MethodName := ⟨RX6, "pairs", "()I"⟩
abbrev cX6_wordCosts : ByteArray := prog_8_method_9_code
def yX6_wordCosts : MethodName := ⟨RX6, "wordCosts", "()I"⟩
abbrev cX6_removedWeight : ByteArray := prog_8_method_10_code
def yX6_removedWeight : MethodName := ⟨RX6, "removedWeight", "()I"⟩
abbrev cX6_addedWeight : ByteArray := prog_8_method_11_code
def yX6_addedWeight : MethodName := ⟨RX6, "addedWeight", "()I"⟩
abbrev cX6_movedWeight : ByteArray := prog_8_method_12_code
def yX6_movedWeight : MethodName := ⟨RX6, "movedWeight", "()I"⟩
abbrev cX6_pairUp : ByteArray := prog_8_method_13_code
def yX6_pairUp : MethodName := ⟨RX6, "pairUp", "(LClauseDrafts$Drafts;LClauseDrafts$Costs;)V"⟩
abbrev cX6_forgetAll : ByteArray := prog_8_method_14_code
def yX6_forgetAll : MethodName := ⟨RX6, "forgetAll", "()V"⟩
abbrev cX6_walkRows : ByteArray := prog_8_method_15_code
def yX6_walkRows : MethodName := ⟨RX6, "walkRows", "(LClauseDrafts$Drafts;LClauseDrafts$Costs;)V"⟩
abbrev cX6_isPair : ByteArray := prog_8_method_16_code
def yX6_isPair : MethodName := ⟨RX6, "isPair", "(LClauseDrafts$Costs;II)Z"⟩
abbrev cX6_appendStep : ByteArray := prog_8_method_17_code
def yX6_appendStep : MethodName := ⟨RX6, "appendStep", "(III)V"⟩
abbrev cX6_noteStep : ByteArray := prog_8_method_18_code
def yX6_noteStep : MethodName := ⟨RX6, "noteStep", "(LClauseDrafts$Drafts;LClauseDrafts$Costs;I)V"⟩
abbrev cX6_keepWords : ByteArray := prog_8_method_19_code
def yX6_keepWords : MethodName := ⟨RX6, "keepWords", "(LClauseDrafts$Drafts;LClauseDrafts$Costs;II)V"⟩
abbrev cX6_lookForMove : ByteArray := prog_8_method_20_code
def yX6_lookForMove : MethodName := ⟨RX6, "lookForMove", "(LClauseDrafts$Drafts;LClauseDrafts$Costs;I)V"⟩
abbrev cX6_noteMove : ByteArray := prog_8_method_21_code
def yX6_noteMove : MethodName := ⟨RX6, "noteMove", "(III)V"⟩
abbrev cX6_areLike : ByteArray := prog_8_method_22_code
def yX6_areLike : MethodName := ⟨RX6, "areLike", "(LClauseDrafts$Drafts;II)Z"⟩
abbrev cX6_haveLikeWords : ByteArray := prog_8_method_23_code
def yX6_haveLikeWords : MethodName := ⟨RX6, "haveLikeWords", "(LClauseDrafts$Draft;ILClauseDrafts$Draft;I)Z"⟩
def RX7 : String := "ClauseDrafts$Sheets"
def TX7 : u_T := fun k => match k with
  | 0 => ("ClauseDrafts$Sheets", "present", "LClauseDrafts$Line;", true)
  | 1 => ("ClauseDrafts$Sheets", "lanes", "LClauseDrafts$Line;", true)
  | 2 => ("ClauseDrafts$Sheets", "sizes", "LClauseDrafts$Line;", true)
  | _ => ("ClauseDrafts$Sheets", "elements", "LClauseDrafts$Table;", true)
def tyX7 : Nat → FieldType := fun k => match k with
  | 0 => .object "ClauseDrafts$Line"
  | 1 => .object "ClauseDrafts$Line"
  | 2 => .object "ClauseDrafts$Line"
  | _ => .object "ClauseDrafts$Table"
abbrev wsX70 : List Cond := u_ws RX7 TX7 4
theorem nmX7 : ∀ a, a < 4 → ∀ b, b < 4 → a ≠ b → (TX7 a).2.1 ≠ (TX7 b).2.1 := by decide +kernel
theorem tyX7_ok : ∀ k, k < 4 → parseFieldDescriptor (TX7 k).2.2.1 = some (tyX7 k) := by decide +kernel
abbrev cX7_init : ByteArray := prog_9_method_1_code
def yX7_init : MethodName := ⟨RX7, "<init>", "()V"⟩
abbrev cX7_isNumber : ByteArray := prog_9_method_2_code
def yX7_isNumber : MethodName := ⟨RX7, "isNumber", "(I)Z"⟩
abbrev cX7_isLane : ByteArray := prog_9_method_3_code
def yX7_isLane : MethodName := ⟨RX7, "isLane", "(I)Z"⟩
abbrev cX7_isMissing : ByteArray := prog_9_method_4_code
def yX7_isMissing : MethodName := ⟨RX7, "isMissing", "(I)Z"⟩
abbrev cX7_laneOf : ByteArray := prog_9_method_5_code
def yX7_laneOf : MethodName := ⟨RX7, "laneOf", "(I)I"⟩
abbrev cX7_sizeOf : ByteArray := prog_9_method_6_code
def yX7_sizeOf : MethodName := ⟨RX7, "sizeOf", "(I)I"⟩
abbrev cX7_elementOf : ByteArray := prog_9_method_7_code
def yX7_elementOf : MethodName := ⟨RX7, "elementOf", "(II)I"⟩
abbrev cX7_create : ByteArray := prog_9_method_8_code
def yX7_create : MethodName := ⟨RX7, "create", "(III)V"⟩
abbrev cX7_setElement : ByteArray := prog_9_method_9_code
def yX7_setElement : MethodName := ⟨RX7, "setElement", "(III)V"⟩
def RX8 : String := "ClauseDrafts$Table"
def TX8 : u_T := fun k => match k with
  | 0 => ("ClauseDrafts$Table", "rows", "I", true)
  | 1 => ("ClauseDrafts$Table", "columns", "I", true)
  | _ => ("ClauseDrafts$Table", "cells", "[I", true)
def tyX8 : Nat → FieldType := fun k => match k with
  | 0 => .int
  | 1 => .int
  | _ => .array .int
abbrev wsX80 : List Cond := u_ws RX8 TX8 3
theorem nmX8 : ∀ a, a < 3 → ∀ b, b < 3 → a ≠ b → (TX8 a).2.1 ≠ (TX8 b).2.1 := by decide +kernel
theorem tyX8_ok : ∀ k, k < 3 → parseFieldDescriptor (TX8 k).2.2.1 = some (tyX8 k) := by decide +kernel
abbrev cX8_init : ByteArray := prog_10_method_1_code
def yX8_init : MethodName := ⟨RX8, "<init>", "(II)V"⟩
abbrev cX8_get : ByteArray := prog_10_method_2_code
def yX8_get : MethodName := ⟨RX8, "get", "(II)I"⟩
abbrev cX8_set : ByteArray := prog_10_method_3_code
def yX8_set : MethodName := ⟨RX8, "set", "(III)V"⟩
abbrev cX8_fill : ByteArray := prog_10_method_4_code
def yX8_fill : MethodName := ⟨RX8, "fill", "(I)V"⟩
abbrev cX8_copy : ByteArray := prog_10_method_5_code
def yX8_copy : MethodName := ⟨RX8, "copy", "(LClauseDrafts$Table;)V"⟩
def RX9 : String := "ClauseDrafts$Tape"
def TX9 : u_T := fun k => match k with
  | 0 => ("ClauseDrafts$Tape", "bytes", "LClauseDrafts$Line;", true)
  | 1 => ("ClauseDrafts$Tape", "result", "LClauseDrafts$Drafts;", true)
  | 2 => ("ClauseDrafts$Tape", "length", "I", false)
  | 3 => ("ClauseDrafts$Tape", "awaited", "I", false)
  | 4 => ("ClauseDrafts$Tape", "side", "I", false)
  | 5 => ("ClauseDrafts$Tape", "faultKind", "I", false)
  | _ => ("ClauseDrafts$Tape", "faultPlace", "I", false)
def tyX9 : Nat → FieldType := fun k => match k with
  | 0 => .object "ClauseDrafts$Line"
  | 1 => .object "ClauseDrafts$Drafts"
  | 2 => .int
  | 3 => .int
  | 4 => .int
  | 5 => .int
  | _ => .int
abbrev wsX90 : List Cond := u_ws RX9 TX9 7
theorem nmX9 : ∀ a, a < 7 → ∀ b, b < 7 → a ≠ b → (TX9 a).2.1 ≠ (TX9 b).2.1 := by decide +kernel
theorem tyX9_ok : ∀ k, k < 7 → parseFieldDescriptor (TX9 k).2.2.1 = some (tyX9 k) := by decide +kernel
abbrev cX9_init : ByteArray := prog_11_method_1_code
def yX9_init : MethodName := ⟨RX9, "<init>", "()V"⟩
abbrev cX9_length : ByteArray := prog_11_method_2_code
def yX9_length : MethodName := ⟨RX9, "length", "()I"⟩
abbrev cX9_faultKind : ByteArray := prog_11_method_3_code
def yX9_faultKind : MethodName := ⟨RX9, "faultKind", "()I"⟩
abbrev cX9_faultPlace : ByteArray := prog_11_method_4_code
def yX9_faultPlace : MethodName := ⟨RX9, "faultPlace", "()I"⟩
abbrev cX9_result : ByteArray := prog_11_method_5_code
def yX9_result : MethodName := ⟨RX9, "result", "()LClauseDrafts$Drafts;"⟩
abbrev cX9_append : ByteArray := prog_11_method_6_code
def yX9_append : MethodName := ⟨RX9, "append", "(I)V"⟩
abbrev cX9_cutTo : ByteArray := prog_11_method_7_code
def yX9_cutTo : MethodName := ⟨RX9, "cutTo", "(I)V"⟩
abbrev cX9_readAll : ByteArray := prog_11_method_8_code
def yX9_readAll : MethodName := ⟨RX9, "readAll", "()V"⟩
abbrev cX9_readSign : ByteArray := prog_11_method_9_code
def yX9_readSign : MethodName := ⟨RX9, "readSign", "(I)V"⟩
abbrev cX9_faultOf : ByteArray := prog_11_method_10_code
def yX9_faultOf : MethodName := ⟨RX9, "faultOf", "(I)I"⟩
abbrev cX9_mayStand : ByteArray := prog_11_method_11_code
def yX9_mayStand : MethodName := ⟨RX9, "mayStand", "(I)Z"⟩
abbrev cX9_takeSign : ByteArray := prog_11_method_12_code
def yX9_takeSign : MethodName := ⟨RX9, "takeSign", "(I)V"⟩
abbrev cX9_isLetter : ByteArray := prog_11_method_13_code
def yX9_isLetter : MethodName := ⟨RX9, "isLetter", "(I)Z"⟩
abbrev cX9_isDigit : ByteArray := prog_11_method_14_code
def yX9_isDigit : MethodName := ⟨RX9, "isDigit", "(I)Z"⟩
def RX10 : String := "ClauseDrafts$View"
def TX10 : u_T := fun k => match k with
  | 0 => ("ClauseDrafts$View", "acceptsOpen", "Z", true)
  | 1 => ("ClauseDrafts$View", "depths", "LClauseDrafts$Line;", true)
  | 2 => ("ClauseDrafts$View", "lengths", "LClauseDrafts$Line;", true)
  | 3 => ("ClauseDrafts$View", "sides", "LClauseDrafts$Line;", true)
  | 4 => ("ClauseDrafts$View", "codes", "LClauseDrafts$Table;", true)
  | 5 => ("ClauseDrafts$View", "origins", "LClauseDrafts$Table;", true)
  | 6 => ("ClauseDrafts$View", "places", "LClauseDrafts$Table;", true)
  | _ => ("ClauseDrafts$View", "size", "I", false)
def tyX10 : Nat → FieldType := fun k => match k with
  | 0 => .boolean
  | 1 => .object "ClauseDrafts$Line"
  | 2 => .object "ClauseDrafts$Line"
  | 3 => .object "ClauseDrafts$Line"
  | 4 => .object "ClauseDrafts$Table"
  | 5 => .object "ClauseDrafts$Table"
  | 6 => .object "ClauseDrafts$Table"
  | _ => .int
abbrev wsX100 : List Cond := u_ws RX10 TX10 8
theorem nmX10 : ∀ a, a < 8 → ∀ b, b < 8 → a ≠ b → (TX10 a).2.1 ≠ (TX10 b).2.1 := by decide +kernel
theorem tyX10_ok : ∀ k, k < 8 → parseFieldDescriptor (TX10 k).2.2.1 = some (tyX10 k) := by decide +kernel
abbrev cX10_init : ByteArray := prog_12_method_1_code
def yX10_init : MethodName := ⟨RX10, "<init>", "(Z)V"⟩
abbrev cX10_size : ByteArray := prog_12_method_2_code
def yX10_size : MethodName := ⟨RX10, "size", "()I"⟩
abbrev cX10_depthOf : ByteArray := prog_12_method_3_code
def yX10_depthOf : MethodName := ⟨RX10, "depthOf", "(I)I"⟩
abbrev cX10_lengthOf : ByteArray := prog_12_method_4_code
def yX10_lengthOf : MethodName := ⟨RX10, "lengthOf", "(I)I"⟩
abbrev cX10_codeOf : ByteArray := prog_12_method_5_code
def yX10_codeOf : MethodName := ⟨RX10, "codeOf", "(II)I"⟩
abbrev cX10_originOf : ByteArray := prog_12_method_6_code
def yX10_originOf : MethodName := ⟨RX10, "originOf", "(II)I"⟩
abbrev cX10_placeOf : ByteArray := prog_12_method_7_code
def yX10_placeOf : MethodName := ⟨RX10, "placeOf", "(II)I"⟩
abbrev cX10_wordCount : ByteArray := prog_12_method_8_code
def yX10_wordCount : MethodName := ⟨RX10, "wordCount", "()I"⟩
abbrev cX10_lostCount : ByteArray := prog_12_method_9_code
def yX10_lostCount : MethodName := ⟨RX10, "lostCount", "()I"⟩
abbrev cX10_depthSum : ByteArray := prog_12_method_10_code
def yX10_depthSum : MethodName := ⟨RX10, "depthSum", "()I"⟩
abbrev cX10_longest : ByteArray := prog_12_method_11_code
def yX10_longest : MethodName := ⟨RX10, "longest", "()I"⟩
abbrev cX10_copyInto : ByteArray := prog_12_method_12_code
def yX10_copyInto : MethodName := ⟨RX10, "copyInto", "(LClauseDrafts$Draft;)V"⟩
abbrev cX10_build : ByteArray := prog_12_method_13_code
def yX10_build : MethodName := ⟨RX10, "build", "(LClauseDrafts$Drafts;LClauseDrafts$Pairing;LClauseDrafts$Changes;)V"⟩
abbrev cX10_listStep : ByteArray := prog_12_method_14_code
def yX10_listStep : MethodName := ⟨RX10, "listStep", "(LClauseDrafts$Drafts;LClauseDrafts$Pairing;LClauseDrafts$Changes;I)V"⟩
abbrev cX10_accepts : ByteArray := prog_12_method_15_code
def yX10_accepts : MethodName := ⟨RX10, "accepts", "(LClauseDrafts$Changes;I)Z"⟩
abbrev cX10_listClause : ByteArray := prog_12_method_16_code
def yX10_listClause : MethodName := ⟨RX10, "listClause", "(LClauseDrafts$Drafts;LClauseDrafts$Pairing;II)V"⟩
abbrev cX10_showPair : ByteArray := prog_12_method_17_code
def yX10_showPair : MethodName := ⟨RX10, "showPair", "(LClauseDrafts$Drafts;LClauseDrafts$Changes;III)V"⟩
abbrev cX10_showWords : ByteArray := prog_12_method_18_code
def yX10_showWords : MethodName := ⟨RX10, "showWords", "(LClauseDrafts$Drafts;IIIII)V"⟩
abbrev cX10_shownReference : ByteArray := prog_12_method_19_code
def yX10_shownReference : MethodName := ⟨RX10, "shownReference", "(LClauseDrafts$Draft;II)I"⟩
def RX11 : String := "ClauseDrafts"
def TX11 : u_T := fun k => match k with
  | 0 => ("ClauseDrafts", "tape", "LClauseDrafts$Tape;", true)
  | 1 => ("ClauseDrafts", "drafts", "LClauseDrafts$Drafts;", true)
  | 2 => ("ClauseDrafts", "spare", "LClauseDrafts$Draft;", true)
  | 3 => ("ClauseDrafts", "costs", "LClauseDrafts$Costs;", true)
  | 4 => ("ClauseDrafts", "pairing", "LClauseDrafts$Pairing;", true)
  | 5 => ("ClauseDrafts", "changes", "LClauseDrafts$Changes;", true)
  | 6 => ("ClauseDrafts", "refusing", "LClauseDrafts$View;", true)
  | 7 => ("ClauseDrafts", "accepting", "LClauseDrafts$View;", true)
  | 8 => ("ClauseDrafts", "firstImage", "LClauseDrafts$Image;", true)
  | 9 => ("ClauseDrafts", "secondImage", "LClauseDrafts$Image;", true)
  | _ => ("ClauseDrafts", "sheets", "LClauseDrafts$Sheets;", true)
def tyX11 : Nat → FieldType := fun k => match k with
  | 0 => .object "ClauseDrafts$Tape"
  | 1 => .object "ClauseDrafts$Drafts"
  | 2 => .object "ClauseDrafts$Draft"
  | 3 => .object "ClauseDrafts$Costs"
  | 4 => .object "ClauseDrafts$Pairing"
  | 5 => .object "ClauseDrafts$Changes"
  | 6 => .object "ClauseDrafts$View"
  | 7 => .object "ClauseDrafts$View"
  | 8 => .object "ClauseDrafts$Image"
  | 9 => .object "ClauseDrafts$Image"
  | _ => .object "ClauseDrafts$Sheets"
abbrev wsX110 : List Cond := u_ws RX11 TX11 11
theorem nmX11 : ∀ a, a < 11 → ∀ b, b < 11 → a ≠ b → (TX11 a).2.1 ≠ (TX11 b).2.1 := by decide +kernel
theorem tyX11_ok : ∀ k, k < 11 → parseFieldDescriptor (TX11 k).2.2.1 = some (tyX11 k) := by decide +kernel
abbrev cX11_init : ByteArray := prog_1_method_1_code
def yX11_init : MethodName := ⟨RX11, "<init>", "()V"⟩
abbrev cX11_feed : ByteArray := prog_1_method_2_code
def yX11_feed : MethodName := ⟨RX11, "feed", "(I)I"⟩
abbrev cX11_end : ByteArray := prog_1_method_3_code
def yX11_end : MethodName := ⟨RX11, "end", "(I)I"⟩
abbrev cX11_text : ByteArray := prog_1_method_4_code
def yX11_text : MethodName := ⟨RX11, "text", "()I"⟩
abbrev cX11_fault : ByteArray := prog_1_method_5_code
def yX11_fault : MethodName := ⟨RX11, "fault", "()I"⟩
abbrev cX11_draft : ByteArray := prog_1_method_6_code
def yX11_draft : MethodName := ⟨RX11, "draft", "(II)I"⟩
abbrev cX11_clause : ByteArray := prog_1_method_7_code
def yX11_clause : MethodName := ⟨RX11, "clause", "(III)I"⟩
abbrev cX11_word : ByteArray := prog_1_method_8_code
def yX11_word : MethodName := ⟨RX11, "word", "(III)I"⟩
abbrev cX11_kept : ByteArray := prog_1_method_9_code
def yX11_kept : MethodName := ⟨RX11, "kept", "(III)I"⟩
abbrev cX11_leads : ByteArray := prog_1_method_10_code
def yX11_leads : MethodName := ⟨RX11, "leads", "(III)I"⟩
abbrev cX11_cost : ByteArray := prog_1_method_11_code
def yX11_cost : MethodName := ⟨RX11, "cost", "(I)I"⟩
abbrev cX11_between : ByteArray := prog_1_method_12_code
def yX11_between : MethodName := ⟨RX11, "between", "(II)I"⟩
abbrev cX11_change : ByteArray := prog_1_method_13_code
def yX11_change : MethodName := ⟨RX11, "change", "(II)I"⟩
abbrev cX11_choose : ByteArray := prog_1_method_14_code
def yX11_choose : MethodName := ⟨RX11, "choose", "(II)I"⟩
abbrev cX11_decide : ByteArray := prog_1_method_15_code
def yX11_decide : MethodName := ⟨RX11, "decide", "(I)I"⟩
abbrev cX11_shown : ByteArray := prog_1_method_16_code
def yX11_shown : MethodName := ⟨RX11, "shown", "(II)I"⟩
abbrev cX11_shownClause : ByteArray := prog_1_method_17_code
def yX11_shownClause : MethodName := ⟨RX11, "shownClause", "(III)I"⟩
abbrev cX11_shownWord : ByteArray := prog_1_method_18_code
def yX11_shownWord : MethodName := ⟨RX11, "shownWord", "(III)I"⟩
abbrev cX11_find : ByteArray := prog_1_method_19_code
def yX11_find : MethodName := ⟨RX11, "find", "(III)I"⟩
abbrev cX11_settle : ByteArray := prog_1_method_20_code
def yX11_settle : MethodName := ⟨RX11, "settle", "()I"⟩
abbrev cX11_head : ByteArray := prog_1_method_21_code
def yX11_head : MethodName := ⟨RX11, "head", "(I)I"⟩
abbrev cX11_write : ByteArray := prog_1_method_22_code
def yX11_write : MethodName := ⟨RX11, "write", "(IIII)I"⟩
abbrev cX11_insert : ByteArray := prog_1_method_23_code
def yX11_insert : MethodName := ⟨RX11, "insert", "(IIII)I"⟩
abbrev cX11_erase : ByteArray := prog_1_method_24_code
def yX11_erase : MethodName := ⟨RX11, "erase", "(III)I"⟩
abbrev cX11_add : ByteArray := prog_1_method_25_code
def yX11_add : MethodName := ⟨RX11, "add", "(II)I"⟩
abbrev cX11_strike : ByteArray := prog_1_method_26_code
def yX11_strike : MethodName := ⟨RX11, "strike", "(II)I"⟩
abbrev cX11_swap : ByteArray := prog_1_method_27_code
def yX11_swap : MethodName := ⟨RX11, "swap", "(II)I"⟩
abbrev cX11_exchange : ByteArray := prog_1_method_28_code
def yX11_exchange : MethodName := ⟨RX11, "exchange", "()I"⟩
abbrev cX11_keep : ByteArray := prog_1_method_29_code
def yX11_keep : MethodName := ⟨RX11, "keep", "(I)I"⟩
abbrev cX11_back : ByteArray := prog_1_method_30_code
def yX11_back : MethodName := ⟨RX11, "back", "(I)I"⟩
abbrev cX11_sheet : ByteArray := prog_1_method_31_code
def yX11_sheet : MethodName := ⟨RX11, "sheet", "(III)I"⟩
abbrev cX11_lay : ByteArray := prog_1_method_32_code
def yX11_lay : MethodName := ⟨RX11, "lay", "(III)I"⟩
abbrev cX11_paste : ByteArray := prog_1_method_33_code
def yX11_paste : MethodName := ⟨RX11, "paste", "(IIIII)I"⟩
abbrev cX11_count : ByteArray := prog_1_method_34_code
def yX11_count : MethodName := ⟨RX11, "count", "(I)I"⟩
abbrev cX11_within : ByteArray := prog_1_method_35_code
def yX11_within : MethodName := ⟨RX11, "within", "(III)Z"⟩
abbrev cX11_isSide : ByteArray := prog_1_method_36_code
def yX11_isSide : MethodName := ⟨RX11, "isSide", "(I)Z"⟩
abbrev cX11_isReference : ByteArray := prog_1_method_37_code
def yX11_isReference : MethodName := ⟨RX11, "isReference", "(I)Z"⟩
abbrev cX11_isCode : ByteArray := prog_1_method_38_code
def yX11_isCode : MethodName := ⟨RX11, "isCode", "(I)Z"⟩
abbrev cX11_areAlike : ByteArray := prog_1_method_39_code
def yX11_areAlike : MethodName := ⟨RX11, "areAlike", "(II)Z"⟩
abbrev cX11_isClause : ByteArray := prog_1_method_40_code
def yX11_isClause : MethodName := ⟨RX11, "isClause", "(II)Z"⟩
abbrev cX11_isWord : ByteArray := prog_1_method_41_code
def yX11_isWord : MethodName := ⟨RX11, "isWord", "(III)Z"⟩
abbrev cX11_isChange : ByteArray := prog_1_method_42_code
def yX11_isChange : MethodName := ⟨RX11, "isChange", "(I)Z"⟩
abbrev cX11_viewOf : ByteArray := prog_1_method_43_code
def yX11_viewOf : MethodName := ⟨RX11, "viewOf", "(I)LClauseDrafts$View;"⟩
abbrev cX11_imageOf : ByteArray := prog_1_method_44_code
def yX11_imageOf : MethodName := ⟨RX11, "imageOf", "(I)LClauseDrafts$Image;"⟩
abbrev cX11_rootCost : ByteArray := prog_1_method_45_code
def yX11_rootCost : MethodName := ⟨RX11, "rootCost", "()I"⟩
abbrev cX11_compareAgain : ByteArray := prog_1_method_46_code
def yX11_compareAgain : MethodName := ⟨RX11, "compareAgain", "()V"⟩
abbrev cX11_showAgain : ByteArray := prog_1_method_47_code
def yX11_showAgain : MethodName := ⟨RX11, "showAgain", "()V"⟩
abbrev cX11_findingOfPaste : ByteArray := prog_1_method_48_code
def yX11_findingOfPaste : MethodName := ⟨RX11, "findingOfPaste", "(IIII)I"⟩
def RX12 : String := "ClauseDraftsModel"
def TX12 : u_T := fun k => match k with
  | 0 => ("ClauseDraftsModel", "page", "[I", true)
  | 1 => ("ClauseDraftsModel", "draft", "[I", true)
  | 2 => ("ClauseDraftsModel", "kept", "[I", true)
  | 3 => ("ClauseDraftsModel", "keptHow", "[I", true)
  | 4 => ("ClauseDraftsModel", "isKept", "[Z", true)
  | 5 => ("ClauseDraftsModel", "tape", "[I", true)
  | 6 => ("ClauseDraftsModel", "taped", "I", false)
  | 7 => ("ClauseDraftsModel", "fault", "I", false)
  | 8 => ("ClauseDraftsModel", "brokenAt", "I", false)
  | 9 => ("ClauseDraftsModel", "awaits", "I", false)
  | 10 => ("ClauseDraftsModel", "side", "I", false)
  | 11 => ("ClauseDraftsModel", "costs", "[I", true)
  | 12 => ("ClauseDraftsModel", "rest", "[I", true)
  | 13 => ("ClauseDraftsModel", "rowOld", "[I", true)
  | 14 => ("ClauseDraftsModel", "rowNew", "[I", true)
  | 15 => ("ClauseDraftsModel", "oldMany", "I", false)
  | 16 => ("ClauseDraftsModel", "newMany", "I", false)
  | 17 => ("ClauseDraftsModel", "left", "[I", true)
  | 18 => ("ClauseDraftsModel", "sorts", "[I", true)
  | 19 => ("ClauseDraftsModel", "olds", "[I", true)
  | 20 => ("ClauseDraftsModel", "news", "[I", true)
  | 21 => ("ClauseDraftsModel", "whole", "I", false)
  | 22 => ("ClauseDraftsModel", "cost", "I", false)
  | 23 => ("ClauseDraftsModel", "partner", "[I", true)
  | 24 => ("ClauseDraftsModel", "status", "[I", true)
  | 25 => ("ClauseDraftsModel", "keeps", "[I", true)
  | 26 => ("ClauseDraftsModel", "pileOld", "[I", true)
  | 27 => ("ClauseDraftsModel", "pileNew", "[I", true)
  | 28 => ("ClauseDraftsModel", "pileI", "[I", true)
  | 29 => ("ClauseDraftsModel", "pileJ", "[I", true)
  | 30 => ("ClauseDraftsModel", "piled", "I", false)
  | 31 => ("ClauseDraftsModel", "kinds", "[I", true)
  | 32 => ("ClauseDraftsModel", "hows", "[I", true)
  | 33 => ("ClauseDraftsModel", "changeOld", "[I", true)
  | 34 => ("ClauseDraftsModel", "changeNew", "[I", true)
  | 35 => ("ClauseDraftsModel", "aheadOld", "[I", true)
  | 36 => ("ClauseDraftsModel", "goes", "[I", true)
  | 37 => ("ClauseDraftsModel", "aheadNew", "[I", true)
  | 38 => ("ClauseDraftsModel", "come", "[I", true)
  | 39 => ("ClauseDraftsModel", "changes", "I", false)
  | 40 => ("ClauseDraftsModel", "shownOld", "[I", true)
  | 41 => ("ClauseDraftsModel", "shownNew", "[I", true)
  | 42 => ("ClauseDraftsModel", "shownDepth", "[I", true)
  | 43 => ("ClauseDraftsModel", "shownLength", "[I", true)
  | 44 => ("ClauseDraftsModel", "shownSort", "[I", true)
  | 45 => ("ClauseDraftsModel", "shownWords", "[I", true)
  | 46 => ("ClauseDraftsModel", "shows", "I", false)
  | 47 => ("ClauseDraftsModel", "lanes", "[I", true)
  | 48 => ("ClauseDraftsModel", "sizes", "[I", true)
  | _ => ("ClauseDraftsModel", "cells", "[I", true)
def tyX12 : Nat → FieldType := fun k => match k with
  | 0 => .array .int
  | 1 => .array .int
  | 2 => .array .int
  | 3 => .array .int
  | 4 => .array .boolean
  | 5 => .array .int
  | 6 => .int
  | 7 => .int
  | 8 => .int
  | 9 => .int
  | 10 => .int
  | 11 => .array .int
  | 12 => .array .int
  | 13 => .array .int
  | 14 => .array .int
  | 15 => .int
  | 16 => .int
  | 17 => .array .int
  | 18 => .array .int
  | 19 => .array .int
  | 20 => .array .int
  | 21 => .int
  | 22 => .int
  | 23 => .array .int
  | 24 => .array .int
  | 25 => .array .int
  | 26 => .array .int
  | 27 => .array .int
  | 28 => .array .int
  | 29 => .array .int
  | 30 => .int
  | 31 => .array .int
  | 32 => .array .int
  | 33 => .array .int
  | 34 => .array .int
  | 35 => .array .int
  | 36 => .array .int
  | 37 => .array .int
  | 38 => .array .int
  | 39 => .int
  | 40 => .array .int
  | 41 => .array .int
  | 42 => .array .int
  | 43 => .array .int
  | 44 => .array .int
  | 45 => .array .int
  | 46 => .int
  | 47 => .array .int
  | 48 => .array .int
  | _ => .array .int
abbrev wsX120 : List Cond := u_ws RX12 TX12 50
theorem nmX12 : ∀ a, a < 50 → ∀ b, b < 50 → a ≠ b → (TX12 a).2.1 ≠ (TX12 b).2.1 := by decide +kernel
theorem tyX12_ok : ∀ k, k < 50 → parseFieldDescriptor (TX12 k).2.2.1 = some (tyX12 k) := by decide +kernel
abbrev cX12_init : ByteArray := prog_14_method_1_code
def yX12_init : MethodName := ⟨RX12, "<init>", "()V"⟩
abbrev cX12_in : ByteArray := prog_14_method_3_code
def yX12_in : MethodName := ⟨RX12, "in", "(JJJ)Z"⟩
abbrev cX12_feed : ByteArray := prog_14_method_4_code
def yX12_feed : MethodName := ⟨RX12, "feed", "(I)I"⟩
abbrev cX12_end : ByteArray := prog_14_method_5_code
def yX12_end : MethodName := ⟨RX12, "end", "(I)I"⟩
abbrev cX12_isToken : ByteArray := prog_14_method_6_code
def yX12_isToken : MethodName := ⟨RX12, "isToken", "(I)Z"⟩
abbrev cX12_faultOfClause : ByteArray := prog_14_method_7_code
def yX12_faultOfClause : MethodName := ⟨RX12, "faultOfClause", "(I)I"⟩
abbrev cX12_deeper : ByteArray := prog_14_method_8_code
def yX12_deeper : MethodName := ⟨RX12, "deeper", "(I)I"⟩
abbrev cX12_faultOfWord : ByteArray := prog_14_method_9_code
def yX12_faultOfWord : MethodName := ⟨RX12, "faultOfWord", "(I)I"⟩
abbrev cX12_faultOfFigure : ByteArray := prog_14_method_10_code
def yX12_faultOfFigure : MethodName := ⟨RX12, "faultOfFigure", "(I)I"⟩
abbrev cX12_faultOf : ByteArray := prog_14_method_11_code
def yX12_faultOf : MethodName := ⟨RX12, "faultOf", "(I)I"⟩
abbrev cX12_text : ByteArray := prog_14_method_12_code
def yX12_text : MethodName := ⟨RX12, "text", "()I"⟩
abbrev cX12_fault : ByteArray := prog_14_method_13_code
def yX12_fault : MethodName := ⟨RX12, "fault", "()I"⟩
abbrev cX12_isSide : ByteArray := prog_14_method_14_code
def yX12_isSide : MethodName := ⟨RX12, "isSide", "(I)Z"⟩
abbrev cX12_isClause : ByteArray := prog_14_method_15_code
def yX12_isClause : MethodName := ⟨RX12, "isClause", "(II)Z"⟩
abbrev cX12_isWord : ByteArray := prog_14_method_16_code
def yX12_isWord : MethodName := ⟨RX12, "isWord", "(III)Z"⟩
abbrev cX12_depthOf : ByteArray := prog_14_method_17_code
def yX12_depthOf : MethodName := ⟨RX12, "depthOf", "(II)I"⟩
abbrev cX12_lengthOf : ByteArray := prog_14_method_18_code
def yX12_lengthOf : MethodName := ⟨RX12, "lengthOf", "(II)I"⟩
abbrev cX12_wordOf : ByteArray := prog_14_method_19_code
def yX12_wordOf : MethodName := ⟨RX12, "wordOf", "(III)I"⟩
abbrev cX12_isReference : ByteArray := prog_14_method_20_code
def yX12_isReference : MethodName := ⟨RX12, "isReference", "(I)Z"⟩
abbrev cX12_endOf : ByteArray := prog_14_method_21_code
def yX12_endOf : MethodName := ⟨RX12, "endOf", "(II)I"⟩
abbrev cX12_above : ByteArray := prog_14_method_22_code
def yX12_above : MethodName := ⟨RX12, "above", "(II)I"⟩
abbrev cX12_wordsFrom : ByteArray := prog_14_method_23_code
def yX12_wordsFrom : MethodName := ⟨RX12, "wordsFrom", "(III)I"⟩
abbrev cX12_weightOf : ByteArray := prog_14_method_24_code
def yX12_weightOf : MethodName := ⟨RX12, "weightOf", "(II)I"⟩
abbrev cX12_isAlike : ByteArray := prog_14_method_25_code
def yX12_isAlike : MethodName := ⟨RX12, "isAlike", "(II)Z"⟩
abbrev cX12_lesser : ByteArray := prog_14_method_26_code
def yX12_lesser : MethodName := ⟨RX12, "lesser", "(II)I"⟩
abbrev cX12_leaves : ByteArray := prog_14_method_27_code
def yX12_leaves : MethodName := ⟨RX12, "leaves", "(II)I"⟩
abbrev cX12_isUnder : ByteArray := prog_14_method_28_code
def yX12_isUnder : MethodName := ⟨RX12, "isUnder", "(III)Z"⟩
abbrev cX12_rows : ByteArray := prog_14_method_29_code
def yX12_rows : MethodName := ⟨RX12, "rows", "(II)I"⟩
abbrev cX12_least : ByteArray := prog_14_method_30_code
def yX12_least : MethodName := ⟨RX12, "least", "(II)I"⟩
abbrev cX12_measures : ByteArray := prog_14_method_31_code
def yX12_measures : MethodName := ⟨RX12, "measures", "()V"⟩
abbrev cX12_piles : ByteArray := prog_14_method_32_code
def yX12_piles : MethodName := ⟨RX12, "piles", "(II)V"⟩
abbrev cX12_comes : ByteArray := prog_14_method_33_code
def yX12_comes : MethodName := ⟨RX12, "comes", "(III)V"⟩
abbrev cX12_steps : ByteArray := prog_14_method_34_code
def yX12_steps : MethodName := ⟨RX12, "steps", "()V"⟩
abbrev cX12_keepsWords : ByteArray := prog_14_method_35_code
def yX12_keepsWords : MethodName := ⟨RX12, "keepsWords", "(II)V"⟩
abbrev cX12_areLike : ByteArray := prog_14_method_36_code
def yX12_areLike : MethodName := ⟨RX12, "areLike", "(II)Z"⟩
abbrev cX12_marks : ByteArray := prog_14_method_37_code
def yX12_marks : MethodName := ⟨RX12, "marks", "(II)V"⟩
abbrev cX12_moves : ByteArray := prog_14_method_38_code
def yX12_moves : MethodName := ⟨RX12, "moves", "()V"⟩
abbrev cX12_statuses : ByteArray := prog_14_method_39_code
def yX12_statuses : MethodName := ⟨RX12, "statuses", "()V"⟩
abbrev cX12_changed : ByteArray := prog_14_method_40_code
def yX12_changed : MethodName := ⟨RX12, "changed", "(III)V"⟩
abbrev cX12_changedWords : ByteArray := prog_14_method_41_code
def yX12_changedWords : MethodName := ⟨RX12, "changedWords", "(IIIIIII)V"⟩
abbrev cX12_target : ByteArray := prog_14_method_42_code
def yX12_target : MethodName := ⟨RX12, "target", "(II)I"⟩
abbrev cX12_isTurn : ByteArray := prog_14_method_43_code
def yX12_isTurn : MethodName := ⟨RX12, "isTurn", "(IIII)Z"⟩
abbrev cX12_loose : ByteArray := prog_14_method_44_code
def yX12_loose : MethodName := ⟨RX12, "loose", "(III)I"⟩
abbrev cX12_changesOfPair : ByteArray := prog_14_method_45_code
def yX12_changesOfPair : MethodName := ⟨RX12, "changesOfPair", "(II)V"⟩
abbrev cX12_lists : ByteArray := prog_14_method_46_code
def yX12_lists : MethodName := ⟨RX12, "lists", "()V"⟩
abbrev cX12_compares : ByteArray := prog_14_method_47_code
def yX12_compares : MethodName := ⟨RX12, "compares", "()V"⟩
abbrev cX12_references : ByteArray := prog_14_method_48_code
def yX12_references : MethodName := ⟨RX12, "references", "(IZ)I"⟩
abbrev cX12_draft : ByteArray := prog_14_method_49_code
def yX12_draft : MethodName := ⟨RX12, "draft", "(II)I"⟩
abbrev cX12_clause : ByteArray := prog_14_method_50_code
def yX12_clause : MethodName := ⟨RX12, "clause", "(III)I"⟩
abbrev cX12_word : ByteArray := prog_14_method_51_code
def yX12_word : MethodName := ⟨RX12, "word", "(III)I"⟩
abbrev cX12_kept : ByteArray := prog_14_method_52_code
def yX12_kept : MethodName := ⟨RX12, "kept", "(III)I"⟩
abbrev cX12_leads : ByteArray := prog_14_method_53_code
def yX12_leads : MethodName := ⟨RX12, "leads", "(III)I"⟩
abbrev cX12_wordCosts : ByteArray := prog_14_method_54_code
def yX12_wordCosts : MethodName := ⟨RX12, "wordCosts", "()I"⟩
abbrev cX12_weights : ByteArray := prog_14_method_55_code
def yX12_weights : MethodName := ⟨RX12, "weights", "(IZ)I"⟩
abbrev cX12_cost : ByteArray := prog_14_method_56_code
def yX12_cost : MethodName := ⟨RX12, "cost", "(I)I"⟩
abbrev cX12_between : ByteArray := prog_14_method_57_code
def yX12_between : MethodName := ⟨RX12, "between", "(II)I"⟩
abbrev cX12_isChange : ByteArray := prog_14_method_58_code
def yX12_isChange : MethodName := ⟨RX12, "isChange", "(I)Z"⟩
abbrev cX12_change : ByteArray := prog_14_method_59_code
def yX12_change : MethodName := ⟨RX12, "change", "(II)I"⟩
abbrev cX12_choose : ByteArray := prog_14_method_60_code
def yX12_choose : MethodName := ⟨RX12, "choose", "(II)I"⟩
abbrev cX12_decide : ByteArray := prog_14_method_61_code
def yX12_decide : MethodName := ⟨RX12, "decide", "(I)I"⟩
abbrev cX12_isIn : ByteArray := prog_14_method_62_code
def yX12_isIn : MethodName := ⟨RX12, "isIn", "(II)Z"⟩
abbrev cX12_changeOf : ByteArray := prog_14_method_63_code
def yX12_changeOf : MethodName := ⟨RX12, "changeOf", "(II)I"⟩
abbrev cX12_showsClause : ByteArray := prog_14_method_64_code
def yX12_showsClause : MethodName := ⟨RX12, "showsClause", "(IIII)V"⟩
abbrev cX12_showsBranch : ByteArray := prog_14_method_65_code
def yX12_showsBranch : MethodName := ⟨RX12, "showsBranch", "(II)V"⟩
abbrev cX12_showsClauses : ByteArray := prog_14_method_66_code
def yX12_showsClauses : MethodName := ⟨RX12, "showsClauses", "(I)V"⟩
abbrev cX12_findIn : ByteArray := prog_14_method_67_code
def yX12_findIn : MethodName := ⟨RX12, "findIn", "(II)I"⟩
abbrev cX12_showsWord : ByteArray := prog_14_method_68_code
def yX12_showsWord : MethodName := ⟨RX12, "showsWord", "(III)V"⟩
abbrev cX12_showsSome : ByteArray := prog_14_method_69_code
def yX12_showsSome : MethodName := ⟨RX12, "showsSome", "(IIIII)V"⟩
abbrev cX12_changeAt : ByteArray := prog_14_method_70_code
def yX12_changeAt : MethodName := ⟨RX12, "changeAt", "(IIII)I"⟩
abbrev cX12_showsPair : ByteArray := prog_14_method_71_code
def yX12_showsPair : MethodName := ⟨RX12, "showsPair", "(II)V"⟩
abbrev cX12_showsAll : ByteArray := prog_14_method_72_code
def yX12_showsAll : MethodName := ⟨RX12, "showsAll", "(I)V"⟩
abbrev cX12_summed : ByteArray := prog_14_method_73_code
def yX12_summed : MethodName := ⟨RX12, "summed", "(I)I"⟩
abbrev cX12_shown : ByteArray := prog_14_method_74_code
def yX12_shown : MethodName := ⟨RX12, "shown", "(II)I"⟩
abbrev cX12_shownClause : ByteArray := prog_14_method_75_code
def yX12_shownClause : MethodName := ⟨RX12, "shownClause", "(III)I"⟩
abbrev cX12_shownWord : ByteArray := prog_14_method_76_code
def yX12_shownWord : MethodName := ⟨RX12, "shownWord", "(III)I"⟩
abbrev cX12_find : ByteArray := prog_14_method_77_code
def yX12_find : MethodName := ⟨RX12, "find", "(III)I"⟩
abbrev cX12_isTooMuch : ByteArray := prog_14_method_78_code
def yX12_isTooMuch : MethodName := ⟨RX12, "isTooMuch", "()Z"⟩
abbrev cX12_settle : ByteArray := prog_14_method_79_code
def yX12_settle : MethodName := ⟨RX12, "settle", "()I"⟩
abbrev cX12_isCode : ByteArray := prog_14_method_80_code
def yX12_isCode : MethodName := ⟨RX12, "isCode", "(I)Z"⟩
abbrev cX12_head : ByteArray := prog_14_method_81_code
def yX12_head : MethodName := ⟨RX12, "head", "(I)I"⟩
abbrev cX12_write : ByteArray := prog_14_method_82_code
def yX12_write : MethodName := ⟨RX12, "write", "(IIII)I"⟩
abbrev cX12_insert : ByteArray := prog_14_method_83_code
def yX12_insert : MethodName := ⟨RX12, "insert", "(IIII)I"⟩
abbrev cX12_erase : ByteArray := prog_14_method_84_code
def yX12_erase : MethodName := ⟨RX12, "erase", "(III)I"⟩
abbrev cX12_add : ByteArray := prog_14_method_85_code
def yX12_add : MethodName := ⟨RX12, "add", "(II)I"⟩
abbrev cX12_takes : ByteArray := prog_14_method_86_code
def yX12_takes : MethodName := ⟨RX12, "takes", "(IIIII)V"⟩
abbrev cX12_drafts : ByteArray := prog_14_method_87_code
def yX12_drafts : MethodName := ⟨RX12, "drafts", "()V"⟩
abbrev cX12_strike : ByteArray := prog_14_method_88_code
def yX12_strike : MethodName := ⟨RX12, "strike", "(II)I"⟩
abbrev cX12_placed : ByteArray := prog_14_method_89_code
def yX12_placed : MethodName := ⟨RX12, "placed", "(IIII)I"⟩
abbrev cX12_swap : ByteArray := prog_14_method_90_code
def yX12_swap : MethodName := ⟨RX12, "swap", "(II)I"⟩
abbrev cX12_exchange : ByteArray := prog_14_method_91_code
def yX12_exchange : MethodName := ⟨RX12, "exchange", "()I"⟩
abbrev cX12_keep : ByteArray := prog_14_method_92_code
def yX12_keep : MethodName := ⟨RX12, "keep", "(I)I"⟩
abbrev cX12_back : ByteArray := prog_14_method_93_code
def yX12_back : MethodName := ⟨RX12, "back", "(I)I"⟩
abbrev cX12_isSheet : ByteArray := prog_14_method_94_code
def yX12_isSheet : MethodName := ⟨RX12, "isSheet", "(II)Z"⟩
abbrev cX12_sheet : ByteArray := prog_14_method_95_code
def yX12_sheet : MethodName := ⟨RX12, "sheet", "(III)I"⟩
abbrev cX12_lay : ByteArray := prog_14_method_96_code
def yX12_lay : MethodName := ⟨RX12, "lay", "(III)I"⟩
abbrev cX12_paste : ByteArray := prog_14_method_97_code
def yX12_paste : MethodName := ⟨RX12, "paste", "(IIIII)I"⟩
abbrev cX12_chosen : ByteArray := prog_14_method_98_code
def yX12_chosen : MethodName := ⟨RX12, "chosen", "(I)I"⟩
abbrev cX12_ofKind : ByteArray := prog_14_method_99_code
def yX12_ofKind : MethodName := ⟨RX12, "ofKind", "(I)I"⟩
abbrev cX12_pairs : ByteArray := prog_14_method_100_code
def yX12_pairs : MethodName := ⟨RX12, "pairs", "()I"⟩
abbrev cX12_renumbered : ByteArray := prog_14_method_101_code
def yX12_renumbered : MethodName := ⟨RX12, "renumbered", "()I"⟩
abbrev cX12_count : ByteArray := prog_14_method_102_code
def yX12_count : MethodName := ⟨RX12, "count", "(I)I"⟩
def RJ9 : String := "java/lang/Math"
def TJ9 : u_T := fun k => match k with
  | _ => ("", "", "", false)
def tyJ9 : Nat → FieldType := fun k => match k with
  | _ => .int
abbrev wsJ90 : List Cond := u_ws RJ9 TJ9 0
theorem nmJ9 : ∀ a, a < 0 → ∀ b, b < 0 → a ≠ b → (TJ9 a).2.1 ≠ (TJ9 b).2.1 := by decide +kernel
theorem tyJ9_ok : ∀ k, k < 0 → parseFieldDescriptor (TJ9 k).2.2.1 = some (tyJ9 k) := by decide +kernel
abbrev cJ9_max_7cf53 : ByteArray := prog_15_method_65_code
def yJ9_max_7cf53 : MethodName := ⟨RJ9, "max", "(II)I"⟩
abbrev cJ9_min_7cf53 : ByteArray := prog_15_method_69_code
def yJ9_min_7cf53 : MethodName := ⟨RJ9, "min", "(II)I"⟩
def RL : String := "ClauseDraftsLaw"
abbrev cL_law : ByteArray := code
def yL_law : MethodName := ⟨RL, "law", "([I)Z"⟩
abbrev vwCl : List vw_C := [(RX0, TX0, 4), (RX1, TX1, 5), (RX2, TX2, 4), (RX3, TX3, 3), (RX4, TX4, 3), (RX5, TX5, 1), (RX6, TX6, 11), (RX7, TX7, 4), (RX8, TX8, 3), (RX9, TX9, 7), (RX10, TX10, 8), (RX11, TX11, 11), (RX12, TX12, 50)]
/-! ===== the tables of the mini machine: methods by number ===== -/
def zy_l_0 : List MethodName := [yX0_init, yX1_init, yX2_init, yX3_init, yX4_init, yX5_init, yX6_init, yX7_init, yX8_init, yX9_init, yX10_init, yX11_init, yX11_within, yL_law]
def zy_l : List MethodName := zy_l_0
def zb_l_0 : List ByteArray := [cX0_init, cX1_init, cX2_init, cX3_init, cX4_init, cX5_init, cX6_init, cX7_init, cX8_init, cX9_init, cX10_init, cX11_init, cX11_within, cL_law]
def zb_l : List ByteArray := zb_l_0
def zn_l_0 : List (Nat × Nat × Nat × Nat × Nat × Nat × Bool) := [(1, 0, 2, 45, 0, 2, false), (1, 1, 2, 45, 0, 2, false), (1, 2, 2, 45, 0, 2, false), (1, 3, 3, 65, 0, 2, false), (1, 4, 4, 85, 0, 2, false), (2, 5, 1, 21, 1, 2, false), (1, 6, 2, 45, 0, 2, false), (1, 7, 2, 45, 0, 2, false), (4, 8, 1, 22, 2, 2, false), (1, 9, 4, 85, 0, 2, false), (2, 10, 2, 45, 1, 2, false), (1, 11, 5, 105, 0, 2, false), (3, 11, 0, 0, 3, 0, false), (4, 13, 10, 406, 1, 0, false)]
def zn_l : List (Nat × Nat × Nat × Nat × Nat × Nat × Bool) := zn_l_0
def zr_l_0 : List (Option FieldType) := [none, none, none, none, none, none, none, none, none, none, none, none, (some .boolean), (some .boolean)]
def zr_l : List (Option FieldType) := zr_l_0
def zcn_l : List String := [RX0, RX1, RX2, RX3, RX4, RX5, RX6, RX7, RX8, RX9, RX10, RX11, RX12, RL]
def zlk_l_0 : List (Nat × Nat × Nat × Nat × Nat) := [(0, 3, 2, 0, 285), (0, 13, 0, 8, 287), (1, 3, 2, 0, 219), (1, 11, 0, 8, 221), (2, 3, 2, 0, 143), (2, 11, 0, 5, 145), (2, 25, 0, 8, 148), (3, 3, 2, 0, 137), (3, 11, 1, 2, 140), (4, 3, 2, 0, 341), (4, 11, 1, 3, 343), (4, 20, 0, 5, 345), (5, 1, 2, 0, 126), (6, 3, 2, 0, 243), (6, 13, 0, 8, 245), (7, 1, 2, 0, 361), (7, 11, 0, 5, 363), (7, 26, 0, 8, 365), (8, 1, 2, 0, 151), (8, 9, 1, 12, 152), (9, 3, 2, 0, 120), (9, 11, 0, 5, 123), (9, 22, 1, 3, 134), (10, 3, 2, 0, 306), (10, 13, 0, 5, 308), (10, 28, 0, 8, 310), (11, 3, 2, 0, 112), (11, 11, 1, 9, 117), (11, 18, 1, 3, 211), (11, 25, 1, 2, 213), (11, 32, 1, 1, 216), (11, 39, 1, 6, 240), (11, 46, 1, 0, 282), (11, 53, 0, 10, 303), (11, 65, 1, 4, 338), (11, 75, 1, 7, 358), (13, 9, 0, 11, 109)]
def zlk_l : List (Nat × Nat × Nat × Nat × Nat) := zlk_l_0
def zft_l : List (List Nat) := [[4, 4, 0, 0], [4, 4, 4, 4, 4], [4, 4, 4, 0], [5, 5, 0], [4, 4, 1], [4], [4, 4, 4, 4, 4, 0, 0, 0, 0, 0, 0], [4, 4, 4, 4], [2, 2, 4], [4, 4, 0, 0, 0, 0, 0], [3, 4, 4, 4, 4, 4, 4, 0], [4, 4, 4, 4, 4, 4, 4, 4, 4, 4, 4], [4, 4, 4, 4, 4, 4, 0, 0, 0, 0, 0, 4, 4, 4, 4, 0, 0, 4, 4, 4, 4, 0, 0, 4, 4, 4, 4, 4, 4, 4, 0, 4, 4, 4, 4, 4, 4, 4, 4, 0, 4, 4, 4, 4, 4, 4, 0, 4, 4, 4]]
def zfd_l_0 : List (Nat × Nat × Nat × Nat × Nat) := [(0, 16, 0, 0, 288), (0, 20, 0, 1, 289), (1, 14, 1, 0, 222), (1, 20, 1, 1, 223), (1, 23, 1, 2, 224), (1, 26, 1, 3, 225), (1, 29, 1, 4, 226), (2, 14, 2, 0, 165), (2, 20, 2, 1, 166), (2, 28, 2, 2, 167), (3, 12, 3, 0, 178), (3, 18, 3, 1, 179), (3, 21, 3, 2, 180), (4, 12, 4, 0, 346), (4, 23, 4, 1, 347), (5, 9, 5, 0, 127), (6, 16, 6, 0, 246), (6, 20, 6, 1, 247), (6, 23, 6, 2, 248), (6, 26, 6, 3, 249), (6, 29, 6, 4, 250), (7, 14, 7, 0, 366), (7, 18, 7, 1, 367), (7, 21, 7, 2, 368), (7, 29, 7, 3, 369), (8, 15, 8, 0, 155), (8, 19, 8, 1, 156), (8, 22, 8, 2, 157), (9, 14, 9, 0, 188), (9, 23, 9, 1, 189), (10, 16, 10, 1, 312), (10, 20, 10, 2, 313), (10, 23, 10, 3, 314), (10, 31, 10, 4, 315), (10, 35, 10, 5, 316), (10, 38, 10, 6, 317), (10, 41, 10, 0, 311), (11, 12, 11, 0, 379), (11, 19, 11, 1, 380), (11, 26, 11, 2, 381), (11, 33, 11, 3, 382), (11, 40, 11, 4, 383), (11, 47, 11, 5, 384), (11, 56, 11, 6, 385), (11, 60, 11, 7, 386), (11, 66, 11, 8, 387), (11, 70, 11, 9, 388), (11, 76, 11, 10, 389)]
def zfd_l : List (Nat × Nat × Nat × Nat × Nat) := zfd_l_0
def znw_l_0 : List (Nat × Nat × Nat × Nat) := [(0, 9, 8, 286), (1, 9, 8, 220), (2, 9, 5, 144), (2, 23, 8, 146), (3, 9, 2, 138), (4, 9, 3, 342), (4, 18, 5, 344), (6, 9, 8, 244), (7, 7, 5, 362), (7, 24, 8, 364), (9, 9, 5, 121), (9, 20, 3, 132), (10, 9, 5, 307), (10, 26, 8, 309), (11, 9, 9, 115), (11, 16, 3, 210), (11, 23, 2, 212), (11, 30, 1, 214), (11, 37, 6, 238), (11, 44, 0, 280), (11, 51, 10, 301), (11, 63, 4, 336), (11, 73, 7, 356), (13, 7, 11, 107), (13, 10, 12, 1247)]
def znw_l : List (Nat × Nat × Nat × Nat) := znw_l_0
def zci_l : List (Nat × Nat × Nat × Int) := []
def zcj_l : List (Nat × Nat × Nat × Int) := []
def zpl_l_0 : List (Nat × Nat × Nat × Nat) := [(284, 101, 283, 0), (218, 99, 217, 0), (142, 97, 141, 0), (136, 96, 135, 0), (340, 103, 339, 0), (125, 95, 124, 0), (242, 100, 241, 0), (360, 104, 359, 0), (150, 98, 149, 0), (119, 94, 118, 0), (305, 102, 304, 0), (111, 93, 110, 0), (154, 93, 153, 0), (0, 0, 0, 0)]
def zpl_l : List (Nat × Nat × Nat × Nat) := zpl_l_0
end
section
/-! ===== THE MINI MACHINE: a pure machine over Ints that the real one is shown to follow (part 05); a big-step run 'ex' with fuel, and its weakest precondition 'Wp' ===== -/
abbrev zV : Type := Int ⊕ (Nat ⊕ (Int ⊕ Bool))
def vI (x : Int) : zV := .inl x
def vR (a : Nat) : zV := .inr (.inl a)
def vL (x : Int) : zV := .inr (.inr (.inl x))
def vX : zV := .inr (.inr (.inr true))
def vU : zV := .inr (.inr (.inr false))
/-- the cells' kinds (0 ints, 1 booleans, 2 + c an object of class c) with what never changes of them (a row's length; final fields; references, 1 above the cell's number); the script's length and its ints -/
abbrev zS : Type := List (Nat × List Nat) × Nat × (Int → Int)
/-- what changes: the ints of rows and fields -/
abbrev zM : Type := Nat → Int → Int
abbrev zA : Type := Option ((Nat × List zV × List zV × zS × zM) ⊕ ((Nat × List zV × List zV) ⊕ zV))
def yk (k : Nat) : MethodName := zy_l.getD k ⟨"", "", ""⟩
def bk (k : Nat) : ByteArray := zb_l.getD k ⟨#[]⟩
def zn (k : Nat) : Nat × Nat × Nat × Nat × Nat × Nat × Bool := zn_l.getD k (0, 0, 0, 0, 0, 0, false)
def lk (k : Nat) : Nat := (zn k).1
def ok (k : Nat) : Nat := (zn k).2.1
def fk (k : Nat) : Nat := (zn k).2.2.1
def ck (k : Nat) : Nat := (zn k).2.2.2.1
def nk (k : Nat) : Nat := (zn k).2.2.2.2.1
def ik (k : Nat) : Nat := (zn k).2.2.2.2.2.1
def hk (k : Nat) : Bool := (zn k).2.2.2.2.2.2
def rk (k : Nat) : Option FieldType := zr_l.getD k none
def cn (c : Nat) : String := zcn_l.getD c ""
def fd (c cp : Nat) : Option (Nat × Nat) := (zfd_l.find? (fun r => r.1 == c && r.2.1 == cp)).map (fun r => (r.2.2.1, r.2.2.2.1))
def ft (ci j : Nat) : Nat := (zft_l.getD ci []).getD j 9
def nf (ci : Nat) : Nat := (zft_l.getD ci []).length
def nw (c cp : Nat) : Option Nat := (znw_l.find? (fun r => r.1 == c && r.2.1 == cp)).map (fun r => r.2.2.1)
def lkk (c cp : Nat) : Option (Nat × Nat) := (zlk_l.find? (fun r => r.1 == c && r.2.1 == cp)).map (fun r => (r.2.2.1, r.2.2.2.1))
def ki (c cp : Nat) : Option Int := (zci_l.find? (fun r => r.1 == c && r.2.1 == cp)).map (fun r => r.2.2.2)
def kj (c cp : Nat) : Option Int := (zcj_l.find? (fun r => r.1 == c && r.2.1 == cp)).map (fun r => r.2.2.2)
def kd (S : zS) (a : Nat) : Nat := match S.1[a]? with
  | some q => q.1
  | none => 999
def sd (S : zS) (a j : Nat) : Nat := match S.1[a]? with
  | some q => q.2.getD j 0
  | none => 0
def up (I : zM) (a : Nat) (j x : Int) : zM := fun a' j' => if a' = a ∧ j' = j then x else I a' j'
def cz (I : zM) (a : Nat) : zM := fun a' j' => if a' = a then 0 else I a' j'
def ss (S : zS) (a j v : Nat) : zS := (S.1.modify a (fun q => (q.1, q.2.set j v)), S.2)
def sp (S : zS) (q : Nat × List Nat) : zS := (S.1 ++ [q], S.2)
def nx (pc : Nat) (ls st : List zV) (S : zS) (I : zM) : zA := some (.inl (pc, ls, st, S, I))
def zcl (k : Nat) (ls rest : List zV) : zA := some (.inr (.inl (k, ls, rest)))
def zrt (v : zV) : zA := some (.inr (.inr v))
abbrev rg (x : Int) : Prop := -2147483648 ≤ x ∧ x ≤ 2147483647
abbrev rgl (x : Int) : Prop := -9223372036854775808 ≤ x ∧ x ≤ 9223372036854775807
def zc (c : Jvm.ClassFile.Cond) (x y : Int) : Bool := match c with
  | .eq => decide (x = y)
  | .ne => decide (x ≠ y)
  | .lt => decide (x < y)
  | .ge => decide (y ≤ x)
  | .gt => decide (y < x)
  | .le => decide (x ≤ y)
def zand (x y : Int) : Int := (Int32.ofInt x &&& Int32.ofInt y).toInt
def zl (v : zV) : Bool := match v with
  | .inr (.inr (.inl _)) => true
  | _ => false
def zct (v : zV) : Nat := if zl v = true then 2 else 1
def zws (l : List zV) : Nat := (l.map zct).sum
def zla (args : List zV) : List zV := args.flatMap (fun v => if zl v = true then [v, vU] else [v])
def zen (k : Nat) (args : List zV) : List zV := zla args ++ List.replicate (lk k - (zla args).length) vU
abbrev zro (k k' : Nat) : Prop := fk k' + 1 ≤ fk k ∧ 8 + (lk k' + 11) + ck k' ≤ ck k
abbrev zok (k' : Nat) (args : List zV) : Prop := (zla args).length ≤ lk k' ∧ (hk k' = true ∨ args.all (fun v => !(zl v)) = true)
def zpu (r : zV) (rest : List zV) : List zV := match r with
  | .inr (.inr (.inr false)) => rest
  | v => v :: rest
/-- a call with a receiver -/
def zcv (k k' : Nat) (st : List zV) (S : zS) : zA := match st.drop (nk k') with
  | .inr (.inl a) :: rest => if (st.take (nk k')).length = nk k' ∧ kd S a = ok k' + 2 ∧ zro k k' ∧ zws rest ≤ 8 ∧ zok k' (vR a :: (st.take (nk k')).reverse) then zcl k' (zen k' (vR a :: (st.take (nk k')).reverse)) rest else none
  | _ => none
def zcs (k k' : Nat) (st : List zV) : zA := if (st.take (nk k')).length = nk k' ∧ zro k k' ∧ zws (st.drop (nk k')) ≤ 8 ∧ zok k' (st.take (nk k')).reverse then zcl k' (zen k' (st.take (nk k')).reverse) (st.drop (nk k')) else none
def zmx (k pc : Nat) (ls st : List zV) (S : zS) (I : zM) (q : Nat) : zA := match st with
  | .inl y :: .inl x :: r => if 1 ≤ fk k ∧ zws r + 13 ≤ ck k then nx (pc + 3) ls (vI (if q = 3 then (if x < y then y else x) else (if y < x then y else x)) :: r) S I else none
  | _ => none
def zob (k pc : Nat) (ls st : List zV) (S : zS) (I : zM) : zA := match st with
  | .inr (.inl _) :: r => if 1 ≤ fk k ∧ zws r + 12 ≤ ck k then nx (pc + 3) ls r S I else none
  | _ => none
def zgf (k pc : Nat) (ls st : List zV) (S : zS) (I : zM) (ci j : Nat) : zA := match st with
  | .inr (.inl a) :: r => if kd S a = ci + 2 then
      (if ft ci j ≤ 1 then nx (pc + 3) ls (vI (I a j) :: r) S I
       else if ft ci j ≤ 3 then nx (pc + 3) ls (vI (sd S a j) :: r) S I
       else if ft ci j ≤ 5 ∧ 0 < sd S a j then nx (pc + 3) ls (vR (sd S a j - 1) :: r) S I else none) else none
  | _ => none
def zpf (k pc : Nat) (ls st : List zV) (S : zS) (I : zM) (ci j : Nat) : zA := match st with
  | .inl x :: .inr (.inl a) :: r => if kd S a = ci + 2 then
      (if ft ci j = 0 then nx (pc + 3) ls r S (up I a j x)
       else if ft ci j = 1 then (if x = 0 ∨ x = 1 then nx (pc + 3) ls r S (up I a j x) else none)
       else if ft ci j = 2 ∧ 0 ≤ x ∧ ik k = 2 ∧ ok k = ci then nx (pc + 3) ls r (ss S a j x.toNat) I
       else if ft ci j = 3 ∧ (x = 0 ∨ x = 1) ∧ ik k = 2 ∧ ok k = ci then nx (pc + 3) ls r (ss S a j x.toNat) I else none) else none
  | .inr (.inl b) :: .inr (.inl a) :: r => if kd S a = ci + 2 then
      (if ft ci j = 4 ∧ ik k = 2 ∧ ok k = ci then nx (pc + 3) ls r (ss S a j (b + 1)) I
       else if ft ci j = 5 then nx (pc + 3) ls r (ss S a j (b + 1)) I else none) else none
  | _ => none
def zal (pc : Nat) (ls st : List zV) (S : zS) (I : zM) (q : Nat) : zA := match st with
  | .inl j :: .inr (.inl a) :: r => if kd S a = q ∧ 0 ≤ j ∧ j < (sd S a 0 : Int) then nx (pc + 1) ls (vI (I a j) :: r) S I else none
  | .inl j :: .inr (.inr (.inr true)) :: r => if q = 0 ∧ 0 ≤ j ∧ j < (S.2.1 : Int) then nx (pc + 1) ls (vI (S.2.2 j) :: r) S I else none
  | _ => none
def zas (pc : Nat) (ls st : List zV) (S : zS) (I : zM) (q : Nat) : zA := match st with
  | .inl x :: .inl j :: .inr (.inl a) :: r => if kd S a = q ∧ 0 ≤ j ∧ j < (sd S a 0 : Int) ∧ (q = 0 ∨ x = 0 ∨ x = 1) then nx (pc + 1) ls r S (up I a j x) else none
  | _ => none
def sti (k pc : Nat) (ls st : List zV) (S : zS) (I : zM) (len : Nat) : Instr → zA
  | .iconst n => if len = 1 ∧ rg n then nx (pc + 1) ls (vI n :: st) S I else none
  | .bipush n => if len = 2 ∧ -128 ≤ n ∧ n ≤ 127 then nx (pc + 2) ls (vI n :: st) S I else none
  | .sipush n => if len = 3 ∧ -32768 ≤ n ∧ n ≤ 32767 then nx (pc + 3) ls (vI n :: st) S I else none
  | .lconst n => if len = 1 then nx (pc + 1) ls (vL (n.val : Int) :: st) S I else none
  | .ldc i => if len = 2 then (match ki (ok k) i with
      | some v => nx (pc + 2) ls (vI v :: st) S I
      | none => none) else none
  | .ldc_w i => if len = 3 then (match ki (ok k) i with
      | some v => nx (pc + 3) ls (vI v :: st) S I
      | none => none) else none
  | .ldc2_w i => if len = 3 then (match kj (ok k) i with
      | some v => nx (pc + 3) ls (vL v :: st) S I
      | none => none) else none
  | .iload_n n => if len = 1 then (match ls[n.val]? with
      | some (.inl x) => nx (pc + 1) ls (vI x :: st) S I
      | _ => none) else none
  | .iload n => if len = 2 then (match ls[n]? with
      | some (.inl x) => nx (pc + 2) ls (vI x :: st) S I
      | _ => none) else none
  | .lload_n n => if len = 1 then (match ls[n.val]? with
      | some (.inr (.inr (.inl x))) => nx (pc + 1) ls (vL x :: st) S I
      | _ => none) else none
  | .lload n => if len = 2 then (match ls[n]? with
      | some (.inr (.inr (.inl x))) => nx (pc + 2) ls (vL x :: st) S I
      | _ => none) else none
  | .aload_n n => if len = 1 then (match ls[n.val]? with
      | some (.inr (.inl x)) => nx (pc + 1) ls (vR x :: st) S I
      | some (.inr (.inr (.inr true))) => nx (pc + 1) ls (vX :: st) S I
      | _ => none) else none
  | .aload n => if len = 2 then (match ls[n]? with
      | some (.inr (.inl x)) => nx (pc + 2) ls (vR x :: st) S I
      | _ => none) else none
  | .istore_n n => if len = 1 ∧ n.val < ls.length ∧ hk k = false then (match st with
      | .inl x :: r => nx (pc + 1) (ls.set n.val (vI x)) r S I
      | _ => none) else none
  | .istore n => if len = 2 ∧ n < ls.length ∧ hk k = false then (match st with
      | .inl x :: r => nx (pc + 2) (ls.set n (vI x)) r S I
      | _ => none) else none
  | .astore_n n => if len = 1 ∧ n.val < ls.length ∧ hk k = false then (match st with
      | .inr (.inl x) :: r => nx (pc + 1) (ls.set n.val (vR x)) r S I
      | _ => none) else none
  | .astore n => if len = 2 ∧ n < ls.length ∧ hk k = false then (match st with
      | .inr (.inl x) :: r => nx (pc + 2) (ls.set n (vR x)) r S I
      | _ => none) else none
  | .iinc i n => if len = 3 ∧ hk k = false ∧ rg n then (match ls[i]? with
      | some (.inl x) => if rg (x + n) then nx (pc + 3) (ls.set i (vI (x + n))) st S I else none
      | _ => none) else none
  | .iadd => match st with
      | .inl y :: .inl x :: r => if len = 1 ∧ rg (x + y) then nx (pc + 1) ls (vI (x + y) :: r) S I else none
      | _ => none
  | .isub => match st with
      | .inl y :: .inl x :: r => if len = 1 ∧ rg (x - y) then nx (pc + 1) ls (vI (x - y) :: r) S I else none
      | _ => none
  | .imul => match st with
      | .inl y :: .inl x :: r => if len = 1 ∧ rg (x * y) then nx (pc + 1) ls (vI (x * y) :: r) S I else none
      | _ => none
  | .iand => match st with
      | .inl y :: .inl x :: r => if len = 1 then nx (pc + 1) ls (vI (zand x y) :: r) S I else none
      | _ => none
  | .i2l => match st with
      | .inl x :: r => if len = 1 then nx (pc + 1) ls (vL x :: r) S I else none
      | _ => none
  | .ladd => match st with
      | .inr (.inr (.inl y)) :: .inr (.inr (.inl x)) :: r => if len = 1 ∧ rgl (x + y) then nx (pc + 1) ls (vL (x + y) :: r) S I else none
      | _ => none
  | .lcmp => match st with
      | .inr (.inr (.inl y)) :: .inr (.inr (.inl x)) :: r => if len = 1 then nx (pc + 1) ls (vI (if y < x then 1 else if x = y then 0 else -1) :: r) S I else none
      | _ => none
  | .dup => match st with
      | v :: r => if len = 1 ∧ zl v = false then nx (pc + 1) ls (v :: v :: r) S I else none
      | _ => none
  | .dup2 => match st with
      | v :: w :: r => if len = 1 ∧ zl v = false ∧ zl w = false then nx (pc + 1) ls (v :: w :: v :: w :: r) S I else none
      | _ => none
  | .pop => match st with
      | v :: r => if len = 1 ∧ zl v = false then nx (pc + 1) ls r S I else none
      | _ => none
  | .ifCond c off => match st with
      | .inl x :: r => if len = 3 ∧ 0 ≤ (pc : Int) + off then nx (if zc c x 0 = true then ((pc : Int) + off).toNat else pc + 3) ls r S I else none
      | _ => none
  | .if_icmp c off => match st with
      | .inl y :: .inl x :: r => if len = 3 ∧ 0 ≤ (pc : Int) + off then nx (if zc c x y = true then ((pc : Int) + off).toNat else pc + 3) ls r S I else none
      | _ => none
  | .goto off => if len = 3 ∧ 0 ≤ (pc : Int) + off then nx ((pc : Int) + off).toNat ls st S I else none
  | .tableswitch df lo hi offs => match st with
      | .inl x :: r => if x < lo ∨ hi < x then (if 0 ≤ (pc : Int) + df then nx ((pc : Int) + df).toNat ls r S I else none)
          else (match offs[(x - lo).toNat]? with
            | some o => if 0 ≤ (pc : Int) + o then nx ((pc : Int) + o).toNat ls r S I else none
            | none => none)
      | _ => none
  | .getfield i => if len = 3 then (match fd (ok k) i with
      | some q => zgf k pc ls st S I q.1 q.2
      | none => none) else none
  | .putfield i => if len = 3 then (match fd (ok k) i with
      | some q => zpf k pc ls st S I q.1 q.2
      | none => none) else none
  | .iaload => if len = 1 then zal pc ls st S I 0 else none
  | .baload => if len = 1 then zal pc ls st S I 1 else none
  | .iastore => if len = 1 then zas pc ls st S I 0 else none
  | .bastore => if len = 1 then zas pc ls st S I 1 else none
  | .arraylength => match st with
      | .inr (.inl a) :: r => if len = 1 ∧ kd S a ≤ 1 then nx (pc + 1) ls (vI (sd S a 0) :: r) S I else none
      | .inr (.inr (.inr true)) :: r => if len = 1 then nx (pc + 1) ls (vI (S.2.1 : Int) :: r) S I else none
      | _ => none
  | .new i => if len = 3 then (match nw (ok k) i with
      | some ci => nx (pc + 3) ls (vR S.1.length :: st) (sp S (ci + 2, List.replicate (nf ci) 0)) (cz I S.1.length)
      | none => none) else none
  | .newarray t => match st with
      | .inl n :: r => if len = 2 ∧ 0 ≤ n ∧ n ≤ 1000000 then
          (if t = .int then nx (pc + 2) ls (vR S.1.length :: r) (sp S (0, [n.toNat])) (cz I S.1.length)
           else if t = .boolean then nx (pc + 2) ls (vR S.1.length :: r) (sp S (1, [n.toNat])) (cz I S.1.length) else none) else none
      | _ => none
  | .invokevirtual i => if len = 3 then (match lkk (ok k) i with
      | some q => if q.1 ≤ 1 ∧ ik q.2 = 1 then zcv k q.2 st S else none
      | none => none) else none
  | .invokespecial i => if len = 3 then (match lkk (ok k) i with
      | some q => if q.1 ≤ 1 ∧ ik q.2 = 2 then zcv k q.2 st S else if q.1 = 2 then zob k pc ls st S I else none
      | none => none) else none
  | .invokestatic i => if len = 3 then (match lkk (ok k) i with
      | some q => if q.1 ≤ 1 ∧ ik q.2 = 0 then zcs k q.2 st else if q.1 = 3 ∨ q.1 = 4 then zmx k pc ls st S I q.1 else none
      | none => none) else none
  | .ireturn => match st with
      | [.inl x] => if len = 1 ∧ (rk k = some .int ∨ (rk k = some .boolean ∧ (x = 0 ∨ x = 1))) then zrt (vI x) else none
      | _ => none
  | .areturn => match st with
      | [.inr (.inl a)] => if len = 1 then (match rk k with
          | some (.object _) => zrt (vR a)
          | _ => none) else none
      | _ => none
  | .return_ => match st with
      | [] => if len = 1 ∧ rk k = none then zrt vU else none
      | _ => none
  | _ => none
def stp (k pc : Nat) (ls st : List zV) (S : zS) (I : zM) : zA := match decode (bk k) pc with
  | .ok q => sti k pc ls st S I q.2 q.1
  | .error _ => none
def ex : Nat → Nat → Nat → List zV → List zV → zS → zM → Option (zV × zS × zM)
  | 0, _, _, _, _, _, _ => none
  | n + 1, k, pc, ls, st, S, I => match stp k pc ls st S I with
      | some (.inl q) => ex n k q.1 q.2.1 q.2.2.1 q.2.2.2.1 q.2.2.2.2
      | some (.inr (.inl q)) => (match ex n q.1 0 q.2.1 [] S I with
          | some u => ex n k (pc + 3) ls (zpu u.1 q.2.2) u.2.1 u.2.2
          | none => none)
      | some (.inr (.inr r)) => some (r, S, I)
      | none => none
def Wp (k pc : Nat) (ls st : List zV) (S : zS) (I : zM) (Q : zV → zS → zM → Prop) : Prop := ∃ (n : Nat) (u : zV × zS × zM), ex n k pc ls st S I = some u ∧ Q u.1 u.2.1 u.2.2
theorem ex_more : ∀ (n : Nat) (k pc : Nat) (ls st : List zV) (S : zS) (I : zM) (u : zV × zS × zM), ex n k pc ls st S I = some u → ∀ m, n ≤ m → ex m k pc ls st S I = some u := by
  intro n
  induction n with
  | zero => intro k pc ls st S I u h; simp [ex] at h
  | succ n ih =>
    intro k pc ls st S I u h m hm
    obtain ⟨m, rfl⟩ : ∃ m', m = m' + 1 := ⟨m - 1, by omega⟩
    have hm : n ≤ m := by omega
    rw [ex] at h ⊢
    cases hs : stp k pc ls st S I with
    | none => rw [hs] at h; exact h
    | some a =>
      rw [hs] at h
      rcases a with q | q | r
      · exact ih _ _ _ _ _ _ _ h m hm
      · dsimp only at h ⊢
        cases hc : ex n q.1 0 q.2.1 [] S I with
        | none => rw [hc] at h; cases h
        | some v =>
          rw [hc] at h
          rw [ih _ _ _ _ _ _ _ hc m hm]
          exact ih _ _ _ _ _ _ _ h m hm
      · exact h
theorem Wp_next {k pc pc' : Nat} {ls st ls' st' : List zV} {S S' : zS} {I I' : zM} {Q : zV → zS → zM → Prop} (h : stp k pc ls st S I = some (.inl (pc', ls', st', S', I'))) : Wp k pc ls st S I Q ↔ Wp k pc' ls' st' S' I' Q := by
  constructor
  · rintro ⟨n, u, h1, h2⟩
    cases n with
    | zero => simp [ex] at h1
    | succ n => rw [ex, h] at h1; exact ⟨n, u, h1, h2⟩
  · rintro ⟨n, u, h1, h2⟩
    exact ⟨n + 1, u, by rw [ex, h]; exact h1, h2⟩
theorem Wp_stuck {k pc : Nat} {ls st : List zV} {S : zS} {I : zM} {Q : zV → zS → zM → Prop} (h : stp k pc ls st S I = none) : Wp k pc ls st S I Q ↔ False := by
  constructor
  · rintro ⟨n, u, h1, h2⟩
    cases n with
    | zero => simp [ex] at h1
    | succ n => rw [ex, h] at h1; cases h1
  · exact False.elim
theorem Wp_call {k pc k' : Nat} {ls st ls0 rest : List zV} {S : zS} {I : zM} {Q : zV → zS → zM → Prop} (h : stp k pc ls st S I = some (.inr (.inl (k', ls0, rest)))) : Wp k pc ls st S I Q ↔ Wp k' 0 ls0 [] S I (fun r S1 I1 => Wp k (pc + 3) ls (zpu r rest) S1 I1 Q) := by
  constructor
  · rintro ⟨n, u, h1, h2⟩
    cases n with
    | zero => simp [ex] at h1
    | succ n =>
      rw [ex, h] at h1
      dsimp only at h1
      cases hc : ex n k' 0 ls0 [] S I with
      | none => rw [hc] at h1; cases h1
      | some v => rw [hc] at h1; exact ⟨n, v, hc, n, u, h1, h2⟩
  · rintro ⟨n, v, h1, m, u, h2, h3⟩
    refine ⟨max n m + 1, u, ?_, h3⟩
    rw [ex, h]
    dsimp only
    rw [ex_more _ _ _ _ _ _ _ _ h1 (max n m) (by omega)]
    exact ex_more _ _ _ _ _ _ _ _ h2 (max n m) (by omega)
theorem Wp_ret {k pc : Nat} {ls st : List zV} {S : zS} {I : zM} {Q : zV → zS → zM → Prop} {r : zV} (h : stp k pc ls st S I = some (.inr (.inr r))) : Wp k pc ls st S I Q ↔ Q r S I := by
  constructor
  · rintro ⟨n, u, h1, h2⟩
    cases n with
    | zero => simp [ex] at h1
    | succ n => rw [ex, h] at h1; cases h1; exact h2
  · intro h2
    exact ⟨1, (r, S, I), by rw [ex, h], h2⟩
theorem Wp_mono {k pc : Nat} {ls st : List zV} {S : zS} {I : zM} {Q Q' : zV → zS → zM → Prop} (h : Wp k pc ls st S I Q) (hq : ∀ r S' I', Q r S' I' → Q' r S' I') : Wp k pc ls st S I Q' := by
  obtain ⟨n, u, h1, h2⟩ := h
  exact ⟨n, u, h1, hq _ _ _ h2⟩
/-- one run, one end: what is reached is reached whatever is asked of it -/
theorem Wp_det {k pc : Nat} {ls st : List zV} {S : zS} {I : zM} {r : zV} {S' : zS} {I' : zM} (h : Wp k pc ls st S I (fun r1 S1 I1 => r1 = r ∧ S1 = S' ∧ I1 = I')) (Q : zV → zS → zM → Prop) : Wp k pc ls st S I Q ↔ Q r S' I' := by
  obtain ⟨n, ⟨r1, S1, I1⟩, h1, rfl, rfl, rfl⟩ := h
  constructor
  · rintro ⟨m, u, h2, h3⟩
    have e1 := ex_more _ _ _ _ _ _ _ _ h1 (max n m) (by omega)
    have e2 := ex_more _ _ _ _ _ _ _ _ h2 (max n m) (by omega)
    rw [e1] at e2
    cases e2
    exact h3
  · intro h2
    exact ⟨n, _, h1, h2⟩
end
section
def zpl (k : Nat) : Nat × Nat × Nat × Nat := zpl_l.getD k (0, 0, 0, 0)
def cR (ci : Nat) : String := (vwCl.getD ci ("", fun _ => ("", "", "", false), 0)).1
def cT (ci : Nat) : u_T := (vwCl.getD ci ("", fun _ => ("", "", "", false), 0)).2.1
def cN (ci : Nat) : Nat := (vwCl.getD ci ("", fun _ => ("", "", "", false), 0)).2.2
def cty (ci j : Nat) : FieldType := (parseFieldDescriptor (cT ci j).2.2.1).getD .int
def zAll (P : Nat → Prop) : Nat → Nat → Prop
  | _, 0 => True
  | i, n + 1 => P i ∧ zAll P (i + 1) n
theorem zAll_at {P : Nat → Prop} : ∀ (n i : Nat), zAll P i n → ∀ k, i ≤ k → k < i + n → P k := by
  intro n
  induction n with
  | zero => intro i _ k h1 h2; omega
  | succ n ih =>
    intro i h k h1 h2
    by_cases e : k = i
    · subst e; exact h.1
    · exact ih (i + 1) h.2 k (by omega) (by omega)
def zPc (k : Nat) : Prop := lw_tbl[(zpl k).1]? = some (Cond.code (yk k) (bk k) (lk k) (rk k))
set_option maxRecDepth 100000 in
theorem zc_0 : lw_tbl[284]? = some (Cond.code yX0_init cX0_init 1 none) := rfl
set_option maxRecDepth 100000 in
theorem zc_1 : lw_tbl[218]? = some (Cond.code yX1_init cX1_init 1 none) := rfl
set_option maxRecDepth 100000 in
theorem zc_2 : lw_tbl[142]? = some (Cond.code yX2_init cX2_init 1 none) := rfl
set_option maxRecDepth 100000 in
theorem zc_3 : lw_tbl[136]? = some (Cond.code yX3_init cX3_init 1 none) := rfl
set_option maxRecDepth 100000 in
theorem zc_4 : lw_tbl[340]? = some (Cond.code yX4_init cX4_init 1 none) := rfl
set_option maxRecDepth 100000 in
theorem zc_5 : lw_tbl[125]? = some (Cond.code yX5_init cX5_init 2 none) := rfl
set_option maxRecDepth 100000 in
theorem zc_6 : lw_tbl[242]? = some (Cond.code yX6_init cX6_init 1 none) := rfl
set_option maxRecDepth 100000 in
theorem zc_7 : lw_tbl[360]? = some (Cond.code yX7_init cX7_init 1 none) := rfl
set_option maxRecDepth 100000 in
theorem zc_8 : lw_tbl[150]? = some (Cond.code yX8_init cX8_init 4 none) := rfl
set_option maxRecDepth 100000 in
theorem zc_9 : lw_tbl[119]? = some (Cond.code yX9_init cX9_init 1 none) := rfl
set_option maxRecDepth 100000 in
theorem zc_10 : lw_tbl[305]? = some (Cond.code yX10_init cX10_init 2 none) := rfl
set_option maxRecDepth 100000 in
theorem zc_11 : lw_tbl[111]? = some (Cond.code yX11_init cX11_init 1 none) := rfl
set_option maxRecDepth 100000 in
theorem zc_12 : lw_tbl[154]? = some (Cond.code yX11_within cX11_within 3 (some .boolean)) := rfl
set_option maxRecDepth 100000 in
theorem zt_code_0 : zAll zPc 0 13 := ⟨zc_0, zc_1, zc_2, zc_3, zc_4, zc_5, zc_6, zc_7, zc_8, zc_9, zc_10, zc_11, zc_12, trivial⟩
theorem zt_code (k : Nat) (h : k < 13) : lw_tbl[(zpl k).1]? = some (Cond.code (yk k) (bk k) (lk k) (rk k)) := by
  by_cases h13 : k < 13
  · exact zAll_at 13 0 zt_code_0 k (by omega) (by omega)
  omega
set_option maxRecDepth 100000 in
set_option maxHeartbeats 4000000 in
theorem zt_init : ∀ k, k < 13 → lw_tbl[(zpl k).2.1]? = some (Cond.initialized (yk k).cls) := by decide +kernel
set_option maxRecDepth 100000 in
set_option maxHeartbeats 4000000 in
theorem zt_inst : ∀ k, k < 13 → lw_tbl[(zpl k).2.2.1]? = some (if ik k = 0 then Cond.static (yk k) else Cond.instanceMethod (yk k)) := by decide +kernel
set_option maxRecDepth 100000 in
set_option maxHeartbeats 4000000 in
theorem zt_sel : ∀ k, k < 13 → ik k = 1 → lw_tbl[(zpl k).2.2.2]? = some (Cond.selects (yk k).cls (yk k) (yk k)) := by decide +kernel
set_option maxRecDepth 100000 in
set_option maxHeartbeats 4000000 in
theorem zt_misc : ∀ k, k < 13 → (yk k).cls = cn (ok k) ∧ (yk k).cls ≠ "java/lang/invoke/MethodHandle" ∧ (yk k).cls ≠ "java/lang/invoke/VarHandle" ∧ plainName (yk k).cls = true ∧ (parseMethodDescriptor (yk k).desc).map (fun d => d.parameters.length) = some (nk k) ∧ (ik k = 2 → (yk k).name = "<init>" ∧ rk k = none) ∧ ok k < 13 ∧ cn (ok k) = cR (ok k) := by decide +kernel
def zlc (r : Nat × Nat × Nat × Nat × Nat) : Cond := if r.2.2.1 = 0 then .methodLink (cn r.1) r.2.1 (yk r.2.2.2.1) else if r.2.2.1 = 1 then .methodLinkNest (cn r.1) r.2.1 (yk r.2.2.2.1) "ClauseDrafts" else if r.2.2.1 = 2 then .methodLink (cn r.1) r.2.1 objectInit else if r.2.2.1 = 3 then .methodLink (cn r.1) r.2.1 Lib.Math.max.name else .methodLink (cn r.1) r.2.1 Lib.Math.min.name
set_option maxRecDepth 100000 in
set_option maxHeartbeats 4000000 in
theorem zt_link_0 : ∀ r ∈ zlk_l_0, lw_tbl[r.2.2.2.2]? = some (zlc r) ∧ r.2.2.2.1 < 13 := by decide +kernel
theorem zt_link : ∀ r ∈ zlk_l, lw_tbl[r.2.2.2.2]? = some (zlc r) ∧ r.2.2.2.1 < 13 := zt_link_0
set_option maxRecDepth 100000 in
set_option maxHeartbeats 4000000 in
theorem zt_fld_0 : ∀ r ∈ zfd_l_0, lw_tbl[r.2.2.2.2]? = some (Cond.fieldLink (cn r.1) r.2.1 (cT r.2.2.1 r.2.2.2.1).1 (cT r.2.2.1 r.2.2.2.1).2.1 (cT r.2.2.1 r.2.2.2.1).2.2.1) ∧ r.2.2.1 < 13 ∧ r.2.2.2.1 < cN r.2.2.1 := by decide +kernel
theorem zt_fld : ∀ r ∈ zfd_l, lw_tbl[r.2.2.2.2]? = some (Cond.fieldLink (cn r.1) r.2.1 (cT r.2.2.1 r.2.2.2.1).1 (cT r.2.2.1 r.2.2.2.1).2.1 (cT r.2.2.1 r.2.2.2.1).2.2.1) ∧ r.2.2.1 < 13 ∧ r.2.2.2.1 < cN r.2.2.1 := zt_fld_0
set_option maxRecDepth 100000 in
set_option maxHeartbeats 4000000 in
theorem zt_lay_0 : ∀ j, j < 4 → lw_tbl[([292, 294, 296, 298] : List Nat).getD j 0]? = some (u_lay RX0 TX0 j) := by decide +kernel
theorem zt_ws_0 : ∀ w ∈ u_ws RX0 TX0 4, w ∈ lw_tbl := by
  intro w hw
  obtain ⟨j, hj, rfl⟩ := List.mem_map.mp hw
  exact List.mem_of_getElem? (zt_lay_0 j (List.mem_range.mp hj))
set_option maxRecDepth 100000 in
set_option maxHeartbeats 4000000 in
theorem zt_lay_1 : ∀ j, j < 5 → lw_tbl[([227, 229, 231, 233, 235] : List Nat).getD j 0]? = some (u_lay RX1 TX1 j) := by decide +kernel
theorem zt_ws_1 : ∀ w ∈ u_ws RX1 TX1 5, w ∈ lw_tbl := by
  intro w hw
  obtain ⟨j, hj, rfl⟩ := List.mem_map.mp hw
  exact List.mem_of_getElem? (zt_lay_1 j (List.mem_range.mp hj))
set_option maxRecDepth 100000 in
set_option maxHeartbeats 4000000 in
theorem zt_lay_2 : ∀ j, j < 4 → lw_tbl[([169, 171, 173, 175] : List Nat).getD j 0]? = some (u_lay RX2 TX2 j) := by decide +kernel
theorem zt_ws_2 : ∀ w ∈ u_ws RX2 TX2 4, w ∈ lw_tbl := by
  intro w hw
  obtain ⟨j, hj, rfl⟩ := List.mem_map.mp hw
  exact List.mem_of_getElem? (zt_lay_2 j (List.mem_range.mp hj))
set_option maxRecDepth 100000 in
set_option maxHeartbeats 4000000 in
theorem zt_lay_3 : ∀ j, j < 3 → lw_tbl[([181, 183, 185] : List Nat).getD j 0]? = some (u_lay RX3 TX3 j) := by decide +kernel
theorem zt_ws_3 : ∀ w ∈ u_ws RX3 TX3 3, w ∈ lw_tbl := by
  intro w hw
  obtain ⟨j, hj, rfl⟩ := List.mem_map.mp hw
  exact List.mem_of_getElem? (zt_lay_3 j (List.mem_range.mp hj))
set_option maxRecDepth 100000 in
set_option maxHeartbeats 4000000 in
theorem zt_lay_4 : ∀ j, j < 3 → lw_tbl[([349, 351, 353] : List Nat).getD j 0]? = some (u_lay RX4 TX4 j) := by decide +kernel
theorem zt_ws_4 : ∀ w ∈ u_ws RX4 TX4 3, w ∈ lw_tbl := by
  intro w hw
  obtain ⟨j, hj, rfl⟩ := List.mem_map.mp hw
  exact List.mem_of_getElem? (zt_lay_4 j (List.mem_range.mp hj))
set_option maxRecDepth 100000 in
set_option maxHeartbeats 4000000 in
theorem zt_lay_5 : ∀ j, j < 1 → lw_tbl[([128] : List Nat).getD j 0]? = some (u_lay RX5 TX5 j) := by decide +kernel
theorem zt_ws_5 : ∀ w ∈ u_ws RX5 TX5 1, w ∈ lw_tbl := by
  intro w hw
  obtain ⟨j, hj, rfl⟩ := List.mem_map.mp hw
  exact List.mem_of_getElem? (zt_lay_5 j (List.mem_range.mp hj))
set_option maxRecDepth 100000 in
set_option maxHeartbeats 4000000 in
theorem zt_lay_6 : ∀ j, j < 11 → lw_tbl[([257, 259, 261, 263, 265, 267, 269, 271, 273, 275, 277] : List Nat).getD j 0]? = some (u_lay RX6 TX6 j) := by decide +kernel
theorem zt_ws_6 : ∀ w ∈ u_ws RX6 TX6 11, w ∈ lw_tbl := by
  intro w hw
  obtain ⟨j, hj, rfl⟩ := List.mem_map.mp hw
  exact List.mem_of_getElem? (zt_lay_6 j (List.mem_range.mp hj))
set_option maxRecDepth 100000 in
set_option maxHeartbeats 4000000 in
theorem zt_lay_7 : ∀ j, j < 4 → lw_tbl[([370, 372, 374, 376] : List Nat).getD j 0]? = some (u_lay RX7 TX7 j) := by decide +kernel
theorem zt_ws_7 : ∀ w ∈ u_ws RX7 TX7 4, w ∈ lw_tbl := by
  intro w hw
  obtain ⟨j, hj, rfl⟩ := List.mem_map.mp hw
  exact List.mem_of_getElem? (zt_lay_7 j (List.mem_range.mp hj))
set_option maxRecDepth 100000 in
set_option maxHeartbeats 4000000 in
theorem zt_lay_8 : ∀ j, j < 3 → lw_tbl[([158, 160, 162] : List Nat).getD j 0]? = some (u_lay RX8 TX8 j) := by decide +kernel
theorem zt_ws_8 : ∀ w ∈ u_ws RX8 TX8 3, w ∈ lw_tbl := by
  intro w hw
  obtain ⟨j, hj, rfl⟩ := List.mem_map.mp hw
  exact List.mem_of_getElem? (zt_lay_8 j (List.mem_range.mp hj))
set_option maxRecDepth 100000 in
set_option maxHeartbeats 4000000 in
theorem zt_lay_9 : ∀ j, j < 7 → lw_tbl[([195, 197, 199, 201, 203, 205, 207] : List Nat).getD j 0]? = some (u_lay RX9 TX9 j) := by decide +kernel
theorem zt_ws_9 : ∀ w ∈ u_ws RX9 TX9 7, w ∈ lw_tbl := by
  intro w hw
  obtain ⟨j, hj, rfl⟩ := List.mem_map.mp hw
  exact List.mem_of_getElem? (zt_lay_9 j (List.mem_range.mp hj))
set_option maxRecDepth 100000 in
set_option maxHeartbeats 4000000 in
theorem zt_lay_10 : ∀ j, j < 8 → lw_tbl[([319, 321, 323, 325, 327, 329, 331, 333] : List Nat).getD j 0]? = some (u_lay RX10 TX10 j) := by decide +kernel
theorem zt_ws_10 : ∀ w ∈ u_ws RX10 TX10 8, w ∈ lw_tbl := by
  intro w hw
  obtain ⟨j, hj, rfl⟩ := List.mem_map.mp hw
  exact List.mem_of_getElem? (zt_lay_10 j (List.mem_range.mp hj))
set_option maxRecDepth 100000 in
set_option maxHeartbeats 4000000 in
theorem zt_lay_11 : ∀ j, j < 11 → lw_tbl[([390, 392, 394, 396, 398, 400, 402, 404, 406, 408, 410] : List Nat).getD j 0]? = some (u_lay RX11 TX11 j) := by decide +kernel
theorem zt_ws_11 : ∀ w ∈ u_ws RX11 TX11 11, w ∈ lw_tbl := by
  intro w hw
  obtain ⟨j, hj, rfl⟩ := List.mem_map.mp hw
  exact List.mem_of_getElem? (zt_lay_11 j (List.mem_range.mp hj))
set_option maxRecDepth 100000 in
set_option maxHeartbeats 4000000 in
theorem zt_lay_12 : ∀ j, j < 50 → lw_tbl[([1425, 1427, 1429, 1431, 1433, 1435, 1437, 1439, 1441, 1443, 1445, 1447, 1449, 1451, 1453, 1455, 1457, 1459, 1461, 1463, 1465, 1467, 1469, 1471, 1473, 1475, 1477, 1479, 1481, 1483, 1485, 1487, 1489, 1491, 1493, 1495, 1497, 1499, 1501, 1503, 1505, 1507, 1509, 1511, 1513, 1515, 1517, 1519, 1521, 1523] : List Nat).getD j 0]? = some (u_lay RX12 TX12 j) := by decide +kernel
theorem zt_ws_12 : ∀ w ∈ u_ws RX12 TX12 50, w ∈ lw_tbl := by
  intro w hw
  obtain ⟨j, hj, rfl⟩ := List.mem_map.mp hw
  exact List.mem_of_getElem? (zt_lay_12 j (List.mem_range.mp hj))
theorem zt_cls (ci : Nat) (h : ci < 13) : vwCl[ci]? = some (cR ci, cT ci, cN ci) := by
  have hl : ci < vwCl.length := h
  simp [cR, cT, cN, List.getD_eq_getElem?_getD, List.getElem?_eq_getElem hl]
theorem zt_ws (ci : Nat) (h : ci < 13) : ∀ w ∈ u_ws (cR ci) (cT ci) (cN ci), w ∈ lw_tbl := by
  match ci, h with
  | 0, _ => exact zt_ws_0
  | 1, _ => exact zt_ws_1
  | 2, _ => exact zt_ws_2
  | 3, _ => exact zt_ws_3
  | 4, _ => exact zt_ws_4
  | 5, _ => exact zt_ws_5
  | 6, _ => exact zt_ws_6
  | 7, _ => exact zt_ws_7
  | 8, _ => exact zt_ws_8
  | 9, _ => exact zt_ws_9
  | 10, _ => exact zt_ws_10
  | 11, _ => exact zt_ws_11
  | 12, _ => exact zt_ws_12
theorem zt_nm (ci : Nat) (h : ci < 13) : ∀ a, a < cN ci → ∀ b, b < cN ci → a ≠ b → (cT ci a).2.1 ≠ (cT ci b).2.1 := by
  match ci, h with
  | 0, _ => exact nmX0
  | 1, _ => exact nmX1
  | 2, _ => exact nmX2
  | 3, _ => exact nmX3
  | 4, _ => exact nmX4
  | 5, _ => exact nmX5
  | 6, _ => exact nmX6
  | 7, _ => exact nmX7
  | 8, _ => exact nmX8
  | 9, _ => exact nmX9
  | 10, _ => exact nmX10
  | 11, _ => exact nmX11
  | 12, _ => exact nmX12
set_option maxRecDepth 100000 in
set_option maxHeartbeats 4000000 in
theorem zt_ty0 : ∀ ci, ci < 13 → cN ci = nf ci ∧ ∀ j, j < nf ci → (parseFieldDescriptor (cT ci j).2.2.1).isSome = true ∧ (cT ci j).1 = cR ci ∧ (ft ci j ≤ 5) ∧ ((cT ci j).2.2.2 = decide (ft ci j = 2 ∨ ft ci j = 3 ∨ ft ci j = 4)) ∧ ((ft ci j = 0 ∨ ft ci j = 2) → cty ci j = .int) ∧ ((ft ci j = 1 ∨ ft ci j = 3) → cty ci j = .boolean) ∧ (4 ≤ ft ci j → (cty ci j).isReference = true) := by decide +kernel
theorem zt_ty (ci : Nat) (h : ci < 13) : ∀ j, j < cN ci → parseFieldDescriptor (cT ci j).2.2.1 = some (cty ci j) := by
  intro j hj
  have h1 := zt_ty0 ci h
  rw [h1.1] at hj
  have h2 := (h1.2 j hj).1
  unfold cty
  cases hp : parseFieldDescriptor (cT ci j).2.2.1 with
  | none => rw [hp] at h2; cases h2
  | some t => rfl
set_option maxRecDepth 100000 in
set_option maxHeartbeats 4000000 in
theorem zt_new : ∀ r ∈ znw_l, lw_tbl[r.2.2.2]? = some (Cond.classLink (cn r.1) r.2.1 (cR r.2.2.1)) ∧ r.2.2.1 < 13 := by decide +kernel
set_option maxRecDepth 100000 in
set_option maxHeartbeats 4000000 in
theorem zt_ins : ∀ ci, ci < 13 → lw_tbl[([281, 215, 139, 133, 337, 122, 239, 357, 147, 116, 302, 108, 1248] : List Nat).getD ci 0]? = some (Cond.instantiable (cR ci) (cN ci)) ∧ lw_tbl[([101, 99, 97, 96, 103, 95, 100, 104, 98, 94, 102, 93, 105] : List Nat).getD ci 0]? = some (Cond.initialized (cR ci)) := by decide +kernel
set_option maxRecDepth 100000 in
set_option maxHeartbeats 4000000 in
theorem zt_ci : ∀ r ∈ zci_l, lw_tbl[r.2.2.1]? = some (Cond.constant (cn r.1) r.2.1 (Int32.ofInt r.2.2.2)) ∧ rg r.2.2.2 := by decide +kernel
set_option maxRecDepth 100000 in
set_option maxHeartbeats 4000000 in
theorem zt_cj : ∀ r ∈ zcj_l, lw_tbl[r.2.2.1]? = some (Cond.constantLong (cn r.1) r.2.1 (Int64.ofInt r.2.2.2)) ∧ rgl r.2.2.2 := by decide +kernel
def zgw : List Cond := lw_tbl.filter goodWord
theorem zt_ai : Cond.arrayClass .int ∈ lw_tbl := List.mem_of_getElem? (i := 131) (by decide +kernel)
theorem zt_ab : Cond.arrayClass .boolean ∈ lw_tbl := List.mem_of_getElem? (i := 1526) (by decide +kernel)
theorem zt_ob1 : Cond.instanceMethod objectInit ∈ lw_tbl := List.mem_of_getElem? (i := 113) (by decide +kernel)
theorem zt_ob2 : Cond.code objectInit ⟨#[0xb1]⟩ 1 none ∈ lw_tbl := List.mem_of_getElem? (i := 114) (by decide +kernel)
theorem zt_max1 : Cond.static Lib.Math.max.name ∈ lw_tbl := List.mem_of_getElem? (i := 1060) (by decide +kernel)
theorem zt_max2 : Cond.code Lib.Math.max.name Lib.Math.max.code 2 (some .int) ∈ lw_tbl := List.mem_of_getElem? (i := 1061) (by decide +kernel)
theorem zt_min1 : Cond.static Lib.Math.min.name ∈ lw_tbl := List.mem_of_getElem? (i := 491) (by decide +kernel)
theorem zt_min2 : Cond.code Lib.Math.min.name Lib.Math.min.code 2 (some .int) ∈ lw_tbl := List.mem_of_getElem? (i := 492) (by decide +kernel)
theorem zt_mth : Cond.initialized "java/lang/Math" ∈ lw_tbl := List.mem_of_getElem? (i := 106) (by decide +kernel)
end
section
/-! ===== THE REAL MACHINE FOLLOWS THE MINI MACHINE ===== -/
theorem zt_g {w : Cond} (h : w ∈ lw_tbl) (hg : goodWord w = true) : w ∈ zgw := List.mem_filter.mpr ⟨h, hg⟩
theorem zt_gp {w : Cond} {i : Nat} (h : lw_tbl[i]? = some w) (hg : goodWord w = true) : w ∈ zgw := zt_g (List.mem_of_getElem? h) hg
theorem zt_wsg (ci : Nat) (h : ci < 13) : ∀ w ∈ u_ws (cR ci) (cT ci) (cN ci), w ∈ zgw := by
  intro w hw
  refine zt_g (zt_ws ci h w hw) ?_
  obtain ⟨j, -, rfl⟩ := List.mem_map.mp hw
  unfold u_lay
  split <;> rfl
def wk (k : Nat) : List Cond := Cond.code (yk k) (bk k) (lk k) (rk k) :: zgw
theorem zt_codeg (k : Nat) (h : k < 13) : Cond.code (yk k) (bk k) (lk k) (rk k) ∈ zgw := zt_gp (zt_code k h) rfl
theorem wk_good (k : Nat) (h : k < 13) : GoodIn zgw (wk k) := by
  intro w hw
  have hm : w ∈ zgw := by
    rcases List.mem_cons.mp hw with rfl | h1
    · exact zt_codeg k h
    · exact h1
  exact ⟨hm, good_of_word (List.mem_filter.mp hm).2⟩
-- numbers
theorem zbm {x : Int} (h : rg x) : x.bmod (2 ^ 32) = x := by
  obtain ⟨h1, h2⟩ := h
  simp only [Int.bmod]
  split <;> omega
theorem zbl {x : Int} (h : rgl x) : x.bmod (2 ^ 64) = x := by
  obtain ⟨h1, h2⟩ := h
  simp only [Int.bmod]
  split <;> omega
theorem zi_of {x : Int} (h : rg x) : (Int32.ofInt x).toInt = x := by rw [Int32.toInt_ofInt, zbm h]
theorem zj_of {x : Int} (h : rgl x) : (Int64.ofInt x).toInt = x := by rw [Int64.toInt_ofInt, zbl h]
theorem zi_add {x y : Int32} (h : rg (x.toInt + y.toInt)) : (x + y).toInt = x.toInt + y.toInt := by rw [Int32.toInt_add, zbm h]
theorem zi_sub {x y : Int32} (h : rg (x.toInt - y.toInt)) : (x - y).toInt = x.toInt - y.toInt := by rw [Int32.toInt_sub, zbm h]
theorem zi_mul {x y : Int32} (h : rg (x.toInt * y.toInt)) : (x * y).toInt = x.toInt * y.toInt := by rw [Int32.toInt_mul, zbm h]
theorem zj_add {x y : Int64} (h : rgl (x.toInt + y.toInt)) : (x + y).toInt = x.toInt + y.toInt := by rw [Int64.toInt_add, zbl h]
theorem zi_nat {n : Nat} (h : n < 2147483648) : (Int32.ofNat n).toInt = n := Int32.toInt_ofNat_of_lt (by omega)
theorem zi_8 {n : Int} (h1 : -128 ≤ n) (h2 : n ≤ 127) : ((Int8.ofInt n).toInt32).toInt = n := by
  rw [Int8.toInt_toInt32, Int8.toInt_ofInt]
  simp only [Int.bmod, Int8.size]
  split <;> omega
theorem zi_16 {n : Int} (h1 : -32768 ≤ n) (h2 : n ≤ 32767) : ((Int16.ofInt n).toInt32).toInt = n := by
  rw [Int16.toInt_toInt32, Int16.toInt_ofInt]
  simp only [Int.bmod, Int16.size]
  split <;> omega
theorem zi_back (x : Int32) : Int32.ofInt x.toInt = x := Int32.ofInt_toInt x
theorem zi_rg (x : Int32) : rg x.toInt := by
  have h1 := Int32.le_toInt x
  have h2 := Int32.toInt_lt x
  constructor <;> omega
theorem zi_in {x : Int32} {n : Nat} (h1 : 0 ≤ x.toInt) (h2 : x.toInt < (n : Int)) : vp_in x n := by
  intro h
  rcases h with h | h
  · rw [Int32.lt_iff_toInt_lt] at h
    simp at h
    omega
  · rw [← Int32.toNat_toInt] at h
    omega
theorem zi_clamp {x : Int32} (h1 : 0 ≤ x.toInt) : ((x.toNatClampNeg : Nat) : Int) = x.toInt := by
  rw [← Int32.toNat_toInt]
  omega
-- the values
def zVr (b : Nat) (ad : Nat → Nat) (n : Nat) (v : zV) (w : Value) : Prop := match v with
  | .inl x => ∃ i : Int32, w = .int i ∧ i.toInt = x
  | .inr (.inl a) => w = .ref (ad a) ∧ a < n
  | .inr (.inr (.inl x)) => ∃ i : Int64, w = .long i ∧ i.toInt = x
  | .inr (.inr (.inr true)) => w = .ref b
  | .inr (.inr (.inr false)) => False
theorem zVr_cat {b : Nat} {ad : Nat → Nat} {n : Nat} {v : zV} {w : Value} (h : zVr b ad n v w) : w.category = zct v := by
  rcases v with x | a | x | u
  · obtain ⟨i, rfl, -⟩ := h; rfl
  · obtain ⟨rfl, -⟩ := h; rfl
  · obtain ⟨i, rfl, -⟩ := h; rfl
  · cases u
    · exact h.elim
    · have h : w = .ref b := h
      subst h; rfl
theorem zVr_c1 {b : Nat} {ad : Nat → Nat} {n : Nat} {v : zV} {w : Value} (h : zVr b ad n v w) (hl : zl v = false) : w.category = 1 := by
  rw [zVr_cat h, zct, hl]; rfl
theorem zVr_more {b : Nat} {ad ad' : Nat → Nat} {n n' : Nat} {v : zV} {w : Value} (h : zVr b ad n v w) (ha : ∀ a, a < n → ad' a = ad a) (hn : n ≤ n') : zVr b ad' n' v w := by
  rcases v with x | a | x | u
  · exact h
  · obtain ⟨rfl, h2⟩ := h; exact ⟨by rw [ha a h2], by omega⟩
  · exact h
  · cases u
    · exact h
    · exact h
def zSr (b : Nat) (ad : Nat → Nat) (n : Nat) : List zV → List Value → Prop
  | [], [] => True
  | v :: l, w :: m => zVr b ad n v w ∧ zSr b ad n l m
  | _, _ => False
theorem zSr_c {b : Nat} {ad : Nat → Nat} {n : Nat} {v : zV} {l : List zV} {st : List Value} (h : zSr b ad n (v :: l) st) : ∃ w m, st = w :: m ∧ zVr b ad n v w ∧ zSr b ad n l m := by
  cases st with
  | nil => exact h.elim
  | cons w m => exact ⟨w, m, rfl, h.1, h.2⟩
theorem zSr_n {b : Nat} {ad : Nat → Nat} {n : Nat} {st : List Value} (h : zSr b ad n [] st) : st = [] := by
  cases st with
  | nil => rfl
  | cons w m => exact h.elim
theorem zSr_more {b : Nat} {ad ad' : Nat → Nat} {n n' : Nat} (ha : ∀ a, a < n → ad' a = ad a) (hn : n ≤ n') : ∀ (l : List zV) (st : List Value), zSr b ad n l st → zSr b ad' n' l st := by
  intro l
  induction l with
  | nil => intro st h; rw [zSr_n h]; trivial
  | cons v l ih =>
    intro st h
    obtain ⟨w, m, rfl, h1, h2⟩ := zSr_c h
    exact ⟨zVr_more h1 ha hn, ih m h2⟩
theorem zSr_len {b : Nat} {ad : Nat → Nat} {n : Nat} : ∀ (l : List zV) (st : List Value), zSr b ad n l st → l.length = st.length := by
  intro l
  induction l with
  | nil => intro st h; rw [zSr_n h]; rfl
  | cons v l ih =>
    intro st h
    obtain ⟨w, m, rfl, h1, h2⟩ := zSr_c h
    simp [ih m h2]
theorem zSr_ws {b : Nat} {ad : Nat → Nat} {n : Nat} : ∀ (l : List zV) (st : List Value), zSr b ad n l st → (st.map fun v => v.category).sum = zws l := by
  intro l
  induction l with
  | nil => intro st h; rw [zSr_n h]; rfl
  | cons v l ih =>
    intro st h
    obtain ⟨w, m, rfl, h1, h2⟩ := zSr_c h
    have := ih m h2
    simp only [zws, List.map_cons, List.sum_cons] at this ⊢
    rw [this, zVr_cat h1]
theorem zSr_take {b : Nat} {ad : Nat → Nat} {n : Nat} : ∀ (j : Nat) (l : List zV) (st : List Value), zSr b ad n l st → zSr b ad n (l.take j) (st.take j) ∧ zSr b ad n (l.drop j) (st.drop j) := by
  intro j
  induction j with
  | zero => intro l st h; exact ⟨trivial, h⟩
  | succ j ih =>
    intro l st h
    cases l with
    | nil => rw [zSr_n h]; exact ⟨trivial, trivial⟩
    | cons v l =>
      obtain ⟨w, m, rfl, h1, h2⟩ := zSr_c h
      exact ⟨⟨h1, (ih l m h2).1⟩, (ih l m h2).2⟩
theorem zSr_app {b : Nat} {ad : Nat → Nat} {n : Nat} : ∀ (l : List zV) (st : List Value) (l2 : List zV) (st2 : List Value), zSr b ad n l st → zSr b ad n l2 st2 → zSr b ad n (l ++ l2) (st ++ st2) := by
  intro l
  induction l with
  | nil => intro st l2 st2 h h2; rw [zSr_n h]; exact h2
  | cons v l ih =>
    intro st l2 st2 h h2
    obtain ⟨w, m, rfl, h3, h4⟩ := zSr_c h
    exact ⟨h3, ih m l2 st2 h4 h2⟩
theorem zSr_rev {b : Nat} {ad : Nat → Nat} {n : Nat} : ∀ (l : List zV) (st : List Value), zSr b ad n l st → zSr b ad n l.reverse st.reverse := by
  intro l
  induction l with
  | nil => intro st h; rw [zSr_n h]; trivial
  | cons v l ih =>
    intro st h
    obtain ⟨w, m, rfl, h3, h4⟩ := zSr_c h
    simp only [List.reverse_cons]
    exact zSr_app _ _ _ _ (ih m h4) ⟨h3, trivial⟩
-- the locals
def zLr (b : Nat) (ad : Nat → Nat) (n nL : Nat) (hl : Bool) (ls : Array Slot) (ml : List zV) : Prop := ls.size = nL ∧ lv_wf ls ∧ ml.length = nL ∧ (hl = true ∨ ∀ v ∈ ml, zl v = false) ∧ ∀ (i : Nat) (v : zV), ml[i]? = some v → v = vU ∨ ∃ w, ls[i]? = some (.val w) ∧ zVr b ad n v w
theorem zLr_more {b : Nat} {ad ad' : Nat → Nat} {n n' nL : Nat} {hl : Bool} {ls : Array Slot} {ml : List zV} (h : zLr b ad n nL hl ls ml) (ha : ∀ a, a < n → ad' a = ad a) (hn : n ≤ n') : zLr b ad' n' nL hl ls ml := by
  obtain ⟨h1, h2, h3, h4, h5⟩ := h
  refine ⟨h1, h2, h3, h4, fun i v hi => ?_⟩
  rcases h5 i v hi with h | ⟨w, hw, hv⟩
  · exact Or.inl h
  · exact Or.inr ⟨w, hw, zVr_more hv ha hn⟩
def zlv (ls : Array Slot) : List (Nat × Value) := (List.range ls.size).filterMap (fun (j : Nat) => match (ls[j]? : Option Slot) with
  | some (.val w) => if w.category = 1 then some (j, w) else none
  | _ => none)
theorem zlv_mem {ls : Array Slot} {j : Nat} {w : Value} : (j, w) ∈ zlv ls ↔ ls[j]? = some (.val w) ∧ w.category = 1 := by
  constructor
  · intro h
    obtain ⟨i, -, hi⟩ := List.mem_filterMap.mp h
    cases hs : ls[i]? with
    | none => rw [hs] at hi; cases hi
    | some x =>
      rw [hs] at hi
      cases x with
      | val w' =>
        dsimp only at hi
        by_cases hc : w'.category = 1
        · rw [if_pos hc] at hi; cases hi; exact ⟨hs, hc⟩
        · rw [if_neg hc] at hi; cases hi
      | unset => cases hi
      | second => cases hi
  · rintro ⟨h, hc⟩
    refine List.mem_filterMap.mpr ⟨j, List.mem_range.mpr (lv_lt h), ?_⟩
    rw [h]
    dsimp only
    rw [if_pos hc]
theorem zlv_has {ls : Array Slot} {nL : Nat} (h : ls.size = nL) (hw : lv_wf ls) : lv_has ls nL (zlv ls) := ⟨h, hw, fun q hq => (zlv_mem (j := q.1) (w := q.2).mp hq).1⟩
theorem zLr_store {b : Nat} {ad : Nat → Nat} {n nL : Nat} {hl : Bool} {ls ls' : Array Slot} {ml : List zV} {i : Nat} {v : zV} {w : Value} (h : zLr b ad n nL hl ls ml) (hf : hl = false) (hz : zl v = false) (hv : zVr b ad n v w)
    (h' : lv_has ls' nL ((i, w) :: (zlv ls).filter (fun q => !(q.1 == i) && !(q.1 + 1 == i && q.2.category == 2)))) : zLr b ad n nL hl ls' (ml.set i v) := by
  obtain ⟨h1, h2, h3, h4, h5⟩ := h
  subst hf
  have h4 : ∀ v ∈ ml, zl v = false := by
    rcases h4 with h | h
    · cases h
    · exact h
  refine ⟨h'.1, h'.2.1, by simpa using h3, Or.inr (fun u hu => ?_), fun j u hj => ?_⟩
  · rcases List.mem_or_eq_of_mem_set hu with h | rfl
    · exact h4 u h
    · exact hz
  · by_cases e : j = i
    · subst e
      have hlt : j < ml.length := by
        have := (List.getElem?_eq_some_iff.mp hj).1
        simpa using this
      rw [List.getElem?_set_self hlt] at hj
      cases hj
      exact Or.inr ⟨w, h'.2.2 (j, w) List.mem_cons_self, hv⟩
    · rw [List.getElem?_set_ne (fun q => e q.symm)] at hj
      rcases h5 j u hj with h | ⟨w', hw', hv'⟩
      · exact Or.inl h
      · refine Or.inr ⟨w', ?_, hv'⟩
        have hc : w'.category = 1 := zVr_c1 hv' (h4 u (List.mem_of_getElem? hj))
        refine h'.2.2 (j, w') (List.mem_cons_of_mem _ (List.mem_filter.mpr ⟨zlv_mem.mpr ⟨hw', hc⟩, ?_⟩))
        simp [e, hc]
end
section
/-! ===== the world, the frame's context, one step ===== -/
def zFl (ad : Nat → Nat) (f : Nat → Int32) (ci : Nat) (dat : List Nat) : List Value := (List.range dat.length).map fun j => if ft ci j ≤ 1 then .int (f j) else if ft ci j ≤ 3 then .int (Int32.ofNat (dat.getD j 0)) else if dat.getD j 0 = 0 then .null else .ref (ad (dat.getD j 0 - 1))
def zE (ad : Nat → Nat) (cA : Nat → ClassId) (F : Nat → Nat → Int32) (a : Nat) (q : Nat × List Nat) : va_E := if q.1 ≤ 1 then .inl (cA a, q.2.getD 0 0, .inl (F a)) else .inr (q.1 - 2, zFl ad (F a) (q.1 - 2) q.2)
def zWf (q : Nat × List Nat) (n : Nat) : Prop := (q.1 ≤ 1 ∧ q.2.getD 0 0 < 2147483648) ∨ (2 ≤ q.1 ∧ q.1 - 2 < 13 ∧ q.2.length = nf (q.1 - 2) ∧ ∀ j, j < q.2.length → (ft (q.1 - 2) j ≤ 3 → q.2.getD j 0 < 2147483648) ∧ (4 ≤ ft (q.1 - 2) j → q.2.getD j 0 ≤ n))
def zWo (D : va_G) (base b : Nat) (xs : Nat → Int32) (ad : Nat → Nat) (cA : Nat → ClassId) (F : Nat → Nat → Int32) (S : zS) (I : zM) (U : State) (H : Heap) : Prop :=
  ∃ (tys : List (ClassId × FieldType)) (ws : va_W), va_K D vwCl tys U ∧ va_P D vwCl ws H ∧ va_D (fun q => base ≤ q) ws ∧ base ≤ H.size ∧ b < base ∧ va_X b S.2.1 xs U H ∧ S.2.1 < 2147483648 ∧ (∀ j : Nat, j < S.2.1 → S.2.2 j = (xs j).toInt) ∧
    ws.length = S.1.length ∧ (∀ (a : Nat) (q : Nat × List Nat), S.1[a]? = some q → ws[a]? = some (ad a, zE ad cA F a q) ∧ zWf q S.1.length ∧ (q.1 = 0 → ∃ t : Nat, tys[t]? = some (cA a, .int)) ∧ (q.1 = 1 → ∃ t : Nat, tys[t]? = some (cA a, .boolean))) ∧ (∀ a (j : Nat), a < S.1.length → I a j = (F a j).toInt) ∧ (∀ r ∈ zlk_l, r.2.2.1 = 1 → va_Nw (zlc r) U)
def zCx (k : Nat) (R : Room) (p : Program) (s : State) (m : MethodId) (args : Array Value) (meth : Method) (c : Code) : Prop := p.tables.exec = Jvm.exec ∧ c.code = bk k ∧ c.maxLocals = lk k ∧ s.vm.findClass (cn (ok k)) = some m.cls ∧ (∀ w ∈ zgw, w.before args s = true) ∧ R.frames = fk k ∧ R.locals = ck k ∧ (ik k = 2 → meth.name = "<init>")
def zsl (S : zS) : Nat := (S.1.map (fun q => if q.1 ≤ 1 then q.2.getD 0 0 else q.2.length)).sum
def zK (D : va_G) (base b : Nat) (xs : Nat → Int32) (k : Nat) (p : Program) (l : Launch) (e : Env) (R : Room) (s : State) (m : MethodId) (args : Array Value) (below : List Frame) (meth : Method) (c : Code) (Q : State → Prop) (S S' : zS) (I' : zM) (ad : Nat → Nat) (cells slots pc' : Nat) (ml' mst' : List zV) : Prop :=
  ∀ (ad' : Nat → Nat) (cA' : Nat → ClassId) (F' : Nat → Nat → Int32) (H' : Heap) (locs' : List Loc) (ls' : Array Slot) (st' : List Value), zWo D base b xs ad' cA' F' S' I' s H' → va_S (fun q => base ≤ q) s.heap H' locs' → zLr b ad' S'.1.length (lk k) (hk k) ls' ml' → zSr b ad' S'.1.length mst' st' → (∀ a, a < S.1.length → ad' a = ad a) →
    W p l e R s m args below meth c H' locs' (cells + (S'.1.length - S.1.length)) (slots + (zsl S' - zsl S)) Q (F0 m pc' ls' st')
section ZN
variable {D : va_G} {base b : Nat} {xs : Nat → Int32} {k : Nat} {p : Program} {l : Launch} {e : Env} {R : Room} {s : State} {m : MethodId} {args : Array Value} {below : List Frame} {meth : Method} {c : Code} {Q : State → Prop} {S : zS} {I : zM} {ad : Nat → Nat} {cA : Nat → ClassId} {F : Nat → Nat → Int32} {H : Heap} {locs : List Loc} {cells slots pc : Nat} {ml mst : List zV} {ls : Array Slot} {st : List Value}
theorem zK.go {pc' : Nat} {ml' mst' : List zV} {ls' : Array Slot} {st' : List Value} (h : zK D base b xs k p l e R s m args below meth c Q S S I ad cells slots pc' ml' mst') (W0 : zWo D base b xs ad cA F S I s H) (hS : va_S (fun q => base ≤ q) s.heap H locs) (hL : zLr b ad S.1.length (lk k) (hk k) ls' ml') (hT : zSr b ad S.1.length mst' st') : W p l e R s m args below meth c H locs cells slots Q (F0 m pc' ls' st') := by
  have h1 := h ad cA F H locs ls' st' W0 hS hL hT (fun _ _ => rfl)
  simpa using h1
theorem zSr_i {x : Int} {r : List zV} {n : Nat} (h : zSr b ad n (.inl x :: r) st) : ∃ (i : Int32) (q : List Value), st = .int i :: q ∧ i.toInt = x ∧ zSr b ad n r q := by
  obtain ⟨w, q, rfl, ⟨i, rfl, h1⟩, h2⟩ := zSr_c h
  exact ⟨i, q, rfl, h1, h2⟩
theorem zSr_j {x : Int} {r : List zV} {n : Nat} (h : zSr b ad n (.inr (.inr (.inl x)) :: r) st) : ∃ (i : Int64) (q : List Value), st = .long i :: q ∧ i.toInt = x ∧ zSr b ad n r q := by
  obtain ⟨w, q, rfl, ⟨i, rfl, h1⟩, h2⟩ := zSr_c h
  exact ⟨i, q, rfl, h1, h2⟩
theorem zSr_r {a : Nat} {r : List zV} {n : Nat} (h : zSr b ad n (.inr (.inl a) :: r) st) : ∃ (q : List Value), st = .ref (ad a) :: q ∧ a < n ∧ zSr b ad n r q := by
  obtain ⟨w, q, rfl, ⟨rfl, h1⟩, h2⟩ := zSr_c h
  exact ⟨q, rfl, h1, h2⟩
theorem zSr_x {r : List zV} {n : Nat} (h : zSr b ad n (.inr (.inr (.inr true)) :: r) st) : ∃ (q : List Value), st = .ref b :: q ∧ zSr b ad n r q := by
  obtain ⟨w, q, rfl, h1, h2⟩ := zSr_c h
  have h1 : w = .ref b := h1
  subst h1
  exact ⟨q, rfl, h2⟩
theorem zLr_i {i : Nat} {x : Int} {n nL : Nat} {hl : Bool} (h : zLr b ad n nL hl ls ml) (hi : ml[i]? = some (.inl x)) : ∃ w : Int32, ls[i]? = some (.val (.int w)) ∧ w.toInt = x := by
  rcases h.2.2.2.2 i _ hi with h | ⟨w, hw, ⟨i, rfl, h2⟩⟩
  · cases h
  · exact ⟨i, hw, h2⟩
theorem zLr_j {i : Nat} {x : Int} {n nL : Nat} {hl : Bool} (h : zLr b ad n nL hl ls ml) (hi : ml[i]? = some (.inr (.inr (.inl x)))) : ∃ w : Int64, ls[i]? = some (.val (.long w)) ∧ w.toInt = x := by
  rcases h.2.2.2.2 i _ hi with h | ⟨w, hw, ⟨i, rfl, h2⟩⟩
  · cases h
  · exact ⟨i, hw, h2⟩
theorem zLr_r {i a : Nat} {n nL : Nat} {hl : Bool} (h : zLr b ad n nL hl ls ml) (hi : ml[i]? = some (.inr (.inl a))) : ls[i]? = some (.val (.ref (ad a))) ∧ a < n := by
  rcases h.2.2.2.2 i _ hi with h | ⟨w, hw, ⟨rfl, h2⟩⟩
  · cases h
  · exact ⟨hw, h2⟩
theorem zLr_x {i : Nat} {n nL : Nat} {hl : Bool} (h : zLr b ad n nL hl ls ml) (hi : ml[i]? = some (.inr (.inr (.inr true)))) : ls[i]? = some (.val (.ref b)) := by
  rcases h.2.2.2.2 i _ hi with h | ⟨w, hw, h2⟩
  · cases h
  · have h2 : w = .ref b := h2
    subst h2
    exact hw
theorem zfd_of {c cp ci j : Nat} (h : fd c cp = some (ci, j)) : ∃ i : Nat, lw_tbl[i]? = some (Cond.fieldLink (cn c) cp (cT ci j).1 (cT ci j).2.1 (cT ci j).2.2.1) ∧ ci < 13 ∧ j < cN ci := by
  unfold fd at h
  cases hf : zfd_l.find? (fun r => r.1 == c && r.2.1 == cp) with
  | none => rw [hf] at h; cases h
  | some r =>
    rw [hf] at h
    cases h
    have h1 := List.find?_some hf
    have h2 := zt_fld r (List.mem_of_find?_eq_some hf)
    simp only [Bool.and_eq_true, beq_iff_eq] at h1
    rw [← h1.1, ← h1.2]
    exact ⟨_, h2⟩
theorem znw_of {c cp ci : Nat} (h : nw c cp = some ci) : ∃ i : Nat, lw_tbl[i]? = some (Cond.classLink (cn c) cp (cR ci)) ∧ ci < 13 := by
  unfold nw at h
  cases hf : znw_l.find? (fun r => r.1 == c && r.2.1 == cp) with
  | none => rw [hf] at h; cases h
  | some r =>
    rw [hf] at h
    cases h
    have h1 := List.find?_some hf
    have h2 := zt_new r (List.mem_of_find?_eq_some hf)
    simp only [Bool.and_eq_true, beq_iff_eq] at h1
    rw [← h1.1, ← h1.2]
    exact ⟨_, h2⟩
theorem zki_of {c cp : Nat} {v : Int} (h : ki c cp = some v) : ∃ i : Nat, lw_tbl[i]? = some (Cond.constant (cn c) cp (Int32.ofInt v)) ∧ rg v := by
  unfold ki at h
  cases hf : zci_l.find? (fun r => r.1 == c && r.2.1 == cp) with
  | none => rw [hf] at h; cases h
  | some r =>
    rw [hf] at h
    cases h
    have h1 := List.find?_some hf
    have h2 := zt_ci r (List.mem_of_find?_eq_some hf)
    simp only [Bool.and_eq_true, beq_iff_eq] at h1
    rw [← h1.1, ← h1.2]
    exact ⟨_, h2⟩
theorem zkj_of {c cp : Nat} {v : Int} (h : kj c cp = some v) : ∃ i : Nat, lw_tbl[i]? = some (Cond.constantLong (cn c) cp (Int64.ofInt v)) ∧ rgl v := by
  unfold kj at h
  cases hf : zcj_l.find? (fun r => r.1 == c && r.2.1 == cp) with
  | none => rw [hf] at h; cases h
  | some r =>
    rw [hf] at h
    cases h
    have h1 := List.find?_some hf
    have h2 := zt_cj r (List.mem_of_find?_eq_some hf)
    simp only [Bool.and_eq_true, beq_iff_eq] at h1
    rw [← h1.1, ← h1.2]
    exact ⟨_, h2⟩
theorem zlkk_of {c cp q k' : Nat} (h : lkk c cp = some (q, k')) : ∃ r ∈ zlk_l, r.1 = c ∧ r.2.1 = cp ∧ r.2.2.1 = q ∧ r.2.2.2.1 = k' ∧ zlc r ∈ lw_tbl ∧ k' < 13 := by
  unfold lkk at h
  cases hf : zlk_l.find? (fun r => r.1 == c && r.2.1 == cp) with
  | none => rw [hf] at h; cases h
  | some r =>
    rw [hf] at h
    cases h
    have h1 := List.find?_some hf
    have h2 := zt_link r (List.mem_of_find?_eq_some hf)
    simp only [Bool.and_eq_true, beq_iff_eq] at h1
    exact ⟨r, List.mem_of_find?_eq_some hf, h1.1, h1.2, rfl, rfl, List.mem_of_getElem? h2.1, h2.2⟩
theorem zn_iconst {n : Int} {len pc' : Nat} {ml' mst' : List zV} {S' : zS} {I' : zM} (Cx : zCx k R p s m args meth c) (hbs : base ≤ s.heap.size) (hdg : decode (bk k) pc = .ok (.iconst n, len)) (h : sti k pc ml mst S I len (.iconst n) = some (.inl (pc', ml', mst', S', I'))) (W0 : zWo D base b xs ad cA F S I s H) (hS : va_S (fun q => base ≤ q) s.heap H locs) (hL : zLr b ad S.1.length (lk k) (hk k) ls ml) (hT : zSr b ad S.1.length mst st) (hc : cells + (S'.1.length - S.1.length) ≤ R.cells) (hs : slots + (zsl S' - zsl S) ≤ R.slots)
    (kk : zK D base b xs k p l e R s m args below meth c Q S S' I' ad cells slots pc' ml' mst') : W p l e R s m args below meth c H locs cells slots Q (F0 m pc ls st) := by
  obtain ⟨hx, hb, hml, hown, hts, hRf, hRl, hni⟩ := Cx
  simp only [sti] at h
  split at h
  · rename_i h0
    obtain ⟨rfl, hr⟩ := h0
    simp only [nx, Option.some.injEq, Sum.inl.injEq, Prod.mk.injEq] at h
    obtain ⟨rfl, rfl, rfl, rfl, rfl⟩ := h
    exact lv_iconst hx hb hdg rfl (kk.go W0 hS hL ⟨⟨_, rfl, zi_of hr⟩, hT⟩)
  · cases h
theorem zn_bipush {n : Int} {len pc' : Nat} {ml' mst' : List zV} {S' : zS} {I' : zM} (Cx : zCx k R p s m args meth c) (hbs : base ≤ s.heap.size) (hdg : decode (bk k) pc = .ok (.bipush n, len)) (h : sti k pc ml mst S I len (.bipush n) = some (.inl (pc', ml', mst', S', I'))) (W0 : zWo D base b xs ad cA F S I s H) (hS : va_S (fun q => base ≤ q) s.heap H locs) (hL : zLr b ad S.1.length (lk k) (hk k) ls ml) (hT : zSr b ad S.1.length mst st) (hc : cells + (S'.1.length - S.1.length) ≤ R.cells) (hs : slots + (zsl S' - zsl S) ≤ R.slots)
    (kk : zK D base b xs k p l e R s m args below meth c Q S S' I' ad cells slots pc' ml' mst') : W p l e R s m args below meth c H locs cells slots Q (F0 m pc ls st) := by
  obtain ⟨hx, hb, hml, hown, hts, hRf, hRl, hni⟩ := Cx
  simp only [sti] at h
  split at h
  · rename_i h0
    obtain ⟨rfl, hr⟩ := h0
    simp only [nx, Option.some.injEq, Sum.inl.injEq, Prod.mk.injEq] at h
    obtain ⟨rfl, rfl, rfl, rfl, rfl⟩ := h
    exact lv_bipush hx hb hdg rfl (kk.go W0 hS hL ⟨⟨_, rfl, zi_8 hr.1 hr.2⟩, hT⟩)
  · cases h
theorem zn_sipush {n : Int} {len pc' : Nat} {ml' mst' : List zV} {S' : zS} {I' : zM} (Cx : zCx k R p s m args meth c) (hbs : base ≤ s.heap.size) (hdg : decode (bk k) pc = .ok (.sipush n, len)) (h : sti k pc ml mst S I len (.sipush n) = some (.inl (pc', ml', mst', S', I'))) (W0 : zWo D base b xs ad cA F S I s H) (hS : va_S (fun q => base ≤ q) s.heap H locs) (hL : zLr b ad S.1.length (lk k) (hk k) ls ml) (hT : zSr b ad S.1.length mst st) (hc : cells + (S'.1.length - S.1.length) ≤ R.cells) (hs : slots + (zsl S' - zsl S) ≤ R.slots)
    (kk : zK D base b xs k p l e R s m args below meth c Q S S' I' ad cells slots pc' ml' mst') : W p l e R s m args below meth c H locs cells slots Q (F0 m pc ls st) := by
  obtain ⟨hx, hb, hml, hown, hts, hRf, hRl, hni⟩ := Cx
  simp only [sti] at h
  split at h
  · rename_i h0
    obtain ⟨rfl, hr⟩ := h0
    simp only [nx, Option.some.injEq, Sum.inl.injEq, Prod.mk.injEq] at h
    obtain ⟨rfl, rfl, rfl, rfl, rfl⟩ := h
    exact lv_sipush hx hb hdg rfl (kk.go W0 hS hL ⟨⟨_, rfl, zi_16 hr.1 hr.2⟩, hT⟩)
  · cases h
theorem zn_lconst {n : Fin 2} {len pc' : Nat} {ml' mst' : List zV} {S' : zS} {I' : zM} (Cx : zCx k R p s m args meth c) (hbs : base ≤ s.heap.size) (hdg : decode (bk k) pc = .ok (.lconst n, len)) (h : sti k pc ml mst S I len (.lconst n) = some (.inl (pc', ml', mst', S', I'))) (W0 : zWo D base b xs ad cA F S I s H) (hS : va_S (fun q => base ≤ q) s.heap H locs) (hL : zLr b ad S.1.length (lk k) (hk k) ls ml) (hT : zSr b ad S.1.length mst st) (hc : cells + (S'.1.length - S.1.length) ≤ R.cells) (hs : slots + (zsl S' - zsl S) ≤ R.slots)
    (kk : zK D base b xs k p l e R s m args below meth c Q S S' I' ad cells slots pc' ml' mst') : W p l e R s m args below meth c H locs cells slots Q (F0 m pc ls st) := by
  obtain ⟨hx, hb, hml, hown, hts, hRf, hRl, hni⟩ := Cx
  simp only [sti] at h
  split at h
  · rename_i h0
    subst h0
    simp only [nx, Option.some.injEq, Sum.inl.injEq, Prod.mk.injEq] at h
    obtain ⟨rfl, rfl, rfl, rfl, rfl⟩ := h
    refine lv_lconst hx hb hdg rfl (kk.go W0 hS hL ⟨⟨_, rfl, ?_⟩, hT⟩)
    rcases n with ⟨n, hn⟩
    have : n = 0 ∨ n = 1 := by omega
    rcases this with rfl | rfl <;> rfl
  · cases h
theorem zn_ldc {n : Nat} {len pc' : Nat} {ml' mst' : List zV} {S' : zS} {I' : zM} (Cx : zCx k R p s m args meth c) (hbs : base ≤ s.heap.size) (hdg : decode (bk k) pc = .ok (.ldc n, len)) (h : sti k pc ml mst S I len (.ldc n) = some (.inl (pc', ml', mst', S', I'))) (W0 : zWo D base b xs ad cA F S I s H) (hS : va_S (fun q => base ≤ q) s.heap H locs) (hL : zLr b ad S.1.length (lk k) (hk k) ls ml) (hT : zSr b ad S.1.length mst st) (hc : cells + (S'.1.length - S.1.length) ≤ R.cells) (hs : slots + (zsl S' - zsl S) ≤ R.slots)
    (kk : zK D base b xs k p l e R s m args below meth c Q S S' I' ad cells slots pc' ml' mst') : W p l e R s m args below meth c H locs cells slots Q (F0 m pc ls st) := by
  obtain ⟨hx, hb, hml, hown, hts, hRf, hRl, hni⟩ := Cx
  simp only [sti] at h
  split at h
  · rename_i h0
    subst h0
    split at h
    · rename_i v hv
      simp only [nx, Option.some.injEq, Sum.inl.injEq, Prod.mk.injEq] at h
      obtain ⟨rfl, rfl, rfl, rfl, rfl⟩ := h
      obtain ⟨i, h1, h2⟩ := zki_of hv
      exact lv_ldc hx hb hown (hts _ (zt_gp h1 rfl)) hdg (kk.go W0 hS hL ⟨⟨_, rfl, zi_of h2⟩, hT⟩)
    · cases h
  · cases h
theorem zn_ldc_w {n : Nat} {len pc' : Nat} {ml' mst' : List zV} {S' : zS} {I' : zM} (Cx : zCx k R p s m args meth c) (hbs : base ≤ s.heap.size) (hdg : decode (bk k) pc = .ok (.ldc_w n, len)) (h : sti k pc ml mst S I len (.ldc_w n) = some (.inl (pc', ml', mst', S', I'))) (W0 : zWo D base b xs ad cA F S I s H) (hS : va_S (fun q => base ≤ q) s.heap H locs) (hL : zLr b ad S.1.length (lk k) (hk k) ls ml) (hT : zSr b ad S.1.length mst st) (hc : cells + (S'.1.length - S.1.length) ≤ R.cells) (hs : slots + (zsl S' - zsl S) ≤ R.slots)
    (kk : zK D base b xs k p l e R s m args below meth c Q S S' I' ad cells slots pc' ml' mst') : W p l e R s m args below meth c H locs cells slots Q (F0 m pc ls st) := by
  obtain ⟨hx, hb, hml, hown, hts, hRf, hRl, hni⟩ := Cx
  simp only [sti] at h
  split at h
  · rename_i h0
    subst h0
    split at h
    · rename_i v hv
      simp only [nx, Option.some.injEq, Sum.inl.injEq, Prod.mk.injEq] at h
      obtain ⟨rfl, rfl, rfl, rfl, rfl⟩ := h
      obtain ⟨i, h1, h2⟩ := zki_of hv
      exact lv_ldcw hx hb hown (hts _ (zt_gp h1 rfl)) hdg (kk.go W0 hS hL ⟨⟨_, rfl, zi_of h2⟩, hT⟩)
    · cases h
  · cases h
theorem zn_ldc2_w {n : Nat} {len pc' : Nat} {ml' mst' : List zV} {S' : zS} {I' : zM} (Cx : zCx k R p s m args meth c) (hbs : base ≤ s.heap.size) (hdg : decode (bk k) pc = .ok (.ldc2_w n, len)) (h : sti k pc ml mst S I len (.ldc2_w n) = some (.inl (pc', ml', mst', S', I'))) (W0 : zWo D base b xs ad cA F S I s H) (hS : va_S (fun q => base ≤ q) s.heap H locs) (hL : zLr b ad S.1.length (lk k) (hk k) ls ml) (hT : zSr b ad S.1.length mst st) (hc : cells + (S'.1.length - S.1.length) ≤ R.cells) (hs : slots + (zsl S' - zsl S) ≤ R.slots)
    (kk : zK D base b xs k p l e R s m args below meth c Q S S' I' ad cells slots pc' ml' mst') : W p l e R s m args below meth c H locs cells slots Q (F0 m pc ls st) := by
  obtain ⟨hx, hb, hml, hown, hts, hRf, hRl, hni⟩ := Cx
  simp only [sti] at h
  split at h
  · rename_i h0
    subst h0
    split at h
    · rename_i v hv
      simp only [nx, Option.some.injEq, Sum.inl.injEq, Prod.mk.injEq] at h
      obtain ⟨rfl, rfl, rfl, rfl, rfl⟩ := h
      obtain ⟨i, h1, h2⟩ := zkj_of hv
      exact lv_ldc2 hx hb hown (hts _ (zt_gp h1 rfl)) hdg (kk.go W0 hS hL ⟨⟨_, rfl, zj_of h2⟩, hT⟩)
    · cases h
  · cases h
theorem zn_iload_n {n : Fin 4} {len pc' : Nat} {ml' mst' : List zV} {S' : zS} {I' : zM} (Cx : zCx k R p s m args meth c) (hbs : base ≤ s.heap.size) (hdg : decode (bk k) pc = .ok (.iload_n n, len)) (h : sti k pc ml mst S I len (.iload_n n) = some (.inl (pc', ml', mst', S', I'))) (W0 : zWo D base b xs ad cA F S I s H) (hS : va_S (fun q => base ≤ q) s.heap H locs) (hL : zLr b ad S.1.length (lk k) (hk k) ls ml) (hT : zSr b ad S.1.length mst st) (hc : cells + (S'.1.length - S.1.length) ≤ R.cells) (hs : slots + (zsl S' - zsl S) ≤ R.slots)
    (kk : zK D base b xs k p l e R s m args below meth c Q S S' I' ad cells slots pc' ml' mst') : W p l e R s m args below meth c H locs cells slots Q (F0 m pc ls st) := by
  obtain ⟨hx, hb, hml, hown, hts, hRf, hRl, hni⟩ := Cx
  simp only [sti] at h
  split at h
  · rename_i h0
    subst h0
    split at h
    · rename_i x hv
      simp only [nx, Option.some.injEq, Sum.inl.injEq, Prod.mk.injEq] at h
      obtain ⟨rfl, rfl, rfl, rfl, rfl⟩ := h
      obtain ⟨w, h1, h2⟩ := zLr_i hL hv
      exact lv_iload_n hx hb hdg rfl h1 (kk.go W0 hS hL ⟨⟨w, rfl, h2⟩, hT⟩)
    · cases h
  · cases h
theorem zn_iload {n : Nat} {len pc' : Nat} {ml' mst' : List zV} {S' : zS} {I' : zM} (Cx : zCx k R p s m args meth c) (hbs : base ≤ s.heap.size) (hdg : decode (bk k) pc = .ok (.iload n, len)) (h : sti k pc ml mst S I len (.iload n) = some (.inl (pc', ml', mst', S', I'))) (W0 : zWo D base b xs ad cA F S I s H) (hS : va_S (fun q => base ≤ q) s.heap H locs) (hL : zLr b ad S.1.length (lk k) (hk k) ls ml) (hT : zSr b ad S.1.length mst st) (hc : cells + (S'.1.length - S.1.length) ≤ R.cells) (hs : slots + (zsl S' - zsl S) ≤ R.slots)
    (kk : zK D base b xs k p l e R s m args below meth c Q S S' I' ad cells slots pc' ml' mst') : W p l e R s m args below meth c H locs cells slots Q (F0 m pc ls st) := by
  obtain ⟨hx, hb, hml, hown, hts, hRf, hRl, hni⟩ := Cx
  simp only [sti] at h
  split at h
  · rename_i h0
    subst h0
    split at h
    · rename_i x hv
      simp only [nx, Option.some.injEq, Sum.inl.injEq, Prod.mk.injEq] at h
      obtain ⟨rfl, rfl, rfl, rfl, rfl⟩ := h
      obtain ⟨w, h1, h2⟩ := zLr_i hL hv
      exact lv_iload hx hb hdg h1 (kk.go W0 hS hL ⟨⟨w, rfl, h2⟩, hT⟩)
    · cases h
  · cases h
theorem zn_lload_n {n : Fin 4} {len pc' : Nat} {ml' mst' : List zV} {S' : zS} {I' : zM} (Cx : zCx k R p s m args meth c) (hbs : base ≤ s.heap.size) (hdg : decode (bk k) pc = .ok (.lload_n n, len)) (h : sti k pc ml mst S I len (.lload_n n) = some (.inl (pc', ml', mst', S', I'))) (W0 : zWo D base b xs ad cA F S I s H) (hS : va_S (fun q => base ≤ q) s.heap H locs) (hL : zLr b ad S.1.length (lk k) (hk k) ls ml) (hT : zSr b ad S.1.length mst st) (hc : cells + (S'.1.length - S.1.length) ≤ R.cells) (hs : slots + (zsl S' - zsl S) ≤ R.slots)
    (kk : zK D base b xs k p l e R s m args below meth c Q S S' I' ad cells slots pc' ml' mst') : W p l e R s m args below meth c H locs cells slots Q (F0 m pc ls st) := by
  obtain ⟨hx, hb, hml, hown, hts, hRf, hRl, hni⟩ := Cx
  simp only [sti] at h
  split at h
  · rename_i h0
    subst h0
    split at h
    · rename_i x hv
      simp only [nx, Option.some.injEq, Sum.inl.injEq, Prod.mk.injEq] at h
      obtain ⟨rfl, rfl, rfl, rfl, rfl⟩ := h
      obtain ⟨w, h1, h2⟩ := zLr_j hL hv
      exact lv_lload_n hx hb hdg rfl h1 (kk.go W0 hS hL ⟨⟨w, rfl, h2⟩, hT⟩)
    · cases h
  · cases h
theorem zn_lload {n : Nat} {len pc' : Nat} {ml' mst' : List zV} {S' : zS} {I' : zM} (Cx : zCx k R p s m args meth c) (hbs : base ≤ s.heap.size) (hdg : decode (bk k) pc = .ok (.lload n, len)) (h : sti k pc ml mst S I len (.lload n) = some (.inl (pc', ml', mst', S', I'))) (W0 : zWo D base b xs ad cA F S I s H) (hS : va_S (fun q => base ≤ q) s.heap H locs) (hL : zLr b ad S.1.length (lk k) (hk k) ls ml) (hT : zSr b ad S.1.length mst st) (hc : cells + (S'.1.length - S.1.length) ≤ R.cells) (hs : slots + (zsl S' - zsl S) ≤ R.slots)
    (kk : zK D base b xs k p l e R s m args below meth c Q S S' I' ad cells slots pc' ml' mst') : W p l e R s m args below meth c H locs cells slots Q (F0 m pc ls st) := by
  obtain ⟨hx, hb, hml, hown, hts, hRf, hRl, hni⟩ := Cx
  simp only [sti] at h
  split at h
  · rename_i h0
    subst h0
    split at h
    · rename_i x hv
      simp only [nx, Option.some.injEq, Sum.inl.injEq, Prod.mk.injEq] at h
      obtain ⟨rfl, rfl, rfl, rfl, rfl⟩ := h
      obtain ⟨w, h1, h2⟩ := zLr_j hL hv
      exact lv_lload hx hb hdg h1 (kk.go W0 hS hL ⟨⟨w, rfl, h2⟩, hT⟩)
    · cases h
  · cases h
theorem zn_aload_n {n : Fin 4} {len pc' : Nat} {ml' mst' : List zV} {S' : zS} {I' : zM} (Cx : zCx k R p s m args meth c) (hbs : base ≤ s.heap.size) (hdg : decode (bk k) pc = .ok (.aload_n n, len)) (h : sti k pc ml mst S I len (.aload_n n) = some (.inl (pc', ml', mst', S', I'))) (W0 : zWo D base b xs ad cA F S I s H) (hS : va_S (fun q => base ≤ q) s.heap H locs) (hL : zLr b ad S.1.length (lk k) (hk k) ls ml) (hT : zSr b ad S.1.length mst st) (hc : cells + (S'.1.length - S.1.length) ≤ R.cells) (hs : slots + (zsl S' - zsl S) ≤ R.slots)
    (kk : zK D base b xs k p l e R s m args below meth c Q S S' I' ad cells slots pc' ml' mst') : W p l e R s m args below meth c H locs cells slots Q (F0 m pc ls st) := by
  obtain ⟨hx, hb, hml, hown, hts, hRf, hRl, hni⟩ := Cx
  simp only [sti] at h
  split at h
  · rename_i h0
    subst h0
    split at h
    · rename_i x hv
      simp only [nx, Option.some.injEq, Sum.inl.injEq, Prod.mk.injEq] at h
      obtain ⟨rfl, rfl, rfl, rfl, rfl⟩ := h
      obtain ⟨h1, h2⟩ := zLr_r hL hv
      exact lv_aload_n hx hb hdg rfl h1 (kk.go W0 hS hL ⟨⟨rfl, h2⟩, hT⟩)
    · rename_i hv
      simp only [nx, Option.some.injEq, Sum.inl.injEq, Prod.mk.injEq] at h
      obtain ⟨rfl, rfl, rfl, rfl, rfl⟩ := h
      have h1 := zLr_x hL hv
      exact lv_aload_n hx hb hdg rfl h1 (kk.go W0 hS hL ⟨rfl, hT⟩)
    · cases h
  · cases h
theorem zn_aload {n : Nat} {len pc' : Nat} {ml' mst' : List zV} {S' : zS} {I' : zM} (Cx : zCx k R p s m args meth c) (hbs : base ≤ s.heap.size) (hdg : decode (bk k) pc = .ok (.aload n, len)) (h : sti k pc ml mst S I len (.aload n) = some (.inl (pc', ml', mst', S', I'))) (W0 : zWo D base b xs ad cA F S I s H) (hS : va_S (fun q => base ≤ q) s.heap H locs) (hL : zLr b ad S.1.length (lk k) (hk k) ls ml) (hT : zSr b ad S.1.length mst st) (hc : cells + (S'.1.length - S.1.length) ≤ R.cells) (hs : slots + (zsl S' - zsl S) ≤ R.slots)
    (kk : zK D base b xs k p l e R s m args below meth c Q S S' I' ad cells slots pc' ml' mst') : W p l e R s m args below meth c H locs cells slots Q (F0 m pc ls st) := by
  obtain ⟨hx, hb, hml, hown, hts, hRf, hRl, hni⟩ := Cx
  simp only [sti] at h
  split at h
  · rename_i h0
    subst h0
    split at h
    · rename_i x hv
      simp only [nx, Option.some.injEq, Sum.inl.injEq, Prod.mk.injEq] at h
      obtain ⟨rfl, rfl, rfl, rfl, rfl⟩ := h
      obtain ⟨h1, h2⟩ := zLr_r hL hv
      exact lv_aload hx hb hdg h1 (kk.go W0 hS hL ⟨⟨rfl, h2⟩, hT⟩)
    · cases h
  · cases h
theorem zn_istore_n {n : Fin 4} {len pc' : Nat} {ml' mst' : List zV} {S' : zS} {I' : zM} (Cx : zCx k R p s m args meth c) (hbs : base ≤ s.heap.size) (hdg : decode (bk k) pc = .ok (.istore_n n, len)) (h : sti k pc ml mst S I len (.istore_n n) = some (.inl (pc', ml', mst', S', I'))) (W0 : zWo D base b xs ad cA F S I s H) (hS : va_S (fun q => base ≤ q) s.heap H locs) (hL : zLr b ad S.1.length (lk k) (hk k) ls ml) (hT : zSr b ad S.1.length mst st) (hc : cells + (S'.1.length - S.1.length) ≤ R.cells) (hs : slots + (zsl S' - zsl S) ≤ R.slots)
    (kk : zK D base b xs k p l e R s m args below meth c Q S S' I' ad cells slots pc' ml' mst') : W p l e R s m args below meth c H locs cells slots Q (F0 m pc ls st) := by
  obtain ⟨hx, hb, hml, hown, hts, hRf, hRl, hni⟩ := Cx
  simp only [sti] at h
  split at h
  · rename_i h0
    obtain ⟨rfl, hn, hf⟩ := h0
    split at h
    · rename_i x r
      simp only [nx, Option.some.injEq, Sum.inl.injEq, Prod.mk.injEq] at h
      obtain ⟨rfl, rfl, rfl, rfl, rfl⟩ := h
      obtain ⟨i, q, rfl, hi, hq⟩ := zSr_i hT
      exact lv_istore_n hx hb hdg rfl (zlv_has hL.1 hL.2.1) (by rw [hL.2.2.1] at hn; exact hn) rfl (fun ls' h' => kk.go W0 hS (zLr_store hL hf rfl ⟨i, rfl, hi⟩ h') hq)
    · cases h
  · cases h
theorem zn_istore {n : Nat} {len pc' : Nat} {ml' mst' : List zV} {S' : zS} {I' : zM} (Cx : zCx k R p s m args meth c) (hbs : base ≤ s.heap.size) (hdg : decode (bk k) pc = .ok (.istore n, len)) (h : sti k pc ml mst S I len (.istore n) = some (.inl (pc', ml', mst', S', I'))) (W0 : zWo D base b xs ad cA F S I s H) (hS : va_S (fun q => base ≤ q) s.heap H locs) (hL : zLr b ad S.1.length (lk k) (hk k) ls ml) (hT : zSr b ad S.1.length mst st) (hc : cells + (S'.1.length - S.1.length) ≤ R.cells) (hs : slots + (zsl S' - zsl S) ≤ R.slots)
    (kk : zK D base b xs k p l e R s m args below meth c Q S S' I' ad cells slots pc' ml' mst') : W p l e R s m args below meth c H locs cells slots Q (F0 m pc ls st) := by
  obtain ⟨hx, hb, hml, hown, hts, hRf, hRl, hni⟩ := Cx
  simp only [sti] at h
  split at h
  · rename_i h0
    obtain ⟨rfl, hn, hf⟩ := h0
    split at h
    · rename_i x r
      simp only [nx, Option.some.injEq, Sum.inl.injEq, Prod.mk.injEq] at h
      obtain ⟨rfl, rfl, rfl, rfl, rfl⟩ := h
      obtain ⟨i, q, rfl, hi, hq⟩ := zSr_i hT
      exact lv_istore hx hb hdg (zlv_has hL.1 hL.2.1) (by rw [hL.2.2.1] at hn; exact hn) rfl (fun ls' h' => kk.go W0 hS (zLr_store hL hf rfl ⟨i, rfl, hi⟩ h') hq)
    · cases h
  · cases h
theorem zn_astore_n {n : Fin 4} {len pc' : Nat} {ml' mst' : List zV} {S' : zS} {I' : zM} (Cx : zCx k R p s m args meth c) (hbs : base ≤ s.heap.size) (hdg : decode (bk k) pc = .ok (.astore_n n, len)) (h : sti k pc ml mst S I len (.astore_n n) = some (.inl (pc', ml', mst', S', I'))) (W0 : zWo D base b xs ad cA F S I s H) (hS : va_S (fun q => base ≤ q) s.heap H locs) (hL : zLr b ad S.1.length (lk k) (hk k) ls ml) (hT : zSr b ad S.1.length mst st) (hc : cells + (S'.1.length - S.1.length) ≤ R.cells) (hs : slots + (zsl S' - zsl S) ≤ R.slots)
    (kk : zK D base b xs k p l e R s m args below meth c Q S S' I' ad cells slots pc' ml' mst') : W p l e R s m args below meth c H locs cells slots Q (F0 m pc ls st) := by
  obtain ⟨hx, hb, hml, hown, hts, hRf, hRl, hni⟩ := Cx
  simp only [sti] at h
  split at h
  · rename_i h0
    obtain ⟨rfl, hn, hf⟩ := h0
    split at h
    · rename_i x r
      simp only [nx, Option.some.injEq, Sum.inl.injEq, Prod.mk.injEq] at h
      obtain ⟨rfl, rfl, rfl, rfl, rfl⟩ := h
      obtain ⟨q, rfl, hi, hq⟩ := zSr_r hT
      exact lv_astore_n hx hb hdg rfl (zlv_has hL.1 hL.2.1) (by rw [hL.2.2.1] at hn; exact hn) rfl (fun ls' h' => kk.go W0 hS (zLr_store hL hf rfl ⟨rfl, hi⟩ h') hq)
    · cases h
  · cases h
theorem zn_astore {n : Nat} {len pc' : Nat} {ml' mst' : List zV} {S' : zS} {I' : zM} (Cx : zCx k R p s m args meth c) (hbs : base ≤ s.heap.size) (hdg : decode (bk k) pc = .ok (.astore n, len)) (h : sti k pc ml mst S I len (.astore n) = some (.inl (pc', ml', mst', S', I'))) (W0 : zWo D base b xs ad cA F S I s H) (hS : va_S (fun q => base ≤ q) s.heap H locs) (hL : zLr b ad S.1.length (lk k) (hk k) ls ml) (hT : zSr b ad S.1.length mst st) (hc : cells + (S'.1.length - S.1.length) ≤ R.cells) (hs : slots + (zsl S' - zsl S) ≤ R.slots)
    (kk : zK D base b xs k p l e R s m args below meth c Q S S' I' ad cells slots pc' ml' mst') : W p l e R s m args below meth c H locs cells slots Q (F0 m pc ls st) := by
  obtain ⟨hx, hb, hml, hown, hts, hRf, hRl, hni⟩ := Cx
  simp only [sti] at h
  split at h
  · rename_i h0
    obtain ⟨rfl, hn, hf⟩ := h0
    split at h
    · rename_i x r
      simp only [nx, Option.some.injEq, Sum.inl.injEq, Prod.mk.injEq] at h
      obtain ⟨rfl, rfl, rfl, rfl, rfl⟩ := h
      obtain ⟨q, rfl, hi, hq⟩ := zSr_r hT
      exact lv_astore hx hb hdg (zlv_has hL.1 hL.2.1) (by rw [hL.2.2.1] at hn; exact hn) rfl (fun ls' h' => kk.go W0 hS (zLr_store hL hf rfl ⟨rfl, hi⟩ h') hq)
    · cases h
  · cases h
theorem zn_iinc {i : Nat} {n : Int} {len pc' : Nat} {ml' mst' : List zV} {S' : zS} {I' : zM} (Cx : zCx k R p s m args meth c) (hbs : base ≤ s.heap.size) (hdg : decode (bk k) pc = .ok (.iinc i n, len)) (h : sti k pc ml mst S I len (.iinc i n) = some (.inl (pc', ml', mst', S', I'))) (W0 : zWo D base b xs ad cA F S I s H) (hS : va_S (fun q => base ≤ q) s.heap H locs) (hL : zLr b ad S.1.length (lk k) (hk k) ls ml) (hT : zSr b ad S.1.length mst st) (hc : cells + (S'.1.length - S.1.length) ≤ R.cells) (hs : slots + (zsl S' - zsl S) ≤ R.slots)
    (kk : zK D base b xs k p l e R s m args below meth c Q S S' I' ad cells slots pc' ml' mst') : W p l e R s m args below meth c H locs cells slots Q (F0 m pc ls st) := by
  obtain ⟨hx, hb, hml, hown, hts, hRf, hRl, hni⟩ := Cx
  simp only [sti] at h
  split at h
  · rename_i h0
    obtain ⟨rfl, hf, hn⟩ := h0
    split at h
    · rename_i x hv
      split at h
      · rename_i hr
        simp only [nx, Option.some.injEq, Sum.inl.injEq, Prod.mk.injEq] at h
        obtain ⟨rfl, rfl, rfl, rfl, rfl⟩ := h
        obtain ⟨w, h1, h2⟩ := zLr_i hL hv
        subst h2
        have hlt : i < lk k := by rw [← hL.1]; exact lv_lt h1
        obtain ⟨q, hq⟩ := List.getElem?_of_mem (zlv_mem.mpr ⟨h1, rfl⟩)
        exact lv_iinc hx hb hdg (zlv_has hL.1 hL.2.1) hq rfl hlt rfl (fun ls' h' => kk.go W0 hS (zLr_store hL hf rfl ⟨_, rfl, by rw [zi_add (by rw [zi_of hn]; exact hr), zi_of hn]⟩ h') hT)
      · cases h
    · cases h
  · cases h
theorem zn_iadd {len pc' : Nat} {ml' mst' : List zV} {S' : zS} {I' : zM} (Cx : zCx k R p s m args meth c) (hbs : base ≤ s.heap.size) (hdg : decode (bk k) pc = .ok (.iadd, len)) (h : sti k pc ml mst S I len (.iadd) = some (.inl (pc', ml', mst', S', I'))) (W0 : zWo D base b xs ad cA F S I s H) (hS : va_S (fun q => base ≤ q) s.heap H locs) (hL : zLr b ad S.1.length (lk k) (hk k) ls ml) (hT : zSr b ad S.1.length mst st) (hc : cells + (S'.1.length - S.1.length) ≤ R.cells) (hs : slots + (zsl S' - zsl S) ≤ R.slots)
    (kk : zK D base b xs k p l e R s m args below meth c Q S S' I' ad cells slots pc' ml' mst') : W p l e R s m args below meth c H locs cells slots Q (F0 m pc ls st) := by
  obtain ⟨hx, hb, hml, hown, hts, hRf, hRl, hni⟩ := Cx
  simp only [sti] at h
  split at h
  · rename_i y x r
    split at h
    · rename_i h0
      obtain ⟨rfl, hr⟩ := h0
      simp only [nx, Option.some.injEq, Sum.inl.injEq, Prod.mk.injEq] at h
      obtain ⟨rfl, rfl, rfl, rfl, rfl⟩ := h
      obtain ⟨i, q, rfl, rfl, hq⟩ := zSr_i hT
      obtain ⟨i2, q2, rfl, rfl, hq2⟩ := zSr_i hq
      exact lv_iadd hx hb hdg (kk.go W0 hS hL ⟨⟨_, rfl, zi_add hr⟩, hq2⟩)
    · cases h
  · cases h
theorem zn_isub {len pc' : Nat} {ml' mst' : List zV} {S' : zS} {I' : zM} (Cx : zCx k R p s m args meth c) (hbs : base ≤ s.heap.size) (hdg : decode (bk k) pc = .ok (.isub, len)) (h : sti k pc ml mst S I len (.isub) = some (.inl (pc', ml', mst', S', I'))) (W0 : zWo D base b xs ad cA F S I s H) (hS : va_S (fun q => base ≤ q) s.heap H locs) (hL : zLr b ad S.1.length (lk k) (hk k) ls ml) (hT : zSr b ad S.1.length mst st) (hc : cells + (S'.1.length - S.1.length) ≤ R.cells) (hs : slots + (zsl S' - zsl S) ≤ R.slots)
    (kk : zK D base b xs k p l e R s m args below meth c Q S S' I' ad cells slots pc' ml' mst') : W p l e R s m args below meth c H locs cells slots Q (F0 m pc ls st) := by
  obtain ⟨hx, hb, hml, hown, hts, hRf, hRl, hni⟩ := Cx
  simp only [sti] at h
  split at h
  · rename_i y x r
    split at h
    · rename_i h0
      obtain ⟨rfl, hr⟩ := h0
      simp only [nx, Option.some.injEq, Sum.inl.injEq, Prod.mk.injEq] at h
      obtain ⟨rfl, rfl, rfl, rfl, rfl⟩ := h
      obtain ⟨i, q, rfl, rfl, hq⟩ := zSr_i hT
      obtain ⟨i2, q2, rfl, rfl, hq2⟩ := zSr_i hq
      exact lv_isub hx hb hdg (kk.go W0 hS hL ⟨⟨_, rfl, zi_sub hr⟩, hq2⟩)
    · cases h
  · cases h
theorem zn_imul {len pc' : Nat} {ml' mst' : List zV} {S' : zS} {I' : zM} (Cx : zCx k R p s m args meth c) (hbs : base ≤ s.heap.size) (hdg : decode (bk k) pc = .ok (.imul, len)) (h : sti k pc ml mst S I len (.imul) = some (.inl (pc', ml', mst', S', I'))) (W0 : zWo D base b xs ad cA F S I s H) (hS : va_S (fun q => base ≤ q) s.heap H locs) (hL : zLr b ad S.1.length (lk k) (hk k) ls ml) (hT : zSr b ad S.1.length mst st) (hc : cells + (S'.1.length - S.1.length) ≤ R.cells) (hs : slots + (zsl S' - zsl S) ≤ R.slots)
    (kk : zK D base b xs k p l e R s m args below meth c Q S S' I' ad cells slots pc' ml' mst') : W p l e R s m args below meth c H locs cells slots Q (F0 m pc ls st) := by
  obtain ⟨hx, hb, hml, hown, hts, hRf, hRl, hni⟩ := Cx
  simp only [sti] at h
  split at h
  · rename_i y x r
    split at h
    · rename_i h0
      obtain ⟨rfl, hr⟩ := h0
      simp only [nx, Option.some.injEq, Sum.inl.injEq, Prod.mk.injEq] at h
      obtain ⟨rfl, rfl, rfl, rfl, rfl⟩ := h
      obtain ⟨i, q, rfl, rfl, hq⟩ := zSr_i hT
      obtain ⟨i2, q2, rfl, rfl, hq2⟩ := zSr_i hq
      exact lv_imul hx hb hdg (kk.go W0 hS hL ⟨⟨_, rfl, zi_mul hr⟩, hq2⟩)
    · cases h
  · cases h
theorem zn_iand {len pc' : Nat} {ml' mst' : List zV} {S' : zS} {I' : zM} (Cx : zCx k R p s m args meth c) (hbs : base ≤ s.heap.size) (hdg : decode (bk k) pc = .ok (.iand, len)) (h : sti k pc ml mst S I len (.iand) = some (.inl (pc', ml', mst', S', I'))) (W0 : zWo D base b xs ad cA F S I s H) (hS : va_S (fun q => base ≤ q) s.heap H locs) (hL : zLr b ad S.1.length (lk k) (hk k) ls ml) (hT : zSr b ad S.1.length mst st) (hc : cells + (S'.1.length - S.1.length) ≤ R.cells) (hs : slots + (zsl S' - zsl S) ≤ R.slots)
    (kk : zK D base b xs k p l e R s m args below meth c Q S S' I' ad cells slots pc' ml' mst') : W p l e R s m args below meth c H locs cells slots Q (F0 m pc ls st) := by
  obtain ⟨hx, hb, hml, hown, hts, hRf, hRl, hni⟩ := Cx
  simp only [sti] at h
  split at h
  · rename_i y x r
    split at h
    · rename_i h0
      subst h0
      simp only [nx, Option.some.injEq, Sum.inl.injEq, Prod.mk.injEq] at h
      obtain ⟨rfl, rfl, rfl, rfl, rfl⟩ := h
      obtain ⟨i, q, rfl, rfl, hq⟩ := zSr_i hT
      obtain ⟨i2, q2, rfl, rfl, hq2⟩ := zSr_i hq
      exact lv_iand hx hb hdg (kk.go W0 hS hL ⟨⟨_, rfl, by rw [zand, zi_back, zi_back]⟩, hq2⟩)
    · cases h
  · cases h
theorem zn_i2l {len pc' : Nat} {ml' mst' : List zV} {S' : zS} {I' : zM} (Cx : zCx k R p s m args meth c) (hbs : base ≤ s.heap.size) (hdg : decode (bk k) pc = .ok (.i2l, len)) (h : sti k pc ml mst S I len (.i2l) = some (.inl (pc', ml', mst', S', I'))) (W0 : zWo D base b xs ad cA F S I s H) (hS : va_S (fun q => base ≤ q) s.heap H locs) (hL : zLr b ad S.1.length (lk k) (hk k) ls ml) (hT : zSr b ad S.1.length mst st) (hc : cells + (S'.1.length - S.1.length) ≤ R.cells) (hs : slots + (zsl S' - zsl S) ≤ R.slots)
    (kk : zK D base b xs k p l e R s m args below meth c Q S S' I' ad cells slots pc' ml' mst') : W p l e R s m args below meth c H locs cells slots Q (F0 m pc ls st) := by
  obtain ⟨hx, hb, hml, hown, hts, hRf, hRl, hni⟩ := Cx
  simp only [sti] at h
  split at h
  · rename_i x r
    split at h
    · rename_i h0
      subst h0
      simp only [nx, Option.some.injEq, Sum.inl.injEq, Prod.mk.injEq] at h
      obtain ⟨rfl, rfl, rfl, rfl, rfl⟩ := h
      obtain ⟨i, q, rfl, rfl, hq⟩ := zSr_i hT
      exact lv_i2l hx hb hdg rfl (kk.go W0 hS hL ⟨⟨_, rfl, Int32.toInt_toInt64 i⟩, hq⟩)
    · cases h
  · cases h
theorem zn_ladd {len pc' : Nat} {ml' mst' : List zV} {S' : zS} {I' : zM} (Cx : zCx k R p s m args meth c) (hbs : base ≤ s.heap.size) (hdg : decode (bk k) pc = .ok (.ladd, len)) (h : sti k pc ml mst S I len (.ladd) = some (.inl (pc', ml', mst', S', I'))) (W0 : zWo D base b xs ad cA F S I s H) (hS : va_S (fun q => base ≤ q) s.heap H locs) (hL : zLr b ad S.1.length (lk k) (hk k) ls ml) (hT : zSr b ad S.1.length mst st) (hc : cells + (S'.1.length - S.1.length) ≤ R.cells) (hs : slots + (zsl S' - zsl S) ≤ R.slots)
    (kk : zK D base b xs k p l e R s m args below meth c Q S S' I' ad cells slots pc' ml' mst') : W p l e R s m args below meth c H locs cells slots Q (F0 m pc ls st) := by
  obtain ⟨hx, hb, hml, hown, hts, hRf, hRl, hni⟩ := Cx
  simp only [sti] at h
  split at h
  · rename_i y x r
    split at h
    · rename_i h0
      obtain ⟨rfl, hr⟩ := h0
      simp only [nx, Option.some.injEq, Sum.inl.injEq, Prod.mk.injEq] at h
      obtain ⟨rfl, rfl, rfl, rfl, rfl⟩ := h
      obtain ⟨i, q, rfl, rfl, hq⟩ := zSr_j hT
      obtain ⟨i2, q2, rfl, rfl, hq2⟩ := zSr_j hq
      exact lv_ladd hx hb hdg (kk.go W0 hS hL ⟨⟨_, rfl, zj_add hr⟩, hq2⟩)
    · cases h
  · cases h
theorem zn_lcmp {len pc' : Nat} {ml' mst' : List zV} {S' : zS} {I' : zM} (Cx : zCx k R p s m args meth c) (hbs : base ≤ s.heap.size) (hdg : decode (bk k) pc = .ok (.lcmp, len)) (h : sti k pc ml mst S I len (.lcmp) = some (.inl (pc', ml', mst', S', I'))) (W0 : zWo D base b xs ad cA F S I s H) (hS : va_S (fun q => base ≤ q) s.heap H locs) (hL : zLr b ad S.1.length (lk k) (hk k) ls ml) (hT : zSr b ad S.1.length mst st) (hc : cells + (S'.1.length - S.1.length) ≤ R.cells) (hs : slots + (zsl S' - zsl S) ≤ R.slots)
    (kk : zK D base b xs k p l e R s m args below meth c Q S S' I' ad cells slots pc' ml' mst') : W p l e R s m args below meth c H locs cells slots Q (F0 m pc ls st) := by
  obtain ⟨hx, hb, hml, hown, hts, hRf, hRl, hni⟩ := Cx
  simp only [sti] at h
  split at h
  · rename_i y x r
    split at h
    · rename_i h0
      subst h0
      simp only [nx, Option.some.injEq, Sum.inl.injEq, Prod.mk.injEq] at h
      obtain ⟨rfl, rfl, rfl, rfl, rfl⟩ := h
      obtain ⟨i, q, rfl, rfl, hq⟩ := zSr_j hT
      obtain ⟨i2, q2, rfl, rfl, hq2⟩ := zSr_j hq
      refine W.lcmp hx hb hdg (kk.go W0 hS hL ⟨⟨_, rfl, ?_⟩, hq2⟩)
      unfold lg_cmp
      by_cases h1 : i < i2
      · rw [if_pos h1, if_pos (Int64.lt_iff_toInt_lt.mp h1)]; rfl
      · rw [if_neg h1, if_neg (fun z => h1 (Int64.lt_iff_toInt_lt.mpr z))]
        by_cases h2 : i2 = i
        · rw [if_pos h2, if_pos (by rw [h2])]; rfl
        · rw [if_neg h2, if_neg (fun z => h2 (Int64.toInt_inj.mp z))]; rfl
    · cases h
  · cases h
theorem zn_dup {len pc' : Nat} {ml' mst' : List zV} {S' : zS} {I' : zM} (Cx : zCx k R p s m args meth c) (hbs : base ≤ s.heap.size) (hdg : decode (bk k) pc = .ok (.dup, len)) (h : sti k pc ml mst S I len (.dup) = some (.inl (pc', ml', mst', S', I'))) (W0 : zWo D base b xs ad cA F S I s H) (hS : va_S (fun q => base ≤ q) s.heap H locs) (hL : zLr b ad S.1.length (lk k) (hk k) ls ml) (hT : zSr b ad S.1.length mst st) (hc : cells + (S'.1.length - S.1.length) ≤ R.cells) (hs : slots + (zsl S' - zsl S) ≤ R.slots)
    (kk : zK D base b xs k p l e R s m args below meth c Q S S' I' ad cells slots pc' ml' mst') : W p l e R s m args below meth c H locs cells slots Q (F0 m pc ls st) := by
  obtain ⟨hx, hb, hml, hown, hts, hRf, hRl, hni⟩ := Cx
  simp only [sti] at h
  split at h
  · rename_i v r
    split at h
    · rename_i h0
      obtain ⟨rfl, hz⟩ := h0
      simp only [nx, Option.some.injEq, Sum.inl.injEq, Prod.mk.injEq] at h
      obtain ⟨rfl, rfl, rfl, rfl, rfl⟩ := h
      obtain ⟨w, q, rfl, hv, hq⟩ := zSr_c hT
      exact lv_dup hx hb hdg (zVr_c1 hv hz) (kk.go W0 hS hL ⟨hv, hv, hq⟩)
    · cases h
  · cases h
theorem zn_dup2 {len pc' : Nat} {ml' mst' : List zV} {S' : zS} {I' : zM} (Cx : zCx k R p s m args meth c) (hbs : base ≤ s.heap.size) (hdg : decode (bk k) pc = .ok (.dup2, len)) (h : sti k pc ml mst S I len (.dup2) = some (.inl (pc', ml', mst', S', I'))) (W0 : zWo D base b xs ad cA F S I s H) (hS : va_S (fun q => base ≤ q) s.heap H locs) (hL : zLr b ad S.1.length (lk k) (hk k) ls ml) (hT : zSr b ad S.1.length mst st) (hc : cells + (S'.1.length - S.1.length) ≤ R.cells) (hs : slots + (zsl S' - zsl S) ≤ R.slots)
    (kk : zK D base b xs k p l e R s m args below meth c Q S S' I' ad cells slots pc' ml' mst') : W p l e R s m args below meth c H locs cells slots Q (F0 m pc ls st) := by
  obtain ⟨hx, hb, hml, hown, hts, hRf, hRl, hni⟩ := Cx
  simp only [sti] at h
  split at h
  · rename_i v u r
    split at h
    · rename_i h0
      obtain ⟨rfl, hz, hz2⟩ := h0
      simp only [nx, Option.some.injEq, Sum.inl.injEq, Prod.mk.injEq] at h
      obtain ⟨rfl, rfl, rfl, rfl, rfl⟩ := h
      obtain ⟨w, q, rfl, hv, hq⟩ := zSr_c hT
      obtain ⟨w2, q2, rfl, hv2, hq2⟩ := zSr_c hq
      exact lv_dup2_11 hx hb hdg (zVr_c1 hv hz) (zVr_c1 hv2 hz2) (kk.go W0 hS hL ⟨hv, hv2, hv, hv2, hq2⟩)
    · cases h
  · cases h
theorem zn_pop {len pc' : Nat} {ml' mst' : List zV} {S' : zS} {I' : zM} (Cx : zCx k R p s m args meth c) (hbs : base ≤ s.heap.size) (hdg : decode (bk k) pc = .ok (.pop, len)) (h : sti k pc ml mst S I len (.pop) = some (.inl (pc', ml', mst', S', I'))) (W0 : zWo D base b xs ad cA F S I s H) (hS : va_S (fun q => base ≤ q) s.heap H locs) (hL : zLr b ad S.1.length (lk k) (hk k) ls ml) (hT : zSr b ad S.1.length mst st) (hc : cells + (S'.1.length - S.1.length) ≤ R.cells) (hs : slots + (zsl S' - zsl S) ≤ R.slots)
    (kk : zK D base b xs k p l e R s m args below meth c Q S S' I' ad cells slots pc' ml' mst') : W p l e R s m args below meth c H locs cells slots Q (F0 m pc ls st) := by
  obtain ⟨hx, hb, hml, hown, hts, hRf, hRl, hni⟩ := Cx
  simp only [sti] at h
  split at h
  · rename_i v r
    split at h
    · rename_i h0
      obtain ⟨rfl, hz⟩ := h0
      simp only [nx, Option.some.injEq, Sum.inl.injEq, Prod.mk.injEq] at h
      obtain ⟨rfl, rfl, rfl, rfl, rfl⟩ := h
      obtain ⟨w, q, rfl, hv, hq⟩ := zSr_c hT
      exact lv_pop hx hb hdg (zVr_c1 hv hz) (kk.go W0 hS hL hq)
    · cases h
  · cases h
theorem zn_if_icmp {cd : Jvm.ClassFile.Cond} {off : Int} {len pc' : Nat} {ml' mst' : List zV} {S' : zS} {I' : zM} (Cx : zCx k R p s m args meth c) (hbs : base ≤ s.heap.size) (hdg : decode (bk k) pc = .ok (.if_icmp cd off, len)) (h : sti k pc ml mst S I len (.if_icmp cd off) = some (.inl (pc', ml', mst', S', I'))) (W0 : zWo D base b xs ad cA F S I s H) (hS : va_S (fun q => base ≤ q) s.heap H locs) (hL : zLr b ad S.1.length (lk k) (hk k) ls ml) (hT : zSr b ad S.1.length mst st) (hc : cells + (S'.1.length - S.1.length) ≤ R.cells) (hs : slots + (zsl S' - zsl S) ≤ R.slots)
    (kk : zK D base b xs k p l e R s m args below meth c Q S S' I' ad cells slots pc' ml' mst') : W p l e R s m args below meth c H locs cells slots Q (F0 m pc ls st) := by
  obtain ⟨hx, hb, hml, hown, hts, hRf, hRl, hni⟩ := Cx
  simp only [sti] at h
  split at h
  · rename_i y x r
    split at h
    · rename_i h0
      obtain ⟨rfl, hge⟩ := h0
      simp only [nx, Option.some.injEq, Sum.inl.injEq, Prod.mk.injEq] at h
      obtain ⟨rfl, rfl, rfl, rfl, rfl⟩ := h
      obtain ⟨i, q, rfl, rfl, hq⟩ := zSr_i hT
      obtain ⟨i2, q2, rfl, rfl, hq2⟩ := zSr_i hq
      have ht : (pc : Int) + off = (((pc : Int) + off).toNat : Int) := (Int.toNat_of_nonneg hge).symm
      cases cd
      · have e := Int32.toInt_inj (x := i2) (y := i)
        refine lv_icmp_eq hx hb hdg ht (fun z => ?_) (fun z => ?_)
        · have hz : zc .eq i2.toInt i.toInt = true := by simp only [zc, decide_eq_true_eq]; exact e.mpr z
          rw [if_pos hz] at kk
          exact kk.go W0 hS hL hq2
        · have hz : ¬ zc .eq i2.toInt i.toInt = true := by simp only [zc, decide_eq_true_eq]; exact fun y => z (e.mp y)
          rw [if_neg hz] at kk
          exact kk.go W0 hS hL hq2
      · have e := Int32.toInt_inj (x := i2) (y := i)
        refine lv_icmp_ne hx hb hdg ht (fun z => ?_) (fun z => ?_)
        · have hz : zc .ne i2.toInt i.toInt = true := by simp only [zc, decide_eq_true_eq]; exact fun y => z (e.mp y)
          rw [if_pos hz] at kk
          exact kk.go W0 hS hL hq2
        · have hz : ¬ zc .ne i2.toInt i.toInt = true := by simp only [zc, decide_eq_true_eq]; exact fun y => y (e.mpr z)
          rw [if_neg hz] at kk
          exact kk.go W0 hS hL hq2
      · have e := Int32.lt_iff_toInt_lt (x := i2) (y := i)
        refine lv_icmp_lt hx hb hdg ht (fun z => ?_) (fun z => ?_)
        · have hz : zc .lt i2.toInt i.toInt = true := by simp only [zc, decide_eq_true_eq]; exact e.mp z
          rw [if_pos hz] at kk
          exact kk.go W0 hS hL hq2
        · have hz : ¬ zc .lt i2.toInt i.toInt = true := by simp only [zc, decide_eq_true_eq]; exact fun y => z (e.mpr y)
          rw [if_neg hz] at kk
          exact kk.go W0 hS hL hq2
      · have e := Int32.le_iff_toInt_le (x := i) (y := i2)
        refine lv_icmp_ge hx hb hdg ht (fun z => ?_) (fun z => ?_)
        · have hz : zc .ge i2.toInt i.toInt = true := by simp only [zc, decide_eq_true_eq]; exact e.mp z
          rw [if_pos hz] at kk
          exact kk.go W0 hS hL hq2
        · have hz : ¬ zc .ge i2.toInt i.toInt = true := by simp only [zc, decide_eq_true_eq]; exact fun y => z (e.mpr y)
          rw [if_neg hz] at kk
          exact kk.go W0 hS hL hq2
      · have e := Int32.lt_iff_toInt_lt (x := i) (y := i2)
        refine lv_icmp_gt hx hb hdg ht (fun z => ?_) (fun z => ?_)
        · have hz : zc .gt i2.toInt i.toInt = true := by simp only [zc, decide_eq_true_eq]; exact e.mp z
          rw [if_pos hz] at kk
          exact kk.go W0 hS hL hq2
        · have hz : ¬ zc .gt i2.toInt i.toInt = true := by simp only [zc, decide_eq_true_eq]; exact fun y => z (e.mpr y)
          rw [if_neg hz] at kk
          exact kk.go W0 hS hL hq2
      · have e := Int32.le_iff_toInt_le (x := i2) (y := i)
        refine lv_icmp_le hx hb hdg ht (fun z => ?_) (fun z => ?_)
        · have hz : zc .le i2.toInt i.toInt = true := by simp only [zc, decide_eq_true_eq]; exact e.mp z
          rw [if_pos hz] at kk
          exact kk.go W0 hS hL hq2
        · have hz : ¬ zc .le i2.toInt i.toInt = true := by simp only [zc, decide_eq_true_eq]; exact fun y => z (e.mpr y)
          rw [if_neg hz] at kk
          exact kk.go W0 hS hL hq2
    · cases h
  · cases h
theorem zn_ifCond {cd : Jvm.ClassFile.Cond} {off : Int} {len pc' : Nat} {ml' mst' : List zV} {S' : zS} {I' : zM} (Cx : zCx k R p s m args meth c) (hbs : base ≤ s.heap.size) (hdg : decode (bk k) pc = .ok (.ifCond cd off, len)) (h : sti k pc ml mst S I len (.ifCond cd off) = some (.inl (pc', ml', mst', S', I'))) (W0 : zWo D base b xs ad cA F S I s H) (hS : va_S (fun q => base ≤ q) s.heap H locs) (hL : zLr b ad S.1.length (lk k) (hk k) ls ml) (hT : zSr b ad S.1.length mst st) (hc : cells + (S'.1.length - S.1.length) ≤ R.cells) (hs : slots + (zsl S' - zsl S) ≤ R.slots)
    (kk : zK D base b xs k p l e R s m args below meth c Q S S' I' ad cells slots pc' ml' mst') : W p l e R s m args below meth c H locs cells slots Q (F0 m pc ls st) := by
  obtain ⟨hx, hb, hml, hown, hts, hRf, hRl, hni⟩ := Cx
  simp only [sti] at h
  split at h
  · rename_i x r
    split at h
    · rename_i h0
      obtain ⟨rfl, hge⟩ := h0
      simp only [nx, Option.some.injEq, Sum.inl.injEq, Prod.mk.injEq] at h
      obtain ⟨rfl, rfl, rfl, rfl, rfl⟩ := h
      obtain ⟨i, q, rfl, rfl, hq⟩ := zSr_i hT
      have ht : (pc : Int) + off = (((pc : Int) + off).toNat : Int) := (Int.toNat_of_nonneg hge).symm
      cases cd
      · have e := Int32.toInt_inj (x := i) (y := 0)
        rw [show (0 : Int32).toInt = 0 from rfl] at e; refine lv_if_eq hx hb hdg ht (fun z => ?_) (fun z => ?_)
        · have hz : zc .eq i.toInt 0 = true := by simp only [zc, decide_eq_true_eq]; exact e.mpr z
          rw [if_pos hz] at kk
          exact kk.go W0 hS hL hq
        · have hz : ¬ zc .eq i.toInt 0 = true := by simp only [zc, decide_eq_true_eq]; exact fun y => z (e.mp y)
          rw [if_neg hz] at kk
          exact kk.go W0 hS hL hq
      · have e := Int32.toInt_inj (x := i) (y := 0)
        rw [show (0 : Int32).toInt = 0 from rfl] at e; refine lv_if_ne hx hb hdg ht (fun z => ?_) (fun z => ?_)
        · have hz : zc .ne i.toInt 0 = true := by simp only [zc, decide_eq_true_eq]; exact fun y => z (e.mp y)
          rw [if_pos hz] at kk
          exact kk.go W0 hS hL hq
        · have hz : ¬ zc .ne i.toInt 0 = true := by simp only [zc, decide_eq_true_eq]; exact fun y => y (e.mpr z)
          rw [if_neg hz] at kk
          exact kk.go W0 hS hL hq
      · have e := Int32.lt_iff_toInt_lt (x := i) (y := 0)
        rw [show (0 : Int32).toInt = 0 from rfl] at e; refine lv_if_lt hx hb hdg ht (fun z => ?_) (fun z => ?_)
        · have hz : zc .lt i.toInt 0 = true := by simp only [zc, decide_eq_true_eq]; exact e.mp z
          rw [if_pos hz] at kk
          exact kk.go W0 hS hL hq
        · have hz : ¬ zc .lt i.toInt 0 = true := by simp only [zc, decide_eq_true_eq]; exact fun y => z (e.mpr y)
          rw [if_neg hz] at kk
          exact kk.go W0 hS hL hq
      · have e := Int32.le_iff_toInt_le (x := 0) (y := i)
        rw [show (0 : Int32).toInt = 0 from rfl] at e; refine lv_if_ge hx hb hdg ht (fun z => ?_) (fun z => ?_)
        · have hz : zc .ge i.toInt 0 = true := by simp only [zc, decide_eq_true_eq]; exact e.mp z
          rw [if_pos hz] at kk
          exact kk.go W0 hS hL hq
        · have hz : ¬ zc .ge i.toInt 0 = true := by simp only [zc, decide_eq_true_eq]; exact fun y => z (e.mpr y)
          rw [if_neg hz] at kk
          exact kk.go W0 hS hL hq
      · have e := Int32.lt_iff_toInt_lt (x := 0) (y := i)
        rw [show (0 : Int32).toInt = 0 from rfl] at e; refine lv_if_gt hx hb hdg ht (fun z => ?_) (fun z => ?_)
        · have hz : zc .gt i.toInt 0 = true := by simp only [zc, decide_eq_true_eq]; exact e.mp z
          rw [if_pos hz] at kk
          exact kk.go W0 hS hL hq
        · have hz : ¬ zc .gt i.toInt 0 = true := by simp only [zc, decide_eq_true_eq]; exact fun y => z (e.mpr y)
          rw [if_neg hz] at kk
          exact kk.go W0 hS hL hq
      · have e := Int32.le_iff_toInt_le (x := i) (y := 0)
        rw [show (0 : Int32).toInt = 0 from rfl] at e; refine lv_if_le hx hb hdg ht (fun z => ?_) (fun z => ?_)
        · have hz : zc .le i.toInt 0 = true := by simp only [zc, decide_eq_true_eq]; exact e.mp z
          rw [if_pos hz] at kk
          exact kk.go W0 hS hL hq
        · have hz : ¬ zc .le i.toInt 0 = true := by simp only [zc, decide_eq_true_eq]; exact fun y => z (e.mpr y)
          rw [if_neg hz] at kk
          exact kk.go W0 hS hL hq
    · cases h
  · cases h
theorem zn_goto {off : Int} {len pc' : Nat} {ml' mst' : List zV} {S' : zS} {I' : zM} (Cx : zCx k R p s m args meth c) (hbs : base ≤ s.heap.size) (hdg : decode (bk k) pc = .ok (.goto off, len)) (h : sti k pc ml mst S I len (.goto off) = some (.inl (pc', ml', mst', S', I'))) (W0 : zWo D base b xs ad cA F S I s H) (hS : va_S (fun q => base ≤ q) s.heap H locs) (hL : zLr b ad S.1.length (lk k) (hk k) ls ml) (hT : zSr b ad S.1.length mst st) (hc : cells + (S'.1.length - S.1.length) ≤ R.cells) (hs : slots + (zsl S' - zsl S) ≤ R.slots)
    (kk : zK D base b xs k p l e R s m args below meth c Q S S' I' ad cells slots pc' ml' mst') : W p l e R s m args below meth c H locs cells slots Q (F0 m pc ls st) := by
  obtain ⟨hx, hb, hml, hown, hts, hRf, hRl, hni⟩ := Cx
  simp only [sti] at h
  split at h
  · rename_i h0
    obtain ⟨rfl, hge⟩ := h0
    simp only [nx, Option.some.injEq, Sum.inl.injEq, Prod.mk.injEq] at h
    obtain ⟨rfl, rfl, rfl, rfl, rfl⟩ := h
    exact lv_goto hx hb hdg (Int.toNat_of_nonneg hge).symm (kk.go W0 hS hL hT)
  · cases h
theorem zn_tableswitch {df lo hi : Int} {offs : Array Int} {len pc' : Nat} {ml' mst' : List zV} {S' : zS} {I' : zM} (Cx : zCx k R p s m args meth c) (hbs : base ≤ s.heap.size) (hdg : decode (bk k) pc = .ok (.tableswitch df lo hi offs, len)) (h : sti k pc ml mst S I len (.tableswitch df lo hi offs) = some (.inl (pc', ml', mst', S', I'))) (W0 : zWo D base b xs ad cA F S I s H) (hS : va_S (fun q => base ≤ q) s.heap H locs) (hL : zLr b ad S.1.length (lk k) (hk k) ls ml) (hT : zSr b ad S.1.length mst st) (hc : cells + (S'.1.length - S.1.length) ≤ R.cells) (hs : slots + (zsl S' - zsl S) ≤ R.slots)
    (kk : zK D base b xs k p l e R s m args below meth c Q S S' I' ad cells slots pc' ml' mst') : W p l e R s m args below meth c H locs cells slots Q (F0 m pc ls st) := by
  obtain ⟨hx, hb, hml, hown, hts, hRf, hRl, hni⟩ := Cx
  simp only [sti] at h
  split at h
  · rename_i x r
    obtain ⟨i, q, rfl, rfl, hq⟩ := zSr_i hT
    split at h
    · rename_i h1
      split at h
      · rename_i hge
        simp only [nx, Option.some.injEq, Sum.inl.injEq, Prod.mk.injEq] at h
        obtain ⟨rfl, rfl, rfl, rfl, rfl⟩ := h
        exact lv_tableOut hx hb hdg h1 (Int.toNat_of_nonneg hge).symm (kk.go W0 hS hL hq)
      · cases h
    · rename_i h1
      split at h
      · rename_i of ho
        split at h
        · rename_i hge
          simp only [nx, Option.some.injEq, Sum.inl.injEq, Prod.mk.injEq] at h
          obtain ⟨rfl, rfl, rfl, rfl, rfl⟩ := h
          exact lv_tableIn hx hb hdg (fun z => h1 (Or.inl z)) (fun z => h1 (Or.inr z)) ho (Int.toNat_of_nonneg hge).symm (kk.go W0 hS hL hq)
        · cases h
      · cases h
  · cases h
end ZN
end
section
section ZH
variable {D : va_G} {base b : Nat} {xs : Nat → Int32} {k : Nat} {p : Program} {l : Launch} {e : Env} {R : Room} {s : State} {m : MethodId} {args : Array Value} {below : List Frame} {meth : Method} {c : Code} {Q : State → Prop} {S : zS} {I : zM} {ad : Nat → Nat} {cA : Nat → ClassId} {F : Nat → Nat → Int32} {H : Heap} {locs : List Loc} {cells slots pc : Nat} {ml mst : List zV} {ls : Array Slot} {st : List Value}
theorem kd_some {a t : Nat} (h : kd S a = t) (ht : t < 900) : ∃ q, S.1[a]? = some q ∧ q.1 = t ∧ (∀ j, sd S a j = q.2.getD j 0) ∧ a < S.1.length := by
  unfold kd at h
  cases hq : S.1[a]? with
  | none => rw [hq] at h; simp at h; omega
  | some q =>
    rw [hq] at h
    refine ⟨q, rfl, h, fun j => ?_, (List.getElem?_eq_some_iff.mp hq).1⟩
    unfold sd
    rw [hq]
theorem zFl_get {f : Nat → Int32} {ci j : Nat} {dat : List Nat} (h : j < dat.length) : (zFl ad f ci dat)[j]? = some (if ft ci j ≤ 1 then .int (f j) else if ft ci j ≤ 3 then .int (Int32.ofNat (dat.getD j 0)) else if dat.getD j 0 = 0 then .null else .ref (ad (dat.getD j 0 - 1))) := by
  unfold zFl
  rw [List.getElem?_map, List.getElem?_range h]
  rfl
theorem zFl_len {f : Nat → Int32} {ci : Nat} {dat : List Nat} : (zFl ad f ci dat).length = dat.length := by simp [zFl]
theorem zFl_setI {f : Nat → Int32} {ci j : Nat} {dat : List Nat} {v : Int32} (hf : ft ci j ≤ 1) : (zFl ad f ci dat).set j (.int v) = zFl ad (upd f j v) ci dat := by
  apply List.ext_getElem?
  intro i
  by_cases hi : i < dat.length
  · by_cases e : i = j
    · subst e
      rw [List.getElem?_set_self (by rw [zFl_len]; exact hi), zFl_get hi, if_pos hf]
      simp [upd]
    · rw [List.getElem?_set_ne (fun q => e q.symm), zFl_get hi, zFl_get hi]
      simp [upd, e]
  · rw [List.getElem?_eq_none (by simp [zFl_len]; omega), List.getElem?_eq_none (by simp [zFl_len]; omega)]
theorem zFl_setS {f : Nat → Int32} {ci j d : Nat} {dat : List Nat} {v : Value} (hv : v = if ft ci j ≤ 1 then .int (f j) else if ft ci j ≤ 3 then .int (Int32.ofNat d) else if d = 0 then .null else .ref (ad (d - 1))) : (zFl ad f ci dat).set j v = zFl ad f ci (dat.set j d) := by
  apply List.ext_getElem?
  intro i
  by_cases hi : i < dat.length
  · by_cases e : i = j
    · subst e
      rw [List.getElem?_set_self (by rw [zFl_len]; exact hi), zFl_get (by simpa using hi), hv]
      simp [List.getD_eq_getElem?_getD, hi]
    · rw [List.getElem?_set_ne (fun q => e q.symm), zFl_get hi, zFl_get (by simpa using hi)]
      simp [List.getD_eq_getElem?_getD, List.getElem?_set_ne (fun q => e (Eq.symm q))]
  · rw [List.getElem?_eq_none (by simp [zFl_len]; omega), List.getElem?_eq_none (by simp [zFl_len]; omega)]
theorem zFl_same {ad' : Nat → Nat} {f : Nat → Int32} {ci n : Nat} {dat : List Nat} (ha : ∀ a, a < n → ad' a = ad a) (hd : ∀ j, j < dat.length → 4 ≤ ft ci j → dat.getD j 0 ≤ n) : zFl ad' f ci dat = zFl ad f ci dat := by
  apply List.ext_getElem?
  intro i
  by_cases hi : i < dat.length
  · rw [zFl_get hi, zFl_get hi]
    by_cases h3 : ft ci i ≤ 3
    · by_cases h1 : ft ci i ≤ 1 <;> simp [h1, h3]
    · have h1 : ¬ ft ci i ≤ 1 := by omega
      have h2 := hd i hi (by omega)
      by_cases h0 : dat.getD i 0 = 0
      · rw [if_neg h1, if_neg h1, if_neg h3, if_neg h3, if_pos h0, if_pos h0]
      · rw [if_neg h1, if_neg h1, if_neg h3, if_neg h3, if_neg h0, if_neg h0, ha _ (by omega)]
  · rw [List.getElem?_eq_none (by simp [zFl_len]; omega), List.getElem?_eq_none (by simp [zFl_len]; omega)]
theorem zE_arr {a : Nat} {q : Nat × List Nat} (h : q.1 ≤ 1) : zE ad cA F a q = .inl (cA a, q.2.getD 0 0, .inl (F a)) := by unfold zE; rw [if_pos h]
theorem zE_obj {a ci : Nat} {q : Nat × List Nat} (h : q.1 = ci + 2) : zE ad cA F a q = .inr (ci, zFl ad (F a) ci q.2) := by
  unfold zE
  rw [if_neg (by omega), show q.1 - 2 = ci by omega]
def zFu (F : Nat → Nat → Int32) (a j : Nat) (v : Int32) : Nat → Nat → Int32 := fun a' => if a' = a then upd (F a) j v else F a'
theorem zE_ne {a a' j : Nat} {v : Int32} {q : Nat × List Nat} (h : a' ≠ a) : zE ad cA (zFu F a j v) a' q = zE ad cA F a' q := by
  unfold zE zFu
  rw [if_neg h]
/-- an int of a cell is written -/
theorem zWo_set {locs' : List Loc} {a j : Nat} {v : Int32} {x : Int} {H1 : Heap} {tys : List (ClassId × FieldType)} {ws : va_W} {e1 : va_E} {q : Nat × List Nat} (W0 : zWo D base b xs ad cA F S I s H) (hq : S.1[a]? = some q) (hx : v.toInt = x) (he : e1 = zE ad cA (zFu F a j v) a q)
    (hK : va_K D vwCl tys s) (hty : ∀ (a : Nat) (q : Nat × List Nat), S.1[a]? = some q → (q.1 = 0 → ∃ t : Nat, tys[t]? = some (cA a, .int)) ∧ (q.1 = 1 → ∃ t : Nat, tys[t]? = some (cA a, .boolean))) (hws : ws.length = S.1.length) (hcell : ∀ (a : Nat) (q : Nat × List Nat), S.1[a]? = some q → ws[a]? = some (ad a, zE ad cA F a q))
    (hP : va_P D vwCl (ws.set a (ad a, e1)) H1) (hD : va_D (fun q => base ≤ q) (ws.set a (ad a, e1))) (hS0 : va_S (fun q => base ≤ q) s.heap H locs) (hS1 : va_S (fun q => base ≤ q) s.heap H1 locs') (hbs : base ≤ s.heap.size) : zWo D base b xs ad cA (zFu F a j v) S (up I a j x) s H1 := by
  obtain ⟨tys0, ws0, hK0, hP0, hD0, hsz, hbb, hX, hXl, hXv, hlen, hcell0, hI, hN⟩ := W0
  refine ⟨tys, ws.set a (ad a, e1), hK, hP, hD, ?_, hbb, ?_, hXl, hXv, by simpa using hws, ?_, ?_, hN⟩
  · have := hS1.1
    omega
  · refine hX.kept ?_
    have hbl : b < s.heap.size := by omega
    rw [hS1.2.1 b hbl (by omega), hS0.2.1 b hbl (by omega)]
  · intro a' q' hq'
    refine ⟨?_, (hcell0 a' q' hq').2.1, hty a' q' hq'⟩
    by_cases e : a' = a
    · subst e
      have hlt : a' < ws.length := by rw [hws]; exact (List.getElem?_eq_some_iff.mp hq').1
      rw [List.getElem?_set_self hlt, he]
      rw [hq] at hq'
      cases hq'
      rfl
    · rw [List.getElem?_set_ne (fun z => e z.symm), hcell a' q' hq', zE_ne e]
  · intro a' j' ha'
    unfold up zFu
    by_cases e : a' = a
    · subst e
      by_cases e2 : j' = j
      · subst e2
        rw [if_pos ⟨rfl, rfl⟩, if_pos rfl, ← hx]
        simp [upd]
      · rw [if_neg (by rintro ⟨-, z⟩; exact e2 (by omega)), if_pos rfl, hI a' j' ha']
        simp [upd, e2]
    · rw [if_neg (by rintro ⟨z, -⟩; exact e z), if_neg e, hI a' j' ha']
/-- a field that never changes again, or a reference, is written -/
theorem zWo_ss {locs' : List Loc} {a j d ci : Nat} {H1 : Heap} {q : Nat × List Nat} {w : Value} (W0 : zWo D base b xs ad cA F S I s H) (hq : S.1[a]? = some q) (hci : q.1 = ci + 2) (hft : ¬ ft ci j ≤ 1) (hd3 : ft ci j ≤ 3 → d < 2147483648) (hd4 : 4 ≤ ft ci j → d ≤ S.1.length) (hw : w = if ft ci j ≤ 1 then .int (F a j) else if ft ci j ≤ 3 then .int (Int32.ofNat d) else if d = 0 then .null else .ref (ad (d - 1)))
    {tys : List (ClassId × FieldType)} {ws : va_W} (hK : va_K D vwCl tys s) (hty : ∀ (a : Nat) (q : Nat × List Nat), S.1[a]? = some q → (q.1 = 0 → ∃ t : Nat, tys[t]? = some (cA a, .int)) ∧ (q.1 = 1 → ∃ t : Nat, tys[t]? = some (cA a, .boolean))) (hws : ws.length = S.1.length) (hcell : ∀ (a : Nat) (q : Nat × List Nat), S.1[a]? = some q → ws[a]? = some (ad a, zE ad cA F a q))
    (hP : va_P D vwCl (ws.set a (ad a, .inr (ci, (zFl ad (F a) ci q.2).set j w))) H1) (hD : va_D (fun q => base ≤ q) (ws.set a (ad a, .inr (ci, (zFl ad (F a) ci q.2).set j w)))) (hS0 : va_S (fun q => base ≤ q) s.heap H locs) (hS1 : va_S (fun q => base ≤ q) s.heap H1 locs') (hbs : base ≤ s.heap.size) : zWo D base b xs ad cA F (ss S a j d) I s H1 := by
  obtain ⟨tys0, ws0, hK0, hP0, hD0, hsz, hbb, hX, hXl, hXv, hlen, hcell0, hI, hN⟩ := W0
  have hl : (ss S a j d).1.length = S.1.length := by simp [ss]
  have hg : ∀ a', (ss S a j d).1[a']? = if a' = a then (S.1[a']?).map (fun q => (q.1, q.2.set j d)) else S.1[a']? := by
    intro a'
    simp only [ss, List.getElem?_modify]
    by_cases e : a' = a
    · subst e; simp
    · have : a ≠ a' := fun z => e z.symm
      simp [e, this]
  refine ⟨tys, _, hK, hP, hD, ?_, hbb, ?_, hXl, hXv, by rw [hl]; simpa using hws, ?_, fun a' j' ha' => hI a' j' (by rw [hl] at ha'; exact ha'), hN⟩
  · have := hS1.1
    omega
  · refine hX.kept ?_
    have hbl : b < s.heap.size := by omega
    rw [hS1.2.1 b hbl (by omega), hS0.2.1 b hbl (by omega)]
  · intro a' q' hq'
    rw [hg a'] at hq'
    by_cases e : a' = a
    · subst e
      rw [if_pos rfl, hq] at hq'
      have hq2 : q' = (q.1, q.2.set j d) := (Option.some.inj hq').symm
      subst hq2
      have hlt : a' < ws.length := by rw [hws]; exact (List.getElem?_eq_some_iff.mp hq).1
      refine ⟨?_, ?_, fun z => ?_, fun z => ?_⟩
      · rw [List.getElem?_set_self hlt, zE_obj (ci := ci) (q := (q.1, q.2.set j d)) hci, zFl_setS hw]
      · have h1 := (hcell0 a' q hq).2.1
        rcases h1 with h1 | ⟨h1, h2, h3, h4⟩
        · exact absurd h1.1 (by omega)
        · refine Or.inr ⟨h1, h2, by simpa using h3, fun i hi => ?_⟩
          have e0 : q.1 - 2 = ci := by omega
          have hi' : i < q.2.length := by simpa using hi
          have h5 := h4 i hi'
          rw [hl]
          dsimp only at *
          rw [e0] at h5 ⊢
          by_cases ei : i = j
          · subst ei
            have : (q.2.set i d).getD i 0 = d := by simp [List.getD_eq_getElem?_getD, hi']
            rw [this]
            exact ⟨hd3, hd4⟩
          · have : (q.2.set j d).getD i 0 = q.2.getD i 0 := by simp [List.getD_eq_getElem?_getD, List.getElem?_set_ne (fun z => ei (Eq.symm z))]
            rw [this]
            exact h5
      · exact absurd z (by dsimp only; omega)
      · exact absurd z (by dsimp only; omega)
    · rw [if_neg e] at hq'
      refine ⟨?_, ?_, hty a' q' hq'⟩
      · rw [List.getElem?_set_ne (fun z => e z.symm)]
        exact hcell a' q' hq'
      · rw [hl]
        exact (hcell0 a' q' hq').2.1
/-- a cell is made -/
theorem zWo_push {locs' : List Loc} {q0 : Nat × List Nat} {qa : Nat} {cA0 : ClassId} {H1 : Heap} {tys tys1 : List (ClassId × FieldType)} {ws : va_W} {e1 : va_E} (W0 : zWo D base b xs ad cA F S I s H)
    (hK : va_K D vwCl tys1 s) (hsub : ∀ (t : Nat) (x : ClassId × FieldType), tys[t]? = some x → tys1[t]? = some x) (hty : ∀ (a : Nat) (q : Nat × List Nat), S.1[a]? = some q → (q.1 = 0 → ∃ t : Nat, tys[t]? = some (cA a, .int)) ∧ (q.1 = 1 → ∃ t : Nat, tys[t]? = some (cA a, .boolean)))
    (hty0 : (q0.1 = 0 → ∃ t : Nat, tys1[t]? = some (cA0, .int)) ∧ (q0.1 = 1 → ∃ t : Nat, tys1[t]? = some (cA0, .boolean))) (hws : ws.length = S.1.length) (hcell : ∀ (a : Nat) (q : Nat × List Nat), S.1[a]? = some q → ws[a]? = some (ad a, zE ad cA F a q))
    (hP : va_P D vwCl (ws ++ [(qa, e1)]) H1) (hD : va_D (fun q => base ≤ q) (ws ++ [(qa, e1)])) (hS0 : va_S (fun q => base ≤ q) s.heap H locs) (hS1 : va_S (fun q => base ≤ q) s.heap H1 locs') (hbs : base ≤ s.heap.size)
    (he : e1 = zE (fun a => if a = S.1.length then qa else ad a) (fun a => if a = S.1.length then cA0 else cA a) (fun a => if a = S.1.length then fun _ => 0 else F a) S.1.length q0) (hwf : zWf q0 (S.1.length + 1)) :
    zWo D base b xs (fun a => if a = S.1.length then qa else ad a) (fun a => if a = S.1.length then cA0 else cA a) (fun a => if a = S.1.length then fun _ => 0 else F a) (sp S q0) (cz I S.1.length) s H1 := by
  obtain ⟨tys0, ws0, hK0, hP0, hD0, hsz, hbb, hX, hXl, hXv, hlen, hcell0, hI, hN⟩ := W0
  have hl : (sp S q0).1.length = S.1.length + 1 := by simp [sp]
  refine ⟨tys1, _, hK, hP, hD, ?_, hbb, ?_, hXl, hXv, by rw [hl]; simp [hws], ?_, ?_, hN⟩
  · have := hS1.1
    omega
  · refine hX.kept ?_
    have hbl : b < s.heap.size := by omega
    rw [hS1.2.1 b hbl (by omega), hS0.2.1 b hbl (by omega)]
  · intro a q hq
    by_cases ha : a < S.1.length
    · have hq' : S.1[a]? = some q := by
        simp only [sp] at hq
        rwa [List.getElem?_append_left ha] at hq
      have hne : a ≠ S.1.length := by omega
      obtain ⟨-, w2, -, -⟩ := hcell0 a q hq'
      refine ⟨?_, ?_, fun z => ?_, fun z => ?_⟩
      · rw [List.getElem?_append_left (by omega), hcell a q hq']
        dsimp only
        rw [if_neg hne]
        congr 2
        unfold zE
        dsimp only
        rw [if_neg hne, if_neg hne]
        by_cases h1 : q.1 ≤ 1
        · rw [if_pos h1, if_pos h1]
        · rw [if_neg h1, if_neg h1]
          rcases w2 with w2 | ⟨-, -, -, w4⟩
          · exact absurd w2.1 h1
          · rw [zFl_same (ad := ad) (ad' := fun a => if a = S.1.length then qa else ad a) (n := S.1.length) (fun a' ha' => by simp [show a' ≠ S.1.length by omega]) (fun j hj h4 => (w4 j hj).2 h4)]
      · rw [hl]
        rcases w2 with w2 | ⟨w1, w2, w3, w4⟩
        · exact Or.inl w2
        · exact Or.inr ⟨w1, w2, w3, fun j hj => ⟨(w4 j hj).1, fun h4 => by have := (w4 j hj).2 h4; omega⟩⟩
      · obtain ⟨t, ht⟩ := (hty a q hq').1 z
        exact ⟨t, by dsimp only; rw [if_neg hne]; exact hsub _ _ ht⟩
      · obtain ⟨t, ht⟩ := (hty a q hq').2 z
        exact ⟨t, by dsimp only; rw [if_neg hne]; exact hsub _ _ ht⟩
    · have ha2 : a = S.1.length := by
        have := (List.getElem?_eq_some_iff.mp hq).1
        rw [hl] at this
        omega
      subst ha2
      have hq0 : q = q0 := by
        simp [sp] at hq
        exact hq.symm
      subst hq0
      refine ⟨?_, by rw [hl]; exact hwf, fun z => ?_, fun z => ?_⟩
      · rw [List.getElem?_append_right (by omega), hws, Nat.sub_self, he]
        simp
      · obtain ⟨t, ht⟩ := hty0.1 z
        exact ⟨t, by dsimp only; rw [if_pos rfl]; exact ht⟩
      · obtain ⟨t, ht⟩ := hty0.2 z
        exact ⟨t, by dsimp only; rw [if_pos rfl]; exact ht⟩
  · intro a j ha
    unfold cz
    dsimp only
    by_cases e : a = S.1.length
    · rw [if_pos e, if_pos e]; rfl
    · rw [if_neg e, if_neg e]
      exact hI a j (by rw [hl] at ha; omega)
theorem zn_getfield {i : Nat} {len pc' : Nat} {ml' mst' : List zV} {S' : zS} {I' : zM} (Cx : zCx k R p s m args meth c) (hbs : base ≤ s.heap.size) (hdg : decode (bk k) pc = .ok (.getfield i, len)) (h : sti k pc ml mst S I len (.getfield i) = some (.inl (pc', ml', mst', S', I'))) (W0 : zWo D base b xs ad cA F S I s H) (hS : va_S (fun q => base ≤ q) s.heap H locs) (hL : zLr b ad S.1.length (lk k) (hk k) ls ml) (hT : zSr b ad S.1.length mst st) (hc : cells + (S'.1.length - S.1.length) ≤ R.cells) (hs : slots + (zsl S' - zsl S) ≤ R.slots)
    (kk : zK D base b xs k p l e R s m args below meth c Q S S' I' ad cells slots pc' ml' mst') : W p l e R s m args below meth c H locs cells slots Q (F0 m pc ls st) := by
  obtain ⟨hx, hb, hml, hown, hts, hRf, hRl, hni⟩ := Cx
  simp only [sti] at h
  split at h
  · rename_i h0
    subst h0
    split at h
    · rename_i q0 hv
      obtain ⟨ci, j⟩ := q0
      simp only [zgf] at h
      split at h
      · rename_i a r
        split at h
        · rename_i hkd
          obtain ⟨li, hlink, hci, hj⟩ := zfd_of hv
          obtain ⟨q, hq, hq1, hsd, halt⟩ := kd_some hkd (by omega)
          obtain ⟨tys, ws, hK, hP, hD, hsz, hbb, hX, hXl, hXv, hlen, hcell, hI, hN⟩ := id W0
          obtain ⟨c1, c2, c3, c4⟩ := hcell a q hq
          rw [zE_obj hq1] at c1
          obtain ⟨st', rfl, ha, hq2⟩ := zSr_r hT
          have hcN := (zt_ty0 ci hci).1
          have hdl : j < q.2.length := by
            rcases c2 with c2 | ⟨-, -, c2, -⟩
            · omega
            · rw [c2, show q.1 - 2 = ci by omega, ← hcN]; exact hj
          have hval := zFl_get (ad := ad) (f := F a) (ci := ci) hdl
          have go := fun (v : Value) (hv : (zFl ad (F a) ci q.2)[j]? = some v) => va_get (D := D) (l := l) (e := e) (R := R) (below := below) (meth := meth) (locs := locs) (cells := cells) (slots := slots) (Q := Q) (ls := ls) (rest := st') (C := cR ci) (T := cT ci) (N := cN ci) hx hb hts (zt_wsg ci hci) hown hK hP a c1 (zt_cls ci hci) j hj (hts _ (zt_gp hlink rfl)) (fun _ z => z) hv hdg
          split at h
          · rename_i hf
            simp only [nx, Option.some.injEq, Sum.inl.injEq, Prod.mk.injEq] at h
            obtain ⟨rfl, rfl, rfl, rfl, rfl⟩ := h
            rw [if_pos hf] at hval
            exact go _ hval (kk.go W0 hS hL ⟨⟨_, rfl, (hI a j halt).symm⟩, hq2⟩)
          · rename_i hf
            rw [if_neg hf] at hval
            split at h
            · rename_i hf2
              simp only [nx, Option.some.injEq, Sum.inl.injEq, Prod.mk.injEq] at h
              obtain ⟨rfl, rfl, rfl, rfl, rfl⟩ := h
              rw [if_pos hf2] at hval
              refine go _ hval (kk.go W0 hS hL ⟨⟨_, rfl, ?_⟩, hq2⟩)
              rw [hsd]
              rcases c2 with c2 | ⟨-, -, -, c2⟩
              · omega
              · exact zi_nat ((c2 j hdl).1 (by rw [show q.1 - 2 = ci by omega]; exact hf2))
            · rename_i hf2
              rw [if_neg hf2] at hval
              split at h
              · rename_i hf3
                simp only [nx, Option.some.injEq, Sum.inl.injEq, Prod.mk.injEq] at h
                obtain ⟨rfl, rfl, rfl, rfl, rfl⟩ := h
                rw [hsd] at hf3
                rw [if_neg (by omega)] at hval
                refine go _ hval (kk.go W0 hS hL ⟨⟨by rw [hsd], ?_⟩, hq2⟩)
                rw [hsd]
                rcases c2 with c2 | ⟨-, -, -, c2⟩
                · omega
                · have := (c2 j hdl).2 (by rw [show q.1 - 2 = ci by omega]; omega)
                  omega
              · cases h
        · cases h
      · cases h
    · cases h
  · cases h
theorem zt_cn0 : ∀ ci, ci < 13 → cn ci = cR ci := by decide +kernel
theorem zt_cn (k : Nat) {ci : Nat} (hok : ok k = ci) (hci : ci < 13) : cn (ok k) = cR (ok k) := by rw [hok]; exact zt_cn0 ci hci
theorem zn_putfield {i : Nat} {len pc' : Nat} {ml' mst' : List zV} {S' : zS} {I' : zM} (Cx : zCx k R p s m args meth c) (hbs : base ≤ s.heap.size) (hdg : decode (bk k) pc = .ok (.putfield i, len)) (h : sti k pc ml mst S I len (.putfield i) = some (.inl (pc', ml', mst', S', I'))) (W0 : zWo D base b xs ad cA F S I s H) (hS : va_S (fun q => base ≤ q) s.heap H locs) (hL : zLr b ad S.1.length (lk k) (hk k) ls ml) (hT : zSr b ad S.1.length mst st) (hc : cells + (S'.1.length - S.1.length) ≤ R.cells) (hs : slots + (zsl S' - zsl S) ≤ R.slots)
    (kk : zK D base b xs k p l e R s m args below meth c Q S S' I' ad cells slots pc' ml' mst') : W p l e R s m args below meth c H locs cells slots Q (F0 m pc ls st) := by
  obtain ⟨hx, hb, hml, hown, hts, hRf, hRl, hni⟩ := Cx
  simp only [sti] at h
  split at h
  · rename_i h0
    subst h0
    split at h
    · rename_i q0 hv
      obtain ⟨ci, j⟩ := q0
      simp only [zpf] at h
      split at h
      · rename_i x a r
        split at h
        · rename_i hkd
          obtain ⟨li, hlink, hci, hj⟩ := zfd_of hv
          obtain ⟨q, hq, hq1, hsd, halt⟩ := kd_some hkd (by omega)
          obtain ⟨tys, ws, hK, hP, hD, hsz, hbb, hX, hXl, hXv, hlen, hcell, hI, hN⟩ := id W0
          obtain ⟨c1, c2, c3, c4⟩ := hcell a q hq
          rw [zE_obj hq1] at c1
          have hcN := (zt_ty0 ci hci).1
          have hdl : j < q.2.length := by
            rcases c2 with c2 | ⟨-, -, c2, -⟩
            · omega
            · rw [c2, show q.1 - 2 = ci by omega, ← hcN]; exact hj
          obtain ⟨y1, y2, y3, y4, y5, y6, y7⟩ := (zt_ty0 ci hci).2 j (by rw [← hcN]; exact hj)
          have hl2 : j < (zFl ad (F a) ci q.2).length := by rw [zFl_len]; exact hdl
          have hcc : ∀ (a : Nat) (q : Nat × List Nat), S.1[a]? = some q → ws[a]? = some (ad a, zE ad cA F a q) := fun a q z => (hcell a q z).1
          have hct : ∀ (a : Nat) (q : Nat × List Nat), S.1[a]? = some q → (q.1 = 0 → ∃ t : Nat, tys[t]? = some (cA a, .int)) ∧ (q.1 = 1 → ∃ t : Nat, tys[t]? = some (cA a, .boolean)) := fun a q z => (hcell a q z).2.2
          have hpar := zt_ty ci hci j hj
          obtain ⟨w, st', rfl, hw, hq2⟩ := zSr_i hT
          obtain ⟨st'', rfl, ha, hq3⟩ := zSr_r hq2
          split at h
          · rename_i hf
            simp only [nx, Option.some.injEq, Sum.inl.injEq, Prod.mk.injEq] at h
            obtain ⟨rfl, rfl, rfl, rfl, rfl⟩ := h
            refine va_put (D := D) (C := cR ci) (T := cT ci) (N := cN ci) hx hb hts (zt_wsg ci hci) (cty ci) (zt_ty ci hci) (zt_nm ci hci) hown hK hP hD hS a c1 (zt_cls ci hci) j hj (hts _ (zt_gp hlink rfl)) (fun _ z => z) (by rw [y4]; simp [hf]) (by rw [hpar, y5 (Or.inl hf)]) rfl rfl hl2 hdg (fun H1 locs1 hP1 hD1 hS1 => ?_)
            rw [zFl_setI (by omega)] at hP1 hD1
            have W1 := zWo_set (j := j) (v := w) W0 hq hw (by rw [zE_obj hq1]; simp [zFu]) hK hct hlen hcc hP1 hD1 hS hS1 hbs
            have := kk ad cA _ H1 locs1 ls st'' W1 hS1 hL hq3 (fun _ _ => rfl)
            simpa using this
          · rename_i hf
            split at h
            · rename_i hf1
              split at h
              · rename_i hx01
                simp only [nx, Option.some.injEq, Sum.inl.injEq, Prod.mk.injEq] at h
                obtain ⟨rfl, rfl, rfl, rfl, rfl⟩ := h
                have hw01 : w = 0 ∨ w = 1 := by
                  rcases hx01 with z | z
                  · exact Or.inl (Int32.toInt_inj.mp (by rw [hw, z]; rfl))
                  · exact Or.inr (Int32.toInt_inj.mp (by rw [hw, z]; rfl))
                refine va_put (D := D) (C := cR ci) (T := cT ci) (N := cN ci) hx hb hts (zt_wsg ci hci) (cty ci) (zt_ty ci hci) (zt_nm ci hci) hown hK hP hD hS a c1 (zt_cls ci hci) j hj (hts _ (zt_gp hlink rfl)) (fun _ z => z) (by rw [y4]; simp [hf1]) (ty := .boolean) (by rw [hpar, y6 (Or.inl hf1)]) (by rcases hw01 with rfl | rfl <;> rfl) (by rcases hw01 with rfl | rfl <;> rfl) hl2 hdg (fun H1 locs1 hP1 hD1 hS1 => ?_)
                rw [zFl_setI (by omega)] at hP1 hD1
                have W1 := zWo_set (j := j) (v := w) W0 hq hw (by rw [zE_obj hq1]; simp [zFu]) hK hct hlen hcc hP1 hD1 hS hS1 hbs
                have := kk ad cA _ H1 locs1 ls st'' W1 hS1 hL hq3 (fun _ _ => rfl)
                simpa using this
              · cases h
            · rename_i hf1
              have hwr := zi_rg w
              split at h
              · rename_i hf2
                simp only [nx, Option.some.injEq, Sum.inl.injEq, Prod.mk.injEq] at h
                obtain ⟨rfl, rfl, rfl, rfl, rfl⟩ := h
                obtain ⟨hf2, hx0, hik, hok⟩ := hf2
                refine va_putF (D := D) (C := cR ci) (T := cT ci) (N := cN ci) hx hb hts (zt_wsg ci hci) (cty ci) (zt_ty ci hci) (zt_nm ci hci) hown hK hP hD hS a c1 (zt_cls ci hci) j hj (hts _ (zt_gp hlink rfl)) (fun _ z => z) (by rw [y4]; simp [hf2]) (hni hik) (by rw [y2, ← hok]; exact ((zt_cn k hok hci).symm)) (by rw [hpar, y5 (Or.inr hf2)]) rfl rfl hl2 hdg (fun H1 locs1 hP1 hD1 hS1 => ?_)
                have W1 := zWo_ss (j := j) (d := x.toNat) (w := .int w) W0 hq hq1 (by omega) (fun _ => by omega) (fun z => by omega) (by rw [if_neg (by omega), if_pos (by omega)]; congr 1; apply Int32.toInt_inj.mp; rw [zi_nat (by omega)]; omega) hK hct hlen hcc hP1 hD1 hS hS1 hbs
                have hl3 : (ss S a j x.toNat).1.length = S.1.length := by simp [ss]
                exact W.widen (by omega) (by omega) (kk ad cA F H1 locs1 ls st'' W1 hS1 (by rw [hl3]; exact hL) (by rw [hl3]; exact hq3) (fun _ _ => rfl))
              · split at h
                · rename_i hf2
                  simp only [nx, Option.some.injEq, Sum.inl.injEq, Prod.mk.injEq] at h
                  obtain ⟨rfl, rfl, rfl, rfl, rfl⟩ := h
                  obtain ⟨hf2, hx01, hik, hok⟩ := hf2
                  have hw01 : w = 0 ∨ w = 1 := by
                    rcases hx01 with z | z
                    · exact Or.inl (Int32.toInt_inj.mp (by rw [hw, z]; rfl))
                    · exact Or.inr (Int32.toInt_inj.mp (by rw [hw, z]; rfl))
                  refine va_putF (D := D) (C := cR ci) (T := cT ci) (N := cN ci) hx hb hts (zt_wsg ci hci) (cty ci) (zt_ty ci hci) (zt_nm ci hci) hown hK hP hD hS a c1 (zt_cls ci hci) j hj (hts _ (zt_gp hlink rfl)) (fun _ z => z) (by rw [y4]; simp [hf2]) (hni hik) (by rw [y2, ← hok]; exact ((zt_cn k hok hci).symm)) (ty := .boolean) (by rw [hpar, y6 (Or.inr hf2)]) (by rcases hw01 with rfl | rfl <;> rfl) (by rcases hw01 with rfl | rfl <;> rfl) hl2 hdg (fun H1 locs1 hP1 hD1 hS1 => ?_)
                  have W1 := zWo_ss (j := j) (d := x.toNat) (w := .int w) W0 hq hq1 (by omega) (fun _ => by omega) (fun z => by omega) (by rw [if_neg (by omega), if_pos (by omega)]; congr 1; apply Int32.toInt_inj.mp; rw [zi_nat (by omega)]; omega) hK hct hlen hcc hP1 hD1 hS hS1 hbs
                  have hl3 : (ss S a j x.toNat).1.length = S.1.length := by simp [ss]
                  exact W.widen (by omega) (by omega) (kk ad cA F H1 locs1 ls st'' W1 hS1 (by rw [hl3]; exact hL) (by rw [hl3]; exact hq3) (fun _ _ => rfl))
                · cases h
        · cases h
      · rename_i b0 a r
        split at h
        · rename_i hkd
          obtain ⟨li, hlink, hci, hj⟩ := zfd_of hv
          obtain ⟨q, hq, hq1, hsd, halt⟩ := kd_some hkd (by omega)
          obtain ⟨tys, ws, hK, hP, hD, hsz, hbb, hX, hXl, hXv, hlen, hcell, hI, hN⟩ := id W0
          obtain ⟨c1, c2, c3, c4⟩ := hcell a q hq
          rw [zE_obj hq1] at c1
          have hcN := (zt_ty0 ci hci).1
          have hdl : j < q.2.length := by
            rcases c2 with c2 | ⟨-, -, c2, -⟩
            · omega
            · rw [c2, show q.1 - 2 = ci by omega, ← hcN]; exact hj
          obtain ⟨y1, y2, y3, y4, y5, y6, y7⟩ := (zt_ty0 ci hci).2 j (by rw [← hcN]; exact hj)
          have hl2 : j < (zFl ad (F a) ci q.2).length := by rw [zFl_len]; exact hdl
          have hcc : ∀ (a : Nat) (q : Nat × List Nat), S.1[a]? = some q → ws[a]? = some (ad a, zE ad cA F a q) := fun a q z => (hcell a q z).1
          have hct : ∀ (a : Nat) (q : Nat × List Nat), S.1[a]? = some q → (q.1 = 0 → ∃ t : Nat, tys[t]? = some (cA a, .int)) ∧ (q.1 = 1 → ∃ t : Nat, tys[t]? = some (cA a, .boolean)) := fun a q z => (hcell a q z).2.2
          have hpar := zt_ty ci hci j hj
          obtain ⟨st', rfl, hb0, hq2⟩ := zSr_r hT
          obtain ⟨st'', rfl, ha, hq3⟩ := zSr_r hq2
          have hl3 : (ss S a j (b0 + 1)).1.length = S.1.length := by simp [ss]
          have hrt : 4 ≤ ft ci j → narrow (cty ci j) (.ref (ad b0)) = .ref (ad b0) ∧ fits (cty ci j) (.ref (ad b0)) = true := by
            intro z
            have z1 := y7 z
            cases hcty : cty ci j <;> rw [hcty] at z1 <;> first | exact ⟨rfl, rfl⟩ | cases z1
          split at h
          · rename_i hf
            obtain ⟨hf, hik, hok⟩ := hf
            simp only [nx, Option.some.injEq, Sum.inl.injEq, Prod.mk.injEq] at h
            obtain ⟨rfl, rfl, rfl, rfl, rfl⟩ := h
            refine va_putF (D := D) (C := cR ci) (T := cT ci) (N := cN ci) hx hb hts (zt_wsg ci hci) (cty ci) (zt_ty ci hci) (zt_nm ci hci) hown hK hP hD hS a c1 (zt_cls ci hci) j hj (hts _ (zt_gp hlink rfl)) (fun _ z => z) (by rw [y4]; simp [hf]) (hni hik) (by rw [y2, ← hok]; exact ((zt_cn k hok hci).symm)) hpar (hrt (by omega)).1 (hrt (by omega)).2 hl2 hdg (fun H1 locs1 hP1 hD1 hS1 => ?_)
            have W1 := zWo_ss (j := j) (d := b0 + 1) (w := .ref (ad b0)) W0 hq hq1 (by omega) (fun z => by omega) (fun z => by omega) (by rw [if_neg (by omega), if_neg (by omega), if_neg (by omega)]; rfl) hK hct hlen hcc hP1 hD1 hS hS1 hbs
            exact W.widen (by omega) (by omega) (kk ad cA F H1 locs1 ls st'' W1 hS1 (by rw [hl3]; exact hL) (by rw [hl3]; exact hq3) (fun _ _ => rfl))
          · split at h
            · rename_i hf
              simp only [nx, Option.some.injEq, Sum.inl.injEq, Prod.mk.injEq] at h
              obtain ⟨rfl, rfl, rfl, rfl, rfl⟩ := h
              refine va_put (D := D) (C := cR ci) (T := cT ci) (N := cN ci) hx hb hts (zt_wsg ci hci) (cty ci) (zt_ty ci hci) (zt_nm ci hci) hown hK hP hD hS a c1 (zt_cls ci hci) j hj (hts _ (zt_gp hlink rfl)) (fun _ z => z) (by rw [y4]; simp [hf]) hpar (hrt (by omega)).1 (hrt (by omega)).2 hl2 hdg (fun H1 locs1 hP1 hD1 hS1 => ?_)
              have W1 := zWo_ss (j := j) (d := b0 + 1) (w := .ref (ad b0)) W0 hq hq1 (by omega) (fun z => by omega) (fun z => by omega) (by rw [if_neg (by omega), if_neg (by omega), if_neg (by omega)]; rfl) hK hct hlen hcc hP1 hD1 hS hS1 hbs
              exact W.widen (by omega) (by omega) (kk ad cA F H1 locs1 ls st'' W1 hS1 (by rw [hl3]; exact hL) (by rw [hl3]; exact hq3) (fun _ _ => rfl))
            · cases h
        · cases h
      · cases h
    · cases h
  · cases h
theorem zn_iaload {len pc' : Nat} {ml' mst' : List zV} {S' : zS} {I' : zM} (Cx : zCx k R p s m args meth c) (hbs : base ≤ s.heap.size) (hdg : decode (bk k) pc = .ok (.iaload, len)) (h : sti k pc ml mst S I len (.iaload) = some (.inl (pc', ml', mst', S', I'))) (W0 : zWo D base b xs ad cA F S I s H) (hS : va_S (fun q => base ≤ q) s.heap H locs) (hL : zLr b ad S.1.length (lk k) (hk k) ls ml) (hT : zSr b ad S.1.length mst st) (hc : cells + (S'.1.length - S.1.length) ≤ R.cells) (hs : slots + (zsl S' - zsl S) ≤ R.slots)
    (kk : zK D base b xs k p l e R s m args below meth c Q S S' I' ad cells slots pc' ml' mst') : W p l e R s m args below meth c H locs cells slots Q (F0 m pc ls st) := by
  obtain ⟨hx, hb, hml, hown, hts, hRf, hRl, hni⟩ := Cx
  simp only [sti] at h
  split at h
  · rename_i h0
    subst h0
    simp only [zal] at h
    split at h
    · rename_i j a r
      split at h
      · rename_i h0
        obtain ⟨hkd, hj0, hj1⟩ := h0
        simp only [nx, Option.some.injEq, Sum.inl.injEq, Prod.mk.injEq] at h
        obtain ⟨rfl, rfl, rfl, rfl, rfl⟩ := h
        obtain ⟨q, hq, hq1, hsd, halt⟩ := kd_some hkd (by omega)
        obtain ⟨tys, ws, hK, hP, hD, hsz, hbb, hX, hXl, hXv, hlen, hcell, hI, hN⟩ := id W0
        obtain ⟨c1, c2, c3, c4⟩ := hcell a q hq
        rw [zE_arr (by omega)] at c1
        obtain ⟨t0, ht0⟩ := c3 hq1
        obtain ⟨i, st', rfl, rfl, hq2⟩ := zSr_i hT
        obtain ⟨st'', rfl, ha, hq3⟩ := zSr_r hq2
        rw [hsd] at hj1
        refine va_iald hx hb hK hP a t0 c1 ht0 (zi_in hj0 hj1) hdg (kk.go W0 hS hL ⟨⟨_, rfl, ?_⟩, hq3⟩)
        rw [← hI a _ halt, zi_clamp hj0]
      · cases h
    · rename_i j r
      split at h
      · rename_i h0
        obtain ⟨-, hj0, hj1⟩ := h0
        simp only [nx, Option.some.injEq, Sum.inl.injEq, Prod.mk.injEq] at h
        obtain ⟨rfl, rfl, rfl, rfl, rfl⟩ := h
        obtain ⟨tys, ws, hK, hP, hD, hsz, hbb, hX, hXl, hXv, hlen, hcell, hI, hN⟩ := id W0
        obtain ⟨i, st', rfl, rfl, hq2⟩ := zSr_i hT
        obtain ⟨st'', rfl, hq3⟩ := zSr_x hq2
        obtain ⟨scr, g1, g2, g3, g4, g5⟩ := hX
        have hin := zi_in hj0 hj1
        have hlt : i.toNatClampNeg < S.2.1 := Nat.not_le.mp fun q => hin (Or.inr q)
        refine W.iald (v := .int (xs i.toNatClampNeg)) hx hb g1 g2 g3 (by rw [g4]; exact hin) (g5 _ hlt) rfl rfl hdg (kk.go W0 hS hL ⟨⟨_, rfl, ?_⟩, hq3⟩)
        rw [← hXv _ hlt, zi_clamp hj0]
      · cases h
    · cases h
  · cases h
theorem zn_baload {len pc' : Nat} {ml' mst' : List zV} {S' : zS} {I' : zM} (Cx : zCx k R p s m args meth c) (hbs : base ≤ s.heap.size) (hdg : decode (bk k) pc = .ok (.baload, len)) (h : sti k pc ml mst S I len (.baload) = some (.inl (pc', ml', mst', S', I'))) (W0 : zWo D base b xs ad cA F S I s H) (hS : va_S (fun q => base ≤ q) s.heap H locs) (hL : zLr b ad S.1.length (lk k) (hk k) ls ml) (hT : zSr b ad S.1.length mst st) (hc : cells + (S'.1.length - S.1.length) ≤ R.cells) (hs : slots + (zsl S' - zsl S) ≤ R.slots)
    (kk : zK D base b xs k p l e R s m args below meth c Q S S' I' ad cells slots pc' ml' mst') : W p l e R s m args below meth c H locs cells slots Q (F0 m pc ls st) := by
  obtain ⟨hx, hb, hml, hown, hts, hRf, hRl, hni⟩ := Cx
  simp only [sti] at h
  split at h
  · rename_i h0
    subst h0
    simp only [zal] at h
    split at h
    · rename_i j a r
      split at h
      · rename_i h0
        obtain ⟨hkd, hj0, hj1⟩ := h0
        simp only [nx, Option.some.injEq, Sum.inl.injEq, Prod.mk.injEq] at h
        obtain ⟨rfl, rfl, rfl, rfl, rfl⟩ := h
        obtain ⟨q, hq, hq1, hsd, halt⟩ := kd_some hkd (by omega)
        obtain ⟨tys, ws, hK, hP, hD, hsz, hbb, hX, hXl, hXv, hlen, hcell, hI, hN⟩ := id W0
        obtain ⟨c1, c2, c3, c4⟩ := hcell a q hq
        rw [zE_arr (by omega)] at c1
        obtain ⟨t0, ht0⟩ := c4 hq1
        obtain ⟨i, st', rfl, rfl, hq2⟩ := zSr_i hT
        obtain ⟨st'', rfl, ha, hq3⟩ := zSr_r hq2
        rw [hsd] at hj1
        refine va_zald hx hb hK hP a t0 c1 ht0 (zi_in hj0 hj1) hdg (kk.go W0 hS hL ⟨⟨_, rfl, ?_⟩, hq3⟩)
        rw [← hI a _ halt, zi_clamp hj0]
      · cases h
    · rename_i j r
      split at h
      · rename_i h0
        exact absurd h0.1 (by omega)
      · cases h
    · cases h
  · cases h
theorem zn_iastore {len pc' : Nat} {ml' mst' : List zV} {S' : zS} {I' : zM} (Cx : zCx k R p s m args meth c) (hbs : base ≤ s.heap.size) (hdg : decode (bk k) pc = .ok (.iastore, len)) (h : sti k pc ml mst S I len (.iastore) = some (.inl (pc', ml', mst', S', I'))) (W0 : zWo D base b xs ad cA F S I s H) (hS : va_S (fun q => base ≤ q) s.heap H locs) (hL : zLr b ad S.1.length (lk k) (hk k) ls ml) (hT : zSr b ad S.1.length mst st) (hc : cells + (S'.1.length - S.1.length) ≤ R.cells) (hs : slots + (zsl S' - zsl S) ≤ R.slots)
    (kk : zK D base b xs k p l e R s m args below meth c Q S S' I' ad cells slots pc' ml' mst') : W p l e R s m args below meth c H locs cells slots Q (F0 m pc ls st) := by
  obtain ⟨hx, hb, hml, hown, hts, hRf, hRl, hni⟩ := Cx
  simp only [sti] at h
  split at h
  · rename_i h0
    subst h0
    simp only [zas] at h
    split at h
    · rename_i x j a r
      split at h
      · rename_i h0
        obtain ⟨hkd, hj0, hj1, hx01⟩ := h0
        simp only [nx, Option.some.injEq, Sum.inl.injEq, Prod.mk.injEq] at h
        obtain ⟨rfl, rfl, rfl, rfl, rfl⟩ := h
        obtain ⟨q, hq, hq1, hsd, halt⟩ := kd_some hkd (by omega)
        obtain ⟨tys, ws, hK, hP, hD, hsz, hbb, hX, hXl, hXv, hlen, hcell, hI, hN⟩ := id W0
        obtain ⟨c1, c2, c3, c4⟩ := hcell a q hq
        rw [zE_arr (by omega)] at c1
        obtain ⟨t0, ht0⟩ := c3 hq1
        obtain ⟨w, st1, rfl, rfl, hq2⟩ := zSr_i hT
        obtain ⟨i, st2, rfl, rfl, hq3⟩ := zSr_i hq2
        obtain ⟨st3, rfl, ha, hq4⟩ := zSr_r hq3
        rw [hsd] at hj1
        have hcc : ∀ (a : Nat) (q : Nat × List Nat), S.1[a]? = some q → ws[a]? = some (ad a, zE ad cA F a q) := fun a q z => (hcell a q z).1
        have hct : ∀ (a : Nat) (q : Nat × List Nat), S.1[a]? = some q → (q.1 = 0 → ∃ t : Nat, tys[t]? = some (cA a, .int)) ∧ (q.1 = 1 → ∃ t : Nat, tys[t]? = some (cA a, .boolean)) := fun a q z => (hcell a q z).2.2
        refine va_iast hx hb hK hP hD hS a t0 c1 ht0 (zi_in hj0 hj1) hdg (fun H1 locs1 hP1 hD1 hS1 => ?_)
        have W1 := zWo_set (j := i.toNatClampNeg) (v := w) W0 hq rfl (by rw [zE_arr (by omega)]; simp [zFu]) hK hct hlen hcc hP1 hD1 hS hS1 hbs
        rw [zi_clamp hj0] at W1
        have := kk ad cA _ H1 locs1 ls st3 W1 hS1 hL hq4 (fun _ _ => rfl)
        simpa using this
      · cases h
    · cases h
  · cases h
theorem zn_bastore {len pc' : Nat} {ml' mst' : List zV} {S' : zS} {I' : zM} (Cx : zCx k R p s m args meth c) (hbs : base ≤ s.heap.size) (hdg : decode (bk k) pc = .ok (.bastore, len)) (h : sti k pc ml mst S I len (.bastore) = some (.inl (pc', ml', mst', S', I'))) (W0 : zWo D base b xs ad cA F S I s H) (hS : va_S (fun q => base ≤ q) s.heap H locs) (hL : zLr b ad S.1.length (lk k) (hk k) ls ml) (hT : zSr b ad S.1.length mst st) (hc : cells + (S'.1.length - S.1.length) ≤ R.cells) (hs : slots + (zsl S' - zsl S) ≤ R.slots)
    (kk : zK D base b xs k p l e R s m args below meth c Q S S' I' ad cells slots pc' ml' mst') : W p l e R s m args below meth c H locs cells slots Q (F0 m pc ls st) := by
  obtain ⟨hx, hb, hml, hown, hts, hRf, hRl, hni⟩ := Cx
  simp only [sti] at h
  split at h
  · rename_i h0
    subst h0
    simp only [zas] at h
    split at h
    · rename_i x j a r
      split at h
      · rename_i h0
        obtain ⟨hkd, hj0, hj1, hx01⟩ := h0
        simp only [nx, Option.some.injEq, Sum.inl.injEq, Prod.mk.injEq] at h
        obtain ⟨rfl, rfl, rfl, rfl, rfl⟩ := h
        obtain ⟨q, hq, hq1, hsd, halt⟩ := kd_some hkd (by omega)
        obtain ⟨tys, ws, hK, hP, hD, hsz, hbb, hX, hXl, hXv, hlen, hcell, hI, hN⟩ := id W0
        obtain ⟨c1, c2, c3, c4⟩ := hcell a q hq
        rw [zE_arr (by omega)] at c1
        obtain ⟨t0, ht0⟩ := c4 hq1
        obtain ⟨w, st1, rfl, rfl, hq2⟩ := zSr_i hT
        obtain ⟨i, st2, rfl, rfl, hq3⟩ := zSr_i hq2
        obtain ⟨st3, rfl, ha, hq4⟩ := zSr_r hq3
        rw [hsd] at hj1
        have hcc : ∀ (a : Nat) (q : Nat × List Nat), S.1[a]? = some q → ws[a]? = some (ad a, zE ad cA F a q) := fun a q z => (hcell a q z).1
        have hct : ∀ (a : Nat) (q : Nat × List Nat), S.1[a]? = some q → (q.1 = 0 → ∃ t : Nat, tys[t]? = some (cA a, .int)) ∧ (q.1 = 1 → ∃ t : Nat, tys[t]? = some (cA a, .boolean)) := fun a q z => (hcell a q z).2.2
        refine va_zast hx hb hK hP hD hS a t0 c1 ht0 (zi_in hj0 hj1) hdg (fun H1 locs1 hP1 hD1 hS1 => ?_)
        have hw01 : w = 0 ∨ w = 1 := by
          rcases hx01 with z | z | z
          · omega
          · exact Or.inl (Int32.toInt_inj.mp (by rw [z]; rfl))
          · exact Or.inr (Int32.toInt_inj.mp (by rw [z]; rfl))
        have hnar : vp_nar .boolean w = w := by rcases hw01 with rfl | rfl <;> rfl
        rw [hnar] at hP1 hD1
        have W1 := zWo_set (j := i.toNatClampNeg) (v := w) W0 hq rfl (by rw [zE_arr (by omega)]; simp [zFu]) hK hct hlen hcc hP1 hD1 hS hS1 hbs
        rw [zi_clamp hj0] at W1
        have := kk ad cA _ H1 locs1 ls st3 W1 hS1 hL hq4 (fun _ _ => rfl)
        simpa using this
      · cases h
    · cases h
  · cases h
theorem zn_arraylength {len pc' : Nat} {ml' mst' : List zV} {S' : zS} {I' : zM} (Cx : zCx k R p s m args meth c) (hbs : base ≤ s.heap.size) (hdg : decode (bk k) pc = .ok (.arraylength, len)) (h : sti k pc ml mst S I len (.arraylength) = some (.inl (pc', ml', mst', S', I'))) (W0 : zWo D base b xs ad cA F S I s H) (hS : va_S (fun q => base ≤ q) s.heap H locs) (hL : zLr b ad S.1.length (lk k) (hk k) ls ml) (hT : zSr b ad S.1.length mst st) (hc : cells + (S'.1.length - S.1.length) ≤ R.cells) (hs : slots + (zsl S' - zsl S) ≤ R.slots)
    (kk : zK D base b xs k p l e R s m args below meth c Q S S' I' ad cells slots pc' ml' mst') : W p l e R s m args below meth c H locs cells slots Q (F0 m pc ls st) := by
  obtain ⟨hx, hb, hml, hown, hts, hRf, hRl, hni⟩ := Cx
  simp only [sti] at h
  split at h
  · rename_i a r
    split at h
    · rename_i h0
      obtain ⟨rfl, hkd⟩ := h0
      simp only [nx, Option.some.injEq, Sum.inl.injEq, Prod.mk.injEq] at h
      obtain ⟨rfl, rfl, rfl, rfl, rfl⟩ := h
      obtain ⟨q, hq, hq1, hsd, halt⟩ := kd_some (S := S) (a := a) rfl (by omega)
      obtain ⟨tys, ws, hK, hP, hD, hsz, hbb, hX, hXl, hXv, hlen, hcell, hI, hN⟩ := id W0
      obtain ⟨c1, c2, c3, c4⟩ := hcell a q hq
      rw [zE_arr (by omega)] at c1
      obtain ⟨st', rfl, ha, hq2⟩ := zSr_r hT
      have hz : ∃ (t0 : Nat) (ty : FieldType), tys[t0]? = some (cA a, ty) := by
        have : q.1 = 0 ∨ q.1 = 1 := by omega
        rcases this with z | z
        · obtain ⟨t, ht⟩ := c3 z; exact ⟨t, _, ht⟩
        · obtain ⟨t, ht⟩ := c4 z; exact ⟨t, _, ht⟩
      obtain ⟨t0, ty, ht0⟩ := hz
      refine va_alen hx hb hK hP a t0 c1 ht0 rfl hdg (kk.go W0 hS hL ⟨⟨_, rfl, ?_⟩, hq2⟩)
      rw [hsd]
      rcases c2 with c2 | c2
      · exact zi_nat c2.2
      · omega
    · cases h
  · rename_i r
    split at h
    · rename_i h0
      subst h0
      simp only [nx, Option.some.injEq, Sum.inl.injEq, Prod.mk.injEq] at h
      obtain ⟨rfl, rfl, rfl, rfl, rfl⟩ := h
      obtain ⟨tys, ws, hK, hP, hD, hsz, hbb, hX, hXl, hXv, hlen, hcell, hI, hN⟩ := id W0
      obtain ⟨st', rfl, hq2⟩ := zSr_x hT
      obtain ⟨scr, g1, g2, g3, g4, g5⟩ := hX
      exact W.alen (n := Int32.ofNat S.2.1) hx hb g1 g2 (by rw [g4] <;> rfl) rfl rfl hdg (kk.go W0 hS hL ⟨⟨_, rfl, zi_nat hXl⟩, hq2⟩)
    · cases h
  · cases h
theorem zn_new {i : Nat} {len pc' : Nat} {ml' mst' : List zV} {S' : zS} {I' : zM} (Cx : zCx k R p s m args meth c) (hbs : base ≤ s.heap.size) (hdg : decode (bk k) pc = .ok (.new i, len)) (h : sti k pc ml mst S I len (.new i) = some (.inl (pc', ml', mst', S', I'))) (W0 : zWo D base b xs ad cA F S I s H) (hS : va_S (fun q => base ≤ q) s.heap H locs) (hL : zLr b ad S.1.length (lk k) (hk k) ls ml) (hT : zSr b ad S.1.length mst st) (hc : cells + (S'.1.length - S.1.length) ≤ R.cells) (hs : slots + (zsl S' - zsl S) ≤ R.slots)
    (kk : zK D base b xs k p l e R s m args below meth c Q S S' I' ad cells slots pc' ml' mst') : W p l e R s m args below meth c H locs cells slots Q (F0 m pc ls st) := by
  obtain ⟨hx, hb, hml, hown, hts, hRf, hRl, hni⟩ := Cx
  simp only [sti] at h
  split at h
  · rename_i h0
    subst h0
    split at h
    · rename_i ci hv
      simp only [nx, Option.some.injEq, Sum.inl.injEq, Prod.mk.injEq] at h
      obtain ⟨rfl, rfl, rfl, rfl, rfl⟩ := h
      obtain ⟨li, hlink, hci⟩ := znw_of hv
      obtain ⟨tys, ws, hK, hP, hD, hsz, hbb, hX, hXl, hXv, hlen, hcell, hI, hN⟩ := id W0
      have hcN := (zt_ty0 ci hci).1
      have hl3 : (sp S (ci + 2, List.replicate (nf ci) 0)).1.length = S.1.length + 1 := by simp [sp]
      have hz3 : zsl (sp S (ci + 2, List.replicate (nf ci) 0)) = zsl S + nf ci := by simp [zsl, sp]
      rw [hl3] at hc
      rw [hz3] at hs
      refine va_new (D := D) (ci := ci) (fs := zFl (fun _ => 0) (fun _ => 0) ci (List.replicate (nf ci) 0)) (C := cR ci) (T := cT ci) (N := cN ci) hx hb hts (zt_wsg ci hci) (cty ci) (zt_ty ci hci) hown (hts _ (zt_gp hlink rfl)) (hts _ (zt_gp (zt_ins ci hci).1 rfl)) (hts _ (zt_gp (zt_ins ci hci).2 rfl)) hK hP hD hS (fun q hq => by show base ≤ q; omega) (zt_cls ci hci) (fun j hj => ?_) (by omega) (by omega) hdg (fun qa H1 hP1 hD1 hS1 => ?_)
      · obtain ⟨y1, y2, y3, y4, y5, y6, y7⟩ := (zt_ty0 ci hci).2 j (by rw [← hcN]; exact hj)
        have hdl : j < (List.replicate (nf ci) 0).length := by rw [List.length_replicate, ← hcN]; exact hj
        have h0 : (List.replicate (nf ci) 0).getD j 0 = 0 := by
          rw [hcN] at hj
          simp [List.getD_eq_getElem?_getD, hj]
        unfold vp_V
        rw [List.getD_eq_getElem?_getD, zFl_get hdl, h0]
        by_cases h1 : ft ci j ≤ 1
        · have : cty ci j = .int ∨ cty ci j = .boolean := by
            have : ft ci j = 0 ∨ ft ci j = 1 := by omega
            rcases this with z | z
            · exact Or.inl (y5 (Or.inl z))
            · exact Or.inr (y6 (Or.inl z))
          rcases this with z | z <;> rw [z] <;> simp [h1, defaultValue]
        · by_cases h2 : ft ci j ≤ 3
          · have : cty ci j = .int ∨ cty ci j = .boolean := by
              have : ft ci j = 2 ∨ ft ci j = 3 := by omega
              rcases this with z | z
              · exact Or.inl (y5 (Or.inr z))
              · exact Or.inr (y6 (Or.inr z))
            rcases this with z | z <;> rw [z] <;> simp [h1, h2, defaultValue]
          · have z1 := y7 (by omega)
            cases hcty : cty ci j <;> rw [hcty] at z1 <;> first | (simp [h1, h2, defaultValue]; done) | cases z1
      · have W1 := zWo_push (q0 := (ci + 2, List.replicate (nf ci) 0)) (cA0 := 0) W0 hK (fun _ _ z => z) (fun a q z => (hcell a q z).2.2) ⟨fun z => by simp at z, fun z => by simp at z⟩ hlen (fun a q z => (hcell a q z).1) hP1 hD1 hS hS1 hbs (by
          rw [zE_obj (ci := ci) rfl]
          congr 2
          apply List.ext_getElem?
          intro j
          by_cases hj : j < nf ci
          · have hdl : j < (List.replicate (nf ci) 0).length := by simpa using hj
            have h0 : (List.replicate (nf ci) 0).getD j 0 = 0 := by simp [List.getD_eq_getElem?_getD, hj]
            rw [zFl_get hdl, zFl_get hdl, h0]
            simp
          · rw [List.getElem?_eq_none (by simp [zFl_len]; omega), List.getElem?_eq_none (by simp [zFl_len]; omega)]) (Or.inr ⟨by simp, by simpa using hci, by simp, fun j hj => by
            have h0 : (List.replicate (nf ci) 0).getD j 0 = 0 := by
              have hj : j < nf ci := by simpa using hj
              simp [List.getD_eq_getElem?_getD, hj]
            rw [h0]
            exact ⟨fun _ => by omega, fun _ => by omega⟩⟩)
        have hAd : ∀ a, a < S.1.length → (fun a => if a = S.1.length then qa else ad a) a = ad a := fun a ha => by simp [show a ≠ S.1.length by omega]
        refine W.widen (by rw [hl3]; omega) (by rw [hz3, hcN]; omega) (kk _ _ _ H1 locs ls _ W1 hS1 (by rw [hl3]; exact zLr_more hL hAd (by omega)) ?_ hAd)
        rw [hl3]
        exact ⟨⟨by simp, by omega⟩, zSr_more hAd (by omega) _ _ hT⟩
    · cases h
  · cases h
theorem zn_newarray {t : ArrayType} {len pc' : Nat} {ml' mst' : List zV} {S' : zS} {I' : zM} (Cx : zCx k R p s m args meth c) (hbs : base ≤ s.heap.size) (hdg : decode (bk k) pc = .ok (.newarray t, len)) (h : sti k pc ml mst S I len (.newarray t) = some (.inl (pc', ml', mst', S', I'))) (W0 : zWo D base b xs ad cA F S I s H) (hS : va_S (fun q => base ≤ q) s.heap H locs) (hL : zLr b ad S.1.length (lk k) (hk k) ls ml) (hT : zSr b ad S.1.length mst st) (hc : cells + (S'.1.length - S.1.length) ≤ R.cells) (hs : slots + (zsl S' - zsl S) ≤ R.slots)
    (kk : zK D base b xs k p l e R s m args below meth c Q S S' I' ad cells slots pc' ml' mst') : W p l e R s m args below meth c H locs cells slots Q (F0 m pc ls st) := by
  obtain ⟨hx, hb, hml, hown, hts, hRf, hRl, hni⟩ := Cx
  simp only [sti] at h
  split at h
  · rename_i n r
    split at h
    · rename_i h0
      obtain ⟨rfl, hn0, hn1⟩ := h0
      obtain ⟨tys, ws, hK, hP, hD, hsz, hbb, hX, hXl, hXv, hlen, hcell, hI, hN⟩ := id W0
      obtain ⟨w, st', rfl, hw, hq2⟩ := zSr_i hT
      split at h
      · rename_i ht
        subst ht
        simp only [nx, Option.some.injEq, Sum.inl.injEq, Prod.mk.injEq] at h
        obtain ⟨rfl, rfl, rfl, rfl, rfl⟩ := h
        have hl3 : (sp S (0, [n.toNat])).1.length = S.1.length + 1 := by simp [sp]
        have hz3 : zsl (sp S (0, [n.toNat])) = zsl S + n.toNat := by simp [zsl, sp]
        rw [hl3] at hc
        rw [hz3] at hs
        refine va_newa (D := D) (atype := .int) (ty := .int) (a0 := (n.toNat, .inl (fun _ => 0))) (N' := n.toNat) hx hb (hts _ (zt_g zt_ai rfl)) rfl hK hP hD hS (fun q hq => by show base ≤ q; omega) (fun cA => rfl) (fun z => ?_) ?_ ?_ (by omega) (by omega) hdg (fun qa cA0 H1 hK1 hP1 hD1 hS1 => ?_)
        · rw [Int32.lt_iff_toInt_lt] at z
          simp at z
          omega
        · rw [← Int32.toNat_toInt, hw]
        · show n.toNat * _ ≤ _
          have : componentBytes .int ≤ 4 := by decide
          exact Nat.le_trans (Nat.mul_le_mul_left _ this) (by omega)
        · have W1 := zWo_push (q0 := (0, [n.toNat])) (cA0 := cA0) (tys := tys) W0 hK1 (fun t x z => by rw [List.getElem?_append_left (List.getElem?_eq_some_iff.mp z).1]; exact z) (fun a q z => (hcell a q z).2.2) ⟨fun z => ⟨tys.length, by simp⟩, fun z => by simp at z⟩ hlen (fun a q z => (hcell a q z).1) hP1 hD1 hS hS1 hbs (by rw [zE_arr (by simp)]; simp) (Or.inl ⟨by simp, by simp; omega⟩)
          have hAd : ∀ a, a < S.1.length → (fun a => if a = S.1.length then qa else ad a) a = ad a := fun a ha => by simp [show a ≠ S.1.length by omega]
          refine W.widen (by rw [hl3]; omega) (by rw [hz3]; omega) (kk _ _ _ H1 locs ls _ W1 hS1 (by rw [hl3]; exact zLr_more hL hAd (by omega)) ?_ hAd)
          rw [hl3]
          exact ⟨⟨by simp, by omega⟩, zSr_more hAd (by omega) _ _ hq2⟩
      · split at h
        · rename_i ht
          subst ht
          simp only [nx, Option.some.injEq, Sum.inl.injEq, Prod.mk.injEq] at h
          obtain ⟨rfl, rfl, rfl, rfl, rfl⟩ := h
          have hl3 : (sp S (1, [n.toNat])).1.length = S.1.length + 1 := by simp [sp]
          have hz3 : zsl (sp S (1, [n.toNat])) = zsl S + n.toNat := by simp [zsl, sp]
          rw [hl3] at hc
          rw [hz3] at hs
          refine va_newa (D := D) (atype := .boolean) (ty := .boolean) (a0 := (n.toNat, .inl (fun _ => 0))) (N' := n.toNat) hx hb (hts _ (zt_g zt_ab rfl)) rfl hK hP hD hS (fun q hq => by show base ≤ q; omega) (fun cA => rfl) (fun z => ?_) ?_ ?_ (by omega) (by omega) hdg (fun qa cA0 H1 hK1 hP1 hD1 hS1 => ?_)
          · rw [Int32.lt_iff_toInt_lt] at z
            simp at z
            omega
          · rw [← Int32.toNat_toInt, hw]
          · show n.toNat * _ ≤ _
            have : componentBytes .boolean ≤ 4 := by decide
            exact Nat.le_trans (Nat.mul_le_mul_left _ this) (by omega)
          · have W1 := zWo_push (q0 := (1, [n.toNat])) (cA0 := cA0) (tys := tys) W0 hK1 (fun t x z => by rw [List.getElem?_append_left (List.getElem?_eq_some_iff.mp z).1]; exact z) (fun a q z => (hcell a q z).2.2) ⟨fun z => by simp at z, fun z => ⟨tys.length, by simp⟩⟩ hlen (fun a q z => (hcell a q z).1) hP1 hD1 hS hS1 hbs (by rw [zE_arr (by simp)]; simp) (Or.inl ⟨by simp, by simp; omega⟩)
            have hAd : ∀ a, a < S.1.length → (fun a => if a = S.1.length then qa else ad a) a = ad a := fun a ha => by simp [show a ≠ S.1.length by omega]
            refine W.widen (by rw [hl3]; omega) (by rw [hz3]; omega) (kk _ _ _ H1 locs ls _ W1 hS1 (by rw [hl3]; exact zLr_more hL hAd (by omega)) ?_ hAd)
            rw [hl3]
            exact ⟨⟨by simp, by omega⟩, zSr_more hAd (by omega) _ _ hq2⟩
        · cases h
    · cases h
  · cases h
theorem zn_ospecial {i : Nat} {len pc' : Nat} {ml' mst' : List zV} {S' : zS} {I' : zM} (Cx : zCx k R p s m args meth c) (hbs : base ≤ s.heap.size) (hdg : decode (bk k) pc = .ok (.invokespecial i, len)) (h : sti k pc ml mst S I len (.invokespecial i) = some (.inl (pc', ml', mst', S', I'))) (W0 : zWo D base b xs ad cA F S I s H) (hS : va_S (fun q => base ≤ q) s.heap H locs) (hL : zLr b ad S.1.length (lk k) (hk k) ls ml) (hT : zSr b ad S.1.length mst st) (hc : cells + (S'.1.length - S.1.length) ≤ R.cells) (hs : slots + (zsl S' - zsl S) ≤ R.slots)
    (kk : zK D base b xs k p l e R s m args below meth c Q S S' I' ad cells slots pc' ml' mst') : W p l e R s m args below meth c H locs cells slots Q (F0 m pc ls st) := by
  obtain ⟨hx, hb, hml, hown, hts, hRf, hRl, hni⟩ := Cx
  simp only [sti] at h
  split at h
  · rename_i h0
    subst h0
    split at h
    · rename_i q0 hv
      obtain ⟨qk, k'⟩ := q0
      obtain ⟨r0, hr, e1, e2, e3, e4, hlc, hk'⟩ := zlkk_of hv
      split at h
      · simp only [zcv] at h
        split at h
        · split at h <;> cases h
        · cases h
      · split at h
        · rename_i hq2
          simp only [zob] at h
          split at h
          · rename_i a r
            split at h
            · rename_i hro
              simp only [nx, Option.some.injEq, Sum.inl.injEq, Prod.mk.injEq] at h
              obtain ⟨rfl, rfl, rfl, rfl, rfl⟩ := h
              obtain ⟨st', rfl, ha, hq⟩ := zSr_r hT
              dsimp only at hq2
              have hlc2 : zlc r0 = Cond.methodLink (cn (ok k)) i objectInit := by
                unfold zlc
                rw [e1, e2, e3, hq2]
                rfl
              rw [hlc2] at hlc
              refine W.objInit hx hb hown (hts _ (zt_g hlc rfl)) (hts _ (zt_g zt_ob1 rfl)) (hts _ (zt_g zt_ob2 rfl)) rfl (by rw [hml]; exact hL.1) rfl hdg (by rw [hRf]; exact hro.1) ?_ (kk.go W0 hS hL hq)
              have := zSr_ws _ _ hq
              rw [hRl, this]
              show 2 * 0 + _ + 12 ≤ _
              omega
            · cases h
          · cases h
        · cases h
    · cases h
  · cases h
theorem zn_mstatic {i : Nat} {len pc' : Nat} {ml' mst' : List zV} {S' : zS} {I' : zM} (Cx : zCx k R p s m args meth c) (hbs : base ≤ s.heap.size) (hdg : decode (bk k) pc = .ok (.invokestatic i, len)) (h : sti k pc ml mst S I len (.invokestatic i) = some (.inl (pc', ml', mst', S', I'))) (W0 : zWo D base b xs ad cA F S I s H) (hS : va_S (fun q => base ≤ q) s.heap H locs) (hL : zLr b ad S.1.length (lk k) (hk k) ls ml) (hT : zSr b ad S.1.length mst st) (hc : cells + (S'.1.length - S.1.length) ≤ R.cells) (hs : slots + (zsl S' - zsl S) ≤ R.slots)
    (kk : zK D base b xs k p l e R s m args below meth c Q S S' I' ad cells slots pc' ml' mst') : W p l e R s m args below meth c H locs cells slots Q (F0 m pc ls st) := by
  obtain ⟨hx, hb, hml, hown, hts, hRf, hRl, hni⟩ := Cx
  simp only [sti] at h
  split at h
  · rename_i h0
    subst h0
    split at h
    · rename_i q0 hv
      obtain ⟨qk, k'⟩ := q0
      obtain ⟨r0, hr, e1, e2, e3, e4, hlc, hk'⟩ := zlkk_of hv
      split at h
      · simp only [zcs] at h
        split at h <;> cases h
      · split at h
        · rename_i hq2
          simp only [zmx] at h
          split at h
          · rename_i y x r
            split at h
            · rename_i hro
              simp only [nx, Option.some.injEq, Sum.inl.injEq, Prod.mk.injEq] at h
              obtain ⟨rfl, rfl, rfl, rfl, rfl⟩ := h
              obtain ⟨wy, st1, rfl, rfl, hq⟩ := zSr_i hT
              obtain ⟨wx, st2, rfl, rfl, hq3⟩ := zSr_i hq
              have hws := zSr_ws _ _ hq3
              dsimp only at hq2
              rcases hq2 with hq2 | hq2
              · have hlc2 : zlc r0 = Cond.methodLink (cn (ok k)) i Lib.Math.max.name := by
                  unfold zlc
                  rw [e1, e2, e3, hq2]
                  rfl
                rw [hlc2] at hlc
                refine va_mmax hx hb (by rw [hml]; exact hL.1.symm) hown (hts _ (zt_g hlc rfl)) (hts _ (zt_g zt_max1 rfl)) (hts _ (zt_g zt_mth rfl)) (hts _ (zt_g zt_max2 rfl)) (by rw [hRf]; exact hro.1) (by rw [hRl, hws]; exact hro.2) (by omega) (by omega) hdg (kk.go W0 hS hL ⟨⟨_, rfl, ?_⟩, hq3⟩)
                rw [if_pos hq2]
                by_cases z : wx < wy
                · rw [if_pos z, if_pos (Int32.lt_iff_toInt_lt.mp z)]
                · rw [if_neg z, if_neg (fun z2 => z (Int32.lt_iff_toInt_lt.mpr z2))]
              · have hlc2 : zlc r0 = Cond.methodLink (cn (ok k)) i Lib.Math.min.name := by
                  unfold zlc
                  rw [e1, e2, e3, hq2]
                  rfl
                rw [hlc2] at hlc
                refine va_mmin hx hb (by rw [hml]; exact hL.1.symm) hown (hts _ (zt_g hlc rfl)) (hts _ (zt_g zt_min1 rfl)) (hts _ (zt_g zt_mth rfl)) (hts _ (zt_g zt_min2 rfl)) (by rw [hRf]; exact hro.1) (by rw [hRl, hws]; exact hro.2) (by omega) (by omega) hdg (kk.go W0 hS hL ⟨⟨_, rfl, ?_⟩, hq3⟩)
                rw [if_neg (show ¬ qk = 3 by omega)]
                by_cases z : wy < wx
                · rw [if_pos z, if_pos (Int32.lt_iff_toInt_lt.mp z)]
                · rw [if_neg z, if_neg (fun z2 => z (Int32.lt_iff_toInt_lt.mpr z2))]
            · cases h
          · cases h
        · cases h
    · cases h
  · cases h
end ZH
end
section
section ZR
variable {D : va_G} {base b : Nat} {xs : Nat → Int32} {k : Nat} {p : Program} {l : Launch} {e : Env} {R : Room} {s : State} {m : MethodId} {args : Array Value} {below : List Frame} {meth : Method} {c : Code} {Q : State → Prop} {S : zS} {I : zM} {ad : Nat → Nat} {cA : Nat → ClassId} {F : Nat → Nat → Int32} {H : Heap} {locs : List Loc} {cells slots pc : Nat} {ml mst : List zV} {ls : Array Slot} {st : List Value}
set_option maxHeartbeats 4000000 in
theorem z_next {pc' : Nat} {ml' mst' : List zV} {S' : zS} {I' : zM} (Cx : zCx k R p s m args meth c) (hbs : base ≤ s.heap.size) (W0 : zWo D base b xs ad cA F S I s H) (hS : va_S (fun q => base ≤ q) s.heap H locs) (hL : zLr b ad S.1.length (lk k) (hk k) ls ml) (hT : zSr b ad S.1.length mst st) (h : stp k pc ml mst S I = some (.inl (pc', ml', mst', S', I'))) (hc : cells + (S'.1.length - S.1.length) ≤ R.cells) (hs : slots + (zsl S' - zsl S) ≤ R.slots)
    (kk : zK D base b xs k p l e R s m args below meth c Q S S' I' ad cells slots pc' ml' mst') : W p l e R s m args below meth c H locs cells slots Q (F0 m pc ls st) := by
  unfold stp at h
  cases hd : decode (bk k) pc with
  | error z => rw [hd] at h; cases h
  | ok q =>
    rw [hd] at h
    obtain ⟨ins, len⟩ := q
    dsimp only at h
    cases ins
    case iconst => exact zn_iconst Cx hbs hd h W0 hS hL hT hc hs kk
    case bipush => exact zn_bipush Cx hbs hd h W0 hS hL hT hc hs kk
    case sipush => exact zn_sipush Cx hbs hd h W0 hS hL hT hc hs kk
    case lconst => exact zn_lconst Cx hbs hd h W0 hS hL hT hc hs kk
    case ldc => exact zn_ldc Cx hbs hd h W0 hS hL hT hc hs kk
    case ldc_w => exact zn_ldc_w Cx hbs hd h W0 hS hL hT hc hs kk
    case ldc2_w => exact zn_ldc2_w Cx hbs hd h W0 hS hL hT hc hs kk
    case iload_n => exact zn_iload_n Cx hbs hd h W0 hS hL hT hc hs kk
    case iload => exact zn_iload Cx hbs hd h W0 hS hL hT hc hs kk
    case lload_n => exact zn_lload_n Cx hbs hd h W0 hS hL hT hc hs kk
    case lload => exact zn_lload Cx hbs hd h W0 hS hL hT hc hs kk
    case aload_n => exact zn_aload_n Cx hbs hd h W0 hS hL hT hc hs kk
    case aload => exact zn_aload Cx hbs hd h W0 hS hL hT hc hs kk
    case istore_n => exact zn_istore_n Cx hbs hd h W0 hS hL hT hc hs kk
    case istore => exact zn_istore Cx hbs hd h W0 hS hL hT hc hs kk
    case astore_n => exact zn_astore_n Cx hbs hd h W0 hS hL hT hc hs kk
    case astore => exact zn_astore Cx hbs hd h W0 hS hL hT hc hs kk
    case iinc => exact zn_iinc Cx hbs hd h W0 hS hL hT hc hs kk
    case iadd => exact zn_iadd Cx hbs hd h W0 hS hL hT hc hs kk
    case isub => exact zn_isub Cx hbs hd h W0 hS hL hT hc hs kk
    case imul => exact zn_imul Cx hbs hd h W0 hS hL hT hc hs kk
    case iand => exact zn_iand Cx hbs hd h W0 hS hL hT hc hs kk
    case i2l => exact zn_i2l Cx hbs hd h W0 hS hL hT hc hs kk
    case ladd => exact zn_ladd Cx hbs hd h W0 hS hL hT hc hs kk
    case lcmp => exact zn_lcmp Cx hbs hd h W0 hS hL hT hc hs kk
    case dup => exact zn_dup Cx hbs hd h W0 hS hL hT hc hs kk
    case dup2 => exact zn_dup2 Cx hbs hd h W0 hS hL hT hc hs kk
    case pop => exact zn_pop Cx hbs hd h W0 hS hL hT hc hs kk
    case if_icmp => exact zn_if_icmp Cx hbs hd h W0 hS hL hT hc hs kk
    case ifCond => exact zn_ifCond Cx hbs hd h W0 hS hL hT hc hs kk
    case goto => exact zn_goto Cx hbs hd h W0 hS hL hT hc hs kk
    case tableswitch => exact zn_tableswitch Cx hbs hd h W0 hS hL hT hc hs kk
    case getfield => exact zn_getfield Cx hbs hd h W0 hS hL hT hc hs kk
    case putfield => exact zn_putfield Cx hbs hd h W0 hS hL hT hc hs kk
    case iaload => exact zn_iaload Cx hbs hd h W0 hS hL hT hc hs kk
    case baload => exact zn_baload Cx hbs hd h W0 hS hL hT hc hs kk
    case iastore => exact zn_iastore Cx hbs hd h W0 hS hL hT hc hs kk
    case bastore => exact zn_bastore Cx hbs hd h W0 hS hL hT hc hs kk
    case arraylength => exact zn_arraylength Cx hbs hd h W0 hS hL hT hc hs kk
    case new => exact zn_new Cx hbs hd h W0 hS hL hT hc hs kk
    case newarray => exact zn_newarray Cx hbs hd h W0 hS hL hT hc hs kk
    case invokespecial => exact zn_ospecial Cx hbs hd h W0 hS hL hT hc hs kk
    case invokestatic => exact zn_mstatic Cx hbs hd h W0 hS hL hT hc hs kk
    case invokevirtual =>
      simp only [sti] at h
      split at h
      · split at h
        · split at h
          · simp only [zcv] at h
            split at h
            · split at h <;> cases h
            · cases h
          · cases h
        · cases h
      · cases h
    case ireturn =>
      simp only [sti] at h
      split at h
      · split at h <;> cases h
      · cases h
    case areturn =>
      simp only [sti] at h
      split at h
      · split at h
        · split at h <;> cases h
        · cases h
      · cases h
    case return_ =>
      simp only [sti] at h
      split at h
      · split at h <;> cases h
      · cases h
    all_goals (simp only [sti] at h; cases h)
theorem zsl_ss {a j d : Nat} (h : 2 ≤ kd S a) : zsl (ss S a j d) = zsl S := by
  unfold zsl ss
  dsimp only
  congr 1
  apply List.ext_getElem?
  intro i
  rw [List.getElem?_map, List.getElem?_map, List.getElem?_modify]
  by_cases e : a = i
  · subst e
    unfold kd at h
    cases hq : S.1[a]? with
    | none => simp
    | some q =>
      rw [hq] at h
      dsimp only at h
      simp [show ¬ q.1 ≤ 1 by omega]
  · simp [e]
theorem zss_len {a j d : Nat} : (ss S a j d).1.length = S.1.length := by simp [ss]
theorem zsp_len {q : Nat × List Nat} : (sp S q).1.length = S.1.length + 1 := by simp [sp]
theorem zsp_sl {q : Nat × List Nat} : zsl S ≤ zsl (sp S q) := by simp [zsl, sp]
set_option maxHeartbeats 4000000 in
theorem stp_grow {pc' : Nat} {ml' mst' : List zV} {S' : zS} {I' : zM} (h : stp k pc ml mst S I = some (.inl (pc', ml', mst', S', I'))) : S.1.length ≤ S'.1.length ∧ zsl S ≤ zsl S' := by
  unfold stp at h
  cases hd : decode (bk k) pc with
  | error z => rw [hd] at h; cases h
  | ok q =>
    rw [hd] at h
    obtain ⟨ins, len⟩ := q
    dsimp only at h
    cases ins
    case putfield =>
      simp only [sti, zpf] at h
      repeat' split at h
      all_goals first
        | (cases h; done)
        | (simp only [nx, Option.some.injEq, Sum.inl.injEq, Prod.mk.injEq] at h
           obtain ⟨-, -, -, rfl, -⟩ := h
           first
             | exact ⟨Nat.le_refl _, Nat.le_refl _⟩
             | exact ⟨by rw [zss_len]; exact Nat.le_refl _, by rw [zsl_ss (by omega)]; exact Nat.le_refl _⟩)
    case new =>
      simp only [sti] at h
      repeat' split at h
      all_goals first
        | (cases h; done)
        | (simp only [nx, Option.some.injEq, Sum.inl.injEq, Prod.mk.injEq] at h
           obtain ⟨-, -, -, rfl, -⟩ := h
           exact ⟨by rw [zsp_len]; omega, zsp_sl⟩)
    case newarray =>
      simp only [sti] at h
      repeat' split at h
      all_goals first
        | (cases h; done)
        | (simp only [nx, Option.some.injEq, Sum.inl.injEq, Prod.mk.injEq] at h
           obtain ⟨-, -, -, rfl, -⟩ := h
           exact ⟨by rw [zsp_len]; omega, zsp_sl⟩)
    all_goals first
      | (simp only [sti] at h; cases h; done)
      | (simp only [sti, zgf, zal, zas, zcv, zcs, zob, zmx, zcl, zrt] at h
         repeat' split at h
         all_goals first
           | (cases h; done)
           | (simp only [nx, Option.some.injEq, Sum.inl.injEq, Prod.mk.injEq] at h
              obtain ⟨-, -, -, rfl, -⟩ := h
              exact ⟨Nat.le_refl _, Nat.le_refl _⟩))
theorem ex_grow : ∀ (n : Nat) (k pc : Nat) (ml mst : List zV) (S : zS) (I : zM) (u : zV × zS × zM), ex n k pc ml mst S I = some u → S.1.length ≤ u.2.1.1.length ∧ zsl S ≤ zsl u.2.1 := by
  intro n
  induction n with
  | zero => intro k pc ml mst S I u h; simp [ex] at h
  | succ n ih =>
    intro k pc ml mst S I u h
    rw [ex] at h
    cases hs : stp k pc ml mst S I with
    | none => rw [hs] at h; cases h
    | some a =>
      rw [hs] at h
      rcases a with q | q | r
      · obtain ⟨pc', ml', mst', S1, I1⟩ := q
        have h1 := stp_grow hs
        have h2 := ih _ _ _ _ _ _ _ h
        dsimp only at h2
        omega
      · dsimp only at h
        cases hc : ex n q.1 0 q.2.1 [] S I with
        | none => rw [hc] at h; cases h
        | some v =>
          rw [hc] at h
          have h1 := ih _ _ _ _ _ _ _ hc
          have h2 := ih _ _ _ _ _ _ _ h
          omega
      · cases h
        exact ⟨Nat.le_refl _, Nat.le_refl _⟩
-- ends and calls
def zEnd (k pc b : Nat) (ad : Nat → Nat) (n : Nat) (r : zV) (rv : Option Value) : Prop := (∃ w : Int32, rv = some (.int w) ∧ r = vI w.toInt ∧ decode (bk k) pc = .ok (.ireturn, 1) ∧ (rk k = some .int ∨ (rk k = some .boolean ∧ (w = 0 ∨ w = 1)))) ∨ (∃ a, r = vR a ∧ a < n ∧ rv = some (.ref (ad a)) ∧ decode (bk k) pc = .ok (.areturn, 1) ∧ ∃ nm, rk k = some (.object nm)) ∨ (r = vU ∧ rv = none ∧ decode (bk k) pc = .ok (.return_, 1) ∧ rk k = none)
def zRv (b : Nat) (ad : Nat → Nat) (n : Nat) (r : zV) (rv : Option Value) : Prop := (r = vU ∧ rv = none) ∨ ∃ w, rv = some w ∧ zVr b ad n r w
theorem zEnd.rv {n : Nat} {r : zV} {rv : Option Value} (h : zEnd k pc b ad n r rv) : zRv b ad n r rv := by
  rcases h with ⟨w, h1, h2, -⟩ | ⟨a, h1, h2, h3, -⟩ | ⟨h1, h2, -⟩
  · exact Or.inr ⟨_, h1, by rw [h2]; exact ⟨w, rfl, rfl⟩⟩
  · exact Or.inr ⟨_, h3, by rw [h1]; exact ⟨rfl, h2⟩⟩
  · exact Or.inl ⟨h1, h2⟩
theorem z_ret {r : zV} (h : stp k pc ml mst S I = some (.inr (.inr r))) (hT : zSr b ad S.1.length mst st) : ∃ rv : Option Value, st = rv.toList ∧ zEnd k pc b ad S.1.length r rv := by
  unfold stp at h
  cases hd : decode (bk k) pc with
  | error z => rw [hd] at h; cases h
  | ok q =>
    rw [hd] at h
    obtain ⟨ins, len⟩ := q
    dsimp only at h
    cases ins
    case ireturn =>
      simp only [sti] at h
      split at h
      · rename_i x
        split at h
        · rename_i h0
          simp only [zrt, Option.some.injEq, Sum.inr.injEq] at h
          obtain ⟨rfl, h1⟩ := h0
          obtain ⟨w, st', rfl, hw, hq⟩ := zSr_i hT
          rw [zSr_n hq]
          refine ⟨some (.int w), rfl, Or.inl ⟨w, rfl, by rw [← h, ← hw], hd, ?_⟩⟩
          rcases h1 with h1 | ⟨h1, h2⟩
          · exact Or.inl h1
          · refine Or.inr ⟨h1, ?_⟩
            rcases h2 with z | z
            · exact Or.inl (Int32.toInt_inj.mp (by rw [hw, z]; rfl))
            · exact Or.inr (Int32.toInt_inj.mp (by rw [hw, z]; rfl))
        · cases h
      · cases h
    case areturn =>
      simp only [sti] at h
      split at h
      · rename_i a
        split at h
        · rename_i h0
          split at h
          · rename_i nm hr
            simp only [zrt, Option.some.injEq, Sum.inr.injEq] at h
            subst h0
            obtain ⟨st', rfl, ha, hq⟩ := zSr_r hT
            rw [zSr_n hq]
            exact ⟨some (.ref (ad a)), rfl, Or.inr (Or.inl ⟨a, h.symm, ha, rfl, hd, nm, hr⟩)⟩
          · cases h
        · cases h
      · cases h
    case return_ =>
      simp only [sti] at h
      split at h
      · split at h
        · rename_i h0
          simp only [zrt, Option.some.injEq, Sum.inr.injEq] at h
          obtain ⟨rfl, h1⟩ := h0
          rw [zSr_n hT]
          exact ⟨none, rfl, Or.inr (Or.inr ⟨h.symm, rfl, hd, h1⟩)⟩
        · cases h
      · cases h
    all_goals first
      | (simp only [sti] at h; cases h; done)
      | (simp only [sti, zgf, zpf, zal, zas, zcv, zcs, zob, zmx, zcl, nx] at h
         repeat' split at h
         all_goals (cases h; done))
def zQc (D : va_G) (base b : Nat) (xs : Nat → Int32) (ad : Nat → Nat) (S : zS) (r : zV) (S' : zS) (I' : zM) : Array Value → State → Outcome → State → Prop := fun _ st o t => (∃ (rv : Option Value) (ad' : Nat → Nat) (cA' : Nat → ClassId) (F' : Nat → Nat → Int32), o = .returned rv ∧ zRv b ad' S'.1.length r rv ∧ zWo D base b xs ad' cA' F' S' I' t t.heap ∧ (∀ a, a < S.1.length → ad' a = ad a)) ∧ va_F (fun q => base ≤ q) st t
def zPc2 (D : va_G) (base b : Nat) (xs : Nat → Int32) (ad : Nat → Nat) (cA : Nat → ClassId) (F : Nat → Nat → Int32) (S : zS) (I : zM) (As : List Value) : Array Value → State → Prop := fun v U => v = As.toArray ∧ zWo D base b xs ad cA F S I U U.heap
theorem zWo_al {U : State} {H : Heap} (W0 : zWo D base b xs ad cA F S I s H) (hvm : s.vm.Alike U.vm) (hN : ∀ r ∈ zlk_l, r.2.2.1 = 1 → va_Nw (zlc r) U) : zWo D base b xs ad cA F S I U H := by
  obtain ⟨tys, ws, hK, hP, hD, hsz, hbb, hX, hXl, hXv, hlen, hcell, hI, -⟩ := W0
  exact ⟨tys, ws, va_K.moved hvm hK, hP, hD, hsz, hbb, va_X.moved hvm hX, hXl, hXv, hlen, hcell, hI, hN⟩
theorem zNw_warm {U : State} (hW : s.WarmedH U.vm) (hN : ∀ r ∈ zlk_l, r.2.2.1 = 1 → va_Nw (zlc r) s) : ∀ r ∈ zlk_l, r.2.2.1 = 1 → va_Nw (zlc r) U := by
  intro r hr h1
  have h2 := hN r hr h1
  have e : zlc r = Cond.methodLinkNest (cn r.1) r.2.1 (yk r.2.2.2.1) "ClauseDrafts" := by
    unfold zlc
    rw [h1]
    rfl
  rw [e] at h2 ⊢
  exact va_Nw.warmM hW h2
theorem zPc_blind {As : List Value} : FrameBlind (zPc2 D base b xs ad cA F S I As) := by
  intro a U g mk h
  obtain ⟨h1, h2⟩ := h
  refine ⟨h1, ?_⟩
  have hN := h2
  obtain ⟨tys, ws, hK, hP, hD, hsz, hbb, hX, hXl, hXv, hlen, hcell, hI, hN⟩ := hN
  refine zWo_al (s := U) h2 (Vm.Alike.refl U.vm) (fun r hr h1 => ?_)
  have e : zlc r = Cond.methodLinkNest (cn r.1) r.2.1 (yk r.2.2.2.1) "ClauseDrafts" := by
    unfold zlc
    rw [h1]
    rfl
  have h3 := hN r hr h1
  rw [e] at h3 ⊢
  exact va_Nw.same rfl (rfl : U.vm = (U.calling g mk a).vm) h3
theorem zcall_go {mc ms : Nat} {rest st0 : List Value} {a : Array Value} {r : zV} {S1 : zS} {I1 : zM} (hr : va_Run p l e R s m args below meth c H locs cells slots mc ms (F0 m pc ls st0) rest (zQc D base b xs ad S r S1 I1 a) (fun q => base ≤ q)) (W0 : zWo D base b xs ad cA F S I s H) (hS : va_S (fun q => base ≤ q) s.heap H locs)
    (kk : ∀ (ad' : Nat → Nat) (cA' : Nat → ClassId) (F' : Nat → Nat → Int32) (H1 : Heap) (locs1 : List Loc) (rv : Option Value), zWo D base b xs ad' cA' F' S1 I1 s H1 → va_S (fun q => base ≤ q) s.heap H1 locs1 → zRv b ad' S1.1.length r rv → (∀ a, a < S.1.length → ad' a = ad a) → W p l e R s m args below meth c H1 locs1 (cells + mc) (slots + ms) Q (F0 m (pc + 3) ls (rv.toList ++ rest))) : W p l e R s m args below meth c H locs cells slots Q (F0 m pc ls st0) := by
  intro T hT X
  obtain ⟨v, st₀, t, T', L, h0, X', hLl, e1, e2, ⟨⟨rv, ad', cA', F', ho, hrv, hwo, had⟩, hz, hkq⟩, st⟩ := hr T hT X
  cases ho
  rw [h0] at hz hkq
  have hal : s.vm.Alike t.vm := by rw [← e2]; exact X'.warmed.alike
  have W1 : zWo D base b xs ad' cA' F' S1 I1 s T'.heap := by
    rw [e1]
    have hN := W0
    obtain ⟨tys, ws, hK, hP, hD, hsz, hbb, hX, hXl, hXv, hlen, hcell, hI, hN⟩ := hN
    exact zWo_al hwo hal.symm hN
  obtain ⟨t2, a1, b1⟩ := kk ad' cA' F' T'.heap (locs ++ L) v W1
    ⟨Nat.le_trans hS.1 (by rw [e1]; exact hz), fun q h1 h2 => by rw [e1, hkq q (Nat.lt_of_lt_of_le h1 hS.1) h2]; exact hS.2.1 q h1 h2, fun q hq => by
      rcases List.mem_append.mp hq with h | h
      · exact hS.2.2 q h
      · exact hLl q h⟩ hrv had T' rfl X'
  exact ⟨t2, st t2 a1, b1⟩
theorem zSr_pu {n : Nat} {r : zV} {rv : Option Value} {rest : List zV} {q : List Value} (h : zRv b ad n r rv) (hq : zSr b ad n rest q) : zSr b ad n (zpu r rest) (rv.toList ++ q) := by
  rcases h with ⟨rfl, rfl⟩ | ⟨w, rfl, hw⟩
  · exact hq
  · rcases r with x | a | x | u
    · exact ⟨hw, hq⟩
    · exact ⟨hw, hq⟩
    · exact ⟨hw, hq⟩
    · cases u
      · exact hw.elim
      · exact ⟨hw, hq⟩
end ZR
end
section
section ZS
variable {D : va_G} {base b : Nat} {xs : Nat → Int32} {k : Nat} {p : Program} {l : Launch} {e : Env} {R : Room} {s : State} {m : MethodId} {args : Array Value} {below : List Frame} {meth : Method} {c : Code} {Q : State → Prop} {S : zS} {I : zM} {ad : Nat → Nat} {cA : Nat → ClassId} {F : Nat → Nat → Int32} {H : Heap} {locs : List Loc} {cells slots pc : Nat} {ml mst : List zV} {ls : Array Slot} {st : List Value}
theorem zla_rel {n : Nat} : ∀ (av : List zV) (As : List Value), zSr b ad n av As → (zla av).length = (lg_sl As).length ∧ ∀ (i : Nat) (v : zV), (zla av)[i]? = some v → v = vU ∨ ∃ w, (lg_sl As)[i]? = some (.val w) ∧ zVr b ad n v w := by
  intro av
  induction av with
  | nil => intro As h; rw [zSr_n h]; exact ⟨rfl, fun i v h => by simp [zla] at h⟩
  | cons u av ih =>
    intro As h
    obtain ⟨w, As', rfl, h1, h2⟩ := zSr_c h
    obtain ⟨i1, i2⟩ := ih As' h2
    have hcat := zVr_cat h1
    have ea : zla (u :: av) = (if zl u = true then [u, vU] else [u]) ++ zla av := by simp [zla]
    have eb : lg_sl (w :: As') = (if w.category = 2 then [.val w, .second] else [.val w]) ++ lg_sl As' := by simp [lg_sl]
    rw [ea, eb]
    by_cases hz : zl u = true
    · have hc : w.category = 2 := by rw [hcat, zct, if_pos hz]
      rw [if_pos hz, if_pos hc]
      refine ⟨by simp [i1], fun i v hi => ?_⟩
      match i with
      | 0 =>
        simp at hi
        subst hi
        exact Or.inr ⟨w, by simp, h1⟩
      | 1 =>
        simp at hi
        exact Or.inl hi.symm
      | i + 2 =>
        have hi : (zla av)[i]? = some v := by simpa using hi
        rcases i2 i v hi with h | ⟨w', h3, h4⟩
        · exact Or.inl h
        · exact Or.inr ⟨w', by simpa using h3, h4⟩
    · have hc : ¬ w.category = 2 := by rw [hcat, zct, if_neg hz]; omega
      rw [if_neg hz, if_neg hc]
      refine ⟨by simp [i1], fun i v hi => ?_⟩
      match i with
      | 0 =>
        simp at hi
        subst hi
        exact Or.inr ⟨w, by simp, h1⟩
      | i + 1 =>
        have hi : (zla av)[i]? = some v := by simpa using hi
        rcases i2 i v hi with h | ⟨w', h3, h4⟩
        · exact Or.inl h
        · exact Or.inr ⟨w', by simpa using h3, h4⟩
theorem zla_nol {av : List zV} (h : av.all (fun v => !(zl v)) = true) : ∀ v ∈ zla av, zl v = false := by
  intro v hv
  obtain ⟨u, hu, hv⟩ := List.mem_flatMap.mp hv
  have h1 := List.all_eq_true.mp h u hu
  have h2 : zl u = false := by simpa using h1
  rw [h2] at hv
  simp at hv
  rw [hv]
  exact h2
theorem zen_rel {n : Nat} {av : List zV} {As : List Value} (h : zSr b ad n av As) (hz : zok k av) : zLr b ad n (lk k) (hk k) ((lg_sl As ++ List.replicate (lk k - (lg_sl As).length) Slot.unset).toArray) (zen k av) := by
  obtain ⟨h1, h2⟩ := zla_rel av As h
  obtain ⟨z1, z2⟩ := hz
  have he := lv_entry As (n := lk k) (by rw [← h1]; exact z1)
  refine ⟨he.1, he.2.1, by simp [zen]; omega, ?_, fun i v hi => ?_⟩
  · rcases z2 with z2 | z2
    · exact Or.inl z2
    · refine Or.inr (fun v hv => ?_)
      rcases List.mem_append.mp hv with hv | hv
      · exact zla_nol z2 v hv
      · rw [List.eq_of_mem_replicate hv]; rfl
  · unfold zen at hi
    by_cases hl : i < (zla av).length
    · rw [List.getElem?_append_left hl] at hi
      rcases h2 i v hi with h | ⟨w, h3, h4⟩
      · exact Or.inl h
      · refine Or.inr ⟨w, ?_, h4⟩
        rw [List.getElem?_toArray, List.getElem?_append_left (by rw [← h1]; exact hl)]
        exact h3
    · rw [List.getElem?_append_right (by omega)] at hi
      exact Or.inl (List.eq_of_mem_replicate (List.mem_of_getElem? hi))
/-- what a call of the mini machine says -/
def zCi (k pc k' : Nat) (mst : List zV) (S : zS) (ls0 rest : List zV) : Prop := ∃ (i q : Nat), lkk (ok k) i = some (q, k') ∧ q ≤ 1 ∧ zro k k' ∧ zws rest ≤ 8 ∧ (mst.take (nk k')).length = nk k' ∧
  ((∃ a, ((decode (bk k) pc = .ok (.invokevirtual i, 3) ∧ ik k' = 1) ∨ (decode (bk k) pc = .ok (.invokespecial i, 3) ∧ ik k' = 2)) ∧ mst.drop (nk k') = .inr (.inl a) :: rest ∧ kd S a = ok k' + 2 ∧ zok k' (vR a :: (mst.take (nk k')).reverse) ∧ ls0 = zen k' (vR a :: (mst.take (nk k')).reverse)) ∨
   (decode (bk k) pc = .ok (.invokestatic i, 3) ∧ ik k' = 0 ∧ mst.drop (nk k') = rest ∧ zok k' (mst.take (nk k')).reverse ∧ ls0 = zen k' (mst.take (nk k')).reverse))
theorem z_call_inv {k' : Nat} {ls0 rest : List zV} (h : stp k pc ml mst S I = some (.inr (.inl (k', ls0, rest)))) : zCi k pc k' mst S ls0 rest := by
  unfold stp at h
  cases hd : decode (bk k) pc with
  | error z => rw [hd] at h; cases h
  | ok q =>
    rw [hd] at h
    obtain ⟨ins, len⟩ := q
    dsimp only at h
    cases ins
    case invokevirtual i =>
      simp only [sti] at h
      split at h
      · rename_i h0
        subst h0
        split at h
        · rename_i q0 hv
          obtain ⟨q, k2⟩ := q0
          split at h
          · rename_i hq
            simp only [zcv] at h
            split at h
            · rename_i a rest' hdr
              split at h
              · rename_i hh
                simp only [zcl, Option.some.injEq, Sum.inr.injEq, Sum.inl.injEq, Prod.mk.injEq] at h
                obtain ⟨rfl, rfl, rfl⟩ := h
                exact ⟨i, q, hv, hq.1, hh.2.2.1, hh.2.2.2.1, hh.1, Or.inl ⟨a, Or.inl ⟨hd, hq.2⟩, hdr, hh.2.1, hh.2.2.2.2, rfl⟩⟩
              · cases h
            · cases h
          · cases h
        · cases h
      · cases h
    case invokespecial i =>
      simp only [sti] at h
      split at h
      · rename_i h0
        subst h0
        split at h
        · rename_i q0 hv
          obtain ⟨q, k2⟩ := q0
          split at h
          · rename_i hq
            simp only [zcv] at h
            split at h
            · rename_i a rest' hdr
              split at h
              · rename_i hh
                simp only [zcl, Option.some.injEq, Sum.inr.injEq, Sum.inl.injEq, Prod.mk.injEq] at h
                obtain ⟨rfl, rfl, rfl⟩ := h
                exact ⟨i, q, hv, hq.1, hh.2.2.1, hh.2.2.2.1, hh.1, Or.inl ⟨a, Or.inr ⟨hd, hq.2⟩, hdr, hh.2.1, hh.2.2.2.2, rfl⟩⟩
              · cases h
            · cases h
          · split at h
            · simp only [zob, nx] at h
              repeat' split at h
              all_goals (cases h; done)
            · cases h
        · cases h
      · cases h
    case invokestatic i =>
      simp only [sti] at h
      split at h
      · rename_i h0
        subst h0
        split at h
        · rename_i q0 hv
          obtain ⟨q, k2⟩ := q0
          split at h
          · rename_i hq
            simp only [zcs] at h
            split at h
            · rename_i hh
              simp only [zcl, Option.some.injEq, Sum.inr.injEq, Sum.inl.injEq, Prod.mk.injEq] at h
              obtain ⟨rfl, rfl, rfl⟩ := h
              exact ⟨i, q, hv, hq.1, hh.2.1, hh.2.2.1, hh.1, Or.inr ⟨hd, hq.2, rfl, hh.2.2.2, rfl⟩⟩
            · cases h
          · split at h
            · simp only [zmx, nx] at h
              repeat' split at h
              all_goals (cases h; done)
            · cases h
        · cases h
      · cases h
    all_goals first
      | (simp only [sti] at h; cases h; done)
      | (simp only [sti, zgf, zpf, zal, zas, zrt, nx] at h
         repeat' split at h
         all_goals (cases h; done))
def zRm (k mc ms : Nat) : Room := { frames := fk k, cells := mc, slots := ms, locals := ck k }
theorem zlc_0 {r : Nat × Nat × Nat × Nat × Nat} (h : r.2.2.1 = 0) : zlc r = Cond.methodLink (cn r.1) r.2.1 (yk r.2.2.2.1) := by
  unfold zlc
  rw [h]
  rfl
theorem zlc_1 {r : Nat × Nat × Nat × Nat × Nat} (h : r.2.2.1 = 1) : zlc r = Cond.methodLinkNest (cn r.1) r.2.1 (yk r.2.2.2.1) "ClauseDrafts" := by
  unfold zlc
  rw [h]
  rfl
theorem z_callrun {k' : Nat} {ls0 rest : List zV} {r : zV} {S1 : zS} {I1 : zM} {mc ms : Nat} (Cx : zCx k R p s m args meth c) (W0 : zWo D base b xs ad cA F S I s H) (hL : zLr b ad S.1.length (lk k) (hk k) ls ml) (hT : zSr b ad S.1.length mst st) (hC : zCi k pc k' mst S ls0 rest)
    (hM : ∀ (av : List zV) (As : List Value), ls0 = zen k' av → zok k' av → zSr b ad S.1.length av As → Met l (yk k') (wk k') (zRm k' mc ms) (zPc2 D base b xs ad cA F S I As) (zQc D base b xs ad S r S1 I1) mc ms (fun q => base ≤ q)) (hf : cells + mc ≤ R.cells ∧ slots + ms ≤ R.slots) :
    ∃ (rest' : List Value) (a : Array Value), zSr b ad S.1.length rest rest' ∧ va_Run p l e R s m args below meth c H locs cells slots mc ms (F0 m pc ls st) rest' (zQc D base b xs ad S r S1 I1 a) (fun q => base ≤ q) := by
  obtain ⟨hx, hb, hml, hown, hts, hRf, hRl, hni⟩ := Cx
  obtain ⟨i, q, hlk, hq1, hro, hws, htl, hC⟩ := hC
  obtain ⟨r0, hr0, e1, e2, e3, e4, hlc, hk'⟩ := zlkk_of hlk
  obtain ⟨y1, y2, y3, y4, y5, y6, y7, y8⟩ := zt_misc k' hk'
  obtain ⟨tys, ws, hK, hP, hD, hsz, hbb, hX, hXl, hXv, hlen, hcell, hI, hN⟩ := id W0
  obtain ⟨ht1, ht2⟩ := zSr_take (nk k') _ _ hT
  have hlen1 := zSr_len _ _ ht1
  have hini : (Cond.initialized (yk k').cls).before args s = true := hts _ (zt_gp (zt_init k' hk') rfl)
  have hin0 := zt_inst k' hk'
  have hG := wk_good k' hk'
  have hRR : (zRm k' mc ms).frames + 1 ≤ R.frames ∧ 8 + (lk k' + 11) + (zRm k' mc ms).locals ≤ R.locals := by
    rw [hRf, hRl]
    exact hro
  have hblk : ∀ (As : List Value), ∀ U : State, U.heap = H → s.WarmedH U.vm → zPc2 D base b xs ad cA F S I As As.toArray U := fun As U hU hW => ⟨rfl, by rw [hU]; exact zWo_al W0 hW.alike (zNw_warm hW hN)⟩
  have hdd : (yk k').cls ≠ "java/lang/invoke/MethodHandle" ∧ (yk k').cls ≠ "java/lang/invoke/VarHandle" ∧ (parseMethodDescriptor (yk k').desc).map (fun d => d.parameters.length) = some (nk k') := ⟨y2, y3, y5⟩
  have hst : st = st.take (nk k') ++ st.drop (nk k') := (List.take_append_drop _ _).symm
  rcases hC with ⟨a, hk, hdr, hkd, hok, hls⟩ | ⟨hdc, hik, hdr, hok, hls⟩
  · rw [hdr] at ht2
    obtain ⟨rest', hr', ha, hq'⟩ := zSr_r ht2
    have hw8 : (rest'.map fun v => v.category).sum ≤ 8 := by rw [zSr_ws _ _ hq']; exact hws
    have hAs : zSr b ad S.1.length (vR a :: (mst.take (nk k')).reverse) (.ref (ad a) :: (st.take (nk k')).reverse) := ⟨⟨rfl, ha⟩, zSr_rev _ _ ht1⟩
    have hM1 := hM _ _ hls hok hAs
    have hstk : (F0 m pc ls st).stack = ((st.take (nk k')).reverse).reverse ++ .ref (ad a) :: rest' := by rw [List.reverse_reverse, ← hr']; exact hst
    have hAl : ((st.take (nk k')).reverse).length = nk k' := by rw [List.length_reverse, ← hlen1]; exact htl
    obtain ⟨qc, hqc, hqc1, hsd, halt⟩ := kd_some hkd (by omega)
    obtain ⟨c1, c2, c3, c4⟩ := hcell a qc hqc
    rw [zE_obj hqc1] at c1
    have hrec := va_recv hK hP (zt_cls (ok k') y7) c1
    have hrec : ∃ cell : Cell, H[ad a]? = some cell ∧ cell.vm.isStatics = false ∧ s.vm.findClass (yk k').cls = some cell.cls := by rw [y1, y8]; exact hrec
    rcases hk with ⟨hdc, hik⟩ | ⟨hdc, hik⟩
    · rw [if_neg (by omega)] at hin0
      have hin1 := hts _ (zt_gp hin0 rfl)
      have hsel := hts _ (zt_gp (zt_sel k' hk' hik) rfl)
      have hpv : PreV s H (yk k').cls (ad a) (zPc2 D base b xs ad cA F S I (.ref (ad a) :: (st.take (nk k')).reverse)) ((st.take (nk k')).reverse) := ⟨zPc_blind, hrec, hblk _⟩
      refine ⟨rest', (Value.ref (ad a) :: (st.take (nk k')).reverse).toArray, hq', ?_⟩
      have : q = 0 ∨ q = 1 := by omega
      rcases this with z | z
      · rw [zlc_0 (by omega), e1, e2, e4] at hlc
        exact va_runV ⟨hx, hb, hml, hown, hts⟩ hM1 ⟨callB_of (nk k') hts hG rfl rfl rfl hini (hts _ (zt_g hlc rfl)) hdd hRR, hin1, hsel⟩ hpv rfl hAl hL.1 hstk (lv_room hw8) hdc hf
      · have hne := hN r0 hr0 (by omega)
        rw [zlc_1 (by omega), e1, e2, e4] at hne
        exact va_runVN ⟨hx, hb, hml, hown, hts⟩ hM1 ⟨va_cnB (nk k') hts hG rfl rfl rfl hne hini hdd hRR, hin1, hsel⟩ hpv rfl hAl hL.1 hstk (lv_room hw8) hdc hf
    · rw [if_neg (by omega)] at hin0
      have hin1 := hts _ (zt_gp hin0 rfl)
      have hps : PreS s H (zPc2 D base b xs ad cA F S I (.ref (ad a) :: (st.take (nk k')).reverse)) (.ref (ad a) :: (st.take (nk k')).reverse) := ⟨zPc_blind, hblk _⟩
      refine ⟨rest', (Value.ref (ad a) :: (st.take (nk k')).reverse).toArray, hq', ?_⟩
      obtain ⟨hnm, hrn⟩ := y6 hik
      have hwk : wk k' = Cond.code (yk k') (bk k') (lk k') none :: zgw := by rw [wk, hrn]
      have : q = 0 ∨ q = 1 := by omega
      rcases this with z | z
      · rw [zlc_0 (by omega), e1, e2, e4] at hlc
        exact va_runI ⟨hx, hb, hml, hown, hts⟩ hM1 ⟨callB_of (nk k') hts hG hwk rfl rfl hini (hts _ (zt_g hlc rfl)) hdd hRR, hnm, hin1⟩ hps rfl hAl hL.1 hstk (lv_room hw8) hdc hf
      · have hne := hN r0 hr0 (by omega)
        rw [zlc_1 (by omega), e1, e2, e4] at hne
        exact va_runIN ⟨hx, hb, hml, hown, hts⟩ hM1 ⟨va_cnB (nk k') hts hG hwk rfl rfl hne hini hdd hRR, hnm, hin1⟩ hps rfl hAl hL.1 hstk (lv_room hw8) hdc hf
  · rw [hdr] at ht2
    have hw8 : ((st.drop (nk k')).map fun v => v.category).sum ≤ 8 := by rw [zSr_ws _ _ ht2]; exact hws
    have hM1 := hM _ _ hls hok (zSr_rev _ _ ht1)
    have hstk : (F0 m pc ls st).stack = ((st.take (nk k')).reverse).reverse ++ st.drop (nk k') := by rw [List.reverse_reverse]; exact hst
    have hAl : ((st.take (nk k')).reverse).length = nk k' := by rw [List.length_reverse, ← hlen1]; exact htl
    rw [if_pos hik] at hin0
    have hin1 := hts _ (zt_gp hin0 rfl)
    have hps : PreS s H (zPc2 D base b xs ad cA F S I ((st.take (nk k')).reverse)) ((st.take (nk k')).reverse) := ⟨zPc_blind, hblk _⟩
    refine ⟨st.drop (nk k'), ((st.take (nk k')).reverse).toArray, ht2, ?_⟩
    have : q = 0 ∨ q = 1 := by omega
    rcases this with z | z
    · rw [zlc_0 (by omega), e1, e2, e4] at hlc
      exact va_runS ⟨hx, hb, hml, hown, hts⟩ hM1 ⟨callB_of (nk k') hts hG rfl rfl rfl hini (hts _ (zt_g hlc rfl)) hdd hRR, hin1⟩ hps rfl hAl hL.1 hstk (lv_room hw8) hdc hf
    · have hne := hN r0 hr0 (by omega)
      rw [zlc_1 (by omega), e1, e2, e4] at hne
      exact va_runSN ⟨hx, hb, hml, hown, hts⟩ hM1 ⟨va_cnB (nk k') hts hG rfl rfl rfl hne hini hdd hRR, hin1, trivial⟩ hps rfl hAl hL.1 hstk (lv_room hw8) hdc hf
end ZS
/-- from here to the method's end: the real machine does what the mini machine does -/
def zFol (l : Launch) (D : va_G) (base b : Nat) (xs : Nat → Int32) (n : Nat) : Prop := ∀ (k pc : Nat) (ml mst : List zV) (S : zS) (I : zM) (r : zV) (S' : zS) (I' : zM), ex n k pc ml mst S I = some (r, S', I') →
  ∀ (p : Program) (e : Env) (R : Room) (s : State) (m : MethodId) (args : Array Value) (below : List Frame) (meth : Method) (c : Code) (Q : State → Prop) (ad : Nat → Nat) (cA : Nat → ClassId) (F : Nat → Nat → Int32) (H : Heap) (locs : List Loc) (cells slots : Nat) (ls : Array Slot) (st : List Value),
    zCx k R p s m args meth c → base ≤ s.heap.size → zWo D base b xs ad cA F S I s H → va_S (fun q => base ≤ q) s.heap H locs → zLr b ad S.1.length (lk k) (hk k) ls ml → zSr b ad S.1.length mst st → cells + (S'.1.length - S.1.length) ≤ R.cells → slots + (zsl S' - zsl S) ≤ R.slots →
    (∀ (pc' : Nat) (ad' : Nat → Nat) (cA' : Nat → ClassId) (F' : Nat → Nat → Int32) (H' : Heap) (locs' : List Loc) (cells' slots' : Nat) (ls' : Array Slot) (rv : Option Value), zWo D base b xs ad' cA' F' S' I' s H' → va_S (fun q => base ≤ q) s.heap H' locs' → (∀ a, a < S.1.length → ad' a = ad a) → cells' ≤ cells + (S'.1.length - S.1.length) → slots' ≤ slots + (zsl S' - zsl S) → zEnd k pc' b ad' S'.1.length r rv → W p l e R s m args below meth c H' locs' cells' slots' Q (F0 m pc' ls' rv.toList)) →
    W p l e R s m args below meth c H locs cells slots Q (F0 m pc ls st)
theorem zmet {l : Launch} {D : va_G} {base b : Nat} {xs : Nat → Int32} {n : Nat} (hF : zFol l D base b xs n) {k : Nat} (hk0 : k < 13) {av : List zV} {S : zS} {I : zM} {r : zV} {S' : zS} {I' : zM} (h : ex n k 0 (zen k av) [] S I = some (r, S', I')) (hz : zok k av) {ad : Nat → Nat} {cA : Nat → ClassId} {F : Nat → Nat → Int32} {As : List Value} (hA : zSr b ad S.1.length av As) :
    Met l (yk k) (wk k) (zRm k (S'.1.length - S.1.length) (zsl S' - zsl S)) (zPc2 D base b xs ad cA F S I As) (zQc D base b xs ad S r S' I') (S'.1.length - S.1.length) (zsl S' - zsl S) (fun q => base ≤ q) := by
  obtain ⟨y1, y2, y3, y4, y5, y6, y7, y8⟩ := zt_misc k hk0
  refine Met.ofW (cc := bk k) (maxL := lk k) (ret := rk k) y4 rfl ?_
  intro p e s m args below meth c s₁ B hml hv
  obtain ⟨rfl, W0⟩ := hv
  have hx := B.exec
  have hb := B.bytes
  have hr := B.returns
  have hts := atoms_spec (ws := wk k) B.pre
  have hown : s.vm.findClass (yk k).cls = some m.cls := findClass_of_methodNamed B.named
  have hlocks := B.notSynchronized
  have hnm := (name_of_methodNamed B.named B.method).1
  have hbs : base ≤ s.heap.size := by
    obtain ⟨tys, ws, hK, hP, hD, hsz, -⟩ := W0
    exact hsz
  have Cx : zCx k (headSpec (wk k) (zRm k (S'.1.length - S.1.length) (zsl S' - zsl S))).room p s m As.toArray meth c := ⟨hx, hb, hml, by rw [← y1]; exact hown, fun w hw => hts w (List.mem_cons_of_mem _ hw), rfl, rfl, fun z => by rw [hnm]; exact (y6 z).1⟩
  rw [lg_entry_eq]
  refine hF k 0 (zen k av) [] S I r S' I' h p e _ s m As.toArray below meth c _ ad cA F s.heap [] 0 0 _ [] Cx hbs W0 va_S.rf (zen_rel hA hz) trivial (by show 0 + _ ≤ S'.1.length - S.1.length; omega) (by show 0 + _ ≤ zsl S' - zsl S; omega) ?_
  intro pc' ad' cA' F' H' locs' cells' slots' ls' rv W1 hS1 had hc hs hE
  refine W.widen (k := S'.1.length - S.1.length) (n := zsl S' - zsl S) (by omega) (by omega) ?_
  have hq : ∀ t : State, t.heap = H' → s.WarmedH t.vm → zQc D base b xs ad S r S' I' As.toArray s (.returned rv) t := by
    intro t ht hW
    refine ⟨⟨rv, ad', cA', F', rfl, hE.rv, ?_, had⟩, hS1.F ht⟩
    rw [ht]
    have hN := W1
    obtain ⟨tys, ws, hK, hP, hD, hsz, hbb, hX, hXl, hXv, hlen, hcell, hI, hN⟩ := hN
    exact zWo_al W1 hW.alike (zNw_warm hW hN)
  rcases hE with ⟨w, rfl, -, hd, hrt⟩ | ⟨a, -, -, rfl, hd, nm, hrt⟩ | ⟨-, rfl, hd, hrt⟩
  · rcases hrt with hrt | ⟨hrt, hw⟩
    · exact W.iret hx hb (hr.trans hrt) hq hS1.2.2 hd
    · exact W.zret (ty := .boolean) hx hb (hr.trans hrt) (by rcases hw with rfl | rfl <;> rfl) hq hS1.2.2 hd
  · exact W.aret hx hb (hr.trans hrt) (Or.inl ⟨nm, rfl⟩) (Or.inr ⟨_, rfl⟩) hq hS1.2.2 hd
  · exact W.vret hx hb (hr.trans hrt) hq hS1.2.2 hd
theorem zfollow (l : Launch) (D : va_G) (base b : Nat) (xs : Nat → Int32) : ∀ n, zFol l D base b xs n := by
  intro n
  induction n with
  | zero => intro k pc ml mst S I r S' I' h; simp [ex] at h
  | succ n ih =>
    intro k pc ml mst S I r S' I' h p e R s m args below meth c Q ad cA F H locs cells slots ls st Cx hbs W0 hS hL hT hc hs hret
    rw [ex] at h
    cases hst : stp k pc ml mst S I with
    | none => rw [hst] at h; cases h
    | some act =>
      rw [hst] at h
      rcases act with q | q | r0
      · obtain ⟨pc1, ml1, mst1, S1, I1⟩ := q
        dsimp only at h
        have g1 := stp_grow hst
        have g2 := ex_grow _ _ _ _ _ _ _ _ h
        dsimp only at g2
        refine z_next Cx hbs W0 hS hL hT hst (by omega) (by omega) ?_
        intro ad1 cA1 F1 H1 locs1 ls1 st1 W1 hS1 hL1 hT1 had1
        refine ih k pc1 ml1 mst1 S1 I1 r S' I' h p e R s m args below meth c Q ad1 cA1 F1 H1 locs1 _ _ ls1 st1 Cx hbs W1 hS1 hL1 hT1 (by omega) (by omega) ?_
        intro pc' ad' cA' F' H' locs' cells' slots' ls' rv W2 hS2 had2 hc2 hs2 hE
        exact hret pc' ad' cA' F' H' locs' cells' slots' ls' rv W2 hS2 (fun a ha => by rw [had2 a (by omega), had1 a ha]) (by omega) (by omega) hE
      · obtain ⟨k', ls0, rest⟩ := q
        dsimp only at h
        cases hcx : ex n k' 0 ls0 [] S I with
        | none => rw [hcx] at h; cases h
        | some v =>
          rw [hcx] at h
          obtain ⟨r1, S1, I1⟩ := v
          dsimp only at h
          have g1 := ex_grow _ _ _ _ _ _ _ _ hcx
          have g2 := ex_grow _ _ _ _ _ _ _ _ h
          dsimp only at g1 g2
          have hC := z_call_inv hst
          have hk' : k' < 13 := by
            obtain ⟨i, q, hlk, -⟩ := hC
            obtain ⟨r0, hr0, e1, e2, e3, e4, hlc, hk'⟩ := zlkk_of hlk
            exact hk'
          obtain ⟨rest', a, hq', hrun⟩ := z_callrun (l := l) (e := e) (below := below) (locs := locs) (cells := cells) (slots := slots) (r := r1) (S1 := S1) (I1 := I1) (mc := S1.1.length - S.1.length) (ms := zsl S1 - zsl S) Cx W0 hL hT hC (fun av As hls hok hAs => zmet ih hk' (by rw [← hls]; exact hcx) hok hAs) ⟨by omega, by omega⟩
          refine zcall_go hrun W0 hS ?_
          intro ad1 cA1 F1 H1 locs1 rv1 W1 hS1 hrv1 had1
          refine ih k (pc + 3) ml (zpu r1 rest) S1 I1 r S' I' h p e R s m args below meth c Q ad1 cA1 F1 H1 locs1 _ _ ls _ Cx hbs W1 hS1 (zLr_more hL had1 g1.1) (zSr_pu hrv1 (zSr_more had1 g1.1 _ _ hq')) (by omega) (by omega) ?_
          intro pc' ad' cA' F' H' locs' cells' slots' ls' rv W2 hS2 had2 hc2 hs2 hE
          exact hret pc' ad' cA' F' H' locs' cells' slots' ls' rv W2 hS2 (fun a ha => by rw [had2 a (by omega), had1 a ha]) (by omega) (by omega) hE
      · cases h
        obtain ⟨rv, rfl, hE⟩ := z_ret hst hT
        exact hret pc ad cA F H locs cells slots ls rv W0 hS (fun _ _ => rfl) (by omega) (by omega) hE
end
section
/-! ===== the weakest precondition, instruction by instruction ===== -/
section WR
variable {k pc : Nat} {ls st : List zV} {S : zS} {I : zM} {Q : zV → zS → zM → Prop}
theorem zpu_I (x : Int) (l : List zV) : zpu (vI x) l = vI x :: l := rfl
theorem zpu_R (a : Nat) (l : List zV) : zpu (vR a) l = vR a :: l := rfl
theorem zpu_U (l : List zV) : zpu vU l = l := rfl
theorem Wp_iconst {n : Int} (h : decode (bk k) pc = .ok (.iconst n, 1)) (hn : rg n) : Wp k pc ls st S I Q ↔ Wp k (pc + 1) ls (vI n :: st) S I Q :=
  Wp_next (by simp only [stp, h, sti]; rw [if_pos ⟨trivial, hn⟩]; rfl)
theorem Wp_bipush {n : Int} (h : decode (bk k) pc = .ok (.bipush n, 2)) (hn : -128 ≤ n ∧ n ≤ 127) : Wp k pc ls st S I Q ↔ Wp k (pc + 2) ls (vI n :: st) S I Q :=
  Wp_next (by simp only [stp, h, sti]; rw [if_pos ⟨trivial, hn⟩]; rfl)
theorem Wp_sipush {n : Int} (h : decode (bk k) pc = .ok (.sipush n, 3)) (hn : -32768 ≤ n ∧ n ≤ 32767) : Wp k pc ls st S I Q ↔ Wp k (pc + 3) ls (vI n :: st) S I Q :=
  Wp_next (by simp only [stp, h, sti]; rw [if_pos ⟨trivial, hn⟩]; rfl)
theorem Wp_lconst {n : Fin 2} {v : Int} (h : decode (bk k) pc = .ok (.lconst n, 1)) (hv : (n.val : Int) = v) : Wp k pc ls st S I Q ↔ Wp k (pc + 1) ls (vL v :: st) S I Q :=
  Wp_next (by subst hv; simp only [stp, h, sti]; rw [if_pos trivial]; rfl)
theorem Wp_ldc {n : Nat} {v : Int} (h : decode (bk k) pc = .ok (.ldc n, 2)) (hv : ki (ok k) n = some v) : Wp k pc ls st S I Q ↔ Wp k (pc + 2) ls (vI v :: st) S I Q :=
  Wp_next (by simp only [stp, h, sti, hv]; rw [if_pos trivial]; rfl)
theorem Wp_ldc_w {n : Nat} {v : Int} (h : decode (bk k) pc = .ok (.ldc_w n, 3)) (hv : ki (ok k) n = some v) : Wp k pc ls st S I Q ↔ Wp k (pc + 3) ls (vI v :: st) S I Q :=
  Wp_next (by simp only [stp, h, sti, hv]; rw [if_pos trivial]; rfl)
theorem Wp_ldc2 {n : Nat} {v : Int} (h : decode (bk k) pc = .ok (.ldc2_w n, 3)) (hv : kj (ok k) n = some v) : Wp k pc ls st S I Q ↔ Wp k (pc + 3) ls (vL v :: st) S I Q :=
  Wp_next (by simp only [stp, h, sti, hv]; rw [if_pos trivial]; rfl)
theorem Wp_iload_n {n : Fin 4} {x : Int} (h : decode (bk k) pc = .ok (.iload_n n, 1)) (hl : ls[n.val]? = some (vI x)) : Wp k pc ls st S I Q ↔ Wp k (pc + 1) ls (vI x :: st) S I Q :=
  Wp_next (by simp only [stp, h, sti, hl]; rw [if_pos trivial]; rfl)
theorem Wp_iload {n : Nat} {x : Int} (h : decode (bk k) pc = .ok (.iload n, 2)) (hl : ls[n]? = some (vI x)) : Wp k pc ls st S I Q ↔ Wp k (pc + 2) ls (vI x :: st) S I Q :=
  Wp_next (by simp only [stp, h, sti, hl]; rw [if_pos trivial]; rfl)
theorem Wp_lload_n {n : Fin 4} {x : Int} (h : decode (bk k) pc = .ok (.lload_n n, 1)) (hl : ls[n.val]? = some (vL x)) : Wp k pc ls st S I Q ↔ Wp k (pc + 1) ls (vL x :: st) S I Q :=
  Wp_next (by simp only [stp, h, sti, hl]; rw [if_pos trivial]; rfl)
theorem Wp_lload {n : Nat} {x : Int} (h : decode (bk k) pc = .ok (.lload n, 2)) (hl : ls[n]? = some (vL x)) : Wp k pc ls st S I Q ↔ Wp k (pc + 2) ls (vL x :: st) S I Q :=
  Wp_next (by simp only [stp, h, sti, hl]; rw [if_pos trivial]; rfl)
theorem Wp_aload_n {n : Fin 4} {x : Nat} (h : decode (bk k) pc = .ok (.aload_n n, 1)) (hl : ls[n.val]? = some (vR x)) : Wp k pc ls st S I Q ↔ Wp k (pc + 1) ls (vR x :: st) S I Q :=
  Wp_next (by simp only [stp, h, sti, hl]; rw [if_pos trivial]; rfl)
theorem Wp_xload_n {n : Fin 4} (h : decode (bk k) pc = .ok (.aload_n n, 1)) (hl : ls[n.val]? = some vX) : Wp k pc ls st S I Q ↔ Wp k (pc + 1) ls (vX :: st) S I Q :=
  Wp_next (by simp only [stp, h, sti, hl]; rw [if_pos trivial]; rfl)
theorem Wp_aload {n : Nat} {x : Nat} (h : decode (bk k) pc = .ok (.aload n, 2)) (hl : ls[n]? = some (vR x)) : Wp k pc ls st S I Q ↔ Wp k (pc + 2) ls (vR x :: st) S I Q :=
  Wp_next (by simp only [stp, h, sti, hl]; rw [if_pos trivial]; rfl)
theorem Wp_istore_n {n : Fin 4} {x : Int} {ls' : List zV} (h : decode (bk k) pc = .ok (.istore_n n, 1)) (hn : n.val < ls.length) (hh : hk k = false) (hl : ls.set n.val (vI x) = ls') : Wp k pc ls (vI x :: st) S I Q ↔ Wp k (pc + 1) ls' st S I Q :=
  Wp_next (by subst hl; simp only [stp, h, sti]; rw [if_pos ⟨trivial, hn, hh⟩]; rfl)
theorem Wp_istore {n : Nat} {x : Int} {ls' : List zV} (h : decode (bk k) pc = .ok (.istore n, 2)) (hn : n < ls.length) (hh : hk k = false) (hl : ls.set n (vI x) = ls') : Wp k pc ls (vI x :: st) S I Q ↔ Wp k (pc + 2) ls' st S I Q :=
  Wp_next (by subst hl; simp only [stp, h, sti]; rw [if_pos ⟨trivial, hn, hh⟩]; rfl)
theorem Wp_astore_n {n : Fin 4} {x : Nat} {ls' : List zV} (h : decode (bk k) pc = .ok (.astore_n n, 1)) (hn : n.val < ls.length) (hh : hk k = false) (hl : ls.set n.val (vR x) = ls') : Wp k pc ls (vR x :: st) S I Q ↔ Wp k (pc + 1) ls' st S I Q :=
  Wp_next (by subst hl; simp only [stp, h, sti]; rw [if_pos ⟨trivial, hn, hh⟩]; rfl)
theorem Wp_astore {n : Nat} {x : Nat} {ls' : List zV} (h : decode (bk k) pc = .ok (.astore n, 2)) (hn : n < ls.length) (hh : hk k = false) (hl : ls.set n (vR x) = ls') : Wp k pc ls (vR x :: st) S I Q ↔ Wp k (pc + 2) ls' st S I Q :=
  Wp_next (by subst hl; simp only [stp, h, sti]; rw [if_pos ⟨trivial, hn, hh⟩]; rfl)
/-- a step that goes only under a condition -/
theorem Wp_if {c : Prop} {ls' st' : List zV} {pc' : Nat} {S' : zS} {I' : zM} (h1 : c → stp k pc ls st S I = some (.inl (pc', ls', st', S', I'))) (h2 : ¬ c → stp k pc ls st S I = none) : Wp k pc ls st S I Q ↔ c ∧ Wp k pc' ls' st' S' I' Q := by
  by_cases hc : c
  · rw [Wp_next (h1 hc)]
    exact ⟨fun h => ⟨hc, h⟩, fun h => h.2⟩
  · rw [Wp_stuck (h2 hc)]
    exact ⟨False.elim, fun h => hc h.1⟩
theorem Wp_iinc {i : Nat} {n x : Int} {ls' : List zV} (h : decode (bk k) pc = .ok (.iinc i n, 3)) (hh : hk k = false) (hn : rg n) (hg : ls[i]? = some (vI x)) (hl : ls.set i (vI (x + n)) = ls') : Wp k pc ls st S I Q ↔ (-2147483648 ≤ x + n ∧ x + n ≤ 2147483647) ∧ Wp k (pc + 3) ls' st S I Q := by
  subst hl
  refine Wp_if (fun hc => ?_) (fun hc => ?_)
  · simp only [stp, h, sti, hg]; rw [if_pos ⟨trivial, hh, hn⟩]; simp only [vI]; rw [if_pos hc]; rfl
  · simp only [stp, h, sti, hg]; rw [if_pos ⟨trivial, hh, hn⟩]; simp only [vI]; rw [if_neg hc]
theorem Wp_iadd {x y : Int} (h : decode (bk k) pc = .ok (.iadd, 1)) : Wp k pc ls (vI y :: vI x :: st) S I Q ↔ (-2147483648 ≤ x + y ∧ x + y ≤ 2147483647) ∧ Wp k (pc + 1) ls (vI (x + y) :: st) S I Q := by
  refine Wp_if (fun hc => ?_) (fun hc => ?_)
  · simp only [stp, h, sti, vI]; rw [if_pos ⟨trivial, hc⟩]; rfl
  · simp only [stp, h, sti, vI]; rw [if_neg (fun z => hc z.2)]
theorem Wp_isub {x y : Int} (h : decode (bk k) pc = .ok (.isub, 1)) : Wp k pc ls (vI y :: vI x :: st) S I Q ↔ (-2147483648 ≤ x - y ∧ x - y ≤ 2147483647) ∧ Wp k (pc + 1) ls (vI (x - y) :: st) S I Q := by
  refine Wp_if (fun hc => ?_) (fun hc => ?_)
  · simp only [stp, h, sti, vI]; rw [if_pos ⟨trivial, hc⟩]; rfl
  · simp only [stp, h, sti, vI]; rw [if_neg (fun z => hc z.2)]
theorem Wp_imul {x y : Int} (h : decode (bk k) pc = .ok (.imul, 1)) : Wp k pc ls (vI y :: vI x :: st) S I Q ↔ (-2147483648 ≤ x * y ∧ x * y ≤ 2147483647) ∧ Wp k (pc + 1) ls (vI (x * y) :: st) S I Q := by
  refine Wp_if (fun hc => ?_) (fun hc => ?_)
  · simp only [stp, h, sti, vI]; rw [if_pos ⟨trivial, hc⟩]; rfl
  · simp only [stp, h, sti, vI]; rw [if_neg (fun z => hc z.2)]
theorem Wp_iand {x y : Int} (h : decode (bk k) pc = .ok (.iand, 1)) : Wp k pc ls (vI y :: vI x :: st) S I Q ↔ Wp k (pc + 1) ls (vI (zand x y) :: st) S I Q :=
  Wp_next (by simp only [stp, h, sti, vI]; rw [if_pos trivial]; rfl)
theorem Wp_i2l {x : Int} (h : decode (bk k) pc = .ok (.i2l, 1)) : Wp k pc ls (vI x :: st) S I Q ↔ Wp k (pc + 1) ls (vL x :: st) S I Q :=
  Wp_next (by simp only [stp, h, sti, vI]; rw [if_pos trivial]; rfl)
theorem Wp_ladd {x y : Int} (h : decode (bk k) pc = .ok (.ladd, 1)) : Wp k pc ls (vL y :: vL x :: st) S I Q ↔ (-9223372036854775808 ≤ x + y ∧ x + y ≤ 9223372036854775807) ∧ Wp k (pc + 1) ls (vL (x + y) :: st) S I Q := by
  refine Wp_if (fun hc => ?_) (fun hc => ?_)
  · simp only [stp, h, sti, vL]; rw [if_pos ⟨trivial, hc⟩]; rfl
  · simp only [stp, h, sti, vL]; rw [if_neg (fun z => hc z.2)]
theorem Wp_lcmp {x y : Int} (h : decode (bk k) pc = .ok (.lcmp, 1)) : Wp k pc ls (vL y :: vL x :: st) S I Q ↔ Wp k (pc + 1) ls (vI (if y < x then 1 else if x = y then 0 else -1) :: st) S I Q :=
  Wp_next (by simp only [stp, h, sti, vL]; rw [if_pos trivial]; rfl)
theorem Wp_dup {v : zV} (h : decode (bk k) pc = .ok (.dup, 1)) (hv : zl v = false) : Wp k pc ls (v :: st) S I Q ↔ Wp k (pc + 1) ls (v :: v :: st) S I Q :=
  Wp_next (by simp only [stp, h, sti]; rw [if_pos ⟨trivial, hv⟩]; rfl)
theorem Wp_dup2 {v w : zV} (h : decode (bk k) pc = .ok (.dup2, 1)) (hv : zl v = false) (hw : zl w = false) : Wp k pc ls (v :: w :: st) S I Q ↔ Wp k (pc + 1) ls (v :: w :: v :: w :: st) S I Q :=
  Wp_next (by simp only [stp, h, sti]; rw [if_pos ⟨trivial, hv, hw⟩]; rfl)
theorem Wp_pop {v : zV} (h : decode (bk k) pc = .ok (.pop, 1)) (hv : zl v = false) : Wp k pc ls (v :: st) S I Q ↔ Wp k (pc + 1) ls st S I Q :=
  Wp_next (by simp only [stp, h, sti]; rw [if_pos ⟨trivial, hv⟩]; rfl)
theorem Wp_goto {off : Int} {t : Nat} (h : decode (bk k) pc = .ok (.goto off, 3)) (ht : (pc : Int) + off = (t : Int)) : Wp k pc ls st S I Q ↔ Wp k t ls st S I Q :=
  Wp_next (by simp only [stp, h, sti]; rw [if_pos ⟨trivial, by omega⟩, ht]; rfl)
theorem Wp_br2 {c : Jvm.ClassFile.Cond} {off x y : Int} {t : Nat} (h : decode (bk k) pc = .ok (.if_icmp c off, 3)) (ht : (pc : Int) + off = (t : Int)) : Wp k pc ls (vI y :: vI x :: st) S I Q ↔ if zc c x y = true then Wp k t ls st S I Q else Wp k (pc + 3) ls st S I Q := by
  have : stp k pc ls (vI y :: vI x :: st) S I = some (.inl (if zc c x y = true then t else pc + 3, ls, st, S, I)) := by
    simp only [stp, h, sti, vI]; rw [if_pos ⟨trivial, by omega⟩, ht]; rfl
  rw [Wp_next this]
  split <;> rfl
theorem Wp_br1 {c : Jvm.ClassFile.Cond} {off x : Int} {t : Nat} (h : decode (bk k) pc = .ok (.ifCond c off, 3)) (ht : (pc : Int) + off = (t : Int)) : Wp k pc ls (vI x :: st) S I Q ↔ if zc c x 0 = true then Wp k t ls st S I Q else Wp k (pc + 3) ls st S I Q := by
  have : stp k pc ls (vI x :: st) S I = some (.inl (if zc c x 0 = true then t else pc + 3, ls, st, S, I)) := by
    simp only [stp, h, sti, vI]; rw [if_pos ⟨trivial, by omega⟩, ht]; rfl
  rw [Wp_next this]
  split <;> rfl
theorem Wp_eq2 {off x y : Int} {t : Nat} (h : decode (bk k) pc = .ok (.if_icmp .eq off, 3)) (ht : (pc : Int) + off = (t : Int)) : Wp k pc ls (vI y :: vI x :: st) S I Q ↔ if x = y then Wp k t ls st S I Q else Wp k (pc + 3) ls st S I Q := by
  rw [Wp_br2 h ht]; simp only [zc, decide_eq_true_eq]
theorem Wp_ne2 {off x y : Int} {t : Nat} (h : decode (bk k) pc = .ok (.if_icmp .ne off, 3)) (ht : (pc : Int) + off = (t : Int)) : Wp k pc ls (vI y :: vI x :: st) S I Q ↔ if x = y then Wp k (pc + 3) ls st S I Q else Wp k t ls st S I Q := by
  rw [Wp_br2 h ht]; by_cases e : x = y <;> simp [zc, e]
theorem Wp_lt2 {off x y : Int} {t : Nat} (h : decode (bk k) pc = .ok (.if_icmp .lt off, 3)) (ht : (pc : Int) + off = (t : Int)) : Wp k pc ls (vI y :: vI x :: st) S I Q ↔ if x < y then Wp k t ls st S I Q else Wp k (pc + 3) ls st S I Q := by
  rw [Wp_br2 h ht]; simp only [zc, decide_eq_true_eq]
theorem Wp_ge2 {off x y : Int} {t : Nat} (h : decode (bk k) pc = .ok (.if_icmp .ge off, 3)) (ht : (pc : Int) + off = (t : Int)) : Wp k pc ls (vI y :: vI x :: st) S I Q ↔ if x < y then Wp k (pc + 3) ls st S I Q else Wp k t ls st S I Q := by
  rw [Wp_br2 h ht]; simp only [zc, decide_eq_true_eq]; split <;> split <;> first | rfl | (exfalso; omega)
theorem Wp_gt2 {off x y : Int} {t : Nat} (h : decode (bk k) pc = .ok (.if_icmp .gt off, 3)) (ht : (pc : Int) + off = (t : Int)) : Wp k pc ls (vI y :: vI x :: st) S I Q ↔ if y < x then Wp k t ls st S I Q else Wp k (pc + 3) ls st S I Q := by
  rw [Wp_br2 h ht]; simp only [zc, decide_eq_true_eq]
theorem Wp_le2 {off x y : Int} {t : Nat} (h : decode (bk k) pc = .ok (.if_icmp .le off, 3)) (ht : (pc : Int) + off = (t : Int)) : Wp k pc ls (vI y :: vI x :: st) S I Q ↔ if y < x then Wp k (pc + 3) ls st S I Q else Wp k t ls st S I Q := by
  rw [Wp_br2 h ht]; simp only [zc, decide_eq_true_eq]; split <;> split <;> first | rfl | (exfalso; omega)
theorem Wp_eq1 {off x : Int} {t : Nat} (h : decode (bk k) pc = .ok (.ifCond .eq off, 3)) (ht : (pc : Int) + off = (t : Int)) : Wp k pc ls (vI x :: st) S I Q ↔ if x = 0 then Wp k t ls st S I Q else Wp k (pc + 3) ls st S I Q := by
  rw [Wp_br1 h ht]; simp only [zc, decide_eq_true_eq]
theorem Wp_ne1 {off x : Int} {t : Nat} (h : decode (bk k) pc = .ok (.ifCond .ne off, 3)) (ht : (pc : Int) + off = (t : Int)) : Wp k pc ls (vI x :: st) S I Q ↔ if x = 0 then Wp k (pc + 3) ls st S I Q else Wp k t ls st S I Q := by
  rw [Wp_br1 h ht]; by_cases e : x = 0 <;> simp [zc, e]
theorem Wp_lt1 {off x : Int} {t : Nat} (h : decode (bk k) pc = .ok (.ifCond .lt off, 3)) (ht : (pc : Int) + off = (t : Int)) : Wp k pc ls (vI x :: st) S I Q ↔ if x < 0 then Wp k t ls st S I Q else Wp k (pc + 3) ls st S I Q := by
  rw [Wp_br1 h ht]; simp only [zc, decide_eq_true_eq]
theorem Wp_ge1 {off x : Int} {t : Nat} (h : decode (bk k) pc = .ok (.ifCond .ge off, 3)) (ht : (pc : Int) + off = (t : Int)) : Wp k pc ls (vI x :: st) S I Q ↔ if x < 0 then Wp k (pc + 3) ls st S I Q else Wp k t ls st S I Q := by
  rw [Wp_br1 h ht]; simp only [zc, decide_eq_true_eq]; split <;> split <;> first | rfl | (exfalso; omega)
theorem Wp_gt1 {off x : Int} {t : Nat} (h : decode (bk k) pc = .ok (.ifCond .gt off, 3)) (ht : (pc : Int) + off = (t : Int)) : Wp k pc ls (vI x :: st) S I Q ↔ if 0 < x then Wp k t ls st S I Q else Wp k (pc + 3) ls st S I Q := by
  rw [Wp_br1 h ht]; simp only [zc, decide_eq_true_eq]
theorem Wp_le1 {off x : Int} {t : Nat} (h : decode (bk k) pc = .ok (.ifCond .le off, 3)) (ht : (pc : Int) + off = (t : Int)) : Wp k pc ls (vI x :: st) S I Q ↔ if 0 < x then Wp k (pc + 3) ls st S I Q else Wp k t ls st S I Q := by
  rw [Wp_br1 h ht]; simp only [zc, decide_eq_true_eq]; split <;> split <;> first | rfl | (exfalso; omega)
theorem Wp_tsIn {df lo hi x o : Int} {offs : Array Int} {len t : Nat} (h : decode (bk k) pc = .ok (.tableswitch df lo hi offs, len)) (h1 : ¬ (x < lo ∨ hi < x)) (ho : offs[(x - lo).toNat]? = some o) (ht : (pc : Int) + o = (t : Int)) : Wp k pc ls (vI x :: st) S I Q ↔ Wp k t ls st S I Q :=
  Wp_next (by simp only [stp, h, sti, vI]; rw [if_neg h1, ho]; dsimp only; rw [if_pos (by omega), ht]; rfl)
theorem Wp_tsOut {df lo hi x : Int} {offs : Array Int} {len t : Nat} (h : decode (bk k) pc = .ok (.tableswitch df lo hi offs, len)) (h1 : x < lo ∨ hi < x) (ht : (pc : Int) + df = (t : Int)) : Wp k pc ls (vI x :: st) S I Q ↔ Wp k t ls st S I Q :=
  Wp_next (by simp only [stp, h, sti, vI]; rw [if_pos h1, if_pos (by omega), ht]; rfl)
theorem Wp_getI {i ci j : Nat} {a : Nat} (h : decode (bk k) pc = .ok (.getfield i, 3)) (hf : fd (ok k) i = some (ci, j)) (ht : ft ci j ≤ 1) : Wp k pc ls (vR a :: st) S I Q ↔ kd S a = ci + 2 ∧ Wp k (pc + 3) ls (vI (I a j) :: st) S I Q := by
  refine Wp_if (fun hc => ?_) (fun hc => ?_)
  · simp only [stp, h, sti, hf, zgf, vR]; rw [if_pos trivial, if_pos hc, if_pos ht]; rfl
  · simp only [stp, h, sti, hf, zgf, vR]; rw [if_pos trivial, if_neg hc]
theorem Wp_getS {i ci j : Nat} {a : Nat} (h : decode (bk k) pc = .ok (.getfield i, 3)) (hf : fd (ok k) i = some (ci, j)) (ht0 : ¬ ft ci j ≤ 1) (ht : ft ci j ≤ 3) : Wp k pc ls (vR a :: st) S I Q ↔ kd S a = ci + 2 ∧ Wp k (pc + 3) ls (vI (sd S a j) :: st) S I Q := by
  refine Wp_if (fun hc => ?_) (fun hc => ?_)
  · simp only [stp, h, sti, hf, zgf, vR]; rw [if_pos trivial, if_pos hc, if_neg ht0, if_pos ht]; rfl
  · simp only [stp, h, sti, hf, zgf, vR]; rw [if_pos trivial, if_neg hc]
theorem Wp_getR {i ci j : Nat} {a : Nat} (h : decode (bk k) pc = .ok (.getfield i, 3)) (hf : fd (ok k) i = some (ci, j)) (ht0 : ¬ ft ci j ≤ 3) (ht : ft ci j ≤ 5) : Wp k pc ls (vR a :: st) S I Q ↔ (kd S a = ci + 2 ∧ 0 < sd S a j) ∧ Wp k (pc + 3) ls (vR (sd S a j - 1) :: st) S I Q := by
  refine Wp_if (fun hc => ?_) (fun hc => ?_)
  · simp only [stp, h, sti, hf, zgf, vR]; rw [if_pos trivial, if_pos hc.1, if_neg (by omega), if_neg ht0, if_pos ⟨ht, hc.2⟩]; rfl
  · simp only [stp, h, sti, hf, zgf, vR]; rw [if_pos trivial]
    by_cases h1 : kd S a = ci + 2
    · rw [if_pos h1, if_neg (by omega), if_neg ht0, if_neg (fun z => hc ⟨h1, z.2⟩)]
    · rw [if_neg h1]
theorem Wp_putI {i ci j : Nat} {a : Nat} {x : Int} (h : decode (bk k) pc = .ok (.putfield i, 3)) (hf : fd (ok k) i = some (ci, j)) (ht : ft ci j = 0) : Wp k pc ls (vI x :: vR a :: st) S I Q ↔ kd S a = ci + 2 ∧ Wp k (pc + 3) ls st S (up I a j x) Q := by
  refine Wp_if (fun hc => ?_) (fun hc => ?_)
  · simp only [stp, h, sti, hf, zpf, vR, vI]; rw [if_pos trivial, if_pos hc, if_pos ht]; rfl
  · simp only [stp, h, sti, hf, zpf, vR, vI]; rw [if_pos trivial, if_neg hc]
theorem Wp_putZ {i ci j : Nat} {a : Nat} {x : Int} (h : decode (bk k) pc = .ok (.putfield i, 3)) (hf : fd (ok k) i = some (ci, j)) (ht : ft ci j = 1) : Wp k pc ls (vI x :: vR a :: st) S I Q ↔ (kd S a = ci + 2 ∧ (x = 0 ∨ x = 1)) ∧ Wp k (pc + 3) ls st S (up I a j x) Q := by
  refine Wp_if (fun hc => ?_) (fun hc => ?_)
  · simp only [stp, h, sti, hf, zpf, vR, vI]; rw [if_pos trivial, if_pos hc.1, if_neg (by omega), if_pos ht, if_pos hc.2]; rfl
  · simp only [stp, h, sti, hf, zpf, vR, vI]; rw [if_pos trivial]
    by_cases h1 : kd S a = ci + 2
    · rw [if_pos h1, if_neg (by omega), if_pos ht, if_neg (fun z => hc ⟨h1, z⟩)]
    · rw [if_neg h1]
theorem Wp_putF {i ci j : Nat} {a : Nat} {x : Int} (h : decode (bk k) pc = .ok (.putfield i, 3)) (hf : fd (ok k) i = some (ci, j)) (ht : ft ci j = 2) (hi : ik k = 2 ∧ ok k = ci) : Wp k pc ls (vI x :: vR a :: st) S I Q ↔ (kd S a = ci + 2 ∧ 0 ≤ x) ∧ Wp k (pc + 3) ls st (ss S a j x.toNat) I Q := by
  refine Wp_if (fun hc => ?_) (fun hc => ?_)
  · simp only [stp, h, sti, hf, zpf, vR, vI]; rw [if_pos trivial, if_pos hc.1, if_neg (by omega), if_neg (by omega), if_pos ⟨ht, hc.2, hi⟩]; rfl
  · simp only [stp, h, sti, hf, zpf, vR, vI]; rw [if_pos trivial]
    by_cases h1 : kd S a = ci + 2
    · rw [if_pos h1, if_neg (by omega), if_neg (by omega), if_neg (fun z => hc ⟨h1, z.2.1⟩), if_neg (by omega)]
    · rw [if_neg h1]
theorem Wp_putG {i ci j : Nat} {a : Nat} {x : Int} (h : decode (bk k) pc = .ok (.putfield i, 3)) (hf : fd (ok k) i = some (ci, j)) (ht : ft ci j = 3) (hi : ik k = 2 ∧ ok k = ci) : Wp k pc ls (vI x :: vR a :: st) S I Q ↔ (kd S a = ci + 2 ∧ (x = 0 ∨ x = 1)) ∧ Wp k (pc + 3) ls st (ss S a j x.toNat) I Q := by
  refine Wp_if (fun hc => ?_) (fun hc => ?_)
  · simp only [stp, h, sti, hf, zpf, vR, vI]; rw [if_pos trivial, if_pos hc.1, if_neg (by omega), if_neg (by omega), if_neg (by omega), if_pos ⟨ht, hc.2, hi⟩]; rfl
  · simp only [stp, h, sti, hf, zpf, vR, vI]; rw [if_pos trivial]
    by_cases h1 : kd S a = ci + 2
    · rw [if_pos h1, if_neg (by omega), if_neg (by omega), if_neg (by omega), if_neg (fun z => hc ⟨h1, z.2.1⟩)]
    · rw [if_neg h1]
theorem Wp_putR {i ci j : Nat} {a b : Nat} (h : decode (bk k) pc = .ok (.putfield i, 3)) (hf : fd (ok k) i = some (ci, j)) (ht : (ft ci j = 4 ∧ ik k = 2 ∧ ok k = ci) ∨ ft ci j = 5) : Wp k pc ls (vR b :: vR a :: st) S I Q ↔ kd S a = ci + 2 ∧ Wp k (pc + 3) ls st (ss S a j (b + 1)) I Q := by
  refine Wp_if (fun hc => ?_) (fun hc => ?_)
  · simp only [stp, h, sti, hf, zpf, vR, vI]; rw [if_pos trivial, if_pos hc]
    rcases ht with ht | ht
    · rw [if_pos ht]; rfl
    · rw [if_neg (by omega), if_pos ht]; rfl
  · simp only [stp, h, sti, hf, zpf, vR, vI]; rw [if_pos trivial, if_neg hc]
theorem Wp_iaload {a : Nat} {j : Int} (h : decode (bk k) pc = .ok (.iaload, 1)) : Wp k pc ls (vI j :: vR a :: st) S I Q ↔ (kd S a = 0 ∧ 0 ≤ j ∧ j < (sd S a 0 : Int)) ∧ Wp k (pc + 1) ls (vI (I a j) :: st) S I Q := by
  refine Wp_if (fun hc => ?_) (fun hc => ?_)
  · simp only [stp, h, sti, zal, vR, vI]; rw [if_pos trivial, if_pos hc]; rfl
  · simp only [stp, h, sti, zal, vR, vI]; rw [if_pos trivial, if_neg hc]
theorem Wp_xaload {j : Int} (h : decode (bk k) pc = .ok (.iaload, 1)) : Wp k pc ls (vI j :: vX :: st) S I Q ↔ (0 ≤ j ∧ j < (S.2.1 : Int)) ∧ Wp k (pc + 1) ls (vI (S.2.2 j) :: st) S I Q := by
  refine Wp_if (fun hc => ?_) (fun hc => ?_)
  · simp only [stp, h, sti, zal, vX, vI]; rw [if_pos trivial, if_pos ⟨trivial, hc⟩]; rfl
  · simp only [stp, h, sti, zal, vX, vI]; rw [if_pos trivial, if_neg (fun z => hc z.2)]
theorem Wp_baload {a : Nat} {j : Int} (h : decode (bk k) pc = .ok (.baload, 1)) : Wp k pc ls (vI j :: vR a :: st) S I Q ↔ (kd S a = 1 ∧ 0 ≤ j ∧ j < (sd S a 0 : Int)) ∧ Wp k (pc + 1) ls (vI (I a j) :: st) S I Q := by
  refine Wp_if (fun hc => ?_) (fun hc => ?_)
  · simp only [stp, h, sti, zal, vR, vI]; rw [if_pos trivial, if_pos hc]; rfl
  · simp only [stp, h, sti, zal, vR, vI]; rw [if_pos trivial, if_neg hc]
theorem Wp_iastore {a : Nat} {j x : Int} (h : decode (bk k) pc = .ok (.iastore, 1)) : Wp k pc ls (vI x :: vI j :: vR a :: st) S I Q ↔ (kd S a = 0 ∧ 0 ≤ j ∧ j < (sd S a 0 : Int)) ∧ Wp k (pc + 1) ls st S (up I a j x) Q := by
  refine Wp_if (fun hc => ?_) (fun hc => ?_)
  · simp only [stp, h, sti, zas, vR, vI]; rw [if_pos trivial, if_pos ⟨hc.1, hc.2.1, hc.2.2, Or.inl trivial⟩]; rfl
  · simp only [stp, h, sti, zas, vR, vI]; rw [if_pos trivial, if_neg (fun z => hc ⟨z.1, z.2.1, z.2.2.1⟩)]
theorem Wp_bastore {a : Nat} {j x : Int} (h : decode (bk k) pc = .ok (.bastore, 1)) : Wp k pc ls (vI x :: vI j :: vR a :: st) S I Q ↔ (kd S a = 1 ∧ 0 ≤ j ∧ j < (sd S a 0 : Int) ∧ (x = 0 ∨ x = 1)) ∧ Wp k (pc + 1) ls st S (up I a j x) Q := by
  refine Wp_if (fun hc => ?_) (fun hc => ?_)
  · simp only [stp, h, sti, zas, vR, vI]; rw [if_pos trivial, if_pos ⟨hc.1, hc.2.1, hc.2.2.1, Or.inr hc.2.2.2⟩]; rfl
  · simp only [stp, h, sti, zas, vR, vI]; rw [if_pos trivial, if_neg (fun z => hc ⟨z.1, z.2.1, z.2.2.1, by rcases z.2.2.2 with y | y; exact absurd y (by omega); exact y⟩)]
theorem Wp_alen {a : Nat} (h : decode (bk k) pc = .ok (.arraylength, 1)) : Wp k pc ls (vR a :: st) S I Q ↔ kd S a ≤ 1 ∧ Wp k (pc + 1) ls (vI (sd S a 0) :: st) S I Q := by
  refine Wp_if (fun hc => ?_) (fun hc => ?_)
  · simp only [stp, h, sti, vR]; rw [if_pos ⟨trivial, hc⟩]; rfl
  · simp only [stp, h, sti, vR]; rw [if_neg (fun z => hc z.2)]
theorem Wp_xlen (h : decode (bk k) pc = .ok (.arraylength, 1)) : Wp k pc ls (vX :: st) S I Q ↔ Wp k (pc + 1) ls (vI (S.2.1 : Int) :: st) S I Q :=
  Wp_next (by simp only [stp, h, sti, vX]; rw [if_pos trivial]; rfl)
theorem Wp_new {i ci N : Nat} (h : decode (bk k) pc = .ok (.new i, 3)) (hn : nw (ok k) i = some ci) (hN : nf ci = N) : Wp k pc ls st S I Q ↔ Wp k (pc + 3) ls (vR S.1.length :: st) (sp S (ci + 2, List.replicate N 0)) (cz I S.1.length) Q :=
  Wp_next (by subst hN; simp only [stp, h, sti, hn]; rw [if_pos trivial]; rfl)
theorem Wp_newi {n : Int} (h : decode (bk k) pc = .ok (.newarray .int, 2)) : Wp k pc ls (vI n :: st) S I Q ↔ (0 ≤ n ∧ n ≤ 1000000) ∧ Wp k (pc + 2) ls (vR S.1.length :: st) (sp S (0, [n.toNat])) (cz I S.1.length) Q := by
  refine Wp_if (fun hc => ?_) (fun hc => ?_)
  · simp only [stp, h, sti, vI]; rw [if_pos ⟨trivial, hc⟩]; simp only [if_true]; rfl
  · simp only [stp, h, sti, vI]; rw [if_neg (fun z => hc z.2)]
theorem Wp_newz {n : Int} (h : decode (bk k) pc = .ok (.newarray .boolean, 2)) : Wp k pc ls (vI n :: st) S I Q ↔ (0 ≤ n ∧ n ≤ 1000000) ∧ Wp k (pc + 2) ls (vR S.1.length :: st) (sp S (1, [n.toNat])) (cz I S.1.length) Q := by
  refine Wp_if (fun hc => ?_) (fun hc => ?_)
  · simp only [stp, h, sti, vI]; rw [if_pos ⟨trivial, hc⟩, if_neg (by decide)]; simp only [if_true]; rfl
  · simp only [stp, h, sti, vI]; rw [if_neg (fun z => hc z.2)]
theorem Wp_cv {i q k' n : Nat} {a : Nat} {rest ls0 : List zV} (h : decode (bk k) pc = .ok (.invokevirtual i, 3)) (hl : lkk (ok k) i = some (q, k')) (hq : q ≤ 1 ∧ ik k' = 1) (hn : nk k' = n) {c : Nat} (hc' : ok k' + 2 = c) (h1 : st.drop n = vR a :: rest) (h2 : (st.take n).length = n) (h3 : zro k k') (h4 : zws rest ≤ 8) (h5 : zok k' (vR a :: (st.take n).reverse)) (h6 : zen k' (vR a :: (st.take n).reverse) = ls0) :
    Wp k pc ls st S I Q ↔ kd S a = c ∧ Wp k' 0 ls0 [] S I (fun r S1 I1 => Wp k (pc + 3) ls (zpu r rest) S1 I1 Q) := by
  subst hn; subst hc'; subst h6
  have h1 : st.drop (nk k') = Sum.inr (Sum.inl a) :: rest := h1
  by_cases hc : kd S a = ok k' + 2
  · rw [Wp_call (k' := k') (ls0 := zen k' (vR a :: (st.take (nk k')).reverse)) (rest := rest)]
    · exact ⟨fun h => ⟨hc, h⟩, fun h => h.2⟩
    · simp only [stp, h, sti, hl, zcv, h1]; rw [if_pos trivial, if_pos hq, if_pos ⟨h2, hc, h3, h4, h5⟩]; rfl
  · rw [Wp_stuck]
    · exact ⟨False.elim, fun h => hc h.1⟩
    · simp only [stp, h, sti, hl, zcv, h1]; rw [if_pos trivial, if_pos hq, if_neg (fun z => hc z.2.1)]
theorem Wp_ci {i q k' n : Nat} {a : Nat} {rest ls0 : List zV} (h : decode (bk k) pc = .ok (.invokespecial i, 3)) (hl : lkk (ok k) i = some (q, k')) (hq : q ≤ 1 ∧ ik k' = 2) (hn : nk k' = n) {c : Nat} (hc' : ok k' + 2 = c) (h1 : st.drop n = vR a :: rest) (h2 : (st.take n).length = n) (h3 : zro k k') (h4 : zws rest ≤ 8) (h5 : zok k' (vR a :: (st.take n).reverse)) (h6 : zen k' (vR a :: (st.take n).reverse) = ls0) :
    Wp k pc ls st S I Q ↔ kd S a = c ∧ Wp k' 0 ls0 [] S I (fun r S1 I1 => Wp k (pc + 3) ls (zpu r rest) S1 I1 Q) := by
  subst hn; subst hc'; subst h6
  have h1 : st.drop (nk k') = Sum.inr (Sum.inl a) :: rest := h1
  by_cases hc : kd S a = ok k' + 2
  · rw [Wp_call (k' := k') (ls0 := zen k' (vR a :: (st.take (nk k')).reverse)) (rest := rest)]
    · exact ⟨fun h => ⟨hc, h⟩, fun h => h.2⟩
    · simp only [stp, h, sti, hl, zcv, h1]; rw [if_pos trivial, if_pos hq, if_pos ⟨h2, hc, h3, h4, h5⟩]; rfl
  · rw [Wp_stuck]
    · exact ⟨False.elim, fun h => hc h.1⟩
    · simp only [stp, h, sti, hl, zcv, h1]; rw [if_pos trivial, if_pos hq, if_neg (fun z => hc z.2.1)]
theorem Wp_cs {i q k' n : Nat} {rest ls0 : List zV} (h : decode (bk k) pc = .ok (.invokestatic i, 3)) (hl : lkk (ok k) i = some (q, k')) (hq : q ≤ 1 ∧ ik k' = 0) (hn : nk k' = n) (h1 : st.drop n = rest) (h2 : (st.take n).length = n) (h3 : zro k k') (h4 : zws rest ≤ 8) (h5 : zok k' (st.take n).reverse) (h6 : zen k' (st.take n).reverse = ls0) :
    Wp k pc ls st S I Q ↔ Wp k' 0 ls0 [] S I (fun r S1 I1 => Wp k (pc + 3) ls (zpu r rest) S1 I1 Q) := by
  subst hn; subst h1; subst h6
  exact Wp_call (by simp only [stp, h, sti, hl, zcs]; rw [if_pos trivial, if_pos hq, if_pos ⟨h2, h3, h4, h5⟩]; rfl)
theorem Wp_ob {i k' : Nat} {a : Nat} (h : decode (bk k) pc = .ok (.invokespecial i, 3)) (hl : lkk (ok k) i = some (2, k')) (h1 : 1 ≤ fk k ∧ zws st + 12 ≤ ck k) : Wp k pc ls (vR a :: st) S I Q ↔ Wp k (pc + 3) ls st S I Q :=
  Wp_next (by simp only [stp, h, sti, hl, zob, vR]; rw [if_pos trivial, if_neg (by simp), if_pos trivial, if_pos h1]; rfl)
theorem Wp_mx {i k' : Nat} {x y : Int} (h : decode (bk k) pc = .ok (.invokestatic i, 3)) (hl : lkk (ok k) i = some (3, k')) (h1 : 1 ≤ fk k ∧ zws st + 13 ≤ ck k) : Wp k pc ls (vI y :: vI x :: st) S I Q ↔ Wp k (pc + 3) ls (vI (max x y) :: st) S I Q :=
  Wp_next (by simp only [stp, h, sti, hl, zmx, vI]; rw [if_pos trivial, if_neg (by simp), if_pos (Or.inl trivial), if_pos h1]; have e : (if x < y then y else x) = max x y := by split <;> omega
              simp only [if_true, e]; rfl)
theorem Wp_mi {i k' : Nat} {x y : Int} (h : decode (bk k) pc = .ok (.invokestatic i, 3)) (hl : lkk (ok k) i = some (4, k')) (h1 : 1 ≤ fk k ∧ zws st + 13 ≤ ck k) : Wp k pc ls (vI y :: vI x :: st) S I Q ↔ Wp k (pc + 3) ls (vI (min x y) :: st) S I Q :=
  Wp_next (by simp only [stp, h, sti, hl, zmx, vI]; rw [if_pos trivial, if_neg (by simp), if_pos (Or.inr trivial), if_pos h1]; have e : (if y < x then y else x) = min x y := by split <;> omega
              rw [if_neg (by omega), e]; rfl)
theorem Wp_ireturn {x : Int} (h : decode (bk k) pc = .ok (.ireturn, 1)) (hr : rk k = some .int) : Wp k pc ls [vI x] S I Q ↔ Q (vI x) S I :=
  Wp_ret (by simp only [stp, h, sti, vI]; rw [if_pos ⟨trivial, Or.inl hr⟩]; rfl)
theorem Wp_zreturn {x : Int} (h : decode (bk k) pc = .ok (.ireturn, 1)) (hr : rk k = some .boolean) : Wp k pc ls [vI x] S I Q ↔ (x = 0 ∨ x = 1) ∧ Q (vI x) S I := by
  by_cases hc : x = 0 ∨ x = 1
  · rw [Wp_ret (r := vI x)]
    · exact ⟨fun h => ⟨hc, h⟩, fun h => h.2⟩
    · simp only [stp, h, sti, vI]; rw [if_pos ⟨trivial, Or.inr ⟨hr, hc⟩⟩]; rfl
  · rw [Wp_stuck]
    · exact ⟨False.elim, fun h => hc h.1⟩
    · simp only [stp, h, sti, vI]; rw [if_neg (fun z => by rcases z.2 with y | y; rw [hr] at y; cases y; exact hc y.2)]
theorem Wp_areturn {a : Nat} {nm : String} (h : decode (bk k) pc = .ok (.areturn, 1)) (hr : rk k = some (.object nm)) : Wp k pc ls [vR a] S I Q ↔ Q (vR a) S I :=
  Wp_ret (by simp only [stp, h, sti, vR, hr]; rw [if_pos trivial]; rfl)
theorem Wp_return (h : decode (bk k) pc = .ok (.return_, 1)) (hr : rk k = none) : Wp k pc ls [] S I Q ↔ Q vU S I :=
  Wp_ret (by simp only [stp, h, sti]; rw [if_pos ⟨trivial, hr⟩]; rfl)
end WR
end
section
/-! ===== the rules of the class's constructors ===== -/
-- 12 ClauseDrafts within(III)Z
theorem w12_0 (l1 l2 : zV) (x : Int) (st : List zV) (S : zS) (I : zM) (Q : zV → zS → zM → Prop) : Wp 12 0 [vI x, l1, l2] st S I Q ↔ Wp 12 1 [vI x, l1, l2] (vI x :: st) S I Q := Wp_iload_n (by decide +kernel : decode (bk 12) 0 = .ok (.iload_n 0, 1)) rfl
theorem w12_1 (l0 l2 : zV) (x : Int) (st : List zV) (S : zS) (I : zM) (Q : zV → zS → zM → Prop) : Wp 12 1 [l0, vI x, l2] st S I Q ↔ Wp 12 2 [l0, vI x, l2] (vI x :: st) S I Q := Wp_iload_n (by decide +kernel : decode (bk 12) 1 = .ok (.iload_n 1, 1)) rfl
theorem w12_2 (l0 l1 l2 : zV) (x y : Int) (st : List zV) (S : zS) (I : zM) (Q : zV → zS → zM → Prop) : Wp 12 2 [l0, l1, l2] (vI y :: vI x :: st) S I Q ↔ if x < y then Wp 12 14 [l0, l1, l2] st S I Q else Wp 12 5 [l0, l1, l2] st S I Q := Wp_lt2 (by decide +kernel : decode (bk 12) 2 = .ok (.if_icmp .lt 12, 3)) rfl
theorem w12_5 (l1 l2 : zV) (x : Int) (st : List zV) (S : zS) (I : zM) (Q : zV → zS → zM → Prop) : Wp 12 5 [vI x, l1, l2] st S I Q ↔ Wp 12 6 [vI x, l1, l2] (vI x :: st) S I Q := Wp_iload_n (by decide +kernel : decode (bk 12) 5 = .ok (.iload_n 0, 1)) rfl
theorem w12_6 (l0 l1 : zV) (x : Int) (st : List zV) (S : zS) (I : zM) (Q : zV → zS → zM → Prop) : Wp 12 6 [l0, l1, vI x] st S I Q ↔ Wp 12 7 [l0, l1, vI x] (vI x :: st) S I Q := Wp_iload_n (by decide +kernel : decode (bk 12) 6 = .ok (.iload_n 2, 1)) rfl
theorem w12_7 (l0 l1 l2 : zV) (x y : Int) (st : List zV) (S : zS) (I : zM) (Q : zV → zS → zM → Prop) : Wp 12 7 [l0, l1, l2] (vI y :: vI x :: st) S I Q ↔ if y < x then Wp 12 14 [l0, l1, l2] st S I Q else Wp 12 10 [l0, l1, l2] st S I Q := Wp_gt2 (by decide +kernel : decode (bk 12) 7 = .ok (.if_icmp .gt 7, 3)) rfl
theorem w12_10 (l0 l1 l2 : zV) (st : List zV) (S : zS) (I : zM) (Q : zV → zS → zM → Prop) : Wp 12 10 [l0, l1, l2] st S I Q ↔ Wp 12 11 [l0, l1, l2] (vI 1 :: st) S I Q := Wp_iconst (by decide +kernel : decode (bk 12) 10 = .ok (.iconst 1, 1)) (by decide)
theorem w12_11 (l0 l1 l2 : zV) (st : List zV) (S : zS) (I : zM) (Q : zV → zS → zM → Prop) : Wp 12 11 [l0, l1, l2] st S I Q ↔ Wp 12 15 [l0, l1, l2] st S I Q := Wp_goto (by decide +kernel : decode (bk 12) 11 = .ok (.goto 4, 3)) rfl
theorem w12_14 (l0 l1 l2 : zV) (st : List zV) (S : zS) (I : zM) (Q : zV → zS → zM → Prop) : Wp 12 14 [l0, l1, l2] st S I Q ↔ Wp 12 15 [l0, l1, l2] (vI 0 :: st) S I Q := Wp_iconst (by decide +kernel : decode (bk 12) 14 = .ok (.iconst 0, 1)) (by decide)
theorem w12_15 (l0 l1 l2 : zV) (x : Int) (S : zS) (I : zM) (Q : zV → zS → zM → Prop) : Wp 12 15 [l0, l1, l2] [vI x] S I Q ↔ (x = 0 ∨ x = 1) ∧ Q (vI x) S I := Wp_zreturn (by decide +kernel : decode (bk 12) 15 = .ok (.ireturn, 1)) (by decide +kernel)
-- 5 ClauseDrafts$Line <init>(I)V
theorem w5_0 (l1 : zV) (x : Nat) (st : List zV) (S : zS) (I : zM) (Q : zV → zS → zM → Prop) : Wp 5 0 [vR x, l1] st S I Q ↔ Wp 5 1 [vR x, l1] (vR x :: st) S I Q := Wp_aload_n (by decide +kernel : decode (bk 5) 0 = .ok (.aload_n 0, 1)) rfl
theorem w5_1 (l0 l1 : zV) (a : Nat)  (S : zS) (I : zM) (Q : zV → zS → zM → Prop) : Wp 5 1 [l0, l1] (vR a :: []) S I Q ↔ Wp 5 4 [l0, l1] [] S I Q := Wp_ob (by decide +kernel : decode (bk 5) 1 = .ok (.invokespecial 1, 3)) (by decide +kernel : lkk (ok 5) 1 = some (2, 0)) ⟨by decide +kernel, Nat.le_of_ble_eq_true rfl⟩
theorem w5_4 (l1 : zV) (x : Nat) (st : List zV) (S : zS) (I : zM) (Q : zV → zS → zM → Prop) : Wp 5 4 [vR x, l1] st S I Q ↔ Wp 5 5 [vR x, l1] (vR x :: st) S I Q := Wp_aload_n (by decide +kernel : decode (bk 5) 4 = .ok (.aload_n 0, 1)) rfl
theorem w5_5 (l0 : zV) (x : Int) (st : List zV) (S : zS) (I : zM) (Q : zV → zS → zM → Prop) : Wp 5 5 [l0, vI x] st S I Q ↔ Wp 5 6 [l0, vI x] (vI x :: st) S I Q := Wp_iload_n (by decide +kernel : decode (bk 5) 5 = .ok (.iload_n 1, 1)) rfl
theorem w5_6 (l0 l1 : zV) (x : Int) (st : List zV) (S : zS) (I : zM) (Q : zV → zS → zM → Prop) : Wp 5 6 [l0, l1] (vI x :: st) S I Q ↔ if 0 < x then Wp 5 9 [l0, l1] st S I Q else Wp 5 20 [l0, l1] st S I Q := Wp_le1 (by decide +kernel : decode (bk 5) 6 = .ok (.ifCond .le 14, 3)) rfl
theorem w5_9 (l0 : zV) (x : Int) (st : List zV) (S : zS) (I : zM) (Q : zV → zS → zM → Prop) : Wp 5 9 [l0, vI x] st S I Q ↔ Wp 5 10 [l0, vI x] (vI x :: st) S I Q := Wp_iload_n (by decide +kernel : decode (bk 5) 9 = .ok (.iload_n 1, 1)) rfl
theorem w5_10 (l0 l1 : zV) (st : List zV) (S : zS) (I : zM) (Q : zV → zS → zM → Prop) : Wp 5 10 [l0, l1] st S I Q ↔ Wp 5 13 [l0, l1] (vI 256 :: st) S I Q := Wp_sipush (by decide +kernel : decode (bk 5) 10 = .ok (.sipush 256, 3)) (by decide)
theorem w5_13 (l0 l1 : zV) (x y : Int) (st : List zV) (S : zS) (I : zM) (Q : zV → zS → zM → Prop) : Wp 5 13 [l0, l1] (vI y :: vI x :: st) S I Q ↔ if y < x then Wp 5 20 [l0, l1] st S I Q else Wp 5 16 [l0, l1] st S I Q := Wp_gt2 (by decide +kernel : decode (bk 5) 13 = .ok (.if_icmp .gt 7, 3)) rfl
theorem w5_16 (l0 : zV) (x : Int) (st : List zV) (S : zS) (I : zM) (Q : zV → zS → zM → Prop) : Wp 5 16 [l0, vI x] st S I Q ↔ Wp 5 17 [l0, vI x] (vI x :: st) S I Q := Wp_iload_n (by decide +kernel : decode (bk 5) 16 = .ok (.iload_n 1, 1)) rfl
theorem w5_17 (l0 l1 : zV) (st : List zV) (S : zS) (I : zM) (Q : zV → zS → zM → Prop) : Wp 5 17 [l0, l1] st S I Q ↔ Wp 5 21 [l0, l1] st S I Q := Wp_goto (by decide +kernel : decode (bk 5) 17 = .ok (.goto 4, 3)) rfl
theorem w5_20 (l0 l1 : zV) (st : List zV) (S : zS) (I : zM) (Q : zV → zS → zM → Prop) : Wp 5 20 [l0, l1] st S I Q ↔ Wp 5 21 [l0, l1] (vI 0 :: st) S I Q := Wp_iconst (by decide +kernel : decode (bk 5) 20 = .ok (.iconst 0, 1)) (by decide)
theorem w5_21 (l0 l1 : zV) (n : Int) (st : List zV) (S : zS) (I : zM) (Q : zV → zS → zM → Prop) : Wp 5 21 [l0, l1] (vI n :: st) S I Q ↔ (0 ≤ n ∧ n ≤ 1000000) ∧ Wp 5 23 [l0, l1] (vR S.1.length :: st) (sp S (0, [n.toNat])) (cz I S.1.length) Q := Wp_newi (by decide +kernel : decode (bk 5) 21 = .ok (.newarray .int, 2))
theorem w5_23 (l0 l1 : zV) (b a : Nat) (st : List zV) (S : zS) (I : zM) (Q : zV → zS → zM → Prop) : Wp 5 23 [l0, l1] (vR b :: vR a :: st) S I Q ↔ kd S a = 7 ∧ Wp 5 26 [l0, l1] st (ss S a 0 (b + 1)) I Q := Wp_putR (by decide +kernel : decode (bk 5) 23 = .ok (.putfield 9, 3)) (by decide +kernel : fd (ok 5) 9 = some (5, 0)) (by decide +kernel)
theorem w5_26 (l0 l1 : zV)  (S : zS) (I : zM) (Q : zV → zS → zM → Prop) : Wp 5 26 [l0, l1] [] S I Q ↔ Q vU S I := Wp_return (by decide +kernel : decode (bk 5) 26 = .ok (.return_, 1)) (by decide +kernel)
-- 8 ClauseDrafts$Table <init>(II)V
theorem w8_0 (l1 l2 l3 : zV) (x : Nat) (st : List zV) (S : zS) (I : zM) (Q : zV → zS → zM → Prop) : Wp 8 0 [vR x, l1, l2, l3] st S I Q ↔ Wp 8 1 [vR x, l1, l2, l3] (vR x :: st) S I Q := Wp_aload_n (by decide +kernel : decode (bk 8) 0 = .ok (.aload_n 0, 1)) rfl
theorem w8_1 (l0 l1 l2 l3 : zV) (a : Nat)  (S : zS) (I : zM) (Q : zV → zS → zM → Prop) : Wp 8 1 [l0, l1, l2, l3] (vR a :: []) S I Q ↔ Wp 8 4 [l0, l1, l2, l3] [] S I Q := Wp_ob (by decide +kernel : decode (bk 8) 1 = .ok (.invokespecial 1, 3)) (by decide +kernel : lkk (ok 8) 1 = some (2, 0)) ⟨by decide +kernel, Nat.le_of_ble_eq_true rfl⟩
theorem w8_4 (l0 l2 l3 : zV) (x : Int) (st : List zV) (S : zS) (I : zM) (Q : zV → zS → zM → Prop) : Wp 8 4 [l0, vI x, l2, l3] st S I Q ↔ Wp 8 5 [l0, vI x, l2, l3] (vI x :: st) S I Q := Wp_iload_n (by decide +kernel : decode (bk 8) 4 = .ok (.iload_n 1, 1)) rfl
theorem w8_5 (l0 l1 l2 l3 : zV) (st : List zV) (S : zS) (I : zM) (Q : zV → zS → zM → Prop) : Wp 8 5 [l0, l1, l2, l3] st S I Q ↔ Wp 8 6 [l0, l1, l2, l3] (vI 1 :: st) S I Q := Wp_iconst (by decide +kernel : decode (bk 8) 5 = .ok (.iconst 1, 1)) (by decide)
theorem w8_6 (l0 l1 l2 l3 : zV) (st : List zV) (S : zS) (I : zM) (Q : zV → zS → zM → Prop) : Wp 8 6 [l0, l1, l2, l3] st S I Q ↔ Wp 8 9 [l0, l1, l2, l3] (vI 256 :: st) S I Q := Wp_sipush (by decide +kernel : decode (bk 8) 6 = .ok (.sipush 256, 3)) (by decide)
theorem w8_9 (l0 l1 l2 l3 : zV) (x0 : Int) (x1 : Int) (x2 : Int) (S : zS) (I : zM) (Q : zV → zS → zM → Prop) : Wp 8 9 [l0, l1, l2, l3] (vI x2 :: vI x1 :: vI x0 :: []) S I Q ↔ Wp 12 0 [vI x0, vI x1, vI x2] [] S I (fun r S1 I1 => Wp 8 12 [l0, l1, l2, l3] (zpu r []) S1 I1 Q) := Wp_cs (by decide +kernel : decode (bk 8) 9 = .ok (.invokestatic 9, 3)) (by decide +kernel : lkk (ok 8) 9 = some (1, 12)) (by decide +kernel) (n := 3) (by decide +kernel) rfl rfl (by decide +kernel) (Nat.le_of_ble_eq_true rfl) ⟨(Nat.le_of_ble_eq_true rfl), Or.inr rfl⟩ rfl
theorem w8_12 (l0 l1 l2 l3 : zV) (x : Int) (st : List zV) (S : zS) (I : zM) (Q : zV → zS → zM → Prop) : Wp 8 12 [l0, l1, l2, l3] (vI x :: st) S I Q ↔ if x = 0 then Wp 8 30 [l0, l1, l2, l3] st S I Q else Wp 8 15 [l0, l1, l2, l3] st S I Q := Wp_eq1 (by decide +kernel : decode (bk 8) 12 = .ok (.ifCond .eq 18, 3)) rfl
theorem w8_15 (l0 l1 l3 : zV) (x : Int) (st : List zV) (S : zS) (I : zM) (Q : zV → zS → zM → Prop) : Wp 8 15 [l0, l1, vI x, l3] st S I Q ↔ Wp 8 16 [l0, l1, vI x, l3] (vI x :: st) S I Q := Wp_iload_n (by decide +kernel : decode (bk 8) 15 = .ok (.iload_n 2, 1)) rfl
theorem w8_16 (l0 l1 l2 l3 : zV) (st : List zV) (S : zS) (I : zM) (Q : zV → zS → zM → Prop) : Wp 8 16 [l0, l1, l2, l3] st S I Q ↔ Wp 8 17 [l0, l1, l2, l3] (vI 1 :: st) S I Q := Wp_iconst (by decide +kernel : decode (bk 8) 16 = .ok (.iconst 1, 1)) (by decide)
theorem w8_17 (l0 l1 l2 l3 : zV) (st : List zV) (S : zS) (I : zM) (Q : zV → zS → zM → Prop) : Wp 8 17 [l0, l1, l2, l3] st S I Q ↔ Wp 8 20 [l0, l1, l2, l3] (vI 256 :: st) S I Q := Wp_sipush (by decide +kernel : decode (bk 8) 17 = .ok (.sipush 256, 3)) (by decide)
theorem w8_20 (l0 l1 l2 l3 : zV) (x0 : Int) (x1 : Int) (x2 : Int) (S : zS) (I : zM) (Q : zV → zS → zM → Prop) : Wp 8 20 [l0, l1, l2, l3] (vI x2 :: vI x1 :: vI x0 :: []) S I Q ↔ Wp 12 0 [vI x0, vI x1, vI x2] [] S I (fun r S1 I1 => Wp 8 23 [l0, l1, l2, l3] (zpu r []) S1 I1 Q) := Wp_cs (by decide +kernel : decode (bk 8) 20 = .ok (.invokestatic 9, 3)) (by decide +kernel : lkk (ok 8) 9 = some (1, 12)) (by decide +kernel) (n := 3) (by decide +kernel) rfl rfl (by decide +kernel) (Nat.le_of_ble_eq_true rfl) ⟨(Nat.le_of_ble_eq_true rfl), Or.inr rfl⟩ rfl
theorem w8_23 (l0 l1 l2 l3 : zV) (x : Int) (st : List zV) (S : zS) (I : zM) (Q : zV → zS → zM → Prop) : Wp 8 23 [l0, l1, l2, l3] (vI x :: st) S I Q ↔ if x = 0 then Wp 8 30 [l0, l1, l2, l3] st S I Q else Wp 8 26 [l0, l1, l2, l3] st S I Q := Wp_eq1 (by decide +kernel : decode (bk 8) 23 = .ok (.ifCond .eq 7, 3)) rfl
theorem w8_26 (l0 l1 l2 l3 : zV) (st : List zV) (S : zS) (I : zM) (Q : zV → zS → zM → Prop) : Wp 8 26 [l0, l1, l2, l3] st S I Q ↔ Wp 8 27 [l0, l1, l2, l3] (vI 1 :: st) S I Q := Wp_iconst (by decide +kernel : decode (bk 8) 26 = .ok (.iconst 1, 1)) (by decide)
theorem w8_27 (l0 l1 l2 l3 : zV) (st : List zV) (S : zS) (I : zM) (Q : zV → zS → zM → Prop) : Wp 8 27 [l0, l1, l2, l3] st S I Q ↔ Wp 8 31 [l0, l1, l2, l3] st S I Q := Wp_goto (by decide +kernel : decode (bk 8) 27 = .ok (.goto 4, 3)) rfl
theorem w8_30 (l0 l1 l2 l3 : zV) (st : List zV) (S : zS) (I : zM) (Q : zV → zS → zM → Prop) : Wp 8 30 [l0, l1, l2, l3] st S I Q ↔ Wp 8 31 [l0, l1, l2, l3] (vI 0 :: st) S I Q := Wp_iconst (by decide +kernel : decode (bk 8) 30 = .ok (.iconst 0, 1)) (by decide)
theorem w8_31 (l0 l1 l2 l3 : zV) (x : Int) (st : List zV) (S : zS) (I : zM) (Q : zV → zS → zM → Prop) : Wp 8 31 [l0, l1, l2, l3] (vI x :: st) S I Q ↔ Wp 8 32 [l0, l1, l2, vI x] st S I Q := Wp_istore_n (by decide +kernel : decode (bk 8) 31 = .ok (.istore_n 3, 1)) (Nat.le_of_ble_eq_true rfl) (by decide +kernel) rfl
theorem w8_32 (l1 l2 l3 : zV) (x : Nat) (st : List zV) (S : zS) (I : zM) (Q : zV → zS → zM → Prop) : Wp 8 32 [vR x, l1, l2, l3] st S I Q ↔ Wp 8 33 [vR x, l1, l2, l3] (vR x :: st) S I Q := Wp_aload_n (by decide +kernel : decode (bk 8) 32 = .ok (.aload_n 0, 1)) rfl
theorem w8_33 (l0 l1 l2 : zV) (x : Int) (st : List zV) (S : zS) (I : zM) (Q : zV → zS → zM → Prop) : Wp 8 33 [l0, l1, l2, vI x] st S I Q ↔ Wp 8 34 [l0, l1, l2, vI x] (vI x :: st) S I Q := Wp_iload_n (by decide +kernel : decode (bk 8) 33 = .ok (.iload_n 3, 1)) rfl
theorem w8_34 (l0 l1 l2 l3 : zV) (x : Int) (st : List zV) (S : zS) (I : zM) (Q : zV → zS → zM → Prop) : Wp 8 34 [l0, l1, l2, l3] (vI x :: st) S I Q ↔ if x = 0 then Wp 8 41 [l0, l1, l2, l3] st S I Q else Wp 8 37 [l0, l1, l2, l3] st S I Q := Wp_eq1 (by decide +kernel : decode (bk 8) 34 = .ok (.ifCond .eq 7, 3)) rfl
theorem w8_37 (l0 l2 l3 : zV) (x : Int) (st : List zV) (S : zS) (I : zM) (Q : zV → zS → zM → Prop) : Wp 8 37 [l0, vI x, l2, l3] st S I Q ↔ Wp 8 38 [l0, vI x, l2, l3] (vI x :: st) S I Q := Wp_iload_n (by decide +kernel : decode (bk 8) 37 = .ok (.iload_n 1, 1)) rfl
theorem w8_38 (l0 l1 l2 l3 : zV) (st : List zV) (S : zS) (I : zM) (Q : zV → zS → zM → Prop) : Wp 8 38 [l0, l1, l2, l3] st S I Q ↔ Wp 8 42 [l0, l1, l2, l3] st S I Q := Wp_goto (by decide +kernel : decode (bk 8) 38 = .ok (.goto 4, 3)) rfl
theorem w8_41 (l0 l1 l2 l3 : zV) (st : List zV) (S : zS) (I : zM) (Q : zV → zS → zM → Prop) : Wp 8 41 [l0, l1, l2, l3] st S I Q ↔ Wp 8 42 [l0, l1, l2, l3] (vI 0 :: st) S I Q := Wp_iconst (by decide +kernel : decode (bk 8) 41 = .ok (.iconst 0, 1)) (by decide)
theorem w8_42 (l0 l1 l2 l3 : zV) (x : Int) (a : Nat) (st : List zV) (S : zS) (I : zM) (Q : zV → zS → zM → Prop) : Wp 8 42 [l0, l1, l2, l3] (vI x :: vR a :: st) S I Q ↔ (kd S a = 10 ∧ 0 ≤ x) ∧ Wp 8 45 [l0, l1, l2, l3] st (ss S a 0 x.toNat) I Q := Wp_putF (by decide +kernel : decode (bk 8) 42 = .ok (.putfield 15, 3)) (by decide +kernel : fd (ok 8) 15 = some (8, 0)) (by decide +kernel) (by decide +kernel)
theorem w8_45 (l1 l2 l3 : zV) (x : Nat) (st : List zV) (S : zS) (I : zM) (Q : zV → zS → zM → Prop) : Wp 8 45 [vR x, l1, l2, l3] st S I Q ↔ Wp 8 46 [vR x, l1, l2, l3] (vR x :: st) S I Q := Wp_aload_n (by decide +kernel : decode (bk 8) 45 = .ok (.aload_n 0, 1)) rfl
theorem w8_46 (l0 l1 l2 : zV) (x : Int) (st : List zV) (S : zS) (I : zM) (Q : zV → zS → zM → Prop) : Wp 8 46 [l0, l1, l2, vI x] st S I Q ↔ Wp 8 47 [l0, l1, l2, vI x] (vI x :: st) S I Q := Wp_iload_n (by decide +kernel : decode (bk 8) 46 = .ok (.iload_n 3, 1)) rfl
theorem w8_47 (l0 l1 l2 l3 : zV) (x : Int) (st : List zV) (S : zS) (I : zM) (Q : zV → zS → zM → Prop) : Wp 8 47 [l0, l1, l2, l3] (vI x :: st) S I Q ↔ if x = 0 then Wp 8 54 [l0, l1, l2, l3] st S I Q else Wp 8 50 [l0, l1, l2, l3] st S I Q := Wp_eq1 (by decide +kernel : decode (bk 8) 47 = .ok (.ifCond .eq 7, 3)) rfl
theorem w8_50 (l0 l1 l3 : zV) (x : Int) (st : List zV) (S : zS) (I : zM) (Q : zV → zS → zM → Prop) : Wp 8 50 [l0, l1, vI x, l3] st S I Q ↔ Wp 8 51 [l0, l1, vI x, l3] (vI x :: st) S I Q := Wp_iload_n (by decide +kernel : decode (bk 8) 50 = .ok (.iload_n 2, 1)) rfl
theorem w8_51 (l0 l1 l2 l3 : zV) (st : List zV) (S : zS) (I : zM) (Q : zV → zS → zM → Prop) : Wp 8 51 [l0, l1, l2, l3] st S I Q ↔ Wp 8 55 [l0, l1, l2, l3] st S I Q := Wp_goto (by decide +kernel : decode (bk 8) 51 = .ok (.goto 4, 3)) rfl
theorem w8_54 (l0 l1 l2 l3 : zV) (st : List zV) (S : zS) (I : zM) (Q : zV → zS → zM → Prop) : Wp 8 54 [l0, l1, l2, l3] st S I Q ↔ Wp 8 55 [l0, l1, l2, l3] (vI 0 :: st) S I Q := Wp_iconst (by decide +kernel : decode (bk 8) 54 = .ok (.iconst 0, 1)) (by decide)
theorem w8_55 (l0 l1 l2 l3 : zV) (x : Int) (a : Nat) (st : List zV) (S : zS) (I : zM) (Q : zV → zS → zM → Prop) : Wp 8 55 [l0, l1, l2, l3] (vI x :: vR a :: st) S I Q ↔ (kd S a = 10 ∧ 0 ≤ x) ∧ Wp 8 58 [l0, l1, l2, l3] st (ss S a 1 x.toNat) I Q := Wp_putF (by decide +kernel : decode (bk 8) 55 = .ok (.putfield 19, 3)) (by decide +kernel : fd (ok 8) 19 = some (8, 1)) (by decide +kernel) (by decide +kernel)
theorem w8_58 (l1 l2 l3 : zV) (x : Nat) (st : List zV) (S : zS) (I : zM) (Q : zV → zS → zM → Prop) : Wp 8 58 [vR x, l1, l2, l3] st S I Q ↔ Wp 8 59 [vR x, l1, l2, l3] (vR x :: st) S I Q := Wp_aload_n (by decide +kernel : decode (bk 8) 58 = .ok (.aload_n 0, 1)) rfl
theorem w8_59 (l0 l1 l2 : zV) (x : Int) (st : List zV) (S : zS) (I : zM) (Q : zV → zS → zM → Prop) : Wp 8 59 [l0, l1, l2, vI x] st S I Q ↔ Wp 8 60 [l0, l1, l2, vI x] (vI x :: st) S I Q := Wp_iload_n (by decide +kernel : decode (bk 8) 59 = .ok (.iload_n 3, 1)) rfl
theorem w8_60 (l0 l1 l2 l3 : zV) (x : Int) (st : List zV) (S : zS) (I : zM) (Q : zV → zS → zM → Prop) : Wp 8 60 [l0, l1, l2, l3] (vI x :: st) S I Q ↔ if x = 0 then Wp 8 69 [l0, l1, l2, l3] st S I Q else Wp 8 63 [l0, l1, l2, l3] st S I Q := Wp_eq1 (by decide +kernel : decode (bk 8) 60 = .ok (.ifCond .eq 9, 3)) rfl
theorem w8_63 (l0 l2 l3 : zV) (x : Int) (st : List zV) (S : zS) (I : zM) (Q : zV → zS → zM → Prop) : Wp 8 63 [l0, vI x, l2, l3] st S I Q ↔ Wp 8 64 [l0, vI x, l2, l3] (vI x :: st) S I Q := Wp_iload_n (by decide +kernel : decode (bk 8) 63 = .ok (.iload_n 1, 1)) rfl
theorem w8_64 (l0 l1 l3 : zV) (x : Int) (st : List zV) (S : zS) (I : zM) (Q : zV → zS → zM → Prop) : Wp 8 64 [l0, l1, vI x, l3] st S I Q ↔ Wp 8 65 [l0, l1, vI x, l3] (vI x :: st) S I Q := Wp_iload_n (by decide +kernel : decode (bk 8) 64 = .ok (.iload_n 2, 1)) rfl
theorem w8_65 (l0 l1 l2 l3 : zV) (x y : Int) (st : List zV) (S : zS) (I : zM) (Q : zV → zS → zM → Prop) : Wp 8 65 [l0, l1, l2, l3] (vI y :: vI x :: st) S I Q ↔ (-2147483648 ≤ x * y ∧ x * y ≤ 2147483647) ∧ Wp 8 66 [l0, l1, l2, l3] (vI (x * y) :: st) S I Q := Wp_imul (by decide +kernel : decode (bk 8) 65 = .ok (.imul, 1))
theorem w8_66 (l0 l1 l2 l3 : zV) (st : List zV) (S : zS) (I : zM) (Q : zV → zS → zM → Prop) : Wp 8 66 [l0, l1, l2, l3] st S I Q ↔ Wp 8 70 [l0, l1, l2, l3] st S I Q := Wp_goto (by decide +kernel : decode (bk 8) 66 = .ok (.goto 4, 3)) rfl
theorem w8_69 (l0 l1 l2 l3 : zV) (st : List zV) (S : zS) (I : zM) (Q : zV → zS → zM → Prop) : Wp 8 69 [l0, l1, l2, l3] st S I Q ↔ Wp 8 70 [l0, l1, l2, l3] (vI 0 :: st) S I Q := Wp_iconst (by decide +kernel : decode (bk 8) 69 = .ok (.iconst 0, 1)) (by decide)
theorem w8_70 (l0 l1 l2 l3 : zV) (n : Int) (st : List zV) (S : zS) (I : zM) (Q : zV → zS → zM → Prop) : Wp 8 70 [l0, l1, l2, l3] (vI n :: st) S I Q ↔ (0 ≤ n ∧ n ≤ 1000000) ∧ Wp 8 72 [l0, l1, l2, l3] (vR S.1.length :: st) (sp S (0, [n.toNat])) (cz I S.1.length) Q := Wp_newi (by decide +kernel : decode (bk 8) 70 = .ok (.newarray .int, 2))
theorem w8_72 (l0 l1 l2 l3 : zV) (b a : Nat) (st : List zV) (S : zS) (I : zM) (Q : zV → zS → zM → Prop) : Wp 8 72 [l0, l1, l2, l3] (vR b :: vR a :: st) S I Q ↔ kd S a = 10 ∧ Wp 8 75 [l0, l1, l2, l3] st (ss S a 2 (b + 1)) I Q := Wp_putR (by decide +kernel : decode (bk 8) 72 = .ok (.putfield 22, 3)) (by decide +kernel : fd (ok 8) 22 = some (8, 2)) (by decide +kernel)
theorem w8_75 (l0 l1 l2 l3 : zV)  (S : zS) (I : zM) (Q : zV → zS → zM → Prop) : Wp 8 75 [l0, l1, l2, l3] [] S I Q ↔ Q vU S I := Wp_return (by decide +kernel : decode (bk 8) 75 = .ok (.return_, 1)) (by decide +kernel)
-- 2 ClauseDrafts$Draft <init>()V
theorem w2_0 (x : Nat) (st : List zV) (S : zS) (I : zM) (Q : zV → zS → zM → Prop) : Wp 2 0 [vR x] st S I Q ↔ Wp 2 1 [vR x] (vR x :: st) S I Q := Wp_aload_n (by decide +kernel : decode (bk 2) 0 = .ok (.aload_n 0, 1)) rfl
theorem w2_1 (l0 : zV) (a : Nat)  (S : zS) (I : zM) (Q : zV → zS → zM → Prop) : Wp 2 1 [l0] (vR a :: []) S I Q ↔ Wp 2 4 [l0] [] S I Q := Wp_ob (by decide +kernel : decode (bk 2) 1 = .ok (.invokespecial 3, 3)) (by decide +kernel : lkk (ok 2) 3 = some (2, 0)) ⟨by decide +kernel, Nat.le_of_ble_eq_true rfl⟩
theorem w2_4 (x : Nat) (st : List zV) (S : zS) (I : zM) (Q : zV → zS → zM → Prop) : Wp 2 4 [vR x] st S I Q ↔ Wp 2 5 [vR x] (vR x :: st) S I Q := Wp_aload_n (by decide +kernel : decode (bk 2) 4 = .ok (.aload_n 0, 1)) rfl
theorem w2_5 (l0 : zV) (st : List zV) (S : zS) (I : zM) (Q : zV → zS → zM → Prop) : Wp 2 5 [l0] st S I Q ↔ Wp 2 8 [l0] (vR S.1.length :: st) (sp S (7, List.replicate 1 0)) (cz I S.1.length) Q := Wp_new (by decide +kernel : decode (bk 2) 5 = .ok (.new 9, 3)) (by decide +kernel : nw (ok 2) 9 = some 5) (by decide +kernel)
theorem w2_8 (l0 : zV) (x : Nat) (st : List zV) (S : zS) (I : zM) (Q : zV → zS → zM → Prop) : Wp 2 8 [l0] (vR x :: st) S I Q ↔ Wp 2 9 [l0] (vR x :: vR x :: st) S I Q := Wp_dup (by decide +kernel : decode (bk 2) 8 = .ok (.dup, 1)) rfl
theorem w2_9 (l0 : zV) (st : List zV) (S : zS) (I : zM) (Q : zV → zS → zM → Prop) : Wp 2 9 [l0] st S I Q ↔ Wp 2 11 [l0] (vI 8 :: st) S I Q := Wp_bipush (by decide +kernel : decode (bk 2) 9 = .ok (.bipush 8, 2)) (by decide)
theorem w2_11 (l0 : zV) (x0 : Int) (a : Nat) (r0 : Nat) (r1 : Nat) (S : zS) (I : zM) (Q : zV → zS → zM → Prop) : Wp 2 11 [l0] (vI x0 :: vR a :: [vR r0, vR r1]) S I Q ↔ kd S a = 7 ∧ Wp 5 0 [vR a, vI x0] [] S I (fun r S1 I1 => Wp 2 14 [l0] (zpu r [vR r0, vR r1]) S1 I1 Q) := Wp_ci (by decide +kernel : decode (bk 2) 11 = .ok (.invokespecial 11, 3)) (by decide +kernel : lkk (ok 2) 11 = some (0, 5)) (by decide +kernel) (n := 1) (by decide +kernel) (c := 7) (by decide +kernel) rfl rfl (by decide +kernel) (Nat.le_of_ble_eq_true rfl) ⟨(Nat.le_of_ble_eq_true rfl), Or.inr rfl⟩ rfl
theorem w2_14 (l0 : zV) (b a : Nat) (st : List zV) (S : zS) (I : zM) (Q : zV → zS → zM → Prop) : Wp 2 14 [l0] (vR b :: vR a :: st) S I Q ↔ kd S a = 4 ∧ Wp 2 17 [l0] st (ss S a 0 (b + 1)) I Q := Wp_putR (by decide +kernel : decode (bk 2) 14 = .ok (.putfield 14, 3)) (by decide +kernel : fd (ok 2) 14 = some (2, 0)) (by decide +kernel)
theorem w2_17 (x : Nat) (st : List zV) (S : zS) (I : zM) (Q : zV → zS → zM → Prop) : Wp 2 17 [vR x] st S I Q ↔ Wp 2 18 [vR x] (vR x :: st) S I Q := Wp_aload_n (by decide +kernel : decode (bk 2) 17 = .ok (.aload_n 0, 1)) rfl
theorem w2_18 (l0 : zV) (st : List zV) (S : zS) (I : zM) (Q : zV → zS → zM → Prop) : Wp 2 18 [l0] st S I Q ↔ Wp 2 21 [l0] (vR S.1.length :: st) (sp S (7, List.replicate 1 0)) (cz I S.1.length) Q := Wp_new (by decide +kernel : decode (bk 2) 18 = .ok (.new 9, 3)) (by decide +kernel : nw (ok 2) 9 = some 5) (by decide +kernel)
theorem w2_21 (l0 : zV) (x : Nat) (st : List zV) (S : zS) (I : zM) (Q : zV → zS → zM → Prop) : Wp 2 21 [l0] (vR x :: st) S I Q ↔ Wp 2 22 [l0] (vR x :: vR x :: st) S I Q := Wp_dup (by decide +kernel : decode (bk 2) 21 = .ok (.dup, 1)) rfl
theorem w2_22 (l0 : zV) (st : List zV) (S : zS) (I : zM) (Q : zV → zS → zM → Prop) : Wp 2 22 [l0] st S I Q ↔ Wp 2 24 [l0] (vI 8 :: st) S I Q := Wp_bipush (by decide +kernel : decode (bk 2) 22 = .ok (.bipush 8, 2)) (by decide)
theorem w2_24 (l0 : zV) (x0 : Int) (a : Nat) (r0 : Nat) (r1 : Nat) (S : zS) (I : zM) (Q : zV → zS → zM → Prop) : Wp 2 24 [l0] (vI x0 :: vR a :: [vR r0, vR r1]) S I Q ↔ kd S a = 7 ∧ Wp 5 0 [vR a, vI x0] [] S I (fun r S1 I1 => Wp 2 27 [l0] (zpu r [vR r0, vR r1]) S1 I1 Q) := Wp_ci (by decide +kernel : decode (bk 2) 24 = .ok (.invokespecial 11, 3)) (by decide +kernel : lkk (ok 2) 11 = some (0, 5)) (by decide +kernel) (n := 1) (by decide +kernel) (c := 7) (by decide +kernel) rfl rfl (by decide +kernel) (Nat.le_of_ble_eq_true rfl) ⟨(Nat.le_of_ble_eq_true rfl), Or.inr rfl⟩ rfl
theorem w2_27 (l0 : zV) (b a : Nat) (st : List zV) (S : zS) (I : zM) (Q : zV → zS → zM → Prop) : Wp 2 27 [l0] (vR b :: vR a :: st) S I Q ↔ kd S a = 4 ∧ Wp 2 30 [l0] st (ss S a 1 (b + 1)) I Q := Wp_putR (by decide +kernel : decode (bk 2) 27 = .ok (.putfield 20, 3)) (by decide +kernel : fd (ok 2) 20 = some (2, 1)) (by decide +kernel)
theorem w2_30 (x : Nat) (st : List zV) (S : zS) (I : zM) (Q : zV → zS → zM → Prop) : Wp 2 30 [vR x] st S I Q ↔ Wp 2 31 [vR x] (vR x :: st) S I Q := Wp_aload_n (by decide +kernel : decode (bk 2) 30 = .ok (.aload_n 0, 1)) rfl
theorem w2_31 (l0 : zV) (st : List zV) (S : zS) (I : zM) (Q : zV → zS → zM → Prop) : Wp 2 31 [l0] st S I Q ↔ Wp 2 34 [l0] (vR S.1.length :: st) (sp S (10, List.replicate 3 0)) (cz I S.1.length) Q := Wp_new (by decide +kernel : decode (bk 2) 31 = .ok (.new 23, 3)) (by decide +kernel : nw (ok 2) 23 = some 8) (by decide +kernel)
theorem w2_34 (l0 : zV) (x : Nat) (st : List zV) (S : zS) (I : zM) (Q : zV → zS → zM → Prop) : Wp 2 34 [l0] (vR x :: st) S I Q ↔ Wp 2 35 [l0] (vR x :: vR x :: st) S I Q := Wp_dup (by decide +kernel : decode (bk 2) 34 = .ok (.dup, 1)) rfl
theorem w2_35 (l0 : zV) (st : List zV) (S : zS) (I : zM) (Q : zV → zS → zM → Prop) : Wp 2 35 [l0] st S I Q ↔ Wp 2 37 [l0] (vI 8 :: st) S I Q := Wp_bipush (by decide +kernel : decode (bk 2) 35 = .ok (.bipush 8, 2)) (by decide)
theorem w2_37 (l0 : zV) (st : List zV) (S : zS) (I : zM) (Q : zV → zS → zM → Prop) : Wp 2 37 [l0] st S I Q ↔ Wp 2 39 [l0] (vI 6 :: st) S I Q := Wp_bipush (by decide +kernel : decode (bk 2) 37 = .ok (.bipush 6, 2)) (by decide)
theorem w2_39 (l0 : zV) (x0 : Int) (x1 : Int) (a : Nat) (r0 : Nat) (r1 : Nat) (S : zS) (I : zM) (Q : zV → zS → zM → Prop) : Wp 2 39 [l0] (vI x1 :: vI x0 :: vR a :: [vR r0, vR r1]) S I Q ↔ kd S a = 10 ∧ Wp 8 0 [vR a, vI x0, vI x1, vU] [] S I (fun r S1 I1 => Wp 2 42 [l0] (zpu r [vR r0, vR r1]) S1 I1 Q) := Wp_ci (by decide +kernel : decode (bk 2) 39 = .ok (.invokespecial 25, 3)) (by decide +kernel : lkk (ok 2) 25 = some (0, 8)) (by decide +kernel) (n := 2) (by decide +kernel) (c := 10) (by decide +kernel) rfl rfl (by decide +kernel) (Nat.le_of_ble_eq_true rfl) ⟨(Nat.le_of_ble_eq_true rfl), Or.inr rfl⟩ rfl
theorem w2_42 (l0 : zV) (b a : Nat) (st : List zV) (S : zS) (I : zM) (Q : zV → zS → zM → Prop) : Wp 2 42 [l0] (vR b :: vR a :: st) S I Q ↔ kd S a = 4 ∧ Wp 2 45 [l0] st (ss S a 2 (b + 1)) I Q := Wp_putR (by decide +kernel : decode (bk 2) 42 = .ok (.putfield 28, 3)) (by decide +kernel : fd (ok 2) 28 = some (2, 2)) (by decide +kernel)
theorem w2_45 (l0 : zV)  (S : zS) (I : zM) (Q : zV → zS → zM → Prop) : Wp 2 45 [l0] [] S I Q ↔ Q vU S I := Wp_return (by decide +kernel : decode (bk 2) 45 = .ok (.return_, 1)) (by decide +kernel)
-- 3 ClauseDrafts$Drafts <init>()V
theorem w3_0 (x : Nat) (st : List zV) (S : zS) (I : zM) (Q : zV → zS → zM → Prop) : Wp 3 0 [vR x] st S I Q ↔ Wp 3 1 [vR x] (vR x :: st) S I Q := Wp_aload_n (by decide +kernel : decode (bk 3) 0 = .ok (.aload_n 0, 1)) rfl
theorem w3_1 (l0 : zV) (a : Nat)  (S : zS) (I : zM) (Q : zV → zS → zM → Prop) : Wp 3 1 [l0] (vR a :: []) S I Q ↔ Wp 3 4 [l0] [] S I Q := Wp_ob (by decide +kernel : decode (bk 3) 1 = .ok (.invokespecial 3, 3)) (by decide +kernel : lkk (ok 3) 3 = some (2, 0)) ⟨by decide +kernel, Nat.le_of_ble_eq_true rfl⟩
theorem w3_4 (x : Nat) (st : List zV) (S : zS) (I : zM) (Q : zV → zS → zM → Prop) : Wp 3 4 [vR x] st S I Q ↔ Wp 3 5 [vR x] (vR x :: st) S I Q := Wp_aload_n (by decide +kernel : decode (bk 3) 4 = .ok (.aload_n 0, 1)) rfl
theorem w3_5 (l0 : zV) (st : List zV) (S : zS) (I : zM) (Q : zV → zS → zM → Prop) : Wp 3 5 [l0] st S I Q ↔ Wp 3 8 [l0] (vR S.1.length :: st) (sp S (4, List.replicate 4 0)) (cz I S.1.length) Q := Wp_new (by decide +kernel : decode (bk 3) 5 = .ok (.new 9, 3)) (by decide +kernel : nw (ok 3) 9 = some 2) (by decide +kernel)
theorem w3_8 (l0 : zV) (x : Nat) (st : List zV) (S : zS) (I : zM) (Q : zV → zS → zM → Prop) : Wp 3 8 [l0] (vR x :: st) S I Q ↔ Wp 3 9 [l0] (vR x :: vR x :: st) S I Q := Wp_dup (by decide +kernel : decode (bk 3) 8 = .ok (.dup, 1)) rfl
theorem w3_9 (l0 : zV) (a : Nat) (r0 : Nat) (r1 : Nat) (S : zS) (I : zM) (Q : zV → zS → zM → Prop) : Wp 3 9 [l0] (vR a :: [vR r0, vR r1]) S I Q ↔ kd S a = 4 ∧ Wp 2 0 [vR a] [] S I (fun r S1 I1 => Wp 3 12 [l0] (zpu r [vR r0, vR r1]) S1 I1 Q) := Wp_ci (by decide +kernel : decode (bk 3) 9 = .ok (.invokespecial 11, 3)) (by decide +kernel : lkk (ok 3) 11 = some (1, 2)) (by decide +kernel) (n := 0) (by decide +kernel) (c := 4) (by decide +kernel) rfl rfl (by decide +kernel) (Nat.le_of_ble_eq_true rfl) ⟨(Nat.le_of_ble_eq_true rfl), Or.inr rfl⟩ rfl
theorem w3_12 (l0 : zV) (b a : Nat) (st : List zV) (S : zS) (I : zM) (Q : zV → zS → zM → Prop) : Wp 3 12 [l0] (vR b :: vR a :: st) S I Q ↔ kd S a = 5 ∧ Wp 3 15 [l0] st (ss S a 0 (b + 1)) I Q := Wp_putR (by decide +kernel : decode (bk 3) 12 = .ok (.putfield 12, 3)) (by decide +kernel : fd (ok 3) 12 = some (3, 0)) (by decide +kernel)
theorem w3_15 (x : Nat) (st : List zV) (S : zS) (I : zM) (Q : zV → zS → zM → Prop) : Wp 3 15 [vR x] st S I Q ↔ Wp 3 16 [vR x] (vR x :: st) S I Q := Wp_aload_n (by decide +kernel : decode (bk 3) 15 = .ok (.aload_n 0, 1)) rfl
theorem w3_16 (l0 : zV) (st : List zV) (S : zS) (I : zM) (Q : zV → zS → zM → Prop) : Wp 3 16 [l0] st S I Q ↔ Wp 3 19 [l0] (vR S.1.length :: st) (sp S (4, List.replicate 4 0)) (cz I S.1.length) Q := Wp_new (by decide +kernel : decode (bk 3) 16 = .ok (.new 9, 3)) (by decide +kernel : nw (ok 3) 9 = some 2) (by decide +kernel)
theorem w3_19 (l0 : zV) (x : Nat) (st : List zV) (S : zS) (I : zM) (Q : zV → zS → zM → Prop) : Wp 3 19 [l0] (vR x :: st) S I Q ↔ Wp 3 20 [l0] (vR x :: vR x :: st) S I Q := Wp_dup (by decide +kernel : decode (bk 3) 19 = .ok (.dup, 1)) rfl
theorem w3_20 (l0 : zV) (a : Nat) (r0 : Nat) (r1 : Nat) (S : zS) (I : zM) (Q : zV → zS → zM → Prop) : Wp 3 20 [l0] (vR a :: [vR r0, vR r1]) S I Q ↔ kd S a = 4 ∧ Wp 2 0 [vR a] [] S I (fun r S1 I1 => Wp 3 23 [l0] (zpu r [vR r0, vR r1]) S1 I1 Q) := Wp_ci (by decide +kernel : decode (bk 3) 20 = .ok (.invokespecial 11, 3)) (by decide +kernel : lkk (ok 3) 11 = some (1, 2)) (by decide +kernel) (n := 0) (by decide +kernel) (c := 4) (by decide +kernel) rfl rfl (by decide +kernel) (Nat.le_of_ble_eq_true rfl) ⟨(Nat.le_of_ble_eq_true rfl), Or.inr rfl⟩ rfl
theorem w3_23 (l0 : zV) (b a : Nat) (st : List zV) (S : zS) (I : zM) (Q : zV → zS → zM → Prop) : Wp 3 23 [l0] (vR b :: vR a :: st) S I Q ↔ kd S a = 5 ∧ Wp 3 26 [l0] st (ss S a 1 (b + 1)) I Q := Wp_putR (by decide +kernel : decode (bk 3) 23 = .ok (.putfield 18, 3)) (by decide +kernel : fd (ok 3) 18 = some (3, 1)) (by decide +kernel)
theorem w3_26 (x : Nat) (st : List zV) (S : zS) (I : zM) (Q : zV → zS → zM → Prop) : Wp 3 26 [vR x] st S I Q ↔ Wp 3 27 [vR x] (vR x :: st) S I Q := Wp_aload_n (by decide +kernel : decode (bk 3) 26 = .ok (.aload_n 0, 1)) rfl
theorem w3_27 (l0 : zV) (st : List zV) (S : zS) (I : zM) (Q : zV → zS → zM → Prop) : Wp 3 27 [l0] st S I Q ↔ Wp 3 28 [l0] (vI 2 :: st) S I Q := Wp_iconst (by decide +kernel : decode (bk 3) 27 = .ok (.iconst 2, 1)) (by decide)
theorem w3_28 (l0 : zV) (x : Int) (a : Nat) (st : List zV) (S : zS) (I : zM) (Q : zV → zS → zM → Prop) : Wp 3 28 [l0] (vI x :: vR a :: st) S I Q ↔ kd S a = 5 ∧ Wp 3 31 [l0] st S (up I a 2 x) Q := Wp_putI (by decide +kernel : decode (bk 3) 28 = .ok (.putfield 21, 3)) (by decide +kernel : fd (ok 3) 21 = some (3, 2)) (by decide +kernel)
theorem w3_31 (l0 : zV)  (S : zS) (I : zM) (Q : zV → zS → zM → Prop) : Wp 3 31 [l0] [] S I Q ↔ Q vU S I := Wp_return (by decide +kernel : decode (bk 3) 31 = .ok (.return_, 1)) (by decide +kernel)
-- 9 ClauseDrafts$Tape <init>()V
theorem w9_0 (x : Nat) (st : List zV) (S : zS) (I : zM) (Q : zV → zS → zM → Prop) : Wp 9 0 [vR x] st S I Q ↔ Wp 9 1 [vR x] (vR x :: st) S I Q := Wp_aload_n (by decide +kernel : decode (bk 9) 0 = .ok (.aload_n 0, 1)) rfl
theorem w9_1 (l0 : zV) (a : Nat)  (S : zS) (I : zM) (Q : zV → zS → zM → Prop) : Wp 9 1 [l0] (vR a :: []) S I Q ↔ Wp 9 4 [l0] [] S I Q := Wp_ob (by decide +kernel : decode (bk 9) 1 = .ok (.invokespecial 3, 3)) (by decide +kernel : lkk (ok 9) 3 = some (2, 0)) ⟨by decide +kernel, Nat.le_of_ble_eq_true rfl⟩
theorem w9_4 (x : Nat) (st : List zV) (S : zS) (I : zM) (Q : zV → zS → zM → Prop) : Wp 9 4 [vR x] st S I Q ↔ Wp 9 5 [vR x] (vR x :: st) S I Q := Wp_aload_n (by decide +kernel : decode (bk 9) 4 = .ok (.aload_n 0, 1)) rfl
theorem w9_5 (l0 : zV) (st : List zV) (S : zS) (I : zM) (Q : zV → zS → zM → Prop) : Wp 9 5 [l0] st S I Q ↔ Wp 9 8 [l0] (vR S.1.length :: st) (sp S (7, List.replicate 1 0)) (cz I S.1.length) Q := Wp_new (by decide +kernel : decode (bk 9) 5 = .ok (.new 9, 3)) (by decide +kernel : nw (ok 9) 9 = some 5) (by decide +kernel)
theorem w9_8 (l0 : zV) (x : Nat) (st : List zV) (S : zS) (I : zM) (Q : zV → zS → zM → Prop) : Wp 9 8 [l0] (vR x :: st) S I Q ↔ Wp 9 9 [l0] (vR x :: vR x :: st) S I Q := Wp_dup (by decide +kernel : decode (bk 9) 8 = .ok (.dup, 1)) rfl
theorem w9_9 (l0 : zV) (st : List zV) (S : zS) (I : zM) (Q : zV → zS → zM → Prop) : Wp 9 9 [l0] st S I Q ↔ Wp 9 12 [l0] (vI 160 :: st) S I Q := Wp_sipush (by decide +kernel : decode (bk 9) 9 = .ok (.sipush 160, 3)) (by decide)
theorem w9_12 (l0 : zV) (x0 : Int) (a : Nat) (r0 : Nat) (r1 : Nat) (S : zS) (I : zM) (Q : zV → zS → zM → Prop) : Wp 9 12 [l0] (vI x0 :: vR a :: [vR r0, vR r1]) S I Q ↔ kd S a = 7 ∧ Wp 5 0 [vR a, vI x0] [] S I (fun r S1 I1 => Wp 9 15 [l0] (zpu r [vR r0, vR r1]) S1 I1 Q) := Wp_ci (by decide +kernel : decode (bk 9) 12 = .ok (.invokespecial 11, 3)) (by decide +kernel : lkk (ok 9) 11 = some (0, 5)) (by decide +kernel) (n := 1) (by decide +kernel) (c := 7) (by decide +kernel) rfl rfl (by decide +kernel) (Nat.le_of_ble_eq_true rfl) ⟨(Nat.le_of_ble_eq_true rfl), Or.inr rfl⟩ rfl
theorem w9_15 (l0 : zV) (b a : Nat) (st : List zV) (S : zS) (I : zM) (Q : zV → zS → zM → Prop) : Wp 9 15 [l0] (vR b :: vR a :: st) S I Q ↔ kd S a = 11 ∧ Wp 9 18 [l0] st (ss S a 0 (b + 1)) I Q := Wp_putR (by decide +kernel : decode (bk 9) 15 = .ok (.putfield 14, 3)) (by decide +kernel : fd (ok 9) 14 = some (9, 0)) (by decide +kernel)
theorem w9_18 (x : Nat) (st : List zV) (S : zS) (I : zM) (Q : zV → zS → zM → Prop) : Wp 9 18 [vR x] st S I Q ↔ Wp 9 19 [vR x] (vR x :: st) S I Q := Wp_aload_n (by decide +kernel : decode (bk 9) 18 = .ok (.aload_n 0, 1)) rfl
theorem w9_19 (l0 : zV) (st : List zV) (S : zS) (I : zM) (Q : zV → zS → zM → Prop) : Wp 9 19 [l0] st S I Q ↔ Wp 9 22 [l0] (vR S.1.length :: st) (sp S (5, List.replicate 3 0)) (cz I S.1.length) Q := Wp_new (by decide +kernel : decode (bk 9) 19 = .ok (.new 20, 3)) (by decide +kernel : nw (ok 9) 20 = some 3) (by decide +kernel)
theorem w9_22 (l0 : zV) (x : Nat) (st : List zV) (S : zS) (I : zM) (Q : zV → zS → zM → Prop) : Wp 9 22 [l0] (vR x :: st) S I Q ↔ Wp 9 23 [l0] (vR x :: vR x :: st) S I Q := Wp_dup (by decide +kernel : decode (bk 9) 22 = .ok (.dup, 1)) rfl
theorem w9_23 (l0 : zV) (a : Nat) (r0 : Nat) (r1 : Nat) (S : zS) (I : zM) (Q : zV → zS → zM → Prop) : Wp 9 23 [l0] (vR a :: [vR r0, vR r1]) S I Q ↔ kd S a = 5 ∧ Wp 3 0 [vR a] [] S I (fun r S1 I1 => Wp 9 26 [l0] (zpu r [vR r0, vR r1]) S1 I1 Q) := Wp_ci (by decide +kernel : decode (bk 9) 23 = .ok (.invokespecial 22, 3)) (by decide +kernel : lkk (ok 9) 22 = some (1, 3)) (by decide +kernel) (n := 0) (by decide +kernel) (c := 5) (by decide +kernel) rfl rfl (by decide +kernel) (Nat.le_of_ble_eq_true rfl) ⟨(Nat.le_of_ble_eq_true rfl), Or.inr rfl⟩ rfl
theorem w9_26 (l0 : zV) (b a : Nat) (st : List zV) (S : zS) (I : zM) (Q : zV → zS → zM → Prop) : Wp 9 26 [l0] (vR b :: vR a :: st) S I Q ↔ kd S a = 11 ∧ Wp 9 29 [l0] st (ss S a 1 (b + 1)) I Q := Wp_putR (by decide +kernel : decode (bk 9) 26 = .ok (.putfield 23, 3)) (by decide +kernel : fd (ok 9) 23 = some (9, 1)) (by decide +kernel)
theorem w9_29 (l0 : zV)  (S : zS) (I : zM) (Q : zV → zS → zM → Prop) : Wp 9 29 [l0] [] S I Q ↔ Q vU S I := Wp_return (by decide +kernel : decode (bk 9) 29 = .ok (.return_, 1)) (by decide +kernel)
-- 1 ClauseDrafts$Costs <init>()V
theorem w1_0 (x : Nat) (st : List zV) (S : zS) (I : zM) (Q : zV → zS → zM → Prop) : Wp 1 0 [vR x] st S I Q ↔ Wp 1 1 [vR x] (vR x :: st) S I Q := Wp_aload_n (by decide +kernel : decode (bk 1) 0 = .ok (.aload_n 0, 1)) rfl
theorem w1_1 (l0 : zV) (a : Nat)  (S : zS) (I : zM) (Q : zV → zS → zM → Prop) : Wp 1 1 [l0] (vR a :: []) S I Q ↔ Wp 1 4 [l0] [] S I Q := Wp_ob (by decide +kernel : decode (bk 1) 1 = .ok (.invokespecial 3, 3)) (by decide +kernel : lkk (ok 1) 3 = some (2, 0)) ⟨by decide +kernel, Nat.le_of_ble_eq_true rfl⟩
theorem w1_4 (x : Nat) (st : List zV) (S : zS) (I : zM) (Q : zV → zS → zM → Prop) : Wp 1 4 [vR x] st S I Q ↔ Wp 1 5 [vR x] (vR x :: st) S I Q := Wp_aload_n (by decide +kernel : decode (bk 1) 4 = .ok (.aload_n 0, 1)) rfl
theorem w1_5 (l0 : zV) (st : List zV) (S : zS) (I : zM) (Q : zV → zS → zM → Prop) : Wp 1 5 [l0] st S I Q ↔ Wp 1 8 [l0] (vR S.1.length :: st) (sp S (10, List.replicate 3 0)) (cz I S.1.length) Q := Wp_new (by decide +kernel : decode (bk 1) 5 = .ok (.new 9, 3)) (by decide +kernel : nw (ok 1) 9 = some 8) (by decide +kernel)
theorem w1_8 (l0 : zV) (x : Nat) (st : List zV) (S : zS) (I : zM) (Q : zV → zS → zM → Prop) : Wp 1 8 [l0] (vR x :: st) S I Q ↔ Wp 1 9 [l0] (vR x :: vR x :: st) S I Q := Wp_dup (by decide +kernel : decode (bk 1) 8 = .ok (.dup, 1)) rfl
theorem w1_9 (l0 : zV) (st : List zV) (S : zS) (I : zM) (Q : zV → zS → zM → Prop) : Wp 1 9 [l0] st S I Q ↔ Wp 1 11 [l0] (vI 7 :: st) S I Q := Wp_bipush (by decide +kernel : decode (bk 1) 9 = .ok (.bipush 7, 2)) (by decide)
theorem w1_11 (l0 : zV) (st : List zV) (S : zS) (I : zM) (Q : zV → zS → zM → Prop) : Wp 1 11 [l0] st S I Q ↔ Wp 1 13 [l0] (vI 7 :: st) S I Q := Wp_bipush (by decide +kernel : decode (bk 1) 11 = .ok (.bipush 7, 2)) (by decide)
theorem w1_13 (l0 : zV) (x0 : Int) (x1 : Int) (a : Nat) (r0 : Nat) (r1 : Nat) (S : zS) (I : zM) (Q : zV → zS → zM → Prop) : Wp 1 13 [l0] (vI x1 :: vI x0 :: vR a :: [vR r0, vR r1]) S I Q ↔ kd S a = 10 ∧ Wp 8 0 [vR a, vI x0, vI x1, vU] [] S I (fun r S1 I1 => Wp 1 16 [l0] (zpu r [vR r0, vR r1]) S1 I1 Q) := Wp_ci (by decide +kernel : decode (bk 1) 13 = .ok (.invokespecial 11, 3)) (by decide +kernel : lkk (ok 1) 11 = some (0, 8)) (by decide +kernel) (n := 2) (by decide +kernel) (c := 10) (by decide +kernel) rfl rfl (by decide +kernel) (Nat.le_of_ble_eq_true rfl) ⟨(Nat.le_of_ble_eq_true rfl), Or.inr rfl⟩ rfl
theorem w1_16 (l0 : zV) (b a : Nat) (st : List zV) (S : zS) (I : zM) (Q : zV → zS → zM → Prop) : Wp 1 16 [l0] (vR b :: vR a :: st) S I Q ↔ kd S a = 3 ∧ Wp 1 19 [l0] st (ss S a 0 (b + 1)) I Q := Wp_putR (by decide +kernel : decode (bk 1) 16 = .ok (.putfield 14, 3)) (by decide +kernel : fd (ok 1) 14 = some (1, 0)) (by decide +kernel)
theorem w1_19 (x : Nat) (st : List zV) (S : zS) (I : zM) (Q : zV → zS → zM → Prop) : Wp 1 19 [vR x] st S I Q ↔ Wp 1 20 [vR x] (vR x :: st) S I Q := Wp_aload_n (by decide +kernel : decode (bk 1) 19 = .ok (.aload_n 0, 1)) rfl
theorem w1_20 (l0 : zV) (st : List zV) (S : zS) (I : zM) (Q : zV → zS → zM → Prop) : Wp 1 20 [l0] st S I Q ↔ Wp 1 23 [l0] (vR S.1.length :: st) (sp S (10, List.replicate 3 0)) (cz I S.1.length) Q := Wp_new (by decide +kernel : decode (bk 1) 20 = .ok (.new 9, 3)) (by decide +kernel : nw (ok 1) 9 = some 8) (by decide +kernel)
theorem w1_23 (l0 : zV) (x : Nat) (st : List zV) (S : zS) (I : zM) (Q : zV → zS → zM → Prop) : Wp 1 23 [l0] (vR x :: st) S I Q ↔ Wp 1 24 [l0] (vR x :: vR x :: st) S I Q := Wp_dup (by decide +kernel : decode (bk 1) 23 = .ok (.dup, 1)) rfl
theorem w1_24 (l0 : zV) (st : List zV) (S : zS) (I : zM) (Q : zV → zS → zM → Prop) : Wp 1 24 [l0] st S I Q ↔ Wp 1 26 [l0] (vI 8 :: st) S I Q := Wp_bipush (by decide +kernel : decode (bk 1) 24 = .ok (.bipush 8, 2)) (by decide)
theorem w1_26 (l0 : zV) (st : List zV) (S : zS) (I : zM) (Q : zV → zS → zM → Prop) : Wp 1 26 [l0] st S I Q ↔ Wp 1 28 [l0] (vI 8 :: st) S I Q := Wp_bipush (by decide +kernel : decode (bk 1) 26 = .ok (.bipush 8, 2)) (by decide)
theorem w1_28 (l0 : zV) (x0 : Int) (x1 : Int) (a : Nat) (r0 : Nat) (r1 : Nat) (S : zS) (I : zM) (Q : zV → zS → zM → Prop) : Wp 1 28 [l0] (vI x1 :: vI x0 :: vR a :: [vR r0, vR r1]) S I Q ↔ kd S a = 10 ∧ Wp 8 0 [vR a, vI x0, vI x1, vU] [] S I (fun r S1 I1 => Wp 1 31 [l0] (zpu r [vR r0, vR r1]) S1 I1 Q) := Wp_ci (by decide +kernel : decode (bk 1) 28 = .ok (.invokespecial 11, 3)) (by decide +kernel : lkk (ok 1) 11 = some (0, 8)) (by decide +kernel) (n := 2) (by decide +kernel) (c := 10) (by decide +kernel) rfl rfl (by decide +kernel) (Nat.le_of_ble_eq_true rfl) ⟨(Nat.le_of_ble_eq_true rfl), Or.inr rfl⟩ rfl
theorem w1_31 (l0 : zV) (b a : Nat) (st : List zV) (S : zS) (I : zM) (Q : zV → zS → zM → Prop) : Wp 1 31 [l0] (vR b :: vR a :: st) S I Q ↔ kd S a = 3 ∧ Wp 1 34 [l0] st (ss S a 1 (b + 1)) I Q := Wp_putR (by decide +kernel : decode (bk 1) 31 = .ok (.putfield 20, 3)) (by decide +kernel : fd (ok 1) 20 = some (1, 1)) (by decide +kernel)
theorem w1_34 (x : Nat) (st : List zV) (S : zS) (I : zM) (Q : zV → zS → zM → Prop) : Wp 1 34 [vR x] st S I Q ↔ Wp 1 35 [vR x] (vR x :: st) S I Q := Wp_aload_n (by decide +kernel : decode (bk 1) 34 = .ok (.aload_n 0, 1)) rfl
theorem w1_35 (l0 : zV) (st : List zV) (S : zS) (I : zM) (Q : zV → zS → zM → Prop) : Wp 1 35 [l0] st S I Q ↔ Wp 1 38 [l0] (vR S.1.length :: st) (sp S (10, List.replicate 3 0)) (cz I S.1.length) Q := Wp_new (by decide +kernel : decode (bk 1) 35 = .ok (.new 9, 3)) (by decide +kernel : nw (ok 1) 9 = some 8) (by decide +kernel)
theorem w1_38 (l0 : zV) (x : Nat) (st : List zV) (S : zS) (I : zM) (Q : zV → zS → zM → Prop) : Wp 1 38 [l0] (vR x :: st) S I Q ↔ Wp 1 39 [l0] (vR x :: vR x :: st) S I Q := Wp_dup (by decide +kernel : decode (bk 1) 38 = .ok (.dup, 1)) rfl
theorem w1_39 (l0 : zV) (st : List zV) (S : zS) (I : zM) (Q : zV → zS → zM → Prop) : Wp 1 39 [l0] st S I Q ↔ Wp 1 41 [l0] (vI 9 :: st) S I Q := Wp_bipush (by decide +kernel : decode (bk 1) 39 = .ok (.bipush 9, 2)) (by decide)
theorem w1_41 (l0 : zV) (st : List zV) (S : zS) (I : zM) (Q : zV → zS → zM → Prop) : Wp 1 41 [l0] st S I Q ↔ Wp 1 43 [l0] (vI 9 :: st) S I Q := Wp_bipush (by decide +kernel : decode (bk 1) 41 = .ok (.bipush 9, 2)) (by decide)
theorem w1_43 (l0 : zV) (x0 : Int) (x1 : Int) (a : Nat) (r0 : Nat) (r1 : Nat) (S : zS) (I : zM) (Q : zV → zS → zM → Prop) : Wp 1 43 [l0] (vI x1 :: vI x0 :: vR a :: [vR r0, vR r1]) S I Q ↔ kd S a = 10 ∧ Wp 8 0 [vR a, vI x0, vI x1, vU] [] S I (fun r S1 I1 => Wp 1 46 [l0] (zpu r [vR r0, vR r1]) S1 I1 Q) := Wp_ci (by decide +kernel : decode (bk 1) 43 = .ok (.invokespecial 11, 3)) (by decide +kernel : lkk (ok 1) 11 = some (0, 8)) (by decide +kernel) (n := 2) (by decide +kernel) (c := 10) (by decide +kernel) rfl rfl (by decide +kernel) (Nat.le_of_ble_eq_true rfl) ⟨(Nat.le_of_ble_eq_true rfl), Or.inr rfl⟩ rfl
theorem w1_46 (l0 : zV) (b a : Nat) (st : List zV) (S : zS) (I : zM) (Q : zV → zS → zM → Prop) : Wp 1 46 [l0] (vR b :: vR a :: st) S I Q ↔ kd S a = 3 ∧ Wp 1 49 [l0] st (ss S a 2 (b + 1)) I Q := Wp_putR (by decide +kernel : decode (bk 1) 46 = .ok (.putfield 23, 3)) (by decide +kernel : fd (ok 1) 23 = some (1, 2)) (by decide +kernel)
theorem w1_49 (x : Nat) (st : List zV) (S : zS) (I : zM) (Q : zV → zS → zM → Prop) : Wp 1 49 [vR x] st S I Q ↔ Wp 1 50 [vR x] (vR x :: st) S I Q := Wp_aload_n (by decide +kernel : decode (bk 1) 49 = .ok (.aload_n 0, 1)) rfl
theorem w1_50 (l0 : zV) (st : List zV) (S : zS) (I : zM) (Q : zV → zS → zM → Prop) : Wp 1 50 [l0] st S I Q ↔ Wp 1 53 [l0] (vR S.1.length :: st) (sp S (10, List.replicate 3 0)) (cz I S.1.length) Q := Wp_new (by decide +kernel : decode (bk 1) 50 = .ok (.new 9, 3)) (by decide +kernel : nw (ok 1) 9 = some 8) (by decide +kernel)
theorem w1_53 (l0 : zV) (x : Nat) (st : List zV) (S : zS) (I : zM) (Q : zV → zS → zM → Prop) : Wp 1 53 [l0] (vR x :: st) S I Q ↔ Wp 1 54 [l0] (vR x :: vR x :: st) S I Q := Wp_dup (by decide +kernel : decode (bk 1) 53 = .ok (.dup, 1)) rfl
theorem w1_54 (l0 : zV) (st : List zV) (S : zS) (I : zM) (Q : zV → zS → zM → Prop) : Wp 1 54 [l0] st S I Q ↔ Wp 1 55 [l0] (vI 2 :: st) S I Q := Wp_iconst (by decide +kernel : decode (bk 1) 54 = .ok (.iconst 2, 1)) (by decide)
theorem w1_55 (l0 : zV) (st : List zV) (S : zS) (I : zM) (Q : zV → zS → zM → Prop) : Wp 1 55 [l0] st S I Q ↔ Wp 1 57 [l0] (vI 8 :: st) S I Q := Wp_bipush (by decide +kernel : decode (bk 1) 55 = .ok (.bipush 8, 2)) (by decide)
theorem w1_57 (l0 : zV) (x0 : Int) (x1 : Int) (a : Nat) (r0 : Nat) (r1 : Nat) (S : zS) (I : zM) (Q : zV → zS → zM → Prop) : Wp 1 57 [l0] (vI x1 :: vI x0 :: vR a :: [vR r0, vR r1]) S I Q ↔ kd S a = 10 ∧ Wp 8 0 [vR a, vI x0, vI x1, vU] [] S I (fun r S1 I1 => Wp 1 60 [l0] (zpu r [vR r0, vR r1]) S1 I1 Q) := Wp_ci (by decide +kernel : decode (bk 1) 57 = .ok (.invokespecial 11, 3)) (by decide +kernel : lkk (ok 1) 11 = some (0, 8)) (by decide +kernel) (n := 2) (by decide +kernel) (c := 10) (by decide +kernel) rfl rfl (by decide +kernel) (Nat.le_of_ble_eq_true rfl) ⟨(Nat.le_of_ble_eq_true rfl), Or.inr rfl⟩ rfl
theorem w1_60 (l0 : zV) (b a : Nat) (st : List zV) (S : zS) (I : zM) (Q : zV → zS → zM → Prop) : Wp 1 60 [l0] (vR b :: vR a :: st) S I Q ↔ kd S a = 3 ∧ Wp 1 63 [l0] st (ss S a 3 (b + 1)) I Q := Wp_putR (by decide +kernel : decode (bk 1) 60 = .ok (.putfield 26, 3)) (by decide +kernel : fd (ok 1) 26 = some (1, 3)) (by decide +kernel)
theorem w1_63 (x : Nat) (st : List zV) (S : zS) (I : zM) (Q : zV → zS → zM → Prop) : Wp 1 63 [vR x] st S I Q ↔ Wp 1 64 [vR x] (vR x :: st) S I Q := Wp_aload_n (by decide +kernel : decode (bk 1) 63 = .ok (.aload_n 0, 1)) rfl
theorem w1_64 (l0 : zV) (st : List zV) (S : zS) (I : zM) (Q : zV → zS → zM → Prop) : Wp 1 64 [l0] st S I Q ↔ Wp 1 67 [l0] (vR S.1.length :: st) (sp S (10, List.replicate 3 0)) (cz I S.1.length) Q := Wp_new (by decide +kernel : decode (bk 1) 64 = .ok (.new 9, 3)) (by decide +kernel : nw (ok 1) 9 = some 8) (by decide +kernel)
theorem w1_67 (l0 : zV) (x : Nat) (st : List zV) (S : zS) (I : zM) (Q : zV → zS → zM → Prop) : Wp 1 67 [l0] (vR x :: st) S I Q ↔ Wp 1 68 [l0] (vR x :: vR x :: st) S I Q := Wp_dup (by decide +kernel : decode (bk 1) 67 = .ok (.dup, 1)) rfl
theorem w1_68 (l0 : zV) (st : List zV) (S : zS) (I : zM) (Q : zV → zS → zM → Prop) : Wp 1 68 [l0] st S I Q ↔ Wp 1 69 [l0] (vI 2 :: st) S I Q := Wp_iconst (by decide +kernel : decode (bk 1) 68 = .ok (.iconst 2, 1)) (by decide)
theorem w1_69 (l0 : zV) (st : List zV) (S : zS) (I : zM) (Q : zV → zS → zM → Prop) : Wp 1 69 [l0] st S I Q ↔ Wp 1 71 [l0] (vI 8 :: st) S I Q := Wp_bipush (by decide +kernel : decode (bk 1) 69 = .ok (.bipush 8, 2)) (by decide)
theorem w1_71 (l0 : zV) (x0 : Int) (x1 : Int) (a : Nat) (r0 : Nat) (r1 : Nat) (S : zS) (I : zM) (Q : zV → zS → zM → Prop) : Wp 1 71 [l0] (vI x1 :: vI x0 :: vR a :: [vR r0, vR r1]) S I Q ↔ kd S a = 10 ∧ Wp 8 0 [vR a, vI x0, vI x1, vU] [] S I (fun r S1 I1 => Wp 1 74 [l0] (zpu r [vR r0, vR r1]) S1 I1 Q) := Wp_ci (by decide +kernel : decode (bk 1) 71 = .ok (.invokespecial 11, 3)) (by decide +kernel : lkk (ok 1) 11 = some (0, 8)) (by decide +kernel) (n := 2) (by decide +kernel) (c := 10) (by decide +kernel) rfl rfl (by decide +kernel) (Nat.le_of_ble_eq_true rfl) ⟨(Nat.le_of_ble_eq_true rfl), Or.inr rfl⟩ rfl
theorem w1_74 (l0 : zV) (b a : Nat) (st : List zV) (S : zS) (I : zM) (Q : zV → zS → zM → Prop) : Wp 1 74 [l0] (vR b :: vR a :: st) S I Q ↔ kd S a = 3 ∧ Wp 1 77 [l0] st (ss S a 4 (b + 1)) I Q := Wp_putR (by decide +kernel : decode (bk 1) 74 = .ok (.putfield 29, 3)) (by decide +kernel : fd (ok 1) 29 = some (1, 4)) (by decide +kernel)
theorem w1_77 (l0 : zV)  (S : zS) (I : zM) (Q : zV → zS → zM → Prop) : Wp 1 77 [l0] [] S I Q ↔ Q vU S I := Wp_return (by decide +kernel : decode (bk 1) 77 = .ok (.return_, 1)) (by decide +kernel)
-- 6 ClauseDrafts$Pairing <init>()V
theorem w6_0 (x : Nat) (st : List zV) (S : zS) (I : zM) (Q : zV → zS → zM → Prop) : Wp 6 0 [vR x] st S I Q ↔ Wp 6 1 [vR x] (vR x :: st) S I Q := Wp_aload_n (by decide +kernel : decode (bk 6) 0 = .ok (.aload_n 0, 1)) rfl
theorem w6_1 (l0 : zV) (a : Nat)  (S : zS) (I : zM) (Q : zV → zS → zM → Prop) : Wp 6 1 [l0] (vR a :: []) S I Q ↔ Wp 6 4 [l0] [] S I Q := Wp_ob (by decide +kernel : decode (bk 6) 1 = .ok (.invokespecial 3, 3)) (by decide +kernel : lkk (ok 6) 3 = some (2, 0)) ⟨by decide +kernel, Nat.le_of_ble_eq_true rfl⟩
theorem w6_4 (x : Nat) (st : List zV) (S : zS) (I : zM) (Q : zV → zS → zM → Prop) : Wp 6 4 [vR x] st S I Q ↔ Wp 6 5 [vR x] (vR x :: st) S I Q := Wp_aload_n (by decide +kernel : decode (bk 6) 4 = .ok (.aload_n 0, 1)) rfl
theorem w6_5 (l0 : zV) (st : List zV) (S : zS) (I : zM) (Q : zV → zS → zM → Prop) : Wp 6 5 [l0] st S I Q ↔ Wp 6 8 [l0] (vR S.1.length :: st) (sp S (10, List.replicate 3 0)) (cz I S.1.length) Q := Wp_new (by decide +kernel : decode (bk 6) 5 = .ok (.new 9, 3)) (by decide +kernel : nw (ok 6) 9 = some 8) (by decide +kernel)
theorem w6_8 (l0 : zV) (x : Nat) (st : List zV) (S : zS) (I : zM) (Q : zV → zS → zM → Prop) : Wp 6 8 [l0] (vR x :: st) S I Q ↔ Wp 6 9 [l0] (vR x :: vR x :: st) S I Q := Wp_dup (by decide +kernel : decode (bk 6) 8 = .ok (.dup, 1)) rfl
theorem w6_9 (l0 : zV) (st : List zV) (S : zS) (I : zM) (Q : zV → zS → zM → Prop) : Wp 6 9 [l0] st S I Q ↔ Wp 6 11 [l0] (vI 16 :: st) S I Q := Wp_bipush (by decide +kernel : decode (bk 6) 9 = .ok (.bipush 16, 2)) (by decide)
theorem w6_11 (l0 : zV) (st : List zV) (S : zS) (I : zM) (Q : zV → zS → zM → Prop) : Wp 6 11 [l0] st S I Q ↔ Wp 6 12 [l0] (vI 3 :: st) S I Q := Wp_iconst (by decide +kernel : decode (bk 6) 11 = .ok (.iconst 3, 1)) (by decide)
theorem w6_12 (l0 : zV) (x0 : Int) (x1 : Int) (a : Nat) (r0 : Nat) (r1 : Nat) (S : zS) (I : zM) (Q : zV → zS → zM → Prop) : Wp 6 12 [l0] (vI x1 :: vI x0 :: vR a :: [vR r0, vR r1]) S I Q ↔ kd S a = 10 ∧ Wp 8 0 [vR a, vI x0, vI x1, vU] [] S I (fun r S1 I1 => Wp 6 15 [l0] (zpu r [vR r0, vR r1]) S1 I1 Q) := Wp_ci (by decide +kernel : decode (bk 6) 12 = .ok (.invokespecial 13, 3)) (by decide +kernel : lkk (ok 6) 13 = some (0, 8)) (by decide +kernel) (n := 2) (by decide +kernel) (c := 10) (by decide +kernel) rfl rfl (by decide +kernel) (Nat.le_of_ble_eq_true rfl) ⟨(Nat.le_of_ble_eq_true rfl), Or.inr rfl⟩ rfl
theorem w6_15 (l0 : zV) (b a : Nat) (st : List zV) (S : zS) (I : zM) (Q : zV → zS → zM → Prop) : Wp 6 15 [l0] (vR b :: vR a :: st) S I Q ↔ kd S a = 8 ∧ Wp 6 18 [l0] st (ss S a 0 (b + 1)) I Q := Wp_putR (by decide +kernel : decode (bk 6) 15 = .ok (.putfield 16, 3)) (by decide +kernel : fd (ok 6) 16 = some (6, 0)) (by decide +kernel)
theorem w6_18 (x : Nat) (st : List zV) (S : zS) (I : zM) (Q : zV → zS → zM → Prop) : Wp 6 18 [vR x] st S I Q ↔ Wp 6 19 [vR x] (vR x :: st) S I Q := Wp_aload_n (by decide +kernel : decode (bk 6) 18 = .ok (.aload_n 0, 1)) rfl
theorem w6_19 (l0 : zV) (st : List zV) (S : zS) (I : zM) (Q : zV → zS → zM → Prop) : Wp 6 19 [l0] st S I Q ↔ Wp 6 22 [l0] (vR S.1.length :: st) (sp S (10, List.replicate 3 0)) (cz I S.1.length) Q := Wp_new (by decide +kernel : decode (bk 6) 19 = .ok (.new 9, 3)) (by decide +kernel : nw (ok 6) 9 = some 8) (by decide +kernel)
theorem w6_22 (l0 : zV) (x : Nat) (st : List zV) (S : zS) (I : zM) (Q : zV → zS → zM → Prop) : Wp 6 22 [l0] (vR x :: st) S I Q ↔ Wp 6 23 [l0] (vR x :: vR x :: st) S I Q := Wp_dup (by decide +kernel : decode (bk 6) 22 = .ok (.dup, 1)) rfl
theorem w6_23 (l0 : zV) (st : List zV) (S : zS) (I : zM) (Q : zV → zS → zM → Prop) : Wp 6 23 [l0] st S I Q ↔ Wp 6 24 [l0] (vI 2 :: st) S I Q := Wp_iconst (by decide +kernel : decode (bk 6) 23 = .ok (.iconst 2, 1)) (by decide)
theorem w6_24 (l0 : zV) (st : List zV) (S : zS) (I : zM) (Q : zV → zS → zM → Prop) : Wp 6 24 [l0] st S I Q ↔ Wp 6 26 [l0] (vI 8 :: st) S I Q := Wp_bipush (by decide +kernel : decode (bk 6) 24 = .ok (.bipush 8, 2)) (by decide)
theorem w6_26 (l0 : zV) (x0 : Int) (x1 : Int) (a : Nat) (r0 : Nat) (r1 : Nat) (S : zS) (I : zM) (Q : zV → zS → zM → Prop) : Wp 6 26 [l0] (vI x1 :: vI x0 :: vR a :: [vR r0, vR r1]) S I Q ↔ kd S a = 10 ∧ Wp 8 0 [vR a, vI x0, vI x1, vU] [] S I (fun r S1 I1 => Wp 6 29 [l0] (zpu r [vR r0, vR r1]) S1 I1 Q) := Wp_ci (by decide +kernel : decode (bk 6) 26 = .ok (.invokespecial 13, 3)) (by decide +kernel : lkk (ok 6) 13 = some (0, 8)) (by decide +kernel) (n := 2) (by decide +kernel) (c := 10) (by decide +kernel) rfl rfl (by decide +kernel) (Nat.le_of_ble_eq_true rfl) ⟨(Nat.le_of_ble_eq_true rfl), Or.inr rfl⟩ rfl
theorem w6_29 (l0 : zV) (b a : Nat) (st : List zV) (S : zS) (I : zM) (Q : zV → zS → zM → Prop) : Wp 6 29 [l0] (vR b :: vR a :: st) S I Q ↔ kd S a = 8 ∧ Wp 6 32 [l0] st (ss S a 1 (b + 1)) I Q := Wp_putR (by decide +kernel : decode (bk 6) 29 = .ok (.putfield 20, 3)) (by decide +kernel : fd (ok 6) 20 = some (6, 1)) (by decide +kernel)
theorem w6_32 (x : Nat) (st : List zV) (S : zS) (I : zM) (Q : zV → zS → zM → Prop) : Wp 6 32 [vR x] st S I Q ↔ Wp 6 33 [vR x] (vR x :: st) S I Q := Wp_aload_n (by decide +kernel : decode (bk 6) 32 = .ok (.aload_n 0, 1)) rfl
theorem w6_33 (l0 : zV) (st : List zV) (S : zS) (I : zM) (Q : zV → zS → zM → Prop) : Wp 6 33 [l0] st S I Q ↔ Wp 6 36 [l0] (vR S.1.length :: st) (sp S (10, List.replicate 3 0)) (cz I S.1.length) Q := Wp_new (by decide +kernel : decode (bk 6) 33 = .ok (.new 9, 3)) (by decide +kernel : nw (ok 6) 9 = some 8) (by decide +kernel)
theorem w6_36 (l0 : zV) (x : Nat) (st : List zV) (S : zS) (I : zM) (Q : zV → zS → zM → Prop) : Wp 6 36 [l0] (vR x :: st) S I Q ↔ Wp 6 37 [l0] (vR x :: vR x :: st) S I Q := Wp_dup (by decide +kernel : decode (bk 6) 36 = .ok (.dup, 1)) rfl
theorem w6_37 (l0 : zV) (st : List zV) (S : zS) (I : zM) (Q : zV → zS → zM → Prop) : Wp 6 37 [l0] st S I Q ↔ Wp 6 38 [l0] (vI 2 :: st) S I Q := Wp_iconst (by decide +kernel : decode (bk 6) 37 = .ok (.iconst 2, 1)) (by decide)
theorem w6_38 (l0 : zV) (st : List zV) (S : zS) (I : zM) (Q : zV → zS → zM → Prop) : Wp 6 38 [l0] st S I Q ↔ Wp 6 40 [l0] (vI 8 :: st) S I Q := Wp_bipush (by decide +kernel : decode (bk 6) 38 = .ok (.bipush 8, 2)) (by decide)
theorem w6_40 (l0 : zV) (x0 : Int) (x1 : Int) (a : Nat) (r0 : Nat) (r1 : Nat) (S : zS) (I : zM) (Q : zV → zS → zM → Prop) : Wp 6 40 [l0] (vI x1 :: vI x0 :: vR a :: [vR r0, vR r1]) S I Q ↔ kd S a = 10 ∧ Wp 8 0 [vR a, vI x0, vI x1, vU] [] S I (fun r S1 I1 => Wp 6 43 [l0] (zpu r [vR r0, vR r1]) S1 I1 Q) := Wp_ci (by decide +kernel : decode (bk 6) 40 = .ok (.invokespecial 13, 3)) (by decide +kernel : lkk (ok 6) 13 = some (0, 8)) (by decide +kernel) (n := 2) (by decide +kernel) (c := 10) (by decide +kernel) rfl rfl (by decide +kernel) (Nat.le_of_ble_eq_true rfl) ⟨(Nat.le_of_ble_eq_true rfl), Or.inr rfl⟩ rfl
theorem w6_43 (l0 : zV) (b a : Nat) (st : List zV) (S : zS) (I : zM) (Q : zV → zS → zM → Prop) : Wp 6 43 [l0] (vR b :: vR a :: st) S I Q ↔ kd S a = 8 ∧ Wp 6 46 [l0] st (ss S a 2 (b + 1)) I Q := Wp_putR (by decide +kernel : decode (bk 6) 43 = .ok (.putfield 23, 3)) (by decide +kernel : fd (ok 6) 23 = some (6, 2)) (by decide +kernel)
theorem w6_46 (x : Nat) (st : List zV) (S : zS) (I : zM) (Q : zV → zS → zM → Prop) : Wp 6 46 [vR x] st S I Q ↔ Wp 6 47 [vR x] (vR x :: st) S I Q := Wp_aload_n (by decide +kernel : decode (bk 6) 46 = .ok (.aload_n 0, 1)) rfl
theorem w6_47 (l0 : zV) (st : List zV) (S : zS) (I : zM) (Q : zV → zS → zM → Prop) : Wp 6 47 [l0] st S I Q ↔ Wp 6 50 [l0] (vR S.1.length :: st) (sp S (10, List.replicate 3 0)) (cz I S.1.length) Q := Wp_new (by decide +kernel : decode (bk 6) 47 = .ok (.new 9, 3)) (by decide +kernel : nw (ok 6) 9 = some 8) (by decide +kernel)
theorem w6_50 (l0 : zV) (x : Nat) (st : List zV) (S : zS) (I : zM) (Q : zV → zS → zM → Prop) : Wp 6 50 [l0] (vR x :: st) S I Q ↔ Wp 6 51 [l0] (vR x :: vR x :: st) S I Q := Wp_dup (by decide +kernel : decode (bk 6) 50 = .ok (.dup, 1)) rfl
theorem w6_51 (l0 : zV) (st : List zV) (S : zS) (I : zM) (Q : zV → zS → zM → Prop) : Wp 6 51 [l0] st S I Q ↔ Wp 6 53 [l0] (vI 8 :: st) S I Q := Wp_bipush (by decide +kernel : decode (bk 6) 51 = .ok (.bipush 8, 2)) (by decide)
theorem w6_53 (l0 : zV) (st : List zV) (S : zS) (I : zM) (Q : zV → zS → zM → Prop) : Wp 6 53 [l0] st S I Q ↔ Wp 6 55 [l0] (vI 6 :: st) S I Q := Wp_bipush (by decide +kernel : decode (bk 6) 53 = .ok (.bipush 6, 2)) (by decide)
theorem w6_55 (l0 : zV) (x0 : Int) (x1 : Int) (a : Nat) (r0 : Nat) (r1 : Nat) (S : zS) (I : zM) (Q : zV → zS → zM → Prop) : Wp 6 55 [l0] (vI x1 :: vI x0 :: vR a :: [vR r0, vR r1]) S I Q ↔ kd S a = 10 ∧ Wp 8 0 [vR a, vI x0, vI x1, vU] [] S I (fun r S1 I1 => Wp 6 58 [l0] (zpu r [vR r0, vR r1]) S1 I1 Q) := Wp_ci (by decide +kernel : decode (bk 6) 55 = .ok (.invokespecial 13, 3)) (by decide +kernel : lkk (ok 6) 13 = some (0, 8)) (by decide +kernel) (n := 2) (by decide +kernel) (c := 10) (by decide +kernel) rfl rfl (by decide +kernel) (Nat.le_of_ble_eq_true rfl) ⟨(Nat.le_of_ble_eq_true rfl), Or.inr rfl⟩ rfl
theorem w6_58 (l0 : zV) (b a : Nat) (st : List zV) (S : zS) (I : zM) (Q : zV → zS → zM → Prop) : Wp 6 58 [l0] (vR b :: vR a :: st) S I Q ↔ kd S a = 8 ∧ Wp 6 61 [l0] st (ss S a 3 (b + 1)) I Q := Wp_putR (by decide +kernel : decode (bk 6) 58 = .ok (.putfield 26, 3)) (by decide +kernel : fd (ok 6) 26 = some (6, 3)) (by decide +kernel)
theorem w6_61 (x : Nat) (st : List zV) (S : zS) (I : zM) (Q : zV → zS → zM → Prop) : Wp 6 61 [vR x] st S I Q ↔ Wp 6 62 [vR x] (vR x :: st) S I Q := Wp_aload_n (by decide +kernel : decode (bk 6) 61 = .ok (.aload_n 0, 1)) rfl
theorem w6_62 (l0 : zV) (st : List zV) (S : zS) (I : zM) (Q : zV → zS → zM → Prop) : Wp 6 62 [l0] st S I Q ↔ Wp 6 65 [l0] (vR S.1.length :: st) (sp S (10, List.replicate 3 0)) (cz I S.1.length) Q := Wp_new (by decide +kernel : decode (bk 6) 62 = .ok (.new 9, 3)) (by decide +kernel : nw (ok 6) 9 = some 8) (by decide +kernel)
theorem w6_65 (l0 : zV) (x : Nat) (st : List zV) (S : zS) (I : zM) (Q : zV → zS → zM → Prop) : Wp 6 65 [l0] (vR x :: st) S I Q ↔ Wp 6 66 [l0] (vR x :: vR x :: st) S I Q := Wp_dup (by decide +kernel : decode (bk 6) 65 = .ok (.dup, 1)) rfl
theorem w6_66 (l0 : zV) (st : List zV) (S : zS) (I : zM) (Q : zV → zS → zM → Prop) : Wp 6 66 [l0] st S I Q ↔ Wp 6 68 [l0] (vI 8 :: st) S I Q := Wp_bipush (by decide +kernel : decode (bk 6) 66 = .ok (.bipush 8, 2)) (by decide)
theorem w6_68 (l0 : zV) (st : List zV) (S : zS) (I : zM) (Q : zV → zS → zM → Prop) : Wp 6 68 [l0] st S I Q ↔ Wp 6 70 [l0] (vI 6 :: st) S I Q := Wp_bipush (by decide +kernel : decode (bk 6) 68 = .ok (.bipush 6, 2)) (by decide)
theorem w6_70 (l0 : zV) (x0 : Int) (x1 : Int) (a : Nat) (r0 : Nat) (r1 : Nat) (S : zS) (I : zM) (Q : zV → zS → zM → Prop) : Wp 6 70 [l0] (vI x1 :: vI x0 :: vR a :: [vR r0, vR r1]) S I Q ↔ kd S a = 10 ∧ Wp 8 0 [vR a, vI x0, vI x1, vU] [] S I (fun r S1 I1 => Wp 6 73 [l0] (zpu r [vR r0, vR r1]) S1 I1 Q) := Wp_ci (by decide +kernel : decode (bk 6) 70 = .ok (.invokespecial 13, 3)) (by decide +kernel : lkk (ok 6) 13 = some (0, 8)) (by decide +kernel) (n := 2) (by decide +kernel) (c := 10) (by decide +kernel) rfl rfl (by decide +kernel) (Nat.le_of_ble_eq_true rfl) ⟨(Nat.le_of_ble_eq_true rfl), Or.inr rfl⟩ rfl
theorem w6_73 (l0 : zV) (b a : Nat) (st : List zV) (S : zS) (I : zM) (Q : zV → zS → zM → Prop) : Wp 6 73 [l0] (vR b :: vR a :: st) S I Q ↔ kd S a = 8 ∧ Wp 6 76 [l0] st (ss S a 4 (b + 1)) I Q := Wp_putR (by decide +kernel : decode (bk 6) 73 = .ok (.putfield 29, 3)) (by decide +kernel : fd (ok 6) 29 = some (6, 4)) (by decide +kernel)
theorem w6_76 (l0 : zV)  (S : zS) (I : zM) (Q : zV → zS → zM → Prop) : Wp 6 76 [l0] [] S I Q ↔ Q vU S I := Wp_return (by decide +kernel : decode (bk 6) 76 = .ok (.return_, 1)) (by decide +kernel)
-- 0 ClauseDrafts$Changes <init>()V
theorem w0_0 (x : Nat) (st : List zV) (S : zS) (I : zM) (Q : zV → zS → zM → Prop) : Wp 0 0 [vR x] st S I Q ↔ Wp 0 1 [vR x] (vR x :: st) S I Q := Wp_aload_n (by decide +kernel : decode (bk 0) 0 = .ok (.aload_n 0, 1)) rfl
theorem w0_1 (l0 : zV) (a : Nat)  (S : zS) (I : zM) (Q : zV → zS → zM → Prop) : Wp 0 1 [l0] (vR a :: []) S I Q ↔ Wp 0 4 [l0] [] S I Q := Wp_ob (by decide +kernel : decode (bk 0) 1 = .ok (.invokespecial 3, 3)) (by decide +kernel : lkk (ok 0) 3 = some (2, 0)) ⟨by decide +kernel, Nat.le_of_ble_eq_true rfl⟩
theorem w0_4 (x : Nat) (st : List zV) (S : zS) (I : zM) (Q : zV → zS → zM → Prop) : Wp 0 4 [vR x] st S I Q ↔ Wp 0 5 [vR x] (vR x :: st) S I Q := Wp_aload_n (by decide +kernel : decode (bk 0) 4 = .ok (.aload_n 0, 1)) rfl
theorem w0_5 (l0 : zV) (st : List zV) (S : zS) (I : zM) (Q : zV → zS → zM → Prop) : Wp 0 5 [l0] st S I Q ↔ Wp 0 8 [l0] (vR S.1.length :: st) (sp S (10, List.replicate 3 0)) (cz I S.1.length) Q := Wp_new (by decide +kernel : decode (bk 0) 5 = .ok (.new 9, 3)) (by decide +kernel : nw (ok 0) 9 = some 8) (by decide +kernel)
theorem w0_8 (l0 : zV) (x : Nat) (st : List zV) (S : zS) (I : zM) (Q : zV → zS → zM → Prop) : Wp 0 8 [l0] (vR x :: st) S I Q ↔ Wp 0 9 [l0] (vR x :: vR x :: st) S I Q := Wp_dup (by decide +kernel : decode (bk 0) 8 = .ok (.dup, 1)) rfl
theorem w0_9 (l0 : zV) (st : List zV) (S : zS) (I : zM) (Q : zV → zS → zM → Prop) : Wp 0 9 [l0] st S I Q ↔ Wp 0 11 [l0] (vI 120 :: st) S I Q := Wp_bipush (by decide +kernel : decode (bk 0) 9 = .ok (.bipush 120, 2)) (by decide)
theorem w0_11 (l0 : zV) (st : List zV) (S : zS) (I : zM) (Q : zV → zS → zM → Prop) : Wp 0 11 [l0] st S I Q ↔ Wp 0 13 [l0] (vI 8 :: st) S I Q := Wp_bipush (by decide +kernel : decode (bk 0) 11 = .ok (.bipush 8, 2)) (by decide)
theorem w0_13 (l0 : zV) (x0 : Int) (x1 : Int) (a : Nat) (r0 : Nat) (r1 : Nat) (S : zS) (I : zM) (Q : zV → zS → zM → Prop) : Wp 0 13 [l0] (vI x1 :: vI x0 :: vR a :: [vR r0, vR r1]) S I Q ↔ kd S a = 10 ∧ Wp 8 0 [vR a, vI x0, vI x1, vU] [] S I (fun r S1 I1 => Wp 0 16 [l0] (zpu r [vR r0, vR r1]) S1 I1 Q) := Wp_ci (by decide +kernel : decode (bk 0) 13 = .ok (.invokespecial 13, 3)) (by decide +kernel : lkk (ok 0) 13 = some (0, 8)) (by decide +kernel) (n := 2) (by decide +kernel) (c := 10) (by decide +kernel) rfl rfl (by decide +kernel) (Nat.le_of_ble_eq_true rfl) ⟨(Nat.le_of_ble_eq_true rfl), Or.inr rfl⟩ rfl
theorem w0_16 (l0 : zV) (b a : Nat) (st : List zV) (S : zS) (I : zM) (Q : zV → zS → zM → Prop) : Wp 0 16 [l0] (vR b :: vR a :: st) S I Q ↔ kd S a = 2 ∧ Wp 0 19 [l0] st (ss S a 0 (b + 1)) I Q := Wp_putR (by decide +kernel : decode (bk 0) 16 = .ok (.putfield 16, 3)) (by decide +kernel : fd (ok 0) 16 = some (0, 0)) (by decide +kernel)
theorem w0_19 (x : Nat) (st : List zV) (S : zS) (I : zM) (Q : zV → zS → zM → Prop) : Wp 0 19 [vR x] st S I Q ↔ Wp 0 20 [vR x] (vR x :: st) S I Q := Wp_aload_n (by decide +kernel : decode (bk 0) 19 = .ok (.aload_n 0, 1)) rfl
theorem w0_20 (l0 : zV) (st : List zV) (S : zS) (I : zM) (Q : zV → zS → zM → Prop) : Wp 0 20 [l0] st S I Q ↔ Wp 0 23 [l0] (vR S.1.length :: st) (sp S (10, List.replicate 3 0)) (cz I S.1.length) Q := Wp_new (by decide +kernel : decode (bk 0) 20 = .ok (.new 9, 3)) (by decide +kernel : nw (ok 0) 9 = some 8) (by decide +kernel)
theorem w0_23 (l0 : zV) (x : Nat) (st : List zV) (S : zS) (I : zM) (Q : zV → zS → zM → Prop) : Wp 0 23 [l0] (vR x :: st) S I Q ↔ Wp 0 24 [l0] (vR x :: vR x :: st) S I Q := Wp_dup (by decide +kernel : decode (bk 0) 23 = .ok (.dup, 1)) rfl
theorem w0_24 (l0 : zV) (st : List zV) (S : zS) (I : zM) (Q : zV → zS → zM → Prop) : Wp 0 24 [l0] st S I Q ↔ Wp 0 25 [l0] (vI 2 :: st) S I Q := Wp_iconst (by decide +kernel : decode (bk 0) 24 = .ok (.iconst 2, 1)) (by decide)
theorem w0_25 (l0 : zV) (st : List zV) (S : zS) (I : zM) (Q : zV → zS → zM → Prop) : Wp 0 25 [l0] st S I Q ↔ Wp 0 27 [l0] (vI 8 :: st) S I Q := Wp_bipush (by decide +kernel : decode (bk 0) 25 = .ok (.bipush 8, 2)) (by decide)
theorem w0_27 (l0 : zV) (x0 : Int) (x1 : Int) (a : Nat) (r0 : Nat) (r1 : Nat) (S : zS) (I : zM) (Q : zV → zS → zM → Prop) : Wp 0 27 [l0] (vI x1 :: vI x0 :: vR a :: [vR r0, vR r1]) S I Q ↔ kd S a = 10 ∧ Wp 8 0 [vR a, vI x0, vI x1, vU] [] S I (fun r S1 I1 => Wp 0 30 [l0] (zpu r [vR r0, vR r1]) S1 I1 Q) := Wp_ci (by decide +kernel : decode (bk 0) 27 = .ok (.invokespecial 13, 3)) (by decide +kernel : lkk (ok 0) 13 = some (0, 8)) (by decide +kernel) (n := 2) (by decide +kernel) (c := 10) (by decide +kernel) rfl rfl (by decide +kernel) (Nat.le_of_ble_eq_true rfl) ⟨(Nat.le_of_ble_eq_true rfl), Or.inr rfl⟩ rfl
theorem w0_30 (l0 : zV) (b a : Nat) (st : List zV) (S : zS) (I : zM) (Q : zV → zS → zM → Prop) : Wp 0 30 [l0] (vR b :: vR a :: st) S I Q ↔ kd S a = 2 ∧ Wp 0 33 [l0] st (ss S a 1 (b + 1)) I Q := Wp_putR (by decide +kernel : decode (bk 0) 30 = .ok (.putfield 20, 3)) (by decide +kernel : fd (ok 0) 20 = some (0, 1)) (by decide +kernel)
theorem w0_33 (l0 : zV)  (S : zS) (I : zM) (Q : zV → zS → zM → Prop) : Wp 0 33 [l0] [] S I Q ↔ Q vU S I := Wp_return (by decide +kernel : decode (bk 0) 33 = .ok (.return_, 1)) (by decide +kernel)
-- 10 ClauseDrafts$View <init>(Z)V
theorem w10_0 (l1 : zV) (x : Nat) (st : List zV) (S : zS) (I : zM) (Q : zV → zS → zM → Prop) : Wp 10 0 [vR x, l1] st S I Q ↔ Wp 10 1 [vR x, l1] (vR x :: st) S I Q := Wp_aload_n (by decide +kernel : decode (bk 10) 0 = .ok (.aload_n 0, 1)) rfl
theorem w10_1 (l0 l1 : zV) (a : Nat)  (S : zS) (I : zM) (Q : zV → zS → zM → Prop) : Wp 10 1 [l0, l1] (vR a :: []) S I Q ↔ Wp 10 4 [l0, l1] [] S I Q := Wp_ob (by decide +kernel : decode (bk 10) 1 = .ok (.invokespecial 3, 3)) (by decide +kernel : lkk (ok 10) 3 = some (2, 0)) ⟨by decide +kernel, Nat.le_of_ble_eq_true rfl⟩
theorem w10_4 (l1 : zV) (x : Nat) (st : List zV) (S : zS) (I : zM) (Q : zV → zS → zM → Prop) : Wp 10 4 [vR x, l1] st S I Q ↔ Wp 10 5 [vR x, l1] (vR x :: st) S I Q := Wp_aload_n (by decide +kernel : decode (bk 10) 4 = .ok (.aload_n 0, 1)) rfl
theorem w10_5 (l0 l1 : zV) (st : List zV) (S : zS) (I : zM) (Q : zV → zS → zM → Prop) : Wp 10 5 [l0, l1] st S I Q ↔ Wp 10 8 [l0, l1] (vR S.1.length :: st) (sp S (7, List.replicate 1 0)) (cz I S.1.length) Q := Wp_new (by decide +kernel : decode (bk 10) 5 = .ok (.new 9, 3)) (by decide +kernel : nw (ok 10) 9 = some 5) (by decide +kernel)
theorem w10_8 (l0 l1 : zV) (x : Nat) (st : List zV) (S : zS) (I : zM) (Q : zV → zS → zM → Prop) : Wp 10 8 [l0, l1] (vR x :: st) S I Q ↔ Wp 10 9 [l0, l1] (vR x :: vR x :: st) S I Q := Wp_dup (by decide +kernel : decode (bk 10) 8 = .ok (.dup, 1)) rfl
theorem w10_9 (l0 l1 : zV) (st : List zV) (S : zS) (I : zM) (Q : zV → zS → zM → Prop) : Wp 10 9 [l0, l1] st S I Q ↔ Wp 10 11 [l0, l1] (vI 16 :: st) S I Q := Wp_bipush (by decide +kernel : decode (bk 10) 9 = .ok (.bipush 16, 2)) (by decide)
theorem w10_11 (l0 l1 : zV) (x0 : Int) (a : Nat) (r0 : Nat) (r1 : Nat) (S : zS) (I : zM) (Q : zV → zS → zM → Prop) : Wp 10 11 [l0, l1] (vI x0 :: vR a :: [vR r0, vR r1]) S I Q ↔ kd S a = 7 ∧ Wp 5 0 [vR a, vI x0] [] S I (fun r S1 I1 => Wp 10 14 [l0, l1] (zpu r [vR r0, vR r1]) S1 I1 Q) := Wp_ci (by decide +kernel : decode (bk 10) 11 = .ok (.invokespecial 13, 3)) (by decide +kernel : lkk (ok 10) 13 = some (0, 5)) (by decide +kernel) (n := 1) (by decide +kernel) (c := 7) (by decide +kernel) rfl rfl (by decide +kernel) (Nat.le_of_ble_eq_true rfl) ⟨(Nat.le_of_ble_eq_true rfl), Or.inr rfl⟩ rfl
theorem w10_14 (l0 l1 : zV) (b a : Nat) (st : List zV) (S : zS) (I : zM) (Q : zV → zS → zM → Prop) : Wp 10 14 [l0, l1] (vR b :: vR a :: st) S I Q ↔ kd S a = 12 ∧ Wp 10 17 [l0, l1] st (ss S a 1 (b + 1)) I Q := Wp_putR (by decide +kernel : decode (bk 10) 14 = .ok (.putfield 16, 3)) (by decide +kernel : fd (ok 10) 16 = some (10, 1)) (by decide +kernel)
theorem w10_17 (l1 : zV) (x : Nat) (st : List zV) (S : zS) (I : zM) (Q : zV → zS → zM → Prop) : Wp 10 17 [vR x, l1] st S I Q ↔ Wp 10 18 [vR x, l1] (vR x :: st) S I Q := Wp_aload_n (by decide +kernel : decode (bk 10) 17 = .ok (.aload_n 0, 1)) rfl
theorem w10_18 (l0 l1 : zV) (st : List zV) (S : zS) (I : zM) (Q : zV → zS → zM → Prop) : Wp 10 18 [l0, l1] st S I Q ↔ Wp 10 21 [l0, l1] (vR S.1.length :: st) (sp S (7, List.replicate 1 0)) (cz I S.1.length) Q := Wp_new (by decide +kernel : decode (bk 10) 18 = .ok (.new 9, 3)) (by decide +kernel : nw (ok 10) 9 = some 5) (by decide +kernel)
theorem w10_21 (l0 l1 : zV) (x : Nat) (st : List zV) (S : zS) (I : zM) (Q : zV → zS → zM → Prop) : Wp 10 21 [l0, l1] (vR x :: st) S I Q ↔ Wp 10 22 [l0, l1] (vR x :: vR x :: st) S I Q := Wp_dup (by decide +kernel : decode (bk 10) 21 = .ok (.dup, 1)) rfl
theorem w10_22 (l0 l1 : zV) (st : List zV) (S : zS) (I : zM) (Q : zV → zS → zM → Prop) : Wp 10 22 [l0, l1] st S I Q ↔ Wp 10 24 [l0, l1] (vI 16 :: st) S I Q := Wp_bipush (by decide +kernel : decode (bk 10) 22 = .ok (.bipush 16, 2)) (by decide)
theorem w10_24 (l0 l1 : zV) (x0 : Int) (a : Nat) (r0 : Nat) (r1 : Nat) (S : zS) (I : zM) (Q : zV → zS → zM → Prop) : Wp 10 24 [l0, l1] (vI x0 :: vR a :: [vR r0, vR r1]) S I Q ↔ kd S a = 7 ∧ Wp 5 0 [vR a, vI x0] [] S I (fun r S1 I1 => Wp 10 27 [l0, l1] (zpu r [vR r0, vR r1]) S1 I1 Q) := Wp_ci (by decide +kernel : decode (bk 10) 24 = .ok (.invokespecial 13, 3)) (by decide +kernel : lkk (ok 10) 13 = some (0, 5)) (by decide +kernel) (n := 1) (by decide +kernel) (c := 7) (by decide +kernel) rfl rfl (by decide +kernel) (Nat.le_of_ble_eq_true rfl) ⟨(Nat.le_of_ble_eq_true rfl), Or.inr rfl⟩ rfl
theorem w10_27 (l0 l1 : zV) (b a : Nat) (st : List zV) (S : zS) (I : zM) (Q : zV → zS → zM → Prop) : Wp 10 27 [l0, l1] (vR b :: vR a :: st) S I Q ↔ kd S a = 12 ∧ Wp 10 30 [l0, l1] st (ss S a 2 (b + 1)) I Q := Wp_putR (by decide +kernel : decode (bk 10) 27 = .ok (.putfield 20, 3)) (by decide +kernel : fd (ok 10) 20 = some (10, 2)) (by decide +kernel)
theorem w10_30 (l1 : zV) (x : Nat) (st : List zV) (S : zS) (I : zM) (Q : zV → zS → zM → Prop) : Wp 10 30 [vR x, l1] st S I Q ↔ Wp 10 31 [vR x, l1] (vR x :: st) S I Q := Wp_aload_n (by decide +kernel : decode (bk 10) 30 = .ok (.aload_n 0, 1)) rfl
theorem w10_31 (l0 l1 : zV) (st : List zV) (S : zS) (I : zM) (Q : zV → zS → zM → Prop) : Wp 10 31 [l0, l1] st S I Q ↔ Wp 10 34 [l0, l1] (vR S.1.length :: st) (sp S (7, List.replicate 1 0)) (cz I S.1.length) Q := Wp_new (by decide +kernel : decode (bk 10) 31 = .ok (.new 9, 3)) (by decide +kernel : nw (ok 10) 9 = some 5) (by decide +kernel)
theorem w10_34 (l0 l1 : zV) (x : Nat) (st : List zV) (S : zS) (I : zM) (Q : zV → zS → zM → Prop) : Wp 10 34 [l0, l1] (vR x :: st) S I Q ↔ Wp 10 35 [l0, l1] (vR x :: vR x :: st) S I Q := Wp_dup (by decide +kernel : decode (bk 10) 34 = .ok (.dup, 1)) rfl
theorem w10_35 (l0 l1 : zV) (st : List zV) (S : zS) (I : zM) (Q : zV → zS → zM → Prop) : Wp 10 35 [l0, l1] st S I Q ↔ Wp 10 37 [l0, l1] (vI 16 :: st) S I Q := Wp_bipush (by decide +kernel : decode (bk 10) 35 = .ok (.bipush 16, 2)) (by decide)
theorem w10_37 (l0 l1 : zV) (x0 : Int) (a : Nat) (r0 : Nat) (r1 : Nat) (S : zS) (I : zM) (Q : zV → zS → zM → Prop) : Wp 10 37 [l0, l1] (vI x0 :: vR a :: [vR r0, vR r1]) S I Q ↔ kd S a = 7 ∧ Wp 5 0 [vR a, vI x0] [] S I (fun r S1 I1 => Wp 10 40 [l0, l1] (zpu r [vR r0, vR r1]) S1 I1 Q) := Wp_ci (by decide +kernel : decode (bk 10) 37 = .ok (.invokespecial 13, 3)) (by decide +kernel : lkk (ok 10) 13 = some (0, 5)) (by decide +kernel) (n := 1) (by decide +kernel) (c := 7) (by decide +kernel) rfl rfl (by decide +kernel) (Nat.le_of_ble_eq_true rfl) ⟨(Nat.le_of_ble_eq_true rfl), Or.inr rfl⟩ rfl
theorem w10_40 (l0 l1 : zV) (b a : Nat) (st : List zV) (S : zS) (I : zM) (Q : zV → zS → zM → Prop) : Wp 10 40 [l0, l1] (vR b :: vR a :: st) S I Q ↔ kd S a = 12 ∧ Wp 10 43 [l0, l1] st (ss S a 3 (b + 1)) I Q := Wp_putR (by decide +kernel : decode (bk 10) 40 = .ok (.putfield 23, 3)) (by decide +kernel : fd (ok 10) 23 = some (10, 3)) (by decide +kernel)
theorem w10_43 (l1 : zV) (x : Nat) (st : List zV) (S : zS) (I : zM) (Q : zV → zS → zM → Prop) : Wp 10 43 [vR x, l1] st S I Q ↔ Wp 10 44 [vR x, l1] (vR x :: st) S I Q := Wp_aload_n (by decide +kernel : decode (bk 10) 43 = .ok (.aload_n 0, 1)) rfl
theorem w10_44 (l0 l1 : zV) (st : List zV) (S : zS) (I : zM) (Q : zV → zS → zM → Prop) : Wp 10 44 [l0, l1] st S I Q ↔ Wp 10 47 [l0, l1] (vR S.1.length :: st) (sp S (10, List.replicate 3 0)) (cz I S.1.length) Q := Wp_new (by decide +kernel : decode (bk 10) 44 = .ok (.new 26, 3)) (by decide +kernel : nw (ok 10) 26 = some 8) (by decide +kernel)
theorem w10_47 (l0 l1 : zV) (x : Nat) (st : List zV) (S : zS) (I : zM) (Q : zV → zS → zM → Prop) : Wp 10 47 [l0, l1] (vR x :: st) S I Q ↔ Wp 10 48 [l0, l1] (vR x :: vR x :: st) S I Q := Wp_dup (by decide +kernel : decode (bk 10) 47 = .ok (.dup, 1)) rfl
theorem w10_48 (l0 l1 : zV) (st : List zV) (S : zS) (I : zM) (Q : zV → zS → zM → Prop) : Wp 10 48 [l0, l1] st S I Q ↔ Wp 10 50 [l0, l1] (vI 16 :: st) S I Q := Wp_bipush (by decide +kernel : decode (bk 10) 48 = .ok (.bipush 16, 2)) (by decide)
theorem w10_50 (l0 l1 : zV) (st : List zV) (S : zS) (I : zM) (Q : zV → zS → zM → Prop) : Wp 10 50 [l0, l1] st S I Q ↔ Wp 10 52 [l0, l1] (vI 12 :: st) S I Q := Wp_bipush (by decide +kernel : decode (bk 10) 50 = .ok (.bipush 12, 2)) (by decide)
theorem w10_52 (l0 l1 : zV) (x0 : Int) (x1 : Int) (a : Nat) (r0 : Nat) (r1 : Nat) (S : zS) (I : zM) (Q : zV → zS → zM → Prop) : Wp 10 52 [l0, l1] (vI x1 :: vI x0 :: vR a :: [vR r0, vR r1]) S I Q ↔ kd S a = 10 ∧ Wp 8 0 [vR a, vI x0, vI x1, vU] [] S I (fun r S1 I1 => Wp 10 55 [l0, l1] (zpu r [vR r0, vR r1]) S1 I1 Q) := Wp_ci (by decide +kernel : decode (bk 10) 52 = .ok (.invokespecial 28, 3)) (by decide +kernel : lkk (ok 10) 28 = some (0, 8)) (by decide +kernel) (n := 2) (by decide +kernel) (c := 10) (by decide +kernel) rfl rfl (by decide +kernel) (Nat.le_of_ble_eq_true rfl) ⟨(Nat.le_of_ble_eq_true rfl), Or.inr rfl⟩ rfl
theorem w10_55 (l0 l1 : zV) (b a : Nat) (st : List zV) (S : zS) (I : zM) (Q : zV → zS → zM → Prop) : Wp 10 55 [l0, l1] (vR b :: vR a :: st) S I Q ↔ kd S a = 12 ∧ Wp 10 58 [l0, l1] st (ss S a 4 (b + 1)) I Q := Wp_putR (by decide +kernel : decode (bk 10) 55 = .ok (.putfield 31, 3)) (by decide +kernel : fd (ok 10) 31 = some (10, 4)) (by decide +kernel)
theorem w10_58 (l1 : zV) (x : Nat) (st : List zV) (S : zS) (I : zM) (Q : zV → zS → zM → Prop) : Wp 10 58 [vR x, l1] st S I Q ↔ Wp 10 59 [vR x, l1] (vR x :: st) S I Q := Wp_aload_n (by decide +kernel : decode (bk 10) 58 = .ok (.aload_n 0, 1)) rfl
theorem w10_59 (l0 l1 : zV) (st : List zV) (S : zS) (I : zM) (Q : zV → zS → zM → Prop) : Wp 10 59 [l0, l1] st S I Q ↔ Wp 10 62 [l0, l1] (vR S.1.length :: st) (sp S (10, List.replicate 3 0)) (cz I S.1.length) Q := Wp_new (by decide +kernel : decode (bk 10) 59 = .ok (.new 26, 3)) (by decide +kernel : nw (ok 10) 26 = some 8) (by decide +kernel)
theorem w10_62 (l0 l1 : zV) (x : Nat) (st : List zV) (S : zS) (I : zM) (Q : zV → zS → zM → Prop) : Wp 10 62 [l0, l1] (vR x :: st) S I Q ↔ Wp 10 63 [l0, l1] (vR x :: vR x :: st) S I Q := Wp_dup (by decide +kernel : decode (bk 10) 62 = .ok (.dup, 1)) rfl
theorem w10_63 (l0 l1 : zV) (st : List zV) (S : zS) (I : zM) (Q : zV → zS → zM → Prop) : Wp 10 63 [l0, l1] st S I Q ↔ Wp 10 65 [l0, l1] (vI 16 :: st) S I Q := Wp_bipush (by decide +kernel : decode (bk 10) 63 = .ok (.bipush 16, 2)) (by decide)
theorem w10_65 (l0 l1 : zV) (st : List zV) (S : zS) (I : zM) (Q : zV → zS → zM → Prop) : Wp 10 65 [l0, l1] st S I Q ↔ Wp 10 66 [l0, l1] (vI 2 :: st) S I Q := Wp_iconst (by decide +kernel : decode (bk 10) 65 = .ok (.iconst 2, 1)) (by decide)
theorem w10_66 (l0 l1 : zV) (x0 : Int) (x1 : Int) (a : Nat) (r0 : Nat) (r1 : Nat) (S : zS) (I : zM) (Q : zV → zS → zM → Prop) : Wp 10 66 [l0, l1] (vI x1 :: vI x0 :: vR a :: [vR r0, vR r1]) S I Q ↔ kd S a = 10 ∧ Wp 8 0 [vR a, vI x0, vI x1, vU] [] S I (fun r S1 I1 => Wp 10 69 [l0, l1] (zpu r [vR r0, vR r1]) S1 I1 Q) := Wp_ci (by decide +kernel : decode (bk 10) 66 = .ok (.invokespecial 28, 3)) (by decide +kernel : lkk (ok 10) 28 = some (0, 8)) (by decide +kernel) (n := 2) (by decide +kernel) (c := 10) (by decide +kernel) rfl rfl (by decide +kernel) (Nat.le_of_ble_eq_true rfl) ⟨(Nat.le_of_ble_eq_true rfl), Or.inr rfl⟩ rfl
theorem w10_69 (l0 l1 : zV) (b a : Nat) (st : List zV) (S : zS) (I : zM) (Q : zV → zS → zM → Prop) : Wp 10 69 [l0, l1] (vR b :: vR a :: st) S I Q ↔ kd S a = 12 ∧ Wp 10 72 [l0, l1] st (ss S a 5 (b + 1)) I Q := Wp_putR (by decide +kernel : decode (bk 10) 69 = .ok (.putfield 35, 3)) (by decide +kernel : fd (ok 10) 35 = some (10, 5)) (by decide +kernel)
theorem w10_72 (l1 : zV) (x : Nat) (st : List zV) (S : zS) (I : zM) (Q : zV → zS → zM → Prop) : Wp 10 72 [vR x, l1] st S I Q ↔ Wp 10 73 [vR x, l1] (vR x :: st) S I Q := Wp_aload_n (by decide +kernel : decode (bk 10) 72 = .ok (.aload_n 0, 1)) rfl
theorem w10_73 (l0 l1 : zV) (st : List zV) (S : zS) (I : zM) (Q : zV → zS → zM → Prop) : Wp 10 73 [l0, l1] st S I Q ↔ Wp 10 76 [l0, l1] (vR S.1.length :: st) (sp S (10, List.replicate 3 0)) (cz I S.1.length) Q := Wp_new (by decide +kernel : decode (bk 10) 73 = .ok (.new 26, 3)) (by decide +kernel : nw (ok 10) 26 = some 8) (by decide +kernel)
theorem w10_76 (l0 l1 : zV) (x : Nat) (st : List zV) (S : zS) (I : zM) (Q : zV → zS → zM → Prop) : Wp 10 76 [l0, l1] (vR x :: st) S I Q ↔ Wp 10 77 [l0, l1] (vR x :: vR x :: st) S I Q := Wp_dup (by decide +kernel : decode (bk 10) 76 = .ok (.dup, 1)) rfl
theorem w10_77 (l0 l1 : zV) (st : List zV) (S : zS) (I : zM) (Q : zV → zS → zM → Prop) : Wp 10 77 [l0, l1] st S I Q ↔ Wp 10 78 [l0, l1] (vI 2 :: st) S I Q := Wp_iconst (by decide +kernel : decode (bk 10) 77 = .ok (.iconst 2, 1)) (by decide)
theorem w10_78 (l0 l1 : zV) (st : List zV) (S : zS) (I : zM) (Q : zV → zS → zM → Prop) : Wp 10 78 [l0, l1] st S I Q ↔ Wp 10 80 [l0, l1] (vI 8 :: st) S I Q := Wp_bipush (by decide +kernel : decode (bk 10) 78 = .ok (.bipush 8, 2)) (by decide)
theorem w10_80 (l0 l1 : zV) (x0 : Int) (x1 : Int) (a : Nat) (r0 : Nat) (r1 : Nat) (S : zS) (I : zM) (Q : zV → zS → zM → Prop) : Wp 10 80 [l0, l1] (vI x1 :: vI x0 :: vR a :: [vR r0, vR r1]) S I Q ↔ kd S a = 10 ∧ Wp 8 0 [vR a, vI x0, vI x1, vU] [] S I (fun r S1 I1 => Wp 10 83 [l0, l1] (zpu r [vR r0, vR r1]) S1 I1 Q) := Wp_ci (by decide +kernel : decode (bk 10) 80 = .ok (.invokespecial 28, 3)) (by decide +kernel : lkk (ok 10) 28 = some (0, 8)) (by decide +kernel) (n := 2) (by decide +kernel) (c := 10) (by decide +kernel) rfl rfl (by decide +kernel) (Nat.le_of_ble_eq_true rfl) ⟨(Nat.le_of_ble_eq_true rfl), Or.inr rfl⟩ rfl
theorem w10_83 (l0 l1 : zV) (b a : Nat) (st : List zV) (S : zS) (I : zM) (Q : zV → zS → zM → Prop) : Wp 10 83 [l0, l1] (vR b :: vR a :: st) S I Q ↔ kd S a = 12 ∧ Wp 10 86 [l0, l1] st (ss S a 6 (b + 1)) I Q := Wp_putR (by decide +kernel : decode (bk 10) 83 = .ok (.putfield 38, 3)) (by decide +kernel : fd (ok 10) 38 = some (10, 6)) (by decide +kernel)
theorem w10_86 (l1 : zV) (x : Nat) (st : List zV) (S : zS) (I : zM) (Q : zV → zS → zM → Prop) : Wp 10 86 [vR x, l1] st S I Q ↔ Wp 10 87 [vR x, l1] (vR x :: st) S I Q := Wp_aload_n (by decide +kernel : decode (bk 10) 86 = .ok (.aload_n 0, 1)) rfl
theorem w10_87 (l0 : zV) (x : Int) (st : List zV) (S : zS) (I : zM) (Q : zV → zS → zM → Prop) : Wp 10 87 [l0, vI x] st S I Q ↔ Wp 10 88 [l0, vI x] (vI x :: st) S I Q := Wp_iload_n (by decide +kernel : decode (bk 10) 87 = .ok (.iload_n 1, 1)) rfl
theorem w10_88 (l0 l1 : zV) (x : Int) (a : Nat) (st : List zV) (S : zS) (I : zM) (Q : zV → zS → zM → Prop) : Wp 10 88 [l0, l1] (vI x :: vR a :: st) S I Q ↔ (kd S a = 12 ∧ (x = 0 ∨ x = 1)) ∧ Wp 10 91 [l0, l1] st (ss S a 0 x.toNat) I Q := Wp_putG (by decide +kernel : decode (bk 10) 88 = .ok (.putfield 41, 3)) (by decide +kernel : fd (ok 10) 41 = some (10, 0)) (by decide +kernel) (by decide +kernel)
theorem w10_91 (l0 l1 : zV)  (S : zS) (I : zM) (Q : zV → zS → zM → Prop) : Wp 10 91 [l0, l1] [] S I Q ↔ Q vU S I := Wp_return (by decide +kernel : decode (bk 10) 91 = .ok (.return_, 1)) (by decide +kernel)
-- 4 ClauseDrafts$Image <init>()V
theorem w4_0 (x : Nat) (st : List zV) (S : zS) (I : zM) (Q : zV → zS → zM → Prop) : Wp 4 0 [vR x] st S I Q ↔ Wp 4 1 [vR x] (vR x :: st) S I Q := Wp_aload_n (by decide +kernel : decode (bk 4) 0 = .ok (.aload_n 0, 1)) rfl
theorem w4_1 (l0 : zV) (a : Nat)  (S : zS) (I : zM) (Q : zV → zS → zM → Prop) : Wp 4 1 [l0] (vR a :: []) S I Q ↔ Wp 4 4 [l0] [] S I Q := Wp_ob (by decide +kernel : decode (bk 4) 1 = .ok (.invokespecial 3, 3)) (by decide +kernel : lkk (ok 4) 3 = some (2, 0)) ⟨by decide +kernel, Nat.le_of_ble_eq_true rfl⟩
theorem w4_4 (x : Nat) (st : List zV) (S : zS) (I : zM) (Q : zV → zS → zM → Prop) : Wp 4 4 [vR x] st S I Q ↔ Wp 4 5 [vR x] (vR x :: st) S I Q := Wp_aload_n (by decide +kernel : decode (bk 4) 4 = .ok (.aload_n 0, 1)) rfl
theorem w4_5 (l0 : zV) (st : List zV) (S : zS) (I : zM) (Q : zV → zS → zM → Prop) : Wp 4 5 [l0] st S I Q ↔ Wp 4 8 [l0] (vR S.1.length :: st) (sp S (5, List.replicate 3 0)) (cz I S.1.length) Q := Wp_new (by decide +kernel : decode (bk 4) 5 = .ok (.new 9, 3)) (by decide +kernel : nw (ok 4) 9 = some 3) (by decide +kernel)
theorem w4_8 (l0 : zV) (x : Nat) (st : List zV) (S : zS) (I : zM) (Q : zV → zS → zM → Prop) : Wp 4 8 [l0] (vR x :: st) S I Q ↔ Wp 4 9 [l0] (vR x :: vR x :: st) S I Q := Wp_dup (by decide +kernel : decode (bk 4) 8 = .ok (.dup, 1)) rfl
theorem w4_9 (l0 : zV) (a : Nat) (r0 : Nat) (r1 : Nat) (S : zS) (I : zM) (Q : zV → zS → zM → Prop) : Wp 4 9 [l0] (vR a :: [vR r0, vR r1]) S I Q ↔ kd S a = 5 ∧ Wp 3 0 [vR a] [] S I (fun r S1 I1 => Wp 4 12 [l0] (zpu r [vR r0, vR r1]) S1 I1 Q) := Wp_ci (by decide +kernel : decode (bk 4) 9 = .ok (.invokespecial 11, 3)) (by decide +kernel : lkk (ok 4) 11 = some (1, 3)) (by decide +kernel) (n := 0) (by decide +kernel) (c := 5) (by decide +kernel) rfl rfl (by decide +kernel) (Nat.le_of_ble_eq_true rfl) ⟨(Nat.le_of_ble_eq_true rfl), Or.inr rfl⟩ rfl
theorem w4_12 (l0 : zV) (b a : Nat) (st : List zV) (S : zS) (I : zM) (Q : zV → zS → zM → Prop) : Wp 4 12 [l0] (vR b :: vR a :: st) S I Q ↔ kd S a = 6 ∧ Wp 4 15 [l0] st (ss S a 0 (b + 1)) I Q := Wp_putR (by decide +kernel : decode (bk 4) 12 = .ok (.putfield 12, 3)) (by decide +kernel : fd (ok 4) 12 = some (4, 0)) (by decide +kernel)
theorem w4_15 (x : Nat) (st : List zV) (S : zS) (I : zM) (Q : zV → zS → zM → Prop) : Wp 4 15 [vR x] st S I Q ↔ Wp 4 16 [vR x] (vR x :: st) S I Q := Wp_aload_n (by decide +kernel : decode (bk 4) 15 = .ok (.aload_n 0, 1)) rfl
theorem w4_16 (l0 : zV) (st : List zV) (S : zS) (I : zM) (Q : zV → zS → zM → Prop) : Wp 4 16 [l0] st S I Q ↔ Wp 4 19 [l0] (vR S.1.length :: st) (sp S (7, List.replicate 1 0)) (cz I S.1.length) Q := Wp_new (by decide +kernel : decode (bk 4) 16 = .ok (.new 18, 3)) (by decide +kernel : nw (ok 4) 18 = some 5) (by decide +kernel)
theorem w4_19 (l0 : zV) (x : Nat) (st : List zV) (S : zS) (I : zM) (Q : zV → zS → zM → Prop) : Wp 4 19 [l0] (vR x :: st) S I Q ↔ Wp 4 20 [l0] (vR x :: vR x :: st) S I Q := Wp_dup (by decide +kernel : decode (bk 4) 19 = .ok (.dup, 1)) rfl
theorem w4_20 (l0 : zV) (st : List zV) (S : zS) (I : zM) (Q : zV → zS → zM → Prop) : Wp 4 20 [l0] st S I Q ↔ Wp 4 22 [l0] (vI 120 :: st) S I Q := Wp_bipush (by decide +kernel : decode (bk 4) 20 = .ok (.bipush 120, 2)) (by decide)
theorem w4_22 (l0 : zV) (x0 : Int) (a : Nat) (r0 : Nat) (r1 : Nat) (S : zS) (I : zM) (Q : zV → zS → zM → Prop) : Wp 4 22 [l0] (vI x0 :: vR a :: [vR r0, vR r1]) S I Q ↔ kd S a = 7 ∧ Wp 5 0 [vR a, vI x0] [] S I (fun r S1 I1 => Wp 4 25 [l0] (zpu r [vR r0, vR r1]) S1 I1 Q) := Wp_ci (by decide +kernel : decode (bk 4) 22 = .ok (.invokespecial 20, 3)) (by decide +kernel : lkk (ok 4) 20 = some (0, 5)) (by decide +kernel) (n := 1) (by decide +kernel) (c := 7) (by decide +kernel) rfl rfl (by decide +kernel) (Nat.le_of_ble_eq_true rfl) ⟨(Nat.le_of_ble_eq_true rfl), Or.inr rfl⟩ rfl
theorem w4_25 (l0 : zV) (b a : Nat) (st : List zV) (S : zS) (I : zM) (Q : zV → zS → zM → Prop) : Wp 4 25 [l0] (vR b :: vR a :: st) S I Q ↔ kd S a = 6 ∧ Wp 4 28 [l0] st (ss S a 1 (b + 1)) I Q := Wp_putR (by decide +kernel : decode (bk 4) 25 = .ok (.putfield 23, 3)) (by decide +kernel : fd (ok 4) 23 = some (4, 1)) (by decide +kernel)
theorem w4_28 (l0 : zV)  (S : zS) (I : zM) (Q : zV → zS → zM → Prop) : Wp 4 28 [l0] [] S I Q ↔ Q vU S I := Wp_return (by decide +kernel : decode (bk 4) 28 = .ok (.return_, 1)) (by decide +kernel)
-- 7 ClauseDrafts$Sheets <init>()V
theorem w7_0 (x : Nat) (st : List zV) (S : zS) (I : zM) (Q : zV → zS → zM → Prop) : Wp 7 0 [vR x] st S I Q ↔ Wp 7 1 [vR x] (vR x :: st) S I Q := Wp_aload_n (by decide +kernel : decode (bk 7) 0 = .ok (.aload_n 0, 1)) rfl
theorem w7_1 (l0 : zV) (a : Nat)  (S : zS) (I : zM) (Q : zV → zS → zM → Prop) : Wp 7 1 [l0] (vR a :: []) S I Q ↔ Wp 7 4 [l0] [] S I Q := Wp_ob (by decide +kernel : decode (bk 7) 1 = .ok (.invokespecial 1, 3)) (by decide +kernel : lkk (ok 7) 1 = some (2, 0)) ⟨by decide +kernel, Nat.le_of_ble_eq_true rfl⟩
theorem w7_4 (x : Nat) (st : List zV) (S : zS) (I : zM) (Q : zV → zS → zM → Prop) : Wp 7 4 [vR x] st S I Q ↔ Wp 7 5 [vR x] (vR x :: st) S I Q := Wp_aload_n (by decide +kernel : decode (bk 7) 4 = .ok (.aload_n 0, 1)) rfl
theorem w7_5 (l0 : zV) (st : List zV) (S : zS) (I : zM) (Q : zV → zS → zM → Prop) : Wp 7 5 [l0] st S I Q ↔ Wp 7 8 [l0] (vR S.1.length :: st) (sp S (7, List.replicate 1 0)) (cz I S.1.length) Q := Wp_new (by decide +kernel : decode (bk 7) 5 = .ok (.new 7, 3)) (by decide +kernel : nw (ok 7) 7 = some 5) (by decide +kernel)
theorem w7_8 (l0 : zV) (x : Nat) (st : List zV) (S : zS) (I : zM) (Q : zV → zS → zM → Prop) : Wp 7 8 [l0] (vR x :: st) S I Q ↔ Wp 7 9 [l0] (vR x :: vR x :: st) S I Q := Wp_dup (by decide +kernel : decode (bk 7) 8 = .ok (.dup, 1)) rfl
theorem w7_9 (l0 : zV) (st : List zV) (S : zS) (I : zM) (Q : zV → zS → zM → Prop) : Wp 7 9 [l0] st S I Q ↔ Wp 7 10 [l0] (vI 4 :: st) S I Q := Wp_iconst (by decide +kernel : decode (bk 7) 9 = .ok (.iconst 4, 1)) (by decide)
theorem w7_10 (l0 : zV) (x0 : Int) (a : Nat) (r0 : Nat) (r1 : Nat) (S : zS) (I : zM) (Q : zV → zS → zM → Prop) : Wp 7 10 [l0] (vI x0 :: vR a :: [vR r0, vR r1]) S I Q ↔ kd S a = 7 ∧ Wp 5 0 [vR a, vI x0] [] S I (fun r S1 I1 => Wp 7 13 [l0] (zpu r [vR r0, vR r1]) S1 I1 Q) := Wp_ci (by decide +kernel : decode (bk 7) 10 = .ok (.invokespecial 11, 3)) (by decide +kernel : lkk (ok 7) 11 = some (0, 5)) (by decide +kernel) (n := 1) (by decide +kernel) (c := 7) (by decide +kernel) rfl rfl (by decide +kernel) (Nat.le_of_ble_eq_true rfl) ⟨(Nat.le_of_ble_eq_true rfl), Or.inr rfl⟩ rfl
theorem w7_13 (l0 : zV) (b a : Nat) (st : List zV) (S : zS) (I : zM) (Q : zV → zS → zM → Prop) : Wp 7 13 [l0] (vR b :: vR a :: st) S I Q ↔ kd S a = 9 ∧ Wp 7 16 [l0] st (ss S a 0 (b + 1)) I Q := Wp_putR (by decide +kernel : decode (bk 7) 13 = .ok (.putfield 14, 3)) (by decide +kernel : fd (ok 7) 14 = some (7, 0)) (by decide +kernel)
theorem w7_16 (x : Nat) (st : List zV) (S : zS) (I : zM) (Q : zV → zS → zM → Prop) : Wp 7 16 [vR x] st S I Q ↔ Wp 7 17 [vR x] (vR x :: st) S I Q := Wp_aload_n (by decide +kernel : decode (bk 7) 16 = .ok (.aload_n 0, 1)) rfl
theorem w7_17 (l0 : zV) (st : List zV) (S : zS) (I : zM) (Q : zV → zS → zM → Prop) : Wp 7 17 [l0] st S I Q ↔ Wp 7 20 [l0] (vR S.1.length :: st) (sp S (7, List.replicate 1 0)) (cz I S.1.length) Q := Wp_new (by decide +kernel : decode (bk 7) 17 = .ok (.new 7, 3)) (by decide +kernel : nw (ok 7) 7 = some 5) (by decide +kernel)
theorem w7_20 (l0 : zV) (x : Nat) (st : List zV) (S : zS) (I : zM) (Q : zV → zS → zM → Prop) : Wp 7 20 [l0] (vR x :: st) S I Q ↔ Wp 7 21 [l0] (vR x :: vR x :: st) S I Q := Wp_dup (by decide +kernel : decode (bk 7) 20 = .ok (.dup, 1)) rfl
theorem w7_21 (l0 : zV) (st : List zV) (S : zS) (I : zM) (Q : zV → zS → zM → Prop) : Wp 7 21 [l0] st S I Q ↔ Wp 7 22 [l0] (vI 4 :: st) S I Q := Wp_iconst (by decide +kernel : decode (bk 7) 21 = .ok (.iconst 4, 1)) (by decide)
theorem w7_22 (l0 : zV) (x0 : Int) (a : Nat) (r0 : Nat) (r1 : Nat) (S : zS) (I : zM) (Q : zV → zS → zM → Prop) : Wp 7 22 [l0] (vI x0 :: vR a :: [vR r0, vR r1]) S I Q ↔ kd S a = 7 ∧ Wp 5 0 [vR a, vI x0] [] S I (fun r S1 I1 => Wp 7 25 [l0] (zpu r [vR r0, vR r1]) S1 I1 Q) := Wp_ci (by decide +kernel : decode (bk 7) 22 = .ok (.invokespecial 11, 3)) (by decide +kernel : lkk (ok 7) 11 = some (0, 5)) (by decide +kernel) (n := 1) (by decide +kernel) (c := 7) (by decide +kernel) rfl rfl (by decide +kernel) (Nat.le_of_ble_eq_true rfl) ⟨(Nat.le_of_ble_eq_true rfl), Or.inr rfl⟩ rfl
theorem w7_25 (l0 : zV) (b a : Nat) (st : List zV) (S : zS) (I : zM) (Q : zV → zS → zM → Prop) : Wp 7 25 [l0] (vR b :: vR a :: st) S I Q ↔ kd S a = 9 ∧ Wp 7 28 [l0] st (ss S a 1 (b + 1)) I Q := Wp_putR (by decide +kernel : decode (bk 7) 25 = .ok (.putfield 18, 3)) (by decide +kernel : fd (ok 7) 18 = some (7, 1)) (by decide +kernel)
theorem w7_28 (x : Nat) (st : List zV) (S : zS) (I : zM) (Q : zV → zS → zM → Prop) : Wp 7 28 [vR x] st S I Q ↔ Wp 7 29 [vR x] (vR x :: st) S I Q := Wp_aload_n (by decide +kernel : decode (bk 7) 28 = .ok (.aload_n 0, 1)) rfl
theorem w7_29 (l0 : zV) (st : List zV) (S : zS) (I : zM) (Q : zV → zS → zM → Prop) : Wp 7 29 [l0] st S I Q ↔ Wp 7 32 [l0] (vR S.1.length :: st) (sp S (7, List.replicate 1 0)) (cz I S.1.length) Q := Wp_new (by decide +kernel : decode (bk 7) 29 = .ok (.new 7, 3)) (by decide +kernel : nw (ok 7) 7 = some 5) (by decide +kernel)
theorem w7_32 (l0 : zV) (x : Nat) (st : List zV) (S : zS) (I : zM) (Q : zV → zS → zM → Prop) : Wp 7 32 [l0] (vR x :: st) S I Q ↔ Wp 7 33 [l0] (vR x :: vR x :: st) S I Q := Wp_dup (by decide +kernel : decode (bk 7) 32 = .ok (.dup, 1)) rfl
theorem w7_33 (l0 : zV) (st : List zV) (S : zS) (I : zM) (Q : zV → zS → zM → Prop) : Wp 7 33 [l0] st S I Q ↔ Wp 7 34 [l0] (vI 4 :: st) S I Q := Wp_iconst (by decide +kernel : decode (bk 7) 33 = .ok (.iconst 4, 1)) (by decide)
theorem w7_34 (l0 : zV) (x0 : Int) (a : Nat) (r0 : Nat) (r1 : Nat) (S : zS) (I : zM) (Q : zV → zS → zM → Prop) : Wp 7 34 [l0] (vI x0 :: vR a :: [vR r0, vR r1]) S I Q ↔ kd S a = 7 ∧ Wp 5 0 [vR a, vI x0] [] S I (fun r S1 I1 => Wp 7 37 [l0] (zpu r [vR r0, vR r1]) S1 I1 Q) := Wp_ci (by decide +kernel : decode (bk 7) 34 = .ok (.invokespecial 11, 3)) (by decide +kernel : lkk (ok 7) 11 = some (0, 5)) (by decide +kernel) (n := 1) (by decide +kernel) (c := 7) (by decide +kernel) rfl rfl (by decide +kernel) (Nat.le_of_ble_eq_true rfl) ⟨(Nat.le_of_ble_eq_true rfl), Or.inr rfl⟩ rfl
theorem w7_37 (l0 : zV) (b a : Nat) (st : List zV) (S : zS) (I : zM) (Q : zV → zS → zM → Prop) : Wp 7 37 [l0] (vR b :: vR a :: st) S I Q ↔ kd S a = 9 ∧ Wp 7 40 [l0] st (ss S a 2 (b + 1)) I Q := Wp_putR (by decide +kernel : decode (bk 7) 37 = .ok (.putfield 21, 3)) (by decide +kernel : fd (ok 7) 21 = some (7, 2)) (by decide +kernel)
theorem w7_40 (x : Nat) (st : List zV) (S : zS) (I : zM) (Q : zV → zS → zM → Prop) : Wp 7 40 [vR x] st S I Q ↔ Wp 7 41 [vR x] (vR x :: st) S I Q := Wp_aload_n (by decide +kernel : decode (bk 7) 40 = .ok (.aload_n 0, 1)) rfl
theorem w7_41 (l0 : zV) (st : List zV) (S : zS) (I : zM) (Q : zV → zS → zM → Prop) : Wp 7 41 [l0] st S I Q ↔ Wp 7 44 [l0] (vR S.1.length :: st) (sp S (10, List.replicate 3 0)) (cz I S.1.length) Q := Wp_new (by decide +kernel : decode (bk 7) 41 = .ok (.new 24, 3)) (by decide +kernel : nw (ok 7) 24 = some 8) (by decide +kernel)
theorem w7_44 (l0 : zV) (x : Nat) (st : List zV) (S : zS) (I : zM) (Q : zV → zS → zM → Prop) : Wp 7 44 [l0] (vR x :: st) S I Q ↔ Wp 7 45 [l0] (vR x :: vR x :: st) S I Q := Wp_dup (by decide +kernel : decode (bk 7) 44 = .ok (.dup, 1)) rfl
theorem w7_45 (l0 : zV) (st : List zV) (S : zS) (I : zM) (Q : zV → zS → zM → Prop) : Wp 7 45 [l0] st S I Q ↔ Wp 7 46 [l0] (vI 4 :: st) S I Q := Wp_iconst (by decide +kernel : decode (bk 7) 45 = .ok (.iconst 4, 1)) (by decide)
theorem w7_46 (l0 : zV) (st : List zV) (S : zS) (I : zM) (Q : zV → zS → zM → Prop) : Wp 7 46 [l0] st S I Q ↔ Wp 7 48 [l0] (vI 20 :: st) S I Q := Wp_bipush (by decide +kernel : decode (bk 7) 46 = .ok (.bipush 20, 2)) (by decide)
theorem w7_48 (l0 : zV) (x0 : Int) (x1 : Int) (a : Nat) (r0 : Nat) (r1 : Nat) (S : zS) (I : zM) (Q : zV → zS → zM → Prop) : Wp 7 48 [l0] (vI x1 :: vI x0 :: vR a :: [vR r0, vR r1]) S I Q ↔ kd S a = 10 ∧ Wp 8 0 [vR a, vI x0, vI x1, vU] [] S I (fun r S1 I1 => Wp 7 51 [l0] (zpu r [vR r0, vR r1]) S1 I1 Q) := Wp_ci (by decide +kernel : decode (bk 7) 48 = .ok (.invokespecial 26, 3)) (by decide +kernel : lkk (ok 7) 26 = some (0, 8)) (by decide +kernel) (n := 2) (by decide +kernel) (c := 10) (by decide +kernel) rfl rfl (by decide +kernel) (Nat.le_of_ble_eq_true rfl) ⟨(Nat.le_of_ble_eq_true rfl), Or.inr rfl⟩ rfl
theorem w7_51 (l0 : zV) (b a : Nat) (st : List zV) (S : zS) (I : zM) (Q : zV → zS → zM → Prop) : Wp 7 51 [l0] (vR b :: vR a :: st) S I Q ↔ kd S a = 9 ∧ Wp 7 54 [l0] st (ss S a 3 (b + 1)) I Q := Wp_putR (by decide +kernel : decode (bk 7) 51 = .ok (.putfield 29, 3)) (by decide +kernel : fd (ok 7) 29 = some (7, 3)) (by decide +kernel)
theorem w7_54 (l0 : zV)  (S : zS) (I : zM) (Q : zV → zS → zM → Prop) : Wp 7 54 [l0] [] S I Q ↔ Q vU S I := Wp_return (by decide +kernel : decode (bk 7) 54 = .ok (.return_, 1)) (by decide +kernel)
-- 11 ClauseDrafts <init>()V
theorem w11_0 (x : Nat) (st : List zV) (S : zS) (I : zM) (Q : zV → zS → zM → Prop) : Wp 11 0 [vR x] st S I Q ↔ Wp 11 1 [vR x] (vR x :: st) S I Q := Wp_aload_n (by decide +kernel : decode (bk 11) 0 = .ok (.aload_n 0, 1)) rfl
theorem w11_1 (l0 : zV) (a : Nat)  (S : zS) (I : zM) (Q : zV → zS → zM → Prop) : Wp 11 1 [l0] (vR a :: []) S I Q ↔ Wp 11 4 [l0] [] S I Q := Wp_ob (by decide +kernel : decode (bk 11) 1 = .ok (.invokespecial 3, 3)) (by decide +kernel : lkk (ok 11) 3 = some (2, 0)) ⟨by decide +kernel, Nat.le_of_ble_eq_true rfl⟩
theorem w11_4 (x : Nat) (st : List zV) (S : zS) (I : zM) (Q : zV → zS → zM → Prop) : Wp 11 4 [vR x] st S I Q ↔ Wp 11 5 [vR x] (vR x :: st) S I Q := Wp_aload_n (by decide +kernel : decode (bk 11) 4 = .ok (.aload_n 0, 1)) rfl
theorem w11_5 (l0 : zV) (st : List zV) (S : zS) (I : zM) (Q : zV → zS → zM → Prop) : Wp 11 5 [l0] st S I Q ↔ Wp 11 8 [l0] (vR S.1.length :: st) (sp S (11, List.replicate 7 0)) (cz I S.1.length) Q := Wp_new (by decide +kernel : decode (bk 11) 5 = .ok (.new 9, 3)) (by decide +kernel : nw (ok 11) 9 = some 9) (by decide +kernel)
theorem w11_8 (l0 : zV) (x : Nat) (st : List zV) (S : zS) (I : zM) (Q : zV → zS → zM → Prop) : Wp 11 8 [l0] (vR x :: st) S I Q ↔ Wp 11 9 [l0] (vR x :: vR x :: st) S I Q := Wp_dup (by decide +kernel : decode (bk 11) 8 = .ok (.dup, 1)) rfl
theorem w11_9 (l0 : zV) (a : Nat) (r0 : Nat) (r1 : Nat) (S : zS) (I : zM) (Q : zV → zS → zM → Prop) : Wp 11 9 [l0] (vR a :: [vR r0, vR r1]) S I Q ↔ kd S a = 11 ∧ Wp 9 0 [vR a] [] S I (fun r S1 I1 => Wp 11 12 [l0] (zpu r [vR r0, vR r1]) S1 I1 Q) := Wp_ci (by decide +kernel : decode (bk 11) 9 = .ok (.invokespecial 11, 3)) (by decide +kernel : lkk (ok 11) 11 = some (1, 9)) (by decide +kernel) (n := 0) (by decide +kernel) (c := 11) (by decide +kernel) rfl rfl (by decide +kernel) (Nat.le_of_ble_eq_true rfl) ⟨(Nat.le_of_ble_eq_true rfl), Or.inr rfl⟩ rfl
theorem w11_12 (l0 : zV) (b a : Nat) (st : List zV) (S : zS) (I : zM) (Q : zV → zS → zM → Prop) : Wp 11 12 [l0] (vR b :: vR a :: st) S I Q ↔ kd S a = 13 ∧ Wp 11 15 [l0] st (ss S a 0 (b + 1)) I Q := Wp_putR (by decide +kernel : decode (bk 11) 12 = .ok (.putfield 12, 3)) (by decide +kernel : fd (ok 11) 12 = some (11, 0)) (by decide +kernel)
theorem w11_15 (x : Nat) (st : List zV) (S : zS) (I : zM) (Q : zV → zS → zM → Prop) : Wp 11 15 [vR x] st S I Q ↔ Wp 11 16 [vR x] (vR x :: st) S I Q := Wp_aload_n (by decide +kernel : decode (bk 11) 15 = .ok (.aload_n 0, 1)) rfl
theorem w11_16 (l0 : zV) (st : List zV) (S : zS) (I : zM) (Q : zV → zS → zM → Prop) : Wp 11 16 [l0] st S I Q ↔ Wp 11 19 [l0] (vR S.1.length :: st) (sp S (5, List.replicate 3 0)) (cz I S.1.length) Q := Wp_new (by decide +kernel : decode (bk 11) 16 = .ok (.new 16, 3)) (by decide +kernel : nw (ok 11) 16 = some 3) (by decide +kernel)
theorem w11_19 (l0 : zV) (x : Nat) (st : List zV) (S : zS) (I : zM) (Q : zV → zS → zM → Prop) : Wp 11 19 [l0] (vR x :: st) S I Q ↔ Wp 11 20 [l0] (vR x :: vR x :: st) S I Q := Wp_dup (by decide +kernel : decode (bk 11) 19 = .ok (.dup, 1)) rfl
theorem w11_20 (l0 : zV) (a : Nat) (r0 : Nat) (r1 : Nat) (S : zS) (I : zM) (Q : zV → zS → zM → Prop) : Wp 11 20 [l0] (vR a :: [vR r0, vR r1]) S I Q ↔ kd S a = 5 ∧ Wp 3 0 [vR a] [] S I (fun r S1 I1 => Wp 11 23 [l0] (zpu r [vR r0, vR r1]) S1 I1 Q) := Wp_ci (by decide +kernel : decode (bk 11) 20 = .ok (.invokespecial 18, 3)) (by decide +kernel : lkk (ok 11) 18 = some (1, 3)) (by decide +kernel) (n := 0) (by decide +kernel) (c := 5) (by decide +kernel) rfl rfl (by decide +kernel) (Nat.le_of_ble_eq_true rfl) ⟨(Nat.le_of_ble_eq_true rfl), Or.inr rfl⟩ rfl
theorem w11_23 (l0 : zV) (b a : Nat) (st : List zV) (S : zS) (I : zM) (Q : zV → zS → zM → Prop) : Wp 11 23 [l0] (vR b :: vR a :: st) S I Q ↔ kd S a = 13 ∧ Wp 11 26 [l0] st (ss S a 1 (b + 1)) I Q := Wp_putR (by decide +kernel : decode (bk 11) 23 = .ok (.putfield 19, 3)) (by decide +kernel : fd (ok 11) 19 = some (11, 1)) (by decide +kernel)
theorem w11_26 (x : Nat) (st : List zV) (S : zS) (I : zM) (Q : zV → zS → zM → Prop) : Wp 11 26 [vR x] st S I Q ↔ Wp 11 27 [vR x] (vR x :: st) S I Q := Wp_aload_n (by decide +kernel : decode (bk 11) 26 = .ok (.aload_n 0, 1)) rfl
theorem w11_27 (l0 : zV) (st : List zV) (S : zS) (I : zM) (Q : zV → zS → zM → Prop) : Wp 11 27 [l0] st S I Q ↔ Wp 11 30 [l0] (vR S.1.length :: st) (sp S (4, List.replicate 4 0)) (cz I S.1.length) Q := Wp_new (by decide +kernel : decode (bk 11) 27 = .ok (.new 23, 3)) (by decide +kernel : nw (ok 11) 23 = some 2) (by decide +kernel)
theorem w11_30 (l0 : zV) (x : Nat) (st : List zV) (S : zS) (I : zM) (Q : zV → zS → zM → Prop) : Wp 11 30 [l0] (vR x :: st) S I Q ↔ Wp 11 31 [l0] (vR x :: vR x :: st) S I Q := Wp_dup (by decide +kernel : decode (bk 11) 30 = .ok (.dup, 1)) rfl
theorem w11_31 (l0 : zV) (a : Nat) (r0 : Nat) (r1 : Nat) (S : zS) (I : zM) (Q : zV → zS → zM → Prop) : Wp 11 31 [l0] (vR a :: [vR r0, vR r1]) S I Q ↔ kd S a = 4 ∧ Wp 2 0 [vR a] [] S I (fun r S1 I1 => Wp 11 34 [l0] (zpu r [vR r0, vR r1]) S1 I1 Q) := Wp_ci (by decide +kernel : decode (bk 11) 31 = .ok (.invokespecial 25, 3)) (by decide +kernel : lkk (ok 11) 25 = some (1, 2)) (by decide +kernel) (n := 0) (by decide +kernel) (c := 4) (by decide +kernel) rfl rfl (by decide +kernel) (Nat.le_of_ble_eq_true rfl) ⟨(Nat.le_of_ble_eq_true rfl), Or.inr rfl⟩ rfl
theorem w11_34 (l0 : zV) (b a : Nat) (st : List zV) (S : zS) (I : zM) (Q : zV → zS → zM → Prop) : Wp 11 34 [l0] (vR b :: vR a :: st) S I Q ↔ kd S a = 13 ∧ Wp 11 37 [l0] st (ss S a 2 (b + 1)) I Q := Wp_putR (by decide +kernel : decode (bk 11) 34 = .ok (.putfield 26, 3)) (by decide +kernel : fd (ok 11) 26 = some (11, 2)) (by decide +kernel)
theorem w11_37 (x : Nat) (st : List zV) (S : zS) (I : zM) (Q : zV → zS → zM → Prop) : Wp 11 37 [vR x] st S I Q ↔ Wp 11 38 [vR x] (vR x :: st) S I Q := Wp_aload_n (by decide +kernel : decode (bk 11) 37 = .ok (.aload_n 0, 1)) rfl
theorem w11_38 (l0 : zV) (st : List zV) (S : zS) (I : zM) (Q : zV → zS → zM → Prop) : Wp 11 38 [l0] st S I Q ↔ Wp 11 41 [l0] (vR S.1.length :: st) (sp S (3, List.replicate 5 0)) (cz I S.1.length) Q := Wp_new (by decide +kernel : decode (bk 11) 38 = .ok (.new 30, 3)) (by decide +kernel : nw (ok 11) 30 = some 1) (by decide +kernel)
theorem w11_41 (l0 : zV) (x : Nat) (st : List zV) (S : zS) (I : zM) (Q : zV → zS → zM → Prop) : Wp 11 41 [l0] (vR x :: st) S I Q ↔ Wp 11 42 [l0] (vR x :: vR x :: st) S I Q := Wp_dup (by decide +kernel : decode (bk 11) 41 = .ok (.dup, 1)) rfl
theorem w11_42 (l0 : zV) (a : Nat) (r0 : Nat) (r1 : Nat) (S : zS) (I : zM) (Q : zV → zS → zM → Prop) : Wp 11 42 [l0] (vR a :: [vR r0, vR r1]) S I Q ↔ kd S a = 3 ∧ Wp 1 0 [vR a] [] S I (fun r S1 I1 => Wp 11 45 [l0] (zpu r [vR r0, vR r1]) S1 I1 Q) := Wp_ci (by decide +kernel : decode (bk 11) 42 = .ok (.invokespecial 32, 3)) (by decide +kernel : lkk (ok 11) 32 = some (1, 1)) (by decide +kernel) (n := 0) (by decide +kernel) (c := 3) (by decide +kernel) rfl rfl (by decide +kernel) (Nat.le_of_ble_eq_true rfl) ⟨(Nat.le_of_ble_eq_true rfl), Or.inr rfl⟩ rfl
theorem w11_45 (l0 : zV) (b a : Nat) (st : List zV) (S : zS) (I : zM) (Q : zV → zS → zM → Prop) : Wp 11 45 [l0] (vR b :: vR a :: st) S I Q ↔ kd S a = 13 ∧ Wp 11 48 [l0] st (ss S a 3 (b + 1)) I Q := Wp_putR (by decide +kernel : decode (bk 11) 45 = .ok (.putfield 33, 3)) (by decide +kernel : fd (ok 11) 33 = some (11, 3)) (by decide +kernel)
theorem w11_48 (x : Nat) (st : List zV) (S : zS) (I : zM) (Q : zV → zS → zM → Prop) : Wp 11 48 [vR x] st S I Q ↔ Wp 11 49 [vR x] (vR x :: st) S I Q := Wp_aload_n (by decide +kernel : decode (bk 11) 48 = .ok (.aload_n 0, 1)) rfl
theorem w11_49 (l0 : zV) (st : List zV) (S : zS) (I : zM) (Q : zV → zS → zM → Prop) : Wp 11 49 [l0] st S I Q ↔ Wp 11 52 [l0] (vR S.1.length :: st) (sp S (8, List.replicate 11 0)) (cz I S.1.length) Q := Wp_new (by decide +kernel : decode (bk 11) 49 = .ok (.new 37, 3)) (by decide +kernel : nw (ok 11) 37 = some 6) (by decide +kernel)
theorem w11_52 (l0 : zV) (x : Nat) (st : List zV) (S : zS) (I : zM) (Q : zV → zS → zM → Prop) : Wp 11 52 [l0] (vR x :: st) S I Q ↔ Wp 11 53 [l0] (vR x :: vR x :: st) S I Q := Wp_dup (by decide +kernel : decode (bk 11) 52 = .ok (.dup, 1)) rfl
theorem w11_53 (l0 : zV) (a : Nat) (r0 : Nat) (r1 : Nat) (S : zS) (I : zM) (Q : zV → zS → zM → Prop) : Wp 11 53 [l0] (vR a :: [vR r0, vR r1]) S I Q ↔ kd S a = 8 ∧ Wp 6 0 [vR a] [] S I (fun r S1 I1 => Wp 11 56 [l0] (zpu r [vR r0, vR r1]) S1 I1 Q) := Wp_ci (by decide +kernel : decode (bk 11) 53 = .ok (.invokespecial 39, 3)) (by decide +kernel : lkk (ok 11) 39 = some (1, 6)) (by decide +kernel) (n := 0) (by decide +kernel) (c := 8) (by decide +kernel) rfl rfl (by decide +kernel) (Nat.le_of_ble_eq_true rfl) ⟨(Nat.le_of_ble_eq_true rfl), Or.inr rfl⟩ rfl
theorem w11_56 (l0 : zV) (b a : Nat) (st : List zV) (S : zS) (I : zM) (Q : zV → zS → zM → Prop) : Wp 11 56 [l0] (vR b :: vR a :: st) S I Q ↔ kd S a = 13 ∧ Wp 11 59 [l0] st (ss S a 4 (b + 1)) I Q := Wp_putR (by decide +kernel : decode (bk 11) 56 = .ok (.putfield 40, 3)) (by decide +kernel : fd (ok 11) 40 = some (11, 4)) (by decide +kernel)
theorem w11_59 (x : Nat) (st : List zV) (S : zS) (I : zM) (Q : zV → zS → zM → Prop) : Wp 11 59 [vR x] st S I Q ↔ Wp 11 60 [vR x] (vR x :: st) S I Q := Wp_aload_n (by decide +kernel : decode (bk 11) 59 = .ok (.aload_n 0, 1)) rfl
theorem w11_60 (l0 : zV) (st : List zV) (S : zS) (I : zM) (Q : zV → zS → zM → Prop) : Wp 11 60 [l0] st S I Q ↔ Wp 11 63 [l0] (vR S.1.length :: st) (sp S (2, List.replicate 4 0)) (cz I S.1.length) Q := Wp_new (by decide +kernel : decode (bk 11) 60 = .ok (.new 44, 3)) (by decide +kernel : nw (ok 11) 44 = some 0) (by decide +kernel)
theorem w11_63 (l0 : zV) (x : Nat) (st : List zV) (S : zS) (I : zM) (Q : zV → zS → zM → Prop) : Wp 11 63 [l0] (vR x :: st) S I Q ↔ Wp 11 64 [l0] (vR x :: vR x :: st) S I Q := Wp_dup (by decide +kernel : decode (bk 11) 63 = .ok (.dup, 1)) rfl
theorem w11_64 (l0 : zV) (a : Nat) (r0 : Nat) (r1 : Nat) (S : zS) (I : zM) (Q : zV → zS → zM → Prop) : Wp 11 64 [l0] (vR a :: [vR r0, vR r1]) S I Q ↔ kd S a = 2 ∧ Wp 0 0 [vR a] [] S I (fun r S1 I1 => Wp 11 67 [l0] (zpu r [vR r0, vR r1]) S1 I1 Q) := Wp_ci (by decide +kernel : decode (bk 11) 64 = .ok (.invokespecial 46, 3)) (by decide +kernel : lkk (ok 11) 46 = some (1, 0)) (by decide +kernel) (n := 0) (by decide +kernel) (c := 2) (by decide +kernel) rfl rfl (by decide +kernel) (Nat.le_of_ble_eq_true rfl) ⟨(Nat.le_of_ble_eq_true rfl), Or.inr rfl⟩ rfl
theorem w11_67 (l0 : zV) (b a : Nat) (st : List zV) (S : zS) (I : zM) (Q : zV → zS → zM → Prop) : Wp 11 67 [l0] (vR b :: vR a :: st) S I Q ↔ kd S a = 13 ∧ Wp 11 70 [l0] st (ss S a 5 (b + 1)) I Q := Wp_putR (by decide +kernel : decode (bk 11) 67 = .ok (.putfield 47, 3)) (by decide +kernel : fd (ok 11) 47 = some (11, 5)) (by decide +kernel)
theorem w11_70 (x : Nat) (st : List zV) (S : zS) (I : zM) (Q : zV → zS → zM → Prop) : Wp 11 70 [vR x] st S I Q ↔ Wp 11 71 [vR x] (vR x :: st) S I Q := Wp_aload_n (by decide +kernel : decode (bk 11) 70 = .ok (.aload_n 0, 1)) rfl
theorem w11_71 (l0 : zV) (st : List zV) (S : zS) (I : zM) (Q : zV → zS → zM → Prop) : Wp 11 71 [l0] st S I Q ↔ Wp 11 74 [l0] (vR S.1.length :: st) (sp S (12, List.replicate 8 0)) (cz I S.1.length) Q := Wp_new (by decide +kernel : decode (bk 11) 71 = .ok (.new 51, 3)) (by decide +kernel : nw (ok 11) 51 = some 10) (by decide +kernel)
theorem w11_74 (l0 : zV) (x : Nat) (st : List zV) (S : zS) (I : zM) (Q : zV → zS → zM → Prop) : Wp 11 74 [l0] (vR x :: st) S I Q ↔ Wp 11 75 [l0] (vR x :: vR x :: st) S I Q := Wp_dup (by decide +kernel : decode (bk 11) 74 = .ok (.dup, 1)) rfl
theorem w11_75 (l0 : zV) (st : List zV) (S : zS) (I : zM) (Q : zV → zS → zM → Prop) : Wp 11 75 [l0] st S I Q ↔ Wp 11 76 [l0] (vI 0 :: st) S I Q := Wp_iconst (by decide +kernel : decode (bk 11) 75 = .ok (.iconst 0, 1)) (by decide)
theorem w11_76 (l0 : zV) (x0 : Int) (a : Nat) (r0 : Nat) (r1 : Nat) (S : zS) (I : zM) (Q : zV → zS → zM → Prop) : Wp 11 76 [l0] (vI x0 :: vR a :: [vR r0, vR r1]) S I Q ↔ kd S a = 12 ∧ Wp 10 0 [vR a, vI x0] [] S I (fun r S1 I1 => Wp 11 79 [l0] (zpu r [vR r0, vR r1]) S1 I1 Q) := Wp_ci (by decide +kernel : decode (bk 11) 76 = .ok (.invokespecial 53, 3)) (by decide +kernel : lkk (ok 11) 53 = some (0, 10)) (by decide +kernel) (n := 1) (by decide +kernel) (c := 12) (by decide +kernel) rfl rfl (by decide +kernel) (Nat.le_of_ble_eq_true rfl) ⟨(Nat.le_of_ble_eq_true rfl), Or.inr rfl⟩ rfl
theorem w11_79 (l0 : zV) (b a : Nat) (st : List zV) (S : zS) (I : zM) (Q : zV → zS → zM → Prop) : Wp 11 79 [l0] (vR b :: vR a :: st) S I Q ↔ kd S a = 13 ∧ Wp 11 82 [l0] st (ss S a 6 (b + 1)) I Q := Wp_putR (by decide +kernel : decode (bk 11) 79 = .ok (.putfield 56, 3)) (by decide +kernel : fd (ok 11) 56 = some (11, 6)) (by decide +kernel)
theorem w11_82 (x : Nat) (st : List zV) (S : zS) (I : zM) (Q : zV → zS → zM → Prop) : Wp 11 82 [vR x] st S I Q ↔ Wp 11 83 [vR x] (vR x :: st) S I Q := Wp_aload_n (by decide +kernel : decode (bk 11) 82 = .ok (.aload_n 0, 1)) rfl
theorem w11_83 (l0 : zV) (st : List zV) (S : zS) (I : zM) (Q : zV → zS → zM → Prop) : Wp 11 83 [l0] st S I Q ↔ Wp 11 86 [l0] (vR S.1.length :: st) (sp S (12, List.replicate 8 0)) (cz I S.1.length) Q := Wp_new (by decide +kernel : decode (bk 11) 83 = .ok (.new 51, 3)) (by decide +kernel : nw (ok 11) 51 = some 10) (by decide +kernel)
theorem w11_86 (l0 : zV) (x : Nat) (st : List zV) (S : zS) (I : zM) (Q : zV → zS → zM → Prop) : Wp 11 86 [l0] (vR x :: st) S I Q ↔ Wp 11 87 [l0] (vR x :: vR x :: st) S I Q := Wp_dup (by decide +kernel : decode (bk 11) 86 = .ok (.dup, 1)) rfl
theorem w11_87 (l0 : zV) (st : List zV) (S : zS) (I : zM) (Q : zV → zS → zM → Prop) : Wp 11 87 [l0] st S I Q ↔ Wp 11 88 [l0] (vI 1 :: st) S I Q := Wp_iconst (by decide +kernel : decode (bk 11) 87 = .ok (.iconst 1, 1)) (by decide)
theorem w11_88 (l0 : zV) (x0 : Int) (a : Nat) (r0 : Nat) (r1 : Nat) (S : zS) (I : zM) (Q : zV → zS → zM → Prop) : Wp 11 88 [l0] (vI x0 :: vR a :: [vR r0, vR r1]) S I Q ↔ kd S a = 12 ∧ Wp 10 0 [vR a, vI x0] [] S I (fun r S1 I1 => Wp 11 91 [l0] (zpu r [vR r0, vR r1]) S1 I1 Q) := Wp_ci (by decide +kernel : decode (bk 11) 88 = .ok (.invokespecial 53, 3)) (by decide +kernel : lkk (ok 11) 53 = some (0, 10)) (by decide +kernel) (n := 1) (by decide +kernel) (c := 12) (by decide +kernel) rfl rfl (by decide +kernel) (Nat.le_of_ble_eq_true rfl) ⟨(Nat.le_of_ble_eq_true rfl), Or.inr rfl⟩ rfl
theorem w11_91 (l0 : zV) (b a : Nat) (st : List zV) (S : zS) (I : zM) (Q : zV → zS → zM → Prop) : Wp 11 91 [l0] (vR b :: vR a :: st) S I Q ↔ kd S a = 13 ∧ Wp 11 94 [l0] st (ss S a 7 (b + 1)) I Q := Wp_putR (by decide +kernel : decode (bk 11) 91 = .ok (.putfield 60, 3)) (by decide +kernel : fd (ok 11) 60 = some (11, 7)) (by decide +kernel)
theorem w11_94 (x : Nat) (st : List zV) (S : zS) (I : zM) (Q : zV → zS → zM → Prop) : Wp 11 94 [vR x] st S I Q ↔ Wp 11 95 [vR x] (vR x :: st) S I Q := Wp_aload_n (by decide +kernel : decode (bk 11) 94 = .ok (.aload_n 0, 1)) rfl
theorem w11_95 (l0 : zV) (st : List zV) (S : zS) (I : zM) (Q : zV → zS → zM → Prop) : Wp 11 95 [l0] st S I Q ↔ Wp 11 98 [l0] (vR S.1.length :: st) (sp S (6, List.replicate 3 0)) (cz I S.1.length) Q := Wp_new (by decide +kernel : decode (bk 11) 95 = .ok (.new 63, 3)) (by decide +kernel : nw (ok 11) 63 = some 4) (by decide +kernel)
theorem w11_98 (l0 : zV) (x : Nat) (st : List zV) (S : zS) (I : zM) (Q : zV → zS → zM → Prop) : Wp 11 98 [l0] (vR x :: st) S I Q ↔ Wp 11 99 [l0] (vR x :: vR x :: st) S I Q := Wp_dup (by decide +kernel : decode (bk 11) 98 = .ok (.dup, 1)) rfl
theorem w11_99 (l0 : zV) (a : Nat) (r0 : Nat) (r1 : Nat) (S : zS) (I : zM) (Q : zV → zS → zM → Prop) : Wp 11 99 [l0] (vR a :: [vR r0, vR r1]) S I Q ↔ kd S a = 6 ∧ Wp 4 0 [vR a] [] S I (fun r S1 I1 => Wp 11 102 [l0] (zpu r [vR r0, vR r1]) S1 I1 Q) := Wp_ci (by decide +kernel : decode (bk 11) 99 = .ok (.invokespecial 65, 3)) (by decide +kernel : lkk (ok 11) 65 = some (1, 4)) (by decide +kernel) (n := 0) (by decide +kernel) (c := 6) (by decide +kernel) rfl rfl (by decide +kernel) (Nat.le_of_ble_eq_true rfl) ⟨(Nat.le_of_ble_eq_true rfl), Or.inr rfl⟩ rfl
theorem w11_102 (l0 : zV) (b a : Nat) (st : List zV) (S : zS) (I : zM) (Q : zV → zS → zM → Prop) : Wp 11 102 [l0] (vR b :: vR a :: st) S I Q ↔ kd S a = 13 ∧ Wp 11 105 [l0] st (ss S a 8 (b + 1)) I Q := Wp_putR (by decide +kernel : decode (bk 11) 102 = .ok (.putfield 66, 3)) (by decide +kernel : fd (ok 11) 66 = some (11, 8)) (by decide +kernel)
theorem w11_105 (x : Nat) (st : List zV) (S : zS) (I : zM) (Q : zV → zS → zM → Prop) : Wp 11 105 [vR x] st S I Q ↔ Wp 11 106 [vR x] (vR x :: st) S I Q := Wp_aload_n (by decide +kernel : decode (bk 11) 105 = .ok (.aload_n 0, 1)) rfl
theorem w11_106 (l0 : zV) (st : List zV) (S : zS) (I : zM) (Q : zV → zS → zM → Prop) : Wp 11 106 [l0] st S I Q ↔ Wp 11 109 [l0] (vR S.1.length :: st) (sp S (6, List.replicate 3 0)) (cz I S.1.length) Q := Wp_new (by decide +kernel : decode (bk 11) 106 = .ok (.new 63, 3)) (by decide +kernel : nw (ok 11) 63 = some 4) (by decide +kernel)
theorem w11_109 (l0 : zV) (x : Nat) (st : List zV) (S : zS) (I : zM) (Q : zV → zS → zM → Prop) : Wp 11 109 [l0] (vR x :: st) S I Q ↔ Wp 11 110 [l0] (vR x :: vR x :: st) S I Q := Wp_dup (by decide +kernel : decode (bk 11) 109 = .ok (.dup, 1)) rfl
theorem w11_110 (l0 : zV) (a : Nat) (r0 : Nat) (r1 : Nat) (S : zS) (I : zM) (Q : zV → zS → zM → Prop) : Wp 11 110 [l0] (vR a :: [vR r0, vR r1]) S I Q ↔ kd S a = 6 ∧ Wp 4 0 [vR a] [] S I (fun r S1 I1 => Wp 11 113 [l0] (zpu r [vR r0, vR r1]) S1 I1 Q) := Wp_ci (by decide +kernel : decode (bk 11) 110 = .ok (.invokespecial 65, 3)) (by decide +kernel : lkk (ok 11) 65 = some (1, 4)) (by decide +kernel) (n := 0) (by decide +kernel) (c := 6) (by decide +kernel) rfl rfl (by decide +kernel) (Nat.le_of_ble_eq_true rfl) ⟨(Nat.le_of_ble_eq_true rfl), Or.inr rfl⟩ rfl
theorem w11_113 (l0 : zV) (b a : Nat) (st : List zV) (S : zS) (I : zM) (Q : zV → zS → zM → Prop) : Wp 11 113 [l0] (vR b :: vR a :: st) S I Q ↔ kd S a = 13 ∧ Wp 11 116 [l0] st (ss S a 9 (b + 1)) I Q := Wp_putR (by decide +kernel : decode (bk 11) 113 = .ok (.putfield 70, 3)) (by decide +kernel : fd (ok 11) 70 = some (11, 9)) (by decide +kernel)
theorem w11_116 (x : Nat) (st : List zV) (S : zS) (I : zM) (Q : zV → zS → zM → Prop) : Wp 11 116 [vR x] st S I Q ↔ Wp 11 117 [vR x] (vR x :: st) S I Q := Wp_aload_n (by decide +kernel : decode (bk 11) 116 = .ok (.aload_n 0, 1)) rfl
theorem w11_117 (l0 : zV) (st : List zV) (S : zS) (I : zM) (Q : zV → zS → zM → Prop) : Wp 11 117 [l0] st S I Q ↔ Wp 11 120 [l0] (vR S.1.length :: st) (sp S (9, List.replicate 4 0)) (cz I S.1.length) Q := Wp_new (by decide +kernel : decode (bk 11) 117 = .ok (.new 73, 3)) (by decide +kernel : nw (ok 11) 73 = some 7) (by decide +kernel)
theorem w11_120 (l0 : zV) (x : Nat) (st : List zV) (S : zS) (I : zM) (Q : zV → zS → zM → Prop) : Wp 11 120 [l0] (vR x :: st) S I Q ↔ Wp 11 121 [l0] (vR x :: vR x :: st) S I Q := Wp_dup (by decide +kernel : decode (bk 11) 120 = .ok (.dup, 1)) rfl
theorem w11_121 (l0 : zV) (a : Nat) (r0 : Nat) (r1 : Nat) (S : zS) (I : zM) (Q : zV → zS → zM → Prop) : Wp 11 121 [l0] (vR a :: [vR r0, vR r1]) S I Q ↔ kd S a = 9 ∧ Wp 7 0 [vR a] [] S I (fun r S1 I1 => Wp 11 124 [l0] (zpu r [vR r0, vR r1]) S1 I1 Q) := Wp_ci (by decide +kernel : decode (bk 11) 121 = .ok (.invokespecial 75, 3)) (by decide +kernel : lkk (ok 11) 75 = some (1, 7)) (by decide +kernel) (n := 0) (by decide +kernel) (c := 9) (by decide +kernel) rfl rfl (by decide +kernel) (Nat.le_of_ble_eq_true rfl) ⟨(Nat.le_of_ble_eq_true rfl), Or.inr rfl⟩ rfl
theorem w11_124 (l0 : zV) (b a : Nat) (st : List zV) (S : zS) (I : zM) (Q : zV → zS → zM → Prop) : Wp 11 124 [l0] (vR b :: vR a :: st) S I Q ↔ kd S a = 13 ∧ Wp 11 127 [l0] st (ss S a 10 (b + 1)) I Q := Wp_putR (by decide +kernel : decode (bk 11) 124 = .ok (.putfield 76, 3)) (by decide +kernel : fd (ok 11) 76 = some (11, 10)) (by decide +kernel)
theorem w11_127 (l0 : zV)  (S : zS) (I : zM) (Q : zV → zS → zM → Prop) : Wp 11 127 [l0] [] S I Q ↔ Q vU S I := Wp_return (by decide +kernel : decode (bk 11) 127 = .ok (.return_, 1)) (by decide +kernel)
end
section
/-! ===== what the class's constructors make: at the least, by the elements of their arrays ===== -/
section CT
/-- the elements of all arrays -/
def zar (S : zS) : Nat := (S.1.map (fun q => if q.1 ≤ 1 then q.2.getD 0 0 else 0)).sum
theorem kd_sp (S : zS) (q : Nat × List Nat) (a : Nat) : kd (sp S q) a = if a = S.1.length then q.1 else kd S a := by
  unfold kd sp
  dsimp only
  by_cases h : a < S.1.length
  · rw [List.getElem?_append_left h, if_neg (by omega)]
  · by_cases e : a = S.1.length
    · subst e; simp
    · rw [if_neg e, List.getElem?_eq_none (by simp; omega), List.getElem?_eq_none (by omega)]
theorem kd_spn (S : zS) (q : Nat × List Nat) : kd (sp S q) S.1.length = q.1 := by rw [kd_sp, if_pos rfl]
theorem kd_ss (S : zS) (a j v a' : Nat) : kd (ss S a j v) a' = kd S a' := by
  unfold kd ss
  dsimp only
  rw [List.getElem?_modify]
  cases S.1[a']? with
  | none => rfl
  | some q => by_cases e : a = a' <;> simp [e]
theorem kd_lt {S : zS} {a : Nat} (h : kd S a < 900) : a < S.1.length := by
  obtain ⟨q, -, -, -, h4⟩ := kd_some rfl h
  exact h4
theorem zar_sp (S : zS) (q : Nat × List Nat) : zar (sp S q) = zar S + (if q.1 ≤ 1 then q.2.getD 0 0 else 0) := by
  unfold zar sp
  simp
theorem zar_mod (f : Nat × List Nat → Nat) (g : Nat × List Nat → Nat × List Nat) : ∀ (l : List (Nat × List Nat)) (a : Nat), (∀ q, l[a]? = some q → f (g q) = f q) → ((l.modify a g).map f).sum = (l.map f).sum := by
  intro l
  induction l with
  | nil => intro a h; cases a <;> rfl
  | cons x l ih =>
    intro a h
    cases a with
    | zero =>
      have := h x rfl
      simp [this]
    | succ a =>
      have := ih a (fun q hq => h q (by simpa using hq))
      simp [this]
theorem zar_ss {S : zS} {a : Nat} (h : 2 ≤ kd S a) (j v : Nat) : zar (ss S a j v) = zar S := by
  unfold zar ss
  refine zar_mod _ _ S.1 a (fun q hq => ?_)
  have h1 : kd S a = q.1 := by unfold kd; rw [hq]
  have h2 : ¬ q.1 ≤ 1 := by omega
  dsimp only
  rw [if_neg h2, if_neg h2]
theorem zsl_sp (S : zS) (q : Nat × List Nat) : zsl (sp S q) = zsl S + (if q.1 ≤ 1 then q.2.getD 0 0 else q.2.length) := by
  unfold zsl sp
  simp
theorem zsl_ss2 {S : zS} {a : Nat} (h : 2 ≤ kd S a) (j v : Nat) : zsl (ss S a j v) = zsl S := by
  unfold zsl ss
  refine zar_mod _ _ S.1 a (fun q hq => ?_)
  have h1 : kd S a = q.1 := by unfold kd; rw [hq]
  have h2 : ¬ q.1 ≤ 1 := by omega
  dsimp only
  rw [if_neg h2, if_neg h2, List.length_set]
theorem ln_sp (S : zS) (q : Nat × List Nat) : (sp S q).1.length = S.1.length + 1 := by simp [sp]
theorem ln_ss (S : zS) (a j v : Nat) : (ss S a j v).1.length = S.1.length := by simp [ss]
/-- from S to S': n elements of arrays, m cells, w slots more; what was there keeps its kind -/
def zG (S S' : zS) (n m w : Nat) : Prop := zar S' = zar S + n ∧ S'.1.length = S.1.length + m ∧ zsl S' = zsl S + w ∧ ∀ b, kd S b < 900 → kd S' b = kd S b
theorem zG_cast {S S' : zS} {n m w n' m' w' : Nat} (h : zG S S' n m w) (e1 : n = n') (e2 : m = m') (e3 : w = w') : zG S S' n' m' w' := by subst e1; subst e2; subst e3; exact h
theorem zG_rf (S : zS) : zG S S 0 0 0 := ⟨rfl, rfl, rfl, fun _ _ => rfl⟩
theorem zG_kd {S S' : zS} {n m w a t : Nat} (h : zG S S' n m w) (e : kd S a = t) (ht : t < 900) : kd S' a = t := by
  rw [h.2.2.2 a (by omega)]; exact e
theorem zG_kd2 {S S1 S2 : zS} {n m w n' m' w' a t : Nat} {q : Nat × List Nat} (h : zG S S1 n m w) (h2 : zG (sp S1 q) S2 n' m' w') (e : kd S a = t) (ht : t < 900) : kd S2 a = t := by
  have e1 := zG_kd h e ht
  have e2 : a ≠ S1.1.length := Nat.ne_of_lt (kd_lt (by omega))
  refine zG_kd h2 ?_ ht
  rw [kd_sp, if_neg e2]; exact e1
/-- a field's row or object is made, built and put down -/
theorem zG_blk {S S1 S2 : zS} {n m w n' m' w' a t : Nat} {q : Nat × List Nat} (h : zG S S1 n m w) (h2 : zG (sp S1 q) S2 n' m' w') (hq : 2 ≤ q.1) (e : kd S a = t) (ht2 : 2 ≤ t) (ht : t < 900) (j v : Nat) : zG S (ss S2 a j v) (n + n') (m + 1 + m') (w + q.2.length + w') := by
  have e2 := zG_kd2 h h2 e ht
  have hq1 : ¬ q.1 ≤ 1 := by omega
  obtain ⟨a1, a2, a3, a4⟩ := h
  obtain ⟨b1, b2, b3, b4⟩ := h2
  rw [zar_sp, if_neg hq1] at b1
  rw [ln_sp] at b2
  rw [zsl_sp, if_neg hq1] at b3
  refine ⟨?_, ?_, ?_, fun b hb => ?_⟩
  · rw [zar_ss (by omega)]; omega
  · rw [ln_ss]; omega
  · rw [zsl_ss2 (by omega)]; omega
  · have c1 : kd S1 b = kd S b := a4 b hb
    have c2 : b < S1.1.length := kd_lt (by omega)
    have c3 := b4 b (by rw [kd_sp, if_neg (Nat.ne_of_lt c2)]; omega)
    rw [kd_ss, c3, kd_sp, if_neg (Nat.ne_of_lt c2), c1]
theorem zG_fld {S S1 : zS} {n m w a t : Nat} (h : zG S S1 n m w) (e : kd S a = t) (ht2 : 2 ≤ t) (ht : t < 900) (j v : Nat) : zG S (ss S1 a j v) n m w := by
  have e2 := zG_kd h e ht
  obtain ⟨a1, a2, a3, a4⟩ := h
  refine ⟨?_, ?_, ?_, fun b hb => ?_⟩
  · rw [zar_ss (by omega)]; exact a1
  · rw [ln_ss]; exact a2
  · rw [zsl_ss2 (by omega)]; exact a3
  · rw [kd_ss]; exact a4 b hb

theorem c_within (v lo hi : Int) (S : zS) (I : zM) (Q : zV → zS → zM → Prop) (h1 : lo ≤ v) (h2 : v ≤ hi) : Wp 12 0 [vI v, vI lo, vI hi] [] S I Q ↔ Q (vI 1) S I := by
  have e1 : ¬ v < lo := by omega
  have e2 : ¬ hi < v := by omega
  simp only [w12_0, w12_1, w12_2, w12_5, w12_6, w12_7, w12_10, w12_11, w12_14, w12_15, if_neg e1, if_neg e2]
  exact ⟨fun h => h.2, fun h => ⟨Or.inr (by trivial), h⟩⟩
theorem c_X5 (a : Nat) (x : Int) (S : zS) (I : zM) (hk : kd S a = 7) (h1 : 0 < x) (h2 : x ≤ 256) : Wp 5 0 [vR a, vI x] [] S I (fun r S' _ => r = vU ∧ zG S S' x.toNat 1 x.toNat) := by
  have e2 : ¬ 256 < x := by omega
  have ha : a < S.1.length := kd_lt (by omega)
  simp only [w5_0, w5_1, w5_4, w5_5, w5_6, w5_9, w5_10, w5_13, w5_16, w5_17, w5_20, w5_21, w5_23, w5_26, if_pos h1, if_neg e2]
  have k1 : kd (sp S (0, [x.toNat])) a = 7 := by rw [kd_sp, if_neg (Nat.ne_of_lt ha)]; exact hk
  refine ⟨⟨by omega, by omega⟩, k1, (by trivial), ?_, ?_, ?_, fun b hb => ?_⟩
  · rw [zar_ss (by omega), zar_sp]; rfl
  · rw [ln_ss, ln_sp]
  · rw [zsl_ss2 (by omega), zsl_sp]; rfl
  · rw [kd_ss, kd_sp, if_neg (Nat.ne_of_lt (kd_lt hb))]
theorem c_X8 (a : Nat) (x y : Int) (S : zS) (I : zM) (hk : kd S a = 10) (h1 : 1 ≤ x) (h2 : x ≤ 256) (h3 : 1 ≤ y) (h4 : y ≤ 256) (h5 : 0 ≤ x * y) (h6 : x * y ≤ 1000000) : Wp 8 0 [vR a, vI x, vI y, vU] [] S I (fun r S' _ => r = vU ∧ zG S S' (x * y).toNat 1 (x * y).toNat) := by
  have ha : a < S.1.length := kd_lt (by omega)
  have e0 : ¬ (1 : Int) = 0 := by decide
  have hk2 : ∀ j v, kd (ss S a j v) a = 10 := fun j v => by rw [kd_ss]; exact hk
  simp only [w8_0, w8_1, w8_4, w8_5, w8_6, w8_9, w8_12, w8_15, w8_16, w8_17, w8_20, w8_23, w8_26, w8_27, w8_30, w8_31, w8_32, w8_33, w8_34, w8_37, w8_38, w8_41, w8_42, w8_45, w8_46, w8_47, w8_50, w8_51, w8_54, w8_55, w8_58, w8_59, w8_60, w8_63, w8_64, w8_65, w8_66, w8_69, w8_70, w8_72, w8_75, c_within x 1 256 _ _ _ h1 h2, c_within y 1 256 _ _ _ h3 h4, zpu_I, if_neg e0]
  have l2 : (ss (ss S a 0 x.toNat) a 1 y.toNat).1.length = S.1.length := by rw [ln_ss, ln_ss]
  have k2 : kd (ss (ss S a 0 x.toNat) a 1 y.toNat) a = 10 := by rw [kd_ss, kd_ss]; exact hk
  have k3 : kd (sp (ss (ss S a 0 x.toNat) a 1 y.toNat) (0, [(x * y).toNat])) a = 10 := by rw [kd_sp, if_neg (by omega)]; exact k2
  refine ⟨⟨hk, by omega⟩, ⟨by rw [kd_ss]; exact hk, by omega⟩, ⟨by omega, by omega⟩, ⟨h5, h6⟩, k3, (by trivial), ?_, ?_, ?_, fun b hb => ?_⟩
  · rw [zar_ss (by omega), zar_sp, zar_ss (by rw [kd_ss]; omega), zar_ss (by omega)]; rfl
  · rw [ln_ss, ln_sp, ln_ss, ln_ss]
  · rw [zsl_ss2 (by omega), zsl_sp, zsl_ss2 (by rw [kd_ss]; omega), zsl_ss2 (by omega)]; rfl
  · have := kd_lt hb
    rw [kd_ss, kd_sp, if_neg (by omega), kd_ss, kd_ss]

theorem c_X2 (a : Nat) (S : zS) (I : zM) (hk : kd S a = 4) : Wp 2 0 [vR a] [] S I (fun r S' _ => r = vU ∧ zG S S' 64 6 69) := by
  have g : zG S S 0 0 0 := zG_rf S
  simp only [w2_0, w2_1, w2_4, w2_5, w2_8, w2_9, w2_11]
  refine ⟨kd_spn _ _, Wp_mono (c_X5 _ _ _ _ (kd_spn _ _) (by decide) (by decide)) ?_⟩
  rintro _ S1 I1 ⟨rfl, h1⟩
  simp only [zpu_U, w2_14]
  refine ⟨zG_kd2 g h1 hk (by decide), ?_⟩
  replace g := zG_blk g h1 (by decide) hk (by decide) (by decide) 0 (S.1.length + 1)
  clear h1
  revert g
  generalize ss S1 a 0 (S.1.length + 1) = T1
  intro g
  simp only [w2_17, w2_18, w2_21, w2_22, w2_24]
  refine ⟨kd_spn _ _, Wp_mono (c_X5 _ _ _ _ (kd_spn _ _) (by decide) (by decide)) ?_⟩
  rintro _ S2 I2 ⟨rfl, h2⟩
  simp only [zpu_U, w2_27]
  refine ⟨zG_kd2 g h2 hk (by decide), ?_⟩
  replace g := zG_blk g h2 (by decide) hk (by decide) (by decide) 1 (T1.1.length + 1)
  clear h2
  revert g
  generalize ss S2 a 1 (T1.1.length + 1) = T2
  intro g
  simp only [w2_30, w2_31, w2_34, w2_35, w2_37, w2_39]
  refine ⟨kd_spn _ _, Wp_mono (c_X8 _ _ _ _ _ (kd_spn _ _) (by decide) (by decide) (by decide) (by decide) (by decide) (by decide)) ?_⟩
  rintro _ S3 I3 ⟨rfl, h3⟩
  simp only [zpu_U, w2_42]
  refine ⟨zG_kd2 g h3 hk (by decide), ?_⟩
  replace g := zG_blk g h3 (by decide) hk (by decide) (by decide) 2 (T2.1.length + 1)
  clear h3
  revert g
  generalize ss S3 a 2 (T2.1.length + 1) = T3
  intro g
  simp only [w2_45]
  exact ⟨by trivial, zG_cast g (by decide) (by decide) (by decide)⟩
theorem c_X3 (a : Nat) (S : zS) (I : zM) (hk : kd S a = 5) : Wp 3 0 [vR a] [] S I (fun r S' _ => r = vU ∧ zG S S' 128 14 146) := by
  have g : zG S S 0 0 0 := zG_rf S
  simp only [w3_0, w3_1, w3_4, w3_5, w3_8, w3_9]
  refine ⟨kd_spn _ _, Wp_mono (c_X2 _ _ _ (kd_spn _ _)) ?_⟩
  rintro _ S1 I1 ⟨rfl, h1⟩
  simp only [zpu_U, w3_12]
  refine ⟨zG_kd2 g h1 hk (by decide), ?_⟩
  replace g := zG_blk g h1 (by decide) hk (by decide) (by decide) 0 (S.1.length + 1)
  clear h1
  revert g
  generalize ss S1 a 0 (S.1.length + 1) = T1
  intro g
  simp only [w3_15, w3_16, w3_19, w3_20]
  refine ⟨kd_spn _ _, Wp_mono (c_X2 _ _ _ (kd_spn _ _)) ?_⟩
  rintro _ S2 I2 ⟨rfl, h2⟩
  simp only [zpu_U, w3_23]
  refine ⟨zG_kd2 g h2 hk (by decide), ?_⟩
  replace g := zG_blk g h2 (by decide) hk (by decide) (by decide) 1 (T1.1.length + 1)
  clear h2
  revert g
  generalize ss S2 a 1 (T1.1.length + 1) = T2
  intro g
  simp only [w3_26, w3_27, w3_28]
  refine ⟨zG_kd g hk (by decide), ?_⟩
  simp only [w3_31]
  exact ⟨by trivial, zG_cast g (by decide) (by decide) (by decide)⟩
theorem c_X9 (a : Nat) (S : zS) (I : zM) (hk : kd S a = 11) : Wp 9 0 [vR a] [] S I (fun r S' _ => r = vU ∧ zG S S' 288 17 310) := by
  have g : zG S S 0 0 0 := zG_rf S
  simp only [w9_0, w9_1, w9_4, w9_5, w9_8, w9_9, w9_12]
  refine ⟨kd_spn _ _, Wp_mono (c_X5 _ _ _ _ (kd_spn _ _) (by decide) (by decide)) ?_⟩
  rintro _ S1 I1 ⟨rfl, h1⟩
  simp only [zpu_U, w9_15]
  refine ⟨zG_kd2 g h1 hk (by decide), ?_⟩
  replace g := zG_blk g h1 (by decide) hk (by decide) (by decide) 0 (S.1.length + 1)
  clear h1
  revert g
  generalize ss S1 a 0 (S.1.length + 1) = T1
  intro g
  simp only [w9_18, w9_19, w9_22, w9_23]
  refine ⟨kd_spn _ _, Wp_mono (c_X3 _ _ _ (kd_spn _ _)) ?_⟩
  rintro _ S2 I2 ⟨rfl, h2⟩
  simp only [zpu_U, w9_26]
  refine ⟨zG_kd2 g h2 hk (by decide), ?_⟩
  replace g := zG_blk g h2 (by decide) hk (by decide) (by decide) 1 (T1.1.length + 1)
  clear h2
  revert g
  generalize ss S2 a 1 (T1.1.length + 1) = T2
  intro g
  simp only [w9_29]
  exact ⟨by trivial, zG_cast g (by decide) (by decide) (by decide)⟩
theorem c_X1 (a : Nat) (S : zS) (I : zM) (hk : kd S a = 3) : Wp 1 0 [vR a] [] S I (fun r S' _ => r = vU ∧ zG S S' 226 10 241) := by
  have g : zG S S 0 0 0 := zG_rf S
  simp only [w1_0, w1_1, w1_4, w1_5, w1_8, w1_9, w1_11, w1_13]
  refine ⟨kd_spn _ _, Wp_mono (c_X8 _ _ _ _ _ (kd_spn _ _) (by decide) (by decide) (by decide) (by decide) (by decide) (by decide)) ?_⟩
  rintro _ S1 I1 ⟨rfl, h1⟩
  simp only [zpu_U, w1_16]
  refine ⟨zG_kd2 g h1 hk (by decide), ?_⟩
  replace g := zG_blk g h1 (by decide) hk (by decide) (by decide) 0 (S.1.length + 1)
  clear h1
  revert g
  generalize ss S1 a 0 (S.1.length + 1) = T1
  intro g
  simp only [w1_19, w1_20, w1_23, w1_24, w1_26, w1_28]
  refine ⟨kd_spn _ _, Wp_mono (c_X8 _ _ _ _ _ (kd_spn _ _) (by decide) (by decide) (by decide) (by decide) (by decide) (by decide)) ?_⟩
  rintro _ S2 I2 ⟨rfl, h2⟩
  simp only [zpu_U, w1_31]
  refine ⟨zG_kd2 g h2 hk (by decide), ?_⟩
  replace g := zG_blk g h2 (by decide) hk (by decide) (by decide) 1 (T1.1.length + 1)
  clear h2
  revert g
  generalize ss S2 a 1 (T1.1.length + 1) = T2
  intro g
  simp only [w1_34, w1_35, w1_38, w1_39, w1_41, w1_43]
  refine ⟨kd_spn _ _, Wp_mono (c_X8 _ _ _ _ _ (kd_spn _ _) (by decide) (by decide) (by decide) (by decide) (by decide) (by decide)) ?_⟩
  rintro _ S3 I3 ⟨rfl, h3⟩
  simp only [zpu_U, w1_46]
  refine ⟨zG_kd2 g h3 hk (by decide), ?_⟩
  replace g := zG_blk g h3 (by decide) hk (by decide) (by decide) 2 (T2.1.length + 1)
  clear h3
  revert g
  generalize ss S3 a 2 (T2.1.length + 1) = T3
  intro g
  simp only [w1_49, w1_50, w1_53, w1_54, w1_55, w1_57]
  refine ⟨kd_spn _ _, Wp_mono (c_X8 _ _ _ _ _ (kd_spn _ _) (by decide) (by decide) (by decide) (by decide) (by decide) (by decide)) ?_⟩
  rintro _ S4 I4 ⟨rfl, h4⟩
  simp only [zpu_U, w1_60]
  refine ⟨zG_kd2 g h4 hk (by decide), ?_⟩
  replace g := zG_blk g h4 (by decide) hk (by decide) (by decide) 3 (T3.1.length + 1)
  clear h4
  revert g
  generalize ss S4 a 3 (T3.1.length + 1) = T4
  intro g
  simp only [w1_63, w1_64, w1_67, w1_68, w1_69, w1_71]
  refine ⟨kd_spn _ _, Wp_mono (c_X8 _ _ _ _ _ (kd_spn _ _) (by decide) (by decide) (by decide) (by decide) (by decide) (by decide)) ?_⟩
  rintro _ S5 I5 ⟨rfl, h5⟩
  simp only [zpu_U, w1_74]
  refine ⟨zG_kd2 g h5 hk (by decide), ?_⟩
  replace g := zG_blk g h5 (by decide) hk (by decide) (by decide) 4 (T4.1.length + 1)
  clear h5
  revert g
  generalize ss S5 a 4 (T4.1.length + 1) = T5
  intro g
  simp only [w1_77]
  exact ⟨by trivial, zG_cast g (by decide) (by decide) (by decide)⟩
theorem c_X6 (a : Nat) (S : zS) (I : zM) (hk : kd S a = 8) : Wp 6 0 [vR a] [] S I (fun r S' _ => r = vU ∧ zG S S' 176 10 191) := by
  have g : zG S S 0 0 0 := zG_rf S
  simp only [w6_0, w6_1, w6_4, w6_5, w6_8, w6_9, w6_11, w6_12]
  refine ⟨kd_spn _ _, Wp_mono (c_X8 _ _ _ _ _ (kd_spn _ _) (by decide) (by decide) (by decide) (by decide) (by decide) (by decide)) ?_⟩
  rintro _ S1 I1 ⟨rfl, h1⟩
  simp only [zpu_U, w6_15]
  refine ⟨zG_kd2 g h1 hk (by decide), ?_⟩
  replace g := zG_blk g h1 (by decide) hk (by decide) (by decide) 0 (S.1.length + 1)
  clear h1
  revert g
  generalize ss S1 a 0 (S.1.length + 1) = T1
  intro g
  simp only [w6_18, w6_19, w6_22, w6_23, w6_24, w6_26]
  refine ⟨kd_spn _ _, Wp_mono (c_X8 _ _ _ _ _ (kd_spn _ _) (by decide) (by decide) (by decide) (by decide) (by decide) (by decide)) ?_⟩
  rintro _ S2 I2 ⟨rfl, h2⟩
  simp only [zpu_U, w6_29]
  refine ⟨zG_kd2 g h2 hk (by decide), ?_⟩
  replace g := zG_blk g h2 (by decide) hk (by decide) (by decide) 1 (T1.1.length + 1)
  clear h2
  revert g
  generalize ss S2 a 1 (T1.1.length + 1) = T2
  intro g
  simp only [w6_32, w6_33, w6_36, w6_37, w6_38, w6_40]
  refine ⟨kd_spn _ _, Wp_mono (c_X8 _ _ _ _ _ (kd_spn _ _) (by decide) (by decide) (by decide) (by decide) (by decide) (by decide)) ?_⟩
  rintro _ S3 I3 ⟨rfl, h3⟩
  simp only [zpu_U, w6_43]
  refine ⟨zG_kd2 g h3 hk (by decide), ?_⟩
  replace g := zG_blk g h3 (by decide) hk (by decide) (by decide) 2 (T2.1.length + 1)
  clear h3
  revert g
  generalize ss S3 a 2 (T2.1.length + 1) = T3
  intro g
  simp only [w6_46, w6_47, w6_50, w6_51, w6_53, w6_55]
  refine ⟨kd_spn _ _, Wp_mono (c_X8 _ _ _ _ _ (kd_spn _ _) (by decide) (by decide) (by decide) (by decide) (by decide) (by decide)) ?_⟩
  rintro _ S4 I4 ⟨rfl, h4⟩
  simp only [zpu_U, w6_58]
  refine ⟨zG_kd2 g h4 hk (by decide), ?_⟩
  replace g := zG_blk g h4 (by decide) hk (by decide) (by decide) 3 (T3.1.length + 1)
  clear h4
  revert g
  generalize ss S4 a 3 (T3.1.length + 1) = T4
  intro g
  simp only [w6_61, w6_62, w6_65, w6_66, w6_68, w6_70]
  refine ⟨kd_spn _ _, Wp_mono (c_X8 _ _ _ _ _ (kd_spn _ _) (by decide) (by decide) (by decide) (by decide) (by decide) (by decide)) ?_⟩
  rintro _ S5 I5 ⟨rfl, h5⟩
  simp only [zpu_U, w6_73]
  refine ⟨zG_kd2 g h5 hk (by decide), ?_⟩
  replace g := zG_blk g h5 (by decide) hk (by decide) (by decide) 4 (T4.1.length + 1)
  clear h5
  revert g
  generalize ss S5 a 4 (T4.1.length + 1) = T5
  intro g
  simp only [w6_76]
  exact ⟨by trivial, zG_cast g (by decide) (by decide) (by decide)⟩
theorem c_X0 (a : Nat) (S : zS) (I : zM) (hk : kd S a = 2) : Wp 0 0 [vR a] [] S I (fun r S' _ => r = vU ∧ zG S S' 976 4 982) := by
  have g : zG S S 0 0 0 := zG_rf S
  simp only [w0_0, w0_1, w0_4, w0_5, w0_8, w0_9, w0_11, w0_13]
  refine ⟨kd_spn _ _, Wp_mono (c_X8 _ _ _ _ _ (kd_spn _ _) (by decide) (by decide) (by decide) (by decide) (by decide) (by decide)) ?_⟩
  rintro _ S1 I1 ⟨rfl, h1⟩
  simp only [zpu_U, w0_16]
  refine ⟨zG_kd2 g h1 hk (by decide), ?_⟩
  replace g := zG_blk g h1 (by decide) hk (by decide) (by decide) 0 (S.1.length + 1)
  clear h1
  revert g
  generalize ss S1 a 0 (S.1.length + 1) = T1
  intro g
  simp only [w0_19, w0_20, w0_23, w0_24, w0_25, w0_27]
  refine ⟨kd_spn _ _, Wp_mono (c_X8 _ _ _ _ _ (kd_spn _ _) (by decide) (by decide) (by decide) (by decide) (by decide) (by decide)) ?_⟩
  rintro _ S2 I2 ⟨rfl, h2⟩
  simp only [zpu_U, w0_30]
  refine ⟨zG_kd2 g h2 hk (by decide), ?_⟩
  replace g := zG_blk g h2 (by decide) hk (by decide) (by decide) 1 (T1.1.length + 1)
  clear h2
  revert g
  generalize ss S2 a 1 (T1.1.length + 1) = T2
  intro g
  simp only [w0_33]
  exact ⟨by trivial, zG_cast g (by decide) (by decide) (by decide)⟩
theorem c_X10 (a : Nat) (z : Int) (S : zS) (I : zM) (hk : kd S a = 12) (hz : z = 0 ∨ z = 1) : Wp 10 0 [vR a, vI z] [] S I (fun r S' _ => r = vU ∧ zG S S' 288 12 300) := by
  have g : zG S S 0 0 0 := zG_rf S
  simp only [w10_0, w10_1, w10_4, w10_5, w10_8, w10_9, w10_11]
  refine ⟨kd_spn _ _, Wp_mono (c_X5 _ _ _ _ (kd_spn _ _) (by decide) (by decide)) ?_⟩
  rintro _ S1 I1 ⟨rfl, h1⟩
  simp only [zpu_U, w10_14]
  refine ⟨zG_kd2 g h1 hk (by decide), ?_⟩
  replace g := zG_blk g h1 (by decide) hk (by decide) (by decide) 1 (S.1.length + 1)
  clear h1
  revert g
  generalize ss S1 a 1 (S.1.length + 1) = T1
  intro g
  simp only [w10_17, w10_18, w10_21, w10_22, w10_24]
  refine ⟨kd_spn _ _, Wp_mono (c_X5 _ _ _ _ (kd_spn _ _) (by decide) (by decide)) ?_⟩
  rintro _ S2 I2 ⟨rfl, h2⟩
  simp only [zpu_U, w10_27]
  refine ⟨zG_kd2 g h2 hk (by decide), ?_⟩
  replace g := zG_blk g h2 (by decide) hk (by decide) (by decide) 2 (T1.1.length + 1)
  clear h2
  revert g
  generalize ss S2 a 2 (T1.1.length + 1) = T2
  intro g
  simp only [w10_30, w10_31, w10_34, w10_35, w10_37]
  refine ⟨kd_spn _ _, Wp_mono (c_X5 _ _ _ _ (kd_spn _ _) (by decide) (by decide)) ?_⟩
  rintro _ S3 I3 ⟨rfl, h3⟩
  simp only [zpu_U, w10_40]
  refine ⟨zG_kd2 g h3 hk (by decide), ?_⟩
  replace g := zG_blk g h3 (by decide) hk (by decide) (by decide) 3 (T2.1.length + 1)
  clear h3
  revert g
  generalize ss S3 a 3 (T2.1.length + 1) = T3
  intro g
  simp only [w10_43, w10_44, w10_47, w10_48, w10_50, w10_52]
  refine ⟨kd_spn _ _, Wp_mono (c_X8 _ _ _ _ _ (kd_spn _ _) (by decide) (by decide) (by decide) (by decide) (by decide) (by decide)) ?_⟩
  rintro _ S4 I4 ⟨rfl, h4⟩
  simp only [zpu_U, w10_55]
  refine ⟨zG_kd2 g h4 hk (by decide), ?_⟩
  replace g := zG_blk g h4 (by decide) hk (by decide) (by decide) 4 (T3.1.length + 1)
  clear h4
  revert g
  generalize ss S4 a 4 (T3.1.length + 1) = T4
  intro g
  simp only [w10_58, w10_59, w10_62, w10_63, w10_65, w10_66]
  refine ⟨kd_spn _ _, Wp_mono (c_X8 _ _ _ _ _ (kd_spn _ _) (by decide) (by decide) (by decide) (by decide) (by decide) (by decide)) ?_⟩
  rintro _ S5 I5 ⟨rfl, h5⟩
  simp only [zpu_U, w10_69]
  refine ⟨zG_kd2 g h5 hk (by decide), ?_⟩
  replace g := zG_blk g h5 (by decide) hk (by decide) (by decide) 5 (T4.1.length + 1)
  clear h5
  revert g
  generalize ss S5 a 5 (T4.1.length + 1) = T5
  intro g
  simp only [w10_72, w10_73, w10_76, w10_77, w10_78, w10_80]
  refine ⟨kd_spn _ _, Wp_mono (c_X8 _ _ _ _ _ (kd_spn _ _) (by decide) (by decide) (by decide) (by decide) (by decide) (by decide)) ?_⟩
  rintro _ S6 I6 ⟨rfl, h6⟩
  simp only [zpu_U, w10_83]
  refine ⟨zG_kd2 g h6 hk (by decide), ?_⟩
  replace g := zG_blk g h6 (by decide) hk (by decide) (by decide) 6 (T5.1.length + 1)
  clear h6
  revert g
  generalize ss S6 a 6 (T5.1.length + 1) = T6
  intro g
  simp only [w10_86, w10_87, w10_88]
  refine ⟨⟨zG_kd g hk (by decide), hz⟩, ?_⟩
  replace g := zG_fld g hk (by decide) (by decide) 0 z.toNat
  simp only [w10_91]
  exact ⟨by trivial, zG_cast g (by decide) (by decide) (by decide)⟩
theorem c_X4 (a : Nat) (S : zS) (I : zM) (hk : kd S a = 6) : Wp 4 0 [vR a] [] S I (fun r S' _ => r = vU ∧ zG S S' 248 17 270) := by
  have g : zG S S 0 0 0 := zG_rf S
  simp only [w4_0, w4_1, w4_4, w4_5, w4_8, w4_9]
  refine ⟨kd_spn _ _, Wp_mono (c_X3 _ _ _ (kd_spn _ _)) ?_⟩
  rintro _ S1 I1 ⟨rfl, h1⟩
  simp only [zpu_U, w4_12]
  refine ⟨zG_kd2 g h1 hk (by decide), ?_⟩
  replace g := zG_blk g h1 (by decide) hk (by decide) (by decide) 0 (S.1.length + 1)
  clear h1
  revert g
  generalize ss S1 a 0 (S.1.length + 1) = T1
  intro g
  simp only [w4_15, w4_16, w4_19, w4_20, w4_22]
  refine ⟨kd_spn _ _, Wp_mono (c_X5 _ _ _ _ (kd_spn _ _) (by decide) (by decide)) ?_⟩
  rintro _ S2 I2 ⟨rfl, h2⟩
  simp only [zpu_U, w4_25]
  refine ⟨zG_kd2 g h2 hk (by decide), ?_⟩
  replace g := zG_blk g h2 (by decide) hk (by decide) (by decide) 1 (T1.1.length + 1)
  clear h2
  revert g
  generalize ss S2 a 1 (T1.1.length + 1) = T2
  intro g
  simp only [w4_28]
  exact ⟨by trivial, zG_cast g (by decide) (by decide) (by decide)⟩
theorem c_X7 (a : Nat) (S : zS) (I : zM) (hk : kd S a = 9) : Wp 7 0 [vR a] [] S I (fun r S' _ => r = vU ∧ zG S S' 92 8 98) := by
  have g : zG S S 0 0 0 := zG_rf S
  simp only [w7_0, w7_1, w7_4, w7_5, w7_8, w7_9, w7_10]
  refine ⟨kd_spn _ _, Wp_mono (c_X5 _ _ _ _ (kd_spn _ _) (by decide) (by decide)) ?_⟩
  rintro _ S1 I1 ⟨rfl, h1⟩
  simp only [zpu_U, w7_13]
  refine ⟨zG_kd2 g h1 hk (by decide), ?_⟩
  replace g := zG_blk g h1 (by decide) hk (by decide) (by decide) 0 (S.1.length + 1)
  clear h1
  revert g
  generalize ss S1 a 0 (S.1.length + 1) = T1
  intro g
  simp only [w7_16, w7_17, w7_20, w7_21, w7_22]
  refine ⟨kd_spn _ _, Wp_mono (c_X5 _ _ _ _ (kd_spn _ _) (by decide) (by decide)) ?_⟩
  rintro _ S2 I2 ⟨rfl, h2⟩
  simp only [zpu_U, w7_25]
  refine ⟨zG_kd2 g h2 hk (by decide), ?_⟩
  replace g := zG_blk g h2 (by decide) hk (by decide) (by decide) 1 (T1.1.length + 1)
  clear h2
  revert g
  generalize ss S2 a 1 (T1.1.length + 1) = T2
  intro g
  simp only [w7_28, w7_29, w7_32, w7_33, w7_34]
  refine ⟨kd_spn _ _, Wp_mono (c_X5 _ _ _ _ (kd_spn _ _) (by decide) (by decide)) ?_⟩
  rintro _ S3 I3 ⟨rfl, h3⟩
  simp only [zpu_U, w7_37]
  refine ⟨zG_kd2 g h3 hk (by decide), ?_⟩
  replace g := zG_blk g h3 (by decide) hk (by decide) (by decide) 2 (T2.1.length + 1)
  clear h3
  revert g
  generalize ss S3 a 2 (T2.1.length + 1) = T3
  intro g
  simp only [w7_40, w7_41, w7_44, w7_45, w7_46, w7_48]
  refine ⟨kd_spn _ _, Wp_mono (c_X8 _ _ _ _ _ (kd_spn _ _) (by decide) (by decide) (by decide) (by decide) (by decide) (by decide)) ?_⟩
  rintro _ S4 I4 ⟨rfl, h4⟩
  simp only [zpu_U, w7_51]
  refine ⟨zG_kd2 g h4 hk (by decide), ?_⟩
  replace g := zG_blk g h4 (by decide) hk (by decide) (by decide) 3 (T3.1.length + 1)
  clear h4
  revert g
  generalize ss S4 a 3 (T3.1.length + 1) = T4
  intro g
  simp only [w7_54]
  exact ⟨by trivial, zG_cast g (by decide) (by decide) (by decide)⟩
theorem c_X11 (a : Nat) (S : zS) (I : zM) (hk : kd S a = 13) : Wp 11 0 [vR a] [] S I (fun r S' _ => r = vU ∧ zG S S' 3022 138 3237) := by
  have g : zG S S 0 0 0 := zG_rf S
  simp only [w11_0, w11_1, w11_4, w11_5, w11_8, w11_9]
  refine ⟨kd_spn _ _, Wp_mono (c_X9 _ _ _ (kd_spn _ _)) ?_⟩
  rintro _ S1 I1 ⟨rfl, h1⟩
  simp only [zpu_U, w11_12]
  refine ⟨zG_kd2 g h1 hk (by decide), ?_⟩
  replace g := zG_blk g h1 (by decide) hk (by decide) (by decide) 0 (S.1.length + 1)
  clear h1
  revert g
  generalize ss S1 a 0 (S.1.length + 1) = T1
  intro g
  simp only [w11_15, w11_16, w11_19, w11_20]
  refine ⟨kd_spn _ _, Wp_mono (c_X3 _ _ _ (kd_spn _ _)) ?_⟩
  rintro _ S2 I2 ⟨rfl, h2⟩
  simp only [zpu_U, w11_23]
  refine ⟨zG_kd2 g h2 hk (by decide), ?_⟩
  replace g := zG_blk g h2 (by decide) hk (by decide) (by decide) 1 (T1.1.length + 1)
  clear h2
  revert g
  generalize ss S2 a 1 (T1.1.length + 1) = T2
  intro g
  simp only [w11_26, w11_27, w11_30, w11_31]
  refine ⟨kd_spn _ _, Wp_mono (c_X2 _ _ _ (kd_spn _ _)) ?_⟩
  rintro _ S3 I3 ⟨rfl, h3⟩
  simp only [zpu_U, w11_34]
  refine ⟨zG_kd2 g h3 hk (by decide), ?_⟩
  replace g := zG_blk g h3 (by decide) hk (by decide) (by decide) 2 (T2.1.length + 1)
  clear h3
  revert g
  generalize ss S3 a 2 (T2.1.length + 1) = T3
  intro g
  simp only [w11_37, w11_38, w11_41, w11_42]
  refine ⟨kd_spn _ _, Wp_mono (c_X1 _ _ _ (kd_spn _ _)) ?_⟩
  rintro _ S4 I4 ⟨rfl, h4⟩
  simp only [zpu_U, w11_45]
  refine ⟨zG_kd2 g h4 hk (by decide), ?_⟩
  replace g := zG_blk g h4 (by decide) hk (by decide) (by decide) 3 (T3.1.length + 1)
  clear h4
  revert g
  generalize ss S4 a 3 (T3.1.length + 1) = T4
  intro g
  simp only [w11_48, w11_49, w11_52, w11_53]
  refine ⟨kd_spn _ _, Wp_mono (c_X6 _ _ _ (kd_spn _ _)) ?_⟩
  rintro _ S5 I5 ⟨rfl, h5⟩
  simp only [zpu_U, w11_56]
  refine ⟨zG_kd2 g h5 hk (by decide), ?_⟩
  replace g := zG_blk g h5 (by decide) hk (by decide) (by decide) 4 (T4.1.length + 1)
  clear h5
  revert g
  generalize ss S5 a 4 (T4.1.length + 1) = T5
  intro g
  simp only [w11_59, w11_60, w11_63, w11_64]
  refine ⟨kd_spn _ _, Wp_mono (c_X0 _ _ _ (kd_spn _ _)) ?_⟩
  rintro _ S6 I6 ⟨rfl, h6⟩
  simp only [zpu_U, w11_67]
  refine ⟨zG_kd2 g h6 hk (by decide), ?_⟩
  replace g := zG_blk g h6 (by decide) hk (by decide) (by decide) 5 (T5.1.length + 1)
  clear h6
  revert g
  generalize ss S6 a 5 (T5.1.length + 1) = T6
  intro g
  simp only [w11_70, w11_71, w11_74, w11_75, w11_76]
  refine ⟨kd_spn _ _, Wp_mono (c_X10 _ _ _ _ (kd_spn _ _) (by decide)) ?_⟩
  rintro _ S7 I7 ⟨rfl, h7⟩
  simp only [zpu_U, w11_79]
  refine ⟨zG_kd2 g h7 hk (by decide), ?_⟩
  replace g := zG_blk g h7 (by decide) hk (by decide) (by decide) 6 (T6.1.length + 1)
  clear h7
  revert g
  generalize ss S7 a 6 (T6.1.length + 1) = T7
  intro g
  simp only [w11_82, w11_83, w11_86, w11_87, w11_88]
  refine ⟨kd_spn _ _, Wp_mono (c_X10 _ _ _ _ (kd_spn _ _) (by decide)) ?_⟩
  rintro _ S8 I8 ⟨rfl, h8⟩
  simp only [zpu_U, w11_91]
  refine ⟨zG_kd2 g h8 hk (by decide), ?_⟩
  replace g := zG_blk g h8 (by decide) hk (by decide) (by decide) 7 (T7.1.length + 1)
  clear h8
  revert g
  generalize ss S8 a 7 (T7.1.length + 1) = T8
  intro g
  simp only [w11_94, w11_95, w11_98, w11_99]
  refine ⟨kd_spn _ _, Wp_mono (c_X4 _ _ _ (kd_spn _ _)) ?_⟩
  rintro _ S9 I9 ⟨rfl, h9⟩
  simp only [zpu_U, w11_102]
  refine ⟨zG_kd2 g h9 hk (by decide), ?_⟩
  replace g := zG_blk g h9 (by decide) hk (by decide) (by decide) 8 (T8.1.length + 1)
  clear h9
  revert g
  generalize ss S9 a 8 (T8.1.length + 1) = T9
  intro g
  simp only [w11_105, w11_106, w11_109, w11_110]
  refine ⟨kd_spn _ _, Wp_mono (c_X4 _ _ _ (kd_spn _ _)) ?_⟩
  rintro _ S10 I10 ⟨rfl, h10⟩
  simp only [zpu_U, w11_113]
  refine ⟨zG_kd2 g h10 hk (by decide), ?_⟩
  replace g := zG_blk g h10 (by decide) hk (by decide) (by decide) 9 (T9.1.length + 1)
  clear h10
  revert g
  generalize ss S10 a 9 (T9.1.length + 1) = T10
  intro g
  simp only [w11_116, w11_117, w11_120, w11_121]
  refine ⟨kd_spn _ _, Wp_mono (c_X7 _ _ _ (kd_spn _ _)) ?_⟩
  rintro _ S11 I11 ⟨rfl, h11⟩
  simp only [zpu_U, w11_124]
  refine ⟨zG_kd2 g h11 hk (by decide), ?_⟩
  replace g := zG_blk g h11 (by decide) hk (by decide) (by decide) 10 (T10.1.length + 1)
  clear h11
  revert g
  generalize ss S11 a 10 (T10.1.length + 1) = T11
  intro g
  simp only [w11_127]
  exact ⟨by trivial, zG_cast g (by decide) (by decide) (by decide)⟩
end CT
end
section
/-! ===== the statement is false by its room: from any start with room to spare the law's first object alone makes more slots than the statement's end allows ===== -/
section RF
theorem zl_set : ∀ (L : List Nat) (a : Nat), L.sum = L.getD a 0 + (L.set a 0).sum := by
  intro L
  induction L with
  | nil => intro a; simp
  | cons x L ih =>
    intro a
    cases a with
    | zero => simp
    | succ a =>
      have h := ih a
      simp only [List.set_cons_succ, List.sum_cons, List.getD_cons_succ]
      omega
/-- at places that are apart no more than all -/
theorem zl_sum : ∀ (l : List Nat) (L : List Nat), l.Nodup → (l.map (fun i => L.getD i 0)).sum ≤ L.sum := by
  intro l
  induction l with
  | nil => intro L _; simp
  | cons a l ih =>
    intro L hn
    have h1 := zl_set L a
    have h2 := ih (L.set a 0) (List.nodup_cons.mp hn).2
    have h3 : l.map (fun i => L.getD i 0) = l.map (fun i => (L.set a 0).getD i 0) := List.map_congr_left (fun i hi => by
      have h4 : a ≠ i := fun e => (List.nodup_cons.mp hn).1 (e ▸ hi)
      simp only [List.getD_eq_getElem?_getD, List.getElem?_set_ne h4])
    rw [List.map_cons, List.sum_cons, h3]
    omega
theorem zl_le {f g : Nat → Nat} : ∀ (l : List Nat), (∀ a ∈ l, f a ≤ g a) → (l.map f).sum ≤ (l.map g).sum := by
  intro l
  induction l with
  | nil => intro _; simp
  | cons a l ih =>
    intro h
    have h1 := h a List.mem_cons_self
    have h2 := ih (fun b hb => h b (List.mem_cons_of_mem _ hb))
    simp only [List.map_cons, List.sum_cons]
    omega
variable {D : va_G} {base b : Nat} {xs : Nat → Int32} {s : State} {S : zS} {I : zM} {ad : Nat → Nat} {cA : Nat → ClassId} {F : Nat → Nat → Int32} {H : Heap}
/-- the heap holds the arrays of the picture, at places that are apart: so at the least their elements -/
theorem zWo_slots (W0 : zWo D base b xs ad cA F S I s H) : zar S ≤ ((H.toList.drop base).map (fun c => c.slots.size)).sum := by
  obtain ⟨tys, ws, hK, hP, hD, hsz, hbb, hX, hXl, hXv, hlen, hcell, hI, hN⟩ := W0
  have hget : ∀ a, a < S.1.length → ∃ q, S.1[a]? = some q := fun a ha => ⟨S.1[a], List.getElem?_eq_getElem ha⟩
  have e1 : S.1.map (fun q => if q.1 ≤ 1 then q.2.getD 0 0 else 0) = (List.range S.1.length).map (fun a => match S.1[a]? with
      | some q => if q.1 ≤ 1 then q.2.getD 0 0 else 0
      | none => 0) := by
    refine List.ext_getElem (by simp) (fun i h1 h2 => ?_)
    simp at h1
    simp [List.getElem?_eq_getElem h1]
  have hbase : ∀ a, a < S.1.length → base ≤ ad a := fun a ha => by
    obtain ⟨q, hq⟩ := hget a ha
    exact hD.2 a _ (hcell a q hq).1
  have hnd : ((List.range S.1.length).map (fun a => ad a - base)).Nodup := by
    refine List.pairwise_map.mpr (List.Pairwise.imp_of_mem ?_ List.pairwise_lt_range)
    intro a a' ha ha' hlt he
    have ha := List.mem_range.mp ha
    have ha' := List.mem_range.mp ha'
    have h1 := hbase a ha
    have h2 := hbase a' ha'
    obtain ⟨q, hq⟩ := hget a ha
    obtain ⟨q', hq'⟩ := hget a' ha'
    have h3 := hD.1 a a' _ _ (hcell a q hq).1 (hcell a' q' hq').1 (show ad a = ad a' by omega)
    omega
  have h5 := zl_sum _ ((H.toList.drop base).map (fun c => c.slots.size)) hnd
  refine Nat.le_trans ?_ h5
  unfold zar
  rw [e1, List.map_map]
  refine zl_le _ (fun a ha => ?_)
  have ha := List.mem_range.mp ha
  obtain ⟨q, hq⟩ := hget a ha
  rw [hq]
  dsimp only [Function.comp]
  by_cases h1 : q.1 ≤ 1
  · rw [if_pos h1]
    have h2 := hP a _ (hcell a q hq).1
    rw [zE_arr h1] at h2
    have h3 : H[ad a]? = some (vp_cell (cA a) (q.2.getD 0 0, .inl (F a))) := h2
    have h4 := hbase a ha
    have h6 : ((H.toList.drop base).map (fun c => c.slots.size)).getD (ad a - base) 0 = q.2.getD 0 0 := by
      rw [List.getD_eq_getElem?_getD, List.getElem?_map, List.getElem?_drop, show base + (ad a - base) = ad a by omega, Array.getElem?_toList, h3]
      simp [vp_cell, arrV]
    omega
  · rw [if_neg h1]; omega
end RF
/-- the room of the walk: the statement's, but for the slots -/
def zRw : Room := { frames := 10, cells := 178, slots := 8000, locals := 406 }
theorem zs_new {k pc i ci N : Nat} {ls st : List zV} {S : zS} {I : zM} (h : decode (bk k) pc = .ok (.new i, 3)) (hn : nw (ok k) i = some ci) (hN : nf ci = N) : stp k pc ls st S I = some (.inl (pc + 3, ls, vR S.1.length :: st, sp S (ci + 2, List.replicate N 0), cz I S.1.length)) := by
  subst hN; simp only [stp, h, sti, hn]; rw [if_pos trivial]; rfl
theorem zs_dup {k pc : Nat} {v : zV} {ls st : List zV} {S : zS} {I : zM} (h : decode (bk k) pc = .ok (.dup, 1)) (hv : zl v = false) : stp k pc ls (v :: st) S I = some (.inl (pc + 1, ls, v :: v :: st, S, I)) := by
  simp only [stp, h, sti]; rw [if_pos ⟨trivial, hv⟩]; rfl
theorem zs_ci {k pc i q k' n a : Nat} {ls st rest ls0 : List zV} {S : zS} {I : zM} (h : decode (bk k) pc = .ok (.invokespecial i, 3)) (hl : lkk (ok k) i = some (q, k')) (hq : q ≤ 1 ∧ ik k' = 2) (hn : nk k' = n) (hc : kd S a = ok k' + 2) (h1 : st.drop n = vR a :: rest) (h2 : (st.take n).length = n) (h3 : zro k k') (h4 : zws rest ≤ 8) (h5 : zok k' (vR a :: (st.take n).reverse)) (h6 : zen k' (vR a :: (st.take n).reverse) = ls0) : stp k pc ls st S I = some (.inr (.inl (k', ls0, rest))) := by
  subst hn; subst h6
  have h1 : st.drop (nk k') = Sum.inr (Sum.inl a) :: rest := h1
  simp only [stp, h, sti, hl, zcv, h1]; rw [if_pos trivial, if_pos hq, if_pos ⟨h2, hc, h3, h4, h5⟩]; rfl
/-- from the law's entry, with room to spare, the machine comes to a heap with more than 2740 slots more -/
theorem zwalk {p : Program} {e : Env} {s : State} {m : MethodId} {below : List Frame} {meth : Method} {c : Code} (l : Launch) {b L : Nat} {xs : Nat → Int32} (hL : L < 2147483648) (hx : p.tables.exec = Jvm.exec) (hb : c.code = code) (hml : c.maxLocals = 4) (hown : s.vm.findClass "ClauseDraftsLaw" = some m.cls) (hts : ∀ w ∈ lw_tbl, w.before #[Value.ref b] s = true) (hX : va_X b L xs s s.heap) (hbl : b < s.heap.size) : W p l e zRw s m #[Value.ref b] below meth c s.heap [] 0 0 (fun t => s.slotsUsed + 2740 < t.slotsUsed) (entryFrame m ([Value.ref b] : List Value).toArray 4) := by
  have hKn : ∀ ci, ci < 13 → ∃ (cC : ClassId) (iS : Nat → Nat), u_Kn s (cR ci) (cT ci) (cN ci) cC iS := fun ci hci => by
    obtain ⟨c0, iS0, hK0⟩ := u_known (C := cR ci) (T := cT ci) (N := cN ci) (n := cN ci) hts (zt_ws ci hci) (hts _ (List.mem_of_getElem? (zt_ins ci hci).1))
    exact ⟨c0, iS0, hK0⟩
  have hDx : ∃ D : va_G, va_K D vwCl [] s := by
    refine ⟨(fun ci => if h : ci < 13 then Classical.choose (hKn ci h) else 0, fun ci => if h : ci < 13 then Classical.choose (Classical.choose_spec (hKn ci h)) else fun _ => 0), fun ci q hq => ?_, fun k q h => by simp at h⟩
    have hci : ci < 13 := (List.getElem?_eq_some_iff.mp hq).1
    rw [zt_cls ci hci] at hq
    cases hq
    dsimp only
    rw [dif_pos hci, dif_pos hci]
    exact Classical.choose_spec (Classical.choose_spec (hKn ci hci))
  obtain ⟨D, hK⟩ := hDx
  have hN : ∀ r ∈ zlk_l, r.2.2.1 = 1 → va_Nw (zlc r) s := by
    intro r hr h1
    have h2 := hts _ (List.mem_of_getElem? (zt_link r hr).1)
    rw [zlc_1 h1] at h2 ⊢
    exact va_Nw.of rfl h2
  have W0 : zWo D s.heap.size b xs (fun _ => 0) (fun _ => 0) (fun _ _ => 0) ([], L, fun j => (xs j.toNat).toInt) (fun _ _ => 0) s s.heap := by
    refine ⟨[], [], hK, fun k q h => by simp at h, ⟨fun i j p q h => by simp at h, fun k q h => by simp at h⟩, Nat.le_refl _, hbl, hX, hL, fun j hj => by simp, rfl, fun a q h => by simp at h, fun a j h => by simp at h, hN⟩
  have Cx : zCx 13 zRw p s m #[Value.ref b] meth c := ⟨hx, hb, hml, hown, fun w hw => hts w (List.mem_filter.mp hw).1, by decide +kernel, by decide +kernel, fun z => absurd z (by decide +kernel)⟩
  rw [lg_entry_eq]
  have hA : zSr b (fun _ => 0) 0 [vX] [Value.ref b] := ⟨rfl, trivial⟩
  have hen : zen 13 [vX] = [vX, vU, vU, vU] := by decide +kernel
  have hL0 := zen_rel (k := 13) hA (by decide +kernel)
  rw [hen] at hL0
  have hlk : lk 13 = 4 := by decide +kernel
  have hL1 : zLr b (fun _ => 0) 0 (lk 13) (hk 13) ((lg_sl [Value.ref b] ++ List.replicate (4 - (lg_sl [Value.ref b]).length) Slot.unset).toArray) [vX, vU, vU, vU] := by rw [hlk] at hL0 ⊢; exact hL0
  generalize (fun j : Int => (xs j.toNat).toInt) = X at W0
  generalize hI0 : (fun (_ : Nat) (_ : Int) => (0 : Int)) = I0 at W0
  have s1 : stp 13 0 [vX, vU, vU, vU] [] ([], L, X) I0 = some (.inl (0 + 3, [vX, vU, vU, vU], [vR 0], sp ([], L, X) (13, List.replicate 11 0), cz I0 0)) := zs_new (by decide +kernel : decode (bk 13) 0 = .ok (.new 7, 3)) (by decide +kernel : nw (ok 13) 7 = some 11) (by decide +kernel)
  have s2 : stp 13 3 [vX, vU, vU, vU] [vR 0] (sp ([], L, X) (13, List.replicate 11 0)) (cz I0 0) = some (.inl (3 + 1, [vX, vU, vU, vU], [vR 0, vR 0], sp ([], L, X) (13, List.replicate 11 0), cz I0 0)) := zs_dup (by decide +kernel : decode (bk 13) 3 = .ok (.dup, 1)) rfl
  have hk0 : kd (sp ([], L, X) (13, List.replicate 11 0)) 0 = 13 := kd_spn ([], L, X) (13, List.replicate 11 0)
  have s3 : stp 13 4 [vX, vU, vU, vU] [vR 0, vR 0] (sp ([], L, X) (13, List.replicate 11 0)) (cz I0 0) = some (.inr (.inl (11, [vR 0], [vR 0]))) := zs_ci (n := 0) (a := 0) (by decide +kernel : decode (bk 13) 4 = .ok (.invokespecial 9, 3)) (by decide +kernel : lkk (ok 13) 9 = some (0, 11)) (by decide +kernel) (by decide +kernel) (hk0.trans (by decide +kernel)) rfl rfl (by decide +kernel) (by decide +kernel) (by decide +kernel) (by decide +kernel)
  obtain ⟨n, ⟨r, S2, I2⟩, hex, hr1, hG⟩ := c_X11 0 (sp ([], L, X) (13, List.replicate 11 0)) (cz I0 0) hk0
  dsimp only at hr1 hG
  obtain ⟨g1, g2, g3, -⟩ := hG
  have l1 : (sp ([], L, X) (13, List.replicate 11 0)).1.length = 1 := rfl
  have z0 : zsl (([], L, X) : zS) = 0 := rfl
  have z1 : zsl (sp ([], L, X) (13, List.replicate 11 0)) = 11 := rfl
  have a1 : zar (sp ([], L, X) (13, List.replicate 11 0)) = 0 := rfl
  rw [a1] at g1
  rw [l1] at g2
  rw [z1] at g3
  refine z_next Cx (Nat.le_refl _) W0 va_S.rf hL1 (show zSr b (fun _ => 0) 0 [] [] from trivial) s1 (by rw [l1]; exact Nat.le_of_ble_eq_true rfl) (by rw [z1, z0]; exact Nat.le_of_ble_eq_true rfl) ?_
  intro ad1 cA1 F1 H1 locs1 ls1 st1 W1 hS1 hLr1 hT1 had1
  refine z_next Cx (Nat.le_refl _) W1 hS1 hLr1 hT1 s2 (by rw [l1]; exact Nat.le_of_ble_eq_true rfl) (by rw [z1, z0]; exact Nat.le_of_ble_eq_true rfl) ?_
  intro ad2 cA2 F2 H2 locs2 ls2 st2 W2 hS2 hLr2 hT2 had2
  have hC := z_call_inv s3
  obtain ⟨rest', a, hq', hrun⟩ := z_callrun (l := l) (e := e) (below := below) (locs := locs2) (cells := 0 + ((sp ([], L, X) (13, List.replicate 11 0)).1.length - (([], L, X) : zS).1.length) + ((sp ([], L, X) (13, List.replicate 11 0)).1.length - (sp ([], L, X) (13, List.replicate 11 0)).1.length)) (slots := 0 + (zsl (sp ([], L, X) (13, List.replicate 11 0)) - zsl (([], L, X) : zS)) + (zsl (sp ([], L, X) (13, List.replicate 11 0)) - zsl (sp ([], L, X) (13, List.replicate 11 0)))) (r := r) (S1 := S2) (I1 := I2) (mc := S2.1.length - (sp ([], L, X) (13, List.replicate 11 0)).1.length) (ms := zsl S2 - zsl (sp ([], L, X) (13, List.replicate 11 0))) Cx W2 hLr2 hT2 hC (fun av As hls hok hAs => zmet (zfollow l D s.heap.size b xs n) (by decide) (by rw [← hls]; exact hex) hok hAs) ⟨by
      rw [l1, g2]; exact Nat.le_of_ble_eq_true rfl, by rw [z1, z0, g3]; exact Nat.le_of_ble_eq_true rfl⟩
  refine zcall_go hrun W2 hS2 ?_
  intro ad3 cA3 F3 H3 locs3 rv3 W3 hS3 hrv3 had3
  intro T hT X0
  refine ⟨_, Steps.refl _, ?_⟩
  have h4 : T.slotsUsed = s.slotsUsed + ((T.heap.toList.drop s.heap.size).map (fun c => c.slots.size)).sum := X0.same.2.2.2.1
  have h5 := zWo_slots W3
  rw [hT] at h4
  show s.slotsUsed + 2740 < T.slotsUsed
  omega
/-- an end of the run that began in s, with no more than 2740 slots more than there -/
def zSmall (p : Program) (e : Env) (below : List Frame) (s : State) : Prop := ∃ (n : Nat) (o : Outcome), (∀ k, k < n → Within (stepsAlone p.tables e k s) below) ∧ Ended (stepsAlone p.tables e n s) below o ∧ (stepsAlone p.tables e n s).slotsUsed ≤ s.slotsUsed + 2740
def zArg (b : Addr) (xs : List Int32) (args : Array Value) (s : State) : Prop := args = #[.ref b] ∧ s.IntsAt b xs
/-- with room to spare no run of the law has such an end -/
theorem zbig (l : Launch) (b : Addr) (xs : List Int32) : MetFree l x (headSpec (Jvm.Cond.code x code maxLocals ret :: tables_1) zRw) (zArg b xs) (fun p e below s _ => zSmall p e below s) (fun _ _ _ _ => False) := by
  refine MetFree.of_bodyR (code := code) (maxLocals := maxLocals) (ret := ret) (by decide) ?_ ?_
  · intro args s m h hn
    obtain ⟨meth, c, h1, h2, h3, h4, h5, h6, -, -⟩ := Cond.code_spec hn (atoms_spec (ws := Jvm.Cond.code x code maxLocals ret :: tables_1) h _ List.mem_cons_self)
    exact ⟨meth, c, h1, h2, h3, h4, h5, h6⟩
  · intro p e s m args below meth c s₁ B hml0 hP hsm hst
    exfalso
    obtain ⟨rfl, hx⟩ := hP
    obtain ⟨scr, harrAt, hlist, hof, hsmall⟩ := hx
    obtain ⟨hcb, hkn, -, -⟩ := State.arrayAt?_spec harrAt
    have hown : s.vm.findClass "ClauseDraftsLaw" = some m.cls := findClass_of_methodNamed B.named
    have hts0 : ∀ c ∈ (Jvm.Cond.code x code maxLocals ret :: tables_1), c.before #[Value.ref b] s = true := atoms_spec (ws := Jvm.Cond.code x code maxLocals ret :: tables_1) B.pre
    have hts : ∀ w ∈ lw_tbl, w.before #[Value.ref b] s = true := k2_hts_sels lw_privs (fun w hw => hts0 w (List.mem_cons_of_mem _ hw)) lw_privs_ok
    have hml : c.maxLocals = 4 := B.maxLocals_eq (hts0 _ List.mem_cons_self)
    have X₀ : Stand p l e zRw s m #[Value.ref b] below meth c s₁ [] 0 0 := Stand.of_body B
    have hh0 : s₁.heap = s.heap := by rw [B.state]; rfl
    have hsz : scr.slots.size = xs.length := by rw [← Array.length_toList, hlist, List.length_map]
    have hval : ∀ j : Nat, j < xs.length → scr.slots[j]? = some (.int (xs.getD j 0)) := fun j hj => by
      rw [← Array.getElem?_toList, hlist]
      simp [hj]
    have hbl : b < s.heap.size := (Array.getElem?_eq_some_iff.mp hcb).1
    have hX : va_X b xs.length (fun j => xs.getD j 0) s s.heap := ⟨scr, hcb, hof, hkn, hsz, hval⟩
    have hlen : xs.length < 2147483648 := hsmall
    have K := zwalk (e := e) (below := below) (meth := meth) l hlen B.exec B.bytes hml hown hts hX hbl
    obtain ⟨t, a1, hbig⟩ := K s₁ hh0 X₀
    obtain ⟨k, hk, hw⟩ := hst.trans a1
    obtain ⟨n, o, hwn, hend, hle⟩ := hsm
    rcases Nat.lt_or_ge n k with h | h
    · exact hend.not_within (hw n h)
    · have h2 := (stepsAlone_heap_grows_add p.tables e k (n - k) s).2
      rw [hk, show k + (n - k) = n by omega] at h2
      have hbig : s.slotsUsed + 2740 < t.slotsUsed := hbig
      omega
theorem zarg_spec {args : Array Value} {s : State} (h : (Jvm.Cond.and given_1 narrow_1).before args s = true) (hr : rest_1_c.before args s = true) : ∃ (b : Addr) (xs : List Int32), zArg b xs args s := by
  have hs := flat_of_before _ h
  have hq := flat_of_before _ hr
  have hc : (Cond.count 1).before args s = true := hs _ (by decide +kernel)
  have harr : (Cond.arrayOf (.arg 0) .int).before args s = true := hs _ (by decide +kernel)
  have hlen : (Cond.isInt (.length (.arg 0))).before args s = true := hq _ (by decide +kernel)
  have hall : (Cond.all (.arg 0) (.isInt (.elem (.arg 0) (.index 0)))).before args s = true := hq _ (by decide +kernel)
  obtain ⟨b, xs, hb, hx⟩ := State.ints_of_pre rfl harr hlen hall
  exact ⟨b, xs, Cond.one_arg hc (show args[0]? = some (.ref b) from hb), hx⟩
/-- THE REFUTATION, at any start that the statement allows and that has 8000 slots of room: the first limb of the claim fails there -/
theorem znot {l : Launch} {p : Program} {e : Env} {s : State} {m : MethodId} {args : Array Value} {below : List Frame} (hfl : l.flags = flags0) (hA : AtStart classFile x code maxLocals ret World_1 tables_1 room_1 Calls_1 rest_1 Pre_1 l p e s m args below) (hR : s.hasRoom e.platform zRw = true) : ¬ Claimed_1_1 := by
  intro hC
  obtain ⟨hLi, hWo, had, hle, hcas, hclk, hf, hfit, hheap, happ, hcalls, hrest, hpre⟩ := hA
  obtain ⟨n, o, h1, h2, h3, h4⟩ := hC l hfl hLi hWo p e had hcas hclk s m args below hf hfit hheap happ ⟨hcalls, hrest, hpre⟩
  obtain ⟨-, -, -, hS⟩ := h4
  have h5 : (stepsAlone p.tables e n s).slotsUsed = s.slotsUsed + (((stepsAlone p.tables e n s).heap.toList.drop s.heap.size).map (fun c => c.slots.size)).sum := hS.2.2.2.1
  have h6 : (((stepsAlone p.tables e n s).heap.toList.drop s.heap.size).map (fun c => c.slots.size)).sum ≤ 2740 := hS.2.2.2.2.1
  obtain ⟨b, xs, hP⟩ := zarg_spec hpre hrest
  obtain ⟨i1, i2, i3, i4, i5, i6, i7, i8⟩ := (Spec.applies_iff hf).mp happ
  have happ2 : (headSpec (Jvm.Cond.code x code maxLocals ret :: tables_1) zRw).applies x e.platform s = true := (Spec.applies_iff hf).mpr ⟨i1, i2, i3, i4, i5, i6, hR, i8⟩
  obtain ⟨_, _, _, _, _, hfalse⟩ := zbig l b xs p e had hcas hclk s m args below hf ((Spec.applies_iff_loose hf).mp happ2).1 hP ⟨n, o, h1, h3, by omega⟩
  exact hfalse
end
section
/-! ===== the refutation at the witness's own start ===== -/
theorem zspare : start1.about.hasRoom start1.e0.platform zRw = true := launch0.hasRoom_least _ zRw (by decide +kernel) (by decide +kernel) (by decide +kernel) (by decide +kernel) (by decide +kernel) (by decide +kernel)
/-- the first limb is false, and so is what is owed -/
theorem znot_1_1 : ¬ Claimed_1_1 := znot (l := launch0) rfl start1.atStart zspare
theorem znot_vc : ¬ (Claimed_1_1 ∧ Claimed_1_2) := fun h => znot_1_1 h.1
end
