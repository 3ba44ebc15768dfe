section
-- ===== PART A: goes FIRST, ahead of the names: the tables' words, and 'selects' of the private methods out of them =====
/-- a private method of a class that the tables say can be made, by its rows of tables_1 -/
def lw_okq (q : MethodName × Nat) : Prop := (q.1.cls ≠ "java/lang/invoke/MethodHandle" ∧ q.1.cls ≠ "java/lang/invoke/VarHandle") ∧ Cond.instantiable q.1.cls q.2 ∈ tables_1 ∧ Cond.privateMethod q.1 ∈ tables_1 ∧ Cond.instanceMethod q.1 ∈ tables_1
theorem lw_p0 : lw_okq (⟨"LazyBuilder", "readLine", "()Z"⟩, 5) := ⟨⟨by decide +kernel, by decide +kernel⟩, List.mem_of_getElem? (i := 11) (by decide +kernel), List.mem_of_getElem? (i := 170) (by decide +kernel), List.mem_of_getElem? (i := 171) (by decide +kernel)⟩
theorem lw_p1 : lw_okq (⟨"LazyBuilder$Text", "readExpression", "(II)I"⟩, 5) := ⟨⟨by decide +kernel, by decide +kernel⟩, List.mem_of_getElem? (i := 19) (by decide +kernel), List.mem_of_getElem? (i := 178) (by decide +kernel), List.mem_of_getElem? (i := 179) (by decide +kernel)⟩
theorem lw_p2 : lw_okq (⟨"LazyBuilder$Text", "badAt", "(I)I"⟩, 5) := ⟨⟨by decide +kernel, by decide +kernel⟩, List.mem_of_getElem? (i := 19) (by decide +kernel), List.mem_of_getElem? (i := 182) (by decide +kernel), List.mem_of_getElem? (i := 183) (by decide +kernel)⟩
theorem lw_p3 : lw_okq (⟨"LazyBuilder$Text", "readKind", "(II)I"⟩, 5) := ⟨⟨by decide +kernel, by decide +kernel⟩, List.mem_of_getElem? (i := 19) (by decide +kernel), List.mem_of_getElem? (i := 186) (by decide +kernel), List.mem_of_getElem? (i := 187) (by decide +kernel)⟩
theorem lw_p4 : lw_okq (⟨"LazyBuilder$Text", "readPlan", "(II)I"⟩, 5) := ⟨⟨by decide +kernel, by decide +kernel⟩, List.mem_of_getElem? (i := 19) (by decide +kernel), List.mem_of_getElem? (i := 194) (by decide +kernel), List.mem_of_getElem? (i := 195) (by decide +kernel)⟩
theorem lw_p5 : lw_okq (⟨"LazyBuilder$Worker", "forgetValues", "()V"⟩, 5) := ⟨⟨by decide +kernel, by decide +kernel⟩, List.mem_of_getElem? (i := 69) (by decide +kernel), List.mem_of_getElem? (i := 216) (by decide +kernel), List.mem_of_getElem? (i := 217) (by decide +kernel)⟩
theorem lw_p6 : lw_okq (⟨"LazyBuilder$Worker", "workName", "(II)J"⟩, 5) := ⟨⟨by decide +kernel, by decide +kernel⟩, List.mem_of_getElem? (i := 69) (by decide +kernel), List.mem_of_getElem? (i := 241) (by decide +kernel), List.mem_of_getElem? (i := 242) (by decide +kernel)⟩
theorem lw_p7 : lw_okq (⟨"LazyBuilder$Worker", "work", "(LLazyBuilder$Text;II)J"⟩, 5) := ⟨⟨by decide +kernel, by decide +kernel⟩, List.mem_of_getElem? (i := 69) (by decide +kernel), List.mem_of_getElem? (i := 247) (by decide +kernel), List.mem_of_getElem? (i := 248) (by decide +kernel)⟩
theorem lw_p8 : lw_okq (⟨"LazyBuilder$Worker", "workChoice", "(LLazyBuilder$Text;II)J"⟩, 5) := ⟨⟨by decide +kernel, by decide +kernel⟩, List.mem_of_getElem? (i := 69) (by decide +kernel), List.mem_of_getElem? (i := 255) (by decide +kernel), List.mem_of_getElem? (i := 256) (by decide +kernel)⟩
theorem lw_p9 : lw_okq (⟨"LazyBuilder$Worker", "workAbort", "(LLazyBuilder$Text;II)J"⟩, 5) := ⟨⟨by decide +kernel, by decide +kernel⟩, List.mem_of_getElem? (i := 69) (by decide +kernel), List.mem_of_getElem? (i := 271) (by decide +kernel), List.mem_of_getElem? (i := 272) (by decide +kernel)⟩
theorem lw_p10 : lw_okq (⟨"LazyBuilder$Worker", "workTry", "(LLazyBuilder$Text;II)J"⟩, 5) := ⟨⟨by decide +kernel, by decide +kernel⟩, List.mem_of_getElem? (i := 69) (by decide +kernel), List.mem_of_getElem? (i := 276) (by decide +kernel), List.mem_of_getElem? (i := 277) (by decide +kernel)⟩
theorem lw_p11 : lw_okq (⟨"LazyBuilder$Worker", "workPlan", "(LLazyBuilder$Text;II)J"⟩, 5) := ⟨⟨by decide +kernel, by decide +kernel⟩, List.mem_of_getElem? (i := 69) (by decide +kernel), List.mem_of_getElem? (i := 284) (by decide +kernel), List.mem_of_getElem? (i := 285) (by decide +kernel)⟩
theorem lw_p12 : lw_okq (⟨"LazyBuilder$Worker", "workResult", "(LLazyBuilder$Text;II)J"⟩, 5) := ⟨⟨by decide +kernel, by decide +kernel⟩, List.mem_of_getElem? (i := 69) (by decide +kernel), List.mem_of_getElem? (i := 330) (by decide +kernel), List.mem_of_getElem? (i := 331) (by decide +kernel)⟩
theorem lw_p13 : lw_okq (⟨"LazyBuilder$Store", "partOf", "(JI)J"⟩, 4) := ⟨⟨by decide +kernel, by decide +kernel⟩, List.mem_of_getElem? (i := 45) (by decide +kernel), List.mem_of_getElem? (i := 338) (by decide +kernel), List.mem_of_getElem? (i := 339) (by decide +kernel)⟩
theorem lw_p14 : lw_okq (⟨"LazyBuilder$Store", "planIn", "(J)LLazyBuilder$Plan;"⟩, 4) := ⟨⟨by decide +kernel, by decide +kernel⟩, List.mem_of_getElem? (i := 45) (by decide +kernel), List.mem_of_getElem? (i := 342) (by decide +kernel), List.mem_of_getElem? (i := 343) (by decide +kernel)⟩
theorem lw_p15 : lw_okq (⟨"LazyBuilder$Store", "finish", "(LLazyBuilder$Plan;)J"⟩, 4) := ⟨⟨by decide +kernel, by decide +kernel⟩, List.mem_of_getElem? (i := 45) (by decide +kernel), List.mem_of_getElem? (i := 356) (by decide +kernel), List.mem_of_getElem? (i := 357) (by decide +kernel)⟩
def lw_privs_1 : List (MethodName × Nat) := [(⟨"LazyBuilder", "readLine", "()Z"⟩, 5), (⟨"LazyBuilder$Text", "readExpression", "(II)I"⟩, 5), (⟨"LazyBuilder$Text", "badAt", "(I)I"⟩, 5), (⟨"LazyBuilder$Text", "readKind", "(II)I"⟩, 5), (⟨"LazyBuilder$Text", "readPlan", "(II)I"⟩, 5), (⟨"LazyBuilder$Worker", "forgetValues", "()V"⟩, 5), (⟨"LazyBuilder$Worker", "workName", "(II)J"⟩, 5), (⟨"LazyBuilder$Worker", "work", "(LLazyBuilder$Text;II)J"⟩, 5), (⟨"LazyBuilder$Worker", "workChoice", "(LLazyBuilder$Text;II)J"⟩, 5), (⟨"LazyBuilder$Worker", "workAbort", "(LLazyBuilder$Text;II)J"⟩, 5), (⟨"LazyBuilder$Worker", "workTry", "(LLazyBuilder$Text;II)J"⟩, 5), (⟨"LazyBuilder$Worker", "workPlan", "(LLazyBuilder$Text;II)J"⟩, 5), (⟨"LazyBuilder$Worker", "workResult", "(LLazyBuilder$Text;II)J"⟩, 5), (⟨"LazyBuilder$Store", "partOf", "(JI)J"⟩, 4), (⟨"LazyBuilder$Store", "planIn", "(J)LLazyBuilder$Plan;"⟩, 4), (⟨"LazyBuilder$Store", "finish", "(LLazyBuilder$Plan;)J"⟩, 4)]
theorem lw_r1 : ∀ q ∈ lw_privs_1, lw_okq q := List.forall_mem_cons.mpr ⟨lw_p0, List.forall_mem_cons.mpr ⟨lw_p1, List.forall_mem_cons.mpr ⟨lw_p2, List.forall_mem_cons.mpr ⟨lw_p3, List.forall_mem_cons.mpr ⟨lw_p4, List.forall_mem_cons.mpr ⟨lw_p5, List.forall_mem_cons.mpr ⟨lw_p6, List.forall_mem_cons.mpr ⟨lw_p7, List.forall_mem_cons.mpr ⟨lw_p8, List.forall_mem_cons.mpr ⟨lw_p9, List.forall_mem_cons.mpr ⟨lw_p10, List.forall_mem_cons.mpr ⟨lw_p11, List.forall_mem_cons.mpr ⟨lw_p12, List.forall_mem_cons.mpr ⟨lw_p13, List.forall_mem_cons.mpr ⟨lw_p14, List.forall_mem_cons.mpr ⟨lw_p15, fun _ h => absurd h List.not_mem_nil⟩⟩⟩⟩⟩⟩⟩⟩⟩⟩⟩⟩⟩⟩⟩⟩
theorem lw_p16 : lw_okq (⟨"LazyBuilder$Store", "greatestOf", "(LLazyBuilder$Plan;)I"⟩, 4) := ⟨⟨by decide +kernel, by decide +kernel⟩, List.mem_of_getElem? (i := 45) (by decide +kernel), List.mem_of_getElem? (i := 360) (by decide +kernel), List.mem_of_getElem? (i := 361) (by decide +kernel)⟩
theorem lw_p17 : lw_okq (⟨"LazyBuilder$Store", "readyPart", "(J)I"⟩, 4) := ⟨⟨by decide +kernel, by decide +kernel⟩, List.mem_of_getElem? (i := 45) (by decide +kernel), List.mem_of_getElem? (i := 364) (by decide +kernel), List.mem_of_getElem? (i := 365) (by decide +kernel)⟩
theorem lw_p18 : lw_okq (⟨"LazyBuilder$Store", "outcome", "(LLazyBuilder$Plan;I)I"⟩, 4) := ⟨⟨by decide +kernel, by decide +kernel⟩, List.mem_of_getElem? (i := 45) (by decide +kernel), List.mem_of_getElem? (i := 369) (by decide +kernel), List.mem_of_getElem? (i := 370) (by decide +kernel)⟩
theorem lw_p19 : lw_okq (⟨"LazyBuilder$Store", "productOf", "(LLazyBuilder$Plan;)I"⟩, 4) := ⟨⟨by decide +kernel, by decide +kernel⟩, List.mem_of_getElem? (i := 45) (by decide +kernel), List.mem_of_getElem? (i := 373) (by decide +kernel), List.mem_of_getElem? (i := 374) (by decide +kernel)⟩
theorem lw_p20 : lw_okq (⟨"LazyBuilder$Store", "sumOf", "(LLazyBuilder$Plan;)I"⟩, 4) := ⟨⟨by decide +kernel, by decide +kernel⟩, List.mem_of_getElem? (i := 45) (by decide +kernel), List.mem_of_getElem? (i := 377) (by decide +kernel), List.mem_of_getElem? (i := 378) (by decide +kernel)⟩
theorem lw_p21 : lw_okq (⟨"LazyBuilder$Worker", "workPair", "(LLazyBuilder$Text;II)J"⟩, 5) := ⟨⟨by decide +kernel, by decide +kernel⟩, List.mem_of_getElem? (i := 69) (by decide +kernel), List.mem_of_getElem? (i := 381) (by decide +kernel), List.mem_of_getElem? (i := 382) (by decide +kernel)⟩
theorem lw_p22 : lw_okq (⟨"LazyBuilder", "workLineOut", "()I"⟩, 5) := ⟨⟨by decide +kernel, by decide +kernel⟩, List.mem_of_getElem? (i := 11) (by decide +kernel), List.mem_of_getElem? (i := 396) (by decide +kernel), List.mem_of_getElem? (i := 397) (by decide +kernel)⟩
theorem lw_p23 : lw_okq (⟨"LazyBuilder$Store", "wantInputs", "(LLazyBuilder$Plan;)V"⟩, 4) := ⟨⟨by decide +kernel, by decide +kernel⟩, List.mem_of_getElem? (i := 45) (by decide +kernel), List.mem_of_getElem? (i := 431) (by decide +kernel), List.mem_of_getElem? (i := 432) (by decide +kernel)⟩
theorem lw_p24 : lw_okq (⟨"LazyBuilderModel", "digit", "(I)Z"⟩, 36) := ⟨⟨by decide +kernel, by decide +kernel⟩, List.mem_of_getElem? (i := 455) (by decide +kernel), List.mem_of_getElem? (i := 575) (by decide +kernel), List.mem_of_getElem? (i := 576) (by decide +kernel)⟩
theorem lw_p25 : lw_okq (⟨"LazyBuilderModel", "name", "(I)Z"⟩, 36) := ⟨⟨by decide +kernel, by decide +kernel⟩, List.mem_of_getElem? (i := 455) (by decide +kernel), List.mem_of_getElem? (i := 579) (by decide +kernel), List.mem_of_getElem? (i := 580) (by decide +kernel)⟩
theorem lw_p26 : lw_okq (⟨"LazyBuilderModel", "wants", "(I)I"⟩, 36) := ⟨⟨by decide +kernel, by decide +kernel⟩, List.mem_of_getElem? (i := 455) (by decide +kernel), List.mem_of_getElem? (i := 583) (by decide +kernel), List.mem_of_getElem? (i := 584) (by decide +kernel)⟩
theorem lw_p27 : lw_okq (⟨"LazyBuilderModel", "syntax", "()Z"⟩, 36) := ⟨⟨by decide +kernel, by decide +kernel⟩, List.mem_of_getElem? (i := 455) (by decide +kernel), List.mem_of_getElem? (i := 596) (by decide +kernel), List.mem_of_getElem? (i := 597) (by decide +kernel)⟩
theorem lw_p28 : lw_okq (⟨"LazyBuilderModel", "badPlace", "()I"⟩, 36) := ⟨⟨by decide +kernel, by decide +kernel⟩, List.mem_of_getElem? (i := 455) (by decide +kernel), List.mem_of_getElem? (i := 600) (by decide +kernel), List.mem_of_getElem? (i := 601) (by decide +kernel)⟩
theorem lw_p29 : lw_okq (⟨"LazyBuilderModel", "deeper", "(IZ)V"⟩, 36) := ⟨⟨by decide +kernel, by decide +kernel⟩, List.mem_of_getElem? (i := 455) (by decide +kernel), List.mem_of_getElem? (i := 604) (by decide +kernel), List.mem_of_getElem? (i := 605) (by decide +kernel)⟩
theorem lw_p30 : lw_okq (⟨"LazyBuilderModel", "complete", "()V"⟩, 36) := ⟨⟨by decide +kernel, by decide +kernel⟩, List.mem_of_getElem? (i := 455) (by decide +kernel), List.mem_of_getElem? (i := 608) (by decide +kernel), List.mem_of_getElem? (i := 609) (by decide +kernel)⟩
theorem lw_p31 : lw_okq (⟨"LazyBuilderModel", "forget", "()V"⟩, 36) := ⟨⟨by decide +kernel, by decide +kernel⟩, List.mem_of_getElem? (i := 455) (by decide +kernel), List.mem_of_getElem? (i := 612) (by decide +kernel), List.mem_of_getElem? (i := 613) (by decide +kernel)⟩
def lw_privs_2 : List (MethodName × Nat) := [(⟨"LazyBuilder$Store", "greatestOf", "(LLazyBuilder$Plan;)I"⟩, 4), (⟨"LazyBuilder$Store", "readyPart", "(J)I"⟩, 4), (⟨"LazyBuilder$Store", "outcome", "(LLazyBuilder$Plan;I)I"⟩, 4), (⟨"LazyBuilder$Store", "productOf", "(LLazyBuilder$Plan;)I"⟩, 4), (⟨"LazyBuilder$Store", "sumOf", "(LLazyBuilder$Plan;)I"⟩, 4), (⟨"LazyBuilder$Worker", "workPair", "(LLazyBuilder$Text;II)J"⟩, 5), (⟨"LazyBuilder", "workLineOut", "()I"⟩, 5), (⟨"LazyBuilder$Store", "wantInputs", "(LLazyBuilder$Plan;)V"⟩, 4), (⟨"LazyBuilderModel", "digit", "(I)Z"⟩, 36), (⟨"LazyBuilderModel", "name", "(I)Z"⟩, 36), (⟨"LazyBuilderModel", "wants", "(I)I"⟩, 36), (⟨"LazyBuilderModel", "syntax", "()Z"⟩, 36), (⟨"LazyBuilderModel", "badPlace", "()I"⟩, 36), (⟨"LazyBuilderModel", "deeper", "(IZ)V"⟩, 36), (⟨"LazyBuilderModel", "complete", "()V"⟩, 36), (⟨"LazyBuilderModel", "forget", "()V"⟩, 36)]
theorem lw_r2 : ∀ q ∈ lw_privs_2, lw_okq q := List.forall_mem_cons.mpr ⟨lw_p16, List.forall_mem_cons.mpr ⟨lw_p17, List.forall_mem_cons.mpr ⟨lw_p18, List.forall_mem_cons.mpr ⟨lw_p19, List.forall_mem_cons.mpr ⟨lw_p20, List.forall_mem_cons.mpr ⟨lw_p21, List.forall_mem_cons.mpr ⟨lw_p22, List.forall_mem_cons.mpr ⟨lw_p23, List.forall_mem_cons.mpr ⟨lw_p24, List.forall_mem_cons.mpr ⟨lw_p25, List.forall_mem_cons.mpr ⟨lw_p26, List.forall_mem_cons.mpr ⟨lw_p27, List.forall_mem_cons.mpr ⟨lw_p28, List.forall_mem_cons.mpr ⟨lw_p29, List.forall_mem_cons.mpr ⟨lw_p30, List.forall_mem_cons.mpr ⟨lw_p31, fun _ h => absurd h List.not_mem_nil⟩⟩⟩⟩⟩⟩⟩⟩⟩⟩⟩⟩⟩⟩⟩⟩
theorem lw_p32 : lw_okq (⟨"LazyBuilderModel", "work", "(II)I"⟩, 36) := ⟨⟨by decide +kernel, by decide +kernel⟩, List.mem_of_getElem? (i := 455) (by decide +kernel), List.mem_of_getElem? (i := 624) (by decide +kernel), List.mem_of_getElem? (i := 625) (by decide +kernel)⟩
theorem lw_p33 : lw_okq (⟨"LazyBuilderModel", "begin", "(II)V"⟩, 36) := ⟨⟨by decide +kernel, by decide +kernel⟩, List.mem_of_getElem? (i := 455) (by decide +kernel), List.mem_of_getElem? (i := 628) (by decide +kernel), List.mem_of_getElem? (i := 629) (by decide +kernel)⟩
theorem lw_p34 : lw_okq (⟨"LazyBuilderModel", "enter", "(I)Z"⟩, 36) := ⟨⟨by decide +kernel, by decide +kernel⟩, List.mem_of_getElem? (i := 455) (by decide +kernel), List.mem_of_getElem? (i := 632) (by decide +kernel), List.mem_of_getElem? (i := 633) (by decide +kernel)⟩
theorem lw_p35 : lw_okq (⟨"LazyBuilderModel", "unwind", "()V"⟩, 36) := ⟨⟨by decide +kernel, by decide +kernel⟩, List.mem_of_getElem? (i := 455) (by decide +kernel), List.mem_of_getElem? (i := 636) (by decide +kernel), List.mem_of_getElem? (i := 637) (by decide +kernel)⟩
theorem lw_p36 : lw_okq (⟨"LazyBuilderModel", "mild", "()Z"⟩, 36) := ⟨⟨by decide +kernel, by decide +kernel⟩, List.mem_of_getElem? (i := 455) (by decide +kernel), List.mem_of_getElem? (i := 640) (by decide +kernel), List.mem_of_getElem? (i := 641) (by decide +kernel)⟩
theorem lw_p37 : lw_okq (⟨"LazyBuilderModel", "proceed", "()V"⟩, 36) := ⟨⟨by decide +kernel, by decide +kernel⟩, List.mem_of_getElem? (i := 455) (by decide +kernel), List.mem_of_getElem? (i := 644) (by decide +kernel), List.mem_of_getElem? (i := 645) (by decide +kernel)⟩
theorem lw_p38 : lw_okq (⟨"LazyBuilderModel", "behind", "(II)I"⟩, 36) := ⟨⟨by decide +kernel, by decide +kernel⟩, List.mem_of_getElem? (i := 455) (by decide +kernel), List.mem_of_getElem? (i := 648) (by decide +kernel), List.mem_of_getElem? (i := 649) (by decide +kernel)⟩
theorem lw_p39 : lw_okq (⟨"LazyBuilderModel", "isNumber", "(J)Z"⟩, 36) := ⟨⟨by decide +kernel, by decide +kernel⟩, List.mem_of_getElem? (i := 455) (by decide +kernel), List.mem_of_getElem? (i := 652) (by decide +kernel), List.mem_of_getElem? (i := 653) (by decide +kernel)⟩
theorem lw_p40 : lw_okq (⟨"LazyBuilderModel", "describe", "(I)V"⟩, 36) := ⟨⟨by decide +kernel, by decide +kernel⟩, List.mem_of_getElem? (i := 455) (by decide +kernel), List.mem_of_getElem? (i := 657) (by decide +kernel), List.mem_of_getElem? (i := 658) (by decide +kernel)⟩
theorem lw_p41 : lw_okq (⟨"LazyBuilderModel", "order", "(I)V"⟩, 36) := ⟨⟨by decide +kernel, by decide +kernel⟩, List.mem_of_getElem? (i := 455) (by decide +kernel), List.mem_of_getElem? (i := 662) (by decide +kernel), List.mem_of_getElem? (i := 663) (by decide +kernel)⟩
theorem lw_p42 : lw_okq (⟨"LazyBuilderModel", "construct", "(I)Z"⟩, 36) := ⟨⟨by decide +kernel, by decide +kernel⟩, List.mem_of_getElem? (i := 455) (by decide +kernel), List.mem_of_getElem? (i := 666) (by decide +kernel), List.mem_of_getElem? (i := 667) (by decide +kernel)⟩
theorem lw_p43 : lw_okq (⟨"LazyBuilderModel", "assemble", "(I)Z"⟩, 36) := ⟨⟨by decide +kernel, by decide +kernel⟩, List.mem_of_getElem? (i := 455) (by decide +kernel), List.mem_of_getElem? (i := 670) (by decide +kernel), List.mem_of_getElem? (i := 671) (by decide +kernel)⟩
theorem lw_p44 : lw_okq (⟨"LazyBuilderModel", "part", "(II)J"⟩, 36) := ⟨⟨by decide +kernel, by decide +kernel⟩, List.mem_of_getElem? (i := 455) (by decide +kernel), List.mem_of_getElem? (i := 674) (by decide +kernel), List.mem_of_getElem? (i := 675) (by decide +kernel)⟩
theorem lw_p45 : lw_okq (⟨"LazyBuilderModel", "operate", "(I)V"⟩, 36) := ⟨⟨by decide +kernel, by decide +kernel⟩, List.mem_of_getElem? (i := 455) (by decide +kernel), List.mem_of_getElem? (i := 678) (by decide +kernel), List.mem_of_getElem? (i := 679) (by decide +kernel)⟩
theorem lw_p46 : lw_okq (⟨"LazyBuilderModel", "noPlan", "(I)Z"⟩, 36) := ⟨⟨by decide +kernel, by decide +kernel⟩, List.mem_of_getElem? (i := 455) (by decide +kernel), List.mem_of_getElem? (i := 699) (by decide +kernel), List.mem_of_getElem? (i := 700) (by decide +kernel)⟩
def lw_privs_3 : List (MethodName × Nat) := [(⟨"LazyBuilderModel", "work", "(II)I"⟩, 36), (⟨"LazyBuilderModel", "begin", "(II)V"⟩, 36), (⟨"LazyBuilderModel", "enter", "(I)Z"⟩, 36), (⟨"LazyBuilderModel", "unwind", "()V"⟩, 36), (⟨"LazyBuilderModel", "mild", "()Z"⟩, 36), (⟨"LazyBuilderModel", "proceed", "()V"⟩, 36), (⟨"LazyBuilderModel", "behind", "(II)I"⟩, 36), (⟨"LazyBuilderModel", "isNumber", "(J)Z"⟩, 36), (⟨"LazyBuilderModel", "describe", "(I)V"⟩, 36), (⟨"LazyBuilderModel", "order", "(I)V"⟩, 36), (⟨"LazyBuilderModel", "construct", "(I)Z"⟩, 36), (⟨"LazyBuilderModel", "assemble", "(I)Z"⟩, 36), (⟨"LazyBuilderModel", "part", "(II)J"⟩, 36), (⟨"LazyBuilderModel", "operate", "(I)V"⟩, 36), (⟨"LazyBuilderModel", "noPlan", "(I)Z"⟩, 36)]
theorem lw_r3 : ∀ q ∈ lw_privs_3, lw_okq q := List.forall_mem_cons.mpr ⟨lw_p32, List.forall_mem_cons.mpr ⟨lw_p33, List.forall_mem_cons.mpr ⟨lw_p34, List.forall_mem_cons.mpr ⟨lw_p35, List.forall_mem_cons.mpr ⟨lw_p36, List.forall_mem_cons.mpr ⟨lw_p37, List.forall_mem_cons.mpr ⟨lw_p38, List.forall_mem_cons.mpr ⟨lw_p39, List.forall_mem_cons.mpr ⟨lw_p40, List.forall_mem_cons.mpr ⟨lw_p41, List.forall_mem_cons.mpr ⟨lw_p42, List.forall_mem_cons.mpr ⟨lw_p43, List.forall_mem_cons.mpr ⟨lw_p44, List.forall_mem_cons.mpr ⟨lw_p45, List.forall_mem_cons.mpr ⟨lw_p46, fun _ h => absurd h List.not_mem_nil⟩⟩⟩⟩⟩⟩⟩⟩⟩⟩⟩⟩⟩⟩⟩
def lw_privs : List (MethodName × Nat) := lw_privs_1 ++ (lw_privs_2 ++ (lw_privs_3))
def lw_tbl : List Cond := k2_sels lw_privs ++ tables_1
theorem lw_privs_ok : ∀ q ∈ lw_privs, lw_okq q := by
  show ∀ q ∈ lw_privs_1 ++ (lw_privs_2 ++ (lw_privs_3)), lw_okq q
  exact List.forall_mem_append.mpr ⟨lw_r1, List.forall_mem_append.mpr ⟨lw_r2, lw_r3⟩⟩
end
section
/-! CORE: a light logic over the kit. The heap is a partial map from addresses to (kind, values); kinds below 100 are objects of the class of that number, the others arrays. mx_Runs: from here the method comes to its return with r and the heap fin; mx_Ok: it comes to one with Q. -/
abbrev mx_M : Type := MethodName × ByteArray × Nat × Option FieldType
abbrev mx_S : Type := List Cond × List vw_C × (Nat → Option FieldType) × List Cond × List String
abbrev mx_G : Type := (Nat → ClassId) × (Nat → Nat → Nat) × (Nat → ClassId) × Heap
abbrev mx_E : Type := Nat × List Value
abbrev mx_H : Type := (Nat → Option mx_E) × Nat × Nat
def mx_cell (S : mx_S) (G : mx_G) (a : Nat) (x : mx_E) (H : Heap) : Prop :=
  if x.1 < 100 then ∃ r : vw_C, S.2.1[x.1]? = some r ∧ x.2.length = r.2.2 ∧ t_OB a (G.1 x.1) r.2.2 (G.2.1 x.1) H (vp_V x.2)
  else ∃ cell : Cell, H[a]? = some cell ∧ cell.cls = G.2.2.1 x.1 ∧ cell.vm ≠ .unknown ∧ (∀ k, cell.vm ≠ .statics k) ∧ cell.slots = x.2.toArray
theorem mx_cell.kept {S : mx_S} {G : mx_G} {a : Nat} {x : mx_E} {H H1 : Heap} (h : mx_cell S G a x H) (h1 : H1[a]? = H[a]?) : mx_cell S G a x H1 := by
  unfold mx_cell at h ⊢
  by_cases hk : x.1 < 100
  · rw [if_pos hk] at h ⊢
    obtain ⟨r, q1, q2, q3⟩ := h
    exact ⟨r, q1, q2, q3.kept h1⟩
  · rw [if_neg hk] at h ⊢
    obtain ⟨cell, q1, q2⟩ := h
    exact ⟨cell, by rw [h1]; exact q1, q2⟩
theorem mx_cell.lt {S : mx_S} {G : mx_G} {a : Nat} {x : mx_E} {H : Heap} (h : mx_cell S G a x H) : a < H.size := by
  unfold mx_cell at h
  by_cases hk : x.1 < 100
  · rw [if_pos hk] at h
    obtain ⟨r, q1, q2, cell, q3, -⟩ := h
    exact (Array.getElem?_eq_some_iff.mp q3).1
  · rw [if_neg hk] at h
    obtain ⟨cell, q1, q2⟩ := h
    exact (Array.getElem?_eq_some_iff.mp q1).1
theorem mx_cell.obj {S : mx_S} {G : mx_G} {a ci : Nat} {fs : List Value} {H : Heap} (hk : ci < 100) (h : mx_cell S G a (ci, fs) H) : ∃ r : vw_C, S.2.1[ci]? = some r ∧ fs.length = r.2.2 ∧ t_OB a (G.1 ci) r.2.2 (G.2.1 ci) H (vp_V fs) := by
  unfold mx_cell at h
  rw [if_pos hk] at h
  exact h
theorem mx_cell.arr {S : mx_S} {G : mx_G} {a k : Nat} {vs : List Value} {H : Heap} (hk : ¬ k < 100) (h : mx_cell S G a (k, vs) H) : ∃ cell : Cell, H[a]? = some cell ∧ cell.cls = G.2.2.1 k ∧ cell.vm ≠ .unknown ∧ (∀ k, cell.vm ≠ .statics k) ∧ cell.slots = vs.toArray := by
  unfold mx_cell at h
  rw [if_neg hk] at h
  exact h
theorem mx_cell.ofObj {S : mx_S} {G : mx_G} {a ci : Nat} {fs : List Value} {H : Heap} {r : vw_C} (hk : ci < 100) (h1 : S.2.1[ci]? = some r) (h2 : fs.length = r.2.2) (h3 : t_OB a (G.1 ci) r.2.2 (G.2.1 ci) H (vp_V fs)) : mx_cell S G a (ci, fs) H := by
  unfold mx_cell
  rw [if_pos hk]
  exact ⟨r, h1, h2, h3⟩
theorem mx_cell.ofArr {S : mx_S} {G : mx_G} {a k : Nat} {vs : List Value} {H : Heap} {cell : Cell} (hk : ¬ k < 100) (h1 : H[a]? = some cell) (h2 : cell.cls = G.2.2.1 k) (h3 : cell.vm ≠ .unknown) (h4 : ∀ k, cell.vm ≠ .statics k) (h5 : cell.slots = vs.toArray) : mx_cell S G a (k, vs) H := by
  unfold mx_cell
  rw [if_neg hk]
  exact ⟨cell, h1, h2, h3, h4, h5⟩
def mx_R (S : mx_S) (G : mx_G) (hs : mx_H) (H : Heap) : Prop :=
  H.size = hs.2.1 ∧ (∀ (a : Nat) (x : mx_E), hs.1 a = some x → mx_cell S G a x H ∧ (x.1 ≠ 101 → G.2.2.2.size ≤ a)) ∧ (∀ q : Nat, q < G.2.2.2.size → H[q]? = G.2.2.2[q]?) ∧ G.2.2.2.size ≤ H.size
/-- the heap with the cell a changed -/
def mx_st (hs : mx_H) (a : Nat) (x : mx_E) : mx_H := (fun q => if q = a then some x else hs.1 q, hs.2)
/-- the heap with a new cell of n slots -/
def mx_nw (hs : mx_H) (x : mx_E) (n : Nat) : mx_H := (fun q => if q = hs.2.1 then some x else hs.1 q, hs.2.1 + 1, hs.2.2 + n)
theorem mx_R.st {S : mx_S} {G : mx_G} {hs : mx_H} {H H1 : Heap} {a : Nat} {x : mx_E} (h : mx_R S G hs H) (hb : G.2.2.2.size ≤ a) (hc : mx_cell S G a x H1) (hz : H1.size = H.size) (ho : ∀ q : Nat, q ≠ a → H1[q]? = H[q]?) : mx_R S G (mx_st hs a x) H1 := by
  refine ⟨hz.trans h.1, fun b y hy => ?_, fun q hq => ?_, by rw [hz]; exact h.2.2.2⟩
  · by_cases hba : b = a
    · subst hba
      simp only [mx_st, if_true] at hy
      cases hy
      exact ⟨hc, fun _ => hb⟩
    · simp only [mx_st, if_neg hba] at hy
      exact ⟨(h.2.1 b y hy).1.kept (ho b hba), (h.2.1 b y hy).2⟩
  · rw [ho q (by omega)]
    exact h.2.2.1 q hq
theorem mx_R.nw {S : mx_S} {G : mx_G} {hs : mx_H} {H H1 : Heap} {x : mx_E} {n : Nat} (h : mx_R S G hs H) (hc : mx_cell S G H.size x H1) (hz : H1.size = H.size + 1) (ho : ∀ q : Nat, q < H.size → H1[q]? = H[q]?) : mx_R S G (mx_nw hs x n) H1 := by
  have hb := h.2.2.2
  refine ⟨by rw [hz, h.1]; rfl, fun b y hy => ?_, fun q hq => ?_, by omega⟩
  · by_cases hba : b = hs.2.1
    · simp only [mx_nw, if_pos hba] at hy
      cases hy
      rw [hba, ← h.1]
      exact ⟨hc, fun _ => hb⟩
    · simp only [mx_nw, if_neg hba] at hy
      have := h.2.1 b y hy
      exact ⟨this.1.kept (ho b this.1.lt), this.2⟩
  · rw [ho q (by omega)]
    exact h.2.2.1 q hq
def mx_okc (ws : List Cond) (q : vw_C) : Prop := (∀ w ∈ u_ws q.1 q.2.1 q.2.2, w ∈ ws) ∧ (∀ a, a < q.2.2 → ∀ b, b < q.2.2 → a ≠ b → (q.2.1 a).2.1 ≠ (q.2.1 b).2.1) ∧ ∀ k, k < q.2.2 → (parseFieldDescriptor (q.2.1 k).2.2.1).isSome = true
def mx_nest : Cond → Bool
  | .fieldLinkNest .. => true
  | .methodLinkNest .. => true
  | _ => false
def mx_okS (S : mx_S) : Prop := (∀ (ci : Nat) (q : vw_C), S.2.1[ci]? = some q → mx_okc S.1 q) ∧ (∀ w ∈ S.1, goodWord w = true) ∧ S.2.1.length ≤ 100 ∧ (∀ w ∈ S.2.2.2.1, mx_nest w = true) ∧ ∀ (k : Nat) (ty : FieldType), S.2.2.1 k = some ty → ¬ k < 100
def mx_AK (U : State) (c : ClassId) (k : Nat) (ty : FieldType) : Prop := ∃ (kA : Class) (comp : ClassId), U.vm.classes[c]? = some kA ∧ kA.kind = .array comp ty ∧ (k ≠ 101 → U.vm.findClass ("[" ++ ty.toString) = some c) ∧ ∀ C, ty = .object C → U.vm.findClass C = some comp
def mx_K (S : mx_S) (G : mx_G) (U : State) : Prop := mx_okS S ∧ (∀ (c : Nat) (q : vw_C), S.2.1[c]? = some q → u_Kn U q.1 q.2.1 q.2.2 (G.1 c) (G.2.1 c)) ∧ (∀ (k : Nat) (ty : FieldType), S.2.2.1 k = some ty → mx_AK U (G.2.2.1 k) k ty) ∧ (∀ w ∈ S.2.2.2.1, va_Nw w U) ∧ ∀ C ∈ S.2.2.2.2, va_AO C U
theorem mx_AK.moved {u U : State} {c : ClassId} {k : Nat} {ty : FieldType} (hvm : u.vm.Alike U.vm) (h : mx_AK u c k ty) : mx_AK U c k ty := by
  obtain ⟨kA, comp, h1, h2, h3, h4⟩ := h
  obtain ⟨k', hk', he⟩ := hvm.2.2 _ _ h1
  exact ⟨k', comp, hk', by rw [he]; exact h2, fun hk => by rw [hvm.findClass]; exact h3 hk, fun C hC => by rw [hvm.findClass]; exact h4 C hC⟩
theorem mx_AK.arr {U : State} {c : ClassId} {k : Nat} {ty : FieldType} (h : mx_AK U c k ty) {cell : Cell} (hc : cell.cls = c) (hs : ∀ k, cell.vm ≠ .statics k) : U.isArrayOf cell ty := by
  obtain ⟨kA, comp, h1, h2, -⟩ := h
  exact ⟨hs, kA, by rw [hc]; exact h1, comp, h2⟩
def mx_Fix (S : mx_S) (M : mx_M) (p : Program) (s : State) (m : MethodId) (args : Array Value) (meth : Method) (c : Code) : Prop :=
  p.tables.exec = Jvm.exec ∧ c.code = M.2.1 ∧ c.maxLocals = M.2.2.1 ∧ meth.sig.returnType = M.2.2.2 ∧ meth.locks = false ∧ s.vm.findClass M.1.cls = some m.cls ∧ meth.name = M.1.name ∧ ∀ w ∈ S.1, w.before args s = true
def mx_ret (M : mx_M) (pc : Nat) (r : Option Value) : Prop :=
  (∃ (v : Int32) (ty : FieldType), r = some (.int v) ∧ M.2.2.2 = some ty ∧ narrow ty (.int v) = .int v ∧ decode M.2.1 pc = .ok (.ireturn, 1)) ∨
  (∃ v : Int64, r = some (.long v) ∧ M.2.2.2 = some .long ∧ decode M.2.1 pc = .ok (.lreturn, 1)) ∨
  (r = none ∧ M.2.2.2 = none ∧ decode M.2.1 pc = .ok (.return_, 1)) ∨
  (∃ (v : Value) (ty : FieldType), r = some v ∧ M.2.2.2 = some ty ∧ ((∃ n, ty = .object n) ∨ ∃ t, ty = .array t) ∧ (v = .null ∨ ∃ a, v = .ref a) ∧ decode M.2.1 pc = .ok (.areturn, 1))
def mx_Runs (S : mx_S) (l : Launch) (G : mx_G) (d : Nat) (M : mx_M) (pc : Nat) (lv : List (Nat × Value)) (st : List Value) (hs : mx_H) (r : Option Value) (fin : mx_H) : Prop :=
  hs.2.1 ≤ fin.2.1 ∧ hs.2.2 ≤ fin.2.2 ∧ ∀ (p : Program) (e : Env) (R : Room) (s : State) (m : MethodId) (args : Array Value) (below : List Frame) (meth : Method) (c : Code) (H : Heap) (locs : List Loc) (cells slots : Nat) (ls : Array Slot) (Q : State → Prop),
    mx_Fix S M p s m args meth c → mx_K S G s → mx_R S G hs H → lv_has ls M.2.2.1 lv → (∀ q ∈ locs, G.2.2.2.size ≤ q.base) → d ≤ R.frames → 48 * d ≤ R.locals → cells + (fin.2.1 - hs.2.1) ≤ R.cells → slots + (fin.2.2 - hs.2.2) ≤ R.slots →
    (∀ (pc' : Nat) (ls' : Array Slot) (H' : Heap) (locs' : List Loc), mx_R S G fin H' → (∀ q ∈ locs', G.2.2.2.size ≤ q.base) → mx_ret M pc' r → W p l e R s m args below meth c H' locs' (cells + (fin.2.1 - hs.2.1)) (slots + (fin.2.2 - hs.2.2)) Q (F0 m pc' ls' r.toList)) →
    W p l e R s m args below meth c H locs cells slots Q (F0 m pc ls st)
def mx_Ok (S : mx_S) (l : Launch) (G : mx_G) (d : Nat) (M : mx_M) (pc : Nat) (lv : List (Nat × Value)) (st : List Value) (hs : mx_H) (Q : Option Value → mx_H → Prop) : Prop := ∃ (r : Option Value) (fin : mx_H), mx_Runs S l G d M pc lv st hs r fin ∧ Q r fin
/-- a call of a method on these arguments -/
def mx_C (S : mx_S) (l : Launch) (G : mx_G) (d : Nat) (M : mx_M) (args : List Value) (hs : mx_H) (Q : Option Value → mx_H → Prop) : Prop := mx_Ok S l G d M 0 (lv_args 0 args) [] hs Q
section MXA
variable {S : mx_S} {l : Launch} {G : mx_G} {d pc pc' : Nat} {M : mx_M} {lv lv' : List (Nat × Value)} {st st' : List Value} {hs : mx_H} {r : Option Value} {fin : mx_H} {Q : Option Value → mx_H → Prop}
theorem mx_Ok.mono {Q' : Option Value → mx_H → Prop} (h : mx_Ok S l G d M pc lv st hs Q) (hq : ∀ r fin, Q r fin → Q' r fin) : mx_Ok S l G d M pc lv st hs Q' := by
  obtain ⟨r, fin, h1, h2⟩ := h
  exact ⟨r, fin, h1, hq r fin h2⟩
/-- an instruction that touches neither heap nor locals -/
theorem mx_go (f : ∀ (p : Program) (e : Env) (R : Room) (s : State) (m : MethodId) (args : Array Value) (below : List Frame) (meth : Method) (c : Code) (H : Heap) (locs : List Loc) (cells slots : Nat) (ls : Array Slot) (Q : State → Prop), mx_Fix S M p s m args meth c → mx_K S G s → mx_R S G hs H → lv_has ls M.2.2.1 lv → W p l e R s m args below meth c H locs cells slots Q (F0 m pc' ls st') → W p l e R s m args below meth c H locs cells slots Q (F0 m pc ls st))
    (k : mx_Ok S l G d M pc' lv st' hs Q) : mx_Ok S l G d M pc lv st hs Q := by
  obtain ⟨r, fin, ⟨h1, h2, h3⟩, hq⟩ := k
  exact ⟨r, fin, ⟨h1, h2, fun p e R s m args below meth c H locs cells slots ls Q' hF hK hR hl hlo hd hld hc hsl kk => f p e R s m args below meth c H locs cells slots ls Q' hF hK hR hl (h3 p e R s m args below meth c H locs cells slots ls Q' hF hK hR hl hlo hd hld hc hsl kk)⟩, hq⟩
/-- an instruction that writes a local -/
theorem mx_goL (f : ∀ (p : Program) (e : Env) (R : Room) (s : State) (m : MethodId) (args : Array Value) (below : List Frame) (meth : Method) (c : Code) (H : Heap) (locs : List Loc) (cells slots : Nat) (ls : Array Slot) (Q : State → Prop), mx_Fix S M p s m args meth c → lv_has ls M.2.2.1 lv → (∀ ls' : Array Slot, lv_has ls' M.2.2.1 lv' → W p l e R s m args below meth c H locs cells slots Q (F0 m pc' ls' st')) → W p l e R s m args below meth c H locs cells slots Q (F0 m pc ls st))
    (k : mx_Ok S l G d M pc' lv' st' hs Q) : mx_Ok S l G d M pc lv st hs Q := by
  obtain ⟨r, fin, ⟨h1, h2, h3⟩, hq⟩ := k
  exact ⟨r, fin, ⟨h1, h2, fun p e R s m args below meth c H locs cells slots ls Q' hF hK hR hl hlo hd hld hc hsl kk => f p e R s m args below meth c H locs cells slots ls Q' hF hl (fun ls' hl' => h3 p e R s m args below meth c H locs cells slots ls' Q' hF hK hR hl' hlo hd hld hc hsl kk)⟩, hq⟩
theorem mx_sub (ks : List Nat) (hl : lv_pick lv ks = lv') (k : mx_Ok S l G d M pc lv' st hs Q) : mx_Ok S l G d M pc lv st hs Q :=
  mx_goL (fun _ _ _ _ _ _ _ _ _ _ _ _ _ _ _ _ h kk => kk _ (lv_sub h ks hl)) k
/-- the end -/
theorem mx_end (hr : mx_ret M pc r) (hst : st = r.toList) (hq : Q r hs) : mx_Ok S l G d M pc lv st hs Q := by
  subst hst
  refine ⟨r, hs, ⟨Nat.le_refl _, Nat.le_refl _, fun p e R s m args below meth c H locs cells slots ls Q' hF hK hR hl hlo hd hld hc hsl kk => ?_⟩, hq⟩
  have h := kk pc ls H locs hR hlo hr
  rw [Nat.sub_self, Nat.sub_self, Nat.add_zero, Nat.add_zero] at h
  exact h
def mx_Q (S : mx_S) (G : mx_G) (r : Option Value) (fin : mx_H) : Array Value → State → Outcome → State → Prop := fun _ _ o t => o = .returned r ∧ mx_R S G fin t.heap
def mx_ws (S : mx_S) (M : mx_M) : List Cond := Cond.code M.1 M.2.1 M.2.2.1 M.2.2.2 :: S.1
abbrev mx_rm (d mc ms : Nat) : Room := { frames := d, cells := mc, slots := ms, locals := 48 * d }
theorem mx_leave {p : Program} {e : Env} {R : Room} {s : State} {m : MethodId} {args : Array Value} {below : List Frame} {meth : Method} {c : Code} {H : Heap} {locs : List Loc} {cells slots : Nat} {ls : Array Slot} (hF : mx_Fix S M p s m args meth c) (hR : mx_R S G fin H) (hlo : ∀ q ∈ locs, G.2.2.2.size ≤ q.base) (hr : mx_ret M pc r) :
    W p l e R s m args below meth c H locs cells slots (MQ below (mx_Q S G r fin) args s cells slots (fun q => G.2.2.2.size ≤ q)) (F0 m pc ls r.toList) := by
  obtain ⟨hx, hb, hml, hret, hlocks, -⟩ := hF
  have hq : ∀ t : State, t.heap = H → s.WarmedH t.vm → mx_Q S G r fin args s (.returned r) t := fun t ht _ => ⟨rfl, by rw [ht]; exact hR⟩
  rcases hr with ⟨v, ty, rfl, h2, h3, h4⟩ | ⟨v, rfl, h2, h4⟩ | ⟨rfl, h2, h4⟩ | ⟨v, ty, rfl, h2, h3, h5, h4⟩
  · exact W.zret hx hb (hret.trans h2) h3 hq hlo h4 hlocks
  · exact W.lret hx hb (hret.trans h2) hq hlo h4 hlocks
  · exact W.vret hx hb (hret.trans h2) hq hlo h4 hlocks
  · exact W.aret hx hb (hret.trans h2) h3 h5 hq hlo h4 hlocks
theorem mx_met {av : List Value} (hy : plainName M.1.cls = true) (hav : (lg_sl av).length ≤ M.2.2.1) (h : mx_Runs S l G d M 0 (lv_args 0 av) [] hs r fin) :
    Met l M.1 (mx_ws S M) (mx_rm d (fin.2.1 - hs.2.1) (fin.2.2 - hs.2.2)) (va_Pc av (fun U => mx_K S G U ∧ mx_R S G hs U.heap)) (mx_Q S G r fin) (fin.2.1 - hs.2.1) (fin.2.2 - hs.2.2) (fun q => G.2.2.2.size ≤ q) := by
  refine Met.ofW (cc := M.2.1) (maxL := M.2.2.1) (ret := M.2.2.2) hy rfl ?_
  intro p e s m args below meth c s₁ B hml hv
  obtain ⟨rfl, hK, hR⟩ := hv
  have hts := atoms_spec (ws := mx_ws S M) B.pre
  have hF : mx_Fix S M p s m av.toArray meth c := ⟨B.exec, B.bytes, hml, B.returns, B.notSynchronized, findClass_of_methodNamed B.named, (name_of_methodNamed B.named B.method).1, fun w hw => hts w (List.mem_cons_of_mem _ hw)⟩
  have hl := lv_entry av (n := M.2.2.1) hav
  rw [lg_entry_eq]
  generalize (lg_sl av ++ List.replicate (M.2.2.1 - (lg_sl av).length) Slot.unset).toArray = ls at hl ⊢
  refine h.2.2 p e _ s m _ below meth c s.heap [] 0 0 ls _ hF hK hR hl (fun _ h => by cases h) (Nat.le_refl _) (Nat.le_refl _) (by rw [Nat.zero_add]; exact Nat.le_refl _) (by rw [Nat.zero_add]; exact Nat.le_refl _) ?_
  intro pc' ls' H' locs' hR' hlo' hr'
  rw [Nat.zero_add, Nat.zero_add]
  exact mx_leave hF hR' hlo' hr'
/-- behind a call -/
theorem mx_after {p : Program} {e : Env} {R : Room} {s : State} {m : MethodId} {args : Array Value} {below : List Frame} {meth : Method} {c : Code} {H : Heap} {locs : List Loc} {cells slots mc ms : Nat} {ls : Array Slot} {QQ : State → Prop} {rest : List Value} {a : Array Value} {hs1 : mx_H} {r1 : Option Value}
    (hr : va_Run p l e R s m args below meth c H locs cells slots mc ms (F0 m pc ls st) rest (mx_Q S G r1 hs1 a) (fun q => G.2.2.2.size ≤ q)) (hlo : ∀ q ∈ locs, G.2.2.2.size ≤ q.base)
    (kk : ∀ (H1 : Heap) (locs1 : List Loc), mx_R S G hs1 H1 → (∀ q ∈ locs1, G.2.2.2.size ≤ q.base) → W p l e R s m args below meth c H1 locs1 (cells + mc) (slots + ms) QQ (F0 m (pc + 3) ls (r1.toList ++ rest))) : W p l e R s m args below meth c H locs cells slots QQ (F0 m pc ls st) := by
  intro T hT X
  obtain ⟨v, st₀, t, T', L, h0, X', hL, e1, e2, ⟨hv, hR⟩, st⟩ := hr T hT X
  cases hv
  obtain ⟨t2, a1, b1⟩ := kk T'.heap (locs ++ L) (by rw [e1]; exact hR) (fun q hq => by
      rcases List.mem_append.mp hq with h | h
      · exact hlo q h
      · exact hL q h) T' rfl X'
  exact ⟨t2, st t2 a1, b1⟩
theorem mx_K.warm {s U : State} (hW : s.WarmedH U.vm) (h : mx_K S G s) : mx_K S G U := by
  obtain ⟨h0, h1, h2, h3, h4⟩ := h
  refine ⟨h0, fun c q hq => u_Kn_moved hW.alike (h1 c q hq), fun k ty hk => (h2 k ty hk).moved hW.alike, fun w hw => ?_, fun C hC => (h4 C hC).moved hW.alike⟩
  have hx := h3 w hw
  have hy := h0.2.2.2.1 w hw
  cases w <;> first | exact va_Nw.warmF hW hx | exact va_Nw.warmM hW hx | (exact absurd hy (by decide)) | (cases hy)
theorem mx_K.calling {U : State} {g : JFrame} {mk : MethodId} {a : Array Value} (h : mx_K S G U) : mx_K S G (U.calling g mk a) := by
  obtain ⟨h0, h1, h2, h3, h4⟩ := h
  have hA : U.vm.Alike (U.calling g mk a).vm := Vm.Alike.refl U.vm
  refine ⟨h0, fun c q hq => u_Kn_moved hA (h1 c q hq), fun k ty hk => (h2 k ty hk).moved hA, fun w hw => ?_, fun C hC => (h4 C hC).moved hA⟩
  have hx := h3 w hw
  have hy := h0.2.2.2.1 w hw
  exact va_Nw.same (by cases w <;> first | rfl | (exact absurd hy (by decide)) | (cases hy)) (rfl : U.vm = (U.calling g mk a).vm) hx
end MXA
end
section
/-! RULES: an instruction, a row, over mx_Ok. -/
def mx_okM (S : mx_S) (Y : mx_M) (n : Nat) : Prop := plainName Y.1.cls = true ∧ (Y.1.cls ≠ "java/lang/invoke/MethodHandle" ∧ Y.1.cls ≠ "java/lang/invoke/VarHandle" ∧ (parseMethodDescriptor Y.1.desc).map (fun d => d.parameters.length) = some n) ∧ Y.2.2.1 ≤ 29 ∧ Cond.code Y.1 Y.2.1 Y.2.2.1 Y.2.2.2 ∈ S.1 ∧ Cond.initialized Y.1.cls ∈ S.1
theorem mx_goodIn {S : mx_S} {Y : mx_M} {n : Nat} (h : mx_okS S) (hY : mx_okM S Y n) : GoodIn S.1 (mx_ws S Y) := by
  intro w hw
  have hin : w ∈ S.1 := by
    rcases List.mem_cons.mp hw with rfl | hw
    · exact hY.2.2.2.1
    · exact hw
  exact ⟨hin, good_of_word (h.2.1 w hin)⟩
section MXC
variable {S : mx_S} {l : Launch} {G : mx_G} {d pc : Nat} {M Y : mx_M} {lv : List (Nat × Value)} {st : List Value} {hs : mx_H} {Q Q1 : Option Value → mx_H → Prop} {idx n b ci : Nat} {As rest fs : List Value} {q : vw_C} {host : String}
theorem mx_blind (S : mx_S) (G : mx_G) (hs : mx_H) (av : List Value) : FrameBlind (va_Pc av (fun U => mx_K S G U ∧ mx_R S G hs U.heap)) := fun _ _ _ _ q => ⟨q.1, mx_K.calling q.2.1, q.2.2⟩
theorem mx_invV (hd : decode M.2.1 pc = .ok (.invokevirtual idx, 3)) (hY : mx_okM S Y n) (hlink : Cond.methodLink M.1.cls idx Y.1 ∈ S.1) (hins : Cond.instanceMethod Y.1 ∈ S.1) (hsel : Cond.selects Y.1.cls Y.1 Y.1 ∈ S.1) (hst : st = As.reverse ++ .ref b :: rest) (hn : As.length = n) (hrest : (rest.map fun v => v.category).sum ≤ 8) (hav : (lg_sl (.ref b :: As)).length ≤ Y.2.2.1) (hcell : hs.1 b = some (ci, fs)) (hq : S.2.1[ci]? = some q) (hqc : q.1 = Y.1.cls)
    (h1 : mx_C S l G d Y (.ref b :: As) hs Q1) (k : ∀ r1 hs1, Q1 r1 hs1 → mx_Ok S l G (d + 1) M (pc + 3) lv (r1.toList ++ rest) hs1 Q) : mx_Ok S l G (d + 1) M pc lv st hs Q := by
  obtain ⟨r1, hs1, hr1, hq1⟩ := h1
  obtain ⟨r, fin, hr2, hqf⟩ := k r1 hs1 hq1
  have a1 := hr1.1
  have a2 := hr1.2.1
  have a3 := hr2.1
  have a4 := hr2.2.1
  refine ⟨r, fin, ⟨by omega, by omega, fun p e R s m args below meth c H locs cells slots ls Q' hF hK hR hl hlo hfr hld hc hsl kk => ?_⟩, hqf⟩
  have hML : Y.2.2.1 ≤ 29 := hY.2.2.1
  have hci : ci < 100 := Nat.lt_of_lt_of_le (List.getElem?_eq_some_iff.mp hq).1 hK.1.2.2.1
  have hts := hF.2.2.2.2.2.2.2
  have hrecv : ∃ cellB : Cell, H[b]? = some cellB ∧ cellB.vm.isStatics = false ∧ s.vm.findClass Y.1.cls = some cellB.cls := by
    obtain ⟨r', hr', -, cell, g1, g2, g3, -⟩ := ((hR.2.1 b _ hcell).1).obj hci
    cases hr'.symm.trans hq
    exact ⟨cell, g1, by rw [g3]; rfl, by rw [g2, ← hqc]; exact (hK.2.1 ci _ hq).2.1⟩
  subst hst
  refine mx_after (hs1 := hs1) (r1 := r1) (va_runV (As := As) (rest := rest) (nL := M.2.2.1) (cc := M.2.1) (Ts := S.1) (own := M.1.cls) (C := Y.1.cls) (b := b) ⟨hF.1, hF.2.1, hF.2.2.1, hF.2.2.2.2.2.1, hts⟩ (mx_met hY.1 hav hr1) ⟨callB_of n hts (mx_goodIn hK.1 hY) rfl rfl rfl (hts _ hY.2.2.2.2) (hts _ hlink) hY.2.1 ⟨hfr, by show 8 + (_ + 11) + 48 * d ≤ _; omega⟩, hts _ hins, hts _ hsel⟩ ⟨mx_blind S G hs _, hrecv, fun U hU hW => ⟨rfl, mx_K.warm hW hK, by rw [hU]; exact hR⟩⟩ rfl hn hl.1 rfl (lv_room hrest) hd ⟨by omega, by omega⟩) hlo (fun H1 locs1 hR1 hlo1 => ?_)
  refine hr2.2.2 p e R s m args below meth c H1 locs1 _ _ ls Q' hF hK hR1 hl hlo1 hfr hld (by omega) (by omega) (fun pc' ls' H' locs' hR' hlo' hr' => ?_)
  have e1 : cells + (hs1.2.1 - hs.2.1) + (fin.2.1 - hs1.2.1) = cells + (fin.2.1 - hs.2.1) := by omega
  have e2 : slots + (hs1.2.2 - hs.2.2) + (fin.2.2 - hs1.2.2) = slots + (fin.2.2 - hs.2.2) := by omega
  rw [e1, e2]
  exact kk pc' ls' H' locs' hR' hlo' hr'
theorem mx_invVN (hd : decode M.2.1 pc = .ok (.invokevirtual idx, 3)) (hY : mx_okM S Y n) (hlink : Cond.methodLinkNest M.1.cls idx Y.1 host ∈ S.2.2.2.1) (hins : Cond.instanceMethod Y.1 ∈ S.1) (hsel : Cond.selects Y.1.cls Y.1 Y.1 ∈ S.1) (hst : st = As.reverse ++ .ref b :: rest) (hn : As.length = n) (hrest : (rest.map fun v => v.category).sum ≤ 8) (hav : (lg_sl (.ref b :: As)).length ≤ Y.2.2.1) (hcell : hs.1 b = some (ci, fs)) (hq : S.2.1[ci]? = some q) (hqc : q.1 = Y.1.cls)
    (h1 : mx_C S l G d Y (.ref b :: As) hs Q1) (k : ∀ r1 hs1, Q1 r1 hs1 → mx_Ok S l G (d + 1) M (pc + 3) lv (r1.toList ++ rest) hs1 Q) : mx_Ok S l G (d + 1) M pc lv st hs Q := by
  obtain ⟨r1, hs1, hr1, hq1⟩ := h1
  obtain ⟨r, fin, hr2, hqf⟩ := k r1 hs1 hq1
  have a1 := hr1.1
  have a2 := hr1.2.1
  have a3 := hr2.1
  have a4 := hr2.2.1
  refine ⟨r, fin, ⟨by omega, by omega, fun p e R s m args below meth c H locs cells slots ls Q' hF hK hR hl hlo hfr hld hc hsl kk => ?_⟩, hqf⟩
  have hML : Y.2.2.1 ≤ 29 := hY.2.2.1
  have hci : ci < 100 := Nat.lt_of_lt_of_le (List.getElem?_eq_some_iff.mp hq).1 hK.1.2.2.1
  have hts := hF.2.2.2.2.2.2.2
  have hrecv : ∃ cellB : Cell, H[b]? = some cellB ∧ cellB.vm.isStatics = false ∧ s.vm.findClass Y.1.cls = some cellB.cls := by
    obtain ⟨r', hr', -, cell, g1, g2, g3, -⟩ := ((hR.2.1 b _ hcell).1).obj hci
    cases hr'.symm.trans hq
    exact ⟨cell, g1, by rw [g3]; rfl, by rw [g2, ← hqc]; exact (hK.2.1 ci _ hq).2.1⟩
  subst hst
  refine mx_after (hs1 := hs1) (r1 := r1) (va_runVN (As := As) (rest := rest) (nL := M.2.2.1) (cc := M.2.1) (Ts := S.1) (own := M.1.cls) (C := Y.1.cls) (b := b) ⟨hF.1, hF.2.1, hF.2.2.1, hF.2.2.2.2.2.1, hts⟩ (mx_met hY.1 hav hr1) ⟨va_cnB n hts (mx_goodIn hK.1 hY) rfl rfl rfl (hK.2.2.2.1 _ hlink) (hts _ hY.2.2.2.2) hY.2.1 ⟨hfr, by show 8 + (_ + 11) + 48 * d ≤ _; omega⟩, hts _ hins, hts _ hsel⟩ ⟨mx_blind S G hs _, hrecv, fun U hU hW => ⟨rfl, mx_K.warm hW hK, by rw [hU]; exact hR⟩⟩ rfl hn hl.1 rfl (lv_room hrest) hd ⟨by omega, by omega⟩) hlo (fun H1 locs1 hR1 hlo1 => ?_)
  refine hr2.2.2 p e R s m args below meth c H1 locs1 _ _ ls Q' hF hK hR1 hl hlo1 hfr hld (by omega) (by omega) (fun pc' ls' H' locs' hR' hlo' hr' => ?_)
  have e1 : cells + (hs1.2.1 - hs.2.1) + (fin.2.1 - hs1.2.1) = cells + (fin.2.1 - hs.2.1) := by omega
  have e2 : slots + (hs1.2.2 - hs.2.2) + (fin.2.2 - hs1.2.2) = slots + (fin.2.2 - hs.2.2) := by omega
  rw [e1, e2]
  exact kk pc' ls' H' locs' hR' hlo' hr'
theorem mx_invS (hd : decode M.2.1 pc = .ok (.invokestatic idx, 3)) (hY : mx_okM S Y n) (hlink : Cond.methodLink M.1.cls idx Y.1 ∈ S.1) (hstat : Cond.static Y.1 ∈ S.1) (hst : st = As.reverse ++ rest) (hn : As.length = n) (hrest : (rest.map fun v => v.category).sum ≤ 8) (hav : (lg_sl (As)).length ≤ Y.2.2.1)
    (h1 : mx_C S l G d Y (As) hs Q1) (k : ∀ r1 hs1, Q1 r1 hs1 → mx_Ok S l G (d + 1) M (pc + 3) lv (r1.toList ++ rest) hs1 Q) : mx_Ok S l G (d + 1) M pc lv st hs Q := by
  obtain ⟨r1, hs1, hr1, hq1⟩ := h1
  obtain ⟨r, fin, hr2, hqf⟩ := k r1 hs1 hq1
  have a1 := hr1.1
  have a2 := hr1.2.1
  have a3 := hr2.1
  have a4 := hr2.2.1
  refine ⟨r, fin, ⟨by omega, by omega, fun p e R s m args below meth c H locs cells slots ls Q' hF hK hR hl hlo hfr hld hc hsl kk => ?_⟩, hqf⟩
  have hML : Y.2.2.1 ≤ 29 := hY.2.2.1
  have hts := hF.2.2.2.2.2.2.2
  subst hst
  refine mx_after (hs1 := hs1) (r1 := r1) (va_runS (As := As) (rest := rest) (nL := M.2.2.1) (cc := M.2.1) (Ts := S.1) (own := M.1.cls) ⟨hF.1, hF.2.1, hF.2.2.1, hF.2.2.2.2.2.1, hts⟩ (mx_met hY.1 hav hr1) ⟨callB_of n hts (mx_goodIn hK.1 hY) rfl rfl rfl (hts _ hY.2.2.2.2) (hts _ hlink) hY.2.1 ⟨hfr, by show 8 + (_ + 11) + 48 * d ≤ _; omega⟩, hts _ hstat⟩ ⟨mx_blind S G hs _, fun U hU hW => ⟨rfl, mx_K.warm hW hK, by rw [hU]; exact hR⟩⟩ rfl hn hl.1 rfl (lv_room hrest) hd ⟨by omega, by omega⟩) hlo (fun H1 locs1 hR1 hlo1 => ?_)
  refine hr2.2.2 p e R s m args below meth c H1 locs1 _ _ ls Q' hF hK hR1 hl hlo1 hfr hld (by omega) (by omega) (fun pc' ls' H' locs' hR' hlo' hr' => ?_)
  have e1 : cells + (hs1.2.1 - hs.2.1) + (fin.2.1 - hs1.2.1) = cells + (fin.2.1 - hs.2.1) := by omega
  have e2 : slots + (hs1.2.2 - hs.2.2) + (fin.2.2 - hs1.2.2) = slots + (fin.2.2 - hs.2.2) := by omega
  rw [e1, e2]
  exact kk pc' ls' H' locs' hR' hlo' hr'
theorem mx_invSN (hd : decode M.2.1 pc = .ok (.invokestatic idx, 3)) (hY : mx_okM S Y n) (hlink : Cond.methodLinkNest M.1.cls idx Y.1 host ∈ S.2.2.2.1) (hstat : Cond.static Y.1 ∈ S.1) (hst : st = As.reverse ++ rest) (hn : As.length = n) (hrest : (rest.map fun v => v.category).sum ≤ 8) (hav : (lg_sl (As)).length ≤ Y.2.2.1)
    (h1 : mx_C S l G d Y (As) hs Q1) (k : ∀ r1 hs1, Q1 r1 hs1 → mx_Ok S l G (d + 1) M (pc + 3) lv (r1.toList ++ rest) hs1 Q) : mx_Ok S l G (d + 1) M pc lv st hs Q := by
  obtain ⟨r1, hs1, hr1, hq1⟩ := h1
  obtain ⟨r, fin, hr2, hqf⟩ := k r1 hs1 hq1
  have a1 := hr1.1
  have a2 := hr1.2.1
  have a3 := hr2.1
  have a4 := hr2.2.1
  refine ⟨r, fin, ⟨by omega, by omega, fun p e R s m args below meth c H locs cells slots ls Q' hF hK hR hl hlo hfr hld hc hsl kk => ?_⟩, hqf⟩
  have hML : Y.2.2.1 ≤ 29 := hY.2.2.1
  have hts := hF.2.2.2.2.2.2.2
  subst hst
  refine mx_after (hs1 := hs1) (r1 := r1) (va_runSN (As := As) (rest := rest) (nL := M.2.2.1) (cc := M.2.1) (Ts := S.1) (own := M.1.cls) ⟨hF.1, hF.2.1, hF.2.2.1, hF.2.2.2.2.2.1, hts⟩ (mx_met hY.1 hav hr1) ⟨va_cnB n hts (mx_goodIn hK.1 hY) rfl rfl rfl (hK.2.2.2.1 _ hlink) (hts _ hY.2.2.2.2) hY.2.1 ⟨hfr, by show 8 + (_ + 11) + 48 * d ≤ _; omega⟩, hts _ hstat, trivial⟩ ⟨mx_blind S G hs _, fun U hU hW => ⟨rfl, mx_K.warm hW hK, by rw [hU]; exact hR⟩⟩ rfl hn hl.1 rfl (lv_room hrest) hd ⟨by omega, by omega⟩) hlo (fun H1 locs1 hR1 hlo1 => ?_)
  refine hr2.2.2 p e R s m args below meth c H1 locs1 _ _ ls Q' hF hK hR1 hl hlo1 hfr hld (by omega) (by omega) (fun pc' ls' H' locs' hR' hlo' hr' => ?_)
  have e1 : cells + (hs1.2.1 - hs.2.1) + (fin.2.1 - hs1.2.1) = cells + (fin.2.1 - hs.2.1) := by omega
  have e2 : slots + (hs1.2.2 - hs.2.2) + (fin.2.2 - hs1.2.2) = slots + (fin.2.2 - hs.2.2) := by omega
  rw [e1, e2]
  exact kk pc' ls' H' locs' hR' hlo' hr'
theorem mx_invI {y0 : MethodName} {by0 : ByteArray} {mL0 : Nat} (hYe : Y = (y0, by0, mL0, none)) (hd : decode M.2.1 pc = .ok (.invokespecial idx, 3)) (hY : mx_okM S Y n) (hlink : Cond.methodLink M.1.cls idx Y.1 ∈ S.1) (hins : Cond.instanceMethod Y.1 ∈ S.1) (hy1 : Y.1.name = "<init>") (hst : st = As.reverse ++ .ref b :: rest) (hn : As.length = n) (hrest : (rest.map fun v => v.category).sum ≤ 8) (hav : (lg_sl (.ref b :: As)).length ≤ Y.2.2.1)
    (h1 : mx_C S l G d Y (.ref b :: As) hs Q1) (k : ∀ r1 hs1, Q1 r1 hs1 → mx_Ok S l G (d + 1) M (pc + 3) lv (r1.toList ++ rest) hs1 Q) : mx_Ok S l G (d + 1) M pc lv st hs Q := by
  subst hYe
  obtain ⟨r1, hs1, hr1, hq1⟩ := h1
  obtain ⟨r, fin, hr2, hqf⟩ := k r1 hs1 hq1
  have a1 := hr1.1
  have a2 := hr1.2.1
  have a3 := hr2.1
  have a4 := hr2.2.1
  refine ⟨r, fin, ⟨by omega, by omega, fun p e R s m args below meth c H locs cells slots ls Q' hF hK hR hl hlo hfr hld hc hsl kk => ?_⟩, hqf⟩
  have hML : (y0, by0, mL0, (none : Option FieldType)).2.2.1 ≤ 29 := hY.2.2.1
  have hts := hF.2.2.2.2.2.2.2
  subst hst
  refine mx_after (hs1 := hs1) (r1 := r1) (va_runI (As := As) (rest := rest) (nL := M.2.2.1) (cc := M.2.1) (Ts := S.1) (own := M.1.cls) (b := b) ⟨hF.1, hF.2.1, hF.2.2.1, hF.2.2.2.2.2.1, hts⟩ (mx_met hY.1 hav hr1) ⟨callB_of n hts (mx_goodIn hK.1 hY) rfl rfl rfl (hts _ hY.2.2.2.2) (hts _ hlink) hY.2.1 ⟨hfr, by show 8 + (_ + 11) + 48 * d ≤ _; omega⟩, hy1, hts _ hins⟩ ⟨mx_blind S G hs _, fun U hU hW => ⟨rfl, mx_K.warm hW hK, by rw [hU]; exact hR⟩⟩ rfl hn hl.1 rfl (lv_room hrest) hd ⟨by omega, by omega⟩) hlo (fun H1 locs1 hR1 hlo1 => ?_)
  refine hr2.2.2 p e R s m args below meth c H1 locs1 _ _ ls Q' hF hK hR1 hl hlo1 hfr hld (by omega) (by omega) (fun pc' ls' H' locs' hR' hlo' hr' => ?_)
  have e1 : cells + (hs1.2.1 - hs.2.1) + (fin.2.1 - hs1.2.1) = cells + (fin.2.1 - hs.2.1) := by omega
  have e2 : slots + (hs1.2.2 - hs.2.2) + (fin.2.2 - hs1.2.2) = slots + (fin.2.2 - hs.2.2) := by omega
  rw [e1, e2]
  exact kk pc' ls' H' locs' hR' hlo' hr'
theorem mx_invIN {y0 : MethodName} {by0 : ByteArray} {mL0 : Nat} (hYe : Y = (y0, by0, mL0, none)) (hd : decode M.2.1 pc = .ok (.invokespecial idx, 3)) (hY : mx_okM S Y n) (hlink : Cond.methodLinkNest M.1.cls idx Y.1 host ∈ S.2.2.2.1) (hins : Cond.instanceMethod Y.1 ∈ S.1) (hy1 : Y.1.name = "<init>") (hst : st = As.reverse ++ .ref b :: rest) (hn : As.length = n) (hrest : (rest.map fun v => v.category).sum ≤ 8) (hav : (lg_sl (.ref b :: As)).length ≤ Y.2.2.1)
    (h1 : mx_C S l G d Y (.ref b :: As) hs Q1) (k : ∀ r1 hs1, Q1 r1 hs1 → mx_Ok S l G (d + 1) M (pc + 3) lv (r1.toList ++ rest) hs1 Q) : mx_Ok S l G (d + 1) M pc lv st hs Q := by
  subst hYe
  obtain ⟨r1, hs1, hr1, hq1⟩ := h1
  obtain ⟨r, fin, hr2, hqf⟩ := k r1 hs1 hq1
  have a1 := hr1.1
  have a2 := hr1.2.1
  have a3 := hr2.1
  have a4 := hr2.2.1
  refine ⟨r, fin, ⟨by omega, by omega, fun p e R s m args below meth c H locs cells slots ls Q' hF hK hR hl hlo hfr hld hc hsl kk => ?_⟩, hqf⟩
  have hML : (y0, by0, mL0, (none : Option FieldType)).2.2.1 ≤ 29 := hY.2.2.1
  have hts := hF.2.2.2.2.2.2.2
  subst hst
  refine mx_after (hs1 := hs1) (r1 := r1) (va_runIN (As := As) (rest := rest) (nL := M.2.2.1) (cc := M.2.1) (Ts := S.1) (own := M.1.cls) (b := b) ⟨hF.1, hF.2.1, hF.2.2.1, hF.2.2.2.2.2.1, hts⟩ (mx_met hY.1 hav hr1) ⟨va_cnB n hts (mx_goodIn hK.1 hY) rfl rfl rfl (hK.2.2.2.1 _ hlink) (hts _ hY.2.2.2.2) hY.2.1 ⟨hfr, by show 8 + (_ + 11) + 48 * d ≤ _; omega⟩, hy1, hts _ hins⟩ ⟨mx_blind S G hs _, fun U hU hW => ⟨rfl, mx_K.warm hW hK, by rw [hU]; exact hR⟩⟩ rfl hn hl.1 rfl (lv_room hrest) hd ⟨by omega, by omega⟩) hlo (fun H1 locs1 hR1 hlo1 => ?_)
  refine hr2.2.2 p e R s m args below meth c H1 locs1 _ _ ls Q' hF hK hR1 hl hlo1 hfr hld (by omega) (by omega) (fun pc' ls' H' locs' hR' hlo' hr' => ?_)
  have e1 : cells + (hs1.2.1 - hs.2.1) + (fin.2.1 - hs1.2.1) = cells + (fin.2.1 - hs.2.1) := by omega
  have e2 : slots + (hs1.2.2 - hs.2.2) + (fin.2.2 - hs1.2.2) = slots + (fin.2.2 - hs.2.2) := by omega
  rw [e1, e2]
  exact kk pc' ls' H' locs' hR' hlo' hr'
end MXC
section MXI
variable {S : mx_S} {l : Launch} {G : mx_G} {d pc pc2 tgt : Nat} {M : mx_M} {lv lv2 : List (Nat × Value)} {st : List Value} {hs : mx_H} {Q : Option Value → mx_H → Prop} {off : Int}
theorem mx_iconst {n : Int} {v : Int32} (hd : decode M.2.1 pc = .ok (.iconst n, 1) ∧ pc + 1 = pc2) (hv : Int32.ofInt n = v) (k : mx_Ok S l G d M pc2 lv (.int v :: st) hs Q) : mx_Ok S l G d M pc lv (st) hs Q := by
  obtain ⟨hd, rfl⟩ := hd
  exact mx_go (fun _ _ _ _ _ _ _ _ _ _ _ _ _ _ _ hF _ _ hl w => lv_iconst hF.1 hF.2.1 hd hv w) k
theorem mx_bipush {n : Int} {v : Int32} (hd : decode M.2.1 pc = .ok (.bipush n, 2) ∧ pc + 2 = pc2) (hv : (Int8.ofInt n).toInt32 = v) (k : mx_Ok S l G d M pc2 lv (.int v :: st) hs Q) : mx_Ok S l G d M pc lv (st) hs Q := by
  obtain ⟨hd, rfl⟩ := hd
  exact mx_go (fun _ _ _ _ _ _ _ _ _ _ _ _ _ _ _ hF _ _ hl w => lv_bipush hF.1 hF.2.1 hd hv w) k
theorem mx_sipush {n : Int} {v : Int32} (hd : decode M.2.1 pc = .ok (.sipush n, 3) ∧ pc + 3 = pc2) (hv : (Int16.ofInt n).toInt32 = v) (k : mx_Ok S l G d M pc2 lv (.int v :: st) hs Q) : mx_Ok S l G d M pc lv (st) hs Q := by
  obtain ⟨hd, rfl⟩ := hd
  exact mx_go (fun _ _ _ _ _ _ _ _ _ _ _ _ _ _ _ hF _ _ hl w => lv_sipush hF.1 hF.2.1 hd hv w) k
theorem mx_lconst {n : Fin 2} {v : Int64} (hd : decode M.2.1 pc = .ok (.lconst n, 1) ∧ pc + 1 = pc2) (hv : Int64.ofNat (n : Nat) = v) (k : mx_Ok S l G d M pc2 lv (.long v :: st) hs Q) : mx_Ok S l G d M pc lv (st) hs Q := by
  obtain ⟨hd, rfl⟩ := hd
  exact mx_go (fun _ _ _ _ _ _ _ _ _ _ _ _ _ _ _ hF _ _ hl w => lv_lconst hF.1 hF.2.1 hd hv w) k
theorem mx_null  (hd : decode M.2.1 pc = .ok (.aconst_null, 1) ∧ pc + 1 = pc2)  (k : mx_Ok S l G d M pc2 lv (.null :: st) hs Q) : mx_Ok S l G d M pc lv (st) hs Q := by
  obtain ⟨hd, rfl⟩ := hd
  exact mx_go (fun _ _ _ _ _ _ _ _ _ _ _ _ _ _ _ hF _ _ hl w => lv_null hF.1 hF.2.1 hd w) k
theorem mx_ldc {ix : Nat} {v : Int32} (hd : decode M.2.1 pc = .ok (.ldc ix, 2) ∧ pc + 2 = pc2) (hc : Cond.constant M.1.cls ix v ∈ S.1) (k : mx_Ok S l G d M pc2 lv (.int v :: st) hs Q) : mx_Ok S l G d M pc lv (st) hs Q := by
  obtain ⟨hd, rfl⟩ := hd
  exact mx_go (fun _ _ _ _ _ _ _ _ _ _ _ _ _ _ _ hF _ _ hl w => lv_ldc hF.1 hF.2.1 hF.2.2.2.2.2.1 (hF.2.2.2.2.2.2.2 _ hc) hd w) k
theorem mx_ldcw {ix : Nat} {v : Int32} (hd : decode M.2.1 pc = .ok (.ldc_w ix, 3) ∧ pc + 3 = pc2) (hc : Cond.constant M.1.cls ix v ∈ S.1) (k : mx_Ok S l G d M pc2 lv (.int v :: st) hs Q) : mx_Ok S l G d M pc lv (st) hs Q := by
  obtain ⟨hd, rfl⟩ := hd
  exact mx_go (fun _ _ _ _ _ _ _ _ _ _ _ _ _ _ _ hF _ _ hl w => lv_ldcw hF.1 hF.2.1 hF.2.2.2.2.2.1 (hF.2.2.2.2.2.2.2 _ hc) hd w) k
theorem mx_ldc2 {ix : Nat} {v : Int64} (hd : decode M.2.1 pc = .ok (.ldc2_w ix, 3) ∧ pc + 3 = pc2) (hc : Cond.constantLong M.1.cls ix v ∈ S.1) (k : mx_Ok S l G d M pc2 lv (.long v :: st) hs Q) : mx_Ok S l G d M pc lv (st) hs Q := by
  obtain ⟨hd, rfl⟩ := hd
  exact mx_go (fun _ _ _ _ _ _ _ _ _ _ _ _ _ _ _ hF _ _ hl w => lv_ldc2 hF.1 hF.2.1 hF.2.2.2.2.2.1 (hF.2.2.2.2.2.2.2 _ hc) hd w) k
theorem mx_iload_n {q : Fin 4} {i : Nat} {x : Int32} (hd : decode M.2.1 pc = .ok (.iload_n q, 1) ∧ pc + 1 = pc2) (hi : (q : Nat) = i) (j : Nat) (hj : lv[j]? = some (i, .int x)) (k : mx_Ok S l G d M pc2 lv (.int x :: st) hs Q) : mx_Ok S l G d M pc lv (st) hs Q := by
  obtain ⟨hd, rfl⟩ := hd
  exact mx_go (fun _ _ _ _ _ _ _ _ _ _ _ _ _ _ _ hF _ _ hl w => lv_iload_n hF.1 hF.2.1 hd hi (lv_at hl j hj) w) k
theorem mx_iload {i : Nat} {x : Int32} (hd : decode M.2.1 pc = .ok (.iload i, 2) ∧ pc + 2 = pc2) (j : Nat) (hj : lv[j]? = some (i, .int x)) (k : mx_Ok S l G d M pc2 lv (.int x :: st) hs Q) : mx_Ok S l G d M pc lv (st) hs Q := by
  obtain ⟨hd, rfl⟩ := hd
  exact mx_go (fun _ _ _ _ _ _ _ _ _ _ _ _ _ _ _ hF _ _ hl w => lv_iload hF.1 hF.2.1 hd (lv_at hl j hj) w) k
theorem mx_lload_n {q : Fin 4} {i : Nat} {x : Int64} (hd : decode M.2.1 pc = .ok (.lload_n q, 1) ∧ pc + 1 = pc2) (hi : (q : Nat) = i) (j : Nat) (hj : lv[j]? = some (i, .long x)) (k : mx_Ok S l G d M pc2 lv (.long x :: st) hs Q) : mx_Ok S l G d M pc lv (st) hs Q := by
  obtain ⟨hd, rfl⟩ := hd
  exact mx_go (fun _ _ _ _ _ _ _ _ _ _ _ _ _ _ _ hF _ _ hl w => lv_lload_n hF.1 hF.2.1 hd hi (lv_at hl j hj) w) k
theorem mx_lload {i : Nat} {x : Int64} (hd : decode M.2.1 pc = .ok (.lload i, 2) ∧ pc + 2 = pc2) (j : Nat) (hj : lv[j]? = some (i, .long x)) (k : mx_Ok S l G d M pc2 lv (.long x :: st) hs Q) : mx_Ok S l G d M pc lv (st) hs Q := by
  obtain ⟨hd, rfl⟩ := hd
  exact mx_go (fun _ _ _ _ _ _ _ _ _ _ _ _ _ _ _ hF _ _ hl w => lv_lload hF.1 hF.2.1 hd (lv_at hl j hj) w) k
theorem mx_aload_nR {q : Fin 4} {i : Nat} {x : Nat} (hd : decode M.2.1 pc = .ok (.aload_n q, 1) ∧ pc + 1 = pc2) (hi : (q : Nat) = i) (j : Nat) (hj : lv[j]? = some (i, .ref x)) (k : mx_Ok S l G d M pc2 lv (.ref x :: st) hs Q) : mx_Ok S l G d M pc lv (st) hs Q := by
  obtain ⟨hd, rfl⟩ := hd
  exact mx_go (fun _ _ _ _ _ _ _ _ _ _ _ _ _ _ _ hF _ _ hl w => lv_aload_n hF.1 hF.2.1 hd hi (lv_at hl j hj) w) k
theorem mx_aload_n {q : Fin 4} {i : Nat} {v : Value} (hd : decode M.2.1 pc = .ok (.aload_n q, 1) ∧ pc + 1 = pc2) (hi : (q : Nat) = i) (j : Nat) (hj : lv[j]? = some (i, v)) (hv : v = .null ∨ ∃ x, v = .ref x) (k : mx_Ok S l G d M pc2 lv (v :: st) hs Q) : mx_Ok S l G d M pc lv (st) hs Q := by
  obtain ⟨hd, rfl⟩ := hd
  rcases hv with rfl | ⟨x, rfl⟩
  · exact mx_go (fun _ _ _ _ _ _ _ _ _ _ _ _ _ _ _ hF _ _ hl w => lv_aload_nN hF.1 hF.2.1 hd hi (lv_at hl j hj) w) k
  · exact mx_go (fun _ _ _ _ _ _ _ _ _ _ _ _ _ _ _ hF _ _ hl w => lv_aload_n hF.1 hF.2.1 hd hi (lv_at hl j hj) w) k
theorem mx_aloadR {i : Nat} {x : Nat} (hd : decode M.2.1 pc = .ok (.aload i, 2) ∧ pc + 2 = pc2) (j : Nat) (hj : lv[j]? = some (i, .ref x)) (k : mx_Ok S l G d M pc2 lv (.ref x :: st) hs Q) : mx_Ok S l G d M pc lv (st) hs Q := by
  obtain ⟨hd, rfl⟩ := hd
  exact mx_go (fun _ _ _ _ _ _ _ _ _ _ _ _ _ _ _ hF _ _ hl w => lv_aload hF.1 hF.2.1 hd (lv_at hl j hj) w) k
theorem mx_aload {i : Nat} {v : Value} (hd : decode M.2.1 pc = .ok (.aload i, 2) ∧ pc + 2 = pc2) (j : Nat) (hj : lv[j]? = some (i, v)) (hv : v = .null ∨ ∃ x, v = .ref x) (k : mx_Ok S l G d M pc2 lv (v :: st) hs Q) : mx_Ok S l G d M pc lv (st) hs Q := by
  obtain ⟨hd, rfl⟩ := hd
  rcases hv with rfl | ⟨x, rfl⟩
  · exact mx_go (fun _ _ _ _ _ _ _ _ _ _ _ _ _ _ _ hF _ _ hl w => lv_aloadN hF.1 hF.2.1 hd (lv_at hl j hj) w) k
  · exact mx_go (fun _ _ _ _ _ _ _ _ _ _ _ _ _ _ _ hF _ _ hl w => lv_aload hF.1 hF.2.1 hd (lv_at hl j hj) w) k
theorem mx_istore_n {q : Fin 4} {i : Nat} {x : Int32} (hd : decode M.2.1 pc = .ok (.istore_n q, 1) ∧ pc + 1 = pc2) (hi : (q : Nat) = i) (hn : i < M.2.2.1) (h2 : (i, Value.int x) :: lv.filter (fun q => !(q.1 == i) && !(q.1 + 1 == i && q.2.category == 2)) = lv2) (k : mx_Ok S l G d M pc2 lv2 (st) hs Q) : mx_Ok S l G d M pc lv (.int x :: st) hs Q := by
  obtain ⟨hd, rfl⟩ := hd
  exact mx_goL (fun _ _ _ _ _ _ _ _ _ _ _ _ _ _ _ hF hl w => lv_istore_n hF.1 hF.2.1 hd hi hl hn h2 w) k
theorem mx_istore {i : Nat} {x : Int32} (hd : decode M.2.1 pc = .ok (.istore i, 2) ∧ pc + 2 = pc2) (hn : i < M.2.2.1) (h2 : (i, Value.int x) :: lv.filter (fun q => !(q.1 == i) && !(q.1 + 1 == i && q.2.category == 2)) = lv2) (k : mx_Ok S l G d M pc2 lv2 (st) hs Q) : mx_Ok S l G d M pc lv (.int x :: st) hs Q := by
  obtain ⟨hd, rfl⟩ := hd
  exact mx_goL (fun _ _ _ _ _ _ _ _ _ _ _ _ _ _ _ hF hl w => lv_istore hF.1 hF.2.1 hd hl hn h2 w) k
theorem mx_lstore_n {q : Fin 4} {i : Nat} {x : Int64} (hd : decode M.2.1 pc = .ok (.lstore_n q, 1) ∧ pc + 1 = pc2) (hi : (q : Nat) = i) (hn : i + 1 < M.2.2.1) (h2 : (i, Value.long x) :: lv.filter (fun q => !(q.1 == i) && (!(q.1 == i + 1) && !(q.1 + 1 == i && q.2.category == 2))) = lv2) (k : mx_Ok S l G d M pc2 lv2 (st) hs Q) : mx_Ok S l G d M pc lv (.long x :: st) hs Q := by
  obtain ⟨hd, rfl⟩ := hd
  exact mx_goL (fun _ _ _ _ _ _ _ _ _ _ _ _ _ _ _ hF hl w => lv_lstore_n hF.1 hF.2.1 hd hi hl hn h2 w) k
theorem mx_lstore {i : Nat} {x : Int64} (hd : decode M.2.1 pc = .ok (.lstore i, 2) ∧ pc + 2 = pc2) (hn : i + 1 < M.2.2.1) (h2 : (i, Value.long x) :: lv.filter (fun q => !(q.1 == i) && (!(q.1 == i + 1) && !(q.1 + 1 == i && q.2.category == 2))) = lv2) (k : mx_Ok S l G d M pc2 lv2 (st) hs Q) : mx_Ok S l G d M pc lv (.long x :: st) hs Q := by
  obtain ⟨hd, rfl⟩ := hd
  exact mx_goL (fun _ _ _ _ _ _ _ _ _ _ _ _ _ _ _ hF hl w => lv_lstore hF.1 hF.2.1 hd hl hn h2 w) k
theorem mx_astore_n {q : Fin 4} {i : Nat} {v : Value} (hd : decode M.2.1 pc = .ok (.astore_n q, 1) ∧ pc + 1 = pc2) (hi : (q : Nat) = i) (hn : i < M.2.2.1) (h2 : (i, v) :: lv.filter (fun q => !(q.1 == i) && !(q.1 + 1 == i && q.2.category == 2)) = lv2) (hv : v = .null ∨ ∃ x, v = .ref x) (k : mx_Ok S l G d M pc2 lv2 (st) hs Q) : mx_Ok S l G d M pc lv (v :: st) hs Q := by
  obtain ⟨hd, rfl⟩ := hd
  rcases hv with rfl | ⟨x, rfl⟩
  · exact mx_goL (fun _ _ _ _ _ _ _ _ _ _ _ _ _ _ _ hF hl w => lv_astore_nN hF.1 hF.2.1 hd hi hl hn h2 w) k
  · exact mx_goL (fun _ _ _ _ _ _ _ _ _ _ _ _ _ _ _ hF hl w => lv_astore_n hF.1 hF.2.1 hd hi hl hn h2 w) k
theorem mx_astore {i : Nat} {v : Value} (hd : decode M.2.1 pc = .ok (.astore i, 2) ∧ pc + 2 = pc2) (hn : i < M.2.2.1) (h2 : (i, v) :: lv.filter (fun q => !(q.1 == i) && !(q.1 + 1 == i && q.2.category == 2)) = lv2) (hv : v = .null ∨ ∃ x, v = .ref x) (k : mx_Ok S l G d M pc2 lv2 (st) hs Q) : mx_Ok S l G d M pc lv (v :: st) hs Q := by
  obtain ⟨hd, rfl⟩ := hd
  rcases hv with rfl | ⟨x, rfl⟩
  · exact mx_goL (fun _ _ _ _ _ _ _ _ _ _ _ _ _ _ _ hF hl w => lv_astoreN hF.1 hF.2.1 hd hl hn h2 w) k
  · exact mx_goL (fun _ _ _ _ _ _ _ _ _ _ _ _ _ _ _ hF hl w => lv_astore hF.1 hF.2.1 hd hl hn h2 w) k
theorem mx_iinc {i : Nat} {n : Int} {x v : Int32} (hd : decode M.2.1 pc = .ok (.iinc i n, 3) ∧ pc + 3 = pc2) (j : Nat) (hj : lv[j]? = some (i, .int x)) (hv : x + Int32.ofInt n = v) (hn : i < M.2.2.1) (h2 : (i, Value.int v) :: lv.filter (fun q => !(q.1 == i) && !(q.1 + 1 == i && q.2.category == 2)) = lv2) (k : mx_Ok S l G d M pc2 lv2 (st) hs Q) : mx_Ok S l G d M pc lv (st) hs Q := by
  obtain ⟨hd, rfl⟩ := hd
  exact mx_goL (fun _ _ _ _ _ _ _ _ _ _ _ _ _ _ _ hF hl w => lv_iinc hF.1 hF.2.1 hd hl hj hv hn h2 w) k
theorem mx_iadd {x y : Int32} (hd : decode M.2.1 pc = .ok (.iadd, 1) ∧ pc + 1 = pc2)  (k : mx_Ok S l G d M pc2 lv (.int (x + y) :: st) hs Q) : mx_Ok S l G d M pc lv (.int y :: .int x :: st) hs Q := by
  obtain ⟨hd, rfl⟩ := hd
  exact mx_go (fun _ _ _ _ _ _ _ _ _ _ _ _ _ _ _ hF _ _ hl w => lv_iadd hF.1 hF.2.1 hd w) k
theorem mx_isub {x y : Int32} (hd : decode M.2.1 pc = .ok (.isub, 1) ∧ pc + 1 = pc2)  (k : mx_Ok S l G d M pc2 lv (.int (x - y) :: st) hs Q) : mx_Ok S l G d M pc lv (.int y :: .int x :: st) hs Q := by
  obtain ⟨hd, rfl⟩ := hd
  exact mx_go (fun _ _ _ _ _ _ _ _ _ _ _ _ _ _ _ hF _ _ hl w => lv_isub hF.1 hF.2.1 hd w) k
theorem mx_imul {x y : Int32} (hd : decode M.2.1 pc = .ok (.imul, 1) ∧ pc + 1 = pc2)  (k : mx_Ok S l G d M pc2 lv (.int (x * y) :: st) hs Q) : mx_Ok S l G d M pc lv (.int y :: .int x :: st) hs Q := by
  obtain ⟨hd, rfl⟩ := hd
  exact mx_go (fun _ _ _ _ _ _ _ _ _ _ _ _ _ _ _ hF _ _ hl w => lv_imul hF.1 hF.2.1 hd w) k
theorem mx_iand {x y : Int32} (hd : decode M.2.1 pc = .ok (.iand, 1) ∧ pc + 1 = pc2)  (k : mx_Ok S l G d M pc2 lv (.int (x &&& y) :: st) hs Q) : mx_Ok S l G d M pc lv (.int y :: .int x :: st) hs Q := by
  obtain ⟨hd, rfl⟩ := hd
  exact mx_go (fun _ _ _ _ _ _ _ _ _ _ _ _ _ _ _ hF _ _ hl w => lv_iand hF.1 hF.2.1 hd w) k
theorem mx_ior {x y : Int32} (hd : decode M.2.1 pc = .ok (.ior, 1) ∧ pc + 1 = pc2)  (k : mx_Ok S l G d M pc2 lv (.int (x ||| y) :: st) hs Q) : mx_Ok S l G d M pc lv (.int y :: .int x :: st) hs Q := by
  obtain ⟨hd, rfl⟩ := hd
  exact mx_go (fun _ _ _ _ _ _ _ _ _ _ _ _ _ _ _ hF _ _ hl w => lv_ior hF.1 hF.2.1 hd w) k
theorem mx_ixor {x y : Int32} (hd : decode M.2.1 pc = .ok (.ixor, 1) ∧ pc + 1 = pc2)  (k : mx_Ok S l G d M pc2 lv (.int (x ^^^ y) :: st) hs Q) : mx_Ok S l G d M pc lv (.int y :: .int x :: st) hs Q := by
  obtain ⟨hd, rfl⟩ := hd
  exact mx_go (fun _ _ _ _ _ _ _ _ _ _ _ _ _ _ _ hF _ _ hl w => lv_ixor hF.1 hF.2.1 hd w) k
theorem mx_ishl {x y : Int32} (hd : decode M.2.1 pc = .ok (.ishl, 1) ∧ pc + 1 = pc2)  (k : mx_Ok S l G d M pc2 lv (.int (x <<< (y &&& 31)) :: st) hs Q) : mx_Ok S l G d M pc lv (.int y :: .int x :: st) hs Q := by
  obtain ⟨hd, rfl⟩ := hd
  exact mx_go (fun _ _ _ _ _ _ _ _ _ _ _ _ _ _ _ hF _ _ hl w => lv_ishl hF.1 hF.2.1 hd w) k
theorem mx_ishr {x y : Int32} (hd : decode M.2.1 pc = .ok (.ishr, 1) ∧ pc + 1 = pc2)  (k : mx_Ok S l G d M pc2 lv (.int (x >>> (y &&& 31)) :: st) hs Q) : mx_Ok S l G d M pc lv (.int y :: .int x :: st) hs Q := by
  obtain ⟨hd, rfl⟩ := hd
  exact mx_go (fun _ _ _ _ _ _ _ _ _ _ _ _ _ _ _ hF _ _ hl w => lv_ishr hF.1 hF.2.1 hd w) k
theorem mx_ladd {x y : Int64} (hd : decode M.2.1 pc = .ok (.ladd, 1) ∧ pc + 1 = pc2)  (k : mx_Ok S l G d M pc2 lv (.long (x + y) :: st) hs Q) : mx_Ok S l G d M pc lv (.long y :: .long x :: st) hs Q := by
  obtain ⟨hd, rfl⟩ := hd
  exact mx_go (fun _ _ _ _ _ _ _ _ _ _ _ _ _ _ _ hF _ _ hl w => lv_ladd hF.1 hF.2.1 hd w) k
theorem mx_lsub {x y : Int64} (hd : decode M.2.1 pc = .ok (.lsub, 1) ∧ pc + 1 = pc2)  (k : mx_Ok S l G d M pc2 lv (.long (x - y) :: st) hs Q) : mx_Ok S l G d M pc lv (.long y :: .long x :: st) hs Q := by
  obtain ⟨hd, rfl⟩ := hd
  exact mx_go (fun _ _ _ _ _ _ _ _ _ _ _ _ _ _ _ hF _ _ hl w => lv_lsub hF.1 hF.2.1 hd w) k
theorem mx_lmul {x y : Int64} (hd : decode M.2.1 pc = .ok (.lmul, 1) ∧ pc + 1 = pc2)  (k : mx_Ok S l G d M pc2 lv (.long (x * y) :: st) hs Q) : mx_Ok S l G d M pc lv (.long y :: .long x :: st) hs Q := by
  obtain ⟨hd, rfl⟩ := hd
  exact mx_go (fun _ _ _ _ _ _ _ _ _ _ _ _ _ _ _ hF _ _ hl w => lv_lmul hF.1 hF.2.1 hd w) k
theorem mx_land {x y : Int64} (hd : decode M.2.1 pc = .ok (.land, 1) ∧ pc + 1 = pc2)  (k : mx_Ok S l G d M pc2 lv (.long (x &&& y) :: st) hs Q) : mx_Ok S l G d M pc lv (.long y :: .long x :: st) hs Q := by
  obtain ⟨hd, rfl⟩ := hd
  exact mx_go (fun _ _ _ _ _ _ _ _ _ _ _ _ _ _ _ hF _ _ hl w => lv_land hF.1 hF.2.1 hd w) k
theorem mx_lor {x y : Int64} (hd : decode M.2.1 pc = .ok (.lor, 1) ∧ pc + 1 = pc2)  (k : mx_Ok S l G d M pc2 lv (.long (x ||| y) :: st) hs Q) : mx_Ok S l G d M pc lv (.long y :: .long x :: st) hs Q := by
  obtain ⟨hd, rfl⟩ := hd
  exact mx_go (fun _ _ _ _ _ _ _ _ _ _ _ _ _ _ _ hF _ _ hl w => lv_lor hF.1 hF.2.1 hd w) k
theorem mx_lxor {x y : Int64} (hd : decode M.2.1 pc = .ok (.lxor, 1) ∧ pc + 1 = pc2)  (k : mx_Ok S l G d M pc2 lv (.long (x ^^^ y) :: st) hs Q) : mx_Ok S l G d M pc lv (.long y :: .long x :: st) hs Q := by
  obtain ⟨hd, rfl⟩ := hd
  exact mx_go (fun _ _ _ _ _ _ _ _ _ _ _ _ _ _ _ hF _ _ hl w => lv_lxor hF.1 hF.2.1 hd w) k
theorem mx_ineg {x : Int32} (hd : decode M.2.1 pc = .ok (.ineg, 1) ∧ pc + 1 = pc2)  (k : mx_Ok S l G d M pc2 lv (.int (-x) :: st) hs Q) : mx_Ok S l G d M pc lv (.int x :: st) hs Q := by
  obtain ⟨hd, rfl⟩ := hd
  exact mx_go (fun _ _ _ _ _ _ _ _ _ _ _ _ _ _ _ hF _ _ hl w => lv_ineg hF.1 hF.2.1 hd w) k
theorem mx_idiv {x y : Int32} (hd : decode M.2.1 pc = .ok (.idiv, 1) ∧ pc + 1 = pc2) (hne : ¬ y = 0) (k : mx_Ok S l G d M pc2 lv (.int (x / y) :: st) hs Q) : mx_Ok S l G d M pc lv (.int y :: .int x :: st) hs Q := by
  obtain ⟨hd, rfl⟩ := hd
  exact mx_go (fun _ _ _ _ _ _ _ _ _ _ _ _ _ _ _ hF _ _ hl w => lv_idiv hF.1 hF.2.1 hd hne w) k
theorem mx_irem {x y : Int32} (hd : decode M.2.1 pc = .ok (.irem, 1) ∧ pc + 1 = pc2) (hne : ¬ y = 0) (k : mx_Ok S l G d M pc2 lv (.int (x - x / y * y) :: st) hs Q) : mx_Ok S l G d M pc lv (.int y :: .int x :: st) hs Q := by
  obtain ⟨hd, rfl⟩ := hd
  exact mx_go (fun _ _ _ _ _ _ _ _ _ _ _ _ _ _ _ hF _ _ hl w => lv_irem hF.1 hF.2.1 hd hne w) k
theorem mx_i2l {x : Int32} (hd : decode M.2.1 pc = .ok (.i2l, 1) ∧ pc + 1 = pc2)  (k : mx_Ok S l G d M pc2 lv (.long x.toInt64 :: st) hs Q) : mx_Ok S l G d M pc lv (.int x :: st) hs Q := by
  obtain ⟨hd, rfl⟩ := hd
  exact mx_go (fun _ _ _ _ _ _ _ _ _ _ _ _ _ _ _ hF _ _ hl w => lv_i2l hF.1 hF.2.1 hd rfl w) k
theorem mx_l2i {x : Int64} (hd : decode M.2.1 pc = .ok (.l2i, 1) ∧ pc + 1 = pc2)  (k : mx_Ok S l G d M pc2 lv (.int x.toInt32 :: st) hs Q) : mx_Ok S l G d M pc lv (.long x :: st) hs Q := by
  obtain ⟨hd, rfl⟩ := hd
  exact mx_go (fun _ _ _ _ _ _ _ _ _ _ _ _ _ _ _ hF _ _ hl w => lv_l2i hF.1 hF.2.1 hd rfl w) k
theorem mx_i2c {x : Int32} (hd : decode M.2.1 pc = .ok (.i2c, 1) ∧ pc + 1 = pc2)  (k : mx_Ok S l G d M pc2 lv (.int (x.toUInt32 % 65536).toInt32 :: st) hs Q) : mx_Ok S l G d M pc lv (.int x :: st) hs Q := by
  obtain ⟨hd, rfl⟩ := hd
  exact mx_go (fun _ _ _ _ _ _ _ _ _ _ _ _ _ _ _ hF _ _ hl w => lv_i2c hF.1 hF.2.1 hd rfl w) k
theorem mx_i2b {x : Int32} (hd : decode M.2.1 pc = .ok (.i2b, 1) ∧ pc + 1 = pc2)  (k : mx_Ok S l G d M pc2 lv (.int x.toInt8.toInt32 :: st) hs Q) : mx_Ok S l G d M pc lv (.int x :: st) hs Q := by
  obtain ⟨hd, rfl⟩ := hd
  exact mx_go (fun _ _ _ _ _ _ _ _ _ _ _ _ _ _ _ hF _ _ hl w => lv_i2b hF.1 hF.2.1 hd rfl w) k
theorem mx_iushr {x y : Int32} (hd : decode M.2.1 pc = .ok (.iushr, 1) ∧ pc + 1 = pc2)  (k : mx_Ok S l G d M pc2 lv (.int (x.toUInt32 >>> (y.toUInt32 &&& Int32.toUInt32 31)).toInt32 :: st) hs Q) : mx_Ok S l G d M pc lv (.int y :: .int x :: st) hs Q := by
  obtain ⟨hd, rfl⟩ := hd
  exact mx_go (fun _ _ _ _ _ _ _ _ _ _ _ _ _ _ _ hF _ _ hl w => lv_iushr hF.1 hF.2.1 hd rfl w) k
theorem mx_lushr {x : Int64} {y : Int32} (hd : decode M.2.1 pc = .ok (.lushr, 1) ∧ pc + 1 = pc2)  (k : mx_Ok S l G d M pc2 lv (.long (x.toUInt64 >>> (y.toInt64.toUInt64 &&& Int64.toUInt64 63)).toInt64 :: st) hs Q) : mx_Ok S l G d M pc lv (.int y :: .long x :: st) hs Q := by
  obtain ⟨hd, rfl⟩ := hd
  exact mx_go (fun _ _ _ _ _ _ _ _ _ _ _ _ _ _ _ hF _ _ hl w => lv_lushr hF.1 hF.2.1 hd rfl w) k
theorem mx_lshl {x : Int64} {y : Int32} (hd : decode M.2.1 pc = .ok (.lshl, 1) ∧ pc + 1 = pc2)  (k : mx_Ok S l G d M pc2 lv (.long (x <<< (y.toInt64 &&& 63)) :: st) hs Q) : mx_Ok S l G d M pc lv (.int y :: .long x :: st) hs Q := by
  obtain ⟨hd, rfl⟩ := hd
  exact mx_go (fun _ _ _ _ _ _ _ _ _ _ _ _ _ _ _ hF _ _ hl w => lv_lshl hF.1 hF.2.1 hd rfl w) k
theorem mx_lshr {x : Int64} {y : Int32} (hd : decode M.2.1 pc = .ok (.lshr, 1) ∧ pc + 1 = pc2)  (k : mx_Ok S l G d M pc2 lv (.long (x >>> (y.toInt64 &&& 63)) :: st) hs Q) : mx_Ok S l G d M pc lv (.int y :: .long x :: st) hs Q := by
  obtain ⟨hd, rfl⟩ := hd
  exact mx_go (fun _ _ _ _ _ _ _ _ _ _ _ _ _ _ _ hF _ _ hl w => lv_lshr hF.1 hF.2.1 hd rfl w) k
theorem mx_lcmp {x y : Int64} (hd : decode M.2.1 pc = .ok (.lcmp, 1) ∧ pc + 1 = pc2)  (k : mx_Ok S l G d M pc2 lv (.int (lg_cmp x y) :: st) hs Q) : mx_Ok S l G d M pc lv (.long y :: .long x :: st) hs Q := by
  obtain ⟨hd, rfl⟩ := hd
  exact mx_go (fun _ _ _ _ _ _ _ _ _ _ _ _ _ _ _ hF _ _ hl w => W.lcmp hF.1 hF.2.1 hd w) k
theorem mx_dup {v : Value} (hd : decode M.2.1 pc = .ok (.dup, 1) ∧ pc + 1 = pc2) (hv : v.category = 1) (k : mx_Ok S l G d M pc2 lv (v :: v :: st) hs Q) : mx_Ok S l G d M pc lv (v :: st) hs Q := by
  obtain ⟨hd, rfl⟩ := hd
  exact mx_go (fun _ _ _ _ _ _ _ _ _ _ _ _ _ _ _ hF _ _ hl w => lv_dup hF.1 hF.2.1 hd hv w) k
theorem mx_pop {v : Value} (hd : decode M.2.1 pc = .ok (.pop, 1) ∧ pc + 1 = pc2) (hv : v.category = 1) (k : mx_Ok S l G d M pc2 lv (st) hs Q) : mx_Ok S l G d M pc lv (v :: st) hs Q := by
  obtain ⟨hd, rfl⟩ := hd
  exact mx_go (fun _ _ _ _ _ _ _ _ _ _ _ _ _ _ _ hF _ _ hl w => lv_pop hF.1 hF.2.1 hd hv w) k
theorem mx_pop2 {v : Value} (hd : decode M.2.1 pc = .ok (.pop2, 1) ∧ pc + 1 = pc2) (hv : v.category = 2) (k : mx_Ok S l G d M pc2 lv (st) hs Q) : mx_Ok S l G d M pc lv (v :: st) hs Q := by
  obtain ⟨hd, rfl⟩ := hd
  exact mx_go (fun _ _ _ _ _ _ _ _ _ _ _ _ _ _ _ hF _ _ hl w => lv_pop2_2 hF.1 hF.2.1 hd hv w) k
theorem mx_dup_x1 {v w9 : Value} (hd : decode M.2.1 pc = .ok (.dup_x1, 1) ∧ pc + 1 = pc2) (hv : v.category = 1) (hw : w9.category = 1) (k : mx_Ok S l G d M pc2 lv (v :: w9 :: v :: st) hs Q) : mx_Ok S l G d M pc lv (v :: w9 :: st) hs Q := by
  obtain ⟨hd, rfl⟩ := hd
  exact mx_go (fun _ _ _ _ _ _ _ _ _ _ _ _ _ _ _ hF _ _ hl w => lv_dup_x1 hF.1 hF.2.1 hd hv hw w) k
theorem mx_dup_x2 {v w9 u9 : Value} (hd : decode M.2.1 pc = .ok (.dup_x2, 1) ∧ pc + 1 = pc2) (hv : v.category = 1) (hw : w9.category = 1) (hu : u9.category = 1) (k : mx_Ok S l G d M pc2 lv (v :: w9 :: u9 :: v :: st) hs Q) : mx_Ok S l G d M pc lv (v :: w9 :: u9 :: st) hs Q := by
  obtain ⟨hd, rfl⟩ := hd
  exact mx_go (fun _ _ _ _ _ _ _ _ _ _ _ _ _ _ _ hF _ _ hl w => lv_dup_x2 hF.1 hF.2.1 hd hv hw hu w) k
theorem mx_dup2 {v w9 : Value} (hd : decode M.2.1 pc = .ok (.dup2, 1) ∧ pc + 1 = pc2) (hv : v.category = 1) (hw : w9.category = 1) (k : mx_Ok S l G d M pc2 lv (v :: w9 :: v :: w9 :: st) hs Q) : mx_Ok S l G d M pc lv (v :: w9 :: st) hs Q := by
  obtain ⟨hd, rfl⟩ := hd
  exact mx_go (fun _ _ _ _ _ _ _ _ _ _ _ _ _ _ _ hF _ _ hl w => lv_dup2_11 hF.1 hF.2.1 hd hv hw w) k
theorem mx_dup2L {v : Value} (hd : decode M.2.1 pc = .ok (.dup2, 1) ∧ pc + 1 = pc2) (hv : v.category = 2) (k : mx_Ok S l G d M pc2 lv (v :: v :: st) hs Q) : mx_Ok S l G d M pc lv (v :: st) hs Q := by
  obtain ⟨hd, rfl⟩ := hd
  exact mx_go (fun _ _ _ _ _ _ _ _ _ _ _ _ _ _ _ hF _ _ hl w => lv_dup2_2 hF.1 hF.2.1 hd hv w) k
theorem mx_icmp_eq {x y : Int32} (hd : decode M.2.1 pc = .ok (.if_icmp .eq off, 3) ∧ pc + 3 = pc2 ∧ (pc : Int) + off = (tgt : Int)) (kt : x = y → mx_Ok S l G d M tgt lv (st) hs Q) (kf : ¬ (x = y) → mx_Ok S l G d M pc2 lv (st) hs Q) : mx_Ok S l G d M pc lv (.int y :: .int x :: st) hs Q := by
  obtain ⟨hd, rfl, ht⟩ := hd
  by_cases hc : x = y
  · exact mx_go (fun _ _ _ _ _ _ _ _ _ _ _ _ _ _ _ hF _ _ hl w => lv_icmp_eq hF.1 hF.2.1 hd ht (fun _ => w) (fun h => absurd hc h)) (kt hc)
  · exact mx_go (fun _ _ _ _ _ _ _ _ _ _ _ _ _ _ _ hF _ _ hl w => lv_icmp_eq hF.1 hF.2.1 hd ht (fun h => absurd h hc) (fun _ => w)) (kf hc)
theorem mx_if_eq {x : Int32} (hd : decode M.2.1 pc = .ok (.ifCond .eq off, 3) ∧ pc + 3 = pc2 ∧ (pc : Int) + off = (tgt : Int)) (kt : x = 0 → mx_Ok S l G d M tgt lv (st) hs Q) (kf : ¬ (x = 0) → mx_Ok S l G d M pc2 lv (st) hs Q) : mx_Ok S l G d M pc lv (.int x :: st) hs Q := by
  obtain ⟨hd, rfl, ht⟩ := hd
  by_cases hc : x = 0
  · exact mx_go (fun _ _ _ _ _ _ _ _ _ _ _ _ _ _ _ hF _ _ hl w => lv_if_eq hF.1 hF.2.1 hd ht (fun _ => w) (fun h => absurd hc h)) (kt hc)
  · exact mx_go (fun _ _ _ _ _ _ _ _ _ _ _ _ _ _ _ hF _ _ hl w => lv_if_eq hF.1 hF.2.1 hd ht (fun h => absurd h hc) (fun _ => w)) (kf hc)
theorem mx_icmp_ne {x y : Int32} (hd : decode M.2.1 pc = .ok (.if_icmp .ne off, 3) ∧ pc + 3 = pc2 ∧ (pc : Int) + off = (tgt : Int)) (kt : ¬ x = y → mx_Ok S l G d M tgt lv (st) hs Q) (kf : ¬ (¬ x = y) → mx_Ok S l G d M pc2 lv (st) hs Q) : mx_Ok S l G d M pc lv (.int y :: .int x :: st) hs Q := by
  obtain ⟨hd, rfl, ht⟩ := hd
  by_cases hc : ¬ x = y
  · exact mx_go (fun _ _ _ _ _ _ _ _ _ _ _ _ _ _ _ hF _ _ hl w => lv_icmp_ne hF.1 hF.2.1 hd ht (fun _ => w) (fun h => absurd h hc)) (kt hc)
  · exact mx_go (fun _ _ _ _ _ _ _ _ _ _ _ _ _ _ _ hF _ _ hl w => lv_icmp_ne hF.1 hF.2.1 hd ht (fun h => absurd h hc) (fun _ => w)) (kf hc)
theorem mx_if_ne {x : Int32} (hd : decode M.2.1 pc = .ok (.ifCond .ne off, 3) ∧ pc + 3 = pc2 ∧ (pc : Int) + off = (tgt : Int)) (kt : ¬ x = 0 → mx_Ok S l G d M tgt lv (st) hs Q) (kf : ¬ (¬ x = 0) → mx_Ok S l G d M pc2 lv (st) hs Q) : mx_Ok S l G d M pc lv (.int x :: st) hs Q := by
  obtain ⟨hd, rfl, ht⟩ := hd
  by_cases hc : ¬ x = 0
  · exact mx_go (fun _ _ _ _ _ _ _ _ _ _ _ _ _ _ _ hF _ _ hl w => lv_if_ne hF.1 hF.2.1 hd ht (fun _ => w) (fun h => absurd h hc)) (kt hc)
  · exact mx_go (fun _ _ _ _ _ _ _ _ _ _ _ _ _ _ _ hF _ _ hl w => lv_if_ne hF.1 hF.2.1 hd ht (fun h => absurd h hc) (fun _ => w)) (kf hc)
theorem mx_icmp_lt {x y : Int32} (hd : decode M.2.1 pc = .ok (.if_icmp .lt off, 3) ∧ pc + 3 = pc2 ∧ (pc : Int) + off = (tgt : Int)) (kt : x < y → mx_Ok S l G d M tgt lv (st) hs Q) (kf : ¬ (x < y) → mx_Ok S l G d M pc2 lv (st) hs Q) : mx_Ok S l G d M pc lv (.int y :: .int x :: st) hs Q := by
  obtain ⟨hd, rfl, ht⟩ := hd
  by_cases hc : x < y
  · exact mx_go (fun _ _ _ _ _ _ _ _ _ _ _ _ _ _ _ hF _ _ hl w => lv_icmp_lt hF.1 hF.2.1 hd ht (fun _ => w) (fun h => absurd hc h)) (kt hc)
  · exact mx_go (fun _ _ _ _ _ _ _ _ _ _ _ _ _ _ _ hF _ _ hl w => lv_icmp_lt hF.1 hF.2.1 hd ht (fun h => absurd h hc) (fun _ => w)) (kf hc)
theorem mx_if_lt {x : Int32} (hd : decode M.2.1 pc = .ok (.ifCond .lt off, 3) ∧ pc + 3 = pc2 ∧ (pc : Int) + off = (tgt : Int)) (kt : x < 0 → mx_Ok S l G d M tgt lv (st) hs Q) (kf : ¬ (x < 0) → mx_Ok S l G d M pc2 lv (st) hs Q) : mx_Ok S l G d M pc lv (.int x :: st) hs Q := by
  obtain ⟨hd, rfl, ht⟩ := hd
  by_cases hc : x < 0
  · exact mx_go (fun _ _ _ _ _ _ _ _ _ _ _ _ _ _ _ hF _ _ hl w => lv_if_lt hF.1 hF.2.1 hd ht (fun _ => w) (fun h => absurd hc h)) (kt hc)
  · exact mx_go (fun _ _ _ _ _ _ _ _ _ _ _ _ _ _ _ hF _ _ hl w => lv_if_lt hF.1 hF.2.1 hd ht (fun h => absurd h hc) (fun _ => w)) (kf hc)
theorem mx_icmp_ge {x y : Int32} (hd : decode M.2.1 pc = .ok (.if_icmp .ge off, 3) ∧ pc + 3 = pc2 ∧ (pc : Int) + off = (tgt : Int)) (kt : y ≤ x → mx_Ok S l G d M tgt lv (st) hs Q) (kf : ¬ (y ≤ x) → mx_Ok S l G d M pc2 lv (st) hs Q) : mx_Ok S l G d M pc lv (.int y :: .int x :: st) hs Q := by
  obtain ⟨hd, rfl, ht⟩ := hd
  by_cases hc : y ≤ x
  · exact mx_go (fun _ _ _ _ _ _ _ _ _ _ _ _ _ _ _ hF _ _ hl w => lv_icmp_ge hF.1 hF.2.1 hd ht (fun _ => w) (fun h => absurd hc h)) (kt hc)
  · exact mx_go (fun _ _ _ _ _ _ _ _ _ _ _ _ _ _ _ hF _ _ hl w => lv_icmp_ge hF.1 hF.2.1 hd ht (fun h => absurd h hc) (fun _ => w)) (kf hc)
theorem mx_if_ge {x : Int32} (hd : decode M.2.1 pc = .ok (.ifCond .ge off, 3) ∧ pc + 3 = pc2 ∧ (pc : Int) + off = (tgt : Int)) (kt : 0 ≤ x → mx_Ok S l G d M tgt lv (st) hs Q) (kf : ¬ (0 ≤ x) → mx_Ok S l G d M pc2 lv (st) hs Q) : mx_Ok S l G d M pc lv (.int x :: st) hs Q := by
  obtain ⟨hd, rfl, ht⟩ := hd
  by_cases hc : 0 ≤ x
  · exact mx_go (fun _ _ _ _ _ _ _ _ _ _ _ _ _ _ _ hF _ _ hl w => lv_if_ge hF.1 hF.2.1 hd ht (fun _ => w) (fun h => absurd hc h)) (kt hc)
  · exact mx_go (fun _ _ _ _ _ _ _ _ _ _ _ _ _ _ _ hF _ _ hl w => lv_if_ge hF.1 hF.2.1 hd ht (fun h => absurd h hc) (fun _ => w)) (kf hc)
theorem mx_icmp_gt {x y : Int32} (hd : decode M.2.1 pc = .ok (.if_icmp .gt off, 3) ∧ pc + 3 = pc2 ∧ (pc : Int) + off = (tgt : Int)) (kt : y < x → mx_Ok S l G d M tgt lv (st) hs Q) (kf : ¬ (y < x) → mx_Ok S l G d M pc2 lv (st) hs Q) : mx_Ok S l G d M pc lv (.int y :: .int x :: st) hs Q := by
  obtain ⟨hd, rfl, ht⟩ := hd
  by_cases hc : y < x
  · exact mx_go (fun _ _ _ _ _ _ _ _ _ _ _ _ _ _ _ hF _ _ hl w => lv_icmp_gt hF.1 hF.2.1 hd ht (fun _ => w) (fun h => absurd hc h)) (kt hc)
  · exact mx_go (fun _ _ _ _ _ _ _ _ _ _ _ _ _ _ _ hF _ _ hl w => lv_icmp_gt hF.1 hF.2.1 hd ht (fun h => absurd h hc) (fun _ => w)) (kf hc)
theorem mx_if_gt {x : Int32} (hd : decode M.2.1 pc = .ok (.ifCond .gt off, 3) ∧ pc + 3 = pc2 ∧ (pc : Int) + off = (tgt : Int)) (kt : 0 < x → mx_Ok S l G d M tgt lv (st) hs Q) (kf : ¬ (0 < x) → mx_Ok S l G d M pc2 lv (st) hs Q) : mx_Ok S l G d M pc lv (.int x :: st) hs Q := by
  obtain ⟨hd, rfl, ht⟩ := hd
  by_cases hc : 0 < x
  · exact mx_go (fun _ _ _ _ _ _ _ _ _ _ _ _ _ _ _ hF _ _ hl w => lv_if_gt hF.1 hF.2.1 hd ht (fun _ => w) (fun h => absurd hc h)) (kt hc)
  · exact mx_go (fun _ _ _ _ _ _ _ _ _ _ _ _ _ _ _ hF _ _ hl w => lv_if_gt hF.1 hF.2.1 hd ht (fun h => absurd h hc) (fun _ => w)) (kf hc)
theorem mx_icmp_le {x y : Int32} (hd : decode M.2.1 pc = .ok (.if_icmp .le off, 3) ∧ pc + 3 = pc2 ∧ (pc : Int) + off = (tgt : Int)) (kt : x ≤ y → mx_Ok S l G d M tgt lv (st) hs Q) (kf : ¬ (x ≤ y) → mx_Ok S l G d M pc2 lv (st) hs Q) : mx_Ok S l G d M pc lv (.int y :: .int x :: st) hs Q := by
  obtain ⟨hd, rfl, ht⟩ := hd
  by_cases hc : x ≤ y
  · exact mx_go (fun _ _ _ _ _ _ _ _ _ _ _ _ _ _ _ hF _ _ hl w => lv_icmp_le hF.1 hF.2.1 hd ht (fun _ => w) (fun h => absurd hc h)) (kt hc)
  · exact mx_go (fun _ _ _ _ _ _ _ _ _ _ _ _ _ _ _ hF _ _ hl w => lv_icmp_le hF.1 hF.2.1 hd ht (fun h => absurd h hc) (fun _ => w)) (kf hc)
theorem mx_if_le {x : Int32} (hd : decode M.2.1 pc = .ok (.ifCond .le off, 3) ∧ pc + 3 = pc2 ∧ (pc : Int) + off = (tgt : Int)) (kt : x ≤ 0 → mx_Ok S l G d M tgt lv (st) hs Q) (kf : ¬ (x ≤ 0) → mx_Ok S l G d M pc2 lv (st) hs Q) : mx_Ok S l G d M pc lv (.int x :: st) hs Q := by
  obtain ⟨hd, rfl, ht⟩ := hd
  by_cases hc : x ≤ 0
  · exact mx_go (fun _ _ _ _ _ _ _ _ _ _ _ _ _ _ _ hF _ _ hl w => lv_if_le hF.1 hF.2.1 hd ht (fun _ => w) (fun h => absurd hc h)) (kt hc)
  · exact mx_go (fun _ _ _ _ _ _ _ _ _ _ _ _ _ _ _ hF _ _ hl w => lv_if_le hF.1 hF.2.1 hd ht (fun h => absurd h hc) (fun _ => w)) (kf hc)
theorem mx_goto (hd : decode M.2.1 pc = .ok (.goto off, 3) ∧ pc + 3 = pc2 ∧ (pc : Int) + off = (tgt : Int)) (k : mx_Ok S l G d M tgt lv (st) hs Q) : mx_Ok S l G d M pc lv (st) hs Q := by
  obtain ⟨hd, -, ht⟩ := hd
  exact mx_go (fun _ _ _ _ _ _ _ _ _ _ _ _ _ _ _ hF _ _ hl w => lv_goto hF.1 hF.2.1 hd ht w) k
theorem mx_ifnull {v : Value} (hd : decode M.2.1 pc = .ok (.ifnull off, 3) ∧ pc + 3 = pc2 ∧ (pc : Int) + off = (tgt : Int)) (hv : v = .null ∨ ∃ x, v = .ref x) (kt : v = .null → mx_Ok S l G d M tgt lv (st) hs Q) (kf : ∀ x, v = .ref x → mx_Ok S l G d M pc2 lv (st) hs Q) : mx_Ok S l G d M pc lv (v :: st) hs Q := by
  obtain ⟨hd, rfl, ht⟩ := hd
  rcases hv with rfl | ⟨x, rfl⟩
  · exact mx_go (fun _ _ _ _ _ _ _ _ _ _ _ _ _ _ _ hF _ _ hl w => lv_ifnullN hF.1 hF.2.1 hd ht w) (kt rfl)
  · exact mx_go (fun _ _ _ _ _ _ _ _ _ _ _ _ _ _ _ hF _ _ hl w => lv_ifnull hF.1 hF.2.1 hd w) (kf x rfl)
theorem mx_ifnonnull {v : Value} (hd : decode M.2.1 pc = .ok (.ifnonnull off, 3) ∧ pc + 3 = pc2 ∧ (pc : Int) + off = (tgt : Int)) (hv : v = .null ∨ ∃ x, v = .ref x) (kt : ∀ x, v = .ref x → mx_Ok S l G d M tgt lv (st) hs Q) (kf : v = .null → mx_Ok S l G d M pc2 lv (st) hs Q) : mx_Ok S l G d M pc lv (v :: st) hs Q := by
  obtain ⟨hd, rfl, ht⟩ := hd
  rcases hv with rfl | ⟨x, rfl⟩
  · exact mx_go (fun _ _ _ _ _ _ _ _ _ _ _ _ _ _ _ hF _ _ hl w => lv_ifnonnullN hF.1 hF.2.1 hd w) (kf rfl)
  · exact mx_go (fun _ _ _ _ _ _ _ _ _ _ _ _ _ _ _ hF _ _ hl w => lv_ifnonnull hF.1 hF.2.1 hd ht w) (kt x rfl)
theorem mx_lookup {dflt o : Int} {ps : Array (Int × Int)} {n : Nat} {x : Int32} (hd : decode M.2.1 pc = .ok (.lookupswitch dflt ps, n)) (hp : (ps.toList.zip (ps.toList.drop 1)).all (fun (a, next) => a.1 < next.1) = true) (ho : Op.lookupswitch.offset ps.toList dflt x.toInt = o) (ht : (pc : Int) + o = (tgt : Int)) (k : mx_Ok S l G d M tgt lv (st) hs Q) : mx_Ok S l G d M pc lv (.int x :: st) hs Q := mx_go (fun _ _ _ _ _ _ _ _ _ _ _ _ _ _ _ hF _ _ hl w => lv_lookup hF.1 hF.2.1 hd hp ho ht w) k
theorem mx_tableOut {dflt lo hi : Int} {offs : Array Int} {n : Nat} {x : Int32} (hd : decode M.2.1 pc = .ok (.tableswitch dflt lo hi offs, n)) (h : x.toInt < lo ∨ hi < x.toInt) (ht : (pc : Int) + dflt = (tgt : Int)) (k : mx_Ok S l G d M tgt lv (st) hs Q) : mx_Ok S l G d M pc lv (.int x :: st) hs Q := mx_go (fun _ _ _ _ _ _ _ _ _ _ _ _ _ _ _ hF _ _ hl w => lv_tableOut hF.1 hF.2.1 hd h ht w) k
theorem mx_tableIn {dflt lo hi o : Int} {offs : Array Int} {n : Nat} {x : Int32} (hd : decode M.2.1 pc = .ok (.tableswitch dflt lo hi offs, n)) (h1 : ¬ x.toInt < lo) (h2 : ¬ hi < x.toInt) (ho : offs[(x.toInt - lo).toNat]? = some o) (ht : (pc : Int) + o = (tgt : Int)) (k : mx_Ok S l G d M tgt lv (st) hs Q) : mx_Ok S l G d M pc lv (.int x :: st) hs Q := mx_go (fun _ _ _ _ _ _ _ _ _ _ _ _ _ _ _ hF _ _ hl w => lv_tableIn hF.1 hF.2.1 hd h1 h2 ho ht w) k
theorem mx_ireturn {v : Int32} {ty : FieldType} (hd : decode M.2.1 pc = .ok (.ireturn, 1)) (hr : M.2.2.2 = some ty) (hn : narrow ty (.int v) = .int v) (k : Q (some (.int v)) hs) : mx_Ok S l G d M pc lv ([.int v]) hs Q := mx_end (Or.inl ⟨v, ty, rfl, hr, hn, hd⟩) rfl k
theorem mx_lreturn {v : Int64} (hd : decode M.2.1 pc = .ok (.lreturn, 1)) (hr : M.2.2.2 = some .long) (k : Q (some (.long v)) hs) : mx_Ok S l G d M pc lv ([.long v]) hs Q := mx_end (Or.inr (Or.inl ⟨v, rfl, hr, hd⟩)) rfl k
theorem mx_return  (hd : decode M.2.1 pc = .ok (.return_, 1)) (hr : M.2.2.2 = none) (k : Q (none) hs) : mx_Ok S l G d M pc lv ([]) hs Q := mx_end (Or.inr (Or.inr (Or.inl ⟨rfl, hr, hd⟩))) rfl k
theorem mx_areturn {v : Value} {ty : FieldType} (hd : decode M.2.1 pc = .ok (.areturn, 1)) (hr : M.2.2.2 = some ty) (ht : (∃ n, ty = .object n) ∨ ∃ t, ty = .array t) (hv : v = .null ∨ ∃ a, v = .ref a) (k : Q (some v) hs) : mx_Ok S l G d M pc lv ([v]) hs Q := mx_end (Or.inr (Or.inr (Or.inr ⟨v, ty, rfl, hr, ht, hv, hd⟩))) rfl k
end MXI
end
section
/-! RULES that read or write the heap. -/
section MXH
variable {S : mx_S} {l : Launch} {G : mx_G} {d pc pc2 : Nat} {M : mx_M} {lv : List (Nat × Value)} {st : List Value} {hs : mx_H} {Q : Option Value → mx_H → Prop} {ix a ci k : Nat} {fs vs : List Value} {q : vw_C} {v : Value} {ty : FieldType} {host : String} {i : Int32}
theorem mx_kin {s : State} (h : mx_K S G s) (hq : S.2.1[ci]? = some q) : ci < 100 := Nat.lt_of_lt_of_le (List.getElem?_eq_some_iff.mp hq).1 h.1.2.2.1
theorem mx_P1 {H : Heap} {s : State} (hK : mx_K S G s) (hR : mx_R S G hs H) (hc : hs.1 a = some (ci, fs)) (hq : S.2.1[ci]? = some q) : va_P (G.1, G.2.1) S.2.1 [(a, .inr (ci, fs))] H := by
  obtain ⟨r, h1, h2, h3⟩ := ((hR.2.1 a _ hc).1).obj (mx_kin hK hq)
  intro k x hx
  have hk : k < 1 := (List.getElem?_eq_some_iff.mp hx).1
  rw [show k = 0 by omega] at hx
  cases hx
  exact ⟨r, h1, h3⟩
theorem mx_K1 {s : State} (hK : mx_K S G s) : va_K (G.1, G.2.1) S.2.1 [] s := ⟨hK.2.1, fun k q h => by simp at h⟩
theorem mx_get (hd : decode M.2.1 pc = .ok (.getfield ix, 3) ∧ pc + 3 = pc2) (hq : S.2.1[ci]? = some q) (hk : k < q.2.2) (hlink : Cond.fieldLink M.1.cls ix (q.2.1 k).1 (q.2.1 k).2.1 (q.2.1 k).2.2.1 ∈ S.1) (hc : hs.1 a = some (ci, fs)) (hv : fs[k]? = some v) (kk : mx_Ok S l G d M pc2 lv (v :: st) hs Q) : mx_Ok S l G d M pc lv (.ref a :: st) hs Q := by
  obtain ⟨hd, rfl⟩ := hd
  exact mx_go (fun _ _ _ _ _ _ _ _ _ _ _ _ _ _ _ hF hK hR hl w => va_get (D := (G.1, G.2.1)) (ci := ci) (v := v) (C := q.1) (T := q.2.1) (N := q.2.2) hF.1 hF.2.1 hF.2.2.2.2.2.2.2 (hK.1.1 ci q hq).1 hF.2.2.2.2.2.1 (mx_K1 hK) (mx_P1 hK hR hc hq) 0 rfl hq k hk (hF.2.2.2.2.2.2.2 _ hlink) (fun _ h9 => h9) hv hd w) kk
theorem mx_getN (hd : decode M.2.1 pc = .ok (.getfield ix, 3) ∧ pc + 3 = pc2) (hq : S.2.1[ci]? = some q) (hk : k < q.2.2) (hlink : Cond.fieldLinkNest M.1.cls ix (q.2.1 k).1 (q.2.1 k).2.1 (q.2.1 k).2.2.1 host ∈ S.2.2.2.1) (hc : hs.1 a = some (ci, fs)) (hv : fs[k]? = some v) (kk : mx_Ok S l G d M pc2 lv (v :: st) hs Q) : mx_Ok S l G d M pc lv (.ref a :: st) hs Q := by
  obtain ⟨hd, rfl⟩ := hd
  exact mx_go (fun _ _ _ _ _ _ _ _ _ _ _ _ _ _ _ hF hK hR hl w => va_getN (D := (G.1, G.2.1)) (ci := ci) (v := v) (C := q.1) (T := q.2.1) (N := q.2.2) (host := host) hF.1 hF.2.1 hF.2.2.2.2.2.2.2 (hK.1.1 ci q hq).1 hF.2.2.2.2.2.1 (mx_K1 hK) (mx_P1 hK hR hc hq) 0 rfl hq k hk (va_Nw.use rfl (hK.2.2.2.1 _ hlink)) (fun _ h9 => h9) hv hd w) kk
/-- a step that changes the cell a, and no other -/
theorem mx_goS {st' : List Value} {x x0 : mx_E} (hc : hs.1 a = some x0) (hx : x0.1 ≠ 101)
    (f : ∀ (p : Program) (e : Env) (R : Room) (s : State) (m : MethodId) (args : Array Value) (below : List Frame) (meth : Method) (c : Code) (H : Heap) (locs : List Loc) (cells slots : Nat) (ls : Array Slot) (Q : State → Prop), mx_Fix S M p s m args meth c → mx_K S G s → mx_R S G hs H → lv_has ls M.2.2.1 lv → 
      (∀ (H1 : Heap) (locs1 : List Loc), mx_cell S G a x H1 → H1.size = H.size → (∀ q : Nat, q ≠ a → H1[q]? = H[q]?) → (∀ y ∈ locs1, y ∈ locs ∨ y.base = a) → W p l e R s m args below meth c H1 locs1 cells slots Q (F0 m pc2 ls st')) → 1 ≤ d → d ≤ R.frames → 48 * d ≤ R.locals → W p l e R s m args below meth c H locs cells slots Q (F0 m pc ls st))
    (hd1 : 1 ≤ d) (kk : mx_Ok S l G d M pc2 lv st' (mx_st hs a x) Q) : mx_Ok S l G d M pc lv st hs Q := by
  obtain ⟨r, fin, ⟨h1, h2, h3⟩, hq⟩ := kk
  refine ⟨r, fin, ⟨h1, h2, fun p e R s m args below meth c H locs cells slots ls Q' hF hK hR hl hlo hd hld hcc hsl kk => ?_⟩, hq⟩
  have hb := (hR.2.1 a _ hc).2 hx
  refine f p e R s m args below meth c H locs cells slots ls Q' hF hK hR hl (fun H1 locs1 e1 e2 e3 e4 => ?_) hd1 hd hld
  exact h3 p e R s m args below meth c H1 locs1 cells slots ls Q' hF hK (hR.st hb e1 e2 e3) hl (fun y hy => by
    rcases e4 y hy with h | h
    · exact hlo y h
    · rw [h]; exact hb) hd hld hcc hsl kk
theorem mx_putC {s : State} {args : Array Value} {H1 : Heap} {cell : Cell} {f : Nat} (hK : mx_K S G s) (hts : ∀ w ∈ S.1, w.before args s = true) (hq : S.2.1[ci]? = some q) (hk : k < q.2.2) (hlen : fs.length = q.2.2) (q2 : cell.cls = G.1 ci) (q3 : cell.vm = .none) (q4 : ∀ j, j < q.2.2 → cell.slots[G.2.1 ci j]? = some (vp_V fs j)) (hf : f = G.2.1 ci k) (e1 : H1[a]? = some (cell.setSlot f v)) : mx_cell S G a (ci, fs.set k v) H1 := by
  subst hf
  have hall : ∀ j, ∃ t, j < q.2.2 → parseFieldDescriptor (q.2.1 j).2.2.1 = some t := fun j => by
    by_cases hj : j < q.2.2
    · obtain ⟨t, ht⟩ := Option.isSome_iff_exists.mp ((hK.1.1 ci q hq).2.2 j hj)
      exact ⟨t, fun _ => ht⟩
    · exact ⟨.int, fun h => absurd h hj⟩
  have hap := va_apart (own := q.1) (N := q.2.2) (T := q.2.1) (C := q.1) hts (hK.1.1 ci q hq).1 (fun j => Classical.choose (hall j)) (fun j hj => Classical.choose_spec (hall j) hj) (hK.1.1 ci q hq).2.1 (mx_K1 hK) hq
  exact mx_cell.ofObj (mx_kin hK hq) hq (by rw [List.length_set]; exact hlen) (t_OB.to (V := updV (vp_V fs) k v) ⟨_, e1, q2, q3, t_set q4 hap hk v⟩ (fun j _ => vp_updV_set (by omega) v j))
theorem mx_put (hd : decode M.2.1 pc = .ok (.putfield ix, 3) ∧ pc + 3 = pc2) (hq : S.2.1[ci]? = some q) (hk : k < q.2.2) (hlink : Cond.fieldLink M.1.cls ix (q.2.1 k).1 (q.2.1 k).2.1 (q.2.1 k).2.2.1 ∈ S.1) (hfin : (q.2.1 k).2.2.2 = false) (hty : parseFieldDescriptor (q.2.1 k).2.2.1 = some ty) (hn : narrow ty v = v) (hfit : fits ty v = true) (hd1 : 1 ≤ d) (hc : hs.1 a = some (ci, fs)) (kk : mx_Ok S l G d M pc2 lv st (mx_st hs a (ci, fs.set k v)) Q) : mx_Ok S l G d M pc lv (v :: .ref a :: st) hs Q := by
  obtain ⟨hd, rfl⟩ := hd
  by_cases hci : ci = 101
  · obtain ⟨r, fin, ⟨h1, h2, h3⟩, hqf⟩ := kk
    refine ⟨r, fin, ⟨h1, h2, fun p e R s m args below meth c H locs cells slots ls Q' hF hK hR hl hlo hd hld hcc hsl kk => ?_⟩, hqf⟩
    have := mx_kin hK hq
    omega
  refine mx_goS hc hci (fun p e R s m args below meth c H locs cells slots ls Q' hF hK hR hl w _ _ _ => ?_) hd1 kk
  have hts := hF.2.2.2.2.2.2.2
  obtain ⟨r, h1, hlen, cell, q1, q2, q3, q4⟩ := ((hR.2.1 a _ hc).1).obj (mx_kin hK hq)
  cases h1.symm.trans hq
  obtain ⟨hS, hfc, kC, hkC, hkind⟩ := hK.2.1 ci _ hq
  obtain ⟨cf, kf, fi, f, hi, hsl⟩ := hS k hk
  have hlay := hts _ ((hK.1.1 ci q hq).1 _ (u_in_lay hk))
  unfold u_lay at hlay
  rw [if_neg (by rw [hfin]; decide)] at hlay
  have hst := (u_facts hfc hkC (u_lays hts (hK.1.1 ci q hq).1 hk) hi).1
  have h6 := u_store hfc hkC hkind hlay hi hty hn hfit
  refine W.putK hF.1 hF.2.1 (f := f) ⟨hF.2.2.2.2.2.1, hts _ hlink, ⟨_, _, _, hi⟩, hst⟩ (by rw [q2]; exact h6) q1 q3 (by rw [hsl]; exact k2_hasslot (q4 k hk)) rfl rfl hd fun H' e1 e2 e3 => ?_
  refine w H' _ (mx_putC hK hts hq hk hlen q2 q3 q4 hsl e1) e2 e3 (fun y hy => ?_)
  rcases List.mem_append.mp hy with h | h
  · exact Or.inl h
  · rw [List.mem_singleton.mp h]; exact Or.inr rfl
theorem mx_putN (hd : decode M.2.1 pc = .ok (.putfield ix, 3) ∧ pc + 3 = pc2) (hq : S.2.1[ci]? = some q) (hk : k < q.2.2) (hlink : Cond.fieldLinkNest M.1.cls ix (q.2.1 k).1 (q.2.1 k).2.1 (q.2.1 k).2.2.1 host ∈ S.2.2.2.1) (hfin : (q.2.1 k).2.2.2 = false) (hty : parseFieldDescriptor (q.2.1 k).2.2.1 = some ty) (hn : narrow ty v = v) (hfit : fits ty v = true) (hd1 : 1 ≤ d) (hc : hs.1 a = some (ci, fs)) (kk : mx_Ok S l G d M pc2 lv st (mx_st hs a (ci, fs.set k v)) Q) : mx_Ok S l G d M pc lv (v :: .ref a :: st) hs Q := by
  obtain ⟨hd, rfl⟩ := hd
  by_cases hci : ci = 101
  · obtain ⟨r, fin, ⟨h1, h2, h3⟩, hqf⟩ := kk
    refine ⟨r, fin, ⟨h1, h2, fun p e R s m args below meth c H locs cells slots ls Q' hF hK hR hl hlo hd hld hcc hsl kk => ?_⟩, hqf⟩
    have := mx_kin hK hq
    omega
  refine mx_goS hc hci (fun p e R s m args below meth c H locs cells slots ls Q' hF hK hR hl w _ _ _ => ?_) hd1 kk
  have hts := hF.2.2.2.2.2.2.2
  obtain ⟨r, h1, hlen, cell, q1, q2, q3, q4⟩ := ((hR.2.1 a _ hc).1).obj (mx_kin hK hq)
  cases h1.symm.trans hq
  obtain ⟨hS, hfc, kC, hkC, hkind⟩ := hK.2.1 ci _ hq
  obtain ⟨cf, kf, fi, f, hi, hsl⟩ := hS k hk
  have hlay := hts _ ((hK.1.1 ci q hq).1 _ (u_in_lay hk))
  unfold u_lay at hlay
  rw [if_neg (by rw [hfin]; decide)] at hlay
  have hst := (u_facts hfc hkC (u_lays hts (hK.1.1 ci q hq).1 hk) hi).1
  have h6 := u_store hfc hkC hkind hlay hi hty hn hfit
  refine va_WputK hF.1 hF.2.1 (f := f) hF.2.2.2.2.2.1 (va_Nw.use rfl (hK.2.2.2.1 _ hlink)) hi hst (by rw [q2]; exact h6) q1 q3 (by rw [hsl]; exact k2_hasslot (q4 k hk)) rfl rfl hd fun H' e1 e2 e3 => ?_
  refine w H' _ (mx_putC hK hts hq hk hlen q2 q3 q4 hsl e1) e2 e3 (fun y hy => ?_)
  rcases List.mem_append.mp hy with h | h
  · exact Or.inl h
  · rw [List.mem_singleton.mp h]; exact Or.inr rfl
/-- a final field, in its own constructor -/
theorem mx_putF (hd : decode M.2.1 pc = .ok (.putfield ix, 3) ∧ pc + 3 = pc2) (hq : S.2.1[ci]? = some q) (hk : k < q.2.2) (hlink : Cond.fieldLink M.1.cls ix (q.2.1 k).1 (q.2.1 k).2.1 (q.2.1 k).2.2.1 ∈ S.1) (hfin : (q.2.1 k).2.2.2 = true) (hin : M.1.name = "<init>") (hdecl : (q.2.1 k).1 = M.1.cls) (hty : parseFieldDescriptor (q.2.1 k).2.2.1 = some ty) (hn : narrow ty v = v) (hfit : fits ty v = true) (hd1 : 1 ≤ d) (hc : hs.1 a = some (ci, fs)) (kk : mx_Ok S l G d M pc2 lv st (mx_st hs a (ci, fs.set k v)) Q) : mx_Ok S l G d M pc lv (v :: .ref a :: st) hs Q := by
  obtain ⟨hd, rfl⟩ := hd
  by_cases hci : ci = 101
  · obtain ⟨r, fin, ⟨h1, h2, h3⟩, hqf⟩ := kk
    refine ⟨r, fin, ⟨h1, h2, fun p e R s m args below meth c H locs cells slots ls Q' hF hK hR hl hlo hd hld hcc hsl kk => ?_⟩, hqf⟩
    have := mx_kin hK hq
    omega
  refine mx_goS hc hci (fun p e R s m args below meth c H locs cells slots ls Q' hF hK hR hl w _ _ _ => ?_) hd1 kk
  have hts := hF.2.2.2.2.2.2.2
  have hown := hF.2.2.2.2.2.1
  obtain ⟨r, h1, hlen, cell, q1, q2, q3, q4⟩ := ((hR.2.1 a _ hc).1).obj (mx_kin hK hq)
  cases h1.symm.trans hq
  obtain ⟨hS, hfc, kC, hkC, hkind⟩ := hK.2.1 ci _ hq
  obtain ⟨cf, kf, fi, f, hi, hsl⟩ := hS k hk
  have hlay := hts _ ((hK.1.1 ci q hq).1 _ (u_in_lay hk))
  unfold u_lay at hlay
  rw [if_pos hfin] at hlay
  have hst := (u_facts hfc hkC (u_lays hts (hK.1.1 ci q hq).1 hk) hi).1
  have hcf : m.cls = cf := by
    obtain ⟨_, _, c', _, _, _, -, -, hf', -, -, -, hown2, -⟩ := Cond.laysFinal_spec hlay
    have e1 : c' = cf := by have := hi.symm.trans hf'; simp at this; exact this.1.symm
    rw [hdecl] at hown2
    rw [← e1]; exact Option.some.inj (hown.symm.trans hown2)
  have h6 := u_fits hfc hkC hkind (Or.inr hlay) hi hty hn hfit
  refine W.putFinK hF.1 hF.2.1 hown (hts _ hlink) hi hst hcf (hF.2.2.2.2.2.2.1.trans hin) (by rw [q2]; exact h6) q1 q3 (by rw [hsl]; exact k2_hasslot (q4 k hk)) rfl rfl hd fun H' e1 e2 e3 => ?_
  refine w H' _ (mx_putC hK hts hq hk hlen q2 q3 q4 hsl e1) e2 e3 (fun y hy => ?_)
  rcases List.mem_append.mp hy with h | h
  · exact Or.inl h
  · rw [List.mem_singleton.mp h]; exact Or.inr rfl
/-- a step that makes a cell of n slots -/
theorem mx_goN {st' : List Value} {x : mx_E} {n : Nat}
    (f : ∀ (p : Program) (e : Env) (R : Room) (s : State) (m : MethodId) (args : Array Value) (below : List Frame) (meth : Method) (c : Code) (H : Heap) (locs : List Loc) (cells slots : Nat) (ls : Array Slot) (Q : State → Prop), mx_Fix S M p s m args meth c → mx_K S G s → mx_R S G hs H → lv_has ls M.2.2.1 lv → cells + 1 ≤ R.cells → slots + n ≤ R.slots → H.size = hs.2.1 →
      (∀ H1 : Heap, mx_cell S G H.size x H1 → H1.size = H.size + 1 → (∀ q : Nat, q < H.size → H1[q]? = H[q]?) → W p l e R s m args below meth c H1 locs (cells + 1) (slots + n) Q (F0 m pc2 ls st')) → W p l e R s m args below meth c H locs cells slots Q (F0 m pc ls st))
    (kk : mx_Ok S l G d M pc2 lv st' (mx_nw hs x n) Q) : mx_Ok S l G d M pc lv st hs Q := by
  obtain ⟨r, fin, ⟨h1, h2, h3⟩, hq⟩ := kk
  have h1' : hs.2.1 + 1 ≤ fin.2.1 := h1
  have h2' : hs.2.2 + n ≤ fin.2.2 := h2
  refine ⟨r, fin, ⟨by omega, by omega, fun p e R s m args below meth c H locs cells slots ls Q' hF hK hR hl hlo hd hld hcc hsl kk => ?_⟩, hq⟩
  refine f p e R s m args below meth c H locs cells slots ls Q' hF hK hR hl (by omega) (by omega) hR.1 (fun H1 e1 e2 e3 => ?_)
  have g1 : cells + 1 + (fin.2.1 - (hs.2.1 + 1)) = cells + (fin.2.1 - hs.2.1) := by omega
  have g2 : slots + n + (fin.2.2 - (hs.2.2 + n)) = slots + (fin.2.2 - hs.2.2) := by omega
  refine h3 p e R s m args below meth c H1 locs (cells + 1) (slots + n) ls Q' hF hK (hR.nw e1 e2 e3) hl hlo hd hld (by show cells + 1 + (fin.2.1 - (hs.2.1 + 1)) ≤ _; rw [g1]; exact hcc) (by show slots + n + (fin.2.2 - (hs.2.2 + n)) ≤ _; rw [g2]; exact hsl) (fun pc' ls' H' locs' r1 r2 r3 => ?_)
  show W p l e R s m args below meth c H' locs' (cells + 1 + (fin.2.1 - (hs.2.1 + 1))) (slots + n + (fin.2.2 - (hs.2.2 + n))) Q' _
  rw [g1, g2]
  exact kk pc' ls' H' locs' r1 r2 r3
theorem mx_new {n : Nat} (hd : decode M.2.1 pc = .ok (.new ix, 3) ∧ pc + 3 = pc2) (hq : S.2.1[ci]? = some q) (hcl : Cond.classLink M.1.cls ix q.1 ∈ S.1) (hins : Cond.instantiable q.1 q.2.2 ∈ S.1) (hini : Cond.initialized q.1 ∈ S.1) (hnn : q.2.2 = n) (hlen : fs.length = q.2.2) (hdf : ∀ j, j < q.2.2 → (parseFieldDescriptor (q.2.1 j).2.2.1).map defaultValue = fs[j]?) (kk : mx_Ok S l G d M pc2 lv (.ref hs.2.1 :: st) (mx_nw hs (ci, fs) n) Q) : mx_Ok S l G d M pc lv st hs Q := by
  obtain ⟨hd, rfl⟩ := hd
  subst hnn
  refine mx_goN (fun p e R s m args below meth c H locs cells slots ls Q' hF hK hR hl hc1 hs1 hz w => ?_) kk
  have hts := hF.2.2.2.2.2.2.2
  have hKn := hK.2.1 ci _ hq
  have hall : ∀ j, ∃ t, j < q.2.2 → parseFieldDescriptor (q.2.1 j).2.2.1 = some t := fun j => by
    by_cases hj : j < q.2.2
    · obtain ⟨t, ht⟩ := Option.isSome_iff_exists.mp ((hK.1.1 ci q hq).2.2 j hj)
      exact ⟨t, fun _ => ht⟩
    · exact ⟨.int, fun h => absurd h hj⟩
  refine W.newcK hF.1 hF.2.1 hF.2.2.2.2.2.1 (hts _ hcl) (hts _ hins) (hts _ hini) rfl hd hc1 hs1 hKn.2.1 hz fun H1 kC hkC e1 z1 o1 => ?_
  rw [← hz] at e1 z1 o1 w ⊢
  refine w H1 (mx_cell.ofObj (mx_kin hK hq) hq hlen ?_) z1 o1
  refine (u_born (fun j => Classical.choose (hall j)) hts (hK.1.1 ci q hq).1 hKn hkC e1 (fun j hj => Classical.choose_spec (hall j) hj)).to (fun j hj => ?_)
  have h9 := hdf j hj
  rw [Classical.choose_spec (hall j) hj] at h9
  simp only [vp_V, List.getD_eq_getElem?_getD, ← h9, Option.map_some, Option.getD_some]
theorem mx_newa {atype : ArrayType} {n : Int32} {N : Nat} {dv : Value} (hd : decode M.2.1 pc = .ok (.newarray atype, 2) ∧ pc + 2 = pc2) (hk : S.2.2.1 k = some ty) (hty : newarray.typeOf atype = ty) (hdv : defaultValue ty = dv) (hk1 : k ≠ 101) (harr : Cond.arrayClass ty ∈ S.1) (hn : ¬ n < 0) (hN : n.toNatClampNeg = N) (hby : N * componentBytes ty ≤ 536870912) (kk : mx_Ok S l G d M pc2 lv (.ref hs.2.1 :: st) (mx_nw hs (k, List.replicate N dv) N) Q) : mx_Ok S l G d M pc lv (.int n :: st) hs Q := by
  obtain ⟨hd, rfl⟩ := hd
  subst hdv
  subst hty
  subst hN
  refine mx_goN (fun p e R s m args below meth c H locs cells slots ls Q' hF hK hR hl hc1 hs1 hz w => ?_) kk
  have hts := hF.2.2.2.2.2.2.2
  refine W.newa hF.1 hF.2.1 (hts _ harr) rfl hd rfl hn hby hc1 hs1 fun cA kA comp h1 h2 h3 => ?_
  obtain ⟨kA', comp', g1, g2, g3, -⟩ := hK.2.2.1 k _ hk
  have hcA : cA = G.2.2.1 k := Option.some.inj (h1.symm.trans (g3 hk1))
  subst hcA
  rw [← hz] at w
  refine w _ (mx_cell.ofArr (hK.1.2.2.2.2 k _ hk) (cell := { cls := G.2.2.1 k, slots := Array.replicate n.toNatClampNeg (defaultValue (newarray.typeOf atype)), vm := .none }) (by simp) rfl (fun h => by cases h) (fun _ h => by cases h) (by simp)) (by simp) (fun y hy => ?_)
  rw [Array.getElem?_push, if_neg (Nat.ne_of_lt hy)]
theorem mx_anewa {C : String} {n : Int32} {N : Nat} (hd : decode M.2.1 pc = .ok (.anewarray ix, 3) ∧ pc + 3 = pc2) (hk : S.2.2.1 k = some (.object C)) (hk1 : k ≠ 101) (hcl : Cond.classLink M.1.cls ix C ∈ S.1) (hao : C ∈ S.2.2.2.2) (hn : ¬ n < 0) (hN : n.toNatClampNeg = N) (hby : N * 4 ≤ 536870912) (kk : mx_Ok S l G d M pc2 lv (.ref hs.2.1 :: st) (mx_nw hs (k, List.replicate N .null) N) Q) : mx_Ok S l G d M pc lv (.int n :: st) hs Q := by
  obtain ⟨hd, rfl⟩ := hd
  subst hN
  refine mx_goN (fun p e R s m args below meth c H locs cells slots ls Q' hF hK hR hl hc1 hs1 hz w => ?_) kk
  have hts := hF.2.2.2.2.2.2.2
  refine W.anew hF.1 hF.2.1 hF.2.2.2.2.2.1 (hts _ hcl) (va_AO.use (hK.2.2.2.2 C hao)) rfl hd rfl hn hby hc1 hs1 fun cA kA comp h1 h2 h3 h4 => ?_
  obtain ⟨kA', comp', g1, g2, g3, -⟩ := hK.2.2.1 k _ hk
  have hcA : cA = G.2.2.1 k := Option.some.inj (h1.symm.trans (g3 hk1))
  subst hcA
  rw [← hz] at w
  refine w _ (mx_cell.ofArr (hK.1.2.2.2.2 k _ hk) (cell := { cls := G.2.2.1 k, slots := Array.replicate n.toNatClampNeg .null, vm := .none }) (by simp) rfl (fun h => by cases h) (fun _ h => by cases h) (by simp)) (by simp) (fun y hy => ?_)
  rw [Array.getElem?_push, if_neg (Nat.ne_of_lt hy)]
theorem mx_alen (hd : decode M.2.1 pc = .ok (.arraylength, 1) ∧ pc + 1 = pc2) (hk : S.2.2.1 k = some ty) (hc : hs.1 a = some (k, vs)) (kk : mx_Ok S l G d M pc2 lv (.int (Int32.ofNat vs.length) :: st) hs Q) : mx_Ok S l G d M pc lv (.ref a :: st) hs Q := by
  obtain ⟨hd, rfl⟩ := hd
  refine mx_go (fun p e R s m args below meth c H locs cells slots ls Q' hF hK hR hl w => ?_) kk
  obtain ⟨cell, e1, e2, e3, e4, e5⟩ := ((hR.2.1 a _ hc).1).arr (hK.1.2.2.2.2 k _ hk)
  exact W.alen (n := Int32.ofNat vs.length) hF.1 hF.2.1 e1 ((hK.2.2.1 k _ hk).arr e2 e4) (by rw [e5]; simp) rfl rfl hd w
theorem mx_iald (hd : decode M.2.1 pc = .ok (.iaload, 1) ∧ pc + 1 = pc2) (hk : S.2.2.1 k = some .int) (hc : hs.1 a = some (k, vs)) (hi : ¬ i < 0) (hv : vs[i.toNatClampNeg]? = some v) (kk : mx_Ok S l G d M pc2 lv (v :: st) hs Q) : mx_Ok S l G d M pc lv (.int i :: .ref a :: st) hs Q := by
  obtain ⟨hd, rfl⟩ := hd
  refine mx_go (fun p e R s m args below meth c H locs cells slots ls Q' hF hK hR hl w => ?_) kk
  obtain ⟨cell, e1, e2, e3, e4, e5⟩ := ((hR.2.1 a _ hc).1).arr (hK.1.2.2.2.2 k _ hk)
  have hlt : i.toNatClampNeg < vs.length := (List.getElem?_eq_some_iff.mp hv).1
  exact W.iald (v := v) hF.1 hF.2.1 e1 ((hK.2.2.1 k _ hk).arr e2 e4) e3 (by rw [e5]; simp only [List.size_toArray]; exact fun h => h.elim hi (by omega)) (by rw [e5]; simp only [List.getElem?_toArray]; exact hv) rfl rfl hd w
theorem mx_lald (hd : decode M.2.1 pc = .ok (.laload, 1) ∧ pc + 1 = pc2) (hk : S.2.2.1 k = some .long) (hc : hs.1 a = some (k, vs)) (hi : ¬ i < 0) (hv : vs[i.toNatClampNeg]? = some v) (kk : mx_Ok S l G d M pc2 lv (v :: st) hs Q) : mx_Ok S l G d M pc lv (.int i :: .ref a :: st) hs Q := by
  obtain ⟨hd, rfl⟩ := hd
  refine mx_go (fun p e R s m args below meth c H locs cells slots ls Q' hF hK hR hl w => ?_) kk
  obtain ⟨cell, e1, e2, e3, e4, e5⟩ := ((hR.2.1 a _ hc).1).arr (hK.1.2.2.2.2 k _ hk)
  have hlt : i.toNatClampNeg < vs.length := (List.getElem?_eq_some_iff.mp hv).1
  exact W.lald (v := v) hF.1 hF.2.1 e1 ((hK.2.2.1 k _ hk).arr e2 e4) e3 (by rw [e5]; simp only [List.size_toArray]; exact fun h => h.elim hi (by omega)) (by rw [e5]; simp only [List.getElem?_toArray]; exact hv) rfl rfl hd w
theorem mx_zald (hd : decode M.2.1 pc = .ok (.baload, 1) ∧ pc + 1 = pc2) (hk : S.2.2.1 k = some .boolean) (hc : hs.1 a = some (k, vs)) (hi : ¬ i < 0) (hv : vs[i.toNatClampNeg]? = some v) (kk : mx_Ok S l G d M pc2 lv (v :: st) hs Q) : mx_Ok S l G d M pc lv (.int i :: .ref a :: st) hs Q := by
  obtain ⟨hd, rfl⟩ := hd
  refine mx_go (fun p e R s m args below meth c H locs cells slots ls Q' hF hK hR hl w => ?_) kk
  obtain ⟨cell, e1, e2, e3, e4, e5⟩ := ((hR.2.1 a _ hc).1).arr (hK.1.2.2.2.2 k _ hk)
  have hlt : i.toNatClampNeg < vs.length := (List.getElem?_eq_some_iff.mp hv).1
  exact W.zald (v := v) hF.1 hF.2.1 e1 ((hK.2.2.1 k _ hk).arr e2 e4) e3 (by rw [e5]; simp only [List.size_toArray]; exact fun h => h.elim hi (by omega)) (by rw [e5]; simp only [List.getElem?_toArray]; exact hv) rfl rfl hd w
theorem mx_cald (hd : decode M.2.1 pc = .ok (.caload, 1) ∧ pc + 1 = pc2) (hk : S.2.2.1 k = some .char) (hc : hs.1 a = some (k, vs)) (hi : ¬ i < 0) (hv : vs[i.toNatClampNeg]? = some v) (kk : mx_Ok S l G d M pc2 lv (v :: st) hs Q) : mx_Ok S l G d M pc lv (.int i :: .ref a :: st) hs Q := by
  obtain ⟨hd, rfl⟩ := hd
  refine mx_go (fun p e R s m args below meth c H locs cells slots ls Q' hF hK hR hl w => ?_) kk
  obtain ⟨cell, e1, e2, e3, e4, e5⟩ := ((hR.2.1 a _ hc).1).arr (hK.1.2.2.2.2 k _ hk)
  have hlt : i.toNatClampNeg < vs.length := (List.getElem?_eq_some_iff.mp hv).1
  exact W.cald (v := v) hF.1 hF.2.1 e1 ((hK.2.2.1 k _ hk).arr e2 e4) e3 (by rw [e5]; simp only [List.size_toArray]; exact fun h => h.elim hi (by omega)) (by rw [e5]; simp only [List.getElem?_toArray]; exact hv) rfl rfl hd w
theorem mx_bald (hd : decode M.2.1 pc = .ok (.baload, 1) ∧ pc + 1 = pc2) (hk : S.2.2.1 k = some .byte) (hc : hs.1 a = some (k, vs)) (hi : ¬ i < 0) (hv : vs[i.toNatClampNeg]? = some v) (kk : mx_Ok S l G d M pc2 lv (v :: st) hs Q) : mx_Ok S l G d M pc lv (.int i :: .ref a :: st) hs Q := by
  obtain ⟨hd, rfl⟩ := hd
  refine mx_go (fun p e R s m args below meth c H locs cells slots ls Q' hF hK hR hl w => ?_) kk
  obtain ⟨cell, e1, e2, e3, e4, e5⟩ := ((hR.2.1 a _ hc).1).arr (hK.1.2.2.2.2 k _ hk)
  have hlt : i.toNatClampNeg < vs.length := (List.getElem?_eq_some_iff.mp hv).1
  exact W.bald (v := v) hF.1 hF.2.1 e1 ((hK.2.2.1 k _ hk).arr e2 e4) e3 (by rw [e5]; simp only [List.size_toArray]; exact fun h => h.elim hi (by omega)) (by rw [e5]; simp only [List.getElem?_toArray]; exact hv) rfl rfl hd w
theorem mx_aald {C : String} (hd : decode M.2.1 pc = .ok (.aaload, 1) ∧ pc + 1 = pc2) (hk : S.2.2.1 k = some (.object C)) (hc : hs.1 a = some (k, vs)) (hi : ¬ i < 0) (hv : vs[i.toNatClampNeg]? = some v) (kk : mx_Ok S l G d M pc2 lv (v :: st) hs Q) : mx_Ok S l G d M pc lv (.int i :: .ref a :: st) hs Q := by
  obtain ⟨hd, rfl⟩ := hd
  refine mx_go (fun p e R s m args below meth c H locs cells slots ls Q' hF hK hR hl w => ?_) kk
  obtain ⟨cell, e1, e2, e3, e4, e5⟩ := ((hR.2.1 a _ hc).1).arr (hK.1.2.2.2.2 k _ hk)
  have hlt : i.toNatClampNeg < vs.length := (List.getElem?_eq_some_iff.mp hv).1
  exact W.aald (v := v) (ty := .object C) hF.1 hF.2.1 e1 ((hK.2.2.1 k _ hk).arr e2 e4) rfl e3 (by rw [e5]; simp only [List.size_toArray]; exact fun h => h.elim hi (by omega)) (by rw [e5]; simp only [List.getElem?_toArray]; exact hv) rfl rfl hd w
theorem mx_setA {H1 : Heap} {cell : Cell} {j : Nat} (hk : ¬ k < 100) (e2 : cell.cls = G.2.2.1 k) (e3 : cell.vm ≠ .unknown) (e4 : ∀ k, cell.vm ≠ .statics k) (e5 : cell.slots = vs.toArray) (e : H1[a]? = some (cell.setSlot j v)) : mx_cell S G a (k, vs.set j v) H1 := by
  refine mx_cell.ofArr hk e e2 e3 e4 ?_
  show cell.slots.setIfInBounds j v = _
  rw [e5]
  simp
theorem mx_iast {x : Int32} (hd : decode M.2.1 pc = .ok (.iastore, 1) ∧ pc + 1 = pc2) (hk : S.2.2.1 k = some .int) (hk1 : k ≠ 101) (hd1 : 1 ≤ d) (hc : hs.1 a = some (k, vs)) (hi : ¬ i < 0) (hlt : i.toNatClampNeg < vs.length) (kk : mx_Ok S l G d M pc2 lv st (mx_st hs a (k, vs.set i.toNatClampNeg (.int x))) Q) : mx_Ok S l G d M pc lv (.int x :: .int i :: .ref a :: st) hs Q := by
  obtain ⟨hd, rfl⟩ := hd
  refine mx_goS hc hk1 (fun p e R s m args below meth c H locs cells slots ls Q' hF hK hR hl w _ _ _ => ?_) hd1 kk
  obtain ⟨cell, e1, e2, e3, e4, e5⟩ := ((hR.2.1 a _ hc).1).arr (hK.1.2.2.2.2 k _ hk)
  refine W.iast hF.1 hF.2.1 e1 ((hK.2.2.1 k _ hk).arr e2 e4) e3 (by rw [e5]; simp only [List.size_toArray]; exact fun h => h.elim hi (by omega)) rfl rfl hd fun H1 e z oq => ?_
  refine w H1 _ (mx_setA (hK.1.2.2.2.2 k _ hk) e2 e3 e4 e5 e) z oq (fun y hy => ?_)
  rcases List.mem_append.mp hy with h | h
  · exact Or.inl h
  · rw [List.mem_singleton.mp h]; exact Or.inr rfl
theorem mx_zast {x : Int32} (hd : decode M.2.1 pc = .ok (.bastore, 1) ∧ pc + 1 = pc2) (hk : S.2.2.1 k = some .boolean) (hk1 : k ≠ 101) (hd1 : 1 ≤ d) (hx : x = 0 ∨ x = 1) (hc : hs.1 a = some (k, vs)) (hi : ¬ i < 0) (hlt : i.toNatClampNeg < vs.length) (kk : mx_Ok S l G d M pc2 lv st (mx_st hs a (k, vs.set i.toNatClampNeg (.int x))) Q) : mx_Ok S l G d M pc lv (.int x :: .int i :: .ref a :: st) hs Q := by
  obtain ⟨hd, rfl⟩ := hd
  have hnx : narrow .boolean (.int x) = .int x := by rcases hx with rfl | rfl <;> rfl
  refine mx_goS hc hk1 (fun p e R s m args below meth c H locs cells slots ls Q' hF hK hR hl w _ _ _ => ?_) hd1 kk
  obtain ⟨cell, e1, e2, e3, e4, e5⟩ := ((hR.2.1 a _ hc).1).arr (hK.1.2.2.2.2 k _ hk)
  refine W.zast hF.1 hF.2.1 e1 ((hK.2.2.1 k _ hk).arr e2 e4) e3 (by rw [e5]; simp only [List.size_toArray]; exact fun h => h.elim hi (by omega)) rfl rfl hd fun H1 e z oq => ?_
  rw [hnx] at e
  refine w H1 _ (mx_setA (hK.1.2.2.2.2 k _ hk) e2 e3 e4 e5 e) z oq (fun y hy => ?_)
  rcases List.mem_append.mp hy with h | h
  · exact Or.inl h
  · rw [List.mem_singleton.mp h]; exact Or.inr rfl
theorem mx_last {x : Int64} (hd : decode M.2.1 pc = .ok (.lastore, 1) ∧ pc + 1 = pc2) (hk : S.2.2.1 k = some .long) (hk1 : k ≠ 101) (hd1 : 1 ≤ d) (hc : hs.1 a = some (k, vs)) (hi : ¬ i < 0) (hlt : i.toNatClampNeg < vs.length) (kk : mx_Ok S l G d M pc2 lv st (mx_st hs a (k, vs.set i.toNatClampNeg (.long x))) Q) : mx_Ok S l G d M pc lv (.long x :: .int i :: .ref a :: st) hs Q := by
  obtain ⟨hd, rfl⟩ := hd
  refine mx_goS hc hk1 (fun p e R s m args below meth c H locs cells slots ls Q' hF hK hR hl w _ _ _ => ?_) hd1 kk
  obtain ⟨cell, e1, e2, e3, e4, e5⟩ := ((hR.2.1 a _ hc).1).arr (hK.1.2.2.2.2 k _ hk)
  refine W.last hF.1 hF.2.1 e1 ((hK.2.2.1 k _ hk).arr e2 e4) e3 (by rw [e5]; simp only [List.size_toArray]; exact fun h => h.elim hi (by omega)) rfl rfl hd fun H1 e z oq => ?_
  refine w H1 _ (mx_setA (hK.1.2.2.2.2 k _ hk) e2 e3 e4 e5 e) z oq (fun y hy => ?_)
  rcases List.mem_append.mp hy with h | h
  · exact Or.inl h
  · rw [List.mem_singleton.mp h]; exact Or.inr rfl
theorem mx_aastR {b : Nat} (hd : decode M.2.1 pc = .ok (.aastore, 1) ∧ pc + 1 = pc2) (hq : S.2.1[ci]? = some q) (hk : S.2.2.1 k = some (.object q.1)) (hk1 : k ≠ 101) (hd1 : 1 ≤ d) (hc : hs.1 a = some (k, vs)) (hi : ¬ i < 0) (hlt : i.toNatClampNeg < vs.length) (hb : hs.1 b = some (ci, fs)) (kk : mx_Ok S l G d M pc2 lv st (mx_st hs a (k, vs.set i.toNatClampNeg (.ref b))) Q) : mx_Ok S l G d M pc lv (.ref b :: .int i :: .ref a :: st) hs Q := by
  obtain ⟨hd, rfl⟩ := hd
  refine mx_goS hc hk1 (fun p e R s m args below meth c H locs cells slots ls Q' hF hK hR hl w _ _ _ => ?_) hd1 kk
  obtain ⟨cell, e1, e2, e3, e4, e5⟩ := ((hR.2.1 a _ hc).1).arr (hK.1.2.2.2.2 k _ hk)
  obtain ⟨r', hr', -, cellV, g1, g2, g3, -⟩ := ((hR.2.1 b _ hb).1).obj (mx_kin hK hq)
  have hcls := (hK.2.1 ci q hq).2
  obtain ⟨kA, comp, k1, k2, -, k3⟩ := hK.2.2.1 k _ hk
  have hcomp : comp = G.1 ci := Option.some.inj ((k3 _ rfl).symm.trans hcls.1)
  subst hcomp
  obtain ⟨kC, hkC, -⟩ := hcls.2
  refine W.aast hF.1 hF.2.1 e1 e4 e3 (by rw [e2]; exact k1) k2 rfl hkC ⟨hi, by rw [e5]; simp only [List.size_toArray]; exact hlt⟩ g1 (fun q h => by rw [g3] at h; cases h) (by rw [g2]; exact hkC) (by rw [g2]; exact va_assign hcls) rfl rfl hd fun H1 e z oq => ?_
  refine w H1 _ (mx_setA (hK.1.2.2.2.2 k _ hk) e2 e3 e4 e5 e) z oq (fun y hy => ?_)
  rcases List.mem_append.mp hy with h | h
  · exact Or.inl h
  · rw [List.mem_singleton.mp h]; exact Or.inr rfl
theorem mx_mmax {x y : Int32} (hd : decode M.2.1 pc = .ok (.invokestatic ix, 3) ∧ pc + 3 = pc2) (hlink : Cond.methodLink M.1.cls ix Lib.Math.max.name ∈ S.1) (hstat : Cond.static Lib.Math.max.name ∈ S.1) (hini : Cond.initialized "java/lang/Math" ∈ S.1) (hcode : Cond.code Lib.Math.max.name Lib.Math.max.code 2 (some .int) ∈ S.1) (hrest : (st.map fun v => v.category).sum ≤ 8) (kk : mx_Ok S l G (d + 1) M pc2 lv (.int (if x < y then y else x) :: st) hs Q) : mx_Ok S l G (d + 1) M pc lv (.int y :: .int x :: st) hs Q := by
  obtain ⟨hd, rfl⟩ := hd
  obtain ⟨r, fin, ⟨h1, h2, h3⟩, hq⟩ := kk
  refine ⟨r, fin, ⟨h1, h2, fun p e R s m args below meth c H locs cells slots ls Q' hF hK hR hl hlo hd' hld hcc hsl kk => ?_⟩, hq⟩
  have hts := hF.2.2.2.2.2.2.2
  exact va_mmax hF.1 hF.2.1 (hF.2.2.1.trans hl.1.symm) hF.2.2.2.2.2.1 (hts _ hlink) (hts _ hstat) (hts _ hini) (hts _ hcode) (by omega) (by omega) (by omega) (by omega) hd (h3 p e R s m args below meth c H locs cells slots ls Q' hF hK hR hl hlo hd' hld hcc hsl kk)
theorem mx_objInit (hd : decode M.2.1 pc = .ok (.invokespecial ix, 3) ∧ pc + 3 = pc2) (hlink : Cond.methodLink M.1.cls ix objectInit ∈ S.1) (hins : Cond.instanceMethod objectInit ∈ S.1) (hcode : Cond.code objectInit ⟨#[0xb1]⟩ 1 none ∈ S.1) (hrest : (st.map fun v => v.category).sum ≤ 8) (kk : mx_Ok S l G (d + 1) M pc2 lv st hs Q) : mx_Ok S l G (d + 1) M pc lv (.ref a :: st) hs Q := by
  obtain ⟨hd, rfl⟩ := hd
  obtain ⟨r, fin, ⟨h1, h2, h3⟩, hq⟩ := kk
  refine ⟨r, fin, ⟨h1, h2, fun p e R s m args below meth c H locs cells slots ls Q' hF hK hR hl hlo hd' hld hcc hsl kk => ?_⟩, hq⟩
  have hts := hF.2.2.2.2.2.2.2
  refine W.objInit hF.1 hF.2.1 hF.2.2.2.2.2.1 (hts _ hlink) (hts _ hins) (hts _ hcode) rfl (hl.1.trans hF.2.2.1.symm) rfl hd (by omega) (by show 2 * 0 + _ + 12 ≤ _; omega) ?_
  exact h3 p e R s m args below meth c H locs cells slots ls Q' hF hK hR hl hlo hd' hld hcc hsl kk
def mx_f (hs : mx_H) (a ci k : Nat) (v : Value) : Prop := ∃ fs : List Value, hs.1 a = some (ci, fs) ∧ fs[k]? = some v
theorem mx_nz {x : Int32} (h : x = 0 ∨ x = 1) : narrow .boolean (.int x) = .int x := by rcases h with rfl | rfl <;> rfl
theorem mx_fz {x : Int32} (h : x = 0 ∨ x = 1) : fits .boolean (.int x) = true := by rcases h with rfl | rfl <;> rfl
theorem mx_na {C : String} (h : v = .null ∨ ∃ x, v = .ref x) : narrow (.object C) v = v := by rcases h with rfl | ⟨x, rfl⟩ <;> rfl
theorem mx_fa {C : String} (h : v = .null ∨ ∃ x, v = .ref x) : fits (.object C) v = true := by rcases h with rfl | ⟨x, rfl⟩ <;> rfl
end MXH
end
section
/-! System.arraycopy of numbers -/
def mx_cpy (src dst : List Value) (sp dp n : Nat) : List Value := dst.take dp ++ ((src.drop sp).take n ++ dst.drop (dp + n))
theorem mx_cpy_get {src dst : List Value} {sp dp n : Nat} (h1 : sp + n ≤ src.length) (h2 : dp + n ≤ dst.length) (j : Nat) : (mx_cpy src dst sp dp n)[j]? = if dp ≤ j ∧ j < dp + n then src[sp + (j - dp)]? else dst[j]? := by
  unfold mx_cpy
  have l1 : (dst.take dp).length = dp := by rw [List.length_take]; omega
  have l2 : ((src.drop sp).take n).length = n := by rw [List.length_take, List.length_drop]; omega
  by_cases ha : j < dp
  · rw [if_neg (by omega), List.getElem?_append_left (by omega), List.getElem?_take, if_pos ha]
  · rw [List.getElem?_append_right (by omega), l1]
    by_cases hb : j < dp + n
    · rw [if_pos (by omega), List.getElem?_append_left (by omega), List.getElem?_take, if_pos (by omega), List.getElem?_drop]
    · rw [if_neg (by omega), List.getElem?_append_right (by omega), l2, List.getElem?_drop]
      congr 1
      omega
theorem mx_cpy_len {src dst : List Value} {sp dp n : Nat} (h1 : sp + n ≤ src.length) (h2 : dp + n ≤ dst.length) : (mx_cpy src dst sp dp n).length = dst.length := by
  unfold mx_cpy
  rw [List.length_append, List.length_append, List.length_take, List.length_take, List.length_drop, List.length_drop]
  omega
theorem mx_copied {cs cd : Cell} {vs0 vs1 : List Value} {sp dp n : Nat} (e0 : cs.slots = vs0.toArray) (e1 : cd.slots = vs1.toArray) (h1 : sp + n ≤ vs0.length) (h2 : dp + n ≤ vs1.length) : (cd.storeRun dp (cs.stretch sp n)).slots = (mx_cpy vs0 vs1 sp dp n).toArray := by
  have hl : (cs.stretch sp n).length = n := by unfold Cell.stretch; simp
  have hsz : cd.slots.size = vs1.length := by rw [e1]; simp
  apply Array.ext_getElem?
  intro j
  rw [Cell.storeRun_get _ _ _ _ (by rw [hl, hsz]; exact h2), hl, show (mx_cpy vs0 vs1 sp dp n).toArray[j]? = (mx_cpy vs0 vs1 sp dp n)[j]? by simp, mx_cpy_get h1 h2]
  by_cases hj : dp ≤ j ∧ j < dp + n
  · rw [if_pos hj, if_pos hj]
    unfold Cell.stretch
    rw [List.getElem?_map, List.getElem?_range (by omega)]
    simp only [Option.map_some]
    rw [e0]
    have hlt : sp + (j - dp) < vs0.length := by omega
    simp [Array.getD, hlt]
  · rw [if_neg hj, if_neg hj, e1, List.getElem?_toArray]
theorem mx_copy {S : mx_S} {l : Launch} {G : mx_G} {d pc pc2 : Nat} {M : mx_M} {lv : List (Nat × Value)} {st : List Value} {hs : mx_H} {Q : Option Value → mx_H → Prop} {ix a0 a1 k0 k1 N SP DP : Nat} {vs0 vs1 : List Value} {ty : FieldType} {sp dp n : Int32}
    (hd : decode M.2.1 pc = .ok (.invokestatic ix, 3) ∧ pc + 3 = pc2) (hlink : Cond.methodLink M.1.cls ix arraycopyName ∈ S.1) (hnat : Cond.native arraycopyName ∈ S.1) (hstat : Cond.static arraycopyName ∈ S.1) (hini : Cond.initialized "java/lang/System" ∈ S.1) (hk0 : S.2.2.1 k0 = some ty) (hk1 : S.2.2.1 k1 = some ty) (hprim : refKind ty = false) (hk : k1 ≠ 101) (hrest : (st.map fun v => v.category).sum ≤ 8)
    (hc0 : hs.1 a0 = some (k0, vs0)) (hc1 : hs.1 a1 = some (k1, vs1)) (hsp : ¬ sp < 0) (hdp : ¬ dp < 0) (hn : ¬ n < 0) (eS : sp.toNatClampNeg = SP) (eD : dp.toNatClampNeg = DP) (eN : n.toNatClampNeg = N) (h1 : SP + N ≤ vs0.length) (h2 : DP + N ≤ vs1.length) (hfit : ∀ v ∈ vs0, fits ty v = true ∧ ∀ x, v ≠ .ref x)
    (kk : mx_Ok S l G (d + 1) M pc2 lv st (mx_st hs a1 (k1, mx_cpy vs0 vs1 SP DP N)) Q) : mx_Ok S l G (d + 1) M pc lv (.int n :: .int dp :: .ref a1 :: .int sp :: .ref a0 :: st) hs Q := by
  obtain ⟨hd, rfl⟩ := hd
  subst eS
  subst eD
  subst eN
  have nn : ∀ z : Int32, ¬ z < 0 → z.toInt = (z.toNatClampNeg : Int) := by
    intro z hz
    have hz0 : (0 : Int) ≤ z.toInt := by
      have := Int32.not_lt.mp hz
      simpa using Int32.le_iff_toInt_le.mp this
    show z.toInt = ((z.toInt.toNat : Nat) : Int)
    omega
  refine mx_goS hc1 hk (fun p e R s m args below meth c H locs cells slots ls Q' hF hK hR hl w _ hfr hlo => ?_) (by omega) kk
  have hts := hF.2.2.2.2.2.2.2
  obtain ⟨cs, e1, e2, e3, e4, e5⟩ := ((hR.2.1 a0 _ hc0).1).arr (hK.1.2.2.2.2 k0 _ hk0)
  obtain ⟨cd, f1, f2, f3, f4, f5⟩ := ((hR.2.1 a1 _ hc1).1).arr (hK.1.2.2.2.2 k1 _ hk1)
  obtain ⟨ks, sc, g1, g2, -⟩ := hK.2.2.1 k0 _ hk0
  obtain ⟨kd, dc, g3, g4, -⟩ := hK.2.2.1 k1 _ hk1
  intro T hT X
  obtain ⟨vm', X', step⟩ := X.arraycopy hF.1 hF.2.2.2.2.2.1 (hts _ hlink) (hts _ hnat) (hts _ hstat) (hts _ hini) (src := a0) (dst := a1) (cs := cs) (cd := cd) (srcPos := sp) (destPos := dp) (n := n) (by rw [hT]; exact e1) (by rw [hT]; exact f1) e4 f4 e3 f3 (by rw [e2]; exact g1) (by rw [f2]; exact g3) g2 g4 (by simp [hprim]) hsp hdp hn
    (by rw [nn sp hsp, nn n hn, e5]; simp only [List.size_toArray]; omega) (by rw [nn dp hdp, nn n hn, f5]; simp only [List.size_toArray]; omega)
    (fun vm₁ _ i hi => by
      have hlt : sp.toNatClampNeg + i < vs0.length := by omega
      have ev : cs.slots.getD (sp.toNatClampNeg + i) .null = vs0[sp.toNatClampNeg + i] := by rw [e5]; simp [Array.getD, hlt]
      rw [ev]
      obtain ⟨t1, t2⟩ := hfit _ (List.getElem_mem hlt)
      refine ⟨t1, ?_⟩
      generalize vs0[sp.toNatClampNeg + i] = v at t2 ⊢
      cases v <;> first | exact trivial | (exact absurd rfl (t2 _)))
    (g := F0 m pc ls (.int n :: .int dp :: .ref a1 :: .int sp :: .ref a0 :: st)) rfl (hl.1.trans hF.2.2.1.symm) (rest := st) rfl (by rw [hF.2.1]; exact hd) (by omega) (by show 2 * 0 + _ + (18 : Nat) ≤ _; omega)
  have hla : a1 < T.heap.size := by rw [hT]; exact (Array.getElem?_eq_some_iff.mp f1).1
  obtain ⟨t, b1, b2⟩ := w _ _ (mx_cell.ofArr (hK.1.2.2.2.2 k1 _ hk1) (heapAt_setCell_self (s := T.setVm vm') (copied cs cd sp dp n) hla) ((Cell.storeRun_facts _ _ _).1.trans f2) (by rw [show (copied cs cd sp dp n).vm = cd.vm from (Cell.storeRun_facts _ _ _).2.1]; exact f3) (by rw [show (copied cs cd sp dp n).vm = cd.vm from (Cell.storeRun_facts _ _ _).2.1]; exact f4) (mx_copied e5 f5 h1 h2)) (by rw [size_setCell]; show T.heap.size = _; rw [hT]) (fun y hy => by rw [heapAt_setCell_ne _ (Ne.symm hy)]; show T.heap[y]? = _; rw [hT]) (fun y hy => by
      rcases List.mem_append.mp hy with h | h
      · exact Or.inl h
      · obtain ⟨z, -, hz⟩ := List.mem_map.mp h
        rw [← hz]
        exact Or.inr rfl) ((T.setVm vm').setCell a1 (copied cs cd sp dp n)) rfl X'
  exact ⟨t, step t b1, b2⟩
end
section
/-! PURE: characters, reading of a text (where its EXPRESSION ends, or its bad place), its height. -/
def lz_dg (c : Int32) : Bool := decide (48 ≤ c) && decide (c ≤ 57)
def lz_lt (c : Int32) : Bool := decide (97 ≤ c) && decide (c < 105)
def lz_pa (c : Int32) : Nat := if c = 33 ∨ c = 79 then 1 else if c = 43 ∨ c = 45 ∨ c = 42 ∨ c = 60 ∨ c = 84 then 2 else if c = 63 then 3 else 0
def lz_cd (t : List Int32) (i : Nat) : Int32 := t.getD i 0
/-- n EXPRESSIONS one behind another -/
def lz_ps (f : Nat → Bool × Nat) : Nat → Nat → Bool × Nat
  | 0, p => (true, p)
  | n + 1, p => if (f p).1 = true then lz_ps f n (f p).2 else f p
/-- at most n EXPRESSIONS, then the sign that ends the list -/
def lz_ls (f : Nat → Bool × Nat) (t : List Int32) : Nat → Nat → Bool × Nat
  | 0, p => if lz_cd t p = 41 then (true, p + 1) else (false, p)
  | n + 1, p => if lz_cd t p = 41 then (true, p + 1) else if (f p).1 = true then lz_ls f t n (f p).2 else f p
/-- the EXPRESSION of depth at most k that begins at p: its end, or the bad place -/
def lz_rd (t : List Int32) : Nat → Nat → Bool × Nat
  | 0, p => (false, p)
  | k + 1, p =>
    if t.length ≤ p then (false, p)
    else if (lz_dg (lz_cd t p) || lz_lt (lz_cd t p)) = true then (true, p + 1)
    else if lz_cd t p = 68 then
      if lz_dg (lz_cd t (p + 1)) = false then (false, p + 1)
      else if ¬ lz_cd t (p + 2) = 40 then (false, p + 2)
      else lz_ls (lz_rd t k) t 4 (p + 3)
    else if lz_pa (lz_cd t p) = 0 ∨ k = 0 then (false, p)
    else lz_ps (lz_rd t k) (lz_pa (lz_cd t p)) (p + 1)
def lz_hp (f : Nat → Bool × Nat) (h : Nat → Nat) : Nat → Nat → Nat
  | 0, _ => 0
  | n + 1, p => max (h p) (lz_hp f h n (f p).2)
def lz_hl (f : Nat → Bool × Nat) (h : Nat → Nat) (t : List Int32) : Nat → Nat → Nat
  | 0, _ => 0
  | n + 1, p => if lz_cd t p = 41 then 0 else max (h p) (lz_hl f h t n (f p).2)
/-- the height of the EXPRESSION at p, of depth at most k -/
def lz_ht (t : List Int32) : Nat → Nat → Nat
  | 0, _ => 0
  | k + 1, p =>
    if (lz_dg (lz_cd t p) || lz_lt (lz_cd t p)) = true then 1
    else if lz_cd t p = 68 then 1 + lz_hl (lz_rd t k) (lz_ht t k) t 4 (p + 3)
    else 1 + lz_hp (lz_rd t k) (lz_ht t k) (lz_pa (lz_cd t p)) (p + 1)
/-- the whole line: its end and height, or its bad place -/
def lz_line (t : List Int32) : Bool × Nat :=
  if (lz_rd t 8 0).1 = true then (if (lz_rd t 8 0).2 < t.length then (false, (lz_rd t 8 0).2) else (true, lz_ht t 8 0)) else (false, (lz_rd t 8 0).2)
theorem lz_cd_out {t : List Int32} {i : Nat} (h : t.length ≤ i) : lz_cd t i = 0 := by
  unfold lz_cd
  rw [List.getD_eq_getElem?_getD, List.getElem?_eq_none h]
  rfl
theorem lz_cd_in {t : List Int32} {i : Nat} (h : lz_cd t i ≠ 0) : i < t.length := by
  rcases Nat.lt_or_ge i t.length with q | q
  · exact q
  · exact absurd (lz_cd_out q) h
theorem lz_ps_b {f : Nat → Bool × Nat} {L : Nat} (hf : ∀ p e, f p = (true, e) → p < e ∧ e ≤ L) : ∀ (n p e : Nat), p ≤ L → lz_ps f n p = (true, e) → p + n ≤ e ∧ e ≤ L := by
  intro n
  induction n with
  | zero =>
    intro p e hp h
    simp only [lz_ps, Prod.mk.injEq, true_and] at h
    omega
  | succ n ih =>
    intro p e hp h
    unfold lz_ps at h
    by_cases hc : (f p).1 = true
    · rw [if_pos hc] at h
      have h1 := hf p (f p).2 (Prod.ext hc rfl)
      have h2 := ih _ _ h1.2 h
      omega
    · rw [if_neg hc] at h
      rw [h] at hc
      exact absurd rfl hc
theorem lz_ls_b {f : Nat → Bool × Nat} {t : List Int32} (hf : ∀ p e, f p = (true, e) → p < e ∧ e ≤ t.length) : ∀ (n p e : Nat), lz_ls f t n p = (true, e) → p < e ∧ e ≤ t.length := by
  intro n
  induction n with
  | zero =>
    intro p e h
    unfold lz_ls at h
    by_cases hc : lz_cd t p = 41
    · rw [if_pos hc] at h
      have : p < t.length := lz_cd_in (by rw [hc]; decide)
      simp only [Prod.mk.injEq, true_and] at h
      omega
    · rw [if_neg hc] at h
      cases h
  | succ n ih =>
    intro p e h
    unfold lz_ls at h
    by_cases hc : lz_cd t p = 41
    · rw [if_pos hc] at h
      have : p < t.length := lz_cd_in (by rw [hc]; decide)
      simp only [Prod.mk.injEq, true_and] at h
      omega
    · rw [if_neg hc] at h
      by_cases hd : (f p).1 = true
      · rw [if_pos hd] at h
        have h1 := hf p (f p).2 (Prod.ext hd rfl)
        have h2 := ih _ _ h
        omega
      · rw [if_neg hd] at h
        rw [h] at hd
        exact absurd rfl hd
theorem lz_rd_b {t : List Int32} : ∀ (k p e : Nat), lz_rd t k p = (true, e) → p < e ∧ e ≤ t.length := by
  intro k
  induction k with
  | zero =>
    intro p e h
    simp [lz_rd] at h
  | succ k ih =>
    intro p e h
    unfold lz_rd at h
    by_cases h1 : t.length ≤ p
    · rw [if_pos h1] at h
      cases h
    rw [if_neg h1] at h
    by_cases h2 : (lz_dg (lz_cd t p) || lz_lt (lz_cd t p)) = true
    · rw [if_pos h2] at h
      simp only [Prod.mk.injEq, true_and] at h
      omega
    rw [if_neg h2] at h
    by_cases h3 : lz_cd t p = 68
    · rw [if_pos h3] at h
      by_cases h4 : lz_dg (lz_cd t (p + 1)) = false
      · rw [if_pos h4] at h
        cases h
      rw [if_neg h4] at h
      by_cases h5 : ¬ lz_cd t (p + 2) = 40
      · rw [if_pos h5] at h
        cases h
      rw [if_neg h5] at h
      have := lz_ls_b ih _ _ _ h
      omega
    rw [if_neg h3] at h
    by_cases h4 : lz_pa (lz_cd t p) = 0 ∨ k = 0
    · rw [if_pos h4] at h
      cases h
    rw [if_neg h4] at h
    have := lz_ps_b ih _ _ _ (by omega) h
    omega
theorem lz_ps_m {f g : Nat → Bool × Nat} (hf : ∀ p e, f p = (true, e) → g p = (true, e)) : ∀ (n p e : Nat), lz_ps f n p = (true, e) → lz_ps g n p = (true, e) := by
  intro n
  induction n with
  | zero =>
    intro p e h
    exact h
  | succ n ih =>
    intro p e h
    unfold lz_ps at h ⊢
    by_cases hc : (f p).1 = true
    · rw [if_pos hc] at h
      have h1 := hf p (f p).2 (Prod.ext hc rfl)
      rw [h1, if_pos rfl]
      exact ih _ _ h
    · rw [if_neg hc] at h
      rw [h] at hc
      exact absurd rfl hc
theorem lz_ls_m {f g : Nat → Bool × Nat} {t : List Int32} (hf : ∀ p e, f p = (true, e) → g p = (true, e)) : ∀ (n p e : Nat), lz_ls f t n p = (true, e) → lz_ls g t n p = (true, e) := by
  intro n
  induction n with
  | zero =>
    intro p e h
    exact h
  | succ n ih =>
    intro p e h
    unfold lz_ls at h ⊢
    by_cases hq : lz_cd t p = 41
    · rw [if_pos hq] at h ⊢
      exact h
    rw [if_neg hq] at h ⊢
    by_cases hc : (f p).1 = true
    · rw [if_pos hc] at h
      have h1 := hf p (f p).2 (Prod.ext hc rfl)
      rw [h1, if_pos rfl]
      exact ih _ _ h
    · rw [if_neg hc] at h
      rw [h] at hc
      exact absurd rfl hc
theorem lz_rd_m1 {t : List Int32} : ∀ (k p e : Nat), lz_rd t k p = (true, e) → lz_rd t (k + 1) p = (true, e) := by
  intro k
  induction k with
  | zero =>
    intro p e h
    simp [lz_rd] at h
  | succ k ih =>
    intro p e h
    unfold lz_rd at h
    rw [lz_rd]
    by_cases h1 : t.length ≤ p
    · rw [if_pos h1] at h
      cases h
    rw [if_neg h1] at h ⊢
    by_cases h2 : (lz_dg (lz_cd t p) || lz_lt (lz_cd t p)) = true
    · rw [if_pos h2] at h ⊢
      exact h
    rw [if_neg h2] at h ⊢
    by_cases h3 : lz_cd t p = 68
    · rw [if_pos h3] at h ⊢
      by_cases h4 : lz_dg (lz_cd t (p + 1)) = false
      · rw [if_pos h4] at h
        cases h
      rw [if_neg h4] at h ⊢
      by_cases h5 : ¬ lz_cd t (p + 2) = 40
      · rw [if_pos h5] at h
        cases h
      rw [if_neg h5] at h ⊢
      exact lz_ls_m ih _ _ _ h
    rw [if_neg h3] at h ⊢
    by_cases h4 : lz_pa (lz_cd t p) = 0 ∨ k = 0
    · rw [if_pos h4] at h
      cases h
    rw [if_neg h4] at h
    rw [if_neg (by omega)]
    exact lz_ps_m ih _ _ _ h
theorem lz_rd_m {t : List Int32} {k j p e : Nat} (hk : k ≤ j) (h : lz_rd t k p = (true, e)) : lz_rd t j p = (true, e) := by
  induction j with
  | zero =>
    have : k = 0 := by omega
    subst this
    exact h
  | succ j ih =>
    by_cases hq : k = j + 1
    · subst hq
      exact h
    · exact lz_rd_m1 _ _ _ (ih (by omega))
theorem lz_ps_z {f : Nat → Bool × Nat} {t : List Int32} (hf : ∀ p e, f p = (true, e) → lz_cd t (e - 1) ≠ 68) : ∀ (n p e : Nat), lz_cd t (p - 1) ≠ 68 ∨ 0 < n → lz_ps f n p = (true, e) → lz_cd t (e - 1) ≠ 68 := by
  intro n
  induction n with
  | zero =>
    intro p e hp h
    simp only [lz_ps, Prod.mk.injEq, true_and] at h
    subst h
    rcases hp with hp | hp
    · exact hp
    · exact absurd hp (Nat.lt_irrefl 0)
  | succ n ih =>
    intro p e hp h
    unfold lz_ps at h
    by_cases hc : (f p).1 = true
    · rw [if_pos hc] at h
      have h1 := hf p (f p).2 (Prod.ext hc rfl)
      exact ih _ _ (Or.inl h1) h
    · rw [if_neg hc] at h
      rw [h] at hc
      exact absurd rfl hc
theorem lz_ls_z {f : Nat → Bool × Nat} {t : List Int32} : ∀ (n p e : Nat), (∀ p e, f p = (true, e) → True) → lz_ls f t n p = (true, e) → lz_cd t (e - 1) = 41 := by
  intro n
  induction n with
  | zero =>
    intro p e _ h
    unfold lz_ls at h
    by_cases hc : lz_cd t p = 41
    · rw [if_pos hc] at h
      simp only [Prod.mk.injEq, true_and] at h
      subst h
      exact hc
    · rw [if_neg hc] at h
      cases h
  | succ n ih =>
    intro p e hf h
    unfold lz_ls at h
    by_cases hc : lz_cd t p = 41
    · rw [if_pos hc] at h
      simp only [Prod.mk.injEq, true_and] at h
      subst h
      exact hc
    · rw [if_neg hc] at h
      by_cases hd : (f p).1 = true
      · rw [if_pos hd] at h
        exact ih _ _ hf h
      · rw [if_neg hd] at h
        rw [h] at hd
        exact absurd rfl hd
/-- the last character of an EXPRESSION is no D -/
theorem lz_rd_z {t : List Int32} : ∀ (k p e : Nat), lz_rd t k p = (true, e) → lz_cd t (e - 1) ≠ 68 := by
  intro k
  induction k with
  | zero =>
    intro p e h
    simp [lz_rd] at h
  | succ k ih =>
    intro p e h
    unfold lz_rd at h
    by_cases h1 : t.length ≤ p
    · rw [if_pos h1] at h
      cases h
    rw [if_neg h1] at h
    by_cases h2 : (lz_dg (lz_cd t p) || lz_lt (lz_cd t p)) = true
    · rw [if_pos h2] at h
      simp only [Prod.mk.injEq, true_and] at h
      subst h
      intro h3
      rw [Nat.add_sub_cancel] at h3
      rw [h3] at h2
      exact absurd h2 (by decide)
    rw [if_neg h2] at h
    by_cases h3 : lz_cd t p = 68
    · rw [if_pos h3] at h
      by_cases h4 : lz_dg (lz_cd t (p + 1)) = false
      · rw [if_pos h4] at h
        cases h
      rw [if_neg h4] at h
      by_cases h5 : ¬ lz_cd t (p + 2) = 40
      · rw [if_pos h5] at h
        cases h
      rw [if_neg h5] at h
      rw [lz_ls_z _ _ _ (fun _ _ _ => trivial) h]
      decide
    rw [if_neg h3] at h
    by_cases h4 : lz_pa (lz_cd t p) = 0 ∨ k = 0
    · rw [if_pos h4] at h
      cases h
    rw [if_neg h4] at h
    exact lz_ps_z ih _ _ _ (Or.inr (by omega)) h
end
section
/-! PURE: VALUES and THE STORE. A VALUE is a long: a NUMBER as it is, PLAN j (from 0) as lz_pv j. -/
abbrev lz_P : Type := Int32 × List Int64 × Bool × Int32 × Bool
abbrev lz_S : Type := (Nat → lz_P) × Nat × (Nat → Int32) × Nat
def lz_b (x : Bool) : Int32 := if x = true then 1 else 0
theorem lz_b0 {x : Bool} : lz_b x = 0 ↔ x = false := by cases x <;> decide
theorem lz_b1 {x : Bool} : ¬ lz_b x = 0 ↔ x = true := by cases x <;> decide
theorem lz_b01 (x : Bool) : lz_b x = 0 ∨ lz_b x = 1 := by cases x <;> decide
def lz_bad (v : Int64) : Bool := decide (v < -1000000000000)
def lz_pl (v : Int64) : Bool := decide (1000000000000 < v)
def lz_pv (j : Nat) : Int64 := 1000000000000 + lN (j + 1)
def lz_ix (v : Int64) : Nat := (Int64.toInt32 (v - 1000000000000)).toNatClampNeg - 1
def lz_V (n : Nat) (v : Int64) : Prop := (∃ x : Int32, v = x.toInt64) ∨ ∃ j : Nat, j < n ∧ v = lz_pv j
theorem lz_pv_i {j : Nat} : Int64.toInt32 (lz_pv j - 1000000000000) = nI (j + 1) := by
  unfold lz_pv
  rw [Int64.add_comm, Int64.add_sub_cancel, lN_i]
theorem lz_pv_ix {j : Nat} (h : j < 2 ^ 30) : lz_ix (lz_pv j) = j := by
  unfold lz_ix
  rw [lz_pv_i, nI_clamp (by omega)]
  rfl
theorem lz_pv_T {j : Nat} (h : j < 2 ^ 30) : (lz_pv j).toInt = 1000000000000 + (j + 1 : Nat) := by
  unfold lz_pv
  rw [show (1000000000000 : Int64) = lN 1000000000000 from rfl, lN_add, pk_lT (by omega)]
  omega
theorem lz_pv_pl {j : Nat} (h : j < 2 ^ 30) : lz_pl (lz_pv j) = true := by
  unfold lz_pl
  rw [decide_eq_true_iff, Int64.lt_iff_toInt_lt, lz_pv_T h, show (1000000000000 : Int64).toInt = 1000000000000 from rfl]
  omega
theorem lz_pv_bad {j : Nat} (h : j < 2 ^ 30) : lz_bad (lz_pv j) = false := by
  unfold lz_bad
  rw [decide_eq_false_iff_not, Int64.lt_iff_toInt_lt, lz_pv_T h, show (-1000000000000 : Int64).toInt = -1000000000000 from rfl]
  omega
theorem lz_n_pl (x : Int32) : lz_pl x.toInt64 = false := by
  unfold lz_pl
  have h := Int32.toInt_lt x
  rw [decide_eq_false_iff_not, Int64.lt_iff_toInt_lt, Int32.toInt_toInt64, show (1000000000000 : Int64).toInt = 1000000000000 from rfl]
  omega
theorem lz_n_bad (x : Int32) : lz_bad x.toInt64 = false := by
  unfold lz_bad
  have h := Int32.le_toInt x
  rw [decide_eq_false_iff_not, Int64.lt_iff_toInt_lt, Int32.toInt_toInt64, show (-1000000000000 : Int64).toInt = -1000000000000 from rfl]
  omega
theorem lz_V.bad {n : Nat} {v : Int64} (hn : n ≤ 2 ^ 30) (h : lz_V n v) : lz_bad v = false := by
  rcases h with ⟨x, rfl⟩ | ⟨j, hj, rfl⟩
  · exact lz_n_bad x
  · exact lz_pv_bad (by omega)
theorem lz_V.mono {n m : Nat} {v : Int64} (hn : n ≤ m) (h : lz_V n v) : lz_V m v := by
  rcases h with h | ⟨j, hj, h⟩
  · exact Or.inl h
  · exact Or.inr ⟨j, by omega, h⟩
theorem lz_V_pv {n j : Nat} {v : Int64} (h : lz_V n v) (hj : j < 2 ^ 30) (hn : n ≤ 2 ^ 30) (e : v = lz_pv j) : j < n := by
  rcases h with ⟨x, hx⟩ | ⟨i, hi, hx⟩
  · have h1 := lz_n_pl x
    rw [← hx, e, lz_pv_pl hj] at h1
    cases h1
  · have h1 := congrArg Int64.toInt (e.symm.trans hx)
    rw [lz_pv_T hj, lz_pv_T (by omega)] at h1
    omega
def lz_setP (S : lz_S) (i : Nat) (x : lz_P) : lz_S := (fun j => if j = i then x else S.1 j, S.2)
def lz_okP (i : Nat) (p : lz_P) : Prop := p.2.1.length ≤ 4 ∧ (∀ v ∈ p.2.1, lz_V i v) ∧ (∃ m : Nat, m < 10 ∧ p.1 = nI m) ∧ (p.2.2.1 = false → p.2.2.2.1 = 0)
def lz_okS (S : lz_S) : Prop := S.2.1 ≤ 30 ∧ (∀ i, i < S.2.1 → lz_okP i (S.1 i)) ∧ ∀ b, b < 10 → ∃ k : Nat, k ≤ 4 ∧ S.2.2.1 b = nI k
/-- what a VALUE is as a PART -/
def lz_rp (S : lz_S) (v : Int64) : Int32 := if lz_pl v = true then (S.1 (lz_ix v)).2.2.2.1 else v.toInt32
def lz_sum (S : lz_S) (vs : List Int64) : Int32 := vs.foldl (fun a v => a + lz_rp S v) 0
def lz_prod (S : lz_S) (vs : List Int64) : Int32 := vs.foldl (fun a v => a * lz_rp S v) 1
def lz_mx (a b : Int32) : Int32 := if a < b then b else a
def lz_great (S : lz_S) : List Int64 → Int32
  | [] => 0
  | v :: vs => vs.foldl (fun a v => lz_mx a (lz_rp S v)) (lz_rp S v)
def lz_out (S : lz_S) (k : Int32) (vs : List Int64) : Int32 := if k = 1 then lz_prod S vs else if k = 2 then lz_great S vs else if k = 3 then nI vs.length else lz_sum S vs
/-- PLAN j is built, its INPUTS being built -/
def lz_fin (S : lz_S) (j : Nat) : Int64 × lz_S :=
  if S.2.2.1 (S.1 j).1.toNatClampNeg = 4 ∨ (S.2.2.1 (S.1 j).1.toNatClampNeg = 3 ∧ ¬ lz_great S (S.1 j).2.1 < 100) then (-1000000000007, S)
  else ((lz_out S (S.2.2.1 (S.1 j).1.toNatClampNeg) (S.1 j).2.1).toInt64, ((lz_setP S j ((S.1 j).1, (S.1 j).2.1, true, lz_out S (S.2.2.1 (S.1 j).1.toNatClampNeg) (S.1 j).2.1, (S.1 j).2.2.2.2)).1, S.2.1, S.2.2.1, S.2.2.2 + 1))
def lz_bi (g : lz_S → Int64 → Int64 × lz_S) : List Int64 → lz_S → Int64 × lz_S
  | [], S => (0, S)
  | v :: vs, S => if lz_bad (g S v).1 = true then g S v else lz_bi g vs (g S v).2
/-- a VALUE as a PART, built if it is a PLAN -/
def lz_pt : Nat → lz_S → Int64 → Int64 × lz_S
  | 0, S, v => (v, S)
  | f + 1, S, v =>
    if lz_pl v = false then (v, S)
    else if (S.1 (lz_ix v)).2.2.1 = true then ((S.1 (lz_ix v)).2.2.2.1.toInt64, S)
    else if lz_bad (lz_bi (lz_pt f) (S.1 (lz_ix v)).2.1 S).1 = true then lz_bi (lz_pt f) (S.1 (lz_ix v)).2.1 S
    else lz_fin (lz_bi (lz_pt f) (S.1 (lz_ix v)).2.1 S).2 (lz_ix v)
/-- two stores that differ in what is built alone -/
def lz_sm (S T : lz_S) : Prop := T.2.1 = S.2.1 ∧ T.2.2.1 = S.2.2.1 ∧ ∀ j, (T.1 j).1 = (S.1 j).1 ∧ (T.1 j).2.1 = (S.1 j).2.1 ∧ (T.1 j).2.2.2.2 = (S.1 j).2.2.2.2
theorem lz_sm.rf {S : lz_S} : lz_sm S S := ⟨rfl, rfl, fun _ => ⟨rfl, rfl, rfl⟩⟩
theorem lz_sm.tr {S T U : lz_S} (h : lz_sm S T) (k : lz_sm T U) : lz_sm S U := ⟨k.1.trans h.1, k.2.1.trans h.2.1, fun j => ⟨(k.2.2 j).1.trans (h.2.2 j).1, (k.2.2 j).2.1.trans (h.2.2 j).2.1, (k.2.2 j).2.2.trans (h.2.2 j).2.2⟩⟩
theorem lz_fin_sm (S : lz_S) (j : Nat) : lz_sm S (lz_fin S j).2 := by
  unfold lz_fin
  split
  · exact lz_sm.rf
  · refine ⟨rfl, rfl, fun i => ?_⟩
    simp only [lz_setP]
    by_cases h : i = j
    · subst h
      simp
    · simp [h]
theorem lz_bi_sm {g : lz_S → Int64 → Int64 × lz_S} (hg : ∀ S v, lz_sm S (g S v).2) : ∀ (vs : List Int64) (S : lz_S), lz_sm S (lz_bi g vs S).2 := by
  intro vs
  induction vs with
  | nil => exact fun S => lz_sm.rf
  | cons v vs ih =>
    intro S
    unfold lz_bi
    split
    · exact hg S v
    · exact (hg S v).tr (ih _)
theorem lz_pt_sm : ∀ (f : Nat) (S : lz_S) (v : Int64), lz_sm S (lz_pt f S v).2 := by
  intro f
  induction f with
  | zero => exact fun S v => lz_sm.rf
  | succ f ih =>
    intro S v
    unfold lz_pt
    split
    · exact lz_sm.rf
    split
    · exact lz_sm.rf
    split
    · exact lz_bi_sm ih _ _
    · exact (lz_bi_sm ih _ _).tr (lz_fin_sm _ _)
theorem lz_fin_ok {S : lz_S} (j : Nat) (h : lz_okS S) : lz_okS (lz_fin S j).2 := by
  unfold lz_fin
  split
  · exact h
  · refine ⟨h.1, fun i hi => ?_, h.2.2⟩
    simp only [lz_setP]
    by_cases hij : i = j
    · subst hij
      rw [if_pos rfl]
      obtain ⟨q1, q2, q3, -⟩ := h.2.1 i hi
      exact ⟨q1, q2, q3, fun h => by cases h⟩
    · rw [if_neg hij]
      exact h.2.1 i hi
theorem lz_bi_ok {g : lz_S → Int64 → Int64 × lz_S} (hg : ∀ S v, lz_okS S → lz_okS (g S v).2) : ∀ (vs : List Int64) (S : lz_S), lz_okS S → lz_okS (lz_bi g vs S).2 := by
  intro vs
  induction vs with
  | nil => exact fun S h => h
  | cons v vs ih =>
    intro S h
    unfold lz_bi
    split
    · exact hg S v h
    · exact ih _ (hg S v h)
theorem lz_pt_ok : ∀ (f : Nat) (S : lz_S) (v : Int64), lz_okS S → lz_okS (lz_pt f S v).2 := by
  intro f
  induction f with
  | zero => exact fun S v h => h
  | succ f ih =>
    intro S v h
    unfold lz_pt
    split
    · exact h
    split
    · exact h
    split
    · exact lz_bi_ok ih _ _ h
    · exact lz_fin_ok _ (lz_bi_ok ih _ _ h)
/-- a NUMBER, or BROKEN -/
def lz_nb (v : Int64) : Prop := (∃ x : Int32, v = x.toInt64) ∨ v = -1000000000007
theorem lz_fin_nb (S : lz_S) (j : Nat) : lz_nb (lz_fin S j).1 := by
  unfold lz_fin
  split
  · exact Or.inr rfl
  · exact Or.inl ⟨_, rfl⟩
theorem lz_bi_nb {g : lz_S → Int64 → Int64 × lz_S} {n : Nat} (hg : ∀ S v, lz_V n v → lz_nb (g S v).1) : ∀ (vs : List Int64) (S : lz_S), (∀ v ∈ vs, lz_V n v) → lz_nb (lz_bi g vs S).1 := by
  intro vs
  induction vs with
  | nil => exact fun S _ => Or.inl ⟨0, rfl⟩
  | cons v vs ih =>
    intro S h
    unfold lz_bi
    split
    · exact hg S v (h v List.mem_cons_self)
    · exact ih _ (fun v hv => h v (List.mem_cons_of_mem _ hv))
/-- the first of n numbers from i on that p names -/
def lz_fi (p : Nat → Bool) : Nat → Nat → Option Nat
  | 0, _ => none
  | n + 1, i => if p i = true then some i else lz_fi p n (i + 1)
def lz_al (S : lz_S) (mk : Int32) (vs : List Int64) (i : Nat) : Bool := decide ((S.1 i).1 = mk ∧ (S.1 i).2.1 = vs)
/-- the PLAN with that builder and those INPUTS, which comes into THE STORE if it isn't there -/
def lz_of (S : lz_S) (mk : Int32) (vs : List Int64) : Int64 × lz_S :=
  match lz_fi (lz_al S mk vs) S.2.1 0 with
  | some i => (lz_pv i, S)
  | none => if 30 ≤ S.2.1 then (-1000000000009, S) else (lz_pv S.2.1, (fun j => if j = S.2.1 then (mk, vs, false, 0, false) else S.1 j, S.2.1 + 1, S.2.2))
theorem lz_fi_lt {p : Nat → Bool} : ∀ (n i j : Nat), lz_fi p n i = some j → i ≤ j ∧ j < i + n ∧ p j = true := by
  intro n
  induction n with
  | zero =>
    intro i j h
    cases h
  | succ n ih =>
    intro i j h
    unfold lz_fi at h
    by_cases hp : p i = true
    · rw [if_pos hp] at h
      cases h
      exact ⟨Nat.le_refl _, by omega, hp⟩
    · rw [if_neg hp] at h
      obtain ⟨h1, h2, h3⟩ := ih _ _ h
      exact ⟨by omega, by omega, h3⟩
theorem lz_pt_nb : ∀ (f : Nat) {S : lz_S} {v : Int64}, lz_okS S → lz_V S.2.1 v → (∀ j, j < 30 → v = lz_pv j → j < f) → lz_nb (lz_pt f S v).1 := by
  intro f
  induction f with
  | zero =>
    intro S v h hV hj
    rcases hV with ⟨x, rfl⟩ | ⟨j, hj1, rfl⟩
    · exact Or.inl ⟨x, rfl⟩
    · exact absurd (hj j (by have := h.1; omega) rfl) (by omega)
  | succ f ih =>
    intro S v h hV hj
    unfold lz_pt
    rcases hV with ⟨x, rfl⟩ | ⟨j, hj1, rfl⟩
    · rw [if_pos (lz_n_pl x)]
      exact Or.inl ⟨x, rfl⟩
    have hn := h.1
    rw [if_neg (by rw [lz_pv_pl (by omega)]; decide), lz_pv_ix (by omega)]
    split
    · exact Or.inl ⟨_, rfl⟩
    split
    · have hjf := hj j (by omega) rfl
      have hB : ∀ (vs : List Int64) (U : lz_S), lz_okS U → lz_sm S U → (∀ v ∈ vs, lz_V j v) → lz_nb (lz_bi (lz_pt f) vs U).1 := by
        intro vs
        induction vs with
        | nil => exact fun U _ _ _ => Or.inl ⟨0, rfl⟩
        | cons v vs ihv =>
          intro U hU hs hv
          have hvj := hv v List.mem_cons_self
          unfold lz_bi
          split
          · exact ih hU (by rw [hs.1]; exact hvj.mono (by omega)) (fun i hi e => by have := lz_V_pv hvj (by omega) (by omega) e; omega)
          · exact ihv _ (lz_pt_ok f U v hU) (hs.tr (lz_pt_sm f U v)) (fun x hx => hv x (List.mem_cons_of_mem _ hx))
      exact hB _ _ h lz_sm.rf (h.2.1 j hj1).2.1
    · exact lz_fin_nb _ _
end
section
/-! PURE: WORKING OUT. A state: names (bound, being worked out, VALUE kept), STEPS, FAILURES, THE STORE. A failure is NONE plus its code. -/
abbrev lz_W : Type := (Nat → Bool × Bool × Int64) × Nat × Nat × lz_S
abbrev lz_F : Type := List Int32 → Nat → lz_W → Int64 × lz_W
def lz_nd (t : List Int32) (p : Nat) : Nat := (lz_rd t 8 p).2
def lz_setN (w : lz_W) (i : Nat) (x : Bool × Bool × Int64) : lz_W := (fun j => if j = i then x else w.1 j, w.2)
def lz_name (f : lz_F) (T : Nat → List Int32) (i : Nat) (w : lz_W) : Int64 × lz_W :=
  if (w.1 i).1 = false then (-1000000000004, w)
  else if (w.1 i).2.1 = true then (-1000000000008, w)
  else if ¬ (w.1 i).2.2 = -1000000000000 then ((w.1 i).2.2, w)
  else
    let r := f (T i) 0 (lz_setN w i ((w.1 i).1, true, (w.1 i).2.2))
    (r.1, lz_setN r.2 i ((r.2.1 i).1, false, if lz_bad r.1 = true then (r.2.1 i).2.2 else r.1))
def lz_comb (c x y : Int32) : Int32 := if c = 43 then x + y else if c = 45 then x - y else if c = 42 then x * y else if x < y then 1 else 0
def lz_pair (f : lz_F) (t : List Int32) (p : Nat) (w : lz_W) : Int64 × lz_W :=
  let r := f t (p + 1) w
  if lz_bad r.1 = true then r
  else
    let q := f t (lz_nd t (p + 1)) r.2
    if lz_bad q.1 = true then q
    else if (lz_pl r.1 || lz_pl q.1) = true then (-1000000000005, q.2)
    else ((lz_comb (lz_cd t p) r.1.toInt32 q.1.toInt32).toInt64, q.2)
def lz_choice (f : lz_F) (t : List Int32) (p : Nat) (w : lz_W) : Int64 × lz_W :=
  let r := f t (p + 1) w
  if lz_bad r.1 = true then r
  else if lz_pl r.1 = true then (-1000000000005, r.2)
  else f t (if ¬ r.1 = 0 then lz_nd t (p + 1) else lz_nd t (lz_nd t (p + 1))) r.2
def lz_abort (f : lz_F) (t : List Int32) (p : Nat) (w : lz_W) : Int64 × lz_W :=
  let r := f t (p + 1) w
  if lz_bad r.1 = true then r else (-1000000000006, r.2)
def lz_good (v : Int64) : Bool := decide (v = -1000000000004) || decide (v = -1000000000005) || decide (v = -1000000000006) || decide (v = -1000000000007)
def lz_try (f : lz_F) (t : List Int32) (p : Nat) (w : lz_W) : Int64 × lz_W :=
  let r := f t (p + 1) w
  if lz_good r.1 = false then r else f t (lz_nd t (p + 1)) (r.2.1, r.2.2.1, r.2.2.2.1 + 1, r.2.2.2.2)
/-- the list of a D: what it came to, the INPUTS, the state -/
def lz_list (f : lz_F) (t : List Int32) : Nat → Nat → List Int64 → lz_W → Int64 × List Int64 × lz_W
  | 0, _, vs, w => (0, vs, w)
  | n + 1, p, vs, w =>
    if lz_cd t p = 41 then (0, vs, w)
    else if lz_bad (f t p w).1 = true then ((f t p w).1, vs, (f t p w).2)
    else lz_list f t n (lz_nd t p) (vs ++ [(f t p w).1]) (f t p w).2
def lz_plan (f : lz_F) (t : List Int32) (p : Nat) (w : lz_W) : Int64 × lz_W :=
  let r := lz_list f t 4 (p + 3) [] w
  if lz_bad r.1 = true then (r.1, r.2.2)
  else ((lz_of r.2.2.2.2.2 (lz_cd t (p + 1) - 48) r.2.1).1, (r.2.2.1, r.2.2.2.1, r.2.2.2.2.1, (lz_of r.2.2.2.2.2 (lz_cd t (p + 1) - 48) r.2.1).2))
def lz_result (f : lz_F) (t : List Int32) (p : Nat) (w : lz_W) : Int64 × lz_W :=
  let r := f t (p + 1) w
  if lz_bad r.1 = true then r
  else if lz_pl r.1 = true then ((lz_pt 30 r.2.2.2.2 r.1).1, (r.2.1, r.2.2.1, r.2.2.2.1, (lz_pt 30 r.2.2.2.2 r.1).2))
  else (-1000000000005, r.2)
def lz_body (f : lz_F) (T : Nat → List Int32) (t : List Int32) (p : Nat) (w : lz_W) : Int64 × lz_W :=
  let c := lz_cd t p
  if lz_dg c = true then ((c - 48).toInt64, w)
  else if lz_lt c = true then lz_name f T (c - 97).toNatClampNeg w
  else if c = 63 then lz_choice f t p w
  else if c = 33 then lz_abort f t p w
  else if c = 84 then lz_try f t p w
  else if c = 68 then lz_plan f t p w
  else if c = 79 then lz_result f t p w
  else lz_pair f t p w
/-- an EXPRESSION is worked out; n: more than the STEPS that are left -/
def lz_ev (T : Nat → List Int32) : Nat → lz_F
  | 0, _, _, w => (-1000000000010, w)
  | n + 1, t, p, w => if 200 ≤ w.2.1 then (-1000000000010, w) else lz_body (lz_ev T n) T t p (w.1, w.2.1 + 1, w.2.2)
def lz_okW (T : Nat → List Int32) (w : lz_W) : Prop := (∀ i, i < 8 → ((w.1 i).1 = true → lz_rd (T i) 8 0 = (true, (T i).length)) ∧ ((w.1 i).2.2 = -1000000000000 ∨ lz_V w.2.2.2.2.1 (w.1 i).2.2)) ∧ lz_okS w.2.2.2
/-- what a working out leaves as it was, and what it is -/
def lz_st (T : Nat → List Int32) (c : Nat) (w : lz_W) (r : Int64 × lz_W) : Prop :=
  lz_okW T r.2 ∧ w.2.2.2.2.1 ≤ r.2.2.2.2.2.1 ∧ (lz_bad r.1 = true ∨ lz_V r.2.2.2.2.2.1 r.1) ∧ w.2.1 ≤ r.2.2.1 ∧ r.2.2.2.1 + w.2.1 ≤ w.2.2.1 + r.2.2.1 + c ∧ (∀ i, (r.2.1 i).1 = (w.1 i).1 ∧ (r.2.1 i).2.1 = (w.1 i).2.1) ∧ r.2.2.1 ≤ max 200 w.2.1
def lz_b' (x : Bool) : Nat := if x = true then 1 else 0
end
section
/-! PURE: what working out leaves as it was. -/
theorem lz_rd_op {t : List Int32} {k p e : Nat} (h : lz_rd t (k + 1) p = (true, e)) (hd : lz_dg (lz_cd t p) = false) (hl : lz_lt (lz_cd t p) = false) (h68 : ¬ lz_cd t p = 68) : lz_pa (lz_cd t p) ≠ 0 ∧ k ≠ 0 ∧ lz_ps (lz_rd t k) (lz_pa (lz_cd t p)) (p + 1) = (true, e) := by
  unfold lz_rd at h
  by_cases h1 : t.length ≤ p
  · rw [if_pos h1] at h
    cases h
  rw [if_neg h1, if_neg (by rw [hd, hl]; decide), if_neg h68] at h
  by_cases h4 : lz_pa (lz_cd t p) = 0 ∨ k = 0
  · rw [if_pos h4] at h
    cases h
  rw [if_neg h4] at h
  exact ⟨fun z => h4 (Or.inl z), fun z => h4 (Or.inr z), h⟩
theorem lz_rd_D {t : List Int32} {k p e : Nat} (h : lz_rd t (k + 1) p = (true, e)) (h68 : lz_cd t p = 68) : lz_dg (lz_cd t (p + 1)) = true ∧ lz_cd t (p + 2) = 40 ∧ lz_ls (lz_rd t k) t 4 (p + 3) = (true, e) := by
  unfold lz_rd at h
  by_cases h1 : t.length ≤ p
  · rw [if_pos h1] at h
    cases h
  rw [if_neg h1, if_neg (by rw [h68]; decide), if_pos h68] at h
  by_cases h4 : lz_dg (lz_cd t (p + 1)) = false
  · rw [if_pos h4] at h
    cases h
  rw [if_neg h4] at h
  by_cases h5 : ¬ lz_cd t (p + 2) = 40
  · rw [if_pos h5] at h
    cases h
  rw [if_neg h5] at h
  exact ⟨by simpa using h4, Decidable.not_not.mp h5, h⟩
theorem lz_ps_s {f : Nat → Bool × Nat} {n p e : Nat} (h : lz_ps f (n + 1) p = (true, e)) : f p = (true, (f p).2) ∧ lz_ps f n (f p).2 = (true, e) := by
  unfold lz_ps at h
  by_cases hc : (f p).1 = true
  · rw [if_pos hc] at h
    exact ⟨Prod.ext hc rfl, h⟩
  · rw [if_neg hc] at h
    rw [h] at hc
    exact absurd rfl hc
theorem lz_ps_0 {f : Nat → Bool × Nat} {p e : Nat} (h : lz_ps f 0 p = (true, e)) : p = e := by
  simp only [lz_ps, Prod.mk.injEq, true_and] at h
  exact h
theorem lz_ls_s {f : Nat → Bool × Nat} {t : List Int32} {n p e : Nat} (h : lz_ls f t (n + 1) p = (true, e)) (hc : ¬ lz_cd t p = 41) : f p = (true, (f p).2) ∧ lz_ls f t n (f p).2 = (true, e) := by
  unfold lz_ls at h
  rw [if_neg hc] at h
  by_cases hd : (f p).1 = true
  · rw [if_pos hd] at h
    exact ⟨Prod.ext hd rfl, h⟩
  · rw [if_neg hd] at h
    rw [h] at hd
    exact absurd rfl hd
theorem lz_nd_eq {t : List Int32} {k p e : Nat} (hk : k ≤ 8) (h : lz_rd t k p = (true, e)) : lz_nd t p = e := by
  unfold lz_nd
  rw [lz_rd_m hk h]
theorem lz_rd_nd {t : List Int32} {k p : Nat} (hk : k ≤ 8) (h : lz_rd t k p = (true, (lz_rd t k p).2)) : lz_rd t k p = (true, lz_nd t p) := by
  rw [lz_nd_eq hk h]
  exact h
section EVO
variable {T : Nat → List Int32}
theorem lz_st.rf {w : lz_W} {v : Int64} (h : lz_okW T w) (hv : lz_bad v = true ∨ lz_V w.2.2.2.2.1 v) : lz_st T 0 w (v, w) := ⟨h, Nat.le_refl _, hv, Nat.le_refl _, Nat.le_refl _, fun _ => ⟨rfl, rfl⟩, Nat.le_max_right _ _⟩
theorem lz_st.tr {w : lz_W} {r q : Int64 × lz_W} (h : lz_st T 0 w r) (k : lz_st T 0 r.2 q) : lz_st T 0 w q := by
  obtain ⟨h1, h2, h3, h4, h5, h6, h7⟩ := h
  obtain ⟨k1, k2, k3, k4, k5, k6, k7⟩ := k
  exact ⟨k1, by omega, k3, by omega, by omega, fun i => ⟨(k6 i).1.trans (h6 i).1, (k6 i).2.trans (h6 i).2⟩, by omega⟩
/-- another VALUE at the end -/
theorem lz_st.val {w : lz_W} {r : Int64 × lz_W} {v : Int64} (h : lz_st T 0 w r) (hv : lz_bad v = true ∨ lz_V r.2.2.2.2.2.1 v) : lz_st T 0 w (v, r.2) := ⟨h.1, h.2.1, hv, h.2.2.2⟩
theorem lz_okW.mono {w : lz_W} {S : lz_S} (h : lz_okW T w) (hS : lz_okS S) (hn : w.2.2.2.2.1 ≤ S.2.1) : lz_okW T (w.1, w.2.1, w.2.2.1, S) := ⟨fun i hi => ⟨(h.1 i hi).1, (h.1 i hi).2.imp id (fun z => z.mono hn)⟩, hS⟩
def lz_fok (T : Nat → List Int32) (f : lz_F) : Prop := ∀ (t : List Int32) (p k e : Nat) (w : lz_W), k ≤ 8 → lz_rd t k p = (true, e) → lz_okW T w → lz_st T 0 w (f t p w)
theorem lz_name_st {f : lz_F} (hf : lz_fok T f) {i : Nat} (hi : i < 8) {w : lz_W} (hw : lz_okW T w) : lz_st T 0 w (lz_name f T i w) := by
  unfold lz_name
  by_cases h1 : (w.1 i).1 = false
  · rw [if_pos h1]
    exact lz_st.rf hw (Or.inl (by decide))
  rw [if_neg h1]
  by_cases h2 : (w.1 i).2.1 = true
  · rw [if_pos h2]
    exact lz_st.rf hw (Or.inl (by decide))
  rw [if_neg h2]
  by_cases h3 : ¬ (w.1 i).2.2 = -1000000000000
  · rw [if_pos h3]
    exact lz_st.rf hw (Or.inr ((hw.1 i hi).2.resolve_left h3))
  rw [if_neg h3]
  have hb : (w.1 i).1 = true := by simpa using h1
  obtain ⟨w1, ew⟩ : ∃ w1, w1 = lz_setN w i ((w.1 i).1, true, (w.1 i).2.2) := ⟨_, rfl⟩
  have hw1 : lz_okW T w1 := by
    subst ew
    refine ⟨fun j hj => ?_, hw.2⟩
    by_cases hij : j = i
    · subst hij
      simp only [lz_setN, if_true]
      exact hw.1 j hj
    · simp only [lz_setN, if_neg hij]
      exact hw.1 j hj
  have g := hf (T i) 0 8 _ w1 (Nat.le_refl _) ((hw.1 i hi).1 hb) hw1
  rw [← ew]
  simp only
  obtain ⟨r, er⟩ : ∃ r, r = f (T i) 0 w1 := ⟨_, rfl⟩
  rw [← er] at g ⊢
  obtain ⟨g1, g2, g3, g4, g5, g6, g7⟩ := g
  have e1 : w1.2 = w.2 := by rw [ew]; rfl
  refine ⟨⟨fun j hj => ?_, g1.2⟩, ?_, g3, ?_, ?_, fun j => ?_, ?_⟩
  · by_cases hij : j = i
    · subst hij
      simp only [lz_setN, if_true]
      refine ⟨(g1.1 j hj).1, ?_⟩
      by_cases hbad : lz_bad r.1 = true
      · rw [if_pos hbad]
        exact (g1.1 j hj).2
      · rw [if_neg hbad]
        exact Or.inr (g3.resolve_left hbad)
    · simp only [lz_setN, if_neg hij]
      exact g1.1 j hj
  · rw [← e1]
    exact g2
  · rw [← e1]
    exact g4
  · rw [← e1]
    exact g5
  · by_cases hij : j = i
    · subst hij
      simp only [lz_setN, if_true]
      refine ⟨(g6 j).1.trans ?_, ?_⟩
      · rw [ew]
        simp [lz_setN]
      · exact (Bool.eq_false_iff.mpr h2).symm
    · simp only [lz_setN, if_neg hij]
      rw [ew] at g6
      have := g6 j
      simp only [lz_setN, if_neg hij] at this
      exact this
  · rw [← e1]
    exact g7
theorem lz_st.up {w : lz_W} {r : Int64 × lz_W} (h : lz_st T 0 w r) : lz_st T 1 w r := ⟨h.1, h.2.1, h.2.2.1, h.2.2.2.1, by have := h.2.2.2.2.1; omega, h.2.2.2.2.2⟩
theorem lz_st.step {w : lz_W} {r : Int64 × lz_W} (h : lz_st T 1 (w.1, w.2.1 + 1, w.2.2) r) (hs : ¬ 200 ≤ w.2.1) : lz_st T 0 w r := by
  obtain ⟨h1, h2, h3, h4, h5, h6, h7⟩ := h
  simp only at h2 h4 h5 h6 h7
  exact ⟨h1, h2, h3, by omega, by omega, h6, by omega⟩
theorem lz_of_st {S : lz_S} (h : lz_okS S) {m : Nat} (hm : m < 10) {vs : List Int64} (hl : vs.length ≤ 4) (hv : ∀ v ∈ vs, lz_V S.2.1 v) : lz_okS (lz_of S (nI m) vs).2 ∧ S.2.1 ≤ (lz_of S (nI m) vs).2.2.1 ∧ (lz_bad (lz_of S (nI m) vs).1 = true ∨ lz_V (lz_of S (nI m) vs).2.2.1 (lz_of S (nI m) vs).1) := by
  unfold lz_of
  cases hf : lz_fi (lz_al S (nI m) vs) S.2.1 0 with
  | some i =>
    have hi : i < S.2.1 := by
      have := (lz_fi_lt _ _ _ hf).2.1
      omega
    exact ⟨h, Nat.le_refl _, Or.inr (Or.inr ⟨i, hi, rfl⟩)⟩
  | none =>
    by_cases h30 : 30 ≤ S.2.1
    · simp only [if_pos h30]
      exact ⟨h, Nat.le_refl _, Or.inl (by decide)⟩
    · simp only [if_neg h30]
      refine ⟨⟨by show S.2.1 + 1 ≤ 30; omega, fun i hi => ?_, h.2.2⟩, Nat.le_succ _, Or.inr (Or.inr ⟨S.2.1, Nat.lt_succ_self _, rfl⟩)⟩
      have hi : i < S.2.1 + 1 := hi
      by_cases hi2 : i = S.2.1
      · simp only [if_pos hi2]
        subst hi2
        exact ⟨hl, hv, ⟨m, hm, rfl⟩, fun _ => rfl⟩
      · simp only [if_neg hi2]
        exact h.2.1 i (by omega)
theorem lz_dg_n {c : Int32} (h : lz_dg c = true) : ∃ m : Nat, m < 10 ∧ c - 48 = nI m ∧ c = nI (m + 48) := by
  unfold lz_dg at h
  simp only [Bool.and_eq_true, decide_eq_true_eq] at h
  obtain ⟨j, hj, e⟩ := nI_of2 (x := c) (M := 57) (n := 57) rfl (fun z => by
    have h1 := Int32.le_iff_toInt_le.mp h.1
    have h2 := Int32.lt_iff_toInt_lt.mp z
    rw [show (48 : Int32).toInt = 48 from rfl] at h1
    rw [show (0 : Int32).toInt = 0 from rfl] at h2
    omega) h.2
  subst e
  have h48 : 48 ≤ j := (nI_leI (a := 48) (by omega) (by omega)).mp h.1
  exact ⟨j - 48, by omega, pk_sub (b := 48) h48, by rw [show j - 48 + 48 = j by omega]⟩
theorem lz_lt_n {c : Int32} (h : lz_lt c = true) : ∃ m : Nat, m < 8 ∧ c - 97 = nI m ∧ c = nI (m + 97) := by
  unfold lz_lt at h
  simp only [Bool.and_eq_true, decide_eq_true_eq] at h
  obtain ⟨j, hj, e⟩ := nI_of2 (x := c) (M := 105) (n := 105) rfl (fun z => by
    have h1 := Int32.le_iff_toInt_le.mp h.1
    have h2 := Int32.lt_iff_toInt_lt.mp z
    rw [show (97 : Int32).toInt = 97 from rfl] at h1
    rw [show (0 : Int32).toInt = 0 from rfl] at h2
    omega) (Int32.le_of_lt h.2)
  subst e
  have h97 : 97 ≤ j := (nI_leI (a := 97) (by omega) (by omega)).mp h.1
  have h105 : j < 105 := (nI_ltI (b := 105) (by omega) (by omega)).mp h.2
  exact ⟨j - 97, by omega, pk_sub (b := 97) h97, by rw [show j - 97 + 97 = j by omega]⟩
theorem lz_list_st {f : lz_F} (hf : lz_fok T f) {t : List Int32} {k : Nat} (hk : k ≤ 8) : ∀ (n p e : Nat) (vs : List Int64) (w : lz_W), lz_ls (lz_rd t k) t n p = (true, e) → vs.length + n ≤ 4 → (∀ v ∈ vs, lz_V w.2.2.2.2.1 v) → lz_okW T w →
    lz_st T 0 w (-1000000000010, (lz_list f t n p vs w).2.2) ∧ (lz_list f t n p vs w).2.1.length ≤ 4 ∧ (∀ v ∈ (lz_list f t n p vs w).2.1, lz_V (lz_list f t n p vs w).2.2.2.2.2.2.1 v) := by
  intro n
  induction n with
  | zero =>
    intro p e vs w h hl hv hw
    exact ⟨lz_st.rf hw (Or.inl (by decide)), hl, hv⟩
  | succ n ih =>
    intro p e vs w h hl hv hw
    unfold lz_list
    by_cases hc : lz_cd t p = 41
    · rw [if_pos hc]
      exact ⟨lz_st.rf hw (Or.inl (by decide)), by simp only; omega, hv⟩
    rw [if_neg hc]
    obtain ⟨g1, g2⟩ := lz_ls_s h hc
    have s1 := hf t p k _ w hk g1 hw
    have hmono : ∀ v ∈ vs, lz_V (f t p w).2.2.2.2.2.1 v := fun v hx => (hv v hx).mono s1.2.1
    by_cases hb : lz_bad (f t p w).1 = true
    · rw [if_pos hb]
      exact ⟨s1.val (Or.inl (by decide)), by simp only; omega, hmono⟩
    rw [if_neg hb]
    rw [← lz_nd_eq hk g1] at g2
    obtain ⟨q1, q2, q3⟩ := ih (lz_nd t p) e (vs ++ [(f t p w).1]) (f t p w).2 g2 (by rw [List.length_append]; simp only [List.length_cons, List.length_nil]; omega) (fun v hx => by
      rcases List.mem_append.mp hx with z | z
      · exact hmono v z
      · rw [List.mem_singleton.mp z]
        exact s1.2.2.1.resolve_left hb) s1.1
    exact ⟨s1.tr q1, q2, q3⟩
theorem lz_body_st {f : lz_F} (hf : lz_fok T f) {t : List Int32} {p k e : Nat} {w : lz_W} (hk : k ≤ 8) (h : lz_rd t k p = (true, e)) (hw : lz_okW T w) (h84 : ¬ lz_cd t p = 84) : lz_st T 0 w (lz_body f T t p w) := by
  obtain ⟨k, rfl⟩ : ∃ k', k = k' + 1 := by
    cases k with
    | zero =>
      simp [lz_rd] at h
    | succ k => exact ⟨k, rfl⟩
  unfold lz_body
  simp only
  by_cases h1 : lz_dg (lz_cd t p) = true
  · rw [if_pos h1]
    exact lz_st.rf hw (Or.inr (Or.inl ⟨_, rfl⟩))
  rw [if_neg h1]
  by_cases h2 : lz_lt (lz_cd t p) = true
  · rw [if_pos h2]
    obtain ⟨m, m1, m2, -⟩ := lz_lt_n h2
    rw [m2, nI_clamp (by omega)]
    exact lz_name_st hf m1 hw
  rw [if_neg h2]
  have h1' : lz_dg (lz_cd t p) = false := by simpa using h1
  have h2' : lz_lt (lz_cd t p) = false := by simpa using h2
  have hk' : k ≤ 8 := by omega
  by_cases h68 : lz_cd t p = 68
  · rw [h68, if_neg (by decide), if_neg (by decide), if_neg (by decide), if_pos rfl]
    obtain ⟨g1, g2, g3⟩ := lz_rd_D h h68
    obtain ⟨m, m1, m2, -⟩ := lz_dg_n g1
    obtain ⟨q1, q2, q3⟩ := lz_list_st hf hk' 4 (p + 3) e [] w g3 (by simp) (fun v hv => by cases hv) hw
    unfold lz_plan
    simp only
    by_cases hb : lz_bad (lz_list f t 4 (p + 3) [] w).1 = true
    · rw [if_pos hb]
      exact q1.val (Or.inl hb)
    rw [if_neg hb, m2]
    obtain ⟨z1, z2, z3⟩ := lz_of_st q1.1.2 m1 q2 q3
    obtain ⟨a1, a2, a3, a4, a5, a6, a7⟩ := q1
    exact ⟨a1.mono z1 z2, Nat.le_trans a2 z2, z3, a4, a5, a6, a7⟩
  obtain ⟨g1, g2, g3⟩ := lz_rd_op h h1' h2' h68
  obtain ⟨n, hn⟩ : ∃ n, lz_pa (lz_cd t p) = n + 1 := ⟨lz_pa (lz_cd t p) - 1, by omega⟩
  rw [hn] at g3
  obtain ⟨f1, f2⟩ := lz_ps_s g3
  rw [← lz_nd_eq hk' f1] at f2
  have s1 := hf t (p + 1) k _ w hk' f1 hw
  by_cases h63 : lz_cd t p = 63
  · rw [if_pos h63]
    unfold lz_choice
    simp only
    by_cases hb : lz_bad (f t (p + 1) w).1 = true
    · rw [if_pos hb]
      exact s1
    rw [if_neg hb]
    by_cases hp : lz_pl (f t (p + 1) w).1 = true
    · rw [if_pos hp]
      exact s1.val (Or.inl (by decide))
    rw [if_neg hp]
    have hn3 : n = 2 := by
      rw [h63] at hn
      have : lz_pa 63 = 3 := by decide
      omega
    subst hn3
    obtain ⟨f3, f4⟩ := lz_ps_s f2
    by_cases hz : ¬ (f t (p + 1) w).1 = 0
    · rw [if_pos hz]
      exact s1.tr (hf t _ k _ _ hk' f3 s1.1)
    · rw [if_neg hz]
      rw [← lz_nd_eq hk' f3] at f4
      obtain ⟨f5, f6⟩ := lz_ps_s f4
      exact s1.tr (hf t _ k _ _ hk' f5 s1.1)
  rw [if_neg h63]
  by_cases h33 : lz_cd t p = 33
  · rw [if_pos h33]
    unfold lz_abort
    simp only
    by_cases hb : lz_bad (f t (p + 1) w).1 = true
    · rw [if_pos hb]
      exact s1
    rw [if_neg hb]
    exact s1.val (Or.inl (by decide))
  rw [if_neg h33]
  rw [if_neg h84, if_neg h68]
  by_cases h79 : lz_cd t p = 79
  · rw [if_pos h79]
    unfold lz_result
    simp only
    by_cases hb : lz_bad (f t (p + 1) w).1 = true
    · rw [if_pos hb]
      exact s1
    rw [if_neg hb]
    by_cases hp : lz_pl (f t (p + 1) w).1 = true
    · rw [if_pos hp]
      obtain ⟨a1, a2, a3, a4, a5, a6, a7⟩ := s1
      have e1 := (lz_pt_sm 30 (f t (p + 1) w).2.2.2.2 (f t (p + 1) w).1).1
      refine ⟨a1.mono (lz_pt_ok _ _ _ a1.2) (Nat.le_of_eq e1.symm), ?_, ?_, a4, a5, a6, a7⟩
      · show _ ≤ (lz_pt 30 (f t (p + 1) w).2.2.2.2 (f t (p + 1) w).1).2.2.1
        rw [e1]
        exact a2
      · rcases lz_pt_nb 30 a1.2 (a3.resolve_left hb) (fun j hj _ => hj) with ⟨x, ex⟩ | ex
        · exact Or.inr (Or.inl ⟨x, ex⟩)
        · refine Or.inl ?_
          show lz_bad (lz_pt 30 (f t (p + 1) w).2.2.2.2 (f t (p + 1) w).1).1 = true
          rw [ex]
          decide
    · rw [if_neg hp]
      exact s1.val (Or.inl (by decide))
  rw [if_neg h79]
  unfold lz_pair
  simp only
  by_cases hb : lz_bad (f t (p + 1) w).1 = true
  · rw [if_pos hb]
    exact s1
  rw [if_neg hb]
  have hn3 : n = 1 := by
    unfold lz_pa at hn g1
    by_cases c1 : lz_cd t p = 33 ∨ lz_cd t p = 79
    · rcases c1 with c1 | c1
      · exact absurd c1 h33
      · exact absurd c1 h79
    rw [if_neg c1] at hn g1
    by_cases c2 : lz_cd t p = 43 ∨ lz_cd t p = 45 ∨ lz_cd t p = 42 ∨ lz_cd t p = 60 ∨ lz_cd t p = 84
    · rw [if_pos c2] at hn
      omega
    · rw [if_neg c2, if_neg h63] at g1
      exact absurd rfl g1
  subst hn3
  obtain ⟨f3, f4⟩ := lz_ps_s f2
  have s2 := s1.tr (hf t _ k _ _ hk' f3 s1.1)
  by_cases hb2 : lz_bad (f t (lz_nd t (p + 1)) (f t (p + 1) w).2).1 = true
  · rw [if_pos hb2]
    exact s2
  rw [if_neg hb2]
  split
  · exact s2.val (Or.inl (by decide))
  · exact s2.val (Or.inr (Or.inl ⟨_, rfl⟩))
theorem lz_body_stT {f : lz_F} (hf : lz_fok T f) {t : List Int32} {p k e : Nat} {w : lz_W} (hk : k ≤ 8) (h : lz_rd t k p = (true, e)) (hw : lz_okW T w) (h84 : lz_cd t p = 84) : lz_st T 1 w (lz_body f T t p w) := by
  obtain ⟨k, rfl⟩ : ∃ k', k = k' + 1 := by
    cases k with
    | zero =>
      simp [lz_rd] at h
    | succ k => exact ⟨k, rfl⟩
  have hk' : k ≤ 8 := by omega
  obtain ⟨g1, g2, g3⟩ := lz_rd_op h (by rw [h84]; decide) (by rw [h84]; decide) (by rw [h84]; decide)
  rw [h84, show lz_pa 84 = 2 from by decide] at g3
  obtain ⟨f1, f2⟩ := lz_ps_s g3
  rw [← lz_nd_eq hk' f1] at f2
  obtain ⟨f3, f4⟩ := lz_ps_s f2
  have s1 := hf t (p + 1) k _ w hk' f1 hw
  unfold lz_body
  simp only
  rw [h84, if_neg (by decide), if_neg (by decide), if_neg (by decide), if_neg (by decide), if_pos rfl]
  unfold lz_try
  simp only
  by_cases hb : lz_good (f t (p + 1) w).1 = false
  · rw [if_pos hb]
    exact s1.up
  rw [if_neg hb]
  have s2 := hf t _ k _ ((f t (p + 1) w).2.1, (f t (p + 1) w).2.2.1, (f t (p + 1) w).2.2.2.1 + 1, (f t (p + 1) w).2.2.2.2) hk' f3 s1.1
  obtain ⟨a1, a2, a3, a4, a5, a6, a7⟩ := s1
  obtain ⟨b1, b2, b3, b4, b5, b6, b7⟩ := s2
  simp only at b2 b4 b5 b6 b7
  exact ⟨b1, by omega, b3, by omega, by omega, fun i => ⟨(b6 i).1.trans (a6 i).1, (b6 i).2.trans (a6 i).2⟩, by omega⟩
theorem lz_ev_ok : ∀ n, lz_fok T (lz_ev T n) := by
  intro n
  induction n with
  | zero =>
    intro t p k e w hk h hw
    exact lz_st.rf hw (Or.inl (by decide))
  | succ n ih =>
    intro t p k e w hk h hw
    unfold lz_ev
    by_cases hs : 200 ≤ w.2.1
    · rw [if_pos hs]
      exact lz_st.rf hw (Or.inl (by decide))
    · rw [if_neg hs]
      by_cases h84 : lz_cd t p = 84
      · exact (lz_body_stT (w := (w.1, w.2.1 + 1, w.2.2)) ih hk h hw h84).step hs
      · exact (lz_body_st (w := (w.1, w.2.1 + 1, w.2.2)) ih hk h hw h84).up.step hs
end EVO
end
section
/-! NAMES: written by a program out of the listing and the tables. -/
def mxF_0 : u_T := fun k => match k with
  | 0 => ("LazyBuilder", "line", "LLazyBuilder$Text;", true)
  | 1 => ("LazyBuilder", "store", "LLazyBuilder$Store;", true)
  | 2 => ("LazyBuilder", "worker", "LLazyBuilder$Worker;", true)
  | 3 => ("LazyBuilder", "shown", "J", false)
  | _ => ("LazyBuilder", "badPlace", "I", false)
def mx_cl0_0 : vw_C := ("LazyBuilder", mxF_0, 5)
theorem mdf_0 : ∀ j, j < 5 → (parseFieldDescriptor (mxF_0 j).2.2.1).map defaultValue = ([.null, .null, .null, .long 0, .int 0] : List Value)[j]? := by decide +kernel
def mxF_1 : u_T := fun k => match k with
  | 0 => ("LazyBuilder$Text", "codes", "[I", true)
  | 1 => ("LazyBuilder$Text", "ends", "[I", true)
  | 2 => ("LazyBuilder$Text", "length", "I", false)
  | 3 => ("LazyBuilder$Text", "depth", "I", false)
  | _ => ("LazyBuilder$Text", "badPlace", "I", false)
def mx_cl0_1 : vw_C := ("LazyBuilder$Text", mxF_1, 5)
theorem mdf_1 : ∀ j, j < 5 → (parseFieldDescriptor (mxF_1 j).2.2.1).map defaultValue = ([.null, .null, .int 0, .int 0, .int 0] : List Value)[j]? := by decide +kernel
def mxF_2 : u_T := fun k => match k with
  | 0 => ("LazyBuilder$Name", "text", "LLazyBuilder$Text;", true)
  | 1 => ("LazyBuilder$Name", "bound", "Z", false)
  | 2 => ("LazyBuilder$Name", "busy", "Z", false)
  | _ => ("LazyBuilder$Name", "kept", "J", false)
def mx_cl0_2 : vw_C := ("LazyBuilder$Name", mxF_2, 4)
theorem mdf_2 : ∀ j, j < 4 → (parseFieldDescriptor (mxF_2 j).2.2.1).map defaultValue = ([.null, .int 0, .int 0, .long 0] : List Value)[j]? := by decide +kernel
def mxF_3 : u_T := fun k => match k with
  | 0 => ("LazyBuilder$Plan", "maker", "I", true)
  | 1 => ("LazyBuilder$Plan", "inputs", "[J", true)
  | 2 => ("LazyBuilder$Plan", "isBuilt", "Z", false)
  | 3 => ("LazyBuilder$Plan", "isRoot", "Z", false)
  | 4 => ("LazyBuilder$Plan", "isWanted", "Z", false)
  | _ => ("LazyBuilder$Plan", "result", "I", false)
def mx_cl0_3 : vw_C := ("LazyBuilder$Plan", mxF_3, 6)
theorem mdf_3 : ∀ j, j < 6 → (parseFieldDescriptor (mxF_3 j).2.2.1).map defaultValue = ([.int 0, .null, .int 0, .int 0, .int 0, .int 0] : List Value)[j]? := by decide +kernel
def mxF_4 : u_T := fun k => match k with
  | 0 => ("LazyBuilder$Store", "plans", "[LLazyBuilder$Plan;", true)
  | 1 => ("LazyBuilder$Store", "kinds", "[I", true)
  | 2 => ("LazyBuilder$Store", "size", "I", false)
  | _ => ("LazyBuilder$Store", "builds", "I", false)
def mx_cl0_4 : vw_C := ("LazyBuilder$Store", mxF_4, 4)
theorem mdf_4 : ∀ j, j < 4 → (parseFieldDescriptor (mxF_4 j).2.2.1).map defaultValue = ([.null, .null, .int 0, .int 0] : List Value)[j]? := by decide +kernel
def mxF_5 : u_T := fun k => match k with
  | 0 => ("LazyBuilder$Worker", "names", "[LLazyBuilder$Name;", true)
  | 1 => ("LazyBuilder$Worker", "store", "LLazyBuilder$Store;", true)
  | 2 => ("LazyBuilder$Worker", "lists", "[J", true)
  | 3 => ("LazyBuilder$Worker", "steps", "I", false)
  | _ => ("LazyBuilder$Worker", "failures", "I", false)
def mx_cl0_5 : vw_C := ("LazyBuilder$Worker", mxF_5, 5)
theorem mdf_5 : ∀ j, j < 5 → (parseFieldDescriptor (mxF_5 j).2.2.1).map defaultValue = ([.null, .null, .null, .int 0, .int 0] : List Value)[j]? := by decide +kernel
def mxF_6 : u_T := fun k => match k with
  | 0 => ("LazyBuilderModel", "text", "[I", true)
  | 1 => ("LazyBuilderModel", "size", "[I", true)
  | 2 => ("LazyBuilderModel", "kept", "[J", true)
  | 3 => ("LazyBuilderModel", "has", "[Z", true)
  | 4 => ("LazyBuilderModel", "bound", "[Z", true)
  | 5 => ("LazyBuilderModel", "working", "[Z", true)
  | 6 => ("LazyBuilderModel", "bad", "I", false)
  | 7 => ("LazyBuilderModel", "depth", "I", false)
  | 8 => ("LazyBuilderModel", "rest", "[I", true)
  | 9 => ("LazyBuilderModel", "list", "[Z", true)
  | 10 => ("LazyBuilderModel", "came", "[I", true)
  | 11 => ("LazyBuilderModel", "level", "I", false)
  | 12 => ("LazyBuilderModel", "sign", "[I", true)
  | 13 => ("LazyBuilderModel", "of", "[I", true)
  | 14 => ("LazyBuilderModel", "next", "[I", true)
  | 15 => ("LazyBuilderModel", "parts", "[I", true)
  | 16 => ("LazyBuilderModel", "digitOf", "[I", true)
  | 17 => ("LazyBuilderModel", "pushed", "Z", false)
  | 18 => ("LazyBuilderModel", "value", "[J", true)
  | 19 => ("LazyBuilderModel", "frames", "I", false)
  | 20 => ("LazyBuilderModel", "steps", "I", false)
  | 21 => ("LazyBuilderModel", "failures", "I", false)
  | 22 => ("LazyBuilderModel", "failure", "I", false)
  | 23 => ("LazyBuilderModel", "result", "J", false)
  | 24 => ("LazyBuilderModel", "maker", "[I", true)
  | 25 => ("LazyBuilderModel", "inputs", "[I", true)
  | 26 => ("LazyBuilderModel", "input", "[J", true)
  | 27 => ("LazyBuilderModel", "built", "[Z", true)
  | 28 => ("LazyBuilderModel", "made", "[I", true)
  | 29 => ("LazyBuilderModel", "root", "[Z", true)
  | 30 => ("LazyBuilderModel", "near", "[Z", true)
  | 31 => ("LazyBuilderModel", "kind", "[I", true)
  | 32 => ("LazyBuilderModel", "way", "[I", true)
  | 33 => ("LazyBuilderModel", "done", "[I", true)
  | 34 => ("LazyBuilderModel", "plans", "I", false)
  | _ => ("LazyBuilderModel", "builds", "I", false)
def mx_cl0_6 : vw_C := ("LazyBuilderModel", mxF_6, 36)
theorem mdf_6 : ∀ j, j < 36 → (parseFieldDescriptor (mxF_6 j).2.2.1).map defaultValue = ([.null, .null, .null, .null, .null, .null, .int 0, .int 0, .null, .null, .null, .int 0, .null, .null, .null, .null, .null, .int 0, .null, .int 0, .int 0, .int 0, .int 0, .long 0, .null, .null, .null, .null, .null, .null, .null, .null, .null, .null, .int 0, .int 0] : List Value)[j]? := by decide +kernel
def mx_arr0 : Nat → Option FieldType := fun k => match k with
  | 100 => some .int
  | 101 => some .int
  | 102 => some .long
  | 103 => some .boolean
  | 104 => some .int
  | 106 => some .long
  | 107 => some .boolean
  | 112 => some (.object "LazyBuilder$Name")
  | 113 => some (.object "LazyBuilder$Plan")
  | _ => none
def y_LB_init : MethodName := ⟨"LazyBuilder", "<init>", "()V"⟩
def mm_LB_init : mx_M := (y_LB_init, prog_1_method_1_code, 1, none)
def y_LB_type : MethodName := ⟨"LazyBuilder", "type", "(I)I"⟩
def mm_LB_type : mx_M := (y_LB_type, prog_1_method_2_code, 2, some .int)
def y_LB_types : MethodName := ⟨"LazyBuilder", "types", "(J)I"⟩
def mm_LB_types : mx_M := (y_LB_types, prog_1_method_3_code, 6, some .int)
def y_LB_define : MethodName := ⟨"LazyBuilder", "define", "(I)I"⟩
def mm_LB_define : mx_M := (y_LB_define, prog_1_method_4_code, 3, some .int)
def y_LB_undefine : MethodName := ⟨"LazyBuilder", "undefine", "(I)I"⟩
def mm_LB_undefine : mx_M := (y_LB_undefine, prog_1_method_5_code, 2, some .int)
def y_LB_force : MethodName := ⟨"LazyBuilder", "force", "(I)I"⟩
def mm_LB_force : mx_M := (y_LB_force, prog_1_method_6_code, 2, some .int)
def y_LB_show : MethodName := ⟨"LazyBuilder", "show", "()I"⟩
def mm_LB_show : mx_M := (y_LB_show, prog_1_method_7_code, 2, some .int)
def y_LB_value : MethodName := ⟨"LazyBuilder", "value", "(I)J"⟩
def mm_LB_value : mx_M := (y_LB_value, prog_1_method_8_code, 2, some .long)
def y_LB_builder : MethodName := ⟨"LazyBuilder", "builder", "(II)I"⟩
def mm_LB_builder : mx_M := (y_LB_builder, prog_1_method_9_code, 3, some .int)
def y_LB_build : MethodName := ⟨"LazyBuilder", "build", "(I)I"⟩
def mm_LB_build : mx_M := (y_LB_build, prog_1_method_10_code, 2, some .int)
def y_LB_root : MethodName := ⟨"LazyBuilder", "root", "(IZ)I"⟩
def mm_LB_root : mx_M := (y_LB_root, prog_1_method_11_code, 4, some .int)
def y_LB_collect : MethodName := ⟨"LazyBuilder", "collect", "()I"⟩
def mm_LB_collect : mx_M := (y_LB_collect, prog_1_method_12_code, 1, some .int)
def y_LB_input : MethodName := ⟨"LazyBuilder", "input", "(II)J"⟩
def mm_LB_input : mx_M := (y_LB_input, prog_1_method_13_code, 4, some .long)
def y_LB_plan : MethodName := ⟨"LazyBuilder", "plan", "(II)I"⟩
def mm_LB_plan : mx_M := (y_LB_plan, prog_1_method_14_code, 4, some .int)
def y_LB_count : MethodName := ⟨"LazyBuilder", "count", "(I)I"⟩
def mm_LB_count : mx_M := (y_LB_count, prog_1_method_15_code, 2, some .int)
def y_LB_readLine : MethodName := ⟨"LazyBuilder", "readLine", "()Z"⟩
def mm_LB_readLine : mx_M := (y_LB_readLine, prog_1_method_16_code, 1, some .boolean)
def y_LB_workLineOut : MethodName := ⟨"LazyBuilder", "workLineOut", "()I"⟩
def mm_LB_workLineOut : mx_M := (y_LB_workLineOut, prog_1_method_17_code, 3, some .int)
def y_LB_isNameNumber : MethodName := ⟨"LazyBuilder", "isNameNumber", "(I)Z"⟩
def mm_LB_isNameNumber : mx_M := (y_LB_isNameNumber, prog_1_method_18_code, 1, some .boolean)
def y_LB_isDigit : MethodName := ⟨"LazyBuilder", "isDigit", "(I)Z"⟩
def mm_LB_isDigit : mx_M := (y_LB_isDigit, prog_1_method_19_code, 1, some .boolean)
def y_LB_isLetter : MethodName := ⟨"LazyBuilder", "isLetter", "(I)Z"⟩
def mm_LB_isLetter : mx_M := (y_LB_isLetter, prog_1_method_20_code, 1, some .boolean)
def y_LB_partsAfter : MethodName := ⟨"LazyBuilder", "partsAfter", "(I)I"⟩
def mm_LB_partsAfter : mx_M := (y_LB_partsAfter, prog_1_method_21_code, 1, some .int)
def y_LB_isFailure : MethodName := ⟨"LazyBuilder", "isFailure", "(J)Z"⟩
def mm_LB_isFailure : mx_M := (y_LB_isFailure, prog_1_method_22_code, 2, some .boolean)
def y_LB_isPlan : MethodName := ⟨"LazyBuilder", "isPlan", "(J)Z"⟩
def mm_LB_isPlan : mx_M := (y_LB_isPlan, prog_1_method_23_code, 2, some .boolean)
def y_LB_numberOf : MethodName := ⟨"LazyBuilder", "numberOf", "(J)I"⟩
def mm_LB_numberOf : mx_M := (y_LB_numberOf, prog_1_method_24_code, 2, some .int)
def y_LBText_init : MethodName := ⟨"LazyBuilder$Text", "<init>", "()V"⟩
def mm_LBText_init : mx_M := (y_LBText_init, prog_5_method_1_code, 1, none)
def y_LBText_append : MethodName := ⟨"LazyBuilder$Text", "append", "(I)I"⟩
def mm_LBText_append : mx_M := (y_LBText_append, prog_5_method_2_code, 2, some .int)
def y_LBText_clear : MethodName := ⟨"LazyBuilder$Text", "clear", "()V"⟩
def mm_LBText_clear : mx_M := (y_LBText_clear, prog_5_method_3_code, 1, none)
def y_LBText_copyFrom : MethodName := ⟨"LazyBuilder$Text", "copyFrom", "(LLazyBuilder$Text;)V"⟩
def mm_LBText_copyFrom : mx_M := (y_LBText_copyFrom, prog_5_method_4_code, 2, none)
def y_LBText_codeAt : MethodName := ⟨"LazyBuilder$Text", "codeAt", "(I)I"⟩
def mm_LBText_codeAt : mx_M := (y_LBText_codeAt, prog_5_method_5_code, 2, some .int)
def y_LBText_endOf : MethodName := ⟨"LazyBuilder$Text", "endOf", "(I)I"⟩
def mm_LBText_endOf : mx_M := (y_LBText_endOf, prog_5_method_6_code, 2, some .int)
def y_LBText_read : MethodName := ⟨"LazyBuilder$Text", "read", "()Z"⟩
def mm_LBText_read : mx_M := (y_LBText_read, prog_5_method_7_code, 2, some .boolean)
def y_LBText_readExpression : MethodName := ⟨"LazyBuilder$Text", "readExpression", "(II)I"⟩
def mm_LBText_readExpression : mx_M := (y_LBText_readExpression, prog_5_method_8_code, 4, some .int)
def y_LBText_readKind : MethodName := ⟨"LazyBuilder$Text", "readKind", "(II)I"⟩
def mm_LBText_readKind : mx_M := (y_LBText_readKind, prog_5_method_9_code, 7, some .int)
def y_LBText_readPlan : MethodName := ⟨"LazyBuilder$Text", "readPlan", "(II)I"⟩
def mm_LBText_readPlan : mx_M := (y_LBText_readPlan, prog_5_method_10_code, 5, some .int)
def y_LBText_badAt : MethodName := ⟨"LazyBuilder$Text", "badAt", "(I)I"⟩
def mm_LBText_badAt : mx_M := (y_LBText_badAt, prog_5_method_11_code, 2, some .int)
def y_LBText_belongs : MethodName := ⟨"LazyBuilder$Text", "belongs", "(I)Z"⟩
def mm_LBText_belongs : mx_M := (y_LBText_belongs, prog_5_method_12_code, 1, some .boolean)
def y_LBName_init : MethodName := ⟨"LazyBuilder$Name", "<init>", "()V"⟩
def mm_LBName_init : mx_M := (y_LBName_init, prog_2_method_1_code, 1, none)
def y_LBPlan_init : MethodName := ⟨"LazyBuilder$Plan", "<init>", "(I[J)V"⟩
def mm_LBPlan_init : mx_M := (y_LBPlan_init, prog_3_method_1_code, 3, none)
def y_LBPlan_isAlike : MethodName := ⟨"LazyBuilder$Plan", "isAlike", "(I[JII)Z"⟩
def mm_LBPlan_isAlike : mx_M := (y_LBPlan_isAlike, prog_3_method_2_code, 6, some .boolean)
def y_LBStore_init : MethodName := ⟨"LazyBuilder$Store", "<init>", "()V"⟩
def mm_LBStore_init : mx_M := (y_LBStore_init, prog_4_method_1_code, 1, none)
def y_LBStore_planAt : MethodName := ⟨"LazyBuilder$Store", "planAt", "(I)LLazyBuilder$Plan;"⟩
def mm_LBStore_planAt : mx_M := (y_LBStore_planAt, prog_4_method_2_code, 2, some (.object "LazyBuilder$Plan"))
def y_LBStore_planIn : MethodName := ⟨"LazyBuilder$Store", "planIn", "(J)LLazyBuilder$Plan;"⟩
def mm_LBStore_planIn : mx_M := (y_LBStore_planIn, prog_4_method_3_code, 3, some (.object "LazyBuilder$Plan"))
def y_LBStore_planOf : MethodName := ⟨"LazyBuilder$Store", "planOf", "(I[JII)J"⟩
def mm_LBStore_planOf : mx_M := (y_LBStore_planOf, prog_4_method_4_code, 6, some .long)
def y_LBStore_resultOf : MethodName := ⟨"LazyBuilder$Store", "resultOf", "(J)J"⟩
def mm_LBStore_resultOf : mx_M := (y_LBStore_resultOf, prog_4_method_5_code, 3, some .long)
def y_LBStore_partOf : MethodName := ⟨"LazyBuilder$Store", "partOf", "(JI)J"⟩
def mm_LBStore_partOf : mx_M := (y_LBStore_partOf, prog_4_method_6_code, 9, some .long)
def y_LBStore_finish : MethodName := ⟨"LazyBuilder$Store", "finish", "(LLazyBuilder$Plan;)J"⟩
def mm_LBStore_finish : mx_M := (y_LBStore_finish, prog_4_method_7_code, 3, some .long)
def y_LBStore_outcome : MethodName := ⟨"LazyBuilder$Store", "outcome", "(LLazyBuilder$Plan;I)I"⟩
def mm_LBStore_outcome : mx_M := (y_LBStore_outcome, prog_4_method_8_code, 3, some .int)
def y_LBStore_sumOf : MethodName := ⟨"LazyBuilder$Store", "sumOf", "(LLazyBuilder$Plan;)I"⟩
def mm_LBStore_sumOf : mx_M := (y_LBStore_sumOf, prog_4_method_9_code, 4, some .int)
def y_LBStore_productOf : MethodName := ⟨"LazyBuilder$Store", "productOf", "(LLazyBuilder$Plan;)I"⟩
def mm_LBStore_productOf : mx_M := (y_LBStore_productOf, prog_4_method_10_code, 4, some .int)
def y_LBStore_greatestOf : MethodName := ⟨"LazyBuilder$Store", "greatestOf", "(LLazyBuilder$Plan;)I"⟩
def mm_LBStore_greatestOf : mx_M := (y_LBStore_greatestOf, prog_4_method_11_code, 4, some .int)
def y_LBStore_readyPart : MethodName := ⟨"LazyBuilder$Store", "readyPart", "(J)I"⟩
def mm_LBStore_readyPart : mx_M := (y_LBStore_readyPart, prog_4_method_12_code, 4, some .int)
def y_LBStore_sweep : MethodName := ⟨"LazyBuilder$Store", "sweep", "()I"⟩
def mm_LBStore_sweep : mx_M := (y_LBStore_sweep, prog_4_method_13_code, 3, some .int)
def y_LBStore_wantInputs : MethodName := ⟨"LazyBuilder$Store", "wantInputs", "(LLazyBuilder$Plan;)V"⟩
def mm_LBStore_wantInputs : mx_M := (y_LBStore_wantInputs, prog_4_method_14_code, 4, none)
def y_LBWorker_init : MethodName := ⟨"LazyBuilder$Worker", "<init>", "(LLazyBuilder$Store;)V"⟩
def mm_LBWorker_init : mx_M := (y_LBWorker_init, prog_6_method_1_code, 3, none)
def y_LBWorker_bind : MethodName := ⟨"LazyBuilder$Worker", "bind", "(ILLazyBuilder$Text;)V"⟩
def mm_LBWorker_bind : mx_M := (y_LBWorker_bind, prog_6_method_2_code, 3, none)
def y_LBWorker_unbind : MethodName := ⟨"LazyBuilder$Worker", "unbind", "(I)V"⟩
def mm_LBWorker_unbind : mx_M := (y_LBWorker_unbind, prog_6_method_3_code, 2, none)
def y_LBWorker_forgetValues : MethodName := ⟨"LazyBuilder$Worker", "forgetValues", "()V"⟩
def mm_LBWorker_forgetValues : mx_M := (y_LBWorker_forgetValues, prog_6_method_4_code, 2, none)
def y_LBWorker_namesBound : MethodName := ⟨"LazyBuilder$Worker", "namesBound", "()I"⟩
def mm_LBWorker_namesBound : mx_M := (y_LBWorker_namesBound, prog_6_method_5_code, 3, some .int)
def y_LBWorker_namesKept : MethodName := ⟨"LazyBuilder$Worker", "namesKept", "()I"⟩
def mm_LBWorker_namesKept : mx_M := (y_LBWorker_namesKept, prog_6_method_6_code, 3, some .int)
def y_LBWorker_isClosed : MethodName := ⟨"LazyBuilder$Worker", "isClosed", "()Z"⟩
def mm_LBWorker_isClosed : mx_M := (y_LBWorker_isClosed, prog_6_method_7_code, 1, some .boolean)
def y_LBWorker_answerOf : MethodName := ⟨"LazyBuilder$Worker", "answerOf", "(J)I"⟩
def mm_LBWorker_answerOf : mx_M := (y_LBWorker_answerOf, prog_6_method_8_code, 3, some .int)
def y_LBWorker_workOutName : MethodName := ⟨"LazyBuilder$Worker", "workOutName", "(I)J"⟩
def mm_LBWorker_workOutName : mx_M := (y_LBWorker_workOutName, prog_6_method_9_code, 2, some .long)
def y_LBWorker_workOutText : MethodName := ⟨"LazyBuilder$Worker", "workOutText", "(LLazyBuilder$Text;)J"⟩
def mm_LBWorker_workOutText : mx_M := (y_LBWorker_workOutText, prog_6_method_10_code, 2, some .long)
def y_LBWorker_work : MethodName := ⟨"LazyBuilder$Worker", "work", "(LLazyBuilder$Text;II)J"⟩
def mm_LBWorker_work : mx_M := (y_LBWorker_work, prog_6_method_11_code, 5, some .long)
def y_LBWorker_workName : MethodName := ⟨"LazyBuilder$Worker", "workName", "(II)J"⟩
def mm_LBWorker_workName : mx_M := (y_LBWorker_workName, prog_6_method_12_code, 6, some .long)
def y_LBWorker_workPair : MethodName := ⟨"LazyBuilder$Worker", "workPair", "(LLazyBuilder$Text;II)J"⟩
def mm_LBWorker_workPair : mx_M := (y_LBWorker_workPair, prog_6_method_13_code, 8, some .long)
def y_LBWorker_combine : MethodName := ⟨"LazyBuilder$Worker", "combine", "(III)I"⟩
def mm_LBWorker_combine : mx_M := (y_LBWorker_combine, prog_6_method_14_code, 3, some .int)
def y_LBWorker_workChoice : MethodName := ⟨"LazyBuilder$Worker", "workChoice", "(LLazyBuilder$Text;II)J"⟩
def mm_LBWorker_workChoice : mx_M := (y_LBWorker_workChoice, prog_6_method_15_code, 7, some .long)
def y_LBWorker_workAbort : MethodName := ⟨"LazyBuilder$Worker", "workAbort", "(LLazyBuilder$Text;II)J"⟩
def mm_LBWorker_workAbort : mx_M := (y_LBWorker_workAbort, prog_6_method_16_code, 6, some .long)
def y_LBWorker_workTry : MethodName := ⟨"LazyBuilder$Worker", "workTry", "(LLazyBuilder$Text;II)J"⟩
def mm_LBWorker_workTry : mx_M := (y_LBWorker_workTry, prog_6_method_17_code, 6, some .long)
def y_LBWorker_canBeMadeGood : MethodName := ⟨"LazyBuilder$Worker", "canBeMadeGood", "(J)Z"⟩
def mm_LBWorker_canBeMadeGood : mx_M := (y_LBWorker_canBeMadeGood, prog_6_method_18_code, 2, some .boolean)
def y_LBWorker_workPlan : MethodName := ⟨"LazyBuilder$Worker", "workPlan", "(LLazyBuilder$Text;II)J"⟩
def mm_LBWorker_workPlan : mx_M := (y_LBWorker_workPlan, prog_6_method_19_code, 9, some .long)
def y_LBWorker_workResult : MethodName := ⟨"LazyBuilder$Worker", "workResult", "(LLazyBuilder$Text;II)J"⟩
def mm_LBWorker_workResult : mx_M := (y_LBWorker_workResult, prog_6_method_20_code, 6, some .long)
def y_RM_init : MethodName := ⟨"LazyBuilderModel", "<init>", "()V"⟩
def mm_RM_init : mx_M := (y_RM_init, prog_8_method_1_code, 1, none)
def y_RM_digit : MethodName := ⟨"LazyBuilderModel", "digit", "(I)Z"⟩
def mm_RM_digit : mx_M := (y_RM_digit, prog_8_method_2_code, 2, some .boolean)
def y_RM_name : MethodName := ⟨"LazyBuilderModel", "name", "(I)Z"⟩
def mm_RM_name : mx_M := (y_RM_name, prog_8_method_3_code, 2, some .boolean)
def y_RM_wants : MethodName := ⟨"LazyBuilderModel", "wants", "(I)I"⟩
def mm_RM_wants : mx_M := (y_RM_wants, prog_8_method_4_code, 2, some .int)
def y_RM_type : MethodName := ⟨"LazyBuilderModel", "type", "(I)I"⟩
def mm_RM_type : mx_M := (y_RM_type, prog_8_method_5_code, 2, some .int)
def y_RM_types : MethodName := ⟨"LazyBuilderModel", "types", "(J)I"⟩
def mm_RM_types : mx_M := (y_RM_types, prog_8_method_6_code, 6, some .int)
def y_RM_complete : MethodName := ⟨"LazyBuilderModel", "complete", "()V"⟩
def mm_RM_complete : mx_M := (y_RM_complete, prog_8_method_7_code, 2, none)
def y_RM_deeper : MethodName := ⟨"LazyBuilderModel", "deeper", "(IZ)V"⟩
def mm_RM_deeper : mx_M := (y_RM_deeper, prog_8_method_8_code, 3, none)
def y_RM_badPlace : MethodName := ⟨"LazyBuilderModel", "badPlace", "()I"⟩
def mm_RM_badPlace : mx_M := (y_RM_badPlace, prog_8_method_9_code, 4, some .int)
def y_RM_forget : MethodName := ⟨"LazyBuilderModel", "forget", "()V"⟩
def mm_RM_forget : mx_M := (y_RM_forget, prog_8_method_10_code, 2, none)
def y_RM_syntax : MethodName := ⟨"LazyBuilderModel", "syntax", "()Z"⟩
def mm_RM_syntax : mx_M := (y_RM_syntax, prog_8_method_11_code, 2, some .boolean)
def y_RM_define : MethodName := ⟨"LazyBuilderModel", "define", "(I)I"⟩
def mm_RM_define : mx_M := (y_RM_define, prog_8_method_12_code, 4, some .int)
def y_RM_undefine : MethodName := ⟨"LazyBuilderModel", "undefine", "(I)I"⟩
def mm_RM_undefine : mx_M := (y_RM_undefine, prog_8_method_13_code, 2, some .int)
def y_RM_behind : MethodName := ⟨"LazyBuilderModel", "behind", "(II)I"⟩
def mm_RM_behind : mx_M := (y_RM_behind, prog_8_method_14_code, 8, some .int)
def y_RM_begin : MethodName := ⟨"LazyBuilderModel", "begin", "(II)V"⟩
def mm_RM_begin : mx_M := (y_RM_begin, prog_8_method_15_code, 4, none)
def y_RM_enter : MethodName := ⟨"LazyBuilderModel", "enter", "(I)Z"⟩
def mm_RM_enter : mx_M := (y_RM_enter, prog_8_method_16_code, 2, some .boolean)
def y_RM_isNumber : MethodName := ⟨"LazyBuilderModel", "isNumber", "(J)Z"⟩
def mm_RM_isNumber : mx_M := (y_RM_isNumber, prog_8_method_17_code, 3, some .boolean)
def y_RM_operate : MethodName := ⟨"LazyBuilderModel", "operate", "(I)V"⟩
def mm_RM_operate : mx_M := (y_RM_operate, prog_8_method_18_code, 7, none)
def y_RM_describe : MethodName := ⟨"LazyBuilderModel", "describe", "(I)V"⟩
def mm_RM_describe : mx_M := (y_RM_describe, prog_8_method_19_code, 5, none)
def y_RM_order : MethodName := ⟨"LazyBuilderModel", "order", "(I)V"⟩
def mm_RM_order : mx_M := (y_RM_order, prog_8_method_20_code, 4, none)
def y_RM_proceed : MethodName := ⟨"LazyBuilderModel", "proceed", "()V"⟩
def mm_RM_proceed : mx_M := (y_RM_proceed, prog_8_method_21_code, 7, none)
def y_RM_mild : MethodName := ⟨"LazyBuilderModel", "mild", "()Z"⟩
def mm_RM_mild : mx_M := (y_RM_mild, prog_8_method_22_code, 1, some .boolean)
def y_RM_unwind : MethodName := ⟨"LazyBuilderModel", "unwind", "()V"⟩
def mm_RM_unwind : mx_M := (y_RM_unwind, prog_8_method_23_code, 3, none)
def y_RM_work : MethodName := ⟨"LazyBuilderModel", "work", "(II)I"⟩
def mm_RM_work : mx_M := (y_RM_work, prog_8_method_24_code, 3, some .int)
def y_RM_force : MethodName := ⟨"LazyBuilderModel", "force", "(I)I"⟩
def mm_RM_force : mx_M := (y_RM_force, prog_8_method_25_code, 2, some .int)
def y_RM_show : MethodName := ⟨"LazyBuilderModel", "show", "()I"⟩
def mm_RM_show : mx_M := (y_RM_show, prog_8_method_26_code, 3, some .int)
def y_RM_part : MethodName := ⟨"LazyBuilderModel", "part", "(II)J"⟩
def mm_RM_part : mx_M := (y_RM_part, prog_8_method_27_code, 5, some .long)
def y_RM_assemble : MethodName := ⟨"LazyBuilderModel", "assemble", "(I)Z"⟩
def mm_RM_assemble : mx_M := (y_RM_assemble, prog_8_method_28_code, 8, some .boolean)
def y_RM_construct : MethodName := ⟨"LazyBuilderModel", "construct", "(I)Z"⟩
def mm_RM_construct : mx_M := (y_RM_construct, prog_8_method_29_code, 7, some .boolean)
def y_RM_value : MethodName := ⟨"LazyBuilderModel", "value", "(I)J"⟩
def mm_RM_value : mx_M := (y_RM_value, prog_8_method_30_code, 2, some .long)
def y_RM_builder : MethodName := ⟨"LazyBuilderModel", "builder", "(II)I"⟩
def mm_RM_builder : mx_M := (y_RM_builder, prog_8_method_31_code, 3, some .int)
def y_RM_noPlan : MethodName := ⟨"LazyBuilderModel", "noPlan", "(I)Z"⟩
def mm_RM_noPlan : mx_M := (y_RM_noPlan, prog_8_method_32_code, 2, some .boolean)
def y_RM_build : MethodName := ⟨"LazyBuilderModel", "build", "(I)I"⟩
def mm_RM_build : mx_M := (y_RM_build, prog_8_method_33_code, 2, some .int)
def y_RM_root : MethodName := ⟨"LazyBuilderModel", "root", "(IZ)I"⟩
def mm_RM_root : mx_M := (y_RM_root, prog_8_method_34_code, 3, some .int)
def y_RM_collect : MethodName := ⟨"LazyBuilderModel", "collect", "()I"⟩
def mm_RM_collect : mx_M := (y_RM_collect, prog_8_method_35_code, 4, some .int)
def y_RM_input : MethodName := ⟨"LazyBuilderModel", "input", "(II)J"⟩
def mm_RM_input : mx_M := (y_RM_input, prog_8_method_36_code, 3, some .long)
def y_RM_plan : MethodName := ⟨"LazyBuilderModel", "plan", "(II)I"⟩
def mm_RM_plan : mx_M := (y_RM_plan, prog_8_method_37_code, 3, some .int)
def y_RM_count : MethodName := ⟨"LazyBuilderModel", "count", "(I)I"⟩
def mm_RM_count : mx_M := (y_RM_count, prog_8_method_38_code, 4, some .int)
def mx_N0 : List Cond := [Cond.methodLinkNest "LazyBuilder$Text" 66 y_LB_partsAfter "LazyBuilder", Cond.methodLinkNest "LazyBuilder$Text" 60 y_LB_isLetter "LazyBuilder", Cond.methodLinkNest "LazyBuilder$Text" 57 y_LB_isDigit "LazyBuilder", Cond.methodLinkNest "LazyBuilder$Store" 29 y_LB_numberOf "LazyBuilder", Cond.methodLinkNest "LazyBuilder$Store" 25 y_LB_isPlan "LazyBuilder", Cond.methodLinkNest "LazyBuilder$Store" 75 y_LB_isFailure "LazyBuilder", Cond.methodLinkNest "LazyBuilder$Worker" 53 y_LB_isFailure "LazyBuilder", Cond.methodLinkNest "LazyBuilder$Worker" 78 y_LB_isLetter "LazyBuilder", Cond.methodLinkNest "LazyBuilder$Worker" 74 y_LB_isDigit "LazyBuilder", Cond.methodLinkNest "LazyBuilder$Worker" 109 y_LB_isPlan "LazyBuilder"]
def mx_T0 : List Cond := lw_tbl.filter goodWord
def mx_S0 : mx_S := (mx_T0, [mx_cl0_0, mx_cl0_1, mx_cl0_2, mx_cl0_3, mx_cl0_4, mx_cl0_5, mx_cl0_6], mx_arr0, mx_N0, ["LazyBuilder$Name", "LazyBuilder$Plan"])
theorem mx_mem {w : Cond} (h : w ∈ tables_1) (hg : goodWord w = true) : w ∈ mx_S0.1 := List.mem_filter.mpr ⟨List.mem_append_right _ h, hg⟩
theorem mx_memp {w : Cond} (h : w ∈ k2_sels lw_privs) (hg : goodWord w = true) : w ∈ mx_S0.1 := List.mem_filter.mpr ⟨List.mem_append_left _ h, hg⟩
theorem kn_0 : Cond.methodLinkNest "LazyBuilder$Text" 66 y_LB_partsAfter "LazyBuilder" ∈ mx_S0.2.2.2.1 := List.mem_of_getElem? (i := 0) rfl
theorem kn_1 : Cond.methodLinkNest "LazyBuilder$Text" 60 y_LB_isLetter "LazyBuilder" ∈ mx_S0.2.2.2.1 := List.mem_of_getElem? (i := 1) rfl
theorem kn_2 : Cond.methodLinkNest "LazyBuilder$Text" 57 y_LB_isDigit "LazyBuilder" ∈ mx_S0.2.2.2.1 := List.mem_of_getElem? (i := 2) rfl
theorem kn_3 : Cond.methodLinkNest "LazyBuilder$Store" 29 y_LB_numberOf "LazyBuilder" ∈ mx_S0.2.2.2.1 := List.mem_of_getElem? (i := 3) rfl
theorem kn_4 : Cond.methodLinkNest "LazyBuilder$Store" 25 y_LB_isPlan "LazyBuilder" ∈ mx_S0.2.2.2.1 := List.mem_of_getElem? (i := 4) rfl
theorem kn_5 : Cond.methodLinkNest "LazyBuilder$Store" 75 y_LB_isFailure "LazyBuilder" ∈ mx_S0.2.2.2.1 := List.mem_of_getElem? (i := 5) rfl
theorem kn_6 : Cond.methodLinkNest "LazyBuilder$Worker" 53 y_LB_isFailure "LazyBuilder" ∈ mx_S0.2.2.2.1 := List.mem_of_getElem? (i := 6) rfl
theorem kn_7 : Cond.methodLinkNest "LazyBuilder$Worker" 78 y_LB_isLetter "LazyBuilder" ∈ mx_S0.2.2.2.1 := List.mem_of_getElem? (i := 7) rfl
theorem kn_8 : Cond.methodLinkNest "LazyBuilder$Worker" 74 y_LB_isDigit "LazyBuilder" ∈ mx_S0.2.2.2.1 := List.mem_of_getElem? (i := 8) rfl
theorem kn_9 : Cond.methodLinkNest "LazyBuilder$Worker" 109 y_LB_isPlan "LazyBuilder" ∈ mx_S0.2.2.2.1 := List.mem_of_getElem? (i := 9) rfl
end
section
theorem kw_0 : Cond.methodLink "LazyBuilder" 3 objectInit ∈ mx_S0.1 := mx_mem (List.mem_of_getElem? (i := 15) (by decide +kernel)) rfl
theorem kw_1 : Cond.instanceMethod objectInit ∈ mx_S0.1 := mx_mem (List.mem_of_getElem? (i := 16) (by decide +kernel)) rfl
theorem kw_2 : Cond.classLink "LazyBuilder" 9 "LazyBuilder$Text" ∈ mx_S0.1 := mx_mem (List.mem_of_getElem? (i := 18) (by decide +kernel)) rfl
theorem kw_3 : Cond.instantiable "LazyBuilder$Text" 5 ∈ mx_S0.1 := mx_mem (List.mem_of_getElem? (i := 19) (by decide +kernel)) rfl
theorem kw_4 : Cond.initialized "LazyBuilder$Text" ∈ mx_S0.1 := mx_mem (List.mem_of_getElem? (i := 2) (by decide +kernel)) rfl
theorem kw_5 : Cond.fieldLink "LazyBuilder" 12 "LazyBuilder" "line" "LLazyBuilder$Text;" ∈ mx_S0.1 := mx_mem (List.mem_of_getElem? (i := 122) (by decide +kernel)) rfl
theorem kw_6 : Cond.classLink "LazyBuilder" 16 "LazyBuilder$Store" ∈ mx_S0.1 := mx_mem (List.mem_of_getElem? (i := 44) (by decide +kernel)) rfl
theorem kw_7 : Cond.instantiable "LazyBuilder$Store" 4 ∈ mx_S0.1 := mx_mem (List.mem_of_getElem? (i := 45) (by decide +kernel)) rfl
theorem kw_8 : Cond.initialized "LazyBuilder$Store" ∈ mx_S0.1 := mx_mem (List.mem_of_getElem? (i := 3) (by decide +kernel)) rfl
theorem kw_9 : Cond.fieldLink "LazyBuilder" 19 "LazyBuilder" "store" "LLazyBuilder$Store;" ∈ mx_S0.1 := mx_mem (List.mem_of_getElem? (i := 123) (by decide +kernel)) rfl
theorem kw_10 : Cond.classLink "LazyBuilder" 23 "LazyBuilder$Worker" ∈ mx_S0.1 := mx_mem (List.mem_of_getElem? (i := 68) (by decide +kernel)) rfl
theorem kw_11 : Cond.instantiable "LazyBuilder$Worker" 5 ∈ mx_S0.1 := mx_mem (List.mem_of_getElem? (i := 69) (by decide +kernel)) rfl
theorem kw_12 : Cond.initialized "LazyBuilder$Worker" ∈ mx_S0.1 := mx_mem (List.mem_of_getElem? (i := 4) (by decide +kernel)) rfl
theorem kw_13 : Cond.fieldLink "LazyBuilder" 28 "LazyBuilder" "worker" "LLazyBuilder$Worker;" ∈ mx_S0.1 := mx_mem (List.mem_of_getElem? (i := 124) (by decide +kernel)) rfl
theorem kw_14 : Cond.constantLong "LazyBuilder" 32 (-1000000000000) ∈ mx_S0.1 := mx_mem (List.mem_of_getElem? (i := 121) (by decide +kernel)) rfl
theorem kw_15 : Cond.fieldLink "LazyBuilder" 34 "LazyBuilder" "shown" "J" ∈ mx_S0.1 := mx_mem (List.mem_of_getElem? (i := 125) (by decide +kernel)) rfl
theorem kw_16 : Cond.fieldLink "LazyBuilder" 38 "LazyBuilder" "badPlace" "I" ∈ mx_S0.1 := mx_mem (List.mem_of_getElem? (i := 126) (by decide +kernel)) rfl
theorem kw_17 : Cond.methodLink "LazyBuilder" 25 y_LBWorker_init ∈ mx_S0.1 := mx_mem (List.mem_of_getElem? (i := 70) (by decide +kernel)) rfl
theorem kw_18 : Cond.instanceMethod y_LBWorker_init ∈ mx_S0.1 := mx_mem (List.mem_of_getElem? (i := 71) (by decide +kernel)) rfl
theorem kw_19 : Cond.methodLink "LazyBuilder" 18 y_LBStore_init ∈ mx_S0.1 := mx_mem (List.mem_of_getElem? (i := 46) (by decide +kernel)) rfl
theorem kw_20 : Cond.instanceMethod y_LBStore_init ∈ mx_S0.1 := mx_mem (List.mem_of_getElem? (i := 47) (by decide +kernel)) rfl
theorem kw_21 : Cond.methodLink "LazyBuilder" 11 y_LBText_init ∈ mx_S0.1 := mx_mem (List.mem_of_getElem? (i := 20) (by decide +kernel)) rfl
theorem kw_22 : Cond.instanceMethod y_LBText_init ∈ mx_S0.1 := mx_mem (List.mem_of_getElem? (i := 21) (by decide +kernel)) rfl
theorem kw_23 : Cond.methodLink "LazyBuilder" 42 y_LBText_append ∈ mx_S0.1 := mx_mem (List.mem_of_getElem? (i := 142) (by decide +kernel)) rfl
theorem kw_24 : Cond.instanceMethod y_LBText_append ∈ mx_S0.1 := mx_mem (List.mem_of_getElem? (i := 143) (by decide +kernel)) rfl
theorem kw_25 : Cond.selects "LazyBuilder$Text" y_LBText_append y_LBText_append ∈ mx_S0.1 := mx_mem (List.mem_of_getElem? (i := 144) (by decide +kernel)) rfl
theorem kw_26 : Cond.fieldLink "LazyBuilder" 46 "LazyBuilder$Text" "length" "I" ∈ mx_S0.1 := mx_mem (List.mem_of_getElem? (i := 27) (by decide +kernel)) rfl
theorem kw_27 : Cond.fieldLink "LazyBuilder" 57 "LazyBuilder$Text" "depth" "I" ∈ mx_S0.1 := mx_mem (List.mem_of_getElem? (i := 28) (by decide +kernel)) rfl
theorem kw_28 : Cond.methodLink "LazyBuilder" 64 y_LBText_clear ∈ mx_S0.1 := mx_mem (List.mem_of_getElem? (i := 200) (by decide +kernel)) rfl
theorem kw_29 : Cond.instanceMethod y_LBText_clear ∈ mx_S0.1 := mx_mem (List.mem_of_getElem? (i := 201) (by decide +kernel)) rfl
theorem kw_30 : Cond.selects "LazyBuilder$Text" y_LBText_clear y_LBText_clear ∈ mx_S0.1 := mx_mem (List.mem_of_getElem? (i := 202) (by decide +kernel)) rfl
theorem kw_31 : Cond.methodLink "LazyBuilder" 60 y_LBWorker_bind ∈ mx_S0.1 := mx_mem (List.mem_of_getElem? (i := 204) (by decide +kernel)) rfl
theorem kw_32 : Cond.instanceMethod y_LBWorker_bind ∈ mx_S0.1 := mx_mem (List.mem_of_getElem? (i := 205) (by decide +kernel)) rfl
theorem kw_33 : Cond.selects "LazyBuilder$Worker" y_LBWorker_bind y_LBWorker_bind ∈ mx_S0.1 := mx_mem (List.mem_of_getElem? (i := 206) (by decide +kernel)) rfl
theorem kw_34 : Cond.methodLink "LazyBuilder" 53 y_LB_readLine ∈ mx_S0.1 := mx_mem (List.mem_of_getElem? (i := 169) (by decide +kernel)) rfl
theorem kw_35 : Cond.instanceMethod y_LB_readLine ∈ mx_S0.1 := mx_mem (List.mem_of_getElem? (i := 171) (by decide +kernel)) rfl
theorem kw_36 : Cond.selects "LazyBuilder" y_LB_readLine y_LB_readLine ∈ mx_S0.1 := mx_memp (List.mem_of_getElem? (i := 0) (by decide +kernel)) rfl
theorem kw_37 : Cond.methodLink "LazyBuilder" 49 y_LB_isNameNumber ∈ mx_S0.1 := mx_mem (List.mem_of_getElem? (i := 166) (by decide +kernel)) rfl
theorem kw_38 : Cond.static y_LB_isNameNumber ∈ mx_S0.1 := mx_mem (List.mem_of_getElem? (i := 167) (by decide +kernel)) rfl
theorem kw_39 : Cond.fieldLink "LazyBuilder" 67 "LazyBuilder$Worker" "names" "[LLazyBuilder$Name;" ∈ mx_S0.1 := mx_mem (List.mem_of_getElem? (i := 102) (by decide +kernel)) rfl
theorem kw_40 : Cond.fieldLink "LazyBuilder" 71 "LazyBuilder$Name" "bound" "Z" ∈ mx_S0.1 := mx_mem (List.mem_of_getElem? (i := 87) (by decide +kernel)) rfl
theorem kw_41 : Cond.methodLink "LazyBuilder" 77 y_LBWorker_unbind ∈ mx_S0.1 := mx_mem (List.mem_of_getElem? (i := 224) (by decide +kernel)) rfl
theorem kw_42 : Cond.instanceMethod y_LBWorker_unbind ∈ mx_S0.1 := mx_mem (List.mem_of_getElem? (i := 225) (by decide +kernel)) rfl
theorem kw_43 : Cond.selects "LazyBuilder$Worker" y_LBWorker_unbind y_LBWorker_unbind ∈ mx_S0.1 := mx_mem (List.mem_of_getElem? (i := 226) (by decide +kernel)) rfl
theorem kw_44 : Cond.methodLink "LazyBuilder" 88 y_LBWorker_answerOf ∈ mx_S0.1 := mx_mem (List.mem_of_getElem? (i := 387) (by decide +kernel)) rfl
theorem kw_45 : Cond.instanceMethod y_LBWorker_answerOf ∈ mx_S0.1 := mx_mem (List.mem_of_getElem? (i := 388) (by decide +kernel)) rfl
theorem kw_46 : Cond.selects "LazyBuilder$Worker" y_LBWorker_answerOf y_LBWorker_answerOf ∈ mx_S0.1 := mx_mem (List.mem_of_getElem? (i := 389) (by decide +kernel)) rfl
theorem kw_47 : Cond.methodLink "LazyBuilder" 84 y_LBWorker_workOutName ∈ mx_S0.1 := mx_mem (List.mem_of_getElem? (i := 236) (by decide +kernel)) rfl
theorem kw_48 : Cond.instanceMethod y_LBWorker_workOutName ∈ mx_S0.1 := mx_mem (List.mem_of_getElem? (i := 237) (by decide +kernel)) rfl
theorem kw_49 : Cond.selects "LazyBuilder$Worker" y_LBWorker_workOutName y_LBWorker_workOutName ∈ mx_S0.1 := mx_mem (List.mem_of_getElem? (i := 238) (by decide +kernel)) rfl
theorem kw_50 : Cond.methodLink "LazyBuilder" 81 y_LBWorker_isClosed ∈ mx_S0.1 := mx_mem (List.mem_of_getElem? (i := 232) (by decide +kernel)) rfl
theorem kw_51 : Cond.instanceMethod y_LBWorker_isClosed ∈ mx_S0.1 := mx_mem (List.mem_of_getElem? (i := 233) (by decide +kernel)) rfl
theorem kw_52 : Cond.selects "LazyBuilder$Worker" y_LBWorker_isClosed y_LBWorker_isClosed ∈ mx_S0.1 := mx_mem (List.mem_of_getElem? (i := 234) (by decide +kernel)) rfl
theorem kw_53 : Cond.methodLink "LazyBuilder" 92 y_LB_workLineOut ∈ mx_S0.1 := mx_mem (List.mem_of_getElem? (i := 395) (by decide +kernel)) rfl
theorem kw_54 : Cond.instanceMethod y_LB_workLineOut ∈ mx_S0.1 := mx_mem (List.mem_of_getElem? (i := 397) (by decide +kernel)) rfl
theorem kw_55 : Cond.selects "LazyBuilder" y_LB_workLineOut y_LB_workLineOut ∈ mx_S0.1 := mx_memp (List.mem_of_getElem? (i := 22) (by decide +kernel)) rfl
theorem kw_56 : Cond.fieldLink "LazyBuilder" 96 "LazyBuilder$Name" "kept" "J" ∈ mx_S0.1 := mx_mem (List.mem_of_getElem? (i := 91) (by decide +kernel)) rfl
theorem kw_57 : Cond.fieldLink "LazyBuilder" 99 "LazyBuilder$Store" "kinds" "[I" ∈ mx_S0.1 := mx_mem (List.mem_of_getElem? (i := 54) (by decide +kernel)) rfl
theorem kw_58 : Cond.constantLong "LazyBuilder" 107 1000000000000 ∈ mx_S0.1 := mx_mem (List.mem_of_getElem? (i := 264) (by decide +kernel)) rfl
theorem kw_59 : Cond.methodLink "LazyBuilder" 109 y_LBStore_resultOf ∈ mx_S0.1 := mx_mem (List.mem_of_getElem? (i := 417) (by decide +kernel)) rfl
theorem kw_60 : Cond.instanceMethod y_LBStore_resultOf ∈ mx_S0.1 := mx_mem (List.mem_of_getElem? (i := 334) (by decide +kernel)) rfl
theorem kw_61 : Cond.selects "LazyBuilder$Store" y_LBStore_resultOf y_LBStore_resultOf ∈ mx_S0.1 := mx_mem (List.mem_of_getElem? (i := 335) (by decide +kernel)) rfl
theorem kw_62 : Cond.methodLink "LazyBuilder" 103 y_LBStore_planAt ∈ mx_S0.1 := mx_mem (List.mem_of_getElem? (i := 416) (by decide +kernel)) rfl
theorem kw_63 : Cond.instanceMethod y_LBStore_planAt ∈ mx_S0.1 := mx_mem (List.mem_of_getElem? (i := 350) (by decide +kernel)) rfl
theorem kw_64 : Cond.selects "LazyBuilder$Store" y_LBStore_planAt y_LBStore_planAt ∈ mx_S0.1 := mx_mem (List.mem_of_getElem? (i := 351) (by decide +kernel)) rfl
theorem kw_65 : Cond.fieldLink "LazyBuilder" 113 "LazyBuilder$Plan" "isRoot" "Z" ∈ mx_S0.1 := mx_mem (List.mem_of_getElem? (i := 311) (by decide +kernel)) rfl
theorem kw_66 : Cond.methodLink "LazyBuilder" 118 y_LBStore_sweep ∈ mx_S0.1 := mx_mem (List.mem_of_getElem? (i := 426) (by decide +kernel)) rfl
theorem kw_67 : Cond.instanceMethod y_LBStore_sweep ∈ mx_S0.1 := mx_mem (List.mem_of_getElem? (i := 427) (by decide +kernel)) rfl
theorem kw_68 : Cond.selects "LazyBuilder$Store" y_LBStore_sweep y_LBStore_sweep ∈ mx_S0.1 := mx_mem (List.mem_of_getElem? (i := 428) (by decide +kernel)) rfl
theorem kw_69 : Cond.fieldLink "LazyBuilder" 121 "LazyBuilder$Plan" "inputs" "[J" ∈ mx_S0.1 := mx_mem (List.mem_of_getElem? (i := 308) (by decide +kernel)) rfl
theorem kw_70 : Cond.fieldLink "LazyBuilder" 125 "LazyBuilder$Plan" "maker" "I" ∈ mx_S0.1 := mx_mem (List.mem_of_getElem? (i := 305) (by decide +kernel)) rfl
theorem kw_71 : Cond.fieldLink "LazyBuilder" 128 "LazyBuilder$Plan" "isBuilt" "Z" ∈ mx_S0.1 := mx_mem (List.mem_of_getElem? (i := 310) (by decide +kernel)) rfl
theorem kw_72 : Cond.fieldLink "LazyBuilder" 131 "LazyBuilder$Plan" "result" "I" ∈ mx_S0.1 := mx_mem (List.mem_of_getElem? (i := 315) (by decide +kernel)) rfl
theorem kw_73 : Cond.fieldLink "LazyBuilder" 134 "LazyBuilder$Store" "size" "I" ∈ mx_S0.1 := mx_mem (List.mem_of_getElem? (i := 56) (by decide +kernel)) rfl
theorem kw_74 : Cond.fieldLink "LazyBuilder" 137 "LazyBuilder$Store" "builds" "I" ∈ mx_S0.1 := mx_mem (List.mem_of_getElem? (i := 58) (by decide +kernel)) rfl
theorem kw_75 : Cond.fieldLink "LazyBuilder" 140 "LazyBuilder$Worker" "steps" "I" ∈ mx_S0.1 := mx_mem (List.mem_of_getElem? (i := 106) (by decide +kernel)) rfl
theorem kw_76 : Cond.fieldLink "LazyBuilder" 143 "LazyBuilder$Worker" "failures" "I" ∈ mx_S0.1 := mx_mem (List.mem_of_getElem? (i := 108) (by decide +kernel)) rfl
theorem kw_77 : Cond.methodLink "LazyBuilder" 146 y_LBWorker_namesBound ∈ mx_S0.1 := mx_mem (List.mem_of_getElem? (i := 446) (by decide +kernel)) rfl
theorem kw_78 : Cond.instanceMethod y_LBWorker_namesBound ∈ mx_S0.1 := mx_mem (List.mem_of_getElem? (i := 447) (by decide +kernel)) rfl
theorem kw_79 : Cond.selects "LazyBuilder$Worker" y_LBWorker_namesBound y_LBWorker_namesBound ∈ mx_S0.1 := mx_mem (List.mem_of_getElem? (i := 448) (by decide +kernel)) rfl
theorem kw_80 : Cond.methodLink "LazyBuilder" 149 y_LBWorker_namesKept ∈ mx_S0.1 := mx_mem (List.mem_of_getElem? (i := 450) (by decide +kernel)) rfl
theorem kw_81 : Cond.instanceMethod y_LBWorker_namesKept ∈ mx_S0.1 := mx_mem (List.mem_of_getElem? (i := 451) (by decide +kernel)) rfl
theorem kw_82 : Cond.selects "LazyBuilder$Worker" y_LBWorker_namesKept y_LBWorker_namesKept ∈ mx_S0.1 := mx_mem (List.mem_of_getElem? (i := 452) (by decide +kernel)) rfl
theorem kw_83 : Cond.fieldLink "LazyBuilder" 155 "LazyBuilder$Text" "badPlace" "I" ∈ mx_S0.1 := mx_mem (List.mem_of_getElem? (i := 31) (by decide +kernel)) rfl
theorem kw_84 : Cond.methodLink "LazyBuilder" 152 y_LBText_read ∈ mx_S0.1 := mx_mem (List.mem_of_getElem? (i := 173) (by decide +kernel)) rfl
theorem kw_85 : Cond.instanceMethod y_LBText_read ∈ mx_S0.1 := mx_mem (List.mem_of_getElem? (i := 174) (by decide +kernel)) rfl
theorem kw_86 : Cond.selects "LazyBuilder$Text" y_LBText_read y_LBText_read ∈ mx_S0.1 := mx_mem (List.mem_of_getElem? (i := 175) (by decide +kernel)) rfl
theorem kw_87 : Cond.methodLink "LazyBuilder" 160 y_LB_isFailure ∈ mx_S0.1 := mx_mem (List.mem_of_getElem? (i := 403) (by decide +kernel)) rfl
theorem kw_88 : Cond.static y_LB_isFailure ∈ mx_S0.1 := mx_mem (List.mem_of_getElem? (i := 259) (by decide +kernel)) rfl
theorem kw_89 : Cond.methodLink "LazyBuilder" 156 y_LBWorker_workOutText ∈ mx_S0.1 := mx_mem (List.mem_of_getElem? (i := 399) (by decide +kernel)) rfl
theorem kw_90 : Cond.instanceMethod y_LBWorker_workOutText ∈ mx_S0.1 := mx_mem (List.mem_of_getElem? (i := 400) (by decide +kernel)) rfl
theorem kw_91 : Cond.selects "LazyBuilder$Worker" y_LBWorker_workOutText y_LBWorker_workOutText ∈ mx_S0.1 := mx_mem (List.mem_of_getElem? (i := 401) (by decide +kernel)) rfl
theorem kw_92 : Cond.methodLink "LazyBuilder$Text" 3 objectInit ∈ mx_S0.1 := mx_mem (List.mem_of_getElem? (i := 23) (by decide +kernel)) rfl
theorem kw_93 : Cond.arrayClass .int ∈ mx_S0.1 := mx_mem (List.mem_of_getElem? (i := 43) (by decide +kernel)) rfl
theorem kw_94 : Cond.fieldLink "LazyBuilder$Text" 9 "LazyBuilder$Text" "codes" "[I" ∈ mx_S0.1 := mx_mem (List.mem_of_getElem? (i := 24) (by decide +kernel)) rfl
theorem kw_95 : Cond.fieldLink "LazyBuilder$Text" 15 "LazyBuilder$Text" "ends" "[I" ∈ mx_S0.1 := mx_mem (List.mem_of_getElem? (i := 25) (by decide +kernel)) rfl
theorem kw_96 : Cond.fieldLink "LazyBuilder$Text" 22 "LazyBuilder$Text" "length" "I" ∈ mx_S0.1 := mx_mem (List.mem_of_getElem? (i := 26) (by decide +kernel)) rfl
theorem kw_97 : Cond.methodLink "LazyBuilder$Text" 18 y_LBText_belongs ∈ mx_S0.1 := mx_mem (List.mem_of_getElem? (i := 146) (by decide +kernel)) rfl
theorem kw_98 : Cond.static y_LBText_belongs ∈ mx_S0.1 := mx_mem (List.mem_of_getElem? (i := 147) (by decide +kernel)) rfl
theorem kw_99 : Cond.methodLink "LazyBuilder$Text" 26 arraycopyName ∈ mx_S0.1 := mx_mem (List.mem_of_getElem? (i := 212) (by decide +kernel)) rfl
theorem kw_100 : Cond.fieldLink "LazyBuilder$Text" 32 "LazyBuilder$Text" "depth" "I" ∈ mx_S0.1 := mx_mem (List.mem_of_getElem? (i := 29) (by decide +kernel)) rfl
theorem kw_101 : Cond.fieldLink "LazyBuilder$Text" 39 "LazyBuilder$Text" "badPlace" "I" ∈ mx_S0.1 := mx_mem (List.mem_of_getElem? (i := 30) (by decide +kernel)) rfl
theorem kw_102 : Cond.methodLink "LazyBuilder$Text" 35 y_LBText_readExpression ∈ mx_S0.1 := mx_mem (List.mem_of_getElem? (i := 177) (by decide +kernel)) rfl
theorem kw_103 : Cond.instanceMethod y_LBText_readExpression ∈ mx_S0.1 := mx_mem (List.mem_of_getElem? (i := 179) (by decide +kernel)) rfl
theorem kw_104 : Cond.selects "LazyBuilder$Text" y_LBText_readExpression y_LBText_readExpression ∈ mx_S0.1 := mx_memp (List.mem_of_getElem? (i := 1) (by decide +kernel)) rfl
theorem kw_105 : Cond.methodLink "LazyBuilder$Text" 49 Lib.Math.max.name ∈ mx_S0.1 := mx_mem (List.mem_of_getElem? (i := 197) (by decide +kernel)) rfl
theorem kw_106 : Cond.methodLink "LazyBuilder$Text" 46 y_LBText_readKind ∈ mx_S0.1 := mx_mem (List.mem_of_getElem? (i := 185) (by decide +kernel)) rfl
theorem kw_107 : Cond.instanceMethod y_LBText_readKind ∈ mx_S0.1 := mx_mem (List.mem_of_getElem? (i := 187) (by decide +kernel)) rfl
theorem kw_108 : Cond.selects "LazyBuilder$Text" y_LBText_readKind y_LBText_readKind ∈ mx_S0.1 := mx_memp (List.mem_of_getElem? (i := 3) (by decide +kernel)) rfl
theorem kw_109 : Cond.methodLink "LazyBuilder$Text" 42 y_LBText_badAt ∈ mx_S0.1 := mx_mem (List.mem_of_getElem? (i := 181) (by decide +kernel)) rfl
theorem kw_110 : Cond.instanceMethod y_LBText_badAt ∈ mx_S0.1 := mx_mem (List.mem_of_getElem? (i := 183) (by decide +kernel)) rfl
theorem kw_111 : Cond.selects "LazyBuilder$Text" y_LBText_badAt y_LBText_badAt ∈ mx_S0.1 := mx_memp (List.mem_of_getElem? (i := 2) (by decide +kernel)) rfl
theorem kw_112 : Cond.static y_LB_partsAfter ∈ mx_S0.1 := mx_mem (List.mem_of_getElem? (i := 156) (by decide +kernel)) rfl
theorem kw_113 : Cond.methodLink "LazyBuilder$Text" 63 y_LBText_readPlan ∈ mx_S0.1 := mx_mem (List.mem_of_getElem? (i := 193) (by decide +kernel)) rfl
theorem kw_114 : Cond.instanceMethod y_LBText_readPlan ∈ mx_S0.1 := mx_mem (List.mem_of_getElem? (i := 195) (by decide +kernel)) rfl
theorem kw_115 : Cond.selects "LazyBuilder$Text" y_LBText_readPlan y_LBText_readPlan ∈ mx_S0.1 := mx_memp (List.mem_of_getElem? (i := 4) (by decide +kernel)) rfl
theorem kw_116 : Cond.static y_LB_isLetter ∈ mx_S0.1 := mx_mem (List.mem_of_getElem? (i := 153) (by decide +kernel)) rfl
theorem kw_117 : Cond.static y_LB_isDigit ∈ mx_S0.1 := mx_mem (List.mem_of_getElem? (i := 150) (by decide +kernel)) rfl
theorem kw_118 : Cond.methodLink "LazyBuilder$Text" 54 y_LBText_codeAt ∈ mx_S0.1 := mx_mem (List.mem_of_getElem? (i := 189) (by decide +kernel)) rfl
theorem kw_119 : Cond.instanceMethod y_LBText_codeAt ∈ mx_S0.1 := mx_mem (List.mem_of_getElem? (i := 190) (by decide +kernel)) rfl
theorem kw_120 : Cond.selects "LazyBuilder$Text" y_LBText_codeAt y_LBText_codeAt ∈ mx_S0.1 := mx_mem (List.mem_of_getElem? (i := 191) (by decide +kernel)) rfl
theorem kw_121 : Cond.methodLink "LazyBuilder$Name" 3 objectInit ∈ mx_S0.1 := mx_mem (List.mem_of_getElem? (i := 80) (by decide +kernel)) rfl
theorem kw_122 : Cond.classLink "LazyBuilder$Name" 9 "LazyBuilder$Text" ∈ mx_S0.1 := mx_mem (List.mem_of_getElem? (i := 81) (by decide +kernel)) rfl
theorem kw_123 : Cond.fieldLink "LazyBuilder$Name" 12 "LazyBuilder$Name" "text" "LLazyBuilder$Text;" ∈ mx_S0.1 := mx_mem (List.mem_of_getElem? (i := 84) (by decide +kernel)) rfl
theorem kw_124 : Cond.constantLong "LazyBuilder$Name" 18 (-1000000000000) ∈ mx_S0.1 := mx_mem (List.mem_of_getElem? (i := 83) (by decide +kernel)) rfl
theorem kw_125 : Cond.fieldLink "LazyBuilder$Name" 20 "LazyBuilder$Name" "kept" "J" ∈ mx_S0.1 := mx_mem (List.mem_of_getElem? (i := 89) (by decide +kernel)) rfl
theorem kw_126 : Cond.methodLink "LazyBuilder$Name" 11 y_LBText_init ∈ mx_S0.1 := mx_mem (List.mem_of_getElem? (i := 82) (by decide +kernel)) rfl
theorem kw_127 : Cond.methodLink "LazyBuilder$Plan" 1 objectInit ∈ mx_S0.1 := mx_mem (List.mem_of_getElem? (i := 302) (by decide +kernel)) rfl
theorem kw_128 : Cond.fieldLink "LazyBuilder$Plan" 7 "LazyBuilder$Plan" "maker" "I" ∈ mx_S0.1 := mx_mem (List.mem_of_getElem? (i := 303) (by decide +kernel)) rfl
theorem kw_129 : Cond.fieldLink "LazyBuilder$Plan" 13 "LazyBuilder$Plan" "inputs" "[J" ∈ mx_S0.1 := mx_mem (List.mem_of_getElem? (i := 306) (by decide +kernel)) rfl
theorem kw_130 : Cond.methodLink "LazyBuilder$Store" 3 objectInit ∈ mx_S0.1 := mx_mem (List.mem_of_getElem? (i := 49) (by decide +kernel)) rfl
theorem kw_131 : Cond.classLink "LazyBuilder$Store" 9 "LazyBuilder$Plan" ∈ mx_S0.1 := mx_mem (List.mem_of_getElem? (i := 50) (by decide +kernel)) rfl
theorem kw_132 : Cond.fieldLink "LazyBuilder$Store" 11 "LazyBuilder$Store" "plans" "[LLazyBuilder$Plan;" ∈ mx_S0.1 := mx_mem (List.mem_of_getElem? (i := 52) (by decide +kernel)) rfl
theorem kw_133 : Cond.fieldLink "LazyBuilder$Store" 17 "LazyBuilder$Store" "kinds" "[I" ∈ mx_S0.1 := mx_mem (List.mem_of_getElem? (i := 53) (by decide +kernel)) rfl
theorem kw_134 : Cond.fieldLink "LazyBuilder$Store" 21 "LazyBuilder$Store" "size" "I" ∈ mx_S0.1 := mx_mem (List.mem_of_getElem? (i := 55) (by decide +kernel)) rfl
theorem kw_135 : Cond.methodLink "LazyBuilder$Store" 33 y_LBStore_planAt ∈ mx_S0.1 := mx_mem (List.mem_of_getElem? (i := 349) (by decide +kernel)) rfl
theorem kw_136 : Cond.static y_LB_numberOf ∈ mx_S0.1 := mx_mem (List.mem_of_getElem? (i := 347) (by decide +kernel)) rfl
theorem kw_137 : Cond.static y_LB_isPlan ∈ mx_S0.1 := mx_mem (List.mem_of_getElem? (i := 262) (by decide +kernel)) rfl
theorem kw_138 : Cond.arrayClass .long ∈ mx_S0.1 := mx_mem (List.mem_of_getElem? (i := 120) (by decide +kernel)) rfl
theorem kw_139 : Cond.methodLink "LazyBuilder$Store" 45 arraycopyName ∈ mx_S0.1 := mx_mem (List.mem_of_getElem? (i := 297) (by decide +kernel)) rfl
theorem kw_140 : Cond.instantiable "LazyBuilder$Plan" 6 ∈ mx_S0.1 := mx_mem (List.mem_of_getElem? (i := 298) (by decide +kernel)) rfl
theorem kw_141 : Cond.initialized "LazyBuilder$Plan" ∈ mx_S0.1 := mx_mem (List.mem_of_getElem? (i := 9) (by decide +kernel)) rfl
theorem kw_142 : Cond.constantLong "LazyBuilder$Store" 41 1000000000000 ∈ mx_S0.1 := mx_mem (List.mem_of_getElem? (i := 295) (by decide +kernel)) rfl
theorem kw_143 : Cond.methodLink "LazyBuilder$Store" 51 y_LBPlan_init ∈ mx_S0.1 := mx_mem (List.mem_of_getElem? (i := 299) (by decide +kernel)) rfl
theorem kw_144 : Cond.instanceMethod y_LBPlan_init ∈ mx_S0.1 := mx_mem (List.mem_of_getElem? (i := 300) (by decide +kernel)) rfl
theorem kw_145 : Cond.constantLong "LazyBuilder$Store" 43 (-1000000000009) ∈ mx_S0.1 := mx_mem (List.mem_of_getElem? (i := 296) (by decide +kernel)) rfl
theorem kw_146 : Cond.methodLink "LazyBuilder$Store" 37 y_LBPlan_isAlike ∈ mx_S0.1 := mx_mem (List.mem_of_getElem? (i := 291) (by decide +kernel)) rfl
theorem kw_147 : Cond.instanceMethod y_LBPlan_isAlike ∈ mx_S0.1 := mx_mem (List.mem_of_getElem? (i := 292) (by decide +kernel)) rfl
theorem kw_148 : Cond.selects "LazyBuilder$Plan" y_LBPlan_isAlike y_LBPlan_isAlike ∈ mx_S0.1 := mx_mem (List.mem_of_getElem? (i := 293) (by decide +kernel)) rfl
theorem kw_149 : Cond.methodLink "LazyBuilder$Store" 54 y_LBStore_partOf ∈ mx_S0.1 := mx_mem (List.mem_of_getElem? (i := 337) (by decide +kernel)) rfl
theorem kw_150 : Cond.instanceMethod y_LBStore_partOf ∈ mx_S0.1 := mx_mem (List.mem_of_getElem? (i := 339) (by decide +kernel)) rfl
theorem kw_151 : Cond.selects "LazyBuilder$Store" y_LBStore_partOf y_LBStore_partOf ∈ mx_S0.1 := mx_memp (List.mem_of_getElem? (i := 13) (by decide +kernel)) rfl
theorem kw_152 : Cond.fieldLink "LazyBuilder$Store" 62 "LazyBuilder$Plan" "isBuilt" "Z" ∈ mx_S0.1 := mx_mem (List.mem_of_getElem? (i := 309) (by decide +kernel)) rfl
theorem kw_153 : Cond.constantLong "LazyBuilder$Store" 69 (-1000000000007) ∈ mx_S0.1 := mx_mem (List.mem_of_getElem? (i := 353) (by decide +kernel)) rfl
theorem kw_154 : Cond.fieldLink "LazyBuilder$Store" 66 "LazyBuilder$Plan" "result" "I" ∈ mx_S0.1 := mx_mem (List.mem_of_getElem? (i := 314) (by decide +kernel)) rfl
theorem kw_155 : Cond.methodLink "LazyBuilder$Store" 58 y_LBStore_planIn ∈ mx_S0.1 := mx_mem (List.mem_of_getElem? (i := 341) (by decide +kernel)) rfl
theorem kw_156 : Cond.instanceMethod y_LBStore_planIn ∈ mx_S0.1 := mx_mem (List.mem_of_getElem? (i := 343) (by decide +kernel)) rfl
theorem kw_157 : Cond.selects "LazyBuilder$Store" y_LBStore_planIn y_LBStore_planIn ∈ mx_S0.1 := mx_memp (List.mem_of_getElem? (i := 14) (by decide +kernel)) rfl
theorem kw_158 : Cond.fieldLink "LazyBuilder$Store" 71 "LazyBuilder$Plan" "inputs" "[J" ∈ mx_S0.1 := mx_mem (List.mem_of_getElem? (i := 307) (by decide +kernel)) rfl
theorem kw_159 : Cond.methodLink "LazyBuilder$Store" 78 y_LBStore_finish ∈ mx_S0.1 := mx_mem (List.mem_of_getElem? (i := 355) (by decide +kernel)) rfl
theorem kw_160 : Cond.instanceMethod y_LBStore_finish ∈ mx_S0.1 := mx_mem (List.mem_of_getElem? (i := 357) (by decide +kernel)) rfl
theorem kw_161 : Cond.selects "LazyBuilder$Store" y_LBStore_finish y_LBStore_finish ∈ mx_S0.1 := mx_memp (List.mem_of_getElem? (i := 15) (by decide +kernel)) rfl
theorem kw_162 : Cond.fieldLink "LazyBuilder$Store" 82 "LazyBuilder$Plan" "maker" "I" ∈ mx_S0.1 := mx_mem (List.mem_of_getElem? (i := 304) (by decide +kernel)) rfl
theorem kw_163 : Cond.methodLink "LazyBuilder$Store" 85 y_LBStore_greatestOf ∈ mx_S0.1 := mx_mem (List.mem_of_getElem? (i := 359) (by decide +kernel)) rfl
theorem kw_164 : Cond.instanceMethod y_LBStore_greatestOf ∈ mx_S0.1 := mx_mem (List.mem_of_getElem? (i := 361) (by decide +kernel)) rfl
theorem kw_165 : Cond.selects "LazyBuilder$Store" y_LBStore_greatestOf y_LBStore_greatestOf ∈ mx_S0.1 := mx_memp (List.mem_of_getElem? (i := 16) (by decide +kernel)) rfl
theorem kw_166 : Cond.fieldLink "LazyBuilder$Store" 93 "LazyBuilder$Store" "builds" "I" ∈ mx_S0.1 := mx_mem (List.mem_of_getElem? (i := 57) (by decide +kernel)) rfl
theorem kw_167 : Cond.methodLink "LazyBuilder$Store" 89 y_LBStore_outcome ∈ mx_S0.1 := mx_mem (List.mem_of_getElem? (i := 368) (by decide +kernel)) rfl
theorem kw_168 : Cond.instanceMethod y_LBStore_outcome ∈ mx_S0.1 := mx_mem (List.mem_of_getElem? (i := 370) (by decide +kernel)) rfl
theorem kw_169 : Cond.selects "LazyBuilder$Store" y_LBStore_outcome y_LBStore_outcome ∈ mx_S0.1 := mx_memp (List.mem_of_getElem? (i := 18) (by decide +kernel)) rfl
theorem kw_170 : Cond.methodLink "LazyBuilder$Store" 96 y_LBStore_productOf ∈ mx_S0.1 := mx_mem (List.mem_of_getElem? (i := 372) (by decide +kernel)) rfl
theorem kw_171 : Cond.instanceMethod y_LBStore_productOf ∈ mx_S0.1 := mx_mem (List.mem_of_getElem? (i := 374) (by decide +kernel)) rfl
theorem kw_172 : Cond.selects "LazyBuilder$Store" y_LBStore_productOf y_LBStore_productOf ∈ mx_S0.1 := mx_memp (List.mem_of_getElem? (i := 19) (by decide +kernel)) rfl
theorem kw_173 : Cond.methodLink "LazyBuilder$Store" 99 y_LBStore_sumOf ∈ mx_S0.1 := mx_mem (List.mem_of_getElem? (i := 376) (by decide +kernel)) rfl
theorem kw_174 : Cond.instanceMethod y_LBStore_sumOf ∈ mx_S0.1 := mx_mem (List.mem_of_getElem? (i := 378) (by decide +kernel)) rfl
theorem kw_175 : Cond.selects "LazyBuilder$Store" y_LBStore_sumOf y_LBStore_sumOf ∈ mx_S0.1 := mx_memp (List.mem_of_getElem? (i := 20) (by decide +kernel)) rfl
theorem kw_176 : Cond.methodLink "LazyBuilder$Store" 102 y_LBStore_readyPart ∈ mx_S0.1 := mx_mem (List.mem_of_getElem? (i := 363) (by decide +kernel)) rfl
theorem kw_177 : Cond.instanceMethod y_LBStore_readyPart ∈ mx_S0.1 := mx_mem (List.mem_of_getElem? (i := 365) (by decide +kernel)) rfl
theorem kw_178 : Cond.selects "LazyBuilder$Store" y_LBStore_readyPart y_LBStore_readyPart ∈ mx_S0.1 := mx_memp (List.mem_of_getElem? (i := 17) (by decide +kernel)) rfl
theorem kw_179 : Cond.methodLink "LazyBuilder$Store" 105 Lib.Math.max.name ∈ mx_S0.1 := mx_mem (List.mem_of_getElem? (i := 367) (by decide +kernel)) rfl
theorem kw_180 : Cond.fieldLink "LazyBuilder$Store" 111 "LazyBuilder$Plan" "isRoot" "Z" ∈ mx_S0.1 := mx_mem (List.mem_of_getElem? (i := 312) (by decide +kernel)) rfl
theorem kw_181 : Cond.fieldLink "LazyBuilder$Store" 114 "LazyBuilder$Plan" "isWanted" "Z" ∈ mx_S0.1 := mx_mem (List.mem_of_getElem? (i := 313) (by decide +kernel)) rfl
theorem kw_182 : Cond.methodLink "LazyBuilder$Store" 117 y_LBStore_wantInputs ∈ mx_S0.1 := mx_mem (List.mem_of_getElem? (i := 430) (by decide +kernel)) rfl
theorem kw_183 : Cond.instanceMethod y_LBStore_wantInputs ∈ mx_S0.1 := mx_mem (List.mem_of_getElem? (i := 432) (by decide +kernel)) rfl
theorem kw_184 : Cond.selects "LazyBuilder$Store" y_LBStore_wantInputs y_LBStore_wantInputs ∈ mx_S0.1 := mx_memp (List.mem_of_getElem? (i := 23) (by decide +kernel)) rfl
theorem kw_185 : Cond.methodLink "LazyBuilder$Worker" 3 objectInit ∈ mx_S0.1 := mx_mem (List.mem_of_getElem? (i := 73) (by decide +kernel)) rfl
theorem kw_186 : Cond.fieldLink "LazyBuilder$Worker" 9 "LazyBuilder$Worker" "store" "LLazyBuilder$Store;" ∈ mx_S0.1 := mx_mem (List.mem_of_getElem? (i := 103) (by decide +kernel)) rfl
theorem kw_187 : Cond.classLink "LazyBuilder$Worker" 15 "LazyBuilder$Name" ∈ mx_S0.1 := mx_mem (List.mem_of_getElem? (i := 74) (by decide +kernel)) rfl
theorem kw_188 : Cond.fieldLink "LazyBuilder$Worker" 17 "LazyBuilder$Worker" "names" "[LLazyBuilder$Name;" ∈ mx_S0.1 := mx_mem (List.mem_of_getElem? (i := 101) (by decide +kernel)) rfl
theorem kw_189 : Cond.fieldLink "LazyBuilder$Worker" 22 "LazyBuilder$Worker" "lists" "[J" ∈ mx_S0.1 := mx_mem (List.mem_of_getElem? (i := 104) (by decide +kernel)) rfl
theorem kw_190 : Cond.instantiable "LazyBuilder$Name" 4 ∈ mx_S0.1 := mx_mem (List.mem_of_getElem? (i := 76) (by decide +kernel)) rfl
theorem kw_191 : Cond.initialized "LazyBuilder$Name" ∈ mx_S0.1 := mx_mem (List.mem_of_getElem? (i := 5) (by decide +kernel)) rfl
theorem kw_192 : Cond.methodLink "LazyBuilder$Worker" 21 y_LBName_init ∈ mx_S0.1 := mx_mem (List.mem_of_getElem? (i := 77) (by decide +kernel)) rfl
theorem kw_193 : Cond.instanceMethod y_LBName_init ∈ mx_S0.1 := mx_mem (List.mem_of_getElem? (i := 78) (by decide +kernel)) rfl
theorem kw_194 : Cond.fieldLink "LazyBuilder$Worker" 26 "LazyBuilder$Name" "text" "LLazyBuilder$Text;" ∈ mx_S0.1 := mx_mem (List.mem_of_getElem? (i := 85) (by decide +kernel)) rfl
theorem kw_195 : Cond.fieldLink "LazyBuilder$Worker" 36 "LazyBuilder$Name" "bound" "Z" ∈ mx_S0.1 := mx_mem (List.mem_of_getElem? (i := 86) (by decide +kernel)) rfl
theorem kw_196 : Cond.methodLink "LazyBuilder$Worker" 40 y_LBWorker_forgetValues ∈ mx_S0.1 := mx_mem (List.mem_of_getElem? (i := 215) (by decide +kernel)) rfl
theorem kw_197 : Cond.instanceMethod y_LBWorker_forgetValues ∈ mx_S0.1 := mx_mem (List.mem_of_getElem? (i := 217) (by decide +kernel)) rfl
theorem kw_198 : Cond.selects "LazyBuilder$Worker" y_LBWorker_forgetValues y_LBWorker_forgetValues ∈ mx_S0.1 := mx_memp (List.mem_of_getElem? (i := 5) (by decide +kernel)) rfl
theorem kw_199 : Cond.methodLink "LazyBuilder$Worker" 30 y_LBText_copyFrom ∈ mx_S0.1 := mx_mem (List.mem_of_getElem? (i := 208) (by decide +kernel)) rfl
theorem kw_200 : Cond.instanceMethod y_LBText_copyFrom ∈ mx_S0.1 := mx_mem (List.mem_of_getElem? (i := 209) (by decide +kernel)) rfl
theorem kw_201 : Cond.selects "LazyBuilder$Text" y_LBText_copyFrom y_LBText_copyFrom ∈ mx_S0.1 := mx_mem (List.mem_of_getElem? (i := 210) (by decide +kernel)) rfl
theorem kw_202 : Cond.constantLong "LazyBuilder$Worker" 43 (-1000000000000) ∈ mx_S0.1 := mx_mem (List.mem_of_getElem? (i := 219) (by decide +kernel)) rfl
theorem kw_203 : Cond.fieldLink "LazyBuilder$Worker" 45 "LazyBuilder$Name" "kept" "J" ∈ mx_S0.1 := mx_mem (List.mem_of_getElem? (i := 90) (by decide +kernel)) rfl
theorem kw_204 : Cond.fieldLink "LazyBuilder$Worker" 49 "LazyBuilder$Worker" "failures" "I" ∈ mx_S0.1 := mx_mem (List.mem_of_getElem? (i := 107) (by decide +kernel)) rfl
theorem kw_205 : Cond.fieldLink "LazyBuilder$Worker" 57 "LazyBuilder$Worker" "steps" "I" ∈ mx_S0.1 := mx_mem (List.mem_of_getElem? (i := 105) (by decide +kernel)) rfl
theorem kw_206 : Cond.methodLink "LazyBuilder$Worker" 60 y_LBWorker_workName ∈ mx_S0.1 := mx_mem (List.mem_of_getElem? (i := 240) (by decide +kernel)) rfl
theorem kw_207 : Cond.instanceMethod y_LBWorker_workName ∈ mx_S0.1 := mx_mem (List.mem_of_getElem? (i := 242) (by decide +kernel)) rfl
theorem kw_208 : Cond.selects "LazyBuilder$Worker" y_LBWorker_workName y_LBWorker_workName ∈ mx_S0.1 := mx_memp (List.mem_of_getElem? (i := 6) (by decide +kernel)) rfl
theorem kw_209 : Cond.methodLink "LazyBuilder$Worker" 64 y_LBWorker_work ∈ mx_S0.1 := mx_mem (List.mem_of_getElem? (i := 246) (by decide +kernel)) rfl
theorem kw_210 : Cond.instanceMethod y_LBWorker_work ∈ mx_S0.1 := mx_mem (List.mem_of_getElem? (i := 248) (by decide +kernel)) rfl
theorem kw_211 : Cond.selects "LazyBuilder$Worker" y_LBWorker_work y_LBWorker_work ∈ mx_S0.1 := mx_memp (List.mem_of_getElem? (i := 7) (by decide +kernel)) rfl
theorem kw_212 : Cond.constantLong "LazyBuilder$Worker" 68 (-1000000000010) ∈ mx_S0.1 := mx_mem (List.mem_of_getElem? (i := 250) (by decide +kernel)) rfl
theorem kw_213 : Cond.methodLink "LazyBuilder$Worker" 84 y_LBWorker_workAbort ∈ mx_S0.1 := mx_mem (List.mem_of_getElem? (i := 270) (by decide +kernel)) rfl
theorem kw_214 : Cond.instanceMethod y_LBWorker_workAbort ∈ mx_S0.1 := mx_mem (List.mem_of_getElem? (i := 272) (by decide +kernel)) rfl
theorem kw_215 : Cond.selects "LazyBuilder$Worker" y_LBWorker_workAbort y_LBWorker_workAbort ∈ mx_S0.1 := mx_memp (List.mem_of_getElem? (i := 9) (by decide +kernel)) rfl
theorem kw_216 : Cond.methodLink "LazyBuilder$Worker" 81 y_LBWorker_workChoice ∈ mx_S0.1 := mx_mem (List.mem_of_getElem? (i := 254) (by decide +kernel)) rfl
theorem kw_217 : Cond.instanceMethod y_LBWorker_workChoice ∈ mx_S0.1 := mx_mem (List.mem_of_getElem? (i := 256) (by decide +kernel)) rfl
theorem kw_218 : Cond.selects "LazyBuilder$Worker" y_LBWorker_workChoice y_LBWorker_workChoice ∈ mx_S0.1 := mx_memp (List.mem_of_getElem? (i := 8) (by decide +kernel)) rfl
theorem kw_219 : Cond.methodLink "LazyBuilder$Worker" 90 y_LBWorker_workPlan ∈ mx_S0.1 := mx_mem (List.mem_of_getElem? (i := 283) (by decide +kernel)) rfl
theorem kw_220 : Cond.instanceMethod y_LBWorker_workPlan ∈ mx_S0.1 := mx_mem (List.mem_of_getElem? (i := 285) (by decide +kernel)) rfl
theorem kw_221 : Cond.selects "LazyBuilder$Worker" y_LBWorker_workPlan y_LBWorker_workPlan ∈ mx_S0.1 := mx_memp (List.mem_of_getElem? (i := 11) (by decide +kernel)) rfl
theorem kw_222 : Cond.methodLink "LazyBuilder$Worker" 93 y_LBWorker_workResult ∈ mx_S0.1 := mx_mem (List.mem_of_getElem? (i := 329) (by decide +kernel)) rfl
theorem kw_223 : Cond.instanceMethod y_LBWorker_workResult ∈ mx_S0.1 := mx_mem (List.mem_of_getElem? (i := 331) (by decide +kernel)) rfl
theorem kw_224 : Cond.selects "LazyBuilder$Worker" y_LBWorker_workResult y_LBWorker_workResult ∈ mx_S0.1 := mx_memp (List.mem_of_getElem? (i := 12) (by decide +kernel)) rfl
theorem kw_225 : Cond.methodLink "LazyBuilder$Worker" 87 y_LBWorker_workTry ∈ mx_S0.1 := mx_mem (List.mem_of_getElem? (i := 275) (by decide +kernel)) rfl
theorem kw_226 : Cond.instanceMethod y_LBWorker_workTry ∈ mx_S0.1 := mx_mem (List.mem_of_getElem? (i := 277) (by decide +kernel)) rfl
theorem kw_227 : Cond.selects "LazyBuilder$Worker" y_LBWorker_workTry y_LBWorker_workTry ∈ mx_S0.1 := mx_memp (List.mem_of_getElem? (i := 10) (by decide +kernel)) rfl
theorem kw_228 : Cond.methodLink "LazyBuilder$Worker" 96 y_LBWorker_workPair ∈ mx_S0.1 := mx_mem (List.mem_of_getElem? (i := 380) (by decide +kernel)) rfl
theorem kw_229 : Cond.instanceMethod y_LBWorker_workPair ∈ mx_S0.1 := mx_mem (List.mem_of_getElem? (i := 382) (by decide +kernel)) rfl
theorem kw_230 : Cond.selects "LazyBuilder$Worker" y_LBWorker_workPair y_LBWorker_workPair ∈ mx_S0.1 := mx_memp (List.mem_of_getElem? (i := 21) (by decide +kernel)) rfl
theorem kw_231 : Cond.methodLink "LazyBuilder$Worker" 70 y_LBText_codeAt ∈ mx_S0.1 := mx_mem (List.mem_of_getElem? (i := 251) (by decide +kernel)) rfl
theorem kw_232 : Cond.fieldLink "LazyBuilder$Worker" 101 "LazyBuilder$Name" "busy" "Z" ∈ mx_S0.1 := mx_mem (List.mem_of_getElem? (i := 88) (by decide +kernel)) rfl
theorem kw_233 : Cond.constantLong "LazyBuilder$Worker" 104 (-1000000000008) ∈ mx_S0.1 := mx_mem (List.mem_of_getElem? (i := 245) (by decide +kernel)) rfl
theorem kw_234 : Cond.constantLong "LazyBuilder$Worker" 99 (-1000000000004) ∈ mx_S0.1 := mx_mem (List.mem_of_getElem? (i := 244) (by decide +kernel)) rfl
theorem kw_235 : Cond.constantLong "LazyBuilder$Worker" 112 (-1000000000005) ∈ mx_S0.1 := mx_mem (List.mem_of_getElem? (i := 265) (by decide +kernel)) rfl
theorem kw_236 : Cond.methodLink "LazyBuilder$Worker" 114 y_LBWorker_combine ∈ mx_S0.1 := mx_mem (List.mem_of_getElem? (i := 384) (by decide +kernel)) rfl
theorem kw_237 : Cond.static y_LBWorker_combine ∈ mx_S0.1 := mx_mem (List.mem_of_getElem? (i := 385) (by decide +kernel)) rfl
theorem kw_238 : Cond.methodLink "LazyBuilder$Worker" 106 y_LBText_endOf ∈ mx_S0.1 := mx_mem (List.mem_of_getElem? (i := 266) (by decide +kernel)) rfl
theorem kw_239 : Cond.instanceMethod y_LBText_endOf ∈ mx_S0.1 := mx_mem (List.mem_of_getElem? (i := 267) (by decide +kernel)) rfl
theorem kw_240 : Cond.selects "LazyBuilder$Text" y_LBText_endOf y_LBText_endOf ∈ mx_S0.1 := mx_mem (List.mem_of_getElem? (i := 268) (by decide +kernel)) rfl
theorem kw_241 : Cond.constantLong "LazyBuilder$Worker" 118 (-1000000000006) ∈ mx_S0.1 := mx_mem (List.mem_of_getElem? (i := 274) (by decide +kernel)) rfl
theorem kw_242 : Cond.methodLink "LazyBuilder$Worker" 120 y_LBWorker_canBeMadeGood ∈ mx_S0.1 := mx_mem (List.mem_of_getElem? (i := 279) (by decide +kernel)) rfl
theorem kw_243 : Cond.static y_LBWorker_canBeMadeGood ∈ mx_S0.1 := mx_mem (List.mem_of_getElem? (i := 280) (by decide +kernel)) rfl
theorem kw_244 : Cond.constantLong "LazyBuilder$Worker" 123 (-1000000000007) ∈ mx_S0.1 := mx_mem (List.mem_of_getElem? (i := 282) (by decide +kernel)) rfl
theorem kw_245 : Cond.methodLink "LazyBuilder$Worker" 125 y_LBStore_planOf ∈ mx_S0.1 := mx_mem (List.mem_of_getElem? (i := 287) (by decide +kernel)) rfl
theorem kw_246 : Cond.instanceMethod y_LBStore_planOf ∈ mx_S0.1 := mx_mem (List.mem_of_getElem? (i := 288) (by decide +kernel)) rfl
theorem kw_247 : Cond.selects "LazyBuilder$Store" y_LBStore_planOf y_LBStore_planOf ∈ mx_S0.1 := mx_mem (List.mem_of_getElem? (i := 289) (by decide +kernel)) rfl
theorem kw_248 : Cond.methodLink "LazyBuilder$Worker" 131 y_LBStore_resultOf ∈ mx_S0.1 := mx_mem (List.mem_of_getElem? (i := 333) (by decide +kernel)) rfl
theorem kw_249 : Cond.methodLink "LazyBuilderModel" 1 objectInit ∈ mx_S0.1 := mx_mem (List.mem_of_getElem? (i := 459) (by decide +kernel)) rfl
theorem kw_250 : Cond.fieldLink "LazyBuilderModel" 7 "LazyBuilderModel" "text" "[I" ∈ mx_S0.1 := mx_mem (List.mem_of_getElem? (i := 460) (by decide +kernel)) rfl
theorem kw_251 : Cond.fieldLink "LazyBuilderModel" 13 "LazyBuilderModel" "size" "[I" ∈ mx_S0.1 := mx_mem (List.mem_of_getElem? (i := 461) (by decide +kernel)) rfl
theorem kw_252 : Cond.fieldLink "LazyBuilderModel" 16 "LazyBuilderModel" "kept" "[J" ∈ mx_S0.1 := mx_mem (List.mem_of_getElem? (i := 462) (by decide +kernel)) rfl
theorem kw_253 : Cond.arrayClass .boolean ∈ mx_S0.1 := mx_mem (List.mem_of_getElem? (i := 569) (by decide +kernel)) rfl
theorem kw_254 : Cond.fieldLink "LazyBuilderModel" 20 "LazyBuilderModel" "has" "[Z" ∈ mx_S0.1 := mx_mem (List.mem_of_getElem? (i := 463) (by decide +kernel)) rfl
theorem kw_255 : Cond.fieldLink "LazyBuilderModel" 24 "LazyBuilderModel" "bound" "[Z" ∈ mx_S0.1 := mx_mem (List.mem_of_getElem? (i := 464) (by decide +kernel)) rfl
theorem kw_256 : Cond.fieldLink "LazyBuilderModel" 27 "LazyBuilderModel" "working" "[Z" ∈ mx_S0.1 := mx_mem (List.mem_of_getElem? (i := 465) (by decide +kernel)) rfl
theorem kw_257 : Cond.fieldLink "LazyBuilderModel" 30 "LazyBuilderModel" "bad" "I" ∈ mx_S0.1 := mx_mem (List.mem_of_getElem? (i := 466) (by decide +kernel)) rfl
theorem kw_258 : Cond.fieldLink "LazyBuilderModel" 34 "LazyBuilderModel" "rest" "[I" ∈ mx_S0.1 := mx_mem (List.mem_of_getElem? (i := 468) (by decide +kernel)) rfl
theorem kw_259 : Cond.fieldLink "LazyBuilderModel" 37 "LazyBuilderModel" "list" "[Z" ∈ mx_S0.1 := mx_mem (List.mem_of_getElem? (i := 469) (by decide +kernel)) rfl
theorem kw_260 : Cond.fieldLink "LazyBuilderModel" 40 "LazyBuilderModel" "came" "[I" ∈ mx_S0.1 := mx_mem (List.mem_of_getElem? (i := 470) (by decide +kernel)) rfl
theorem kw_261 : Cond.fieldLink "LazyBuilderModel" 43 "LazyBuilderModel" "sign" "[I" ∈ mx_S0.1 := mx_mem (List.mem_of_getElem? (i := 472) (by decide +kernel)) rfl
theorem kw_262 : Cond.fieldLink "LazyBuilderModel" 46 "LazyBuilderModel" "of" "[I" ∈ mx_S0.1 := mx_mem (List.mem_of_getElem? (i := 473) (by decide +kernel)) rfl
theorem kw_263 : Cond.fieldLink "LazyBuilderModel" 49 "LazyBuilderModel" "next" "[I" ∈ mx_S0.1 := mx_mem (List.mem_of_getElem? (i := 474) (by decide +kernel)) rfl
theorem kw_264 : Cond.fieldLink "LazyBuilderModel" 52 "LazyBuilderModel" "parts" "[I" ∈ mx_S0.1 := mx_mem (List.mem_of_getElem? (i := 475) (by decide +kernel)) rfl
theorem kw_265 : Cond.fieldLink "LazyBuilderModel" 55 "LazyBuilderModel" "digitOf" "[I" ∈ mx_S0.1 := mx_mem (List.mem_of_getElem? (i := 476) (by decide +kernel)) rfl
theorem kw_266 : Cond.fieldLink "LazyBuilderModel" 58 "LazyBuilderModel" "value" "[J" ∈ mx_S0.1 := mx_mem (List.mem_of_getElem? (i := 478) (by decide +kernel)) rfl
theorem kw_267 : Cond.fieldLink "LazyBuilderModel" 61 "LazyBuilderModel" "maker" "[I" ∈ mx_S0.1 := mx_mem (List.mem_of_getElem? (i := 484) (by decide +kernel)) rfl
theorem kw_268 : Cond.fieldLink "LazyBuilderModel" 64 "LazyBuilderModel" "inputs" "[I" ∈ mx_S0.1 := mx_mem (List.mem_of_getElem? (i := 485) (by decide +kernel)) rfl
theorem kw_269 : Cond.fieldLink "LazyBuilderModel" 67 "LazyBuilderModel" "input" "[J" ∈ mx_S0.1 := mx_mem (List.mem_of_getElem? (i := 486) (by decide +kernel)) rfl
theorem kw_270 : Cond.fieldLink "LazyBuilderModel" 70 "LazyBuilderModel" "built" "[Z" ∈ mx_S0.1 := mx_mem (List.mem_of_getElem? (i := 487) (by decide +kernel)) rfl
theorem kw_271 : Cond.fieldLink "LazyBuilderModel" 73 "LazyBuilderModel" "made" "[I" ∈ mx_S0.1 := mx_mem (List.mem_of_getElem? (i := 488) (by decide +kernel)) rfl
theorem kw_272 : Cond.fieldLink "LazyBuilderModel" 76 "LazyBuilderModel" "root" "[Z" ∈ mx_S0.1 := mx_mem (List.mem_of_getElem? (i := 489) (by decide +kernel)) rfl
theorem kw_273 : Cond.fieldLink "LazyBuilderModel" 79 "LazyBuilderModel" "near" "[Z" ∈ mx_S0.1 := mx_mem (List.mem_of_getElem? (i := 490) (by decide +kernel)) rfl
theorem kw_274 : Cond.fieldLink "LazyBuilderModel" 82 "LazyBuilderModel" "kind" "[I" ∈ mx_S0.1 := mx_mem (List.mem_of_getElem? (i := 491) (by decide +kernel)) rfl
theorem kw_275 : Cond.fieldLink "LazyBuilderModel" 85 "LazyBuilderModel" "way" "[I" ∈ mx_S0.1 := mx_mem (List.mem_of_getElem? (i := 492) (by decide +kernel)) rfl
theorem kw_276 : Cond.fieldLink "LazyBuilderModel" 88 "LazyBuilderModel" "done" "[I" ∈ mx_S0.1 := mx_mem (List.mem_of_getElem? (i := 493) (by decide +kernel)) rfl
theorem kw_277 : Cond.methodLink "LazyBuilderModel" 98 y_RM_wants ∈ mx_S0.1 := mx_mem (List.mem_of_getElem? (i := 582) (by decide +kernel)) rfl
theorem kw_278 : Cond.instanceMethod y_RM_wants ∈ mx_S0.1 := mx_mem (List.mem_of_getElem? (i := 584) (by decide +kernel)) rfl
theorem kw_279 : Cond.selects "LazyBuilderModel" y_RM_wants y_RM_wants ∈ mx_S0.1 := mx_memp (List.mem_of_getElem? (i := 26) (by decide +kernel)) rfl
theorem kw_280 : Cond.methodLink "LazyBuilderModel" 95 y_RM_name ∈ mx_S0.1 := mx_mem (List.mem_of_getElem? (i := 578) (by decide +kernel)) rfl
theorem kw_281 : Cond.instanceMethod y_RM_name ∈ mx_S0.1 := mx_mem (List.mem_of_getElem? (i := 580) (by decide +kernel)) rfl
theorem kw_282 : Cond.selects "LazyBuilderModel" y_RM_name y_RM_name ∈ mx_S0.1 := mx_memp (List.mem_of_getElem? (i := 25) (by decide +kernel)) rfl
theorem kw_283 : Cond.methodLink "LazyBuilderModel" 91 y_RM_digit ∈ mx_S0.1 := mx_mem (List.mem_of_getElem? (i := 574) (by decide +kernel)) rfl
theorem kw_284 : Cond.instanceMethod y_RM_digit ∈ mx_S0.1 := mx_mem (List.mem_of_getElem? (i := 576) (by decide +kernel)) rfl
theorem kw_285 : Cond.selects "LazyBuilderModel" y_RM_digit y_RM_digit ∈ mx_S0.1 := mx_memp (List.mem_of_getElem? (i := 24) (by decide +kernel)) rfl
theorem kw_286 : Cond.methodLink "LazyBuilderModel" 102 y_RM_type ∈ mx_S0.1 := mx_mem (List.mem_of_getElem? (i := 590) (by decide +kernel)) rfl
theorem kw_287 : Cond.instanceMethod y_RM_type ∈ mx_S0.1 := mx_mem (List.mem_of_getElem? (i := 571) (by decide +kernel)) rfl
theorem kw_288 : Cond.selects "LazyBuilderModel" y_RM_type y_RM_type ∈ mx_S0.1 := mx_mem (List.mem_of_getElem? (i := 572) (by decide +kernel)) rfl
theorem kw_289 : Cond.fieldLink "LazyBuilderModel" 105 "LazyBuilderModel" "level" "I" ∈ mx_S0.1 := mx_mem (List.mem_of_getElem? (i := 471) (by decide +kernel)) rfl
theorem kw_290 : Cond.fieldLink "LazyBuilderModel" 108 "LazyBuilderModel" "depth" "I" ∈ mx_S0.1 := mx_mem (List.mem_of_getElem? (i := 467) (by decide +kernel)) rfl
theorem kw_291 : Cond.methodLink "LazyBuilderModel" 111 y_RM_deeper ∈ mx_S0.1 := mx_mem (List.mem_of_getElem? (i := 603) (by decide +kernel)) rfl
theorem kw_292 : Cond.instanceMethod y_RM_deeper ∈ mx_S0.1 := mx_mem (List.mem_of_getElem? (i := 605) (by decide +kernel)) rfl
theorem kw_293 : Cond.selects "LazyBuilderModel" y_RM_deeper y_RM_deeper ∈ mx_S0.1 := mx_memp (List.mem_of_getElem? (i := 29) (by decide +kernel)) rfl
theorem kw_294 : Cond.methodLink "LazyBuilderModel" 115 y_RM_complete ∈ mx_S0.1 := mx_mem (List.mem_of_getElem? (i := 607) (by decide +kernel)) rfl
theorem kw_295 : Cond.instanceMethod y_RM_complete ∈ mx_S0.1 := mx_mem (List.mem_of_getElem? (i := 609) (by decide +kernel)) rfl
theorem kw_296 : Cond.selects "LazyBuilderModel" y_RM_complete y_RM_complete ∈ mx_S0.1 := mx_memp (List.mem_of_getElem? (i := 30) (by decide +kernel)) rfl
theorem kw_297 : Cond.methodLink "LazyBuilderModel" 118 y_RM_badPlace ∈ mx_S0.1 := mx_mem (List.mem_of_getElem? (i := 599) (by decide +kernel)) rfl
theorem kw_298 : Cond.instanceMethod y_RM_badPlace ∈ mx_S0.1 := mx_mem (List.mem_of_getElem? (i := 601) (by decide +kernel)) rfl
theorem kw_299 : Cond.selects "LazyBuilderModel" y_RM_badPlace y_RM_badPlace ∈ mx_S0.1 := mx_memp (List.mem_of_getElem? (i := 28) (by decide +kernel)) rfl
theorem kw_300 : Cond.methodLink "LazyBuilderModel" 122 y_RM_syntax ∈ mx_S0.1 := mx_mem (List.mem_of_getElem? (i := 595) (by decide +kernel)) rfl
theorem kw_301 : Cond.instanceMethod y_RM_syntax ∈ mx_S0.1 := mx_mem (List.mem_of_getElem? (i := 597) (by decide +kernel)) rfl
theorem kw_302 : Cond.selects "LazyBuilderModel" y_RM_syntax y_RM_syntax ∈ mx_S0.1 := mx_memp (List.mem_of_getElem? (i := 27) (by decide +kernel)) rfl
theorem kw_303 : Cond.methodLink "LazyBuilderModel" 126 y_RM_forget ∈ mx_S0.1 := mx_mem (List.mem_of_getElem? (i := 611) (by decide +kernel)) rfl
theorem kw_304 : Cond.instanceMethod y_RM_forget ∈ mx_S0.1 := mx_mem (List.mem_of_getElem? (i := 613) (by decide +kernel)) rfl
theorem kw_305 : Cond.selects "LazyBuilderModel" y_RM_forget y_RM_forget ∈ mx_S0.1 := mx_memp (List.mem_of_getElem? (i := 31) (by decide +kernel)) rfl
theorem kw_306 : Cond.fieldLink "LazyBuilderModel" 129 "LazyBuilderModel" "pushed" "Z" ∈ mx_S0.1 := mx_mem (List.mem_of_getElem? (i := 477) (by decide +kernel)) rfl
theorem kw_307 : Cond.fieldLink "LazyBuilderModel" 133 "LazyBuilderModel" "steps" "I" ∈ mx_S0.1 := mx_mem (List.mem_of_getElem? (i := 480) (by decide +kernel)) rfl
theorem kw_308 : Cond.methodLink "LazyBuilderModel" 143 y_RM_enter ∈ mx_S0.1 := mx_mem (List.mem_of_getElem? (i := 631) (by decide +kernel)) rfl
theorem kw_309 : Cond.instanceMethod y_RM_enter ∈ mx_S0.1 := mx_mem (List.mem_of_getElem? (i := 633) (by decide +kernel)) rfl
theorem kw_310 : Cond.selects "LazyBuilderModel" y_RM_enter y_RM_enter ∈ mx_S0.1 := mx_memp (List.mem_of_getElem? (i := 34) (by decide +kernel)) rfl
theorem kw_311 : Cond.fieldLink "LazyBuilderModel" 139 "LazyBuilderModel" "result" "J" ∈ mx_S0.1 := mx_mem (List.mem_of_getElem? (i := 483) (by decide +kernel)) rfl
theorem kw_312 : Cond.fieldLink "LazyBuilderModel" 136 "LazyBuilderModel" "failure" "I" ∈ mx_S0.1 := mx_mem (List.mem_of_getElem? (i := 482) (by decide +kernel)) rfl
theorem kw_313 : Cond.fieldLink "LazyBuilderModel" 146 "LazyBuilderModel" "frames" "I" ∈ mx_S0.1 := mx_mem (List.mem_of_getElem? (i := 479) (by decide +kernel)) rfl
theorem kw_314 : Cond.constantLong "LazyBuilderModel" 149 500000000000 ∈ mx_S0.1 := mx_mem (List.mem_of_getElem? (i := 655) (by decide +kernel)) rfl
theorem kw_315 : Cond.methodLink "LazyBuilderModel" 151 y_RM_isNumber ∈ mx_S0.1 := mx_mem (List.mem_of_getElem? (i := 651) (by decide +kernel)) rfl
theorem kw_316 : Cond.instanceMethod y_RM_isNumber ∈ mx_S0.1 := mx_mem (List.mem_of_getElem? (i := 653) (by decide +kernel)) rfl
theorem kw_317 : Cond.selects "LazyBuilderModel" y_RM_isNumber y_RM_isNumber ∈ mx_S0.1 := mx_memp (List.mem_of_getElem? (i := 39) (by decide +kernel)) rfl
theorem kw_318 : Cond.fieldLink "LazyBuilderModel" 155 "LazyBuilderModel" "plans" "I" ∈ mx_S0.1 := mx_mem (List.mem_of_getElem? (i := 494) (by decide +kernel)) rfl
theorem kw_319 : Cond.constantLong "LazyBuilderModel" 158 1000000000000 ∈ mx_S0.1 := mx_mem (List.mem_of_getElem? (i := 660) (by decide +kernel)) rfl
theorem kw_320 : Cond.methodLink "LazyBuilderModel" 160 y_RM_construct ∈ mx_S0.1 := mx_mem (List.mem_of_getElem? (i := 665) (by decide +kernel)) rfl
theorem kw_321 : Cond.instanceMethod y_RM_construct ∈ mx_S0.1 := mx_mem (List.mem_of_getElem? (i := 667) (by decide +kernel)) rfl
theorem kw_322 : Cond.selects "LazyBuilderModel" y_RM_construct y_RM_construct ∈ mx_S0.1 := mx_memp (List.mem_of_getElem? (i := 42) (by decide +kernel)) rfl
theorem kw_323 : Cond.methodLink "LazyBuilderModel" 175 y_RM_order ∈ mx_S0.1 := mx_mem (List.mem_of_getElem? (i := 661) (by decide +kernel)) rfl
theorem kw_324 : Cond.instanceMethod y_RM_order ∈ mx_S0.1 := mx_mem (List.mem_of_getElem? (i := 663) (by decide +kernel)) rfl
theorem kw_325 : Cond.selects "LazyBuilderModel" y_RM_order y_RM_order ∈ mx_S0.1 := mx_memp (List.mem_of_getElem? (i := 41) (by decide +kernel)) rfl
theorem kw_326 : Cond.methodLink "LazyBuilderModel" 171 y_RM_describe ∈ mx_S0.1 := mx_mem (List.mem_of_getElem? (i := 656) (by decide +kernel)) rfl
theorem kw_327 : Cond.instanceMethod y_RM_describe ∈ mx_S0.1 := mx_mem (List.mem_of_getElem? (i := 658) (by decide +kernel)) rfl
theorem kw_328 : Cond.selects "LazyBuilderModel" y_RM_describe y_RM_describe ∈ mx_S0.1 := mx_memp (List.mem_of_getElem? (i := 40) (by decide +kernel)) rfl
theorem kw_329 : Cond.methodLink "LazyBuilderModel" 163 y_RM_behind ∈ mx_S0.1 := mx_mem (List.mem_of_getElem? (i := 647) (by decide +kernel)) rfl
theorem kw_330 : Cond.instanceMethod y_RM_behind ∈ mx_S0.1 := mx_mem (List.mem_of_getElem? (i := 649) (by decide +kernel)) rfl
theorem kw_331 : Cond.selects "LazyBuilderModel" y_RM_behind y_RM_behind ∈ mx_S0.1 := mx_memp (List.mem_of_getElem? (i := 38) (by decide +kernel)) rfl
theorem kw_332 : Cond.methodLink "LazyBuilderModel" 167 y_RM_begin ∈ mx_S0.1 := mx_mem (List.mem_of_getElem? (i := 627) (by decide +kernel)) rfl
theorem kw_333 : Cond.instanceMethod y_RM_begin ∈ mx_S0.1 := mx_mem (List.mem_of_getElem? (i := 629) (by decide +kernel)) rfl
theorem kw_334 : Cond.selects "LazyBuilderModel" y_RM_begin y_RM_begin ∈ mx_S0.1 := mx_memp (List.mem_of_getElem? (i := 33) (by decide +kernel)) rfl
theorem kw_335 : Cond.methodLink "LazyBuilderModel" 178 y_RM_operate ∈ mx_S0.1 := mx_mem (List.mem_of_getElem? (i := 677) (by decide +kernel)) rfl
theorem kw_336 : Cond.instanceMethod y_RM_operate ∈ mx_S0.1 := mx_mem (List.mem_of_getElem? (i := 679) (by decide +kernel)) rfl
theorem kw_337 : Cond.selects "LazyBuilderModel" y_RM_operate y_RM_operate ∈ mx_S0.1 := mx_memp (List.mem_of_getElem? (i := 45) (by decide +kernel)) rfl
theorem kw_338 : Cond.methodLink "LazyBuilderModel" 181 y_RM_mild ∈ mx_S0.1 := mx_mem (List.mem_of_getElem? (i := 639) (by decide +kernel)) rfl
theorem kw_339 : Cond.instanceMethod y_RM_mild ∈ mx_S0.1 := mx_mem (List.mem_of_getElem? (i := 641) (by decide +kernel)) rfl
theorem kw_340 : Cond.selects "LazyBuilderModel" y_RM_mild y_RM_mild ∈ mx_S0.1 := mx_memp (List.mem_of_getElem? (i := 36) (by decide +kernel)) rfl
theorem kw_341 : Cond.fieldLink "LazyBuilderModel" 184 "LazyBuilderModel" "failures" "I" ∈ mx_S0.1 := mx_mem (List.mem_of_getElem? (i := 481) (by decide +kernel)) rfl
theorem kw_342 : Cond.methodLink "LazyBuilderModel" 187 y_RM_unwind ∈ mx_S0.1 := mx_mem (List.mem_of_getElem? (i := 635) (by decide +kernel)) rfl
theorem kw_343 : Cond.instanceMethod y_RM_unwind ∈ mx_S0.1 := mx_mem (List.mem_of_getElem? (i := 637) (by decide +kernel)) rfl
theorem kw_344 : Cond.selects "LazyBuilderModel" y_RM_unwind y_RM_unwind ∈ mx_S0.1 := mx_memp (List.mem_of_getElem? (i := 35) (by decide +kernel)) rfl
theorem kw_345 : Cond.methodLink "LazyBuilderModel" 190 y_RM_proceed ∈ mx_S0.1 := mx_mem (List.mem_of_getElem? (i := 643) (by decide +kernel)) rfl
theorem kw_346 : Cond.instanceMethod y_RM_proceed ∈ mx_S0.1 := mx_mem (List.mem_of_getElem? (i := 645) (by decide +kernel)) rfl
theorem kw_347 : Cond.selects "LazyBuilderModel" y_RM_proceed y_RM_proceed ∈ mx_S0.1 := mx_memp (List.mem_of_getElem? (i := 37) (by decide +kernel)) rfl
theorem kw_348 : Cond.methodLink "LazyBuilderModel" 193 y_RM_work ∈ mx_S0.1 := mx_mem (List.mem_of_getElem? (i := 623) (by decide +kernel)) rfl
theorem kw_349 : Cond.instanceMethod y_RM_work ∈ mx_S0.1 := mx_mem (List.mem_of_getElem? (i := 625) (by decide +kernel)) rfl
theorem kw_350 : Cond.selects "LazyBuilderModel" y_RM_work y_RM_work ∈ mx_S0.1 := mx_memp (List.mem_of_getElem? (i := 32) (by decide +kernel)) rfl
theorem kw_351 : Cond.methodLink "LazyBuilderModel" 196 y_RM_part ∈ mx_S0.1 := mx_mem (List.mem_of_getElem? (i := 673) (by decide +kernel)) rfl
theorem kw_352 : Cond.instanceMethod y_RM_part ∈ mx_S0.1 := mx_mem (List.mem_of_getElem? (i := 675) (by decide +kernel)) rfl
theorem kw_353 : Cond.selects "LazyBuilderModel" y_RM_part y_RM_part ∈ mx_S0.1 := mx_memp (List.mem_of_getElem? (i := 44) (by decide +kernel)) rfl
theorem kw_354 : Cond.fieldLink "LazyBuilderModel" 200 "LazyBuilderModel" "builds" "I" ∈ mx_S0.1 := mx_mem (List.mem_of_getElem? (i := 495) (by decide +kernel)) rfl
theorem kw_355 : Cond.methodLink "LazyBuilderModel" 203 y_RM_assemble ∈ mx_S0.1 := mx_mem (List.mem_of_getElem? (i := 669) (by decide +kernel)) rfl
theorem kw_356 : Cond.instanceMethod y_RM_assemble ∈ mx_S0.1 := mx_mem (List.mem_of_getElem? (i := 671) (by decide +kernel)) rfl
theorem kw_357 : Cond.selects "LazyBuilderModel" y_RM_assemble y_RM_assemble ∈ mx_S0.1 := mx_memp (List.mem_of_getElem? (i := 43) (by decide +kernel)) rfl
theorem kw_358 : Cond.constantLong "LazyBuilderModel" 206 (-1000000000000) ∈ mx_S0.1 := mx_mem (List.mem_of_getElem? (i := 689) (by decide +kernel)) rfl
theorem kw_359 : Cond.methodLink "LazyBuilderModel" 208 y_RM_noPlan ∈ mx_S0.1 := mx_mem (List.mem_of_getElem? (i := 698) (by decide +kernel)) rfl
theorem kw_360 : Cond.instanceMethod y_RM_noPlan ∈ mx_S0.1 := mx_mem (List.mem_of_getElem? (i := 700) (by decide +kernel)) rfl
theorem kw_361 : Cond.selects "LazyBuilderModel" y_RM_noPlan y_RM_noPlan ∈ mx_S0.1 := mx_memp (List.mem_of_getElem? (i := 46) (by decide +kernel)) rfl
theorem k_objcode : Cond.code objectInit ⟨#[0xb1]⟩ 1 none ∈ mx_S0.1 := mx_mem (List.mem_of_getElem? (i := 17) (by decide +kernel)) rfl
theorem k_mmax1 : Cond.static Lib.Math.max.name ∈ mx_S0.1 := mx_mem (List.mem_of_getElem? (i := 198) (by decide +kernel)) rfl
theorem k_mmax2 : Cond.initialized "java/lang/Math" ∈ mx_S0.1 := mx_mem (List.mem_of_getElem? (i := 7) (by decide +kernel)) rfl
theorem k_mmax3 : Cond.code Lib.Math.max.name Lib.Math.max.code 2 (some .int) ∈ mx_S0.1 := mx_mem (List.mem_of_getElem? (i := 199) (by decide +kernel)) rfl
theorem k_acp1 : Cond.native arraycopyName ∈ mx_S0.1 := mx_mem (List.mem_of_getElem? (i := 214) (by decide +kernel)) rfl
theorem k_acp2 : Cond.static arraycopyName ∈ mx_S0.1 := mx_mem (List.mem_of_getElem? (i := 213) (by decide +kernel)) rfl
theorem k_acp3 : Cond.initialized "java/lang/System" ∈ mx_S0.1 := mx_mem (List.mem_of_getElem? (i := 8) (by decide +kernel)) rfl
theorem ok_LB_init : mx_okM mx_S0 mm_LB_init 0 := ⟨by decide +kernel, ⟨by decide +kernel, by decide +kernel, by decide +kernel⟩, by decide +kernel, mx_mem (List.mem_of_getElem? (i := 14) (by decide +kernel)) rfl, mx_mem (List.mem_of_getElem? (i := 1) (by decide +kernel)) rfl⟩
theorem ok_LB_type : mx_okM mx_S0 mm_LB_type 1 := ⟨by decide +kernel, ⟨by decide +kernel, by decide +kernel, by decide +kernel⟩, by decide +kernel, mx_mem (List.mem_of_getElem? (i := 141) (by decide +kernel)) rfl, mx_mem (List.mem_of_getElem? (i := 1) (by decide +kernel)) rfl⟩
theorem ok_LB_types : mx_okM mx_S0 mm_LB_types 1 := ⟨by decide +kernel, ⟨by decide +kernel, by decide +kernel, by decide +kernel⟩, by decide +kernel, mx_mem (List.mem_of_getElem? (i := 161) (by decide +kernel)) rfl, mx_mem (List.mem_of_getElem? (i := 1) (by decide +kernel)) rfl⟩
theorem ok_LB_define : mx_okM mx_S0 mm_LB_define 1 := ⟨by decide +kernel, ⟨by decide +kernel, by decide +kernel, by decide +kernel⟩, by decide +kernel, mx_mem (List.mem_of_getElem? (i := 165) (by decide +kernel)) rfl, mx_mem (List.mem_of_getElem? (i := 1) (by decide +kernel)) rfl⟩
theorem ok_LB_undefine : mx_okM mx_S0 mm_LB_undefine 1 := ⟨by decide +kernel, ⟨by decide +kernel, by decide +kernel, by decide +kernel⟩, by decide +kernel, mx_mem (List.mem_of_getElem? (i := 223) (by decide +kernel)) rfl, mx_mem (List.mem_of_getElem? (i := 1) (by decide +kernel)) rfl⟩
theorem ok_LB_force : mx_okM mx_S0 mm_LB_force 1 := ⟨by decide +kernel, ⟨by decide +kernel, by decide +kernel, by decide +kernel⟩, by decide +kernel, mx_mem (List.mem_of_getElem? (i := 231) (by decide +kernel)) rfl, mx_mem (List.mem_of_getElem? (i := 1) (by decide +kernel)) rfl⟩
theorem ok_LB_show : mx_okM mx_S0 mm_LB_show 0 := ⟨by decide +kernel, ⟨by decide +kernel, by decide +kernel, by decide +kernel⟩, by decide +kernel, mx_mem (List.mem_of_getElem? (i := 394) (by decide +kernel)) rfl, mx_mem (List.mem_of_getElem? (i := 1) (by decide +kernel)) rfl⟩
theorem ok_LB_value : mx_okM mx_S0 mm_LB_value 1 := ⟨by decide +kernel, ⟨by decide +kernel, by decide +kernel, by decide +kernel⟩, by decide +kernel, mx_mem (List.mem_of_getElem? (i := 407) (by decide +kernel)) rfl, mx_mem (List.mem_of_getElem? (i := 1) (by decide +kernel)) rfl⟩
theorem ok_LB_builder : mx_okM mx_S0 mm_LB_builder 2 := ⟨by decide +kernel, ⟨by decide +kernel, by decide +kernel, by decide +kernel⟩, by decide +kernel, mx_mem (List.mem_of_getElem? (i := 411) (by decide +kernel)) rfl, mx_mem (List.mem_of_getElem? (i := 1) (by decide +kernel)) rfl⟩
theorem ok_LB_build : mx_okM mx_S0 mm_LB_build 1 := ⟨by decide +kernel, ⟨by decide +kernel, by decide +kernel, by decide +kernel⟩, by decide +kernel, mx_mem (List.mem_of_getElem? (i := 415) (by decide +kernel)) rfl, mx_mem (List.mem_of_getElem? (i := 1) (by decide +kernel)) rfl⟩
theorem ok_LB_root : mx_okM mx_S0 mm_LB_root 2 := ⟨by decide +kernel, ⟨by decide +kernel, by decide +kernel, by decide +kernel⟩, by decide +kernel, mx_mem (List.mem_of_getElem? (i := 421) (by decide +kernel)) rfl, mx_mem (List.mem_of_getElem? (i := 1) (by decide +kernel)) rfl⟩
theorem ok_LB_collect : mx_okM mx_S0 mm_LB_collect 0 := ⟨by decide +kernel, ⟨by decide +kernel, by decide +kernel, by decide +kernel⟩, by decide +kernel, mx_mem (List.mem_of_getElem? (i := 425) (by decide +kernel)) rfl, mx_mem (List.mem_of_getElem? (i := 1) (by decide +kernel)) rfl⟩
theorem ok_LB_input : mx_okM mx_S0 mm_LB_input 2 := ⟨by decide +kernel, ⟨by decide +kernel, by decide +kernel, by decide +kernel⟩, by decide +kernel, mx_mem (List.mem_of_getElem? (i := 437) (by decide +kernel)) rfl, mx_mem (List.mem_of_getElem? (i := 1) (by decide +kernel)) rfl⟩
theorem ok_LB_plan : mx_okM mx_S0 mm_LB_plan 2 := ⟨by decide +kernel, ⟨by decide +kernel, by decide +kernel, by decide +kernel⟩, by decide +kernel, mx_mem (List.mem_of_getElem? (i := 441) (by decide +kernel)) rfl, mx_mem (List.mem_of_getElem? (i := 1) (by decide +kernel)) rfl⟩
theorem ok_LB_count : mx_okM mx_S0 mm_LB_count 1 := ⟨by decide +kernel, ⟨by decide +kernel, by decide +kernel, by decide +kernel⟩, by decide +kernel, mx_mem (List.mem_of_getElem? (i := 445) (by decide +kernel)) rfl, mx_mem (List.mem_of_getElem? (i := 1) (by decide +kernel)) rfl⟩
theorem ok_LB_readLine : mx_okM mx_S0 mm_LB_readLine 0 := ⟨by decide +kernel, ⟨by decide +kernel, by decide +kernel, by decide +kernel⟩, by decide +kernel, mx_mem (List.mem_of_getElem? (i := 172) (by decide +kernel)) rfl, mx_mem (List.mem_of_getElem? (i := 1) (by decide +kernel)) rfl⟩
theorem ok_LB_workLineOut : mx_okM mx_S0 mm_LB_workLineOut 0 := ⟨by decide +kernel, ⟨by decide +kernel, by decide +kernel, by decide +kernel⟩, by decide +kernel, mx_mem (List.mem_of_getElem? (i := 398) (by decide +kernel)) rfl, mx_mem (List.mem_of_getElem? (i := 1) (by decide +kernel)) rfl⟩
theorem ok_LB_isNameNumber : mx_okM mx_S0 mm_LB_isNameNumber 1 := ⟨by decide +kernel, ⟨by decide +kernel, by decide +kernel, by decide +kernel⟩, by decide +kernel, mx_mem (List.mem_of_getElem? (i := 168) (by decide +kernel)) rfl, mx_mem (List.mem_of_getElem? (i := 1) (by decide +kernel)) rfl⟩
theorem ok_LB_isDigit : mx_okM mx_S0 mm_LB_isDigit 1 := ⟨by decide +kernel, ⟨by decide +kernel, by decide +kernel, by decide +kernel⟩, by decide +kernel, mx_mem (List.mem_of_getElem? (i := 151) (by decide +kernel)) rfl, mx_mem (List.mem_of_getElem? (i := 1) (by decide +kernel)) rfl⟩
theorem ok_LB_isLetter : mx_okM mx_S0 mm_LB_isLetter 1 := ⟨by decide +kernel, ⟨by decide +kernel, by decide +kernel, by decide +kernel⟩, by decide +kernel, mx_mem (List.mem_of_getElem? (i := 154) (by decide +kernel)) rfl, mx_mem (List.mem_of_getElem? (i := 1) (by decide +kernel)) rfl⟩
theorem ok_LB_partsAfter : mx_okM mx_S0 mm_LB_partsAfter 1 := ⟨by decide +kernel, ⟨by decide +kernel, by decide +kernel, by decide +kernel⟩, by decide +kernel, mx_mem (List.mem_of_getElem? (i := 157) (by decide +kernel)) rfl, mx_mem (List.mem_of_getElem? (i := 1) (by decide +kernel)) rfl⟩
theorem ok_LB_isFailure : mx_okM mx_S0 mm_LB_isFailure 1 := ⟨by decide +kernel, ⟨by decide +kernel, by decide +kernel, by decide +kernel⟩, by decide +kernel, mx_mem (List.mem_of_getElem? (i := 260) (by decide +kernel)) rfl, mx_mem (List.mem_of_getElem? (i := 1) (by decide +kernel)) rfl⟩
theorem ok_LB_isPlan : mx_okM mx_S0 mm_LB_isPlan 1 := ⟨by decide +kernel, ⟨by decide +kernel, by decide +kernel, by decide +kernel⟩, by decide +kernel, mx_mem (List.mem_of_getElem? (i := 263) (by decide +kernel)) rfl, mx_mem (List.mem_of_getElem? (i := 1) (by decide +kernel)) rfl⟩
theorem ok_LB_numberOf : mx_okM mx_S0 mm_LB_numberOf 1 := ⟨by decide +kernel, ⟨by decide +kernel, by decide +kernel, by decide +kernel⟩, by decide +kernel, mx_mem (List.mem_of_getElem? (i := 348) (by decide +kernel)) rfl, mx_mem (List.mem_of_getElem? (i := 1) (by decide +kernel)) rfl⟩
theorem ok_LBText_init : mx_okM mx_S0 mm_LBText_init 0 := ⟨by decide +kernel, ⟨by decide +kernel, by decide +kernel, by decide +kernel⟩, by decide +kernel, mx_mem (List.mem_of_getElem? (i := 22) (by decide +kernel)) rfl, mx_mem (List.mem_of_getElem? (i := 2) (by decide +kernel)) rfl⟩
theorem ok_LBText_append : mx_okM mx_S0 mm_LBText_append 1 := ⟨by decide +kernel, ⟨by decide +kernel, by decide +kernel, by decide +kernel⟩, by decide +kernel, mx_mem (List.mem_of_getElem? (i := 145) (by decide +kernel)) rfl, mx_mem (List.mem_of_getElem? (i := 2) (by decide +kernel)) rfl⟩
theorem ok_LBText_clear : mx_okM mx_S0 mm_LBText_clear 0 := ⟨by decide +kernel, ⟨by decide +kernel, by decide +kernel, by decide +kernel⟩, by decide +kernel, mx_mem (List.mem_of_getElem? (i := 203) (by decide +kernel)) rfl, mx_mem (List.mem_of_getElem? (i := 2) (by decide +kernel)) rfl⟩
theorem ok_LBText_copyFrom : mx_okM mx_S0 mm_LBText_copyFrom 1 := ⟨by decide +kernel, ⟨by decide +kernel, by decide +kernel, by decide +kernel⟩, by decide +kernel, mx_mem (List.mem_of_getElem? (i := 211) (by decide +kernel)) rfl, mx_mem (List.mem_of_getElem? (i := 2) (by decide +kernel)) rfl⟩
theorem ok_LBText_codeAt : mx_okM mx_S0 mm_LBText_codeAt 1 := ⟨by decide +kernel, ⟨by decide +kernel, by decide +kernel, by decide +kernel⟩, by decide +kernel, mx_mem (List.mem_of_getElem? (i := 192) (by decide +kernel)) rfl, mx_mem (List.mem_of_getElem? (i := 2) (by decide +kernel)) rfl⟩
theorem ok_LBText_endOf : mx_okM mx_S0 mm_LBText_endOf 1 := ⟨by decide +kernel, ⟨by decide +kernel, by decide +kernel, by decide +kernel⟩, by decide +kernel, mx_mem (List.mem_of_getElem? (i := 269) (by decide +kernel)) rfl, mx_mem (List.mem_of_getElem? (i := 2) (by decide +kernel)) rfl⟩
theorem ok_LBText_read : mx_okM mx_S0 mm_LBText_read 0 := ⟨by decide +kernel, ⟨by decide +kernel, by decide +kernel, by decide +kernel⟩, by decide +kernel, mx_mem (List.mem_of_getElem? (i := 176) (by decide +kernel)) rfl, mx_mem (List.mem_of_getElem? (i := 2) (by decide +kernel)) rfl⟩
theorem ok_LBText_readExpression : mx_okM mx_S0 mm_LBText_readExpression 2 := ⟨by decide +kernel, ⟨by decide +kernel, by decide +kernel, by decide +kernel⟩, by decide +kernel, mx_mem (List.mem_of_getElem? (i := 180) (by decide +kernel)) rfl, mx_mem (List.mem_of_getElem? (i := 2) (by decide +kernel)) rfl⟩
theorem ok_LBText_readKind : mx_okM mx_S0 mm_LBText_readKind 2 := ⟨by decide +kernel, ⟨by decide +kernel, by decide +kernel, by decide +kernel⟩, by decide +kernel, mx_mem (List.mem_of_getElem? (i := 188) (by decide +kernel)) rfl, mx_mem (List.mem_of_getElem? (i := 2) (by decide +kernel)) rfl⟩
theorem ok_LBText_readPlan : mx_okM mx_S0 mm_LBText_readPlan 2 := ⟨by decide +kernel, ⟨by decide +kernel, by decide +kernel, by decide +kernel⟩, by decide +kernel, mx_mem (List.mem_of_getElem? (i := 196) (by decide +kernel)) rfl, mx_mem (List.mem_of_getElem? (i := 2) (by decide +kernel)) rfl⟩
theorem ok_LBText_badAt : mx_okM mx_S0 mm_LBText_badAt 1 := ⟨by decide +kernel, ⟨by decide +kernel, by decide +kernel, by decide +kernel⟩, by decide +kernel, mx_mem (List.mem_of_getElem? (i := 184) (by decide +kernel)) rfl, mx_mem (List.mem_of_getElem? (i := 2) (by decide +kernel)) rfl⟩
theorem ok_LBText_belongs : mx_okM mx_S0 mm_LBText_belongs 1 := ⟨by decide +kernel, ⟨by decide +kernel, by decide +kernel, by decide +kernel⟩, by decide +kernel, mx_mem (List.mem_of_getElem? (i := 148) (by decide +kernel)) rfl, mx_mem (List.mem_of_getElem? (i := 2) (by decide +kernel)) rfl⟩
theorem ok_LBName_init : mx_okM mx_S0 mm_LBName_init 0 := ⟨by decide +kernel, ⟨by decide +kernel, by decide +kernel, by decide +kernel⟩, by decide +kernel, mx_mem (List.mem_of_getElem? (i := 79) (by decide +kernel)) rfl, mx_mem (List.mem_of_getElem? (i := 5) (by decide +kernel)) rfl⟩
theorem ok_LBPlan_init : mx_okM mx_S0 mm_LBPlan_init 2 := ⟨by decide +kernel, ⟨by decide +kernel, by decide +kernel, by decide +kernel⟩, by decide +kernel, mx_mem (List.mem_of_getElem? (i := 301) (by decide +kernel)) rfl, mx_mem (List.mem_of_getElem? (i := 9) (by decide +kernel)) rfl⟩
theorem ok_LBPlan_isAlike : mx_okM mx_S0 mm_LBPlan_isAlike 4 := ⟨by decide +kernel, ⟨by decide +kernel, by decide +kernel, by decide +kernel⟩, by decide +kernel, mx_mem (List.mem_of_getElem? (i := 294) (by decide +kernel)) rfl, mx_mem (List.mem_of_getElem? (i := 9) (by decide +kernel)) rfl⟩
theorem ok_LBStore_init : mx_okM mx_S0 mm_LBStore_init 0 := ⟨by decide +kernel, ⟨by decide +kernel, by decide +kernel, by decide +kernel⟩, by decide +kernel, mx_mem (List.mem_of_getElem? (i := 48) (by decide +kernel)) rfl, mx_mem (List.mem_of_getElem? (i := 3) (by decide +kernel)) rfl⟩
theorem ok_LBStore_planAt : mx_okM mx_S0 mm_LBStore_planAt 1 := ⟨by decide +kernel, ⟨by decide +kernel, by decide +kernel, by decide +kernel⟩, by decide +kernel, mx_mem (List.mem_of_getElem? (i := 352) (by decide +kernel)) rfl, mx_mem (List.mem_of_getElem? (i := 3) (by decide +kernel)) rfl⟩
theorem ok_LBStore_planIn : mx_okM mx_S0 mm_LBStore_planIn 1 := ⟨by decide +kernel, ⟨by decide +kernel, by decide +kernel, by decide +kernel⟩, by decide +kernel, mx_mem (List.mem_of_getElem? (i := 344) (by decide +kernel)) rfl, mx_mem (List.mem_of_getElem? (i := 3) (by decide +kernel)) rfl⟩
theorem ok_LBStore_planOf : mx_okM mx_S0 mm_LBStore_planOf 4 := ⟨by decide +kernel, ⟨by decide +kernel, by decide +kernel, by decide +kernel⟩, by decide +kernel, mx_mem (List.mem_of_getElem? (i := 290) (by decide +kernel)) rfl, mx_mem (List.mem_of_getElem? (i := 3) (by decide +kernel)) rfl⟩
theorem ok_LBStore_resultOf : mx_okM mx_S0 mm_LBStore_resultOf 1 := ⟨by decide +kernel, ⟨by decide +kernel, by decide +kernel, by decide +kernel⟩, by decide +kernel, mx_mem (List.mem_of_getElem? (i := 336) (by decide +kernel)) rfl, mx_mem (List.mem_of_getElem? (i := 3) (by decide +kernel)) rfl⟩
theorem ok_LBStore_partOf : mx_okM mx_S0 mm_LBStore_partOf 2 := ⟨by decide +kernel, ⟨by decide +kernel, by decide +kernel, by decide +kernel⟩, by decide +kernel, mx_mem (List.mem_of_getElem? (i := 340) (by decide +kernel)) rfl, mx_mem (List.mem_of_getElem? (i := 3) (by decide +kernel)) rfl⟩
theorem ok_LBStore_finish : mx_okM mx_S0 mm_LBStore_finish 1 := ⟨by decide +kernel, ⟨by decide +kernel, by decide +kernel, by decide +kernel⟩, by decide +kernel, mx_mem (List.mem_of_getElem? (i := 358) (by decide +kernel)) rfl, mx_mem (List.mem_of_getElem? (i := 3) (by decide +kernel)) rfl⟩
theorem ok_LBStore_outcome : mx_okM mx_S0 mm_LBStore_outcome 2 := ⟨by decide +kernel, ⟨by decide +kernel, by decide +kernel, by decide +kernel⟩, by decide +kernel, mx_mem (List.mem_of_getElem? (i := 371) (by decide +kernel)) rfl, mx_mem (List.mem_of_getElem? (i := 3) (by decide +kernel)) rfl⟩
theorem ok_LBStore_sumOf : mx_okM mx_S0 mm_LBStore_sumOf 1 := ⟨by decide +kernel, ⟨by decide +kernel, by decide +kernel, by decide +kernel⟩, by decide +kernel, mx_mem (List.mem_of_getElem? (i := 379) (by decide +kernel)) rfl, mx_mem (List.mem_of_getElem? (i := 3) (by decide +kernel)) rfl⟩
theorem ok_LBStore_productOf : mx_okM mx_S0 mm_LBStore_productOf 1 := ⟨by decide +kernel, ⟨by decide +kernel, by decide +kernel, by decide +kernel⟩, by decide +kernel, mx_mem (List.mem_of_getElem? (i := 375) (by decide +kernel)) rfl, mx_mem (List.mem_of_getElem? (i := 3) (by decide +kernel)) rfl⟩
theorem ok_LBStore_greatestOf : mx_okM mx_S0 mm_LBStore_greatestOf 1 := ⟨by decide +kernel, ⟨by decide +kernel, by decide +kernel, by decide +kernel⟩, by decide +kernel, mx_mem (List.mem_of_getElem? (i := 362) (by decide +kernel)) rfl, mx_mem (List.mem_of_getElem? (i := 3) (by decide +kernel)) rfl⟩
theorem ok_LBStore_readyPart : mx_okM mx_S0 mm_LBStore_readyPart 1 := ⟨by decide +kernel, ⟨by decide +kernel, by decide +kernel, by decide +kernel⟩, by decide +kernel, mx_mem (List.mem_of_getElem? (i := 366) (by decide +kernel)) rfl, mx_mem (List.mem_of_getElem? (i := 3) (by decide +kernel)) rfl⟩
theorem ok_LBStore_sweep : mx_okM mx_S0 mm_LBStore_sweep 0 := ⟨by decide +kernel, ⟨by decide +kernel, by decide +kernel, by decide +kernel⟩, by decide +kernel, mx_mem (List.mem_of_getElem? (i := 429) (by decide +kernel)) rfl, mx_mem (List.mem_of_getElem? (i := 3) (by decide +kernel)) rfl⟩
theorem ok_LBStore_wantInputs : mx_okM mx_S0 mm_LBStore_wantInputs 1 := ⟨by decide +kernel, ⟨by decide +kernel, by decide +kernel, by decide +kernel⟩, by decide +kernel, mx_mem (List.mem_of_getElem? (i := 433) (by decide +kernel)) rfl, mx_mem (List.mem_of_getElem? (i := 3) (by decide +kernel)) rfl⟩
theorem ok_LBWorker_init : mx_okM mx_S0 mm_LBWorker_init 1 := ⟨by decide +kernel, ⟨by decide +kernel, by decide +kernel, by decide +kernel⟩, by decide +kernel, mx_mem (List.mem_of_getElem? (i := 72) (by decide +kernel)) rfl, mx_mem (List.mem_of_getElem? (i := 4) (by decide +kernel)) rfl⟩
theorem ok_LBWorker_bind : mx_okM mx_S0 mm_LBWorker_bind 2 := ⟨by decide +kernel, ⟨by decide +kernel, by decide +kernel, by decide +kernel⟩, by decide +kernel, mx_mem (List.mem_of_getElem? (i := 207) (by decide +kernel)) rfl, mx_mem (List.mem_of_getElem? (i := 4) (by decide +kernel)) rfl⟩
theorem ok_LBWorker_unbind : mx_okM mx_S0 mm_LBWorker_unbind 1 := ⟨by decide +kernel, ⟨by decide +kernel, by decide +kernel, by decide +kernel⟩, by decide +kernel, mx_mem (List.mem_of_getElem? (i := 227) (by decide +kernel)) rfl, mx_mem (List.mem_of_getElem? (i := 4) (by decide +kernel)) rfl⟩
theorem ok_LBWorker_forgetValues : mx_okM mx_S0 mm_LBWorker_forgetValues 0 := ⟨by decide +kernel, ⟨by decide +kernel, by decide +kernel, by decide +kernel⟩, by decide +kernel, mx_mem (List.mem_of_getElem? (i := 218) (by decide +kernel)) rfl, mx_mem (List.mem_of_getElem? (i := 4) (by decide +kernel)) rfl⟩
theorem ok_LBWorker_namesBound : mx_okM mx_S0 mm_LBWorker_namesBound 0 := ⟨by decide +kernel, ⟨by decide +kernel, by decide +kernel, by decide +kernel⟩, by decide +kernel, mx_mem (List.mem_of_getElem? (i := 449) (by decide +kernel)) rfl, mx_mem (List.mem_of_getElem? (i := 4) (by decide +kernel)) rfl⟩
theorem ok_LBWorker_namesKept : mx_okM mx_S0 mm_LBWorker_namesKept 0 := ⟨by decide +kernel, ⟨by decide +kernel, by decide +kernel, by decide +kernel⟩, by decide +kernel, mx_mem (List.mem_of_getElem? (i := 453) (by decide +kernel)) rfl, mx_mem (List.mem_of_getElem? (i := 4) (by decide +kernel)) rfl⟩
theorem ok_LBWorker_isClosed : mx_okM mx_S0 mm_LBWorker_isClosed 0 := ⟨by decide +kernel, ⟨by decide +kernel, by decide +kernel, by decide +kernel⟩, by decide +kernel, mx_mem (List.mem_of_getElem? (i := 235) (by decide +kernel)) rfl, mx_mem (List.mem_of_getElem? (i := 4) (by decide +kernel)) rfl⟩
theorem ok_LBWorker_answerOf : mx_okM mx_S0 mm_LBWorker_answerOf 1 := ⟨by decide +kernel, ⟨by decide +kernel, by decide +kernel, by decide +kernel⟩, by decide +kernel, mx_mem (List.mem_of_getElem? (i := 390) (by decide +kernel)) rfl, mx_mem (List.mem_of_getElem? (i := 4) (by decide +kernel)) rfl⟩
theorem ok_LBWorker_workOutName : mx_okM mx_S0 mm_LBWorker_workOutName 1 := ⟨by decide +kernel, ⟨by decide +kernel, by decide +kernel, by decide +kernel⟩, by decide +kernel, mx_mem (List.mem_of_getElem? (i := 239) (by decide +kernel)) rfl, mx_mem (List.mem_of_getElem? (i := 4) (by decide +kernel)) rfl⟩
theorem ok_LBWorker_workOutText : mx_okM mx_S0 mm_LBWorker_workOutText 1 := ⟨by decide +kernel, ⟨by decide +kernel, by decide +kernel, by decide +kernel⟩, by decide +kernel, mx_mem (List.mem_of_getElem? (i := 402) (by decide +kernel)) rfl, mx_mem (List.mem_of_getElem? (i := 4) (by decide +kernel)) rfl⟩
theorem ok_LBWorker_work : mx_okM mx_S0 mm_LBWorker_work 3 := ⟨by decide +kernel, ⟨by decide +kernel, by decide +kernel, by decide +kernel⟩, by decide +kernel, mx_mem (List.mem_of_getElem? (i := 249) (by decide +kernel)) rfl, mx_mem (List.mem_of_getElem? (i := 4) (by decide +kernel)) rfl⟩
theorem ok_LBWorker_workName : mx_okM mx_S0 mm_LBWorker_workName 2 := ⟨by decide +kernel, ⟨by decide +kernel, by decide +kernel, by decide +kernel⟩, by decide +kernel, mx_mem (List.mem_of_getElem? (i := 243) (by decide +kernel)) rfl, mx_mem (List.mem_of_getElem? (i := 4) (by decide +kernel)) rfl⟩
theorem ok_LBWorker_workPair : mx_okM mx_S0 mm_LBWorker_workPair 3 := ⟨by decide +kernel, ⟨by decide +kernel, by decide +kernel, by decide +kernel⟩, by decide +kernel, mx_mem (List.mem_of_getElem? (i := 383) (by decide +kernel)) rfl, mx_mem (List.mem_of_getElem? (i := 4) (by decide +kernel)) rfl⟩
theorem ok_LBWorker_combine : mx_okM mx_S0 mm_LBWorker_combine 3 := ⟨by decide +kernel, ⟨by decide +kernel, by decide +kernel, by decide +kernel⟩, by decide +kernel, mx_mem (List.mem_of_getElem? (i := 386) (by decide +kernel)) rfl, mx_mem (List.mem_of_getElem? (i := 4) (by decide +kernel)) rfl⟩
theorem ok_LBWorker_workChoice : mx_okM mx_S0 mm_LBWorker_workChoice 3 := ⟨by decide +kernel, ⟨by decide +kernel, by decide +kernel, by decide +kernel⟩, by decide +kernel, mx_mem (List.mem_of_getElem? (i := 257) (by decide +kernel)) rfl, mx_mem (List.mem_of_getElem? (i := 4) (by decide +kernel)) rfl⟩
theorem ok_LBWorker_workAbort : mx_okM mx_S0 mm_LBWorker_workAbort 3 := ⟨by decide +kernel, ⟨by decide +kernel, by decide +kernel, by decide +kernel⟩, by decide +kernel, mx_mem (List.mem_of_getElem? (i := 273) (by decide +kernel)) rfl, mx_mem (List.mem_of_getElem? (i := 4) (by decide +kernel)) rfl⟩
theorem ok_LBWorker_workTry : mx_okM mx_S0 mm_LBWorker_workTry 3 := ⟨by decide +kernel, ⟨by decide +kernel, by decide +kernel, by decide +kernel⟩, by decide +kernel, mx_mem (List.mem_of_getElem? (i := 278) (by decide +kernel)) rfl, mx_mem (List.mem_of_getElem? (i := 4) (by decide +kernel)) rfl⟩
theorem ok_LBWorker_canBeMadeGood : mx_okM mx_S0 mm_LBWorker_canBeMadeGood 1 := ⟨by decide +kernel, ⟨by decide +kernel, by decide +kernel, by decide +kernel⟩, by decide +kernel, mx_mem (List.mem_of_getElem? (i := 281) (by decide +kernel)) rfl, mx_mem (List.mem_of_getElem? (i := 4) (by decide +kernel)) rfl⟩
theorem ok_LBWorker_workPlan : mx_okM mx_S0 mm_LBWorker_workPlan 3 := ⟨by decide +kernel, ⟨by decide +kernel, by decide +kernel, by decide +kernel⟩, by decide +kernel, mx_mem (List.mem_of_getElem? (i := 286) (by decide +kernel)) rfl, mx_mem (List.mem_of_getElem? (i := 4) (by decide +kernel)) rfl⟩
theorem ok_LBWorker_workResult : mx_okM mx_S0 mm_LBWorker_workResult 3 := ⟨by decide +kernel, ⟨by decide +kernel, by decide +kernel, by decide +kernel⟩, by decide +kernel, mx_mem (List.mem_of_getElem? (i := 332) (by decide +kernel)) rfl, mx_mem (List.mem_of_getElem? (i := 4) (by decide +kernel)) rfl⟩
theorem ok_RM_init : mx_okM mx_S0 mm_RM_init 0 := ⟨by decide +kernel, ⟨by decide +kernel, by decide +kernel, by decide +kernel⟩, by decide +kernel, mx_mem (List.mem_of_getElem? (i := 458) (by decide +kernel)) rfl, mx_mem (List.mem_of_getElem? (i := 6) (by decide +kernel)) rfl⟩
theorem ok_RM_digit : mx_okM mx_S0 mm_RM_digit 1 := ⟨by decide +kernel, ⟨by decide +kernel, by decide +kernel, by decide +kernel⟩, by decide +kernel, mx_mem (List.mem_of_getElem? (i := 577) (by decide +kernel)) rfl, mx_mem (List.mem_of_getElem? (i := 6) (by decide +kernel)) rfl⟩
theorem ok_RM_name : mx_okM mx_S0 mm_RM_name 1 := ⟨by decide +kernel, ⟨by decide +kernel, by decide +kernel, by decide +kernel⟩, by decide +kernel, mx_mem (List.mem_of_getElem? (i := 581) (by decide +kernel)) rfl, mx_mem (List.mem_of_getElem? (i := 6) (by decide +kernel)) rfl⟩
theorem ok_RM_wants : mx_okM mx_S0 mm_RM_wants 1 := ⟨by decide +kernel, ⟨by decide +kernel, by decide +kernel, by decide +kernel⟩, by decide +kernel, mx_mem (List.mem_of_getElem? (i := 585) (by decide +kernel)) rfl, mx_mem (List.mem_of_getElem? (i := 6) (by decide +kernel)) rfl⟩
theorem ok_RM_type : mx_okM mx_S0 mm_RM_type 1 := ⟨by decide +kernel, ⟨by decide +kernel, by decide +kernel, by decide +kernel⟩, by decide +kernel, mx_mem (List.mem_of_getElem? (i := 573) (by decide +kernel)) rfl, mx_mem (List.mem_of_getElem? (i := 6) (by decide +kernel)) rfl⟩
theorem ok_RM_types : mx_okM mx_S0 mm_RM_types 1 := ⟨by decide +kernel, ⟨by decide +kernel, by decide +kernel, by decide +kernel⟩, by decide +kernel, mx_mem (List.mem_of_getElem? (i := 589) (by decide +kernel)) rfl, mx_mem (List.mem_of_getElem? (i := 6) (by decide +kernel)) rfl⟩
theorem ok_RM_complete : mx_okM mx_S0 mm_RM_complete 0 := ⟨by decide +kernel, ⟨by decide +kernel, by decide +kernel, by decide +kernel⟩, by decide +kernel, mx_mem (List.mem_of_getElem? (i := 610) (by decide +kernel)) rfl, mx_mem (List.mem_of_getElem? (i := 6) (by decide +kernel)) rfl⟩
theorem ok_RM_deeper : mx_okM mx_S0 mm_RM_deeper 2 := ⟨by decide +kernel, ⟨by decide +kernel, by decide +kernel, by decide +kernel⟩, by decide +kernel, mx_mem (List.mem_of_getElem? (i := 606) (by decide +kernel)) rfl, mx_mem (List.mem_of_getElem? (i := 6) (by decide +kernel)) rfl⟩
theorem ok_RM_badPlace : mx_okM mx_S0 mm_RM_badPlace 0 := ⟨by decide +kernel, ⟨by decide +kernel, by decide +kernel, by decide +kernel⟩, by decide +kernel, mx_mem (List.mem_of_getElem? (i := 602) (by decide +kernel)) rfl, mx_mem (List.mem_of_getElem? (i := 6) (by decide +kernel)) rfl⟩
theorem ok_RM_forget : mx_okM mx_S0 mm_RM_forget 0 := ⟨by decide +kernel, ⟨by decide +kernel, by decide +kernel, by decide +kernel⟩, by decide +kernel, mx_mem (List.mem_of_getElem? (i := 614) (by decide +kernel)) rfl, mx_mem (List.mem_of_getElem? (i := 6) (by decide +kernel)) rfl⟩
theorem ok_RM_syntax : mx_okM mx_S0 mm_RM_syntax 0 := ⟨by decide +kernel, ⟨by decide +kernel, by decide +kernel, by decide +kernel⟩, by decide +kernel, mx_mem (List.mem_of_getElem? (i := 598) (by decide +kernel)) rfl, mx_mem (List.mem_of_getElem? (i := 6) (by decide +kernel)) rfl⟩
theorem ok_RM_define : mx_okM mx_S0 mm_RM_define 1 := ⟨by decide +kernel, ⟨by decide +kernel, by decide +kernel, by decide +kernel⟩, by decide +kernel, mx_mem (List.mem_of_getElem? (i := 594) (by decide +kernel)) rfl, mx_mem (List.mem_of_getElem? (i := 6) (by decide +kernel)) rfl⟩
theorem ok_RM_undefine : mx_okM mx_S0 mm_RM_undefine 1 := ⟨by decide +kernel, ⟨by decide +kernel, by decide +kernel, by decide +kernel⟩, by decide +kernel, mx_mem (List.mem_of_getElem? (i := 618) (by decide +kernel)) rfl, mx_mem (List.mem_of_getElem? (i := 6) (by decide +kernel)) rfl⟩
theorem ok_RM_behind : mx_okM mx_S0 mm_RM_behind 2 := ⟨by decide +kernel, ⟨by decide +kernel, by decide +kernel, by decide +kernel⟩, by decide +kernel, mx_mem (List.mem_of_getElem? (i := 650) (by decide +kernel)) rfl, mx_mem (List.mem_of_getElem? (i := 6) (by decide +kernel)) rfl⟩
theorem ok_RM_begin : mx_okM mx_S0 mm_RM_begin 2 := ⟨by decide +kernel, ⟨by decide +kernel, by decide +kernel, by decide +kernel⟩, by decide +kernel, mx_mem (List.mem_of_getElem? (i := 630) (by decide +kernel)) rfl, mx_mem (List.mem_of_getElem? (i := 6) (by decide +kernel)) rfl⟩
theorem ok_RM_enter : mx_okM mx_S0 mm_RM_enter 1 := ⟨by decide +kernel, ⟨by decide +kernel, by decide +kernel, by decide +kernel⟩, by decide +kernel, mx_mem (List.mem_of_getElem? (i := 634) (by decide +kernel)) rfl, mx_mem (List.mem_of_getElem? (i := 6) (by decide +kernel)) rfl⟩
theorem ok_RM_isNumber : mx_okM mx_S0 mm_RM_isNumber 1 := ⟨by decide +kernel, ⟨by decide +kernel, by decide +kernel, by decide +kernel⟩, by decide +kernel, mx_mem (List.mem_of_getElem? (i := 654) (by decide +kernel)) rfl, mx_mem (List.mem_of_getElem? (i := 6) (by decide +kernel)) rfl⟩
theorem ok_RM_operate : mx_okM mx_S0 mm_RM_operate 1 := ⟨by decide +kernel, ⟨by decide +kernel, by decide +kernel, by decide +kernel⟩, by decide +kernel, mx_mem (List.mem_of_getElem? (i := 680) (by decide +kernel)) rfl, mx_mem (List.mem_of_getElem? (i := 6) (by decide +kernel)) rfl⟩
theorem ok_RM_describe : mx_okM mx_S0 mm_RM_describe 1 := ⟨by decide +kernel, ⟨by decide +kernel, by decide +kernel, by decide +kernel⟩, by decide +kernel, mx_mem (List.mem_of_getElem? (i := 659) (by decide +kernel)) rfl, mx_mem (List.mem_of_getElem? (i := 6) (by decide +kernel)) rfl⟩
theorem ok_RM_order : mx_okM mx_S0 mm_RM_order 1 := ⟨by decide +kernel, ⟨by decide +kernel, by decide +kernel, by decide +kernel⟩, by decide +kernel, mx_mem (List.mem_of_getElem? (i := 664) (by decide +kernel)) rfl, mx_mem (List.mem_of_getElem? (i := 6) (by decide +kernel)) rfl⟩
theorem ok_RM_proceed : mx_okM mx_S0 mm_RM_proceed 0 := ⟨by decide +kernel, ⟨by decide +kernel, by decide +kernel, by decide +kernel⟩, by decide +kernel, mx_mem (List.mem_of_getElem? (i := 646) (by decide +kernel)) rfl, mx_mem (List.mem_of_getElem? (i := 6) (by decide +kernel)) rfl⟩
theorem ok_RM_mild : mx_okM mx_S0 mm_RM_mild 0 := ⟨by decide +kernel, ⟨by decide +kernel, by decide +kernel, by decide +kernel⟩, by decide +kernel, mx_mem (List.mem_of_getElem? (i := 642) (by decide +kernel)) rfl, mx_mem (List.mem_of_getElem? (i := 6) (by decide +kernel)) rfl⟩
theorem ok_RM_unwind : mx_okM mx_S0 mm_RM_unwind 0 := ⟨by decide +kernel, ⟨by decide +kernel, by decide +kernel, by decide +kernel⟩, by decide +kernel, mx_mem (List.mem_of_getElem? (i := 638) (by decide +kernel)) rfl, mx_mem (List.mem_of_getElem? (i := 6) (by decide +kernel)) rfl⟩
theorem ok_RM_work : mx_okM mx_S0 mm_RM_work 2 := ⟨by decide +kernel, ⟨by decide +kernel, by decide +kernel, by decide +kernel⟩, by decide +kernel, mx_mem (List.mem_of_getElem? (i := 626) (by decide +kernel)) rfl, mx_mem (List.mem_of_getElem? (i := 6) (by decide +kernel)) rfl⟩
theorem ok_RM_force : mx_okM mx_S0 mm_RM_force 1 := ⟨by decide +kernel, ⟨by decide +kernel, by decide +kernel, by decide +kernel⟩, by decide +kernel, mx_mem (List.mem_of_getElem? (i := 622) (by decide +kernel)) rfl, mx_mem (List.mem_of_getElem? (i := 6) (by decide +kernel)) rfl⟩
theorem ok_RM_show : mx_okM mx_S0 mm_RM_show 0 := ⟨by decide +kernel, ⟨by decide +kernel, by decide +kernel, by decide +kernel⟩, by decide +kernel, mx_mem (List.mem_of_getElem? (i := 684) (by decide +kernel)) rfl, mx_mem (List.mem_of_getElem? (i := 6) (by decide +kernel)) rfl⟩
theorem ok_RM_part : mx_okM mx_S0 mm_RM_part 2 := ⟨by decide +kernel, ⟨by decide +kernel, by decide +kernel, by decide +kernel⟩, by decide +kernel, mx_mem (List.mem_of_getElem? (i := 676) (by decide +kernel)) rfl, mx_mem (List.mem_of_getElem? (i := 6) (by decide +kernel)) rfl⟩
theorem ok_RM_assemble : mx_okM mx_S0 mm_RM_assemble 1 := ⟨by decide +kernel, ⟨by decide +kernel, by decide +kernel, by decide +kernel⟩, by decide +kernel, mx_mem (List.mem_of_getElem? (i := 672) (by decide +kernel)) rfl, mx_mem (List.mem_of_getElem? (i := 6) (by decide +kernel)) rfl⟩
theorem ok_RM_construct : mx_okM mx_S0 mm_RM_construct 1 := ⟨by decide +kernel, ⟨by decide +kernel, by decide +kernel, by decide +kernel⟩, by decide +kernel, mx_mem (List.mem_of_getElem? (i := 668) (by decide +kernel)) rfl, mx_mem (List.mem_of_getElem? (i := 6) (by decide +kernel)) rfl⟩
theorem ok_RM_value : mx_okM mx_S0 mm_RM_value 1 := ⟨by decide +kernel, ⟨by decide +kernel, by decide +kernel, by decide +kernel⟩, by decide +kernel, mx_mem (List.mem_of_getElem? (i := 688) (by decide +kernel)) rfl, mx_mem (List.mem_of_getElem? (i := 6) (by decide +kernel)) rfl⟩
theorem ok_RM_builder : mx_okM mx_S0 mm_RM_builder 2 := ⟨by decide +kernel, ⟨by decide +kernel, by decide +kernel, by decide +kernel⟩, by decide +kernel, mx_mem (List.mem_of_getElem? (i := 693) (by decide +kernel)) rfl, mx_mem (List.mem_of_getElem? (i := 6) (by decide +kernel)) rfl⟩
theorem ok_RM_noPlan : mx_okM mx_S0 mm_RM_noPlan 1 := ⟨by decide +kernel, ⟨by decide +kernel, by decide +kernel, by decide +kernel⟩, by decide +kernel, mx_mem (List.mem_of_getElem? (i := 701) (by decide +kernel)) rfl, mx_mem (List.mem_of_getElem? (i := 6) (by decide +kernel)) rfl⟩
theorem ok_RM_build : mx_okM mx_S0 mm_RM_build 1 := ⟨by decide +kernel, ⟨by decide +kernel, by decide +kernel, by decide +kernel⟩, by decide +kernel, mx_mem (List.mem_of_getElem? (i := 697) (by decide +kernel)) rfl, mx_mem (List.mem_of_getElem? (i := 6) (by decide +kernel)) rfl⟩
theorem ok_RM_root : mx_okM mx_S0 mm_RM_root 2 := ⟨by decide +kernel, ⟨by decide +kernel, by decide +kernel, by decide +kernel⟩, by decide +kernel, mx_mem (List.mem_of_getElem? (i := 705) (by decide +kernel)) rfl, mx_mem (List.mem_of_getElem? (i := 6) (by decide +kernel)) rfl⟩
theorem ok_RM_collect : mx_okM mx_S0 mm_RM_collect 0 := ⟨by decide +kernel, ⟨by decide +kernel, by decide +kernel, by decide +kernel⟩, by decide +kernel, mx_mem (List.mem_of_getElem? (i := 709) (by decide +kernel)) rfl, mx_mem (List.mem_of_getElem? (i := 6) (by decide +kernel)) rfl⟩
theorem ok_RM_input : mx_okM mx_S0 mm_RM_input 2 := ⟨by decide +kernel, ⟨by decide +kernel, by decide +kernel, by decide +kernel⟩, by decide +kernel, mx_mem (List.mem_of_getElem? (i := 713) (by decide +kernel)) rfl, mx_mem (List.mem_of_getElem? (i := 6) (by decide +kernel)) rfl⟩
theorem ok_RM_plan : mx_okM mx_S0 mm_RM_plan 2 := ⟨by decide +kernel, ⟨by decide +kernel, by decide +kernel, by decide +kernel⟩, by decide +kernel, mx_mem (List.mem_of_getElem? (i := 717) (by decide +kernel)) rfl, mx_mem (List.mem_of_getElem? (i := 6) (by decide +kernel)) rfl⟩
theorem ok_RM_count : mx_okM mx_S0 mm_RM_count 1 := ⟨by decide +kernel, ⟨by decide +kernel, by decide +kernel, by decide +kernel⟩, by decide +kernel, mx_mem (List.mem_of_getElem? (i := 721) (by decide +kernel)) rfl, mx_mem (List.mem_of_getElem? (i := 6) (by decide +kernel)) rfl⟩
end
section
theorem d_LB_init_0 : decode mm_LB_init.2.1 0 = .ok (.aload_n 0, 1) ∧ 0 + 1 = 1 := ⟨by decide +kernel, rfl⟩
theorem d_LB_init_1 : decode mm_LB_init.2.1 1 = .ok (.invokespecial 3, 3) ∧ 1 + 3 = 4 := ⟨by decide +kernel, rfl⟩
theorem d_LB_init_4 : decode mm_LB_init.2.1 4 = .ok (.aload_n 0, 1) ∧ 4 + 1 = 5 := ⟨by decide +kernel, rfl⟩
theorem d_LB_init_5 : decode mm_LB_init.2.1 5 = .ok (.new 9, 3) ∧ 5 + 3 = 8 := ⟨by decide +kernel, rfl⟩
theorem d_LB_init_8 : decode mm_LB_init.2.1 8 = .ok (.dup, 1) ∧ 8 + 1 = 9 := ⟨by decide +kernel, rfl⟩
theorem d_LB_init_9 : decode mm_LB_init.2.1 9 = .ok (.invokespecial 11, 3) ∧ 9 + 3 = 12 := ⟨by decide +kernel, rfl⟩
theorem d_LB_init_12 : decode mm_LB_init.2.1 12 = .ok (.putfield 12, 3) ∧ 12 + 3 = 15 := ⟨by decide +kernel, rfl⟩
theorem d_LB_init_15 : decode mm_LB_init.2.1 15 = .ok (.aload_n 0, 1) ∧ 15 + 1 = 16 := ⟨by decide +kernel, rfl⟩
theorem d_LB_init_16 : decode mm_LB_init.2.1 16 = .ok (.new 16, 3) ∧ 16 + 3 = 19 := ⟨by decide +kernel, rfl⟩
theorem d_LB_init_19 : decode mm_LB_init.2.1 19 = .ok (.dup, 1) ∧ 19 + 1 = 20 := ⟨by decide +kernel, rfl⟩
theorem d_LB_init_20 : decode mm_LB_init.2.1 20 = .ok (.invokespecial 18, 3) ∧ 20 + 3 = 23 := ⟨by decide +kernel, rfl⟩
theorem d_LB_init_23 : decode mm_LB_init.2.1 23 = .ok (.putfield 19, 3) ∧ 23 + 3 = 26 := ⟨by decide +kernel, rfl⟩
theorem d_LB_init_26 : decode mm_LB_init.2.1 26 = .ok (.aload_n 0, 1) ∧ 26 + 1 = 27 := ⟨by decide +kernel, rfl⟩
theorem d_LB_init_27 : decode mm_LB_init.2.1 27 = .ok (.new 23, 3) ∧ 27 + 3 = 30 := ⟨by decide +kernel, rfl⟩
theorem d_LB_init_30 : decode mm_LB_init.2.1 30 = .ok (.dup, 1) ∧ 30 + 1 = 31 := ⟨by decide +kernel, rfl⟩
theorem d_LB_init_31 : decode mm_LB_init.2.1 31 = .ok (.aload_n 0, 1) ∧ 31 + 1 = 32 := ⟨by decide +kernel, rfl⟩
theorem d_LB_init_32 : decode mm_LB_init.2.1 32 = .ok (.getfield 19, 3) ∧ 32 + 3 = 35 := ⟨by decide +kernel, rfl⟩
theorem d_LB_init_35 : decode mm_LB_init.2.1 35 = .ok (.invokespecial 25, 3) ∧ 35 + 3 = 38 := ⟨by decide +kernel, rfl⟩
theorem d_LB_init_38 : decode mm_LB_init.2.1 38 = .ok (.putfield 28, 3) ∧ 38 + 3 = 41 := ⟨by decide +kernel, rfl⟩
theorem d_LB_init_41 : decode mm_LB_init.2.1 41 = .ok (.aload_n 0, 1) ∧ 41 + 1 = 42 := ⟨by decide +kernel, rfl⟩
theorem d_LB_init_42 : decode mm_LB_init.2.1 42 = .ok (.ldc2_w 32, 3) ∧ 42 + 3 = 45 := ⟨by decide +kernel, rfl⟩
theorem d_LB_init_45 : decode mm_LB_init.2.1 45 = .ok (.putfield 34, 3) ∧ 45 + 3 = 48 := ⟨by decide +kernel, rfl⟩
theorem d_LB_init_48 : decode mm_LB_init.2.1 48 = .ok (.aload_n 0, 1) ∧ 48 + 1 = 49 := ⟨by decide +kernel, rfl⟩
theorem d_LB_init_49 : decode mm_LB_init.2.1 49 = .ok (.iconst (-1), 1) ∧ 49 + 1 = 50 := ⟨by decide +kernel, rfl⟩
theorem d_LB_init_50 : decode mm_LB_init.2.1 50 = .ok (.putfield 38, 3) ∧ 50 + 3 = 53 := ⟨by decide +kernel, rfl⟩
theorem d_LB_init_53 : decode mm_LB_init.2.1 53 = .ok (.return_, 1) := by decide +kernel
theorem d_LB_type_0 : decode mm_LB_type.2.1 0 = .ok (.aload_n 0, 1) ∧ 0 + 1 = 1 := ⟨by decide +kernel, rfl⟩
theorem d_LB_type_1 : decode mm_LB_type.2.1 1 = .ok (.getfield 12, 3) ∧ 1 + 3 = 4 := ⟨by decide +kernel, rfl⟩
theorem d_LB_type_4 : decode mm_LB_type.2.1 4 = .ok (.iload_n 1, 1) ∧ 4 + 1 = 5 := ⟨by decide +kernel, rfl⟩
theorem d_LB_type_5 : decode mm_LB_type.2.1 5 = .ok (.invokevirtual 42, 3) ∧ 5 + 3 = 8 := ⟨by decide +kernel, rfl⟩
theorem d_LB_type_8 : decode mm_LB_type.2.1 8 = .ok (.ireturn, 1) := by decide +kernel
theorem d_LB_types_0 : decode mm_LB_types.2.1 0 = .ok (.bipush 56, 2) ∧ 0 + 2 = 2 := ⟨by decide +kernel, rfl⟩
theorem d_LB_types_2 : decode mm_LB_types.2.1 2 = .ok (.istore_n 3, 1) ∧ 2 + 1 = 3 := ⟨by decide +kernel, rfl⟩
theorem d_LB_types_3 : decode mm_LB_types.2.1 3 = .ok (.iload_n 3, 1) ∧ 3 + 1 = 4 := ⟨by decide +kernel, rfl⟩
theorem d_LB_types_4 : decode mm_LB_types.2.1 4 = .ok (.ifCond .lt 43, 3) ∧ 4 + 3 = 7 ∧ ((4 : Nat) : Int) + (43) = ((47 : Nat) : Int) := ⟨by decide +kernel, rfl, by decide⟩
theorem d_LB_types_7 : decode mm_LB_types.2.1 7 = .ok (.lload_n 1, 1) ∧ 7 + 1 = 8 := ⟨by decide +kernel, rfl⟩
theorem d_LB_types_8 : decode mm_LB_types.2.1 8 = .ok (.iload_n 3, 1) ∧ 8 + 1 = 9 := ⟨by decide +kernel, rfl⟩
theorem d_LB_types_9 : decode mm_LB_types.2.1 9 = .ok (.lushr, 1) ∧ 9 + 1 = 10 := ⟨by decide +kernel, rfl⟩
theorem d_LB_types_10 : decode mm_LB_types.2.1 10 = .ok (.l2i, 1) ∧ 10 + 1 = 11 := ⟨by decide +kernel, rfl⟩
theorem d_LB_types_11 : decode mm_LB_types.2.1 11 = .ok (.sipush 255, 3) ∧ 11 + 3 = 14 := ⟨by decide +kernel, rfl⟩
theorem d_LB_types_14 : decode mm_LB_types.2.1 14 = .ok (.iand, 1) ∧ 14 + 1 = 15 := ⟨by decide +kernel, rfl⟩
theorem d_LB_types_15 : decode mm_LB_types.2.1 15 = .ok (.istore 4, 2) ∧ 15 + 2 = 17 := ⟨by decide +kernel, rfl⟩
theorem d_LB_types_17 : decode mm_LB_types.2.1 17 = .ok (.iload 4, 2) ∧ 17 + 2 = 19 := ⟨by decide +kernel, rfl⟩
theorem d_LB_types_19 : decode mm_LB_types.2.1 19 = .ok (.ifCond .eq 22, 3) ∧ 19 + 3 = 22 ∧ ((19 : Nat) : Int) + (22) = ((41 : Nat) : Int) := ⟨by decide +kernel, rfl, by decide⟩
theorem d_LB_types_22 : decode mm_LB_types.2.1 22 = .ok (.aload_n 0, 1) ∧ 22 + 1 = 23 := ⟨by decide +kernel, rfl⟩
theorem d_LB_types_23 : decode mm_LB_types.2.1 23 = .ok (.getfield 12, 3) ∧ 23 + 3 = 26 := ⟨by decide +kernel, rfl⟩
theorem d_LB_types_26 : decode mm_LB_types.2.1 26 = .ok (.iload 4, 2) ∧ 26 + 2 = 28 := ⟨by decide +kernel, rfl⟩
theorem d_LB_types_28 : decode mm_LB_types.2.1 28 = .ok (.invokevirtual 42, 3) ∧ 28 + 3 = 31 := ⟨by decide +kernel, rfl⟩
theorem d_LB_types_31 : decode mm_LB_types.2.1 31 = .ok (.istore 5, 2) ∧ 31 + 2 = 33 := ⟨by decide +kernel, rfl⟩
theorem d_LB_types_33 : decode mm_LB_types.2.1 33 = .ok (.iload 5, 2) ∧ 33 + 2 = 35 := ⟨by decide +kernel, rfl⟩
theorem d_LB_types_35 : decode mm_LB_types.2.1 35 = .ok (.ifCond .ge 6, 3) ∧ 35 + 3 = 38 ∧ ((35 : Nat) : Int) + (6) = ((41 : Nat) : Int) := ⟨by decide +kernel, rfl, by decide⟩
theorem d_LB_types_38 : decode mm_LB_types.2.1 38 = .ok (.iload 5, 2) ∧ 38 + 2 = 40 := ⟨by decide +kernel, rfl⟩
theorem d_LB_types_40 : decode mm_LB_types.2.1 40 = .ok (.ireturn, 1) := by decide +kernel
theorem d_LB_types_41 : decode mm_LB_types.2.1 41 = .ok (.iinc 3 (-8), 3) ∧ 41 + 3 = 44 := ⟨by decide +kernel, rfl⟩
theorem d_LB_types_44 : decode mm_LB_types.2.1 44 = .ok (.goto (-41), 3) ∧ 44 + 3 = 47 ∧ ((44 : Nat) : Int) + (-41) = ((3 : Nat) : Int) := ⟨by decide +kernel, rfl, by decide⟩
theorem d_LB_types_47 : decode mm_LB_types.2.1 47 = .ok (.aload_n 0, 1) ∧ 47 + 1 = 48 := ⟨by decide +kernel, rfl⟩
theorem d_LB_types_48 : decode mm_LB_types.2.1 48 = .ok (.getfield 12, 3) ∧ 48 + 3 = 51 := ⟨by decide +kernel, rfl⟩
theorem d_LB_types_51 : decode mm_LB_types.2.1 51 = .ok (.getfield 46, 3) ∧ 51 + 3 = 54 := ⟨by decide +kernel, rfl⟩
theorem d_LB_types_54 : decode mm_LB_types.2.1 54 = .ok (.ireturn, 1) := by decide +kernel
theorem d_LB_define_0 : decode mm_LB_define.2.1 0 = .ok (.iload_n 1, 1) ∧ 0 + 1 = 1 := ⟨by decide +kernel, rfl⟩
theorem d_LB_define_1 : decode mm_LB_define.2.1 1 = .ok (.invokestatic 49, 3) ∧ 1 + 3 = 4 := ⟨by decide +kernel, rfl⟩
theorem d_LB_define_4 : decode mm_LB_define.2.1 4 = .ok (.ifCond .ne 5, 3) ∧ 4 + 3 = 7 ∧ ((4 : Nat) : Int) + (5) = ((9 : Nat) : Int) := ⟨by decide +kernel, rfl, by decide⟩
theorem d_LB_define_7 : decode mm_LB_define.2.1 7 = .ok (.iconst (-1), 1) ∧ 7 + 1 = 8 := ⟨by decide +kernel, rfl⟩
theorem d_LB_define_8 : decode mm_LB_define.2.1 8 = .ok (.ireturn, 1) := by decide +kernel
theorem d_LB_define_9 : decode mm_LB_define.2.1 9 = .ok (.aload_n 0, 1) ∧ 9 + 1 = 10 := ⟨by decide +kernel, rfl⟩
theorem d_LB_define_10 : decode mm_LB_define.2.1 10 = .ok (.invokevirtual 53, 3) ∧ 10 + 3 = 13 := ⟨by decide +kernel, rfl⟩
theorem d_LB_define_13 : decode mm_LB_define.2.1 13 = .ok (.ifCond .ne 6, 3) ∧ 13 + 3 = 16 ∧ ((13 : Nat) : Int) + (6) = ((19 : Nat) : Int) := ⟨by decide +kernel, rfl, by decide⟩
theorem d_LB_define_16 : decode mm_LB_define.2.1 16 = .ok (.bipush (-3), 2) ∧ 16 + 2 = 18 := ⟨by decide +kernel, rfl⟩
theorem d_LB_define_18 : decode mm_LB_define.2.1 18 = .ok (.ireturn, 1) := by decide +kernel
theorem d_LB_define_19 : decode mm_LB_define.2.1 19 = .ok (.aload_n 0, 1) ∧ 19 + 1 = 20 := ⟨by decide +kernel, rfl⟩
theorem d_LB_define_20 : decode mm_LB_define.2.1 20 = .ok (.getfield 12, 3) ∧ 20 + 3 = 23 := ⟨by decide +kernel, rfl⟩
theorem d_LB_define_23 : decode mm_LB_define.2.1 23 = .ok (.getfield 57, 3) ∧ 23 + 3 = 26 := ⟨by decide +kernel, rfl⟩
theorem d_LB_define_26 : decode mm_LB_define.2.1 26 = .ok (.istore_n 2, 1) ∧ 26 + 1 = 27 := ⟨by decide +kernel, rfl⟩
theorem d_LB_define_27 : decode mm_LB_define.2.1 27 = .ok (.aload_n 0, 1) ∧ 27 + 1 = 28 := ⟨by decide +kernel, rfl⟩
theorem d_LB_define_28 : decode mm_LB_define.2.1 28 = .ok (.getfield 28, 3) ∧ 28 + 3 = 31 := ⟨by decide +kernel, rfl⟩
theorem d_LB_define_31 : decode mm_LB_define.2.1 31 = .ok (.iload_n 1, 1) ∧ 31 + 1 = 32 := ⟨by decide +kernel, rfl⟩
theorem d_LB_define_32 : decode mm_LB_define.2.1 32 = .ok (.aload_n 0, 1) ∧ 32 + 1 = 33 := ⟨by decide +kernel, rfl⟩
theorem d_LB_define_33 : decode mm_LB_define.2.1 33 = .ok (.getfield 12, 3) ∧ 33 + 3 = 36 := ⟨by decide +kernel, rfl⟩
theorem d_LB_define_36 : decode mm_LB_define.2.1 36 = .ok (.invokevirtual 60, 3) ∧ 36 + 3 = 39 := ⟨by decide +kernel, rfl⟩
theorem d_LB_define_39 : decode mm_LB_define.2.1 39 = .ok (.aload_n 0, 1) ∧ 39 + 1 = 40 := ⟨by decide +kernel, rfl⟩
theorem d_LB_define_40 : decode mm_LB_define.2.1 40 = .ok (.getfield 12, 3) ∧ 40 + 3 = 43 := ⟨by decide +kernel, rfl⟩
theorem d_LB_define_43 : decode mm_LB_define.2.1 43 = .ok (.invokevirtual 64, 3) ∧ 43 + 3 = 46 := ⟨by decide +kernel, rfl⟩
theorem d_LB_define_46 : decode mm_LB_define.2.1 46 = .ok (.iload_n 2, 1) ∧ 46 + 1 = 47 := ⟨by decide +kernel, rfl⟩
theorem d_LB_define_47 : decode mm_LB_define.2.1 47 = .ok (.ireturn, 1) := by decide +kernel
theorem d_LB_undefine_0 : decode mm_LB_undefine.2.1 0 = .ok (.iload_n 1, 1) ∧ 0 + 1 = 1 := ⟨by decide +kernel, rfl⟩
theorem d_LB_undefine_1 : decode mm_LB_undefine.2.1 1 = .ok (.invokestatic 49, 3) ∧ 1 + 3 = 4 := ⟨by decide +kernel, rfl⟩
theorem d_LB_undefine_4 : decode mm_LB_undefine.2.1 4 = .ok (.ifCond .eq 18, 3) ∧ 4 + 3 = 7 ∧ ((4 : Nat) : Int) + (18) = ((22 : Nat) : Int) := ⟨by decide +kernel, rfl, by decide⟩
theorem d_LB_undefine_7 : decode mm_LB_undefine.2.1 7 = .ok (.aload_n 0, 1) ∧ 7 + 1 = 8 := ⟨by decide +kernel, rfl⟩
theorem d_LB_undefine_8 : decode mm_LB_undefine.2.1 8 = .ok (.getfield 28, 3) ∧ 8 + 3 = 11 := ⟨by decide +kernel, rfl⟩
theorem d_LB_undefine_11 : decode mm_LB_undefine.2.1 11 = .ok (.getfield 67, 3) ∧ 11 + 3 = 14 := ⟨by decide +kernel, rfl⟩
theorem d_LB_undefine_14 : decode mm_LB_undefine.2.1 14 = .ok (.iload_n 1, 1) ∧ 14 + 1 = 15 := ⟨by decide +kernel, rfl⟩
theorem d_LB_undefine_15 : decode mm_LB_undefine.2.1 15 = .ok (.aaload, 1) ∧ 15 + 1 = 16 := ⟨by decide +kernel, rfl⟩
theorem d_LB_undefine_16 : decode mm_LB_undefine.2.1 16 = .ok (.getfield 71, 3) ∧ 16 + 3 = 19 := ⟨by decide +kernel, rfl⟩
theorem d_LB_undefine_19 : decode mm_LB_undefine.2.1 19 = .ok (.ifCond .ne 5, 3) ∧ 19 + 3 = 22 ∧ ((19 : Nat) : Int) + (5) = ((24 : Nat) : Int) := ⟨by decide +kernel, rfl, by decide⟩
theorem d_LB_undefine_22 : decode mm_LB_undefine.2.1 22 = .ok (.iconst (-1), 1) ∧ 22 + 1 = 23 := ⟨by decide +kernel, rfl⟩
theorem d_LB_undefine_23 : decode mm_LB_undefine.2.1 23 = .ok (.ireturn, 1) := by decide +kernel
theorem d_LB_undefine_24 : decode mm_LB_undefine.2.1 24 = .ok (.aload_n 0, 1) ∧ 24 + 1 = 25 := ⟨by decide +kernel, rfl⟩
theorem d_LB_undefine_25 : decode mm_LB_undefine.2.1 25 = .ok (.getfield 28, 3) ∧ 25 + 3 = 28 := ⟨by decide +kernel, rfl⟩
theorem d_LB_undefine_28 : decode mm_LB_undefine.2.1 28 = .ok (.iload_n 1, 1) ∧ 28 + 1 = 29 := ⟨by decide +kernel, rfl⟩
theorem d_LB_undefine_29 : decode mm_LB_undefine.2.1 29 = .ok (.invokevirtual 77, 3) ∧ 29 + 3 = 32 := ⟨by decide +kernel, rfl⟩
theorem d_LB_undefine_32 : decode mm_LB_undefine.2.1 32 = .ok (.iconst 0, 1) ∧ 32 + 1 = 33 := ⟨by decide +kernel, rfl⟩
theorem d_LB_undefine_33 : decode mm_LB_undefine.2.1 33 = .ok (.ireturn, 1) := by decide +kernel
theorem d_LB_force_0 : decode mm_LB_force.2.1 0 = .ok (.iload_n 1, 1) ∧ 0 + 1 = 1 := ⟨by decide +kernel, rfl⟩
theorem d_LB_force_1 : decode mm_LB_force.2.1 1 = .ok (.invokestatic 49, 3) ∧ 1 + 3 = 4 := ⟨by decide +kernel, rfl⟩
theorem d_LB_force_4 : decode mm_LB_force.2.1 4 = .ok (.ifCond .ne 5, 3) ∧ 4 + 3 = 7 ∧ ((4 : Nat) : Int) + (5) = ((9 : Nat) : Int) := ⟨by decide +kernel, rfl, by decide⟩
theorem d_LB_force_7 : decode mm_LB_force.2.1 7 = .ok (.iconst (-1), 1) ∧ 7 + 1 = 8 := ⟨by decide +kernel, rfl⟩
theorem d_LB_force_8 : decode mm_LB_force.2.1 8 = .ok (.ireturn, 1) := by decide +kernel
theorem d_LB_force_9 : decode mm_LB_force.2.1 9 = .ok (.aload_n 0, 1) ∧ 9 + 1 = 10 := ⟨by decide +kernel, rfl⟩
theorem d_LB_force_10 : decode mm_LB_force.2.1 10 = .ok (.getfield 28, 3) ∧ 10 + 3 = 13 := ⟨by decide +kernel, rfl⟩
theorem d_LB_force_13 : decode mm_LB_force.2.1 13 = .ok (.invokevirtual 81, 3) ∧ 13 + 3 = 16 := ⟨by decide +kernel, rfl⟩
theorem d_LB_force_16 : decode mm_LB_force.2.1 16 = .ok (.ifCond .eq 6, 3) ∧ 16 + 3 = 19 ∧ ((16 : Nat) : Int) + (6) = ((22 : Nat) : Int) := ⟨by decide +kernel, rfl, by decide⟩
theorem d_LB_force_19 : decode mm_LB_force.2.1 19 = .ok (.bipush (-11), 2) ∧ 19 + 2 = 21 := ⟨by decide +kernel, rfl⟩
theorem d_LB_force_21 : decode mm_LB_force.2.1 21 = .ok (.ireturn, 1) := by decide +kernel
theorem d_LB_force_22 : decode mm_LB_force.2.1 22 = .ok (.aload_n 0, 1) ∧ 22 + 1 = 23 := ⟨by decide +kernel, rfl⟩
theorem d_LB_force_23 : decode mm_LB_force.2.1 23 = .ok (.getfield 28, 3) ∧ 23 + 3 = 26 := ⟨by decide +kernel, rfl⟩
theorem d_LB_force_26 : decode mm_LB_force.2.1 26 = .ok (.aload_n 0, 1) ∧ 26 + 1 = 27 := ⟨by decide +kernel, rfl⟩
theorem d_LB_force_27 : decode mm_LB_force.2.1 27 = .ok (.getfield 28, 3) ∧ 27 + 3 = 30 := ⟨by decide +kernel, rfl⟩
theorem d_LB_force_30 : decode mm_LB_force.2.1 30 = .ok (.iload_n 1, 1) ∧ 30 + 1 = 31 := ⟨by decide +kernel, rfl⟩
theorem d_LB_force_31 : decode mm_LB_force.2.1 31 = .ok (.invokevirtual 84, 3) ∧ 31 + 3 = 34 := ⟨by decide +kernel, rfl⟩
theorem d_LB_force_34 : decode mm_LB_force.2.1 34 = .ok (.invokevirtual 88, 3) ∧ 34 + 3 = 37 := ⟨by decide +kernel, rfl⟩
theorem d_LB_force_37 : decode mm_LB_force.2.1 37 = .ok (.ireturn, 1) := by decide +kernel
theorem d_LB_show_0 : decode mm_LB_show.2.1 0 = .ok (.aload_n 0, 1) ∧ 0 + 1 = 1 := ⟨by decide +kernel, rfl⟩
theorem d_LB_show_1 : decode mm_LB_show.2.1 1 = .ok (.invokevirtual 53, 3) ∧ 1 + 3 = 4 := ⟨by decide +kernel, rfl⟩
theorem d_LB_show_4 : decode mm_LB_show.2.1 4 = .ok (.ifCond .ne 6, 3) ∧ 4 + 3 = 7 ∧ ((4 : Nat) : Int) + (6) = ((10 : Nat) : Int) := ⟨by decide +kernel, rfl, by decide⟩
theorem d_LB_show_7 : decode mm_LB_show.2.1 7 = .ok (.bipush (-3), 2) ∧ 7 + 2 = 9 := ⟨by decide +kernel, rfl⟩
theorem d_LB_show_9 : decode mm_LB_show.2.1 9 = .ok (.ireturn, 1) := by decide +kernel
theorem d_LB_show_10 : decode mm_LB_show.2.1 10 = .ok (.aload_n 0, 1) ∧ 10 + 1 = 11 := ⟨by decide +kernel, rfl⟩
theorem d_LB_show_11 : decode mm_LB_show.2.1 11 = .ok (.getfield 28, 3) ∧ 11 + 3 = 14 := ⟨by decide +kernel, rfl⟩
theorem d_LB_show_14 : decode mm_LB_show.2.1 14 = .ok (.invokevirtual 81, 3) ∧ 14 + 3 = 17 := ⟨by decide +kernel, rfl⟩
theorem d_LB_show_17 : decode mm_LB_show.2.1 17 = .ok (.ifCond .eq 8, 3) ∧ 17 + 3 = 20 ∧ ((17 : Nat) : Int) + (8) = ((25 : Nat) : Int) := ⟨by decide +kernel, rfl, by decide⟩
theorem d_LB_show_20 : decode mm_LB_show.2.1 20 = .ok (.bipush (-11), 2) ∧ 20 + 2 = 22 := ⟨by decide +kernel, rfl⟩
theorem d_LB_show_22 : decode mm_LB_show.2.1 22 = .ok (.goto 7, 3) ∧ 22 + 3 = 25 ∧ ((22 : Nat) : Int) + (7) = ((29 : Nat) : Int) := ⟨by decide +kernel, rfl, by decide⟩
theorem d_LB_show_25 : decode mm_LB_show.2.1 25 = .ok (.aload_n 0, 1) ∧ 25 + 1 = 26 := ⟨by decide +kernel, rfl⟩
theorem d_LB_show_26 : decode mm_LB_show.2.1 26 = .ok (.invokevirtual 92, 3) ∧ 26 + 3 = 29 := ⟨by decide +kernel, rfl⟩
theorem d_LB_show_29 : decode mm_LB_show.2.1 29 = .ok (.istore_n 1, 1) ∧ 29 + 1 = 30 := ⟨by decide +kernel, rfl⟩
theorem d_LB_show_30 : decode mm_LB_show.2.1 30 = .ok (.aload_n 0, 1) ∧ 30 + 1 = 31 := ⟨by decide +kernel, rfl⟩
theorem d_LB_show_31 : decode mm_LB_show.2.1 31 = .ok (.getfield 12, 3) ∧ 31 + 3 = 34 := ⟨by decide +kernel, rfl⟩
theorem d_LB_show_34 : decode mm_LB_show.2.1 34 = .ok (.invokevirtual 64, 3) ∧ 34 + 3 = 37 := ⟨by decide +kernel, rfl⟩
theorem d_LB_show_37 : decode mm_LB_show.2.1 37 = .ok (.iload_n 1, 1) ∧ 37 + 1 = 38 := ⟨by decide +kernel, rfl⟩
theorem d_LB_show_38 : decode mm_LB_show.2.1 38 = .ok (.ireturn, 1) := by decide +kernel
theorem d_LB_value_0 : decode mm_LB_value.2.1 0 = .ok (.iload_n 1, 1) ∧ 0 + 1 = 1 := ⟨by decide +kernel, rfl⟩
theorem d_LB_value_1 : decode mm_LB_value.2.1 1 = .ok (.bipush 8, 2) ∧ 1 + 2 = 3 := ⟨by decide +kernel, rfl⟩
theorem d_LB_value_3 : decode mm_LB_value.2.1 3 = .ok (.if_icmp .ne 8, 3) ∧ 3 + 3 = 6 ∧ ((3 : Nat) : Int) + (8) = ((11 : Nat) : Int) := ⟨by decide +kernel, rfl, by decide⟩
theorem d_LB_value_6 : decode mm_LB_value.2.1 6 = .ok (.aload_n 0, 1) ∧ 6 + 1 = 7 := ⟨by decide +kernel, rfl⟩
theorem d_LB_value_7 : decode mm_LB_value.2.1 7 = .ok (.getfield 34, 3) ∧ 7 + 3 = 10 := ⟨by decide +kernel, rfl⟩
theorem d_LB_value_10 : decode mm_LB_value.2.1 10 = .ok (.lreturn, 1) := by decide +kernel
theorem d_LB_value_11 : decode mm_LB_value.2.1 11 = .ok (.iload_n 1, 1) ∧ 11 + 1 = 12 := ⟨by decide +kernel, rfl⟩
theorem d_LB_value_12 : decode mm_LB_value.2.1 12 = .ok (.invokestatic 49, 3) ∧ 12 + 3 = 15 := ⟨by decide +kernel, rfl⟩
theorem d_LB_value_15 : decode mm_LB_value.2.1 15 = .ok (.ifCond .eq 18, 3) ∧ 15 + 3 = 18 ∧ ((15 : Nat) : Int) + (18) = ((33 : Nat) : Int) := ⟨by decide +kernel, rfl, by decide⟩
theorem d_LB_value_18 : decode mm_LB_value.2.1 18 = .ok (.aload_n 0, 1) ∧ 18 + 1 = 19 := ⟨by decide +kernel, rfl⟩
theorem d_LB_value_19 : decode mm_LB_value.2.1 19 = .ok (.getfield 28, 3) ∧ 19 + 3 = 22 := ⟨by decide +kernel, rfl⟩
theorem d_LB_value_22 : decode mm_LB_value.2.1 22 = .ok (.getfield 67, 3) ∧ 22 + 3 = 25 := ⟨by decide +kernel, rfl⟩
theorem d_LB_value_25 : decode mm_LB_value.2.1 25 = .ok (.iload_n 1, 1) ∧ 25 + 1 = 26 := ⟨by decide +kernel, rfl⟩
theorem d_LB_value_26 : decode mm_LB_value.2.1 26 = .ok (.aaload, 1) ∧ 26 + 1 = 27 := ⟨by decide +kernel, rfl⟩
theorem d_LB_value_27 : decode mm_LB_value.2.1 27 = .ok (.getfield 96, 3) ∧ 27 + 3 = 30 := ⟨by decide +kernel, rfl⟩
theorem d_LB_value_30 : decode mm_LB_value.2.1 30 = .ok (.goto 6, 3) ∧ 30 + 3 = 33 ∧ ((30 : Nat) : Int) + (6) = ((36 : Nat) : Int) := ⟨by decide +kernel, rfl, by decide⟩
theorem d_LB_value_33 : decode mm_LB_value.2.1 33 = .ok (.ldc2_w 32, 3) ∧ 33 + 3 = 36 := ⟨by decide +kernel, rfl⟩
theorem d_LB_value_36 : decode mm_LB_value.2.1 36 = .ok (.lreturn, 1) := by decide +kernel
theorem d_LB_builder_0 : decode mm_LB_builder.2.1 0 = .ok (.iload_n 1, 1) ∧ 0 + 1 = 1 := ⟨by decide +kernel, rfl⟩
theorem d_LB_builder_1 : decode mm_LB_builder.2.1 1 = .ok (.ifCond .lt 18, 3) ∧ 1 + 3 = 4 ∧ ((1 : Nat) : Int) + (18) = ((19 : Nat) : Int) := ⟨by decide +kernel, rfl, by decide⟩
theorem d_LB_builder_4 : decode mm_LB_builder.2.1 4 = .ok (.iload_n 1, 1) ∧ 4 + 1 = 5 := ⟨by decide +kernel, rfl⟩
theorem d_LB_builder_5 : decode mm_LB_builder.2.1 5 = .ok (.bipush 10, 2) ∧ 5 + 2 = 7 := ⟨by decide +kernel, rfl⟩
theorem d_LB_builder_7 : decode mm_LB_builder.2.1 7 = .ok (.if_icmp .ge 12, 3) ∧ 7 + 3 = 10 ∧ ((7 : Nat) : Int) + (12) = ((19 : Nat) : Int) := ⟨by decide +kernel, rfl, by decide⟩
theorem d_LB_builder_10 : decode mm_LB_builder.2.1 10 = .ok (.iload_n 2, 1) ∧ 10 + 1 = 11 := ⟨by decide +kernel, rfl⟩
theorem d_LB_builder_11 : decode mm_LB_builder.2.1 11 = .ok (.ifCond .lt 8, 3) ∧ 11 + 3 = 14 ∧ ((11 : Nat) : Int) + (8) = ((19 : Nat) : Int) := ⟨by decide +kernel, rfl, by decide⟩
theorem d_LB_builder_14 : decode mm_LB_builder.2.1 14 = .ok (.iload_n 2, 1) ∧ 14 + 1 = 15 := ⟨by decide +kernel, rfl⟩
theorem d_LB_builder_15 : decode mm_LB_builder.2.1 15 = .ok (.iconst 4, 1) ∧ 15 + 1 = 16 := ⟨by decide +kernel, rfl⟩
theorem d_LB_builder_16 : decode mm_LB_builder.2.1 16 = .ok (.if_icmp .le 5, 3) ∧ 16 + 3 = 19 ∧ ((16 : Nat) : Int) + (5) = ((21 : Nat) : Int) := ⟨by decide +kernel, rfl, by decide⟩
theorem d_LB_builder_19 : decode mm_LB_builder.2.1 19 = .ok (.iconst (-1), 1) ∧ 19 + 1 = 20 := ⟨by decide +kernel, rfl⟩
theorem d_LB_builder_20 : decode mm_LB_builder.2.1 20 = .ok (.ireturn, 1) := by decide +kernel
theorem d_LB_builder_21 : decode mm_LB_builder.2.1 21 = .ok (.aload_n 0, 1) ∧ 21 + 1 = 22 := ⟨by decide +kernel, rfl⟩
theorem d_LB_builder_22 : decode mm_LB_builder.2.1 22 = .ok (.getfield 19, 3) ∧ 22 + 3 = 25 := ⟨by decide +kernel, rfl⟩
theorem d_LB_builder_25 : decode mm_LB_builder.2.1 25 = .ok (.getfield 99, 3) ∧ 25 + 3 = 28 := ⟨by decide +kernel, rfl⟩
theorem d_LB_builder_28 : decode mm_LB_builder.2.1 28 = .ok (.iload_n 1, 1) ∧ 28 + 1 = 29 := ⟨by decide +kernel, rfl⟩
theorem d_LB_builder_29 : decode mm_LB_builder.2.1 29 = .ok (.iload_n 2, 1) ∧ 29 + 1 = 30 := ⟨by decide +kernel, rfl⟩
theorem d_LB_builder_30 : decode mm_LB_builder.2.1 30 = .ok (.iastore, 1) ∧ 30 + 1 = 31 := ⟨by decide +kernel, rfl⟩
theorem d_LB_builder_31 : decode mm_LB_builder.2.1 31 = .ok (.iconst 0, 1) ∧ 31 + 1 = 32 := ⟨by decide +kernel, rfl⟩
theorem d_LB_builder_32 : decode mm_LB_builder.2.1 32 = .ok (.ireturn, 1) := by decide +kernel
theorem d_LB_build_0 : decode mm_LB_build.2.1 0 = .ok (.aload_n 0, 1) ∧ 0 + 1 = 1 := ⟨by decide +kernel, rfl⟩
theorem d_LB_build_1 : decode mm_LB_build.2.1 1 = .ok (.getfield 19, 3) ∧ 1 + 3 = 4 := ⟨by decide +kernel, rfl⟩
theorem d_LB_build_4 : decode mm_LB_build.2.1 4 = .ok (.iload_n 1, 1) ∧ 4 + 1 = 5 := ⟨by decide +kernel, rfl⟩
theorem d_LB_build_5 : decode mm_LB_build.2.1 5 = .ok (.invokevirtual 103, 3) ∧ 5 + 3 = 8 := ⟨by decide +kernel, rfl⟩
theorem d_LB_build_8 : decode mm_LB_build.2.1 8 = .ok (.ifnonnull 5, 3) ∧ 8 + 3 = 11 ∧ ((8 : Nat) : Int) + (5) = ((13 : Nat) : Int) := ⟨by decide +kernel, rfl, by decide⟩
theorem d_LB_build_11 : decode mm_LB_build.2.1 11 = .ok (.iconst (-1), 1) ∧ 11 + 1 = 12 := ⟨by decide +kernel, rfl⟩
theorem d_LB_build_12 : decode mm_LB_build.2.1 12 = .ok (.ireturn, 1) := by decide +kernel
theorem d_LB_build_13 : decode mm_LB_build.2.1 13 = .ok (.aload_n 0, 1) ∧ 13 + 1 = 14 := ⟨by decide +kernel, rfl⟩
theorem d_LB_build_14 : decode mm_LB_build.2.1 14 = .ok (.getfield 28, 3) ∧ 14 + 3 = 17 := ⟨by decide +kernel, rfl⟩
theorem d_LB_build_17 : decode mm_LB_build.2.1 17 = .ok (.invokevirtual 81, 3) ∧ 17 + 3 = 20 := ⟨by decide +kernel, rfl⟩
theorem d_LB_build_20 : decode mm_LB_build.2.1 20 = .ok (.ifCond .eq 6, 3) ∧ 20 + 3 = 23 ∧ ((20 : Nat) : Int) + (6) = ((26 : Nat) : Int) := ⟨by decide +kernel, rfl, by decide⟩
theorem d_LB_build_23 : decode mm_LB_build.2.1 23 = .ok (.bipush (-11), 2) ∧ 23 + 2 = 25 := ⟨by decide +kernel, rfl⟩
theorem d_LB_build_25 : decode mm_LB_build.2.1 25 = .ok (.ireturn, 1) := by decide +kernel
theorem d_LB_build_26 : decode mm_LB_build.2.1 26 = .ok (.aload_n 0, 1) ∧ 26 + 1 = 27 := ⟨by decide +kernel, rfl⟩
theorem d_LB_build_27 : decode mm_LB_build.2.1 27 = .ok (.getfield 28, 3) ∧ 27 + 3 = 30 := ⟨by decide +kernel, rfl⟩
theorem d_LB_build_30 : decode mm_LB_build.2.1 30 = .ok (.aload_n 0, 1) ∧ 30 + 1 = 31 := ⟨by decide +kernel, rfl⟩
theorem d_LB_build_31 : decode mm_LB_build.2.1 31 = .ok (.getfield 19, 3) ∧ 31 + 3 = 34 := ⟨by decide +kernel, rfl⟩
theorem d_LB_build_34 : decode mm_LB_build.2.1 34 = .ok (.ldc2_w 107, 3) ∧ 34 + 3 = 37 := ⟨by decide +kernel, rfl⟩
theorem d_LB_build_37 : decode mm_LB_build.2.1 37 = .ok (.iload_n 1, 1) ∧ 37 + 1 = 38 := ⟨by decide +kernel, rfl⟩
theorem d_LB_build_38 : decode mm_LB_build.2.1 38 = .ok (.i2l, 1) ∧ 38 + 1 = 39 := ⟨by decide +kernel, rfl⟩
theorem d_LB_build_39 : decode mm_LB_build.2.1 39 = .ok (.ladd, 1) ∧ 39 + 1 = 40 := ⟨by decide +kernel, rfl⟩
theorem d_LB_build_40 : decode mm_LB_build.2.1 40 = .ok (.invokevirtual 109, 3) ∧ 40 + 3 = 43 := ⟨by decide +kernel, rfl⟩
theorem d_LB_build_43 : decode mm_LB_build.2.1 43 = .ok (.invokevirtual 88, 3) ∧ 43 + 3 = 46 := ⟨by decide +kernel, rfl⟩
theorem d_LB_build_46 : decode mm_LB_build.2.1 46 = .ok (.ireturn, 1) := by decide +kernel
theorem d_LB_root_0 : decode mm_LB_root.2.1 0 = .ok (.aload_n 0, 1) ∧ 0 + 1 = 1 := ⟨by decide +kernel, rfl⟩
theorem d_LB_root_1 : decode mm_LB_root.2.1 1 = .ok (.getfield 19, 3) ∧ 1 + 3 = 4 := ⟨by decide +kernel, rfl⟩
theorem d_LB_root_4 : decode mm_LB_root.2.1 4 = .ok (.iload_n 1, 1) ∧ 4 + 1 = 5 := ⟨by decide +kernel, rfl⟩
theorem d_LB_root_5 : decode mm_LB_root.2.1 5 = .ok (.invokevirtual 103, 3) ∧ 5 + 3 = 8 := ⟨by decide +kernel, rfl⟩
theorem d_LB_root_8 : decode mm_LB_root.2.1 8 = .ok (.astore_n 3, 1) ∧ 8 + 1 = 9 := ⟨by decide +kernel, rfl⟩
theorem d_LB_root_9 : decode mm_LB_root.2.1 9 = .ok (.aload_n 3, 1) ∧ 9 + 1 = 10 := ⟨by decide +kernel, rfl⟩
theorem d_LB_root_10 : decode mm_LB_root.2.1 10 = .ok (.ifnonnull 5, 3) ∧ 10 + 3 = 13 ∧ ((10 : Nat) : Int) + (5) = ((15 : Nat) : Int) := ⟨by decide +kernel, rfl, by decide⟩
theorem d_LB_root_13 : decode mm_LB_root.2.1 13 = .ok (.iconst (-1), 1) ∧ 13 + 1 = 14 := ⟨by decide +kernel, rfl⟩
theorem d_LB_root_14 : decode mm_LB_root.2.1 14 = .ok (.ireturn, 1) := by decide +kernel
theorem d_LB_root_15 : decode mm_LB_root.2.1 15 = .ok (.aload_n 3, 1) ∧ 15 + 1 = 16 := ⟨by decide +kernel, rfl⟩
theorem d_LB_root_16 : decode mm_LB_root.2.1 16 = .ok (.iload_n 2, 1) ∧ 16 + 1 = 17 := ⟨by decide +kernel, rfl⟩
theorem d_LB_root_17 : decode mm_LB_root.2.1 17 = .ok (.putfield 113, 3) ∧ 17 + 3 = 20 := ⟨by decide +kernel, rfl⟩
theorem d_LB_root_20 : decode mm_LB_root.2.1 20 = .ok (.iconst 0, 1) ∧ 20 + 1 = 21 := ⟨by decide +kernel, rfl⟩
theorem d_LB_root_21 : decode mm_LB_root.2.1 21 = .ok (.ireturn, 1) := by decide +kernel
theorem d_LB_collect_0 : decode mm_LB_collect.2.1 0 = .ok (.aload_n 0, 1) ∧ 0 + 1 = 1 := ⟨by decide +kernel, rfl⟩
theorem d_LB_collect_1 : decode mm_LB_collect.2.1 1 = .ok (.getfield 19, 3) ∧ 1 + 3 = 4 := ⟨by decide +kernel, rfl⟩
theorem d_LB_collect_4 : decode mm_LB_collect.2.1 4 = .ok (.invokevirtual 118, 3) ∧ 4 + 3 = 7 := ⟨by decide +kernel, rfl⟩
theorem d_LB_collect_7 : decode mm_LB_collect.2.1 7 = .ok (.ireturn, 1) := by decide +kernel
theorem d_LB_input_0 : decode mm_LB_input.2.1 0 = .ok (.aload_n 0, 1) ∧ 0 + 1 = 1 := ⟨by decide +kernel, rfl⟩
theorem d_LB_input_1 : decode mm_LB_input.2.1 1 = .ok (.getfield 19, 3) ∧ 1 + 3 = 4 := ⟨by decide +kernel, rfl⟩
theorem d_LB_input_4 : decode mm_LB_input.2.1 4 = .ok (.iload_n 1, 1) ∧ 4 + 1 = 5 := ⟨by decide +kernel, rfl⟩
theorem d_LB_input_5 : decode mm_LB_input.2.1 5 = .ok (.invokevirtual 103, 3) ∧ 5 + 3 = 8 := ⟨by decide +kernel, rfl⟩
theorem d_LB_input_8 : decode mm_LB_input.2.1 8 = .ok (.astore_n 3, 1) ∧ 8 + 1 = 9 := ⟨by decide +kernel, rfl⟩
theorem d_LB_input_9 : decode mm_LB_input.2.1 9 = .ok (.aload_n 3, 1) ∧ 9 + 1 = 10 := ⟨by decide +kernel, rfl⟩
theorem d_LB_input_10 : decode mm_LB_input.2.1 10 = .ok (.ifnull 16, 3) ∧ 10 + 3 = 13 ∧ ((10 : Nat) : Int) + (16) = ((26 : Nat) : Int) := ⟨by decide +kernel, rfl, by decide⟩
theorem d_LB_input_13 : decode mm_LB_input.2.1 13 = .ok (.iload_n 2, 1) ∧ 13 + 1 = 14 := ⟨by decide +kernel, rfl⟩
theorem d_LB_input_14 : decode mm_LB_input.2.1 14 = .ok (.ifCond .lt 12, 3) ∧ 14 + 3 = 17 ∧ ((14 : Nat) : Int) + (12) = ((26 : Nat) : Int) := ⟨by decide +kernel, rfl, by decide⟩
theorem d_LB_input_17 : decode mm_LB_input.2.1 17 = .ok (.iload_n 2, 1) ∧ 17 + 1 = 18 := ⟨by decide +kernel, rfl⟩
theorem d_LB_input_18 : decode mm_LB_input.2.1 18 = .ok (.aload_n 3, 1) ∧ 18 + 1 = 19 := ⟨by decide +kernel, rfl⟩
theorem d_LB_input_19 : decode mm_LB_input.2.1 19 = .ok (.getfield 121, 3) ∧ 19 + 3 = 22 := ⟨by decide +kernel, rfl⟩
theorem d_LB_input_22 : decode mm_LB_input.2.1 22 = .ok (.arraylength, 1) ∧ 22 + 1 = 23 := ⟨by decide +kernel, rfl⟩
theorem d_LB_input_23 : decode mm_LB_input.2.1 23 = .ok (.if_icmp .lt 7, 3) ∧ 23 + 3 = 26 ∧ ((23 : Nat) : Int) + (7) = ((30 : Nat) : Int) := ⟨by decide +kernel, rfl, by decide⟩
theorem d_LB_input_26 : decode mm_LB_input.2.1 26 = .ok (.ldc2_w 32, 3) ∧ 26 + 3 = 29 := ⟨by decide +kernel, rfl⟩
theorem d_LB_input_29 : decode mm_LB_input.2.1 29 = .ok (.lreturn, 1) := by decide +kernel
theorem d_LB_input_30 : decode mm_LB_input.2.1 30 = .ok (.aload_n 3, 1) ∧ 30 + 1 = 31 := ⟨by decide +kernel, rfl⟩
theorem d_LB_input_31 : decode mm_LB_input.2.1 31 = .ok (.getfield 121, 3) ∧ 31 + 3 = 34 := ⟨by decide +kernel, rfl⟩
theorem d_LB_input_34 : decode mm_LB_input.2.1 34 = .ok (.iload_n 2, 1) ∧ 34 + 1 = 35 := ⟨by decide +kernel, rfl⟩
theorem d_LB_input_35 : decode mm_LB_input.2.1 35 = .ok (.laload, 1) ∧ 35 + 1 = 36 := ⟨by decide +kernel, rfl⟩
theorem d_LB_input_36 : decode mm_LB_input.2.1 36 = .ok (.lreturn, 1) := by decide +kernel
theorem d_LB_plan_0 : decode mm_LB_plan.2.1 0 = .ok (.aload_n 0, 1) ∧ 0 + 1 = 1 := ⟨by decide +kernel, rfl⟩
theorem d_LB_plan_1 : decode mm_LB_plan.2.1 1 = .ok (.getfield 19, 3) ∧ 1 + 3 = 4 := ⟨by decide +kernel, rfl⟩
theorem d_LB_plan_4 : decode mm_LB_plan.2.1 4 = .ok (.iload_n 1, 1) ∧ 4 + 1 = 5 := ⟨by decide +kernel, rfl⟩
theorem d_LB_plan_5 : decode mm_LB_plan.2.1 5 = .ok (.invokevirtual 103, 3) ∧ 5 + 3 = 8 := ⟨by decide +kernel, rfl⟩
theorem d_LB_plan_8 : decode mm_LB_plan.2.1 8 = .ok (.astore_n 3, 1) ∧ 8 + 1 = 9 := ⟨by decide +kernel, rfl⟩
theorem d_LB_plan_9 : decode mm_LB_plan.2.1 9 = .ok (.aload_n 3, 1) ∧ 9 + 1 = 10 := ⟨by decide +kernel, rfl⟩
theorem d_LB_plan_10 : decode mm_LB_plan.2.1 10 = .ok (.ifnonnull 5, 3) ∧ 10 + 3 = 13 ∧ ((10 : Nat) : Int) + (5) = ((15 : Nat) : Int) := ⟨by decide +kernel, rfl, by decide⟩
theorem d_LB_plan_13 : decode mm_LB_plan.2.1 13 = .ok (.iconst (-1), 1) ∧ 13 + 1 = 14 := ⟨by decide +kernel, rfl⟩
theorem d_LB_plan_14 : decode mm_LB_plan.2.1 14 = .ok (.ireturn, 1) := by decide +kernel
theorem d_LB_plan_15 : decode mm_LB_plan.2.1 15 = .ok (.iload_n 2, 1) ∧ 15 + 1 = 16 := ⟨by decide +kernel, rfl⟩
theorem d_LB_plan_16 : decode mm_LB_plan.2.1 16 = .ok (.tableswitch 78 0 4 #[36, 41, 47, 60, 65], 36) := by decide +kernel
theorem d_LB_plan_52 : decode mm_LB_plan.2.1 52 = .ok (.aload_n 3, 1) ∧ 52 + 1 = 53 := ⟨by decide +kernel, rfl⟩
theorem d_LB_plan_53 : decode mm_LB_plan.2.1 53 = .ok (.getfield 125, 3) ∧ 53 + 3 = 56 := ⟨by decide +kernel, rfl⟩
theorem d_LB_plan_56 : decode mm_LB_plan.2.1 56 = .ok (.ireturn, 1) := by decide +kernel
theorem d_LB_plan_57 : decode mm_LB_plan.2.1 57 = .ok (.aload_n 3, 1) ∧ 57 + 1 = 58 := ⟨by decide +kernel, rfl⟩
theorem d_LB_plan_58 : decode mm_LB_plan.2.1 58 = .ok (.getfield 121, 3) ∧ 58 + 3 = 61 := ⟨by decide +kernel, rfl⟩
theorem d_LB_plan_61 : decode mm_LB_plan.2.1 61 = .ok (.arraylength, 1) ∧ 61 + 1 = 62 := ⟨by decide +kernel, rfl⟩
theorem d_LB_plan_62 : decode mm_LB_plan.2.1 62 = .ok (.ireturn, 1) := by decide +kernel
theorem d_LB_plan_63 : decode mm_LB_plan.2.1 63 = .ok (.aload_n 3, 1) ∧ 63 + 1 = 64 := ⟨by decide +kernel, rfl⟩
theorem d_LB_plan_64 : decode mm_LB_plan.2.1 64 = .ok (.getfield 128, 3) ∧ 64 + 3 = 67 := ⟨by decide +kernel, rfl⟩
theorem d_LB_plan_67 : decode mm_LB_plan.2.1 67 = .ok (.ifCond .eq 7, 3) ∧ 67 + 3 = 70 ∧ ((67 : Nat) : Int) + (7) = ((74 : Nat) : Int) := ⟨by decide +kernel, rfl, by decide⟩
theorem d_LB_plan_70 : decode mm_LB_plan.2.1 70 = .ok (.iconst 1, 1) ∧ 70 + 1 = 71 := ⟨by decide +kernel, rfl⟩
theorem d_LB_plan_71 : decode mm_LB_plan.2.1 71 = .ok (.goto 4, 3) ∧ 71 + 3 = 74 ∧ ((71 : Nat) : Int) + (4) = ((75 : Nat) : Int) := ⟨by decide +kernel, rfl, by decide⟩
theorem d_LB_plan_74 : decode mm_LB_plan.2.1 74 = .ok (.iconst 0, 1) ∧ 74 + 1 = 75 := ⟨by decide +kernel, rfl⟩
theorem d_LB_plan_75 : decode mm_LB_plan.2.1 75 = .ok (.ireturn, 1) := by decide +kernel
theorem d_LB_plan_76 : decode mm_LB_plan.2.1 76 = .ok (.aload_n 3, 1) ∧ 76 + 1 = 77 := ⟨by decide +kernel, rfl⟩
theorem d_LB_plan_77 : decode mm_LB_plan.2.1 77 = .ok (.getfield 131, 3) ∧ 77 + 3 = 80 := ⟨by decide +kernel, rfl⟩
theorem d_LB_plan_80 : decode mm_LB_plan.2.1 80 = .ok (.ireturn, 1) := by decide +kernel
theorem d_LB_plan_81 : decode mm_LB_plan.2.1 81 = .ok (.aload_n 3, 1) ∧ 81 + 1 = 82 := ⟨by decide +kernel, rfl⟩
theorem d_LB_plan_82 : decode mm_LB_plan.2.1 82 = .ok (.getfield 113, 3) ∧ 82 + 3 = 85 := ⟨by decide +kernel, rfl⟩
theorem d_LB_plan_85 : decode mm_LB_plan.2.1 85 = .ok (.ifCond .eq 7, 3) ∧ 85 + 3 = 88 ∧ ((85 : Nat) : Int) + (7) = ((92 : Nat) : Int) := ⟨by decide +kernel, rfl, by decide⟩
theorem d_LB_plan_88 : decode mm_LB_plan.2.1 88 = .ok (.iconst 1, 1) ∧ 88 + 1 = 89 := ⟨by decide +kernel, rfl⟩
theorem d_LB_plan_89 : decode mm_LB_plan.2.1 89 = .ok (.goto 4, 3) ∧ 89 + 3 = 92 ∧ ((89 : Nat) : Int) + (4) = ((93 : Nat) : Int) := ⟨by decide +kernel, rfl, by decide⟩
theorem d_LB_plan_92 : decode mm_LB_plan.2.1 92 = .ok (.iconst 0, 1) ∧ 92 + 1 = 93 := ⟨by decide +kernel, rfl⟩
theorem d_LB_plan_93 : decode mm_LB_plan.2.1 93 = .ok (.ireturn, 1) := by decide +kernel
theorem d_LB_plan_94 : decode mm_LB_plan.2.1 94 = .ok (.iconst (-1), 1) ∧ 94 + 1 = 95 := ⟨by decide +kernel, rfl⟩
theorem d_LB_plan_95 : decode mm_LB_plan.2.1 95 = .ok (.ireturn, 1) := by decide +kernel
theorem d_LB_count_0 : decode mm_LB_count.2.1 0 = .ok (.iload_n 1, 1) ∧ 0 + 1 = 1 := ⟨by decide +kernel, rfl⟩
theorem d_LB_count_1 : decode mm_LB_count.2.1 1 = .ok (.tableswitch 108 0 7 #[47, 55, 63, 71, 79, 87, 92, 100], 47) := by decide +kernel
theorem d_LB_count_48 : decode mm_LB_count.2.1 48 = .ok (.aload_n 0, 1) ∧ 48 + 1 = 49 := ⟨by decide +kernel, rfl⟩
theorem d_LB_count_49 : decode mm_LB_count.2.1 49 = .ok (.getfield 19, 3) ∧ 49 + 3 = 52 := ⟨by decide +kernel, rfl⟩
theorem d_LB_count_52 : decode mm_LB_count.2.1 52 = .ok (.getfield 134, 3) ∧ 52 + 3 = 55 := ⟨by decide +kernel, rfl⟩
theorem d_LB_count_55 : decode mm_LB_count.2.1 55 = .ok (.ireturn, 1) := by decide +kernel
theorem d_LB_count_56 : decode mm_LB_count.2.1 56 = .ok (.aload_n 0, 1) ∧ 56 + 1 = 57 := ⟨by decide +kernel, rfl⟩
theorem d_LB_count_57 : decode mm_LB_count.2.1 57 = .ok (.getfield 19, 3) ∧ 57 + 3 = 60 := ⟨by decide +kernel, rfl⟩
theorem d_LB_count_60 : decode mm_LB_count.2.1 60 = .ok (.getfield 137, 3) ∧ 60 + 3 = 63 := ⟨by decide +kernel, rfl⟩
theorem d_LB_count_63 : decode mm_LB_count.2.1 63 = .ok (.ireturn, 1) := by decide +kernel
theorem d_LB_count_64 : decode mm_LB_count.2.1 64 = .ok (.aload_n 0, 1) ∧ 64 + 1 = 65 := ⟨by decide +kernel, rfl⟩
theorem d_LB_count_65 : decode mm_LB_count.2.1 65 = .ok (.getfield 28, 3) ∧ 65 + 3 = 68 := ⟨by decide +kernel, rfl⟩
theorem d_LB_count_68 : decode mm_LB_count.2.1 68 = .ok (.getfield 140, 3) ∧ 68 + 3 = 71 := ⟨by decide +kernel, rfl⟩
theorem d_LB_count_71 : decode mm_LB_count.2.1 71 = .ok (.ireturn, 1) := by decide +kernel
theorem d_LB_count_72 : decode mm_LB_count.2.1 72 = .ok (.aload_n 0, 1) ∧ 72 + 1 = 73 := ⟨by decide +kernel, rfl⟩
theorem d_LB_count_73 : decode mm_LB_count.2.1 73 = .ok (.getfield 28, 3) ∧ 73 + 3 = 76 := ⟨by decide +kernel, rfl⟩
theorem d_LB_count_76 : decode mm_LB_count.2.1 76 = .ok (.getfield 143, 3) ∧ 76 + 3 = 79 := ⟨by decide +kernel, rfl⟩
theorem d_LB_count_79 : decode mm_LB_count.2.1 79 = .ok (.ireturn, 1) := by decide +kernel
theorem d_LB_count_80 : decode mm_LB_count.2.1 80 = .ok (.aload_n 0, 1) ∧ 80 + 1 = 81 := ⟨by decide +kernel, rfl⟩
theorem d_LB_count_81 : decode mm_LB_count.2.1 81 = .ok (.getfield 12, 3) ∧ 81 + 3 = 84 := ⟨by decide +kernel, rfl⟩
theorem d_LB_count_84 : decode mm_LB_count.2.1 84 = .ok (.getfield 46, 3) ∧ 84 + 3 = 87 := ⟨by decide +kernel, rfl⟩
theorem d_LB_count_87 : decode mm_LB_count.2.1 87 = .ok (.ireturn, 1) := by decide +kernel
theorem d_LB_count_88 : decode mm_LB_count.2.1 88 = .ok (.aload_n 0, 1) ∧ 88 + 1 = 89 := ⟨by decide +kernel, rfl⟩
theorem d_LB_count_89 : decode mm_LB_count.2.1 89 = .ok (.getfield 38, 3) ∧ 89 + 3 = 92 := ⟨by decide +kernel, rfl⟩
theorem d_LB_count_92 : decode mm_LB_count.2.1 92 = .ok (.ireturn, 1) := by decide +kernel
theorem d_LB_count_93 : decode mm_LB_count.2.1 93 = .ok (.aload_n 0, 1) ∧ 93 + 1 = 94 := ⟨by decide +kernel, rfl⟩
theorem d_LB_count_94 : decode mm_LB_count.2.1 94 = .ok (.getfield 28, 3) ∧ 94 + 3 = 97 := ⟨by decide +kernel, rfl⟩
theorem d_LB_count_97 : decode mm_LB_count.2.1 97 = .ok (.invokevirtual 146, 3) ∧ 97 + 3 = 100 := ⟨by decide +kernel, rfl⟩
theorem d_LB_count_100 : decode mm_LB_count.2.1 100 = .ok (.ireturn, 1) := by decide +kernel
theorem d_LB_count_101 : decode mm_LB_count.2.1 101 = .ok (.aload_n 0, 1) ∧ 101 + 1 = 102 := ⟨by decide +kernel, rfl⟩
theorem d_LB_count_102 : decode mm_LB_count.2.1 102 = .ok (.getfield 28, 3) ∧ 102 + 3 = 105 := ⟨by decide +kernel, rfl⟩
theorem d_LB_count_105 : decode mm_LB_count.2.1 105 = .ok (.invokevirtual 149, 3) ∧ 105 + 3 = 108 := ⟨by decide +kernel, rfl⟩
theorem d_LB_count_108 : decode mm_LB_count.2.1 108 = .ok (.ireturn, 1) := by decide +kernel
theorem d_LB_count_109 : decode mm_LB_count.2.1 109 = .ok (.iconst (-1), 1) ∧ 109 + 1 = 110 := ⟨by decide +kernel, rfl⟩
theorem d_LB_count_110 : decode mm_LB_count.2.1 110 = .ok (.ireturn, 1) := by decide +kernel
theorem d_LB_readLine_0 : decode mm_LB_readLine.2.1 0 = .ok (.aload_n 0, 1) ∧ 0 + 1 = 1 := ⟨by decide +kernel, rfl⟩
theorem d_LB_readLine_1 : decode mm_LB_readLine.2.1 1 = .ok (.getfield 12, 3) ∧ 1 + 3 = 4 := ⟨by decide +kernel, rfl⟩
theorem d_LB_readLine_4 : decode mm_LB_readLine.2.1 4 = .ok (.invokevirtual 152, 3) ∧ 4 + 3 = 7 := ⟨by decide +kernel, rfl⟩
theorem d_LB_readLine_7 : decode mm_LB_readLine.2.1 7 = .ok (.ifCond .eq 5, 3) ∧ 7 + 3 = 10 ∧ ((7 : Nat) : Int) + (5) = ((12 : Nat) : Int) := ⟨by decide +kernel, rfl, by decide⟩
theorem d_LB_readLine_10 : decode mm_LB_readLine.2.1 10 = .ok (.iconst 1, 1) ∧ 10 + 1 = 11 := ⟨by decide +kernel, rfl⟩
theorem d_LB_readLine_11 : decode mm_LB_readLine.2.1 11 = .ok (.ireturn, 1) := by decide +kernel
theorem d_LB_readLine_12 : decode mm_LB_readLine.2.1 12 = .ok (.aload_n 0, 1) ∧ 12 + 1 = 13 := ⟨by decide +kernel, rfl⟩
theorem d_LB_readLine_13 : decode mm_LB_readLine.2.1 13 = .ok (.aload_n 0, 1) ∧ 13 + 1 = 14 := ⟨by decide +kernel, rfl⟩
theorem d_LB_readLine_14 : decode mm_LB_readLine.2.1 14 = .ok (.getfield 12, 3) ∧ 14 + 3 = 17 := ⟨by decide +kernel, rfl⟩
theorem d_LB_readLine_17 : decode mm_LB_readLine.2.1 17 = .ok (.getfield 155, 3) ∧ 17 + 3 = 20 := ⟨by decide +kernel, rfl⟩
theorem d_LB_readLine_20 : decode mm_LB_readLine.2.1 20 = .ok (.putfield 38, 3) ∧ 20 + 3 = 23 := ⟨by decide +kernel, rfl⟩
theorem d_LB_readLine_23 : decode mm_LB_readLine.2.1 23 = .ok (.aload_n 0, 1) ∧ 23 + 1 = 24 := ⟨by decide +kernel, rfl⟩
theorem d_LB_readLine_24 : decode mm_LB_readLine.2.1 24 = .ok (.getfield 12, 3) ∧ 24 + 3 = 27 := ⟨by decide +kernel, rfl⟩
theorem d_LB_readLine_27 : decode mm_LB_readLine.2.1 27 = .ok (.invokevirtual 64, 3) ∧ 27 + 3 = 30 := ⟨by decide +kernel, rfl⟩
theorem d_LB_readLine_30 : decode mm_LB_readLine.2.1 30 = .ok (.iconst 0, 1) ∧ 30 + 1 = 31 := ⟨by decide +kernel, rfl⟩
theorem d_LB_readLine_31 : decode mm_LB_readLine.2.1 31 = .ok (.ireturn, 1) := by decide +kernel
theorem d_LB_workLineOut_0 : decode mm_LB_workLineOut.2.1 0 = .ok (.aload_n 0, 1) ∧ 0 + 1 = 1 := ⟨by decide +kernel, rfl⟩
theorem d_LB_workLineOut_1 : decode mm_LB_workLineOut.2.1 1 = .ok (.getfield 28, 3) ∧ 1 + 3 = 4 := ⟨by decide +kernel, rfl⟩
theorem d_LB_workLineOut_4 : decode mm_LB_workLineOut.2.1 4 = .ok (.aload_n 0, 1) ∧ 4 + 1 = 5 := ⟨by decide +kernel, rfl⟩
theorem d_LB_workLineOut_5 : decode mm_LB_workLineOut.2.1 5 = .ok (.getfield 12, 3) ∧ 5 + 3 = 8 := ⟨by decide +kernel, rfl⟩
theorem d_LB_workLineOut_8 : decode mm_LB_workLineOut.2.1 8 = .ok (.invokevirtual 156, 3) ∧ 8 + 3 = 11 := ⟨by decide +kernel, rfl⟩
theorem d_LB_workLineOut_11 : decode mm_LB_workLineOut.2.1 11 = .ok (.lstore_n 1, 1) ∧ 11 + 1 = 12 := ⟨by decide +kernel, rfl⟩
theorem d_LB_workLineOut_12 : decode mm_LB_workLineOut.2.1 12 = .ok (.lload_n 1, 1) ∧ 12 + 1 = 13 := ⟨by decide +kernel, rfl⟩
theorem d_LB_workLineOut_13 : decode mm_LB_workLineOut.2.1 13 = .ok (.invokestatic 160, 3) ∧ 13 + 3 = 16 := ⟨by decide +kernel, rfl⟩
theorem d_LB_workLineOut_16 : decode mm_LB_workLineOut.2.1 16 = .ok (.ifCond .ne 8, 3) ∧ 16 + 3 = 19 ∧ ((16 : Nat) : Int) + (8) = ((24 : Nat) : Int) := ⟨by decide +kernel, rfl, by decide⟩
theorem d_LB_workLineOut_19 : decode mm_LB_workLineOut.2.1 19 = .ok (.aload_n 0, 1) ∧ 19 + 1 = 20 := ⟨by decide +kernel, rfl⟩
theorem d_LB_workLineOut_20 : decode mm_LB_workLineOut.2.1 20 = .ok (.lload_n 1, 1) ∧ 20 + 1 = 21 := ⟨by decide +kernel, rfl⟩
theorem d_LB_workLineOut_21 : decode mm_LB_workLineOut.2.1 21 = .ok (.putfield 34, 3) ∧ 21 + 3 = 24 := ⟨by decide +kernel, rfl⟩
theorem d_LB_workLineOut_24 : decode mm_LB_workLineOut.2.1 24 = .ok (.aload_n 0, 1) ∧ 24 + 1 = 25 := ⟨by decide +kernel, rfl⟩
theorem d_LB_workLineOut_25 : decode mm_LB_workLineOut.2.1 25 = .ok (.getfield 28, 3) ∧ 25 + 3 = 28 := ⟨by decide +kernel, rfl⟩
theorem d_LB_workLineOut_28 : decode mm_LB_workLineOut.2.1 28 = .ok (.lload_n 1, 1) ∧ 28 + 1 = 29 := ⟨by decide +kernel, rfl⟩
theorem d_LB_workLineOut_29 : decode mm_LB_workLineOut.2.1 29 = .ok (.invokevirtual 88, 3) ∧ 29 + 3 = 32 := ⟨by decide +kernel, rfl⟩
theorem d_LB_workLineOut_32 : decode mm_LB_workLineOut.2.1 32 = .ok (.ireturn, 1) := by decide +kernel
theorem d_LB_isNameNumber_0 : decode mm_LB_isNameNumber.2.1 0 = .ok (.iload_n 0, 1) ∧ 0 + 1 = 1 := ⟨by decide +kernel, rfl⟩
theorem d_LB_isNameNumber_1 : decode mm_LB_isNameNumber.2.1 1 = .ok (.ifCond .lt 13, 3) ∧ 1 + 3 = 4 ∧ ((1 : Nat) : Int) + (13) = ((14 : Nat) : Int) := ⟨by decide +kernel, rfl, by decide⟩
theorem d_LB_isNameNumber_4 : decode mm_LB_isNameNumber.2.1 4 = .ok (.iload_n 0, 1) ∧ 4 + 1 = 5 := ⟨by decide +kernel, rfl⟩
theorem d_LB_isNameNumber_5 : decode mm_LB_isNameNumber.2.1 5 = .ok (.bipush 8, 2) ∧ 5 + 2 = 7 := ⟨by decide +kernel, rfl⟩
theorem d_LB_isNameNumber_7 : decode mm_LB_isNameNumber.2.1 7 = .ok (.if_icmp .ge 7, 3) ∧ 7 + 3 = 10 ∧ ((7 : Nat) : Int) + (7) = ((14 : Nat) : Int) := ⟨by decide +kernel, rfl, by decide⟩
theorem d_LB_isNameNumber_10 : decode mm_LB_isNameNumber.2.1 10 = .ok (.iconst 1, 1) ∧ 10 + 1 = 11 := ⟨by decide +kernel, rfl⟩
theorem d_LB_isNameNumber_11 : decode mm_LB_isNameNumber.2.1 11 = .ok (.goto 4, 3) ∧ 11 + 3 = 14 ∧ ((11 : Nat) : Int) + (4) = ((15 : Nat) : Int) := ⟨by decide +kernel, rfl, by decide⟩
theorem d_LB_isNameNumber_14 : decode mm_LB_isNameNumber.2.1 14 = .ok (.iconst 0, 1) ∧ 14 + 1 = 15 := ⟨by decide +kernel, rfl⟩
theorem d_LB_isNameNumber_15 : decode mm_LB_isNameNumber.2.1 15 = .ok (.ireturn, 1) := by decide +kernel
theorem d_LB_isDigit_0 : decode mm_LB_isDigit.2.1 0 = .ok (.iload_n 0, 1) ∧ 0 + 1 = 1 := ⟨by decide +kernel, rfl⟩
theorem d_LB_isDigit_1 : decode mm_LB_isDigit.2.1 1 = .ok (.bipush 48, 2) ∧ 1 + 2 = 3 := ⟨by decide +kernel, rfl⟩
theorem d_LB_isDigit_3 : decode mm_LB_isDigit.2.1 3 = .ok (.if_icmp .lt 13, 3) ∧ 3 + 3 = 6 ∧ ((3 : Nat) : Int) + (13) = ((16 : Nat) : Int) := ⟨by decide +kernel, rfl, by decide⟩
theorem d_LB_isDigit_6 : decode mm_LB_isDigit.2.1 6 = .ok (.iload_n 0, 1) ∧ 6 + 1 = 7 := ⟨by decide +kernel, rfl⟩
theorem d_LB_isDigit_7 : decode mm_LB_isDigit.2.1 7 = .ok (.bipush 57, 2) ∧ 7 + 2 = 9 := ⟨by decide +kernel, rfl⟩
theorem d_LB_isDigit_9 : decode mm_LB_isDigit.2.1 9 = .ok (.if_icmp .gt 7, 3) ∧ 9 + 3 = 12 ∧ ((9 : Nat) : Int) + (7) = ((16 : Nat) : Int) := ⟨by decide +kernel, rfl, by decide⟩
theorem d_LB_isDigit_12 : decode mm_LB_isDigit.2.1 12 = .ok (.iconst 1, 1) ∧ 12 + 1 = 13 := ⟨by decide +kernel, rfl⟩
theorem d_LB_isDigit_13 : decode mm_LB_isDigit.2.1 13 = .ok (.goto 4, 3) ∧ 13 + 3 = 16 ∧ ((13 : Nat) : Int) + (4) = ((17 : Nat) : Int) := ⟨by decide +kernel, rfl, by decide⟩
theorem d_LB_isDigit_16 : decode mm_LB_isDigit.2.1 16 = .ok (.iconst 0, 1) ∧ 16 + 1 = 17 := ⟨by decide +kernel, rfl⟩
theorem d_LB_isDigit_17 : decode mm_LB_isDigit.2.1 17 = .ok (.ireturn, 1) := by decide +kernel
theorem d_LB_isLetter_0 : decode mm_LB_isLetter.2.1 0 = .ok (.iload_n 0, 1) ∧ 0 + 1 = 1 := ⟨by decide +kernel, rfl⟩
theorem d_LB_isLetter_1 : decode mm_LB_isLetter.2.1 1 = .ok (.bipush 97, 2) ∧ 1 + 2 = 3 := ⟨by decide +kernel, rfl⟩
theorem d_LB_isLetter_3 : decode mm_LB_isLetter.2.1 3 = .ok (.if_icmp .lt 13, 3) ∧ 3 + 3 = 6 ∧ ((3 : Nat) : Int) + (13) = ((16 : Nat) : Int) := ⟨by decide +kernel, rfl, by decide⟩
theorem d_LB_isLetter_6 : decode mm_LB_isLetter.2.1 6 = .ok (.iload_n 0, 1) ∧ 6 + 1 = 7 := ⟨by decide +kernel, rfl⟩
theorem d_LB_isLetter_7 : decode mm_LB_isLetter.2.1 7 = .ok (.bipush 105, 2) ∧ 7 + 2 = 9 := ⟨by decide +kernel, rfl⟩
theorem d_LB_isLetter_9 : decode mm_LB_isLetter.2.1 9 = .ok (.if_icmp .ge 7, 3) ∧ 9 + 3 = 12 ∧ ((9 : Nat) : Int) + (7) = ((16 : Nat) : Int) := ⟨by decide +kernel, rfl, by decide⟩
theorem d_LB_isLetter_12 : decode mm_LB_isLetter.2.1 12 = .ok (.iconst 1, 1) ∧ 12 + 1 = 13 := ⟨by decide +kernel, rfl⟩
theorem d_LB_isLetter_13 : decode mm_LB_isLetter.2.1 13 = .ok (.goto 4, 3) ∧ 13 + 3 = 16 ∧ ((13 : Nat) : Int) + (4) = ((17 : Nat) : Int) := ⟨by decide +kernel, rfl, by decide⟩
theorem d_LB_isLetter_16 : decode mm_LB_isLetter.2.1 16 = .ok (.iconst 0, 1) ∧ 16 + 1 = 17 := ⟨by decide +kernel, rfl⟩
theorem d_LB_isLetter_17 : decode mm_LB_isLetter.2.1 17 = .ok (.ireturn, 1) := by decide +kernel
theorem d_LB_partsAfter_0 : decode mm_LB_partsAfter.2.1 0 = .ok (.iload_n 0, 1) ∧ 0 + 1 = 1 := ⟨by decide +kernel, rfl⟩
theorem d_LB_partsAfter_1 : decode mm_LB_partsAfter.2.1 1 = .ok (.lookupswitch 81 #[(33, 75), (42, 77), (43, 77), (45, 77), (60, 77), (63, 79), (79, 75), (84, 77)], 75) := by decide +kernel
theorem d_LB_partsAfter_76 : decode mm_LB_partsAfter.2.1 76 = .ok (.iconst 1, 1) ∧ 76 + 1 = 77 := ⟨by decide +kernel, rfl⟩
theorem d_LB_partsAfter_77 : decode mm_LB_partsAfter.2.1 77 = .ok (.ireturn, 1) := by decide +kernel
theorem d_LB_partsAfter_78 : decode mm_LB_partsAfter.2.1 78 = .ok (.iconst 2, 1) ∧ 78 + 1 = 79 := ⟨by decide +kernel, rfl⟩
theorem d_LB_partsAfter_79 : decode mm_LB_partsAfter.2.1 79 = .ok (.ireturn, 1) := by decide +kernel
theorem d_LB_partsAfter_80 : decode mm_LB_partsAfter.2.1 80 = .ok (.iconst 3, 1) ∧ 80 + 1 = 81 := ⟨by decide +kernel, rfl⟩
theorem d_LB_partsAfter_81 : decode mm_LB_partsAfter.2.1 81 = .ok (.ireturn, 1) := by decide +kernel
theorem d_LB_partsAfter_82 : decode mm_LB_partsAfter.2.1 82 = .ok (.iconst 0, 1) ∧ 82 + 1 = 83 := ⟨by decide +kernel, rfl⟩
theorem d_LB_partsAfter_83 : decode mm_LB_partsAfter.2.1 83 = .ok (.ireturn, 1) := by decide +kernel
theorem d_LB_isFailure_0 : decode mm_LB_isFailure.2.1 0 = .ok (.lload_n 0, 1) ∧ 0 + 1 = 1 := ⟨by decide +kernel, rfl⟩
theorem d_LB_isFailure_1 : decode mm_LB_isFailure.2.1 1 = .ok (.ldc2_w 32, 3) ∧ 1 + 3 = 4 := ⟨by decide +kernel, rfl⟩
theorem d_LB_isFailure_4 : decode mm_LB_isFailure.2.1 4 = .ok (.lcmp, 1) ∧ 4 + 1 = 5 := ⟨by decide +kernel, rfl⟩
theorem d_LB_isFailure_5 : decode mm_LB_isFailure.2.1 5 = .ok (.ifCond .ge 7, 3) ∧ 5 + 3 = 8 ∧ ((5 : Nat) : Int) + (7) = ((12 : Nat) : Int) := ⟨by decide +kernel, rfl, by decide⟩
theorem d_LB_isFailure_8 : decode mm_LB_isFailure.2.1 8 = .ok (.iconst 1, 1) ∧ 8 + 1 = 9 := ⟨by decide +kernel, rfl⟩
theorem d_LB_isFailure_9 : decode mm_LB_isFailure.2.1 9 = .ok (.goto 4, 3) ∧ 9 + 3 = 12 ∧ ((9 : Nat) : Int) + (4) = ((13 : Nat) : Int) := ⟨by decide +kernel, rfl, by decide⟩
theorem d_LB_isFailure_12 : decode mm_LB_isFailure.2.1 12 = .ok (.iconst 0, 1) ∧ 12 + 1 = 13 := ⟨by decide +kernel, rfl⟩
theorem d_LB_isFailure_13 : decode mm_LB_isFailure.2.1 13 = .ok (.ireturn, 1) := by decide +kernel
theorem d_LB_isPlan_0 : decode mm_LB_isPlan.2.1 0 = .ok (.lload_n 0, 1) ∧ 0 + 1 = 1 := ⟨by decide +kernel, rfl⟩
theorem d_LB_isPlan_1 : decode mm_LB_isPlan.2.1 1 = .ok (.ldc2_w 107, 3) ∧ 1 + 3 = 4 := ⟨by decide +kernel, rfl⟩
theorem d_LB_isPlan_4 : decode mm_LB_isPlan.2.1 4 = .ok (.lcmp, 1) ∧ 4 + 1 = 5 := ⟨by decide +kernel, rfl⟩
theorem d_LB_isPlan_5 : decode mm_LB_isPlan.2.1 5 = .ok (.ifCond .le 7, 3) ∧ 5 + 3 = 8 ∧ ((5 : Nat) : Int) + (7) = ((12 : Nat) : Int) := ⟨by decide +kernel, rfl, by decide⟩
theorem d_LB_isPlan_8 : decode mm_LB_isPlan.2.1 8 = .ok (.iconst 1, 1) ∧ 8 + 1 = 9 := ⟨by decide +kernel, rfl⟩
theorem d_LB_isPlan_9 : decode mm_LB_isPlan.2.1 9 = .ok (.goto 4, 3) ∧ 9 + 3 = 12 ∧ ((9 : Nat) : Int) + (4) = ((13 : Nat) : Int) := ⟨by decide +kernel, rfl, by decide⟩
theorem d_LB_isPlan_12 : decode mm_LB_isPlan.2.1 12 = .ok (.iconst 0, 1) ∧ 12 + 1 = 13 := ⟨by decide +kernel, rfl⟩
theorem d_LB_isPlan_13 : decode mm_LB_isPlan.2.1 13 = .ok (.ireturn, 1) := by decide +kernel
theorem d_LB_numberOf_0 : decode mm_LB_numberOf.2.1 0 = .ok (.lload_n 0, 1) ∧ 0 + 1 = 1 := ⟨by decide +kernel, rfl⟩
theorem d_LB_numberOf_1 : decode mm_LB_numberOf.2.1 1 = .ok (.ldc2_w 107, 3) ∧ 1 + 3 = 4 := ⟨by decide +kernel, rfl⟩
theorem d_LB_numberOf_4 : decode mm_LB_numberOf.2.1 4 = .ok (.lsub, 1) ∧ 4 + 1 = 5 := ⟨by decide +kernel, rfl⟩
theorem d_LB_numberOf_5 : decode mm_LB_numberOf.2.1 5 = .ok (.l2i, 1) ∧ 5 + 1 = 6 := ⟨by decide +kernel, rfl⟩
theorem d_LB_numberOf_6 : decode mm_LB_numberOf.2.1 6 = .ok (.ireturn, 1) := by decide +kernel
theorem d_LBText_init_0 : decode mm_LBText_init.2.1 0 = .ok (.aload_n 0, 1) ∧ 0 + 1 = 1 := ⟨by decide +kernel, rfl⟩
theorem d_LBText_init_1 : decode mm_LBText_init.2.1 1 = .ok (.invokespecial 3, 3) ∧ 1 + 3 = 4 := ⟨by decide +kernel, rfl⟩
theorem d_LBText_init_4 : decode mm_LBText_init.2.1 4 = .ok (.aload_n 0, 1) ∧ 4 + 1 = 5 := ⟨by decide +kernel, rfl⟩
theorem d_LBText_init_5 : decode mm_LBText_init.2.1 5 = .ok (.bipush 24, 2) ∧ 5 + 2 = 7 := ⟨by decide +kernel, rfl⟩
theorem d_LBText_init_7 : decode mm_LBText_init.2.1 7 = .ok (.newarray .int, 2) ∧ 7 + 2 = 9 := ⟨by decide +kernel, rfl⟩
theorem d_LBText_init_9 : decode mm_LBText_init.2.1 9 = .ok (.putfield 9, 3) ∧ 9 + 3 = 12 := ⟨by decide +kernel, rfl⟩
theorem d_LBText_init_12 : decode mm_LBText_init.2.1 12 = .ok (.aload_n 0, 1) ∧ 12 + 1 = 13 := ⟨by decide +kernel, rfl⟩
theorem d_LBText_init_13 : decode mm_LBText_init.2.1 13 = .ok (.bipush 24, 2) ∧ 13 + 2 = 15 := ⟨by decide +kernel, rfl⟩
theorem d_LBText_init_15 : decode mm_LBText_init.2.1 15 = .ok (.newarray .int, 2) ∧ 15 + 2 = 17 := ⟨by decide +kernel, rfl⟩
theorem d_LBText_init_17 : decode mm_LBText_init.2.1 17 = .ok (.putfield 15, 3) ∧ 17 + 3 = 20 := ⟨by decide +kernel, rfl⟩
theorem d_LBText_init_20 : decode mm_LBText_init.2.1 20 = .ok (.return_, 1) := by decide +kernel
theorem d_LBText_append_0 : decode mm_LBText_append.2.1 0 = .ok (.iload_n 1, 1) ∧ 0 + 1 = 1 := ⟨by decide +kernel, rfl⟩
theorem d_LBText_append_1 : decode mm_LBText_append.2.1 1 = .ok (.invokestatic 18, 3) ∧ 1 + 3 = 4 := ⟨by decide +kernel, rfl⟩
theorem d_LBText_append_4 : decode mm_LBText_append.2.1 4 = .ok (.ifCond .ne 5, 3) ∧ 4 + 3 = 7 ∧ ((4 : Nat) : Int) + (5) = ((9 : Nat) : Int) := ⟨by decide +kernel, rfl, by decide⟩
theorem d_LBText_append_7 : decode mm_LBText_append.2.1 7 = .ok (.iconst (-1), 1) ∧ 7 + 1 = 8 := ⟨by decide +kernel, rfl⟩
theorem d_LBText_append_8 : decode mm_LBText_append.2.1 8 = .ok (.ireturn, 1) := by decide +kernel
theorem d_LBText_append_9 : decode mm_LBText_append.2.1 9 = .ok (.aload_n 0, 1) ∧ 9 + 1 = 10 := ⟨by decide +kernel, rfl⟩
theorem d_LBText_append_10 : decode mm_LBText_append.2.1 10 = .ok (.getfield 22, 3) ∧ 10 + 3 = 13 := ⟨by decide +kernel, rfl⟩
theorem d_LBText_append_13 : decode mm_LBText_append.2.1 13 = .ok (.bipush 24, 2) ∧ 13 + 2 = 15 := ⟨by decide +kernel, rfl⟩
theorem d_LBText_append_15 : decode mm_LBText_append.2.1 15 = .ok (.if_icmp .lt 6, 3) ∧ 15 + 3 = 18 ∧ ((15 : Nat) : Int) + (6) = ((21 : Nat) : Int) := ⟨by decide +kernel, rfl, by decide⟩
theorem d_LBText_append_18 : decode mm_LBText_append.2.1 18 = .ok (.bipush (-2), 2) ∧ 18 + 2 = 20 := ⟨by decide +kernel, rfl⟩
theorem d_LBText_append_20 : decode mm_LBText_append.2.1 20 = .ok (.ireturn, 1) := by decide +kernel
theorem d_LBText_append_21 : decode mm_LBText_append.2.1 21 = .ok (.aload_n 0, 1) ∧ 21 + 1 = 22 := ⟨by decide +kernel, rfl⟩
theorem d_LBText_append_22 : decode mm_LBText_append.2.1 22 = .ok (.getfield 9, 3) ∧ 22 + 3 = 25 := ⟨by decide +kernel, rfl⟩
theorem d_LBText_append_25 : decode mm_LBText_append.2.1 25 = .ok (.aload_n 0, 1) ∧ 25 + 1 = 26 := ⟨by decide +kernel, rfl⟩
theorem d_LBText_append_26 : decode mm_LBText_append.2.1 26 = .ok (.getfield 22, 3) ∧ 26 + 3 = 29 := ⟨by decide +kernel, rfl⟩
theorem d_LBText_append_29 : decode mm_LBText_append.2.1 29 = .ok (.iload_n 1, 1) ∧ 29 + 1 = 30 := ⟨by decide +kernel, rfl⟩
theorem d_LBText_append_30 : decode mm_LBText_append.2.1 30 = .ok (.iastore, 1) ∧ 30 + 1 = 31 := ⟨by decide +kernel, rfl⟩
theorem d_LBText_append_31 : decode mm_LBText_append.2.1 31 = .ok (.aload_n 0, 1) ∧ 31 + 1 = 32 := ⟨by decide +kernel, rfl⟩
theorem d_LBText_append_32 : decode mm_LBText_append.2.1 32 = .ok (.dup, 1) ∧ 32 + 1 = 33 := ⟨by decide +kernel, rfl⟩
theorem d_LBText_append_33 : decode mm_LBText_append.2.1 33 = .ok (.getfield 22, 3) ∧ 33 + 3 = 36 := ⟨by decide +kernel, rfl⟩
theorem d_LBText_append_36 : decode mm_LBText_append.2.1 36 = .ok (.iconst 1, 1) ∧ 36 + 1 = 37 := ⟨by decide +kernel, rfl⟩
theorem d_LBText_append_37 : decode mm_LBText_append.2.1 37 = .ok (.iadd, 1) ∧ 37 + 1 = 38 := ⟨by decide +kernel, rfl⟩
theorem d_LBText_append_38 : decode mm_LBText_append.2.1 38 = .ok (.putfield 22, 3) ∧ 38 + 3 = 41 := ⟨by decide +kernel, rfl⟩
theorem d_LBText_append_41 : decode mm_LBText_append.2.1 41 = .ok (.aload_n 0, 1) ∧ 41 + 1 = 42 := ⟨by decide +kernel, rfl⟩
theorem d_LBText_append_42 : decode mm_LBText_append.2.1 42 = .ok (.getfield 22, 3) ∧ 42 + 3 = 45 := ⟨by decide +kernel, rfl⟩
theorem d_LBText_append_45 : decode mm_LBText_append.2.1 45 = .ok (.ireturn, 1) := by decide +kernel
theorem d_LBText_clear_0 : decode mm_LBText_clear.2.1 0 = .ok (.aload_n 0, 1) ∧ 0 + 1 = 1 := ⟨by decide +kernel, rfl⟩
theorem d_LBText_clear_1 : decode mm_LBText_clear.2.1 1 = .ok (.iconst 0, 1) ∧ 1 + 1 = 2 := ⟨by decide +kernel, rfl⟩
theorem d_LBText_clear_2 : decode mm_LBText_clear.2.1 2 = .ok (.putfield 22, 3) ∧ 2 + 3 = 5 := ⟨by decide +kernel, rfl⟩
theorem d_LBText_clear_5 : decode mm_LBText_clear.2.1 5 = .ok (.return_, 1) := by decide +kernel
theorem d_LBText_copyFrom_0 : decode mm_LBText_copyFrom.2.1 0 = .ok (.aload_n 1, 1) ∧ 0 + 1 = 1 := ⟨by decide +kernel, rfl⟩
theorem d_LBText_copyFrom_1 : decode mm_LBText_copyFrom.2.1 1 = .ok (.getfield 9, 3) ∧ 1 + 3 = 4 := ⟨by decide +kernel, rfl⟩
theorem d_LBText_copyFrom_4 : decode mm_LBText_copyFrom.2.1 4 = .ok (.iconst 0, 1) ∧ 4 + 1 = 5 := ⟨by decide +kernel, rfl⟩
theorem d_LBText_copyFrom_5 : decode mm_LBText_copyFrom.2.1 5 = .ok (.aload_n 0, 1) ∧ 5 + 1 = 6 := ⟨by decide +kernel, rfl⟩
theorem d_LBText_copyFrom_6 : decode mm_LBText_copyFrom.2.1 6 = .ok (.getfield 9, 3) ∧ 6 + 3 = 9 := ⟨by decide +kernel, rfl⟩
theorem d_LBText_copyFrom_9 : decode mm_LBText_copyFrom.2.1 9 = .ok (.iconst 0, 1) ∧ 9 + 1 = 10 := ⟨by decide +kernel, rfl⟩
theorem d_LBText_copyFrom_10 : decode mm_LBText_copyFrom.2.1 10 = .ok (.bipush 24, 2) ∧ 10 + 2 = 12 := ⟨by decide +kernel, rfl⟩
theorem d_LBText_copyFrom_12 : decode mm_LBText_copyFrom.2.1 12 = .ok (.invokestatic 26, 3) ∧ 12 + 3 = 15 := ⟨by decide +kernel, rfl⟩
theorem d_LBText_copyFrom_15 : decode mm_LBText_copyFrom.2.1 15 = .ok (.aload_n 1, 1) ∧ 15 + 1 = 16 := ⟨by decide +kernel, rfl⟩
theorem d_LBText_copyFrom_16 : decode mm_LBText_copyFrom.2.1 16 = .ok (.getfield 15, 3) ∧ 16 + 3 = 19 := ⟨by decide +kernel, rfl⟩
theorem d_LBText_copyFrom_19 : decode mm_LBText_copyFrom.2.1 19 = .ok (.iconst 0, 1) ∧ 19 + 1 = 20 := ⟨by decide +kernel, rfl⟩
theorem d_LBText_copyFrom_20 : decode mm_LBText_copyFrom.2.1 20 = .ok (.aload_n 0, 1) ∧ 20 + 1 = 21 := ⟨by decide +kernel, rfl⟩
theorem d_LBText_copyFrom_21 : decode mm_LBText_copyFrom.2.1 21 = .ok (.getfield 15, 3) ∧ 21 + 3 = 24 := ⟨by decide +kernel, rfl⟩
theorem d_LBText_copyFrom_24 : decode mm_LBText_copyFrom.2.1 24 = .ok (.iconst 0, 1) ∧ 24 + 1 = 25 := ⟨by decide +kernel, rfl⟩
theorem d_LBText_copyFrom_25 : decode mm_LBText_copyFrom.2.1 25 = .ok (.bipush 24, 2) ∧ 25 + 2 = 27 := ⟨by decide +kernel, rfl⟩
theorem d_LBText_copyFrom_27 : decode mm_LBText_copyFrom.2.1 27 = .ok (.invokestatic 26, 3) ∧ 27 + 3 = 30 := ⟨by decide +kernel, rfl⟩
theorem d_LBText_copyFrom_30 : decode mm_LBText_copyFrom.2.1 30 = .ok (.aload_n 0, 1) ∧ 30 + 1 = 31 := ⟨by decide +kernel, rfl⟩
theorem d_LBText_copyFrom_31 : decode mm_LBText_copyFrom.2.1 31 = .ok (.aload_n 1, 1) ∧ 31 + 1 = 32 := ⟨by decide +kernel, rfl⟩
theorem d_LBText_copyFrom_32 : decode mm_LBText_copyFrom.2.1 32 = .ok (.getfield 22, 3) ∧ 32 + 3 = 35 := ⟨by decide +kernel, rfl⟩
theorem d_LBText_copyFrom_35 : decode mm_LBText_copyFrom.2.1 35 = .ok (.putfield 22, 3) ∧ 35 + 3 = 38 := ⟨by decide +kernel, rfl⟩
theorem d_LBText_copyFrom_38 : decode mm_LBText_copyFrom.2.1 38 = .ok (.aload_n 0, 1) ∧ 38 + 1 = 39 := ⟨by decide +kernel, rfl⟩
theorem d_LBText_copyFrom_39 : decode mm_LBText_copyFrom.2.1 39 = .ok (.aload_n 1, 1) ∧ 39 + 1 = 40 := ⟨by decide +kernel, rfl⟩
theorem d_LBText_copyFrom_40 : decode mm_LBText_copyFrom.2.1 40 = .ok (.getfield 32, 3) ∧ 40 + 3 = 43 := ⟨by decide +kernel, rfl⟩
theorem d_LBText_copyFrom_43 : decode mm_LBText_copyFrom.2.1 43 = .ok (.putfield 32, 3) ∧ 43 + 3 = 46 := ⟨by decide +kernel, rfl⟩
theorem d_LBText_copyFrom_46 : decode mm_LBText_copyFrom.2.1 46 = .ok (.return_, 1) := by decide +kernel
theorem d_LBText_codeAt_0 : decode mm_LBText_codeAt.2.1 0 = .ok (.iload_n 1, 1) ∧ 0 + 1 = 1 := ⟨by decide +kernel, rfl⟩
theorem d_LBText_codeAt_1 : decode mm_LBText_codeAt.2.1 1 = .ok (.ifCond .lt 20, 3) ∧ 1 + 3 = 4 ∧ ((1 : Nat) : Int) + (20) = ((21 : Nat) : Int) := ⟨by decide +kernel, rfl, by decide⟩
theorem d_LBText_codeAt_4 : decode mm_LBText_codeAt.2.1 4 = .ok (.iload_n 1, 1) ∧ 4 + 1 = 5 := ⟨by decide +kernel, rfl⟩
theorem d_LBText_codeAt_5 : decode mm_LBText_codeAt.2.1 5 = .ok (.aload_n 0, 1) ∧ 5 + 1 = 6 := ⟨by decide +kernel, rfl⟩
theorem d_LBText_codeAt_6 : decode mm_LBText_codeAt.2.1 6 = .ok (.getfield 22, 3) ∧ 6 + 3 = 9 := ⟨by decide +kernel, rfl⟩
theorem d_LBText_codeAt_9 : decode mm_LBText_codeAt.2.1 9 = .ok (.if_icmp .ge 12, 3) ∧ 9 + 3 = 12 ∧ ((9 : Nat) : Int) + (12) = ((21 : Nat) : Int) := ⟨by decide +kernel, rfl, by decide⟩
theorem d_LBText_codeAt_12 : decode mm_LBText_codeAt.2.1 12 = .ok (.aload_n 0, 1) ∧ 12 + 1 = 13 := ⟨by decide +kernel, rfl⟩
theorem d_LBText_codeAt_13 : decode mm_LBText_codeAt.2.1 13 = .ok (.getfield 9, 3) ∧ 13 + 3 = 16 := ⟨by decide +kernel, rfl⟩
theorem d_LBText_codeAt_16 : decode mm_LBText_codeAt.2.1 16 = .ok (.iload_n 1, 1) ∧ 16 + 1 = 17 := ⟨by decide +kernel, rfl⟩
theorem d_LBText_codeAt_17 : decode mm_LBText_codeAt.2.1 17 = .ok (.iaload, 1) ∧ 17 + 1 = 18 := ⟨by decide +kernel, rfl⟩
theorem d_LBText_codeAt_18 : decode mm_LBText_codeAt.2.1 18 = .ok (.goto 4, 3) ∧ 18 + 3 = 21 ∧ ((18 : Nat) : Int) + (4) = ((22 : Nat) : Int) := ⟨by decide +kernel, rfl, by decide⟩
theorem d_LBText_codeAt_21 : decode mm_LBText_codeAt.2.1 21 = .ok (.iconst 0, 1) ∧ 21 + 1 = 22 := ⟨by decide +kernel, rfl⟩
theorem d_LBText_codeAt_22 : decode mm_LBText_codeAt.2.1 22 = .ok (.ireturn, 1) := by decide +kernel
theorem d_LBText_endOf_0 : decode mm_LBText_endOf.2.1 0 = .ok (.iload_n 1, 1) ∧ 0 + 1 = 1 := ⟨by decide +kernel, rfl⟩
theorem d_LBText_endOf_1 : decode mm_LBText_endOf.2.1 1 = .ok (.ifCond .lt 20, 3) ∧ 1 + 3 = 4 ∧ ((1 : Nat) : Int) + (20) = ((21 : Nat) : Int) := ⟨by decide +kernel, rfl, by decide⟩
theorem d_LBText_endOf_4 : decode mm_LBText_endOf.2.1 4 = .ok (.iload_n 1, 1) ∧ 4 + 1 = 5 := ⟨by decide +kernel, rfl⟩
theorem d_LBText_endOf_5 : decode mm_LBText_endOf.2.1 5 = .ok (.aload_n 0, 1) ∧ 5 + 1 = 6 := ⟨by decide +kernel, rfl⟩
theorem d_LBText_endOf_6 : decode mm_LBText_endOf.2.1 6 = .ok (.getfield 22, 3) ∧ 6 + 3 = 9 := ⟨by decide +kernel, rfl⟩
theorem d_LBText_endOf_9 : decode mm_LBText_endOf.2.1 9 = .ok (.if_icmp .ge 12, 3) ∧ 9 + 3 = 12 ∧ ((9 : Nat) : Int) + (12) = ((21 : Nat) : Int) := ⟨by decide +kernel, rfl, by decide⟩
theorem d_LBText_endOf_12 : decode mm_LBText_endOf.2.1 12 = .ok (.aload_n 0, 1) ∧ 12 + 1 = 13 := ⟨by decide +kernel, rfl⟩
theorem d_LBText_endOf_13 : decode mm_LBText_endOf.2.1 13 = .ok (.getfield 15, 3) ∧ 13 + 3 = 16 := ⟨by decide +kernel, rfl⟩
theorem d_LBText_endOf_16 : decode mm_LBText_endOf.2.1 16 = .ok (.iload_n 1, 1) ∧ 16 + 1 = 17 := ⟨by decide +kernel, rfl⟩
theorem d_LBText_endOf_17 : decode mm_LBText_endOf.2.1 17 = .ok (.iaload, 1) ∧ 17 + 1 = 18 := ⟨by decide +kernel, rfl⟩
theorem d_LBText_endOf_18 : decode mm_LBText_endOf.2.1 18 = .ok (.goto 7, 3) ∧ 18 + 3 = 21 ∧ ((18 : Nat) : Int) + (7) = ((25 : Nat) : Int) := ⟨by decide +kernel, rfl, by decide⟩
theorem d_LBText_endOf_21 : decode mm_LBText_endOf.2.1 21 = .ok (.aload_n 0, 1) ∧ 21 + 1 = 22 := ⟨by decide +kernel, rfl⟩
theorem d_LBText_endOf_22 : decode mm_LBText_endOf.2.1 22 = .ok (.getfield 22, 3) ∧ 22 + 3 = 25 := ⟨by decide +kernel, rfl⟩
theorem d_LBText_endOf_25 : decode mm_LBText_endOf.2.1 25 = .ok (.ireturn, 1) := by decide +kernel
theorem d_LBText_read_0 : decode mm_LBText_read.2.1 0 = .ok (.aload_n 0, 1) ∧ 0 + 1 = 1 := ⟨by decide +kernel, rfl⟩
theorem d_LBText_read_1 : decode mm_LBText_read.2.1 1 = .ok (.iconst 0, 1) ∧ 1 + 1 = 2 := ⟨by decide +kernel, rfl⟩
theorem d_LBText_read_2 : decode mm_LBText_read.2.1 2 = .ok (.putfield 32, 3) ∧ 2 + 3 = 5 := ⟨by decide +kernel, rfl⟩
theorem d_LBText_read_5 : decode mm_LBText_read.2.1 5 = .ok (.aload_n 0, 1) ∧ 5 + 1 = 6 := ⟨by decide +kernel, rfl⟩
theorem d_LBText_read_6 : decode mm_LBText_read.2.1 6 = .ok (.iconst 0, 1) ∧ 6 + 1 = 7 := ⟨by decide +kernel, rfl⟩
theorem d_LBText_read_7 : decode mm_LBText_read.2.1 7 = .ok (.iconst 1, 1) ∧ 7 + 1 = 8 := ⟨by decide +kernel, rfl⟩
theorem d_LBText_read_8 : decode mm_LBText_read.2.1 8 = .ok (.invokevirtual 35, 3) ∧ 8 + 3 = 11 := ⟨by decide +kernel, rfl⟩
theorem d_LBText_read_11 : decode mm_LBText_read.2.1 11 = .ok (.istore_n 1, 1) ∧ 11 + 1 = 12 := ⟨by decide +kernel, rfl⟩
theorem d_LBText_read_12 : decode mm_LBText_read.2.1 12 = .ok (.iload_n 1, 1) ∧ 12 + 1 = 13 := ⟨by decide +kernel, rfl⟩
theorem d_LBText_read_13 : decode mm_LBText_read.2.1 13 = .ok (.iconst (-1), 1) ∧ 13 + 1 = 14 := ⟨by decide +kernel, rfl⟩
theorem d_LBText_read_14 : decode mm_LBText_read.2.1 14 = .ok (.if_icmp .ne 5, 3) ∧ 14 + 3 = 17 ∧ ((14 : Nat) : Int) + (5) = ((19 : Nat) : Int) := ⟨by decide +kernel, rfl, by decide⟩
theorem d_LBText_read_17 : decode mm_LBText_read.2.1 17 = .ok (.iconst 0, 1) ∧ 17 + 1 = 18 := ⟨by decide +kernel, rfl⟩
theorem d_LBText_read_18 : decode mm_LBText_read.2.1 18 = .ok (.ireturn, 1) := by decide +kernel
theorem d_LBText_read_19 : decode mm_LBText_read.2.1 19 = .ok (.iload_n 1, 1) ∧ 19 + 1 = 20 := ⟨by decide +kernel, rfl⟩
theorem d_LBText_read_20 : decode mm_LBText_read.2.1 20 = .ok (.aload_n 0, 1) ∧ 20 + 1 = 21 := ⟨by decide +kernel, rfl⟩
theorem d_LBText_read_21 : decode mm_LBText_read.2.1 21 = .ok (.getfield 22, 3) ∧ 21 + 3 = 24 := ⟨by decide +kernel, rfl⟩
theorem d_LBText_read_24 : decode mm_LBText_read.2.1 24 = .ok (.if_icmp .ge 10, 3) ∧ 24 + 3 = 27 ∧ ((24 : Nat) : Int) + (10) = ((34 : Nat) : Int) := ⟨by decide +kernel, rfl, by decide⟩
theorem d_LBText_read_27 : decode mm_LBText_read.2.1 27 = .ok (.aload_n 0, 1) ∧ 27 + 1 = 28 := ⟨by decide +kernel, rfl⟩
theorem d_LBText_read_28 : decode mm_LBText_read.2.1 28 = .ok (.iload_n 1, 1) ∧ 28 + 1 = 29 := ⟨by decide +kernel, rfl⟩
theorem d_LBText_read_29 : decode mm_LBText_read.2.1 29 = .ok (.putfield 39, 3) ∧ 29 + 3 = 32 := ⟨by decide +kernel, rfl⟩
theorem d_LBText_read_32 : decode mm_LBText_read.2.1 32 = .ok (.iconst 0, 1) ∧ 32 + 1 = 33 := ⟨by decide +kernel, rfl⟩
theorem d_LBText_read_33 : decode mm_LBText_read.2.1 33 = .ok (.ireturn, 1) := by decide +kernel
theorem d_LBText_read_34 : decode mm_LBText_read.2.1 34 = .ok (.iconst 1, 1) ∧ 34 + 1 = 35 := ⟨by decide +kernel, rfl⟩
theorem d_LBText_read_35 : decode mm_LBText_read.2.1 35 = .ok (.ireturn, 1) := by decide +kernel
theorem d_LBText_readExpression_0 : decode mm_LBText_readExpression.2.1 0 = .ok (.iload_n 1, 1) ∧ 0 + 1 = 1 := ⟨by decide +kernel, rfl⟩
theorem d_LBText_readExpression_1 : decode mm_LBText_readExpression.2.1 1 = .ok (.aload_n 0, 1) ∧ 1 + 1 = 2 := ⟨by decide +kernel, rfl⟩
theorem d_LBText_readExpression_2 : decode mm_LBText_readExpression.2.1 2 = .ok (.getfield 22, 3) ∧ 2 + 3 = 5 := ⟨by decide +kernel, rfl⟩
theorem d_LBText_readExpression_5 : decode mm_LBText_readExpression.2.1 5 = .ok (.if_icmp .ge 9, 3) ∧ 5 + 3 = 8 ∧ ((5 : Nat) : Int) + (9) = ((14 : Nat) : Int) := ⟨by decide +kernel, rfl, by decide⟩
theorem d_LBText_readExpression_8 : decode mm_LBText_readExpression.2.1 8 = .ok (.iload_n 2, 1) ∧ 8 + 1 = 9 := ⟨by decide +kernel, rfl⟩
theorem d_LBText_readExpression_9 : decode mm_LBText_readExpression.2.1 9 = .ok (.bipush 8, 2) ∧ 9 + 2 = 11 := ⟨by decide +kernel, rfl⟩
theorem d_LBText_readExpression_11 : decode mm_LBText_readExpression.2.1 11 = .ok (.if_icmp .le 9, 3) ∧ 11 + 3 = 14 ∧ ((11 : Nat) : Int) + (9) = ((20 : Nat) : Int) := ⟨by decide +kernel, rfl, by decide⟩
theorem d_LBText_readExpression_14 : decode mm_LBText_readExpression.2.1 14 = .ok (.aload_n 0, 1) ∧ 14 + 1 = 15 := ⟨by decide +kernel, rfl⟩
theorem d_LBText_readExpression_15 : decode mm_LBText_readExpression.2.1 15 = .ok (.iload_n 1, 1) ∧ 15 + 1 = 16 := ⟨by decide +kernel, rfl⟩
theorem d_LBText_readExpression_16 : decode mm_LBText_readExpression.2.1 16 = .ok (.invokevirtual 42, 3) ∧ 16 + 3 = 19 := ⟨by decide +kernel, rfl⟩
theorem d_LBText_readExpression_19 : decode mm_LBText_readExpression.2.1 19 = .ok (.ireturn, 1) := by decide +kernel
theorem d_LBText_readExpression_20 : decode mm_LBText_readExpression.2.1 20 = .ok (.aload_n 0, 1) ∧ 20 + 1 = 21 := ⟨by decide +kernel, rfl⟩
theorem d_LBText_readExpression_21 : decode mm_LBText_readExpression.2.1 21 = .ok (.iload_n 1, 1) ∧ 21 + 1 = 22 := ⟨by decide +kernel, rfl⟩
theorem d_LBText_readExpression_22 : decode mm_LBText_readExpression.2.1 22 = .ok (.iload_n 2, 1) ∧ 22 + 1 = 23 := ⟨by decide +kernel, rfl⟩
theorem d_LBText_readExpression_23 : decode mm_LBText_readExpression.2.1 23 = .ok (.invokevirtual 46, 3) ∧ 23 + 3 = 26 := ⟨by decide +kernel, rfl⟩
theorem d_LBText_readExpression_26 : decode mm_LBText_readExpression.2.1 26 = .ok (.istore_n 3, 1) ∧ 26 + 1 = 27 := ⟨by decide +kernel, rfl⟩
theorem d_LBText_readExpression_27 : decode mm_LBText_readExpression.2.1 27 = .ok (.aload_n 0, 1) ∧ 27 + 1 = 28 := ⟨by decide +kernel, rfl⟩
theorem d_LBText_readExpression_28 : decode mm_LBText_readExpression.2.1 28 = .ok (.getfield 15, 3) ∧ 28 + 3 = 31 := ⟨by decide +kernel, rfl⟩
theorem d_LBText_readExpression_31 : decode mm_LBText_readExpression.2.1 31 = .ok (.iload_n 1, 1) ∧ 31 + 1 = 32 := ⟨by decide +kernel, rfl⟩
theorem d_LBText_readExpression_32 : decode mm_LBText_readExpression.2.1 32 = .ok (.iload_n 3, 1) ∧ 32 + 1 = 33 := ⟨by decide +kernel, rfl⟩
theorem d_LBText_readExpression_33 : decode mm_LBText_readExpression.2.1 33 = .ok (.iastore, 1) ∧ 33 + 1 = 34 := ⟨by decide +kernel, rfl⟩
theorem d_LBText_readExpression_34 : decode mm_LBText_readExpression.2.1 34 = .ok (.aload_n 0, 1) ∧ 34 + 1 = 35 := ⟨by decide +kernel, rfl⟩
theorem d_LBText_readExpression_35 : decode mm_LBText_readExpression.2.1 35 = .ok (.aload_n 0, 1) ∧ 35 + 1 = 36 := ⟨by decide +kernel, rfl⟩
theorem d_LBText_readExpression_36 : decode mm_LBText_readExpression.2.1 36 = .ok (.getfield 32, 3) ∧ 36 + 3 = 39 := ⟨by decide +kernel, rfl⟩
theorem d_LBText_readExpression_39 : decode mm_LBText_readExpression.2.1 39 = .ok (.iload_n 2, 1) ∧ 39 + 1 = 40 := ⟨by decide +kernel, rfl⟩
theorem d_LBText_readExpression_40 : decode mm_LBText_readExpression.2.1 40 = .ok (.invokestatic 49, 3) ∧ 40 + 3 = 43 := ⟨by decide +kernel, rfl⟩
theorem d_LBText_readExpression_43 : decode mm_LBText_readExpression.2.1 43 = .ok (.putfield 32, 3) ∧ 43 + 3 = 46 := ⟨by decide +kernel, rfl⟩
theorem d_LBText_readExpression_46 : decode mm_LBText_readExpression.2.1 46 = .ok (.iload_n 3, 1) ∧ 46 + 1 = 47 := ⟨by decide +kernel, rfl⟩
theorem d_LBText_readExpression_47 : decode mm_LBText_readExpression.2.1 47 = .ok (.ireturn, 1) := by decide +kernel
theorem d_LBText_readKind_0 : decode mm_LBText_readKind.2.1 0 = .ok (.aload_n 0, 1) ∧ 0 + 1 = 1 := ⟨by decide +kernel, rfl⟩
theorem d_LBText_readKind_1 : decode mm_LBText_readKind.2.1 1 = .ok (.iload_n 1, 1) ∧ 1 + 1 = 2 := ⟨by decide +kernel, rfl⟩
theorem d_LBText_readKind_2 : decode mm_LBText_readKind.2.1 2 = .ok (.invokevirtual 54, 3) ∧ 2 + 3 = 5 := ⟨by decide +kernel, rfl⟩
theorem d_LBText_readKind_5 : decode mm_LBText_readKind.2.1 5 = .ok (.istore_n 3, 1) ∧ 5 + 1 = 6 := ⟨by decide +kernel, rfl⟩
theorem d_LBText_readKind_6 : decode mm_LBText_readKind.2.1 6 = .ok (.iload_n 3, 1) ∧ 6 + 1 = 7 := ⟨by decide +kernel, rfl⟩
theorem d_LBText_readKind_7 : decode mm_LBText_readKind.2.1 7 = .ok (.invokestatic 57, 3) ∧ 7 + 3 = 10 := ⟨by decide +kernel, rfl⟩
theorem d_LBText_readKind_10 : decode mm_LBText_readKind.2.1 10 = .ok (.ifCond .ne 10, 3) ∧ 10 + 3 = 13 ∧ ((10 : Nat) : Int) + (10) = ((20 : Nat) : Int) := ⟨by decide +kernel, rfl, by decide⟩
theorem d_LBText_readKind_13 : decode mm_LBText_readKind.2.1 13 = .ok (.iload_n 3, 1) ∧ 13 + 1 = 14 := ⟨by decide +kernel, rfl⟩
theorem d_LBText_readKind_14 : decode mm_LBText_readKind.2.1 14 = .ok (.invokestatic 60, 3) ∧ 14 + 3 = 17 := ⟨by decide +kernel, rfl⟩
theorem d_LBText_readKind_17 : decode mm_LBText_readKind.2.1 17 = .ok (.ifCond .eq 7, 3) ∧ 17 + 3 = 20 ∧ ((17 : Nat) : Int) + (7) = ((24 : Nat) : Int) := ⟨by decide +kernel, rfl, by decide⟩
theorem d_LBText_readKind_20 : decode mm_LBText_readKind.2.1 20 = .ok (.iload_n 1, 1) ∧ 20 + 1 = 21 := ⟨by decide +kernel, rfl⟩
theorem d_LBText_readKind_21 : decode mm_LBText_readKind.2.1 21 = .ok (.iconst 1, 1) ∧ 21 + 1 = 22 := ⟨by decide +kernel, rfl⟩
theorem d_LBText_readKind_22 : decode mm_LBText_readKind.2.1 22 = .ok (.iadd, 1) ∧ 22 + 1 = 23 := ⟨by decide +kernel, rfl⟩
theorem d_LBText_readKind_23 : decode mm_LBText_readKind.2.1 23 = .ok (.ireturn, 1) := by decide +kernel
theorem d_LBText_readKind_24 : decode mm_LBText_readKind.2.1 24 = .ok (.iload_n 3, 1) ∧ 24 + 1 = 25 := ⟨by decide +kernel, rfl⟩
theorem d_LBText_readKind_25 : decode mm_LBText_readKind.2.1 25 = .ok (.bipush 68, 2) ∧ 25 + 2 = 27 := ⟨by decide +kernel, rfl⟩
theorem d_LBText_readKind_27 : decode mm_LBText_readKind.2.1 27 = .ok (.if_icmp .ne 10, 3) ∧ 27 + 3 = 30 ∧ ((27 : Nat) : Int) + (10) = ((37 : Nat) : Int) := ⟨by decide +kernel, rfl, by decide⟩
theorem d_LBText_readKind_30 : decode mm_LBText_readKind.2.1 30 = .ok (.aload_n 0, 1) ∧ 30 + 1 = 31 := ⟨by decide +kernel, rfl⟩
theorem d_LBText_readKind_31 : decode mm_LBText_readKind.2.1 31 = .ok (.iload_n 1, 1) ∧ 31 + 1 = 32 := ⟨by decide +kernel, rfl⟩
theorem d_LBText_readKind_32 : decode mm_LBText_readKind.2.1 32 = .ok (.iload_n 2, 1) ∧ 32 + 1 = 33 := ⟨by decide +kernel, rfl⟩
theorem d_LBText_readKind_33 : decode mm_LBText_readKind.2.1 33 = .ok (.invokevirtual 63, 3) ∧ 33 + 3 = 36 := ⟨by decide +kernel, rfl⟩
theorem d_LBText_readKind_36 : decode mm_LBText_readKind.2.1 36 = .ok (.ireturn, 1) := by decide +kernel
theorem d_LBText_readKind_37 : decode mm_LBText_readKind.2.1 37 = .ok (.iload_n 3, 1) ∧ 37 + 1 = 38 := ⟨by decide +kernel, rfl⟩
theorem d_LBText_readKind_38 : decode mm_LBText_readKind.2.1 38 = .ok (.invokestatic 66, 3) ∧ 38 + 3 = 41 := ⟨by decide +kernel, rfl⟩
theorem d_LBText_readKind_41 : decode mm_LBText_readKind.2.1 41 = .ok (.istore 4, 2) ∧ 41 + 2 = 43 := ⟨by decide +kernel, rfl⟩
theorem d_LBText_readKind_43 : decode mm_LBText_readKind.2.1 43 = .ok (.iload 4, 2) ∧ 43 + 2 = 45 := ⟨by decide +kernel, rfl⟩
theorem d_LBText_readKind_45 : decode mm_LBText_readKind.2.1 45 = .ok (.ifCond .eq 9, 3) ∧ 45 + 3 = 48 ∧ ((45 : Nat) : Int) + (9) = ((54 : Nat) : Int) := ⟨by decide +kernel, rfl, by decide⟩
theorem d_LBText_readKind_48 : decode mm_LBText_readKind.2.1 48 = .ok (.iload_n 2, 1) ∧ 48 + 1 = 49 := ⟨by decide +kernel, rfl⟩
theorem d_LBText_readKind_49 : decode mm_LBText_readKind.2.1 49 = .ok (.bipush 8, 2) ∧ 49 + 2 = 51 := ⟨by decide +kernel, rfl⟩
theorem d_LBText_readKind_51 : decode mm_LBText_readKind.2.1 51 = .ok (.if_icmp .lt 9, 3) ∧ 51 + 3 = 54 ∧ ((51 : Nat) : Int) + (9) = ((60 : Nat) : Int) := ⟨by decide +kernel, rfl, by decide⟩
theorem d_LBText_readKind_54 : decode mm_LBText_readKind.2.1 54 = .ok (.aload_n 0, 1) ∧ 54 + 1 = 55 := ⟨by decide +kernel, rfl⟩
theorem d_LBText_readKind_55 : decode mm_LBText_readKind.2.1 55 = .ok (.iload_n 1, 1) ∧ 55 + 1 = 56 := ⟨by decide +kernel, rfl⟩
theorem d_LBText_readKind_56 : decode mm_LBText_readKind.2.1 56 = .ok (.invokevirtual 42, 3) ∧ 56 + 3 = 59 := ⟨by decide +kernel, rfl⟩
theorem d_LBText_readKind_59 : decode mm_LBText_readKind.2.1 59 = .ok (.ireturn, 1) := by decide +kernel
theorem d_LBText_readKind_60 : decode mm_LBText_readKind.2.1 60 = .ok (.iload_n 1, 1) ∧ 60 + 1 = 61 := ⟨by decide +kernel, rfl⟩
theorem d_LBText_readKind_61 : decode mm_LBText_readKind.2.1 61 = .ok (.iconst 1, 1) ∧ 61 + 1 = 62 := ⟨by decide +kernel, rfl⟩
theorem d_LBText_readKind_62 : decode mm_LBText_readKind.2.1 62 = .ok (.iadd, 1) ∧ 62 + 1 = 63 := ⟨by decide +kernel, rfl⟩
theorem d_LBText_readKind_63 : decode mm_LBText_readKind.2.1 63 = .ok (.istore 5, 2) ∧ 63 + 2 = 65 := ⟨by decide +kernel, rfl⟩
theorem d_LBText_readKind_65 : decode mm_LBText_readKind.2.1 65 = .ok (.iconst 0, 1) ∧ 65 + 1 = 66 := ⟨by decide +kernel, rfl⟩
theorem d_LBText_readKind_66 : decode mm_LBText_readKind.2.1 66 = .ok (.istore 6, 2) ∧ 66 + 2 = 68 := ⟨by decide +kernel, rfl⟩
theorem d_LBText_readKind_68 : decode mm_LBText_readKind.2.1 68 = .ok (.iload 6, 2) ∧ 68 + 2 = 70 := ⟨by decide +kernel, rfl⟩
theorem d_LBText_readKind_70 : decode mm_LBText_readKind.2.1 70 = .ok (.iload 4, 2) ∧ 70 + 2 = 72 := ⟨by decide +kernel, rfl⟩
theorem d_LBText_readKind_72 : decode mm_LBText_readKind.2.1 72 = .ok (.if_icmp .ge 26, 3) ∧ 72 + 3 = 75 ∧ ((72 : Nat) : Int) + (26) = ((98 : Nat) : Int) := ⟨by decide +kernel, rfl, by decide⟩
theorem d_LBText_readKind_75 : decode mm_LBText_readKind.2.1 75 = .ok (.iload 5, 2) ∧ 75 + 2 = 77 := ⟨by decide +kernel, rfl⟩
theorem d_LBText_readKind_77 : decode mm_LBText_readKind.2.1 77 = .ok (.iconst (-1), 1) ∧ 77 + 1 = 78 := ⟨by decide +kernel, rfl⟩
theorem d_LBText_readKind_78 : decode mm_LBText_readKind.2.1 78 = .ok (.if_icmp .eq 20, 3) ∧ 78 + 3 = 81 ∧ ((78 : Nat) : Int) + (20) = ((98 : Nat) : Int) := ⟨by decide +kernel, rfl, by decide⟩
theorem d_LBText_readKind_81 : decode mm_LBText_readKind.2.1 81 = .ok (.aload_n 0, 1) ∧ 81 + 1 = 82 := ⟨by decide +kernel, rfl⟩
theorem d_LBText_readKind_82 : decode mm_LBText_readKind.2.1 82 = .ok (.iload 5, 2) ∧ 82 + 2 = 84 := ⟨by decide +kernel, rfl⟩
theorem d_LBText_readKind_84 : decode mm_LBText_readKind.2.1 84 = .ok (.iload_n 2, 1) ∧ 84 + 1 = 85 := ⟨by decide +kernel, rfl⟩
theorem d_LBText_readKind_85 : decode mm_LBText_readKind.2.1 85 = .ok (.iconst 1, 1) ∧ 85 + 1 = 86 := ⟨by decide +kernel, rfl⟩
theorem d_LBText_readKind_86 : decode mm_LBText_readKind.2.1 86 = .ok (.iadd, 1) ∧ 86 + 1 = 87 := ⟨by decide +kernel, rfl⟩
theorem d_LBText_readKind_87 : decode mm_LBText_readKind.2.1 87 = .ok (.invokevirtual 35, 3) ∧ 87 + 3 = 90 := ⟨by decide +kernel, rfl⟩
theorem d_LBText_readKind_90 : decode mm_LBText_readKind.2.1 90 = .ok (.istore 5, 2) ∧ 90 + 2 = 92 := ⟨by decide +kernel, rfl⟩
theorem d_LBText_readKind_92 : decode mm_LBText_readKind.2.1 92 = .ok (.iinc 6 1, 3) ∧ 92 + 3 = 95 := ⟨by decide +kernel, rfl⟩
theorem d_LBText_readKind_95 : decode mm_LBText_readKind.2.1 95 = .ok (.goto (-27), 3) ∧ 95 + 3 = 98 ∧ ((95 : Nat) : Int) + (-27) = ((68 : Nat) : Int) := ⟨by decide +kernel, rfl, by decide⟩
theorem d_LBText_readKind_98 : decode mm_LBText_readKind.2.1 98 = .ok (.iload 5, 2) ∧ 98 + 2 = 100 := ⟨by decide +kernel, rfl⟩
theorem d_LBText_readKind_100 : decode mm_LBText_readKind.2.1 100 = .ok (.ireturn, 1) := by decide +kernel
theorem d_LBText_readPlan_0 : decode mm_LBText_readPlan.2.1 0 = .ok (.aload_n 0, 1) ∧ 0 + 1 = 1 := ⟨by decide +kernel, rfl⟩
theorem d_LBText_readPlan_1 : decode mm_LBText_readPlan.2.1 1 = .ok (.iload_n 1, 1) ∧ 1 + 1 = 2 := ⟨by decide +kernel, rfl⟩
theorem d_LBText_readPlan_2 : decode mm_LBText_readPlan.2.1 2 = .ok (.iconst 1, 1) ∧ 2 + 1 = 3 := ⟨by decide +kernel, rfl⟩
theorem d_LBText_readPlan_3 : decode mm_LBText_readPlan.2.1 3 = .ok (.iadd, 1) ∧ 3 + 1 = 4 := ⟨by decide +kernel, rfl⟩
theorem d_LBText_readPlan_4 : decode mm_LBText_readPlan.2.1 4 = .ok (.invokevirtual 54, 3) ∧ 4 + 3 = 7 := ⟨by decide +kernel, rfl⟩
theorem d_LBText_readPlan_7 : decode mm_LBText_readPlan.2.1 7 = .ok (.invokestatic 57, 3) ∧ 7 + 3 = 10 := ⟨by decide +kernel, rfl⟩
theorem d_LBText_readPlan_10 : decode mm_LBText_readPlan.2.1 10 = .ok (.ifCond .ne 11, 3) ∧ 10 + 3 = 13 ∧ ((10 : Nat) : Int) + (11) = ((21 : Nat) : Int) := ⟨by decide +kernel, rfl, by decide⟩
theorem d_LBText_readPlan_13 : decode mm_LBText_readPlan.2.1 13 = .ok (.aload_n 0, 1) ∧ 13 + 1 = 14 := ⟨by decide +kernel, rfl⟩
theorem d_LBText_readPlan_14 : decode mm_LBText_readPlan.2.1 14 = .ok (.iload_n 1, 1) ∧ 14 + 1 = 15 := ⟨by decide +kernel, rfl⟩
theorem d_LBText_readPlan_15 : decode mm_LBText_readPlan.2.1 15 = .ok (.iconst 1, 1) ∧ 15 + 1 = 16 := ⟨by decide +kernel, rfl⟩
theorem d_LBText_readPlan_16 : decode mm_LBText_readPlan.2.1 16 = .ok (.iadd, 1) ∧ 16 + 1 = 17 := ⟨by decide +kernel, rfl⟩
theorem d_LBText_readPlan_17 : decode mm_LBText_readPlan.2.1 17 = .ok (.invokevirtual 42, 3) ∧ 17 + 3 = 20 := ⟨by decide +kernel, rfl⟩
theorem d_LBText_readPlan_20 : decode mm_LBText_readPlan.2.1 20 = .ok (.ireturn, 1) := by decide +kernel
theorem d_LBText_readPlan_21 : decode mm_LBText_readPlan.2.1 21 = .ok (.aload_n 0, 1) ∧ 21 + 1 = 22 := ⟨by decide +kernel, rfl⟩
theorem d_LBText_readPlan_22 : decode mm_LBText_readPlan.2.1 22 = .ok (.iload_n 1, 1) ∧ 22 + 1 = 23 := ⟨by decide +kernel, rfl⟩
theorem d_LBText_readPlan_23 : decode mm_LBText_readPlan.2.1 23 = .ok (.iconst 2, 1) ∧ 23 + 1 = 24 := ⟨by decide +kernel, rfl⟩
theorem d_LBText_readPlan_24 : decode mm_LBText_readPlan.2.1 24 = .ok (.iadd, 1) ∧ 24 + 1 = 25 := ⟨by decide +kernel, rfl⟩
theorem d_LBText_readPlan_25 : decode mm_LBText_readPlan.2.1 25 = .ok (.invokevirtual 54, 3) ∧ 25 + 3 = 28 := ⟨by decide +kernel, rfl⟩
theorem d_LBText_readPlan_28 : decode mm_LBText_readPlan.2.1 28 = .ok (.bipush 40, 2) ∧ 28 + 2 = 30 := ⟨by decide +kernel, rfl⟩
theorem d_LBText_readPlan_30 : decode mm_LBText_readPlan.2.1 30 = .ok (.if_icmp .eq 11, 3) ∧ 30 + 3 = 33 ∧ ((30 : Nat) : Int) + (11) = ((41 : Nat) : Int) := ⟨by decide +kernel, rfl, by decide⟩
theorem d_LBText_readPlan_33 : decode mm_LBText_readPlan.2.1 33 = .ok (.aload_n 0, 1) ∧ 33 + 1 = 34 := ⟨by decide +kernel, rfl⟩
theorem d_LBText_readPlan_34 : decode mm_LBText_readPlan.2.1 34 = .ok (.iload_n 1, 1) ∧ 34 + 1 = 35 := ⟨by decide +kernel, rfl⟩
theorem d_LBText_readPlan_35 : decode mm_LBText_readPlan.2.1 35 = .ok (.iconst 2, 1) ∧ 35 + 1 = 36 := ⟨by decide +kernel, rfl⟩
theorem d_LBText_readPlan_36 : decode mm_LBText_readPlan.2.1 36 = .ok (.iadd, 1) ∧ 36 + 1 = 37 := ⟨by decide +kernel, rfl⟩
theorem d_LBText_readPlan_37 : decode mm_LBText_readPlan.2.1 37 = .ok (.invokevirtual 42, 3) ∧ 37 + 3 = 40 := ⟨by decide +kernel, rfl⟩
theorem d_LBText_readPlan_40 : decode mm_LBText_readPlan.2.1 40 = .ok (.ireturn, 1) := by decide +kernel
theorem d_LBText_readPlan_41 : decode mm_LBText_readPlan.2.1 41 = .ok (.iload_n 1, 1) ∧ 41 + 1 = 42 := ⟨by decide +kernel, rfl⟩
theorem d_LBText_readPlan_42 : decode mm_LBText_readPlan.2.1 42 = .ok (.iconst 3, 1) ∧ 42 + 1 = 43 := ⟨by decide +kernel, rfl⟩
theorem d_LBText_readPlan_43 : decode mm_LBText_readPlan.2.1 43 = .ok (.iadd, 1) ∧ 43 + 1 = 44 := ⟨by decide +kernel, rfl⟩
theorem d_LBText_readPlan_44 : decode mm_LBText_readPlan.2.1 44 = .ok (.istore_n 3, 1) ∧ 44 + 1 = 45 := ⟨by decide +kernel, rfl⟩
theorem d_LBText_readPlan_45 : decode mm_LBText_readPlan.2.1 45 = .ok (.iconst 0, 1) ∧ 45 + 1 = 46 := ⟨by decide +kernel, rfl⟩
theorem d_LBText_readPlan_46 : decode mm_LBText_readPlan.2.1 46 = .ok (.istore 4, 2) ∧ 46 + 2 = 48 := ⟨by decide +kernel, rfl⟩
theorem d_LBText_readPlan_48 : decode mm_LBText_readPlan.2.1 48 = .ok (.iload 4, 2) ∧ 48 + 2 = 50 := ⟨by decide +kernel, rfl⟩
theorem d_LBText_readPlan_50 : decode mm_LBText_readPlan.2.1 50 = .ok (.iconst 4, 1) ∧ 50 + 1 = 51 := ⟨by decide +kernel, rfl⟩
theorem d_LBText_readPlan_51 : decode mm_LBText_readPlan.2.1 51 = .ok (.if_icmp .ge 35, 3) ∧ 51 + 3 = 54 ∧ ((51 : Nat) : Int) + (35) = ((86 : Nat) : Int) := ⟨by decide +kernel, rfl, by decide⟩
theorem d_LBText_readPlan_54 : decode mm_LBText_readPlan.2.1 54 = .ok (.aload_n 0, 1) ∧ 54 + 1 = 55 := ⟨by decide +kernel, rfl⟩
theorem d_LBText_readPlan_55 : decode mm_LBText_readPlan.2.1 55 = .ok (.iload_n 3, 1) ∧ 55 + 1 = 56 := ⟨by decide +kernel, rfl⟩
theorem d_LBText_readPlan_56 : decode mm_LBText_readPlan.2.1 56 = .ok (.invokevirtual 54, 3) ∧ 56 + 3 = 59 := ⟨by decide +kernel, rfl⟩
theorem d_LBText_readPlan_59 : decode mm_LBText_readPlan.2.1 59 = .ok (.bipush 41, 2) ∧ 59 + 2 = 61 := ⟨by decide +kernel, rfl⟩
theorem d_LBText_readPlan_61 : decode mm_LBText_readPlan.2.1 61 = .ok (.if_icmp .eq 25, 3) ∧ 61 + 3 = 64 ∧ ((61 : Nat) : Int) + (25) = ((86 : Nat) : Int) := ⟨by decide +kernel, rfl, by decide⟩
theorem d_LBText_readPlan_64 : decode mm_LBText_readPlan.2.1 64 = .ok (.aload_n 0, 1) ∧ 64 + 1 = 65 := ⟨by decide +kernel, rfl⟩
theorem d_LBText_readPlan_65 : decode mm_LBText_readPlan.2.1 65 = .ok (.iload_n 3, 1) ∧ 65 + 1 = 66 := ⟨by decide +kernel, rfl⟩
theorem d_LBText_readPlan_66 : decode mm_LBText_readPlan.2.1 66 = .ok (.iload_n 2, 1) ∧ 66 + 1 = 67 := ⟨by decide +kernel, rfl⟩
theorem d_LBText_readPlan_67 : decode mm_LBText_readPlan.2.1 67 = .ok (.iconst 1, 1) ∧ 67 + 1 = 68 := ⟨by decide +kernel, rfl⟩
theorem d_LBText_readPlan_68 : decode mm_LBText_readPlan.2.1 68 = .ok (.iadd, 1) ∧ 68 + 1 = 69 := ⟨by decide +kernel, rfl⟩
theorem d_LBText_readPlan_69 : decode mm_LBText_readPlan.2.1 69 = .ok (.invokevirtual 35, 3) ∧ 69 + 3 = 72 := ⟨by decide +kernel, rfl⟩
theorem d_LBText_readPlan_72 : decode mm_LBText_readPlan.2.1 72 = .ok (.istore_n 3, 1) ∧ 72 + 1 = 73 := ⟨by decide +kernel, rfl⟩
theorem d_LBText_readPlan_73 : decode mm_LBText_readPlan.2.1 73 = .ok (.iload_n 3, 1) ∧ 73 + 1 = 74 := ⟨by decide +kernel, rfl⟩
theorem d_LBText_readPlan_74 : decode mm_LBText_readPlan.2.1 74 = .ok (.iconst (-1), 1) ∧ 74 + 1 = 75 := ⟨by decide +kernel, rfl⟩
theorem d_LBText_readPlan_75 : decode mm_LBText_readPlan.2.1 75 = .ok (.if_icmp .ne 5, 3) ∧ 75 + 3 = 78 ∧ ((75 : Nat) : Int) + (5) = ((80 : Nat) : Int) := ⟨by decide +kernel, rfl, by decide⟩
theorem d_LBText_readPlan_78 : decode mm_LBText_readPlan.2.1 78 = .ok (.iconst (-1), 1) ∧ 78 + 1 = 79 := ⟨by decide +kernel, rfl⟩
theorem d_LBText_readPlan_79 : decode mm_LBText_readPlan.2.1 79 = .ok (.ireturn, 1) := by decide +kernel
theorem d_LBText_readPlan_80 : decode mm_LBText_readPlan.2.1 80 = .ok (.iinc 4 1, 3) ∧ 80 + 3 = 83 := ⟨by decide +kernel, rfl⟩
theorem d_LBText_readPlan_83 : decode mm_LBText_readPlan.2.1 83 = .ok (.goto (-35), 3) ∧ 83 + 3 = 86 ∧ ((83 : Nat) : Int) + (-35) = ((48 : Nat) : Int) := ⟨by decide +kernel, rfl, by decide⟩
theorem d_LBText_readPlan_86 : decode mm_LBText_readPlan.2.1 86 = .ok (.aload_n 0, 1) ∧ 86 + 1 = 87 := ⟨by decide +kernel, rfl⟩
theorem d_LBText_readPlan_87 : decode mm_LBText_readPlan.2.1 87 = .ok (.iload_n 3, 1) ∧ 87 + 1 = 88 := ⟨by decide +kernel, rfl⟩
theorem d_LBText_readPlan_88 : decode mm_LBText_readPlan.2.1 88 = .ok (.invokevirtual 54, 3) ∧ 88 + 3 = 91 := ⟨by decide +kernel, rfl⟩
theorem d_LBText_readPlan_91 : decode mm_LBText_readPlan.2.1 91 = .ok (.bipush 41, 2) ∧ 91 + 2 = 93 := ⟨by decide +kernel, rfl⟩
theorem d_LBText_readPlan_93 : decode mm_LBText_readPlan.2.1 93 = .ok (.if_icmp .ne 9, 3) ∧ 93 + 3 = 96 ∧ ((93 : Nat) : Int) + (9) = ((102 : Nat) : Int) := ⟨by decide +kernel, rfl, by decide⟩
theorem d_LBText_readPlan_96 : decode mm_LBText_readPlan.2.1 96 = .ok (.iload_n 3, 1) ∧ 96 + 1 = 97 := ⟨by decide +kernel, rfl⟩
theorem d_LBText_readPlan_97 : decode mm_LBText_readPlan.2.1 97 = .ok (.iconst 1, 1) ∧ 97 + 1 = 98 := ⟨by decide +kernel, rfl⟩
theorem d_LBText_readPlan_98 : decode mm_LBText_readPlan.2.1 98 = .ok (.iadd, 1) ∧ 98 + 1 = 99 := ⟨by decide +kernel, rfl⟩
theorem d_LBText_readPlan_99 : decode mm_LBText_readPlan.2.1 99 = .ok (.goto 8, 3) ∧ 99 + 3 = 102 ∧ ((99 : Nat) : Int) + (8) = ((107 : Nat) : Int) := ⟨by decide +kernel, rfl, by decide⟩
theorem d_LBText_readPlan_102 : decode mm_LBText_readPlan.2.1 102 = .ok (.aload_n 0, 1) ∧ 102 + 1 = 103 := ⟨by decide +kernel, rfl⟩
theorem d_LBText_readPlan_103 : decode mm_LBText_readPlan.2.1 103 = .ok (.iload_n 3, 1) ∧ 103 + 1 = 104 := ⟨by decide +kernel, rfl⟩
theorem d_LBText_readPlan_104 : decode mm_LBText_readPlan.2.1 104 = .ok (.invokevirtual 42, 3) ∧ 104 + 3 = 107 := ⟨by decide +kernel, rfl⟩
theorem d_LBText_readPlan_107 : decode mm_LBText_readPlan.2.1 107 = .ok (.ireturn, 1) := by decide +kernel
theorem d_LBText_badAt_0 : decode mm_LBText_badAt.2.1 0 = .ok (.aload_n 0, 1) ∧ 0 + 1 = 1 := ⟨by decide +kernel, rfl⟩
theorem d_LBText_badAt_1 : decode mm_LBText_badAt.2.1 1 = .ok (.iload_n 1, 1) ∧ 1 + 1 = 2 := ⟨by decide +kernel, rfl⟩
theorem d_LBText_badAt_2 : decode mm_LBText_badAt.2.1 2 = .ok (.putfield 39, 3) ∧ 2 + 3 = 5 := ⟨by decide +kernel, rfl⟩
theorem d_LBText_badAt_5 : decode mm_LBText_badAt.2.1 5 = .ok (.iconst (-1), 1) ∧ 5 + 1 = 6 := ⟨by decide +kernel, rfl⟩
theorem d_LBText_badAt_6 : decode mm_LBText_badAt.2.1 6 = .ok (.ireturn, 1) := by decide +kernel
theorem d_LBText_belongs_0 : decode mm_LBText_belongs.2.1 0 = .ok (.iload_n 0, 1) ∧ 0 + 1 = 1 := ⟨by decide +kernel, rfl⟩
theorem d_LBText_belongs_1 : decode mm_LBText_belongs.2.1 1 = .ok (.invokestatic 57, 3) ∧ 1 + 3 = 4 := ⟨by decide +kernel, rfl⟩
theorem d_LBText_belongs_4 : decode mm_LBText_belongs.2.1 4 = .ok (.ifCond .ne 35, 3) ∧ 4 + 3 = 7 ∧ ((4 : Nat) : Int) + (35) = ((39 : Nat) : Int) := ⟨by decide +kernel, rfl, by decide⟩
theorem d_LBText_belongs_7 : decode mm_LBText_belongs.2.1 7 = .ok (.iload_n 0, 1) ∧ 7 + 1 = 8 := ⟨by decide +kernel, rfl⟩
theorem d_LBText_belongs_8 : decode mm_LBText_belongs.2.1 8 = .ok (.invokestatic 60, 3) ∧ 8 + 3 = 11 := ⟨by decide +kernel, rfl⟩
theorem d_LBText_belongs_11 : decode mm_LBText_belongs.2.1 11 = .ok (.ifCond .ne 28, 3) ∧ 11 + 3 = 14 ∧ ((11 : Nat) : Int) + (28) = ((39 : Nat) : Int) := ⟨by decide +kernel, rfl, by decide⟩
theorem d_LBText_belongs_14 : decode mm_LBText_belongs.2.1 14 = .ok (.iload_n 0, 1) ∧ 14 + 1 = 15 := ⟨by decide +kernel, rfl⟩
theorem d_LBText_belongs_15 : decode mm_LBText_belongs.2.1 15 = .ok (.invokestatic 66, 3) ∧ 15 + 3 = 18 := ⟨by decide +kernel, rfl⟩
theorem d_LBText_belongs_18 : decode mm_LBText_belongs.2.1 18 = .ok (.ifCond .gt 21, 3) ∧ 18 + 3 = 21 ∧ ((18 : Nat) : Int) + (21) = ((39 : Nat) : Int) := ⟨by decide +kernel, rfl, by decide⟩
theorem d_LBText_belongs_21 : decode mm_LBText_belongs.2.1 21 = .ok (.iload_n 0, 1) ∧ 21 + 1 = 22 := ⟨by decide +kernel, rfl⟩
theorem d_LBText_belongs_22 : decode mm_LBText_belongs.2.1 22 = .ok (.bipush 68, 2) ∧ 22 + 2 = 24 := ⟨by decide +kernel, rfl⟩
theorem d_LBText_belongs_24 : decode mm_LBText_belongs.2.1 24 = .ok (.if_icmp .eq 15, 3) ∧ 24 + 3 = 27 ∧ ((24 : Nat) : Int) + (15) = ((39 : Nat) : Int) := ⟨by decide +kernel, rfl, by decide⟩
theorem d_LBText_belongs_27 : decode mm_LBText_belongs.2.1 27 = .ok (.iload_n 0, 1) ∧ 27 + 1 = 28 := ⟨by decide +kernel, rfl⟩
theorem d_LBText_belongs_28 : decode mm_LBText_belongs.2.1 28 = .ok (.bipush 40, 2) ∧ 28 + 2 = 30 := ⟨by decide +kernel, rfl⟩
theorem d_LBText_belongs_30 : decode mm_LBText_belongs.2.1 30 = .ok (.if_icmp .eq 9, 3) ∧ 30 + 3 = 33 ∧ ((30 : Nat) : Int) + (9) = ((39 : Nat) : Int) := ⟨by decide +kernel, rfl, by decide⟩
theorem d_LBText_belongs_33 : decode mm_LBText_belongs.2.1 33 = .ok (.iload_n 0, 1) ∧ 33 + 1 = 34 := ⟨by decide +kernel, rfl⟩
theorem d_LBText_belongs_34 : decode mm_LBText_belongs.2.1 34 = .ok (.bipush 41, 2) ∧ 34 + 2 = 36 := ⟨by decide +kernel, rfl⟩
theorem d_LBText_belongs_36 : decode mm_LBText_belongs.2.1 36 = .ok (.if_icmp .ne 7, 3) ∧ 36 + 3 = 39 ∧ ((36 : Nat) : Int) + (7) = ((43 : Nat) : Int) := ⟨by decide +kernel, rfl, by decide⟩
theorem d_LBText_belongs_39 : decode mm_LBText_belongs.2.1 39 = .ok (.iconst 1, 1) ∧ 39 + 1 = 40 := ⟨by decide +kernel, rfl⟩
theorem d_LBText_belongs_40 : decode mm_LBText_belongs.2.1 40 = .ok (.goto 4, 3) ∧ 40 + 3 = 43 ∧ ((40 : Nat) : Int) + (4) = ((44 : Nat) : Int) := ⟨by decide +kernel, rfl, by decide⟩
theorem d_LBText_belongs_43 : decode mm_LBText_belongs.2.1 43 = .ok (.iconst 0, 1) ∧ 43 + 1 = 44 := ⟨by decide +kernel, rfl⟩
theorem d_LBText_belongs_44 : decode mm_LBText_belongs.2.1 44 = .ok (.ireturn, 1) := by decide +kernel
theorem d_LBName_init_0 : decode mm_LBName_init.2.1 0 = .ok (.aload_n 0, 1) ∧ 0 + 1 = 1 := ⟨by decide +kernel, rfl⟩
theorem d_LBName_init_1 : decode mm_LBName_init.2.1 1 = .ok (.invokespecial 3, 3) ∧ 1 + 3 = 4 := ⟨by decide +kernel, rfl⟩
theorem d_LBName_init_4 : decode mm_LBName_init.2.1 4 = .ok (.aload_n 0, 1) ∧ 4 + 1 = 5 := ⟨by decide +kernel, rfl⟩
theorem d_LBName_init_5 : decode mm_LBName_init.2.1 5 = .ok (.new 9, 3) ∧ 5 + 3 = 8 := ⟨by decide +kernel, rfl⟩
theorem d_LBName_init_8 : decode mm_LBName_init.2.1 8 = .ok (.dup, 1) ∧ 8 + 1 = 9 := ⟨by decide +kernel, rfl⟩
theorem d_LBName_init_9 : decode mm_LBName_init.2.1 9 = .ok (.invokespecial 11, 3) ∧ 9 + 3 = 12 := ⟨by decide +kernel, rfl⟩
theorem d_LBName_init_12 : decode mm_LBName_init.2.1 12 = .ok (.putfield 12, 3) ∧ 12 + 3 = 15 := ⟨by decide +kernel, rfl⟩
theorem d_LBName_init_15 : decode mm_LBName_init.2.1 15 = .ok (.aload_n 0, 1) ∧ 15 + 1 = 16 := ⟨by decide +kernel, rfl⟩
theorem d_LBName_init_16 : decode mm_LBName_init.2.1 16 = .ok (.ldc2_w 18, 3) ∧ 16 + 3 = 19 := ⟨by decide +kernel, rfl⟩
theorem d_LBName_init_19 : decode mm_LBName_init.2.1 19 = .ok (.putfield 20, 3) ∧ 19 + 3 = 22 := ⟨by decide +kernel, rfl⟩
theorem d_LBName_init_22 : decode mm_LBName_init.2.1 22 = .ok (.return_, 1) := by decide +kernel
theorem d_LBPlan_init_0 : decode mm_LBPlan_init.2.1 0 = .ok (.aload_n 0, 1) ∧ 0 + 1 = 1 := ⟨by decide +kernel, rfl⟩
theorem d_LBPlan_init_1 : decode mm_LBPlan_init.2.1 1 = .ok (.invokespecial 1, 3) ∧ 1 + 3 = 4 := ⟨by decide +kernel, rfl⟩
theorem d_LBPlan_init_4 : decode mm_LBPlan_init.2.1 4 = .ok (.aload_n 0, 1) ∧ 4 + 1 = 5 := ⟨by decide +kernel, rfl⟩
theorem d_LBPlan_init_5 : decode mm_LBPlan_init.2.1 5 = .ok (.iload_n 1, 1) ∧ 5 + 1 = 6 := ⟨by decide +kernel, rfl⟩
theorem d_LBPlan_init_6 : decode mm_LBPlan_init.2.1 6 = .ok (.putfield 7, 3) ∧ 6 + 3 = 9 := ⟨by decide +kernel, rfl⟩
theorem d_LBPlan_init_9 : decode mm_LBPlan_init.2.1 9 = .ok (.aload_n 0, 1) ∧ 9 + 1 = 10 := ⟨by decide +kernel, rfl⟩
theorem d_LBPlan_init_10 : decode mm_LBPlan_init.2.1 10 = .ok (.aload_n 2, 1) ∧ 10 + 1 = 11 := ⟨by decide +kernel, rfl⟩
theorem d_LBPlan_init_11 : decode mm_LBPlan_init.2.1 11 = .ok (.putfield 13, 3) ∧ 11 + 3 = 14 := ⟨by decide +kernel, rfl⟩
theorem d_LBPlan_init_14 : decode mm_LBPlan_init.2.1 14 = .ok (.return_, 1) := by decide +kernel
theorem d_LBPlan_isAlike_0 : decode mm_LBPlan_isAlike.2.1 0 = .ok (.aload_n 0, 1) ∧ 0 + 1 = 1 := ⟨by decide +kernel, rfl⟩
theorem d_LBPlan_isAlike_1 : decode mm_LBPlan_isAlike.2.1 1 = .ok (.getfield 7, 3) ∧ 1 + 3 = 4 := ⟨by decide +kernel, rfl⟩
theorem d_LBPlan_isAlike_4 : decode mm_LBPlan_isAlike.2.1 4 = .ok (.iload_n 1, 1) ∧ 4 + 1 = 5 := ⟨by decide +kernel, rfl⟩
theorem d_LBPlan_isAlike_5 : decode mm_LBPlan_isAlike.2.1 5 = .ok (.if_icmp .ne 13, 3) ∧ 5 + 3 = 8 ∧ ((5 : Nat) : Int) + (13) = ((18 : Nat) : Int) := ⟨by decide +kernel, rfl, by decide⟩
theorem d_LBPlan_isAlike_8 : decode mm_LBPlan_isAlike.2.1 8 = .ok (.aload_n 0, 1) ∧ 8 + 1 = 9 := ⟨by decide +kernel, rfl⟩
theorem d_LBPlan_isAlike_9 : decode mm_LBPlan_isAlike.2.1 9 = .ok (.getfield 13, 3) ∧ 9 + 3 = 12 := ⟨by decide +kernel, rfl⟩
theorem d_LBPlan_isAlike_12 : decode mm_LBPlan_isAlike.2.1 12 = .ok (.arraylength, 1) ∧ 12 + 1 = 13 := ⟨by decide +kernel, rfl⟩
theorem d_LBPlan_isAlike_13 : decode mm_LBPlan_isAlike.2.1 13 = .ok (.iload 4, 2) ∧ 13 + 2 = 15 := ⟨by decide +kernel, rfl⟩
theorem d_LBPlan_isAlike_15 : decode mm_LBPlan_isAlike.2.1 15 = .ok (.if_icmp .eq 5, 3) ∧ 15 + 3 = 18 ∧ ((15 : Nat) : Int) + (5) = ((20 : Nat) : Int) := ⟨by decide +kernel, rfl, by decide⟩
theorem d_LBPlan_isAlike_18 : decode mm_LBPlan_isAlike.2.1 18 = .ok (.iconst 0, 1) ∧ 18 + 1 = 19 := ⟨by decide +kernel, rfl⟩
theorem d_LBPlan_isAlike_19 : decode mm_LBPlan_isAlike.2.1 19 = .ok (.ireturn, 1) := by decide +kernel
theorem d_LBPlan_isAlike_20 : decode mm_LBPlan_isAlike.2.1 20 = .ok (.iconst 0, 1) ∧ 20 + 1 = 21 := ⟨by decide +kernel, rfl⟩
theorem d_LBPlan_isAlike_21 : decode mm_LBPlan_isAlike.2.1 21 = .ok (.istore 5, 2) ∧ 21 + 2 = 23 := ⟨by decide +kernel, rfl⟩
theorem d_LBPlan_isAlike_23 : decode mm_LBPlan_isAlike.2.1 23 = .ok (.iload 5, 2) ∧ 23 + 2 = 25 := ⟨by decide +kernel, rfl⟩
theorem d_LBPlan_isAlike_25 : decode mm_LBPlan_isAlike.2.1 25 = .ok (.iload 4, 2) ∧ 25 + 2 = 27 := ⟨by decide +kernel, rfl⟩
theorem d_LBPlan_isAlike_27 : decode mm_LBPlan_isAlike.2.1 27 = .ok (.if_icmp .ge 28, 3) ∧ 27 + 3 = 30 ∧ ((27 : Nat) : Int) + (28) = ((55 : Nat) : Int) := ⟨by decide +kernel, rfl, by decide⟩
theorem d_LBPlan_isAlike_30 : decode mm_LBPlan_isAlike.2.1 30 = .ok (.aload_n 0, 1) ∧ 30 + 1 = 31 := ⟨by decide +kernel, rfl⟩
theorem d_LBPlan_isAlike_31 : decode mm_LBPlan_isAlike.2.1 31 = .ok (.getfield 13, 3) ∧ 31 + 3 = 34 := ⟨by decide +kernel, rfl⟩
theorem d_LBPlan_isAlike_34 : decode mm_LBPlan_isAlike.2.1 34 = .ok (.iload 5, 2) ∧ 34 + 2 = 36 := ⟨by decide +kernel, rfl⟩
theorem d_LBPlan_isAlike_36 : decode mm_LBPlan_isAlike.2.1 36 = .ok (.laload, 1) ∧ 36 + 1 = 37 := ⟨by decide +kernel, rfl⟩
theorem d_LBPlan_isAlike_37 : decode mm_LBPlan_isAlike.2.1 37 = .ok (.aload_n 2, 1) ∧ 37 + 1 = 38 := ⟨by decide +kernel, rfl⟩
theorem d_LBPlan_isAlike_38 : decode mm_LBPlan_isAlike.2.1 38 = .ok (.iload_n 3, 1) ∧ 38 + 1 = 39 := ⟨by decide +kernel, rfl⟩
theorem d_LBPlan_isAlike_39 : decode mm_LBPlan_isAlike.2.1 39 = .ok (.iload 5, 2) ∧ 39 + 2 = 41 := ⟨by decide +kernel, rfl⟩
theorem d_LBPlan_isAlike_41 : decode mm_LBPlan_isAlike.2.1 41 = .ok (.iadd, 1) ∧ 41 + 1 = 42 := ⟨by decide +kernel, rfl⟩
theorem d_LBPlan_isAlike_42 : decode mm_LBPlan_isAlike.2.1 42 = .ok (.laload, 1) ∧ 42 + 1 = 43 := ⟨by decide +kernel, rfl⟩
theorem d_LBPlan_isAlike_43 : decode mm_LBPlan_isAlike.2.1 43 = .ok (.lcmp, 1) ∧ 43 + 1 = 44 := ⟨by decide +kernel, rfl⟩
theorem d_LBPlan_isAlike_44 : decode mm_LBPlan_isAlike.2.1 44 = .ok (.ifCond .eq 5, 3) ∧ 44 + 3 = 47 ∧ ((44 : Nat) : Int) + (5) = ((49 : Nat) : Int) := ⟨by decide +kernel, rfl, by decide⟩
theorem d_LBPlan_isAlike_47 : decode mm_LBPlan_isAlike.2.1 47 = .ok (.iconst 0, 1) ∧ 47 + 1 = 48 := ⟨by decide +kernel, rfl⟩
theorem d_LBPlan_isAlike_48 : decode mm_LBPlan_isAlike.2.1 48 = .ok (.ireturn, 1) := by decide +kernel
theorem d_LBPlan_isAlike_49 : decode mm_LBPlan_isAlike.2.1 49 = .ok (.iinc 5 1, 3) ∧ 49 + 3 = 52 := ⟨by decide +kernel, rfl⟩
theorem d_LBPlan_isAlike_52 : decode mm_LBPlan_isAlike.2.1 52 = .ok (.goto (-29), 3) ∧ 52 + 3 = 55 ∧ ((52 : Nat) : Int) + (-29) = ((23 : Nat) : Int) := ⟨by decide +kernel, rfl, by decide⟩
theorem d_LBPlan_isAlike_55 : decode mm_LBPlan_isAlike.2.1 55 = .ok (.iconst 1, 1) ∧ 55 + 1 = 56 := ⟨by decide +kernel, rfl⟩
theorem d_LBPlan_isAlike_56 : decode mm_LBPlan_isAlike.2.1 56 = .ok (.ireturn, 1) := by decide +kernel
theorem d_LBStore_init_0 : decode mm_LBStore_init.2.1 0 = .ok (.aload_n 0, 1) ∧ 0 + 1 = 1 := ⟨by decide +kernel, rfl⟩
theorem d_LBStore_init_1 : decode mm_LBStore_init.2.1 1 = .ok (.invokespecial 3, 3) ∧ 1 + 3 = 4 := ⟨by decide +kernel, rfl⟩
theorem d_LBStore_init_4 : decode mm_LBStore_init.2.1 4 = .ok (.aload_n 0, 1) ∧ 4 + 1 = 5 := ⟨by decide +kernel, rfl⟩
theorem d_LBStore_init_5 : decode mm_LBStore_init.2.1 5 = .ok (.bipush 30, 2) ∧ 5 + 2 = 7 := ⟨by decide +kernel, rfl⟩
theorem d_LBStore_init_7 : decode mm_LBStore_init.2.1 7 = .ok (.anewarray 9, 3) ∧ 7 + 3 = 10 := ⟨by decide +kernel, rfl⟩
theorem d_LBStore_init_10 : decode mm_LBStore_init.2.1 10 = .ok (.putfield 11, 3) ∧ 10 + 3 = 13 := ⟨by decide +kernel, rfl⟩
theorem d_LBStore_init_13 : decode mm_LBStore_init.2.1 13 = .ok (.aload_n 0, 1) ∧ 13 + 1 = 14 := ⟨by decide +kernel, rfl⟩
theorem d_LBStore_init_14 : decode mm_LBStore_init.2.1 14 = .ok (.bipush 10, 2) ∧ 14 + 2 = 16 := ⟨by decide +kernel, rfl⟩
theorem d_LBStore_init_16 : decode mm_LBStore_init.2.1 16 = .ok (.newarray .int, 2) ∧ 16 + 2 = 18 := ⟨by decide +kernel, rfl⟩
theorem d_LBStore_init_18 : decode mm_LBStore_init.2.1 18 = .ok (.putfield 17, 3) ∧ 18 + 3 = 21 := ⟨by decide +kernel, rfl⟩
theorem d_LBStore_init_21 : decode mm_LBStore_init.2.1 21 = .ok (.return_, 1) := by decide +kernel
theorem d_LBStore_planAt_0 : decode mm_LBStore_planAt.2.1 0 = .ok (.iload_n 1, 1) ∧ 0 + 1 = 1 := ⟨by decide +kernel, rfl⟩
theorem d_LBStore_planAt_1 : decode mm_LBStore_planAt.2.1 1 = .ok (.iconst 1, 1) ∧ 1 + 1 = 2 := ⟨by decide +kernel, rfl⟩
theorem d_LBStore_planAt_2 : decode mm_LBStore_planAt.2.1 2 = .ok (.if_icmp .lt 22, 3) ∧ 2 + 3 = 5 ∧ ((2 : Nat) : Int) + (22) = ((24 : Nat) : Int) := ⟨by decide +kernel, rfl, by decide⟩
theorem d_LBStore_planAt_5 : decode mm_LBStore_planAt.2.1 5 = .ok (.iload_n 1, 1) ∧ 5 + 1 = 6 := ⟨by decide +kernel, rfl⟩
theorem d_LBStore_planAt_6 : decode mm_LBStore_planAt.2.1 6 = .ok (.aload_n 0, 1) ∧ 6 + 1 = 7 := ⟨by decide +kernel, rfl⟩
theorem d_LBStore_planAt_7 : decode mm_LBStore_planAt.2.1 7 = .ok (.getfield 21, 3) ∧ 7 + 3 = 10 := ⟨by decide +kernel, rfl⟩
theorem d_LBStore_planAt_10 : decode mm_LBStore_planAt.2.1 10 = .ok (.if_icmp .gt 14, 3) ∧ 10 + 3 = 13 ∧ ((10 : Nat) : Int) + (14) = ((24 : Nat) : Int) := ⟨by decide +kernel, rfl, by decide⟩
theorem d_LBStore_planAt_13 : decode mm_LBStore_planAt.2.1 13 = .ok (.aload_n 0, 1) ∧ 13 + 1 = 14 := ⟨by decide +kernel, rfl⟩
theorem d_LBStore_planAt_14 : decode mm_LBStore_planAt.2.1 14 = .ok (.getfield 11, 3) ∧ 14 + 3 = 17 := ⟨by decide +kernel, rfl⟩
theorem d_LBStore_planAt_17 : decode mm_LBStore_planAt.2.1 17 = .ok (.iload_n 1, 1) ∧ 17 + 1 = 18 := ⟨by decide +kernel, rfl⟩
theorem d_LBStore_planAt_18 : decode mm_LBStore_planAt.2.1 18 = .ok (.iconst 1, 1) ∧ 18 + 1 = 19 := ⟨by decide +kernel, rfl⟩
theorem d_LBStore_planAt_19 : decode mm_LBStore_planAt.2.1 19 = .ok (.isub, 1) ∧ 19 + 1 = 20 := ⟨by decide +kernel, rfl⟩
theorem d_LBStore_planAt_20 : decode mm_LBStore_planAt.2.1 20 = .ok (.aaload, 1) ∧ 20 + 1 = 21 := ⟨by decide +kernel, rfl⟩
theorem d_LBStore_planAt_21 : decode mm_LBStore_planAt.2.1 21 = .ok (.goto 4, 3) ∧ 21 + 3 = 24 ∧ ((21 : Nat) : Int) + (4) = ((25 : Nat) : Int) := ⟨by decide +kernel, rfl, by decide⟩
theorem d_LBStore_planAt_24 : decode mm_LBStore_planAt.2.1 24 = .ok (.aconst_null, 1) ∧ 24 + 1 = 25 := ⟨by decide +kernel, rfl⟩
theorem d_LBStore_planAt_25 : decode mm_LBStore_planAt.2.1 25 = .ok (.areturn, 1) := by decide +kernel
theorem d_LBStore_planIn_0 : decode mm_LBStore_planIn.2.1 0 = .ok (.lload_n 1, 1) ∧ 0 + 1 = 1 := ⟨by decide +kernel, rfl⟩
theorem d_LBStore_planIn_1 : decode mm_LBStore_planIn.2.1 1 = .ok (.invokestatic 25, 3) ∧ 1 + 3 = 4 := ⟨by decide +kernel, rfl⟩
theorem d_LBStore_planIn_4 : decode mm_LBStore_planIn.2.1 4 = .ok (.ifCond .eq 14, 3) ∧ 4 + 3 = 7 ∧ ((4 : Nat) : Int) + (14) = ((18 : Nat) : Int) := ⟨by decide +kernel, rfl, by decide⟩
theorem d_LBStore_planIn_7 : decode mm_LBStore_planIn.2.1 7 = .ok (.aload_n 0, 1) ∧ 7 + 1 = 8 := ⟨by decide +kernel, rfl⟩
theorem d_LBStore_planIn_8 : decode mm_LBStore_planIn.2.1 8 = .ok (.lload_n 1, 1) ∧ 8 + 1 = 9 := ⟨by decide +kernel, rfl⟩
theorem d_LBStore_planIn_9 : decode mm_LBStore_planIn.2.1 9 = .ok (.invokestatic 29, 3) ∧ 9 + 3 = 12 := ⟨by decide +kernel, rfl⟩
theorem d_LBStore_planIn_12 : decode mm_LBStore_planIn.2.1 12 = .ok (.invokevirtual 33, 3) ∧ 12 + 3 = 15 := ⟨by decide +kernel, rfl⟩
theorem d_LBStore_planIn_15 : decode mm_LBStore_planIn.2.1 15 = .ok (.goto 4, 3) ∧ 15 + 3 = 18 ∧ ((15 : Nat) : Int) + (4) = ((19 : Nat) : Int) := ⟨by decide +kernel, rfl, by decide⟩
theorem d_LBStore_planIn_18 : decode mm_LBStore_planIn.2.1 18 = .ok (.aconst_null, 1) ∧ 18 + 1 = 19 := ⟨by decide +kernel, rfl⟩
theorem d_LBStore_planIn_19 : decode mm_LBStore_planIn.2.1 19 = .ok (.areturn, 1) := by decide +kernel
theorem d_LBStore_planOf_0 : decode mm_LBStore_planOf.2.1 0 = .ok (.iconst 0, 1) ∧ 0 + 1 = 1 := ⟨by decide +kernel, rfl⟩
theorem d_LBStore_planOf_1 : decode mm_LBStore_planOf.2.1 1 = .ok (.istore 5, 2) ∧ 1 + 2 = 3 := ⟨by decide +kernel, rfl⟩
theorem d_LBStore_planOf_3 : decode mm_LBStore_planOf.2.1 3 = .ok (.iload 5, 2) ∧ 3 + 2 = 5 := ⟨by decide +kernel, rfl⟩
theorem d_LBStore_planOf_5 : decode mm_LBStore_planOf.2.1 5 = .ok (.aload_n 0, 1) ∧ 5 + 1 = 6 := ⟨by decide +kernel, rfl⟩
theorem d_LBStore_planOf_6 : decode mm_LBStore_planOf.2.1 6 = .ok (.getfield 21, 3) ∧ 6 + 3 = 9 := ⟨by decide +kernel, rfl⟩
theorem d_LBStore_planOf_9 : decode mm_LBStore_planOf.2.1 9 = .ok (.if_icmp .ge 37, 3) ∧ 9 + 3 = 12 ∧ ((9 : Nat) : Int) + (37) = ((46 : Nat) : Int) := ⟨by decide +kernel, rfl, by decide⟩
theorem d_LBStore_planOf_12 : decode mm_LBStore_planOf.2.1 12 = .ok (.aload_n 0, 1) ∧ 12 + 1 = 13 := ⟨by decide +kernel, rfl⟩
theorem d_LBStore_planOf_13 : decode mm_LBStore_planOf.2.1 13 = .ok (.getfield 11, 3) ∧ 13 + 3 = 16 := ⟨by decide +kernel, rfl⟩
theorem d_LBStore_planOf_16 : decode mm_LBStore_planOf.2.1 16 = .ok (.iload 5, 2) ∧ 16 + 2 = 18 := ⟨by decide +kernel, rfl⟩
theorem d_LBStore_planOf_18 : decode mm_LBStore_planOf.2.1 18 = .ok (.aaload, 1) ∧ 18 + 1 = 19 := ⟨by decide +kernel, rfl⟩
theorem d_LBStore_planOf_19 : decode mm_LBStore_planOf.2.1 19 = .ok (.iload_n 1, 1) ∧ 19 + 1 = 20 := ⟨by decide +kernel, rfl⟩
theorem d_LBStore_planOf_20 : decode mm_LBStore_planOf.2.1 20 = .ok (.aload_n 2, 1) ∧ 20 + 1 = 21 := ⟨by decide +kernel, rfl⟩
theorem d_LBStore_planOf_21 : decode mm_LBStore_planOf.2.1 21 = .ok (.iload_n 3, 1) ∧ 21 + 1 = 22 := ⟨by decide +kernel, rfl⟩
theorem d_LBStore_planOf_22 : decode mm_LBStore_planOf.2.1 22 = .ok (.iload 4, 2) ∧ 22 + 2 = 24 := ⟨by decide +kernel, rfl⟩
theorem d_LBStore_planOf_24 : decode mm_LBStore_planOf.2.1 24 = .ok (.invokevirtual 37, 3) ∧ 24 + 3 = 27 := ⟨by decide +kernel, rfl⟩
theorem d_LBStore_planOf_27 : decode mm_LBStore_planOf.2.1 27 = .ok (.ifCond .eq 13, 3) ∧ 27 + 3 = 30 ∧ ((27 : Nat) : Int) + (13) = ((40 : Nat) : Int) := ⟨by decide +kernel, rfl, by decide⟩
theorem d_LBStore_planOf_30 : decode mm_LBStore_planOf.2.1 30 = .ok (.ldc2_w 41, 3) ∧ 30 + 3 = 33 := ⟨by decide +kernel, rfl⟩
theorem d_LBStore_planOf_33 : decode mm_LBStore_planOf.2.1 33 = .ok (.iload 5, 2) ∧ 33 + 2 = 35 := ⟨by decide +kernel, rfl⟩
theorem d_LBStore_planOf_35 : decode mm_LBStore_planOf.2.1 35 = .ok (.i2l, 1) ∧ 35 + 1 = 36 := ⟨by decide +kernel, rfl⟩
theorem d_LBStore_planOf_36 : decode mm_LBStore_planOf.2.1 36 = .ok (.ladd, 1) ∧ 36 + 1 = 37 := ⟨by decide +kernel, rfl⟩
theorem d_LBStore_planOf_37 : decode mm_LBStore_planOf.2.1 37 = .ok (.lconst 1, 1) ∧ 37 + 1 = 38 := ⟨by decide +kernel, rfl⟩
theorem d_LBStore_planOf_38 : decode mm_LBStore_planOf.2.1 38 = .ok (.ladd, 1) ∧ 38 + 1 = 39 := ⟨by decide +kernel, rfl⟩
theorem d_LBStore_planOf_39 : decode mm_LBStore_planOf.2.1 39 = .ok (.lreturn, 1) := by decide +kernel
theorem d_LBStore_planOf_40 : decode mm_LBStore_planOf.2.1 40 = .ok (.iinc 5 1, 3) ∧ 40 + 3 = 43 := ⟨by decide +kernel, rfl⟩
theorem d_LBStore_planOf_43 : decode mm_LBStore_planOf.2.1 43 = .ok (.goto (-40), 3) ∧ 43 + 3 = 46 ∧ ((43 : Nat) : Int) + (-40) = ((3 : Nat) : Int) := ⟨by decide +kernel, rfl, by decide⟩
theorem d_LBStore_planOf_46 : decode mm_LBStore_planOf.2.1 46 = .ok (.aload_n 0, 1) ∧ 46 + 1 = 47 := ⟨by decide +kernel, rfl⟩
theorem d_LBStore_planOf_47 : decode mm_LBStore_planOf.2.1 47 = .ok (.getfield 21, 3) ∧ 47 + 3 = 50 := ⟨by decide +kernel, rfl⟩
theorem d_LBStore_planOf_50 : decode mm_LBStore_planOf.2.1 50 = .ok (.bipush 30, 2) ∧ 50 + 2 = 52 := ⟨by decide +kernel, rfl⟩
theorem d_LBStore_planOf_52 : decode mm_LBStore_planOf.2.1 52 = .ok (.if_icmp .lt 7, 3) ∧ 52 + 3 = 55 ∧ ((52 : Nat) : Int) + (7) = ((59 : Nat) : Int) := ⟨by decide +kernel, rfl, by decide⟩
theorem d_LBStore_planOf_55 : decode mm_LBStore_planOf.2.1 55 = .ok (.ldc2_w 43, 3) ∧ 55 + 3 = 58 := ⟨by decide +kernel, rfl⟩
theorem d_LBStore_planOf_58 : decode mm_LBStore_planOf.2.1 58 = .ok (.lreturn, 1) := by decide +kernel
theorem d_LBStore_planOf_59 : decode mm_LBStore_planOf.2.1 59 = .ok (.iload 4, 2) ∧ 59 + 2 = 61 := ⟨by decide +kernel, rfl⟩
theorem d_LBStore_planOf_61 : decode mm_LBStore_planOf.2.1 61 = .ok (.newarray .long, 2) ∧ 61 + 2 = 63 := ⟨by decide +kernel, rfl⟩
theorem d_LBStore_planOf_63 : decode mm_LBStore_planOf.2.1 63 = .ok (.astore 5, 2) ∧ 63 + 2 = 65 := ⟨by decide +kernel, rfl⟩
theorem d_LBStore_planOf_65 : decode mm_LBStore_planOf.2.1 65 = .ok (.aload_n 2, 1) ∧ 65 + 1 = 66 := ⟨by decide +kernel, rfl⟩
theorem d_LBStore_planOf_66 : decode mm_LBStore_planOf.2.1 66 = .ok (.iload_n 3, 1) ∧ 66 + 1 = 67 := ⟨by decide +kernel, rfl⟩
theorem d_LBStore_planOf_67 : decode mm_LBStore_planOf.2.1 67 = .ok (.aload 5, 2) ∧ 67 + 2 = 69 := ⟨by decide +kernel, rfl⟩
theorem d_LBStore_planOf_69 : decode mm_LBStore_planOf.2.1 69 = .ok (.iconst 0, 1) ∧ 69 + 1 = 70 := ⟨by decide +kernel, rfl⟩
theorem d_LBStore_planOf_70 : decode mm_LBStore_planOf.2.1 70 = .ok (.iload 4, 2) ∧ 70 + 2 = 72 := ⟨by decide +kernel, rfl⟩
theorem d_LBStore_planOf_72 : decode mm_LBStore_planOf.2.1 72 = .ok (.invokestatic 45, 3) ∧ 72 + 3 = 75 := ⟨by decide +kernel, rfl⟩
theorem d_LBStore_planOf_75 : decode mm_LBStore_planOf.2.1 75 = .ok (.aload_n 0, 1) ∧ 75 + 1 = 76 := ⟨by decide +kernel, rfl⟩
theorem d_LBStore_planOf_76 : decode mm_LBStore_planOf.2.1 76 = .ok (.getfield 11, 3) ∧ 76 + 3 = 79 := ⟨by decide +kernel, rfl⟩
theorem d_LBStore_planOf_79 : decode mm_LBStore_planOf.2.1 79 = .ok (.aload_n 0, 1) ∧ 79 + 1 = 80 := ⟨by decide +kernel, rfl⟩
theorem d_LBStore_planOf_80 : decode mm_LBStore_planOf.2.1 80 = .ok (.getfield 21, 3) ∧ 80 + 3 = 83 := ⟨by decide +kernel, rfl⟩
theorem d_LBStore_planOf_83 : decode mm_LBStore_planOf.2.1 83 = .ok (.new 9, 3) ∧ 83 + 3 = 86 := ⟨by decide +kernel, rfl⟩
theorem d_LBStore_planOf_86 : decode mm_LBStore_planOf.2.1 86 = .ok (.dup, 1) ∧ 86 + 1 = 87 := ⟨by decide +kernel, rfl⟩
theorem d_LBStore_planOf_87 : decode mm_LBStore_planOf.2.1 87 = .ok (.iload_n 1, 1) ∧ 87 + 1 = 88 := ⟨by decide +kernel, rfl⟩
theorem d_LBStore_planOf_88 : decode mm_LBStore_planOf.2.1 88 = .ok (.aload 5, 2) ∧ 88 + 2 = 90 := ⟨by decide +kernel, rfl⟩
theorem d_LBStore_planOf_90 : decode mm_LBStore_planOf.2.1 90 = .ok (.invokespecial 51, 3) ∧ 90 + 3 = 93 := ⟨by decide +kernel, rfl⟩
theorem d_LBStore_planOf_93 : decode mm_LBStore_planOf.2.1 93 = .ok (.aastore, 1) ∧ 93 + 1 = 94 := ⟨by decide +kernel, rfl⟩
theorem d_LBStore_planOf_94 : decode mm_LBStore_planOf.2.1 94 = .ok (.aload_n 0, 1) ∧ 94 + 1 = 95 := ⟨by decide +kernel, rfl⟩
theorem d_LBStore_planOf_95 : decode mm_LBStore_planOf.2.1 95 = .ok (.dup, 1) ∧ 95 + 1 = 96 := ⟨by decide +kernel, rfl⟩
theorem d_LBStore_planOf_96 : decode mm_LBStore_planOf.2.1 96 = .ok (.getfield 21, 3) ∧ 96 + 3 = 99 := ⟨by decide +kernel, rfl⟩
theorem d_LBStore_planOf_99 : decode mm_LBStore_planOf.2.1 99 = .ok (.iconst 1, 1) ∧ 99 + 1 = 100 := ⟨by decide +kernel, rfl⟩
theorem d_LBStore_planOf_100 : decode mm_LBStore_planOf.2.1 100 = .ok (.iadd, 1) ∧ 100 + 1 = 101 := ⟨by decide +kernel, rfl⟩
theorem d_LBStore_planOf_101 : decode mm_LBStore_planOf.2.1 101 = .ok (.putfield 21, 3) ∧ 101 + 3 = 104 := ⟨by decide +kernel, rfl⟩
theorem d_LBStore_planOf_104 : decode mm_LBStore_planOf.2.1 104 = .ok (.ldc2_w 41, 3) ∧ 104 + 3 = 107 := ⟨by decide +kernel, rfl⟩
theorem d_LBStore_planOf_107 : decode mm_LBStore_planOf.2.1 107 = .ok (.aload_n 0, 1) ∧ 107 + 1 = 108 := ⟨by decide +kernel, rfl⟩
theorem d_LBStore_planOf_108 : decode mm_LBStore_planOf.2.1 108 = .ok (.getfield 21, 3) ∧ 108 + 3 = 111 := ⟨by decide +kernel, rfl⟩
theorem d_LBStore_planOf_111 : decode mm_LBStore_planOf.2.1 111 = .ok (.i2l, 1) ∧ 111 + 1 = 112 := ⟨by decide +kernel, rfl⟩
theorem d_LBStore_planOf_112 : decode mm_LBStore_planOf.2.1 112 = .ok (.ladd, 1) ∧ 112 + 1 = 113 := ⟨by decide +kernel, rfl⟩
theorem d_LBStore_planOf_113 : decode mm_LBStore_planOf.2.1 113 = .ok (.lreturn, 1) := by decide +kernel
theorem d_LBStore_resultOf_0 : decode mm_LBStore_resultOf.2.1 0 = .ok (.aload_n 0, 1) ∧ 0 + 1 = 1 := ⟨by decide +kernel, rfl⟩
theorem d_LBStore_resultOf_1 : decode mm_LBStore_resultOf.2.1 1 = .ok (.lload_n 1, 1) ∧ 1 + 1 = 2 := ⟨by decide +kernel, rfl⟩
theorem d_LBStore_resultOf_2 : decode mm_LBStore_resultOf.2.1 2 = .ok (.aload_n 0, 1) ∧ 2 + 1 = 3 := ⟨by decide +kernel, rfl⟩
theorem d_LBStore_resultOf_3 : decode mm_LBStore_resultOf.2.1 3 = .ok (.getfield 21, 3) ∧ 3 + 3 = 6 := ⟨by decide +kernel, rfl⟩
theorem d_LBStore_resultOf_6 : decode mm_LBStore_resultOf.2.1 6 = .ok (.iconst 1, 1) ∧ 6 + 1 = 7 := ⟨by decide +kernel, rfl⟩
theorem d_LBStore_resultOf_7 : decode mm_LBStore_resultOf.2.1 7 = .ok (.iadd, 1) ∧ 7 + 1 = 8 := ⟨by decide +kernel, rfl⟩
theorem d_LBStore_resultOf_8 : decode mm_LBStore_resultOf.2.1 8 = .ok (.invokevirtual 54, 3) ∧ 8 + 3 = 11 := ⟨by decide +kernel, rfl⟩
theorem d_LBStore_resultOf_11 : decode mm_LBStore_resultOf.2.1 11 = .ok (.lreturn, 1) := by decide +kernel
theorem d_LBStore_partOf_0 : decode mm_LBStore_partOf.2.1 0 = .ok (.aload_n 0, 1) ∧ 0 + 1 = 1 := ⟨by decide +kernel, rfl⟩
theorem d_LBStore_partOf_1 : decode mm_LBStore_partOf.2.1 1 = .ok (.lload_n 1, 1) ∧ 1 + 1 = 2 := ⟨by decide +kernel, rfl⟩
theorem d_LBStore_partOf_2 : decode mm_LBStore_partOf.2.1 2 = .ok (.invokevirtual 58, 3) ∧ 2 + 3 = 5 := ⟨by decide +kernel, rfl⟩
theorem d_LBStore_partOf_5 : decode mm_LBStore_partOf.2.1 5 = .ok (.astore 4, 2) ∧ 5 + 2 = 7 := ⟨by decide +kernel, rfl⟩
theorem d_LBStore_partOf_7 : decode mm_LBStore_partOf.2.1 7 = .ok (.aload 4, 2) ∧ 7 + 2 = 9 := ⟨by decide +kernel, rfl⟩
theorem d_LBStore_partOf_9 : decode mm_LBStore_partOf.2.1 9 = .ok (.ifnonnull 5, 3) ∧ 9 + 3 = 12 ∧ ((9 : Nat) : Int) + (5) = ((14 : Nat) : Int) := ⟨by decide +kernel, rfl, by decide⟩
theorem d_LBStore_partOf_12 : decode mm_LBStore_partOf.2.1 12 = .ok (.lload_n 1, 1) ∧ 12 + 1 = 13 := ⟨by decide +kernel, rfl⟩
theorem d_LBStore_partOf_13 : decode mm_LBStore_partOf.2.1 13 = .ok (.lreturn, 1) := by decide +kernel
theorem d_LBStore_partOf_14 : decode mm_LBStore_partOf.2.1 14 = .ok (.aload 4, 2) ∧ 14 + 2 = 16 := ⟨by decide +kernel, rfl⟩
theorem d_LBStore_partOf_16 : decode mm_LBStore_partOf.2.1 16 = .ok (.getfield 62, 3) ∧ 16 + 3 = 19 := ⟨by decide +kernel, rfl⟩
theorem d_LBStore_partOf_19 : decode mm_LBStore_partOf.2.1 19 = .ok (.ifCond .eq 10, 3) ∧ 19 + 3 = 22 ∧ ((19 : Nat) : Int) + (10) = ((29 : Nat) : Int) := ⟨by decide +kernel, rfl, by decide⟩
theorem d_LBStore_partOf_22 : decode mm_LBStore_partOf.2.1 22 = .ok (.aload 4, 2) ∧ 22 + 2 = 24 := ⟨by decide +kernel, rfl⟩
theorem d_LBStore_partOf_24 : decode mm_LBStore_partOf.2.1 24 = .ok (.getfield 66, 3) ∧ 24 + 3 = 27 := ⟨by decide +kernel, rfl⟩
theorem d_LBStore_partOf_27 : decode mm_LBStore_partOf.2.1 27 = .ok (.i2l, 1) ∧ 27 + 1 = 28 := ⟨by decide +kernel, rfl⟩
theorem d_LBStore_partOf_28 : decode mm_LBStore_partOf.2.1 28 = .ok (.lreturn, 1) := by decide +kernel
theorem d_LBStore_partOf_29 : decode mm_LBStore_partOf.2.1 29 = .ok (.lload_n 1, 1) ∧ 29 + 1 = 30 := ⟨by decide +kernel, rfl⟩
theorem d_LBStore_partOf_30 : decode mm_LBStore_partOf.2.1 30 = .ok (.invokestatic 29, 3) ∧ 30 + 3 = 33 := ⟨by decide +kernel, rfl⟩
theorem d_LBStore_partOf_33 : decode mm_LBStore_partOf.2.1 33 = .ok (.istore 5, 2) ∧ 33 + 2 = 35 := ⟨by decide +kernel, rfl⟩
theorem d_LBStore_partOf_35 : decode mm_LBStore_partOf.2.1 35 = .ok (.iload 5, 2) ∧ 35 + 2 = 37 := ⟨by decide +kernel, rfl⟩
theorem d_LBStore_partOf_37 : decode mm_LBStore_partOf.2.1 37 = .ok (.iload_n 3, 1) ∧ 37 + 1 = 38 := ⟨by decide +kernel, rfl⟩
theorem d_LBStore_partOf_38 : decode mm_LBStore_partOf.2.1 38 = .ok (.if_icmp .lt 7, 3) ∧ 38 + 3 = 41 ∧ ((38 : Nat) : Int) + (7) = ((45 : Nat) : Int) := ⟨by decide +kernel, rfl, by decide⟩
theorem d_LBStore_partOf_41 : decode mm_LBStore_partOf.2.1 41 = .ok (.ldc2_w 69, 3) ∧ 41 + 3 = 44 := ⟨by decide +kernel, rfl⟩
theorem d_LBStore_partOf_44 : decode mm_LBStore_partOf.2.1 44 = .ok (.lreturn, 1) := by decide +kernel
theorem d_LBStore_partOf_45 : decode mm_LBStore_partOf.2.1 45 = .ok (.iconst 0, 1) ∧ 45 + 1 = 46 := ⟨by decide +kernel, rfl⟩
theorem d_LBStore_partOf_46 : decode mm_LBStore_partOf.2.1 46 = .ok (.istore 6, 2) ∧ 46 + 2 = 48 := ⟨by decide +kernel, rfl⟩
theorem d_LBStore_partOf_48 : decode mm_LBStore_partOf.2.1 48 = .ok (.iload 6, 2) ∧ 48 + 2 = 50 := ⟨by decide +kernel, rfl⟩
theorem d_LBStore_partOf_50 : decode mm_LBStore_partOf.2.1 50 = .ok (.aload 4, 2) ∧ 50 + 2 = 52 := ⟨by decide +kernel, rfl⟩
theorem d_LBStore_partOf_52 : decode mm_LBStore_partOf.2.1 52 = .ok (.getfield 71, 3) ∧ 52 + 3 = 55 := ⟨by decide +kernel, rfl⟩
theorem d_LBStore_partOf_55 : decode mm_LBStore_partOf.2.1 55 = .ok (.arraylength, 1) ∧ 55 + 1 = 56 := ⟨by decide +kernel, rfl⟩
theorem d_LBStore_partOf_56 : decode mm_LBStore_partOf.2.1 56 = .ok (.if_icmp .ge 36, 3) ∧ 56 + 3 = 59 ∧ ((56 : Nat) : Int) + (36) = ((92 : Nat) : Int) := ⟨by decide +kernel, rfl, by decide⟩
theorem d_LBStore_partOf_59 : decode mm_LBStore_partOf.2.1 59 = .ok (.aload_n 0, 1) ∧ 59 + 1 = 60 := ⟨by decide +kernel, rfl⟩
theorem d_LBStore_partOf_60 : decode mm_LBStore_partOf.2.1 60 = .ok (.aload 4, 2) ∧ 60 + 2 = 62 := ⟨by decide +kernel, rfl⟩
theorem d_LBStore_partOf_62 : decode mm_LBStore_partOf.2.1 62 = .ok (.getfield 71, 3) ∧ 62 + 3 = 65 := ⟨by decide +kernel, rfl⟩
theorem d_LBStore_partOf_65 : decode mm_LBStore_partOf.2.1 65 = .ok (.iload 6, 2) ∧ 65 + 2 = 67 := ⟨by decide +kernel, rfl⟩
theorem d_LBStore_partOf_67 : decode mm_LBStore_partOf.2.1 67 = .ok (.laload, 1) ∧ 67 + 1 = 68 := ⟨by decide +kernel, rfl⟩
theorem d_LBStore_partOf_68 : decode mm_LBStore_partOf.2.1 68 = .ok (.iload 5, 2) ∧ 68 + 2 = 70 := ⟨by decide +kernel, rfl⟩
theorem d_LBStore_partOf_70 : decode mm_LBStore_partOf.2.1 70 = .ok (.invokevirtual 54, 3) ∧ 70 + 3 = 73 := ⟨by decide +kernel, rfl⟩
theorem d_LBStore_partOf_73 : decode mm_LBStore_partOf.2.1 73 = .ok (.lstore 7, 2) ∧ 73 + 2 = 75 := ⟨by decide +kernel, rfl⟩
theorem d_LBStore_partOf_75 : decode mm_LBStore_partOf.2.1 75 = .ok (.lload 7, 2) ∧ 75 + 2 = 77 := ⟨by decide +kernel, rfl⟩
theorem d_LBStore_partOf_77 : decode mm_LBStore_partOf.2.1 77 = .ok (.invokestatic 75, 3) ∧ 77 + 3 = 80 := ⟨by decide +kernel, rfl⟩
theorem d_LBStore_partOf_80 : decode mm_LBStore_partOf.2.1 80 = .ok (.ifCond .eq 6, 3) ∧ 80 + 3 = 83 ∧ ((80 : Nat) : Int) + (6) = ((86 : Nat) : Int) := ⟨by decide +kernel, rfl, by decide⟩
theorem d_LBStore_partOf_83 : decode mm_LBStore_partOf.2.1 83 = .ok (.lload 7, 2) ∧ 83 + 2 = 85 := ⟨by decide +kernel, rfl⟩
theorem d_LBStore_partOf_85 : decode mm_LBStore_partOf.2.1 85 = .ok (.lreturn, 1) := by decide +kernel
theorem d_LBStore_partOf_86 : decode mm_LBStore_partOf.2.1 86 = .ok (.iinc 6 1, 3) ∧ 86 + 3 = 89 := ⟨by decide +kernel, rfl⟩
theorem d_LBStore_partOf_89 : decode mm_LBStore_partOf.2.1 89 = .ok (.goto (-41), 3) ∧ 89 + 3 = 92 ∧ ((89 : Nat) : Int) + (-41) = ((48 : Nat) : Int) := ⟨by decide +kernel, rfl, by decide⟩
theorem d_LBStore_partOf_92 : decode mm_LBStore_partOf.2.1 92 = .ok (.aload_n 0, 1) ∧ 92 + 1 = 93 := ⟨by decide +kernel, rfl⟩
theorem d_LBStore_partOf_93 : decode mm_LBStore_partOf.2.1 93 = .ok (.aload 4, 2) ∧ 93 + 2 = 95 := ⟨by decide +kernel, rfl⟩
theorem d_LBStore_partOf_95 : decode mm_LBStore_partOf.2.1 95 = .ok (.invokevirtual 78, 3) ∧ 95 + 3 = 98 := ⟨by decide +kernel, rfl⟩
theorem d_LBStore_partOf_98 : decode mm_LBStore_partOf.2.1 98 = .ok (.lreturn, 1) := by decide +kernel
theorem d_LBStore_finish_0 : decode mm_LBStore_finish.2.1 0 = .ok (.aload_n 0, 1) ∧ 0 + 1 = 1 := ⟨by decide +kernel, rfl⟩
theorem d_LBStore_finish_1 : decode mm_LBStore_finish.2.1 1 = .ok (.getfield 17, 3) ∧ 1 + 3 = 4 := ⟨by decide +kernel, rfl⟩
theorem d_LBStore_finish_4 : decode mm_LBStore_finish.2.1 4 = .ok (.aload_n 1, 1) ∧ 4 + 1 = 5 := ⟨by decide +kernel, rfl⟩
theorem d_LBStore_finish_5 : decode mm_LBStore_finish.2.1 5 = .ok (.getfield 82, 3) ∧ 5 + 3 = 8 := ⟨by decide +kernel, rfl⟩
theorem d_LBStore_finish_8 : decode mm_LBStore_finish.2.1 8 = .ok (.iaload, 1) ∧ 8 + 1 = 9 := ⟨by decide +kernel, rfl⟩
theorem d_LBStore_finish_9 : decode mm_LBStore_finish.2.1 9 = .ok (.istore_n 2, 1) ∧ 9 + 1 = 10 := ⟨by decide +kernel, rfl⟩
theorem d_LBStore_finish_10 : decode mm_LBStore_finish.2.1 10 = .ok (.iload_n 2, 1) ∧ 10 + 1 = 11 := ⟨by decide +kernel, rfl⟩
theorem d_LBStore_finish_11 : decode mm_LBStore_finish.2.1 11 = .ok (.iconst 4, 1) ∧ 11 + 1 = 12 := ⟨by decide +kernel, rfl⟩
theorem d_LBStore_finish_12 : decode mm_LBStore_finish.2.1 12 = .ok (.if_icmp .eq 18, 3) ∧ 12 + 3 = 15 ∧ ((12 : Nat) : Int) + (18) = ((30 : Nat) : Int) := ⟨by decide +kernel, rfl, by decide⟩
theorem d_LBStore_finish_15 : decode mm_LBStore_finish.2.1 15 = .ok (.iload_n 2, 1) ∧ 15 + 1 = 16 := ⟨by decide +kernel, rfl⟩
theorem d_LBStore_finish_16 : decode mm_LBStore_finish.2.1 16 = .ok (.iconst 3, 1) ∧ 16 + 1 = 17 := ⟨by decide +kernel, rfl⟩
theorem d_LBStore_finish_17 : decode mm_LBStore_finish.2.1 17 = .ok (.if_icmp .ne 17, 3) ∧ 17 + 3 = 20 ∧ ((17 : Nat) : Int) + (17) = ((34 : Nat) : Int) := ⟨by decide +kernel, rfl, by decide⟩
theorem d_LBStore_finish_20 : decode mm_LBStore_finish.2.1 20 = .ok (.aload_n 0, 1) ∧ 20 + 1 = 21 := ⟨by decide +kernel, rfl⟩
theorem d_LBStore_finish_21 : decode mm_LBStore_finish.2.1 21 = .ok (.aload_n 1, 1) ∧ 21 + 1 = 22 := ⟨by decide +kernel, rfl⟩
theorem d_LBStore_finish_22 : decode mm_LBStore_finish.2.1 22 = .ok (.invokevirtual 85, 3) ∧ 22 + 3 = 25 := ⟨by decide +kernel, rfl⟩
theorem d_LBStore_finish_25 : decode mm_LBStore_finish.2.1 25 = .ok (.bipush 100, 2) ∧ 25 + 2 = 27 := ⟨by decide +kernel, rfl⟩
theorem d_LBStore_finish_27 : decode mm_LBStore_finish.2.1 27 = .ok (.if_icmp .lt 7, 3) ∧ 27 + 3 = 30 ∧ ((27 : Nat) : Int) + (7) = ((34 : Nat) : Int) := ⟨by decide +kernel, rfl, by decide⟩
theorem d_LBStore_finish_30 : decode mm_LBStore_finish.2.1 30 = .ok (.ldc2_w 69, 3) ∧ 30 + 3 = 33 := ⟨by decide +kernel, rfl⟩
theorem d_LBStore_finish_33 : decode mm_LBStore_finish.2.1 33 = .ok (.lreturn, 1) := by decide +kernel
theorem d_LBStore_finish_34 : decode mm_LBStore_finish.2.1 34 = .ok (.aload_n 1, 1) ∧ 34 + 1 = 35 := ⟨by decide +kernel, rfl⟩
theorem d_LBStore_finish_35 : decode mm_LBStore_finish.2.1 35 = .ok (.aload_n 0, 1) ∧ 35 + 1 = 36 := ⟨by decide +kernel, rfl⟩
theorem d_LBStore_finish_36 : decode mm_LBStore_finish.2.1 36 = .ok (.aload_n 1, 1) ∧ 36 + 1 = 37 := ⟨by decide +kernel, rfl⟩
theorem d_LBStore_finish_37 : decode mm_LBStore_finish.2.1 37 = .ok (.iload_n 2, 1) ∧ 37 + 1 = 38 := ⟨by decide +kernel, rfl⟩
theorem d_LBStore_finish_38 : decode mm_LBStore_finish.2.1 38 = .ok (.invokevirtual 89, 3) ∧ 38 + 3 = 41 := ⟨by decide +kernel, rfl⟩
theorem d_LBStore_finish_41 : decode mm_LBStore_finish.2.1 41 = .ok (.putfield 66, 3) ∧ 41 + 3 = 44 := ⟨by decide +kernel, rfl⟩
theorem d_LBStore_finish_44 : decode mm_LBStore_finish.2.1 44 = .ok (.aload_n 1, 1) ∧ 44 + 1 = 45 := ⟨by decide +kernel, rfl⟩
theorem d_LBStore_finish_45 : decode mm_LBStore_finish.2.1 45 = .ok (.iconst 1, 1) ∧ 45 + 1 = 46 := ⟨by decide +kernel, rfl⟩
theorem d_LBStore_finish_46 : decode mm_LBStore_finish.2.1 46 = .ok (.putfield 62, 3) ∧ 46 + 3 = 49 := ⟨by decide +kernel, rfl⟩
theorem d_LBStore_finish_49 : decode mm_LBStore_finish.2.1 49 = .ok (.aload_n 0, 1) ∧ 49 + 1 = 50 := ⟨by decide +kernel, rfl⟩
theorem d_LBStore_finish_50 : decode mm_LBStore_finish.2.1 50 = .ok (.dup, 1) ∧ 50 + 1 = 51 := ⟨by decide +kernel, rfl⟩
theorem d_LBStore_finish_51 : decode mm_LBStore_finish.2.1 51 = .ok (.getfield 93, 3) ∧ 51 + 3 = 54 := ⟨by decide +kernel, rfl⟩
theorem d_LBStore_finish_54 : decode mm_LBStore_finish.2.1 54 = .ok (.iconst 1, 1) ∧ 54 + 1 = 55 := ⟨by decide +kernel, rfl⟩
theorem d_LBStore_finish_55 : decode mm_LBStore_finish.2.1 55 = .ok (.iadd, 1) ∧ 55 + 1 = 56 := ⟨by decide +kernel, rfl⟩
theorem d_LBStore_finish_56 : decode mm_LBStore_finish.2.1 56 = .ok (.putfield 93, 3) ∧ 56 + 3 = 59 := ⟨by decide +kernel, rfl⟩
theorem d_LBStore_finish_59 : decode mm_LBStore_finish.2.1 59 = .ok (.aload_n 1, 1) ∧ 59 + 1 = 60 := ⟨by decide +kernel, rfl⟩
theorem d_LBStore_finish_60 : decode mm_LBStore_finish.2.1 60 = .ok (.getfield 66, 3) ∧ 60 + 3 = 63 := ⟨by decide +kernel, rfl⟩
theorem d_LBStore_finish_63 : decode mm_LBStore_finish.2.1 63 = .ok (.i2l, 1) ∧ 63 + 1 = 64 := ⟨by decide +kernel, rfl⟩
theorem d_LBStore_finish_64 : decode mm_LBStore_finish.2.1 64 = .ok (.lreturn, 1) := by decide +kernel
theorem d_LBStore_outcome_0 : decode mm_LBStore_outcome.2.1 0 = .ok (.iload_n 2, 1) ∧ 0 + 1 = 1 := ⟨by decide +kernel, rfl⟩
theorem d_LBStore_outcome_1 : decode mm_LBStore_outcome.2.1 1 = .ok (.tableswitch 45 1 3 #[27, 33, 39], 27) := by decide +kernel
theorem d_LBStore_outcome_28 : decode mm_LBStore_outcome.2.1 28 = .ok (.aload_n 0, 1) ∧ 28 + 1 = 29 := ⟨by decide +kernel, rfl⟩
theorem d_LBStore_outcome_29 : decode mm_LBStore_outcome.2.1 29 = .ok (.aload_n 1, 1) ∧ 29 + 1 = 30 := ⟨by decide +kernel, rfl⟩
theorem d_LBStore_outcome_30 : decode mm_LBStore_outcome.2.1 30 = .ok (.invokevirtual 96, 3) ∧ 30 + 3 = 33 := ⟨by decide +kernel, rfl⟩
theorem d_LBStore_outcome_33 : decode mm_LBStore_outcome.2.1 33 = .ok (.ireturn, 1) := by decide +kernel
theorem d_LBStore_outcome_34 : decode mm_LBStore_outcome.2.1 34 = .ok (.aload_n 0, 1) ∧ 34 + 1 = 35 := ⟨by decide +kernel, rfl⟩
theorem d_LBStore_outcome_35 : decode mm_LBStore_outcome.2.1 35 = .ok (.aload_n 1, 1) ∧ 35 + 1 = 36 := ⟨by decide +kernel, rfl⟩
theorem d_LBStore_outcome_36 : decode mm_LBStore_outcome.2.1 36 = .ok (.invokevirtual 85, 3) ∧ 36 + 3 = 39 := ⟨by decide +kernel, rfl⟩
theorem d_LBStore_outcome_39 : decode mm_LBStore_outcome.2.1 39 = .ok (.ireturn, 1) := by decide +kernel
theorem d_LBStore_outcome_40 : decode mm_LBStore_outcome.2.1 40 = .ok (.aload_n 1, 1) ∧ 40 + 1 = 41 := ⟨by decide +kernel, rfl⟩
theorem d_LBStore_outcome_41 : decode mm_LBStore_outcome.2.1 41 = .ok (.getfield 71, 3) ∧ 41 + 3 = 44 := ⟨by decide +kernel, rfl⟩
theorem d_LBStore_outcome_44 : decode mm_LBStore_outcome.2.1 44 = .ok (.arraylength, 1) ∧ 44 + 1 = 45 := ⟨by decide +kernel, rfl⟩
theorem d_LBStore_outcome_45 : decode mm_LBStore_outcome.2.1 45 = .ok (.ireturn, 1) := by decide +kernel
theorem d_LBStore_outcome_46 : decode mm_LBStore_outcome.2.1 46 = .ok (.aload_n 0, 1) ∧ 46 + 1 = 47 := ⟨by decide +kernel, rfl⟩
theorem d_LBStore_outcome_47 : decode mm_LBStore_outcome.2.1 47 = .ok (.aload_n 1, 1) ∧ 47 + 1 = 48 := ⟨by decide +kernel, rfl⟩
theorem d_LBStore_outcome_48 : decode mm_LBStore_outcome.2.1 48 = .ok (.invokevirtual 99, 3) ∧ 48 + 3 = 51 := ⟨by decide +kernel, rfl⟩
theorem d_LBStore_outcome_51 : decode mm_LBStore_outcome.2.1 51 = .ok (.ireturn, 1) := by decide +kernel
theorem d_LBStore_sumOf_0 : decode mm_LBStore_sumOf.2.1 0 = .ok (.iconst 0, 1) ∧ 0 + 1 = 1 := ⟨by decide +kernel, rfl⟩
theorem d_LBStore_sumOf_1 : decode mm_LBStore_sumOf.2.1 1 = .ok (.istore_n 2, 1) ∧ 1 + 1 = 2 := ⟨by decide +kernel, rfl⟩
theorem d_LBStore_sumOf_2 : decode mm_LBStore_sumOf.2.1 2 = .ok (.iconst 0, 1) ∧ 2 + 1 = 3 := ⟨by decide +kernel, rfl⟩
theorem d_LBStore_sumOf_3 : decode mm_LBStore_sumOf.2.1 3 = .ok (.istore_n 3, 1) ∧ 3 + 1 = 4 := ⟨by decide +kernel, rfl⟩
theorem d_LBStore_sumOf_4 : decode mm_LBStore_sumOf.2.1 4 = .ok (.iload_n 3, 1) ∧ 4 + 1 = 5 := ⟨by decide +kernel, rfl⟩
theorem d_LBStore_sumOf_5 : decode mm_LBStore_sumOf.2.1 5 = .ok (.aload_n 1, 1) ∧ 5 + 1 = 6 := ⟨by decide +kernel, rfl⟩
theorem d_LBStore_sumOf_6 : decode mm_LBStore_sumOf.2.1 6 = .ok (.getfield 71, 3) ∧ 6 + 3 = 9 := ⟨by decide +kernel, rfl⟩
theorem d_LBStore_sumOf_9 : decode mm_LBStore_sumOf.2.1 9 = .ok (.arraylength, 1) ∧ 9 + 1 = 10 := ⟨by decide +kernel, rfl⟩
theorem d_LBStore_sumOf_10 : decode mm_LBStore_sumOf.2.1 10 = .ok (.if_icmp .ge 22, 3) ∧ 10 + 3 = 13 ∧ ((10 : Nat) : Int) + (22) = ((32 : Nat) : Int) := ⟨by decide +kernel, rfl, by decide⟩
theorem d_LBStore_sumOf_13 : decode mm_LBStore_sumOf.2.1 13 = .ok (.iload_n 2, 1) ∧ 13 + 1 = 14 := ⟨by decide +kernel, rfl⟩
theorem d_LBStore_sumOf_14 : decode mm_LBStore_sumOf.2.1 14 = .ok (.aload_n 0, 1) ∧ 14 + 1 = 15 := ⟨by decide +kernel, rfl⟩
theorem d_LBStore_sumOf_15 : decode mm_LBStore_sumOf.2.1 15 = .ok (.aload_n 1, 1) ∧ 15 + 1 = 16 := ⟨by decide +kernel, rfl⟩
theorem d_LBStore_sumOf_16 : decode mm_LBStore_sumOf.2.1 16 = .ok (.getfield 71, 3) ∧ 16 + 3 = 19 := ⟨by decide +kernel, rfl⟩
theorem d_LBStore_sumOf_19 : decode mm_LBStore_sumOf.2.1 19 = .ok (.iload_n 3, 1) ∧ 19 + 1 = 20 := ⟨by decide +kernel, rfl⟩
theorem d_LBStore_sumOf_20 : decode mm_LBStore_sumOf.2.1 20 = .ok (.laload, 1) ∧ 20 + 1 = 21 := ⟨by decide +kernel, rfl⟩
theorem d_LBStore_sumOf_21 : decode mm_LBStore_sumOf.2.1 21 = .ok (.invokevirtual 102, 3) ∧ 21 + 3 = 24 := ⟨by decide +kernel, rfl⟩
theorem d_LBStore_sumOf_24 : decode mm_LBStore_sumOf.2.1 24 = .ok (.iadd, 1) ∧ 24 + 1 = 25 := ⟨by decide +kernel, rfl⟩
theorem d_LBStore_sumOf_25 : decode mm_LBStore_sumOf.2.1 25 = .ok (.istore_n 2, 1) ∧ 25 + 1 = 26 := ⟨by decide +kernel, rfl⟩
theorem d_LBStore_sumOf_26 : decode mm_LBStore_sumOf.2.1 26 = .ok (.iinc 3 1, 3) ∧ 26 + 3 = 29 := ⟨by decide +kernel, rfl⟩
theorem d_LBStore_sumOf_29 : decode mm_LBStore_sumOf.2.1 29 = .ok (.goto (-25), 3) ∧ 29 + 3 = 32 ∧ ((29 : Nat) : Int) + (-25) = ((4 : Nat) : Int) := ⟨by decide +kernel, rfl, by decide⟩
theorem d_LBStore_sumOf_32 : decode mm_LBStore_sumOf.2.1 32 = .ok (.iload_n 2, 1) ∧ 32 + 1 = 33 := ⟨by decide +kernel, rfl⟩
theorem d_LBStore_sumOf_33 : decode mm_LBStore_sumOf.2.1 33 = .ok (.ireturn, 1) := by decide +kernel
theorem d_LBStore_productOf_0 : decode mm_LBStore_productOf.2.1 0 = .ok (.iconst 1, 1) ∧ 0 + 1 = 1 := ⟨by decide +kernel, rfl⟩
theorem d_LBStore_productOf_1 : decode mm_LBStore_productOf.2.1 1 = .ok (.istore_n 2, 1) ∧ 1 + 1 = 2 := ⟨by decide +kernel, rfl⟩
theorem d_LBStore_productOf_2 : decode mm_LBStore_productOf.2.1 2 = .ok (.iconst 0, 1) ∧ 2 + 1 = 3 := ⟨by decide +kernel, rfl⟩
theorem d_LBStore_productOf_3 : decode mm_LBStore_productOf.2.1 3 = .ok (.istore_n 3, 1) ∧ 3 + 1 = 4 := ⟨by decide +kernel, rfl⟩
theorem d_LBStore_productOf_4 : decode mm_LBStore_productOf.2.1 4 = .ok (.iload_n 3, 1) ∧ 4 + 1 = 5 := ⟨by decide +kernel, rfl⟩
theorem d_LBStore_productOf_5 : decode mm_LBStore_productOf.2.1 5 = .ok (.aload_n 1, 1) ∧ 5 + 1 = 6 := ⟨by decide +kernel, rfl⟩
theorem d_LBStore_productOf_6 : decode mm_LBStore_productOf.2.1 6 = .ok (.getfield 71, 3) ∧ 6 + 3 = 9 := ⟨by decide +kernel, rfl⟩
theorem d_LBStore_productOf_9 : decode mm_LBStore_productOf.2.1 9 = .ok (.arraylength, 1) ∧ 9 + 1 = 10 := ⟨by decide +kernel, rfl⟩
theorem d_LBStore_productOf_10 : decode mm_LBStore_productOf.2.1 10 = .ok (.if_icmp .ge 22, 3) ∧ 10 + 3 = 13 ∧ ((10 : Nat) : Int) + (22) = ((32 : Nat) : Int) := ⟨by decide +kernel, rfl, by decide⟩
theorem d_LBStore_productOf_13 : decode mm_LBStore_productOf.2.1 13 = .ok (.iload_n 2, 1) ∧ 13 + 1 = 14 := ⟨by decide +kernel, rfl⟩
theorem d_LBStore_productOf_14 : decode mm_LBStore_productOf.2.1 14 = .ok (.aload_n 0, 1) ∧ 14 + 1 = 15 := ⟨by decide +kernel, rfl⟩
theorem d_LBStore_productOf_15 : decode mm_LBStore_productOf.2.1 15 = .ok (.aload_n 1, 1) ∧ 15 + 1 = 16 := ⟨by decide +kernel, rfl⟩
theorem d_LBStore_productOf_16 : decode mm_LBStore_productOf.2.1 16 = .ok (.getfield 71, 3) ∧ 16 + 3 = 19 := ⟨by decide +kernel, rfl⟩
theorem d_LBStore_productOf_19 : decode mm_LBStore_productOf.2.1 19 = .ok (.iload_n 3, 1) ∧ 19 + 1 = 20 := ⟨by decide +kernel, rfl⟩
theorem d_LBStore_productOf_20 : decode mm_LBStore_productOf.2.1 20 = .ok (.laload, 1) ∧ 20 + 1 = 21 := ⟨by decide +kernel, rfl⟩
theorem d_LBStore_productOf_21 : decode mm_LBStore_productOf.2.1 21 = .ok (.invokevirtual 102, 3) ∧ 21 + 3 = 24 := ⟨by decide +kernel, rfl⟩
theorem d_LBStore_productOf_24 : decode mm_LBStore_productOf.2.1 24 = .ok (.imul, 1) ∧ 24 + 1 = 25 := ⟨by decide +kernel, rfl⟩
theorem d_LBStore_productOf_25 : decode mm_LBStore_productOf.2.1 25 = .ok (.istore_n 2, 1) ∧ 25 + 1 = 26 := ⟨by decide +kernel, rfl⟩
theorem d_LBStore_productOf_26 : decode mm_LBStore_productOf.2.1 26 = .ok (.iinc 3 1, 3) ∧ 26 + 3 = 29 := ⟨by decide +kernel, rfl⟩
theorem d_LBStore_productOf_29 : decode mm_LBStore_productOf.2.1 29 = .ok (.goto (-25), 3) ∧ 29 + 3 = 32 ∧ ((29 : Nat) : Int) + (-25) = ((4 : Nat) : Int) := ⟨by decide +kernel, rfl, by decide⟩
theorem d_LBStore_productOf_32 : decode mm_LBStore_productOf.2.1 32 = .ok (.iload_n 2, 1) ∧ 32 + 1 = 33 := ⟨by decide +kernel, rfl⟩
theorem d_LBStore_productOf_33 : decode mm_LBStore_productOf.2.1 33 = .ok (.ireturn, 1) := by decide +kernel
theorem d_LBStore_greatestOf_0 : decode mm_LBStore_greatestOf.2.1 0 = .ok (.aload_n 1, 1) ∧ 0 + 1 = 1 := ⟨by decide +kernel, rfl⟩
theorem d_LBStore_greatestOf_1 : decode mm_LBStore_greatestOf.2.1 1 = .ok (.getfield 71, 3) ∧ 1 + 3 = 4 := ⟨by decide +kernel, rfl⟩
theorem d_LBStore_greatestOf_4 : decode mm_LBStore_greatestOf.2.1 4 = .ok (.arraylength, 1) ∧ 4 + 1 = 5 := ⟨by decide +kernel, rfl⟩
theorem d_LBStore_greatestOf_5 : decode mm_LBStore_greatestOf.2.1 5 = .ok (.ifCond .ne 5, 3) ∧ 5 + 3 = 8 ∧ ((5 : Nat) : Int) + (5) = ((10 : Nat) : Int) := ⟨by decide +kernel, rfl, by decide⟩
theorem d_LBStore_greatestOf_8 : decode mm_LBStore_greatestOf.2.1 8 = .ok (.iconst 0, 1) ∧ 8 + 1 = 9 := ⟨by decide +kernel, rfl⟩
theorem d_LBStore_greatestOf_9 : decode mm_LBStore_greatestOf.2.1 9 = .ok (.ireturn, 1) := by decide +kernel
theorem d_LBStore_greatestOf_10 : decode mm_LBStore_greatestOf.2.1 10 = .ok (.aload_n 0, 1) ∧ 10 + 1 = 11 := ⟨by decide +kernel, rfl⟩
theorem d_LBStore_greatestOf_11 : decode mm_LBStore_greatestOf.2.1 11 = .ok (.aload_n 1, 1) ∧ 11 + 1 = 12 := ⟨by decide +kernel, rfl⟩
theorem d_LBStore_greatestOf_12 : decode mm_LBStore_greatestOf.2.1 12 = .ok (.getfield 71, 3) ∧ 12 + 3 = 15 := ⟨by decide +kernel, rfl⟩
theorem d_LBStore_greatestOf_15 : decode mm_LBStore_greatestOf.2.1 15 = .ok (.iconst 0, 1) ∧ 15 + 1 = 16 := ⟨by decide +kernel, rfl⟩
theorem d_LBStore_greatestOf_16 : decode mm_LBStore_greatestOf.2.1 16 = .ok (.laload, 1) ∧ 16 + 1 = 17 := ⟨by decide +kernel, rfl⟩
theorem d_LBStore_greatestOf_17 : decode mm_LBStore_greatestOf.2.1 17 = .ok (.invokevirtual 102, 3) ∧ 17 + 3 = 20 := ⟨by decide +kernel, rfl⟩
theorem d_LBStore_greatestOf_20 : decode mm_LBStore_greatestOf.2.1 20 = .ok (.istore_n 2, 1) ∧ 20 + 1 = 21 := ⟨by decide +kernel, rfl⟩
theorem d_LBStore_greatestOf_21 : decode mm_LBStore_greatestOf.2.1 21 = .ok (.iconst 1, 1) ∧ 21 + 1 = 22 := ⟨by decide +kernel, rfl⟩
theorem d_LBStore_greatestOf_22 : decode mm_LBStore_greatestOf.2.1 22 = .ok (.istore_n 3, 1) ∧ 22 + 1 = 23 := ⟨by decide +kernel, rfl⟩
theorem d_LBStore_greatestOf_23 : decode mm_LBStore_greatestOf.2.1 23 = .ok (.iload_n 3, 1) ∧ 23 + 1 = 24 := ⟨by decide +kernel, rfl⟩
theorem d_LBStore_greatestOf_24 : decode mm_LBStore_greatestOf.2.1 24 = .ok (.aload_n 1, 1) ∧ 24 + 1 = 25 := ⟨by decide +kernel, rfl⟩
theorem d_LBStore_greatestOf_25 : decode mm_LBStore_greatestOf.2.1 25 = .ok (.getfield 71, 3) ∧ 25 + 3 = 28 := ⟨by decide +kernel, rfl⟩
theorem d_LBStore_greatestOf_28 : decode mm_LBStore_greatestOf.2.1 28 = .ok (.arraylength, 1) ∧ 28 + 1 = 29 := ⟨by decide +kernel, rfl⟩
theorem d_LBStore_greatestOf_29 : decode mm_LBStore_greatestOf.2.1 29 = .ok (.if_icmp .ge 24, 3) ∧ 29 + 3 = 32 ∧ ((29 : Nat) : Int) + (24) = ((53 : Nat) : Int) := ⟨by decide +kernel, rfl, by decide⟩
theorem d_LBStore_greatestOf_32 : decode mm_LBStore_greatestOf.2.1 32 = .ok (.iload_n 2, 1) ∧ 32 + 1 = 33 := ⟨by decide +kernel, rfl⟩
theorem d_LBStore_greatestOf_33 : decode mm_LBStore_greatestOf.2.1 33 = .ok (.aload_n 0, 1) ∧ 33 + 1 = 34 := ⟨by decide +kernel, rfl⟩
theorem d_LBStore_greatestOf_34 : decode mm_LBStore_greatestOf.2.1 34 = .ok (.aload_n 1, 1) ∧ 34 + 1 = 35 := ⟨by decide +kernel, rfl⟩
theorem d_LBStore_greatestOf_35 : decode mm_LBStore_greatestOf.2.1 35 = .ok (.getfield 71, 3) ∧ 35 + 3 = 38 := ⟨by decide +kernel, rfl⟩
theorem d_LBStore_greatestOf_38 : decode mm_LBStore_greatestOf.2.1 38 = .ok (.iload_n 3, 1) ∧ 38 + 1 = 39 := ⟨by decide +kernel, rfl⟩
theorem d_LBStore_greatestOf_39 : decode mm_LBStore_greatestOf.2.1 39 = .ok (.laload, 1) ∧ 39 + 1 = 40 := ⟨by decide +kernel, rfl⟩
theorem d_LBStore_greatestOf_40 : decode mm_LBStore_greatestOf.2.1 40 = .ok (.invokevirtual 102, 3) ∧ 40 + 3 = 43 := ⟨by decide +kernel, rfl⟩
theorem d_LBStore_greatestOf_43 : decode mm_LBStore_greatestOf.2.1 43 = .ok (.invokestatic 105, 3) ∧ 43 + 3 = 46 := ⟨by decide +kernel, rfl⟩
theorem d_LBStore_greatestOf_46 : decode mm_LBStore_greatestOf.2.1 46 = .ok (.istore_n 2, 1) ∧ 46 + 1 = 47 := ⟨by decide +kernel, rfl⟩
theorem d_LBStore_greatestOf_47 : decode mm_LBStore_greatestOf.2.1 47 = .ok (.iinc 3 1, 3) ∧ 47 + 3 = 50 := ⟨by decide +kernel, rfl⟩
theorem d_LBStore_greatestOf_50 : decode mm_LBStore_greatestOf.2.1 50 = .ok (.goto (-27), 3) ∧ 50 + 3 = 53 ∧ ((50 : Nat) : Int) + (-27) = ((23 : Nat) : Int) := ⟨by decide +kernel, rfl, by decide⟩
theorem d_LBStore_greatestOf_53 : decode mm_LBStore_greatestOf.2.1 53 = .ok (.iload_n 2, 1) ∧ 53 + 1 = 54 := ⟨by decide +kernel, rfl⟩
theorem d_LBStore_greatestOf_54 : decode mm_LBStore_greatestOf.2.1 54 = .ok (.ireturn, 1) := by decide +kernel
theorem d_LBStore_readyPart_0 : decode mm_LBStore_readyPart.2.1 0 = .ok (.aload_n 0, 1) ∧ 0 + 1 = 1 := ⟨by decide +kernel, rfl⟩
theorem d_LBStore_readyPart_1 : decode mm_LBStore_readyPart.2.1 1 = .ok (.lload_n 1, 1) ∧ 1 + 1 = 2 := ⟨by decide +kernel, rfl⟩
theorem d_LBStore_readyPart_2 : decode mm_LBStore_readyPart.2.1 2 = .ok (.invokevirtual 58, 3) ∧ 2 + 3 = 5 := ⟨by decide +kernel, rfl⟩
theorem d_LBStore_readyPart_5 : decode mm_LBStore_readyPart.2.1 5 = .ok (.astore_n 3, 1) ∧ 5 + 1 = 6 := ⟨by decide +kernel, rfl⟩
theorem d_LBStore_readyPart_6 : decode mm_LBStore_readyPart.2.1 6 = .ok (.aload_n 3, 1) ∧ 6 + 1 = 7 := ⟨by decide +kernel, rfl⟩
theorem d_LBStore_readyPart_7 : decode mm_LBStore_readyPart.2.1 7 = .ok (.ifnonnull 8, 3) ∧ 7 + 3 = 10 ∧ ((7 : Nat) : Int) + (8) = ((15 : Nat) : Int) := ⟨by decide +kernel, rfl, by decide⟩
theorem d_LBStore_readyPart_10 : decode mm_LBStore_readyPart.2.1 10 = .ok (.lload_n 1, 1) ∧ 10 + 1 = 11 := ⟨by decide +kernel, rfl⟩
theorem d_LBStore_readyPart_11 : decode mm_LBStore_readyPart.2.1 11 = .ok (.l2i, 1) ∧ 11 + 1 = 12 := ⟨by decide +kernel, rfl⟩
theorem d_LBStore_readyPart_12 : decode mm_LBStore_readyPart.2.1 12 = .ok (.goto 7, 3) ∧ 12 + 3 = 15 ∧ ((12 : Nat) : Int) + (7) = ((19 : Nat) : Int) := ⟨by decide +kernel, rfl, by decide⟩
theorem d_LBStore_readyPart_15 : decode mm_LBStore_readyPart.2.1 15 = .ok (.aload_n 3, 1) ∧ 15 + 1 = 16 := ⟨by decide +kernel, rfl⟩
theorem d_LBStore_readyPart_16 : decode mm_LBStore_readyPart.2.1 16 = .ok (.getfield 66, 3) ∧ 16 + 3 = 19 := ⟨by decide +kernel, rfl⟩
theorem d_LBStore_readyPart_19 : decode mm_LBStore_readyPart.2.1 19 = .ok (.ireturn, 1) := by decide +kernel
theorem d_LBStore_sweep_0 : decode mm_LBStore_sweep.2.1 0 = .ok (.iconst 0, 1) ∧ 0 + 1 = 1 := ⟨by decide +kernel, rfl⟩
theorem d_LBStore_sweep_1 : decode mm_LBStore_sweep.2.1 1 = .ok (.istore_n 1, 1) ∧ 1 + 1 = 2 := ⟨by decide +kernel, rfl⟩
theorem d_LBStore_sweep_2 : decode mm_LBStore_sweep.2.1 2 = .ok (.iload_n 1, 1) ∧ 2 + 1 = 3 := ⟨by decide +kernel, rfl⟩
theorem d_LBStore_sweep_3 : decode mm_LBStore_sweep.2.1 3 = .ok (.aload_n 0, 1) ∧ 3 + 1 = 4 := ⟨by decide +kernel, rfl⟩
theorem d_LBStore_sweep_4 : decode mm_LBStore_sweep.2.1 4 = .ok (.getfield 21, 3) ∧ 4 + 3 = 7 := ⟨by decide +kernel, rfl⟩
theorem d_LBStore_sweep_7 : decode mm_LBStore_sweep.2.1 7 = .ok (.if_icmp .ge 27, 3) ∧ 7 + 3 = 10 ∧ ((7 : Nat) : Int) + (27) = ((34 : Nat) : Int) := ⟨by decide +kernel, rfl, by decide⟩
theorem d_LBStore_sweep_10 : decode mm_LBStore_sweep.2.1 10 = .ok (.aload_n 0, 1) ∧ 10 + 1 = 11 := ⟨by decide +kernel, rfl⟩
theorem d_LBStore_sweep_11 : decode mm_LBStore_sweep.2.1 11 = .ok (.getfield 11, 3) ∧ 11 + 3 = 14 := ⟨by decide +kernel, rfl⟩
theorem d_LBStore_sweep_14 : decode mm_LBStore_sweep.2.1 14 = .ok (.iload_n 1, 1) ∧ 14 + 1 = 15 := ⟨by decide +kernel, rfl⟩
theorem d_LBStore_sweep_15 : decode mm_LBStore_sweep.2.1 15 = .ok (.aaload, 1) ∧ 15 + 1 = 16 := ⟨by decide +kernel, rfl⟩
theorem d_LBStore_sweep_16 : decode mm_LBStore_sweep.2.1 16 = .ok (.aload_n 0, 1) ∧ 16 + 1 = 17 := ⟨by decide +kernel, rfl⟩
theorem d_LBStore_sweep_17 : decode mm_LBStore_sweep.2.1 17 = .ok (.getfield 11, 3) ∧ 17 + 3 = 20 := ⟨by decide +kernel, rfl⟩
theorem d_LBStore_sweep_20 : decode mm_LBStore_sweep.2.1 20 = .ok (.iload_n 1, 1) ∧ 20 + 1 = 21 := ⟨by decide +kernel, rfl⟩
theorem d_LBStore_sweep_21 : decode mm_LBStore_sweep.2.1 21 = .ok (.aaload, 1) ∧ 21 + 1 = 22 := ⟨by decide +kernel, rfl⟩
theorem d_LBStore_sweep_22 : decode mm_LBStore_sweep.2.1 22 = .ok (.getfield 111, 3) ∧ 22 + 3 = 25 := ⟨by decide +kernel, rfl⟩
theorem d_LBStore_sweep_25 : decode mm_LBStore_sweep.2.1 25 = .ok (.putfield 114, 3) ∧ 25 + 3 = 28 := ⟨by decide +kernel, rfl⟩
theorem d_LBStore_sweep_28 : decode mm_LBStore_sweep.2.1 28 = .ok (.iinc 1 1, 3) ∧ 28 + 3 = 31 := ⟨by decide +kernel, rfl⟩
theorem d_LBStore_sweep_31 : decode mm_LBStore_sweep.2.1 31 = .ok (.goto (-29), 3) ∧ 31 + 3 = 34 ∧ ((31 : Nat) : Int) + (-29) = ((2 : Nat) : Int) := ⟨by decide +kernel, rfl, by decide⟩
theorem d_LBStore_sweep_34 : decode mm_LBStore_sweep.2.1 34 = .ok (.iconst 0, 1) ∧ 34 + 1 = 35 := ⟨by decide +kernel, rfl⟩
theorem d_LBStore_sweep_35 : decode mm_LBStore_sweep.2.1 35 = .ok (.istore_n 1, 1) ∧ 35 + 1 = 36 := ⟨by decide +kernel, rfl⟩
theorem d_LBStore_sweep_36 : decode mm_LBStore_sweep.2.1 36 = .ok (.aload_n 0, 1) ∧ 36 + 1 = 37 := ⟨by decide +kernel, rfl⟩
theorem d_LBStore_sweep_37 : decode mm_LBStore_sweep.2.1 37 = .ok (.getfield 21, 3) ∧ 37 + 3 = 40 := ⟨by decide +kernel, rfl⟩
theorem d_LBStore_sweep_40 : decode mm_LBStore_sweep.2.1 40 = .ok (.iconst 1, 1) ∧ 40 + 1 = 41 := ⟨by decide +kernel, rfl⟩
theorem d_LBStore_sweep_41 : decode mm_LBStore_sweep.2.1 41 = .ok (.isub, 1) ∧ 41 + 1 = 42 := ⟨by decide +kernel, rfl⟩
theorem d_LBStore_sweep_42 : decode mm_LBStore_sweep.2.1 42 = .ok (.istore_n 2, 1) ∧ 42 + 1 = 43 := ⟨by decide +kernel, rfl⟩
theorem d_LBStore_sweep_43 : decode mm_LBStore_sweep.2.1 43 = .ok (.iload_n 2, 1) ∧ 43 + 1 = 44 := ⟨by decide +kernel, rfl⟩
theorem d_LBStore_sweep_44 : decode mm_LBStore_sweep.2.1 44 = .ok (.ifCond .lt 69, 3) ∧ 44 + 3 = 47 ∧ ((44 : Nat) : Int) + (69) = ((113 : Nat) : Int) := ⟨by decide +kernel, rfl, by decide⟩
theorem d_LBStore_sweep_47 : decode mm_LBStore_sweep.2.1 47 = .ok (.aload_n 0, 1) ∧ 47 + 1 = 48 := ⟨by decide +kernel, rfl⟩
theorem d_LBStore_sweep_48 : decode mm_LBStore_sweep.2.1 48 = .ok (.getfield 11, 3) ∧ 48 + 3 = 51 := ⟨by decide +kernel, rfl⟩
theorem d_LBStore_sweep_51 : decode mm_LBStore_sweep.2.1 51 = .ok (.iload_n 2, 1) ∧ 51 + 1 = 52 := ⟨by decide +kernel, rfl⟩
theorem d_LBStore_sweep_52 : decode mm_LBStore_sweep.2.1 52 = .ok (.aaload, 1) ∧ 52 + 1 = 53 := ⟨by decide +kernel, rfl⟩
theorem d_LBStore_sweep_53 : decode mm_LBStore_sweep.2.1 53 = .ok (.getfield 114, 3) ∧ 53 + 3 = 56 := ⟨by decide +kernel, rfl⟩
theorem d_LBStore_sweep_56 : decode mm_LBStore_sweep.2.1 56 = .ok (.ifCond .eq 16, 3) ∧ 56 + 3 = 59 ∧ ((56 : Nat) : Int) + (16) = ((72 : Nat) : Int) := ⟨by decide +kernel, rfl, by decide⟩
theorem d_LBStore_sweep_59 : decode mm_LBStore_sweep.2.1 59 = .ok (.aload_n 0, 1) ∧ 59 + 1 = 60 := ⟨by decide +kernel, rfl⟩
theorem d_LBStore_sweep_60 : decode mm_LBStore_sweep.2.1 60 = .ok (.aload_n 0, 1) ∧ 60 + 1 = 61 := ⟨by decide +kernel, rfl⟩
theorem d_LBStore_sweep_61 : decode mm_LBStore_sweep.2.1 61 = .ok (.getfield 11, 3) ∧ 61 + 3 = 64 := ⟨by decide +kernel, rfl⟩
theorem d_LBStore_sweep_64 : decode mm_LBStore_sweep.2.1 64 = .ok (.iload_n 2, 1) ∧ 64 + 1 = 65 := ⟨by decide +kernel, rfl⟩
theorem d_LBStore_sweep_65 : decode mm_LBStore_sweep.2.1 65 = .ok (.aaload, 1) ∧ 65 + 1 = 66 := ⟨by decide +kernel, rfl⟩
theorem d_LBStore_sweep_66 : decode mm_LBStore_sweep.2.1 66 = .ok (.invokevirtual 117, 3) ∧ 66 + 3 = 69 := ⟨by decide +kernel, rfl⟩
theorem d_LBStore_sweep_69 : decode mm_LBStore_sweep.2.1 69 = .ok (.goto 38, 3) ∧ 69 + 3 = 72 ∧ ((69 : Nat) : Int) + (38) = ((107 : Nat) : Int) := ⟨by decide +kernel, rfl, by decide⟩
theorem d_LBStore_sweep_72 : decode mm_LBStore_sweep.2.1 72 = .ok (.aload_n 0, 1) ∧ 72 + 1 = 73 := ⟨by decide +kernel, rfl⟩
theorem d_LBStore_sweep_73 : decode mm_LBStore_sweep.2.1 73 = .ok (.getfield 11, 3) ∧ 73 + 3 = 76 := ⟨by decide +kernel, rfl⟩
theorem d_LBStore_sweep_76 : decode mm_LBStore_sweep.2.1 76 = .ok (.iload_n 2, 1) ∧ 76 + 1 = 77 := ⟨by decide +kernel, rfl⟩
theorem d_LBStore_sweep_77 : decode mm_LBStore_sweep.2.1 77 = .ok (.aaload, 1) ∧ 77 + 1 = 78 := ⟨by decide +kernel, rfl⟩
theorem d_LBStore_sweep_78 : decode mm_LBStore_sweep.2.1 78 = .ok (.getfield 62, 3) ∧ 78 + 3 = 81 := ⟨by decide +kernel, rfl⟩
theorem d_LBStore_sweep_81 : decode mm_LBStore_sweep.2.1 81 = .ok (.ifCond .eq 26, 3) ∧ 81 + 3 = 84 ∧ ((81 : Nat) : Int) + (26) = ((107 : Nat) : Int) := ⟨by decide +kernel, rfl, by decide⟩
theorem d_LBStore_sweep_84 : decode mm_LBStore_sweep.2.1 84 = .ok (.aload_n 0, 1) ∧ 84 + 1 = 85 := ⟨by decide +kernel, rfl⟩
theorem d_LBStore_sweep_85 : decode mm_LBStore_sweep.2.1 85 = .ok (.getfield 11, 3) ∧ 85 + 3 = 88 := ⟨by decide +kernel, rfl⟩
theorem d_LBStore_sweep_88 : decode mm_LBStore_sweep.2.1 88 = .ok (.iload_n 2, 1) ∧ 88 + 1 = 89 := ⟨by decide +kernel, rfl⟩
theorem d_LBStore_sweep_89 : decode mm_LBStore_sweep.2.1 89 = .ok (.aaload, 1) ∧ 89 + 1 = 90 := ⟨by decide +kernel, rfl⟩
theorem d_LBStore_sweep_90 : decode mm_LBStore_sweep.2.1 90 = .ok (.iconst 0, 1) ∧ 90 + 1 = 91 := ⟨by decide +kernel, rfl⟩
theorem d_LBStore_sweep_91 : decode mm_LBStore_sweep.2.1 91 = .ok (.putfield 62, 3) ∧ 91 + 3 = 94 := ⟨by decide +kernel, rfl⟩
theorem d_LBStore_sweep_94 : decode mm_LBStore_sweep.2.1 94 = .ok (.aload_n 0, 1) ∧ 94 + 1 = 95 := ⟨by decide +kernel, rfl⟩
theorem d_LBStore_sweep_95 : decode mm_LBStore_sweep.2.1 95 = .ok (.getfield 11, 3) ∧ 95 + 3 = 98 := ⟨by decide +kernel, rfl⟩
theorem d_LBStore_sweep_98 : decode mm_LBStore_sweep.2.1 98 = .ok (.iload_n 2, 1) ∧ 98 + 1 = 99 := ⟨by decide +kernel, rfl⟩
theorem d_LBStore_sweep_99 : decode mm_LBStore_sweep.2.1 99 = .ok (.aaload, 1) ∧ 99 + 1 = 100 := ⟨by decide +kernel, rfl⟩
theorem d_LBStore_sweep_100 : decode mm_LBStore_sweep.2.1 100 = .ok (.iconst 0, 1) ∧ 100 + 1 = 101 := ⟨by decide +kernel, rfl⟩
theorem d_LBStore_sweep_101 : decode mm_LBStore_sweep.2.1 101 = .ok (.putfield 66, 3) ∧ 101 + 3 = 104 := ⟨by decide +kernel, rfl⟩
theorem d_LBStore_sweep_104 : decode mm_LBStore_sweep.2.1 104 = .ok (.iinc 1 1, 3) ∧ 104 + 3 = 107 := ⟨by decide +kernel, rfl⟩
theorem d_LBStore_sweep_107 : decode mm_LBStore_sweep.2.1 107 = .ok (.iinc 2 (-1), 3) ∧ 107 + 3 = 110 := ⟨by decide +kernel, rfl⟩
theorem d_LBStore_sweep_110 : decode mm_LBStore_sweep.2.1 110 = .ok (.goto (-67), 3) ∧ 110 + 3 = 113 ∧ ((110 : Nat) : Int) + (-67) = ((43 : Nat) : Int) := ⟨by decide +kernel, rfl, by decide⟩
theorem d_LBStore_sweep_113 : decode mm_LBStore_sweep.2.1 113 = .ok (.iload_n 1, 1) ∧ 113 + 1 = 114 := ⟨by decide +kernel, rfl⟩
theorem d_LBStore_sweep_114 : decode mm_LBStore_sweep.2.1 114 = .ok (.ireturn, 1) := by decide +kernel
theorem d_LBStore_wantInputs_0 : decode mm_LBStore_wantInputs.2.1 0 = .ok (.iconst 0, 1) ∧ 0 + 1 = 1 := ⟨by decide +kernel, rfl⟩
theorem d_LBStore_wantInputs_1 : decode mm_LBStore_wantInputs.2.1 1 = .ok (.istore_n 2, 1) ∧ 1 + 1 = 2 := ⟨by decide +kernel, rfl⟩
theorem d_LBStore_wantInputs_2 : decode mm_LBStore_wantInputs.2.1 2 = .ok (.iload_n 2, 1) ∧ 2 + 1 = 3 := ⟨by decide +kernel, rfl⟩
theorem d_LBStore_wantInputs_3 : decode mm_LBStore_wantInputs.2.1 3 = .ok (.aload_n 1, 1) ∧ 3 + 1 = 4 := ⟨by decide +kernel, rfl⟩
theorem d_LBStore_wantInputs_4 : decode mm_LBStore_wantInputs.2.1 4 = .ok (.getfield 71, 3) ∧ 4 + 3 = 7 := ⟨by decide +kernel, rfl⟩
theorem d_LBStore_wantInputs_7 : decode mm_LBStore_wantInputs.2.1 7 = .ok (.arraylength, 1) ∧ 7 + 1 = 8 := ⟨by decide +kernel, rfl⟩
theorem d_LBStore_wantInputs_8 : decode mm_LBStore_wantInputs.2.1 8 = .ok (.if_icmp .ge 29, 3) ∧ 8 + 3 = 11 ∧ ((8 : Nat) : Int) + (29) = ((37 : Nat) : Int) := ⟨by decide +kernel, rfl, by decide⟩
theorem d_LBStore_wantInputs_11 : decode mm_LBStore_wantInputs.2.1 11 = .ok (.aload_n 0, 1) ∧ 11 + 1 = 12 := ⟨by decide +kernel, rfl⟩
theorem d_LBStore_wantInputs_12 : decode mm_LBStore_wantInputs.2.1 12 = .ok (.aload_n 1, 1) ∧ 12 + 1 = 13 := ⟨by decide +kernel, rfl⟩
theorem d_LBStore_wantInputs_13 : decode mm_LBStore_wantInputs.2.1 13 = .ok (.getfield 71, 3) ∧ 13 + 3 = 16 := ⟨by decide +kernel, rfl⟩
theorem d_LBStore_wantInputs_16 : decode mm_LBStore_wantInputs.2.1 16 = .ok (.iload_n 2, 1) ∧ 16 + 1 = 17 := ⟨by decide +kernel, rfl⟩
theorem d_LBStore_wantInputs_17 : decode mm_LBStore_wantInputs.2.1 17 = .ok (.laload, 1) ∧ 17 + 1 = 18 := ⟨by decide +kernel, rfl⟩
theorem d_LBStore_wantInputs_18 : decode mm_LBStore_wantInputs.2.1 18 = .ok (.invokevirtual 58, 3) ∧ 18 + 3 = 21 := ⟨by decide +kernel, rfl⟩
theorem d_LBStore_wantInputs_21 : decode mm_LBStore_wantInputs.2.1 21 = .ok (.astore_n 3, 1) ∧ 21 + 1 = 22 := ⟨by decide +kernel, rfl⟩
theorem d_LBStore_wantInputs_22 : decode mm_LBStore_wantInputs.2.1 22 = .ok (.aload_n 3, 1) ∧ 22 + 1 = 23 := ⟨by decide +kernel, rfl⟩
theorem d_LBStore_wantInputs_23 : decode mm_LBStore_wantInputs.2.1 23 = .ok (.ifnull 8, 3) ∧ 23 + 3 = 26 ∧ ((23 : Nat) : Int) + (8) = ((31 : Nat) : Int) := ⟨by decide +kernel, rfl, by decide⟩
theorem d_LBStore_wantInputs_26 : decode mm_LBStore_wantInputs.2.1 26 = .ok (.aload_n 3, 1) ∧ 26 + 1 = 27 := ⟨by decide +kernel, rfl⟩
theorem d_LBStore_wantInputs_27 : decode mm_LBStore_wantInputs.2.1 27 = .ok (.iconst 1, 1) ∧ 27 + 1 = 28 := ⟨by decide +kernel, rfl⟩
theorem d_LBStore_wantInputs_28 : decode mm_LBStore_wantInputs.2.1 28 = .ok (.putfield 114, 3) ∧ 28 + 3 = 31 := ⟨by decide +kernel, rfl⟩
theorem d_LBStore_wantInputs_31 : decode mm_LBStore_wantInputs.2.1 31 = .ok (.iinc 2 1, 3) ∧ 31 + 3 = 34 := ⟨by decide +kernel, rfl⟩
theorem d_LBStore_wantInputs_34 : decode mm_LBStore_wantInputs.2.1 34 = .ok (.goto (-32), 3) ∧ 34 + 3 = 37 ∧ ((34 : Nat) : Int) + (-32) = ((2 : Nat) : Int) := ⟨by decide +kernel, rfl, by decide⟩
theorem d_LBStore_wantInputs_37 : decode mm_LBStore_wantInputs.2.1 37 = .ok (.return_, 1) := by decide +kernel
theorem d_LBWorker_init_0 : decode mm_LBWorker_init.2.1 0 = .ok (.aload_n 0, 1) ∧ 0 + 1 = 1 := ⟨by decide +kernel, rfl⟩
theorem d_LBWorker_init_1 : decode mm_LBWorker_init.2.1 1 = .ok (.invokespecial 3, 3) ∧ 1 + 3 = 4 := ⟨by decide +kernel, rfl⟩
theorem d_LBWorker_init_4 : decode mm_LBWorker_init.2.1 4 = .ok (.aload_n 0, 1) ∧ 4 + 1 = 5 := ⟨by decide +kernel, rfl⟩
theorem d_LBWorker_init_5 : decode mm_LBWorker_init.2.1 5 = .ok (.aload_n 1, 1) ∧ 5 + 1 = 6 := ⟨by decide +kernel, rfl⟩
theorem d_LBWorker_init_6 : decode mm_LBWorker_init.2.1 6 = .ok (.putfield 9, 3) ∧ 6 + 3 = 9 := ⟨by decide +kernel, rfl⟩
theorem d_LBWorker_init_9 : decode mm_LBWorker_init.2.1 9 = .ok (.aload_n 0, 1) ∧ 9 + 1 = 10 := ⟨by decide +kernel, rfl⟩
theorem d_LBWorker_init_10 : decode mm_LBWorker_init.2.1 10 = .ok (.bipush 8, 2) ∧ 10 + 2 = 12 := ⟨by decide +kernel, rfl⟩
theorem d_LBWorker_init_12 : decode mm_LBWorker_init.2.1 12 = .ok (.anewarray 15, 3) ∧ 12 + 3 = 15 := ⟨by decide +kernel, rfl⟩
theorem d_LBWorker_init_15 : decode mm_LBWorker_init.2.1 15 = .ok (.putfield 17, 3) ∧ 15 + 3 = 18 := ⟨by decide +kernel, rfl⟩
theorem d_LBWorker_init_18 : decode mm_LBWorker_init.2.1 18 = .ok (.iconst 0, 1) ∧ 18 + 1 = 19 := ⟨by decide +kernel, rfl⟩
theorem d_LBWorker_init_19 : decode mm_LBWorker_init.2.1 19 = .ok (.istore_n 2, 1) ∧ 19 + 1 = 20 := ⟨by decide +kernel, rfl⟩
theorem d_LBWorker_init_20 : decode mm_LBWorker_init.2.1 20 = .ok (.iload_n 2, 1) ∧ 20 + 1 = 21 := ⟨by decide +kernel, rfl⟩
theorem d_LBWorker_init_21 : decode mm_LBWorker_init.2.1 21 = .ok (.bipush 8, 2) ∧ 21 + 2 = 23 := ⟨by decide +kernel, rfl⟩
theorem d_LBWorker_init_23 : decode mm_LBWorker_init.2.1 23 = .ok (.if_icmp .ge 22, 3) ∧ 23 + 3 = 26 ∧ ((23 : Nat) : Int) + (22) = ((45 : Nat) : Int) := ⟨by decide +kernel, rfl, by decide⟩
theorem d_LBWorker_init_26 : decode mm_LBWorker_init.2.1 26 = .ok (.aload_n 0, 1) ∧ 26 + 1 = 27 := ⟨by decide +kernel, rfl⟩
theorem d_LBWorker_init_27 : decode mm_LBWorker_init.2.1 27 = .ok (.getfield 17, 3) ∧ 27 + 3 = 30 := ⟨by decide +kernel, rfl⟩
theorem d_LBWorker_init_30 : decode mm_LBWorker_init.2.1 30 = .ok (.iload_n 2, 1) ∧ 30 + 1 = 31 := ⟨by decide +kernel, rfl⟩
theorem d_LBWorker_init_31 : decode mm_LBWorker_init.2.1 31 = .ok (.new 15, 3) ∧ 31 + 3 = 34 := ⟨by decide +kernel, rfl⟩
theorem d_LBWorker_init_34 : decode mm_LBWorker_init.2.1 34 = .ok (.dup, 1) ∧ 34 + 1 = 35 := ⟨by decide +kernel, rfl⟩
theorem d_LBWorker_init_35 : decode mm_LBWorker_init.2.1 35 = .ok (.invokespecial 21, 3) ∧ 35 + 3 = 38 := ⟨by decide +kernel, rfl⟩
theorem d_LBWorker_init_38 : decode mm_LBWorker_init.2.1 38 = .ok (.aastore, 1) ∧ 38 + 1 = 39 := ⟨by decide +kernel, rfl⟩
theorem d_LBWorker_init_39 : decode mm_LBWorker_init.2.1 39 = .ok (.iinc 2 1, 3) ∧ 39 + 3 = 42 := ⟨by decide +kernel, rfl⟩
theorem d_LBWorker_init_42 : decode mm_LBWorker_init.2.1 42 = .ok (.goto (-22), 3) ∧ 42 + 3 = 45 ∧ ((42 : Nat) : Int) + (-22) = ((20 : Nat) : Int) := ⟨by decide +kernel, rfl, by decide⟩
theorem d_LBWorker_init_45 : decode mm_LBWorker_init.2.1 45 = .ok (.aload_n 0, 1) ∧ 45 + 1 = 46 := ⟨by decide +kernel, rfl⟩
theorem d_LBWorker_init_46 : decode mm_LBWorker_init.2.1 46 = .ok (.sipush 292, 3) ∧ 46 + 3 = 49 := ⟨by decide +kernel, rfl⟩
theorem d_LBWorker_init_49 : decode mm_LBWorker_init.2.1 49 = .ok (.newarray .long, 2) ∧ 49 + 2 = 51 := ⟨by decide +kernel, rfl⟩
theorem d_LBWorker_init_51 : decode mm_LBWorker_init.2.1 51 = .ok (.putfield 22, 3) ∧ 51 + 3 = 54 := ⟨by decide +kernel, rfl⟩
theorem d_LBWorker_init_54 : decode mm_LBWorker_init.2.1 54 = .ok (.return_, 1) := by decide +kernel
theorem d_LBWorker_bind_0 : decode mm_LBWorker_bind.2.1 0 = .ok (.aload_n 0, 1) ∧ 0 + 1 = 1 := ⟨by decide +kernel, rfl⟩
theorem d_LBWorker_bind_1 : decode mm_LBWorker_bind.2.1 1 = .ok (.getfield 17, 3) ∧ 1 + 3 = 4 := ⟨by decide +kernel, rfl⟩
theorem d_LBWorker_bind_4 : decode mm_LBWorker_bind.2.1 4 = .ok (.iload_n 1, 1) ∧ 4 + 1 = 5 := ⟨by decide +kernel, rfl⟩
theorem d_LBWorker_bind_5 : decode mm_LBWorker_bind.2.1 5 = .ok (.aaload, 1) ∧ 5 + 1 = 6 := ⟨by decide +kernel, rfl⟩
theorem d_LBWorker_bind_6 : decode mm_LBWorker_bind.2.1 6 = .ok (.getfield 26, 3) ∧ 6 + 3 = 9 := ⟨by decide +kernel, rfl⟩
theorem d_LBWorker_bind_9 : decode mm_LBWorker_bind.2.1 9 = .ok (.aload_n 2, 1) ∧ 9 + 1 = 10 := ⟨by decide +kernel, rfl⟩
theorem d_LBWorker_bind_10 : decode mm_LBWorker_bind.2.1 10 = .ok (.invokevirtual 30, 3) ∧ 10 + 3 = 13 := ⟨by decide +kernel, rfl⟩
theorem d_LBWorker_bind_13 : decode mm_LBWorker_bind.2.1 13 = .ok (.aload_n 0, 1) ∧ 13 + 1 = 14 := ⟨by decide +kernel, rfl⟩
theorem d_LBWorker_bind_14 : decode mm_LBWorker_bind.2.1 14 = .ok (.getfield 17, 3) ∧ 14 + 3 = 17 := ⟨by decide +kernel, rfl⟩
theorem d_LBWorker_bind_17 : decode mm_LBWorker_bind.2.1 17 = .ok (.iload_n 1, 1) ∧ 17 + 1 = 18 := ⟨by decide +kernel, rfl⟩
theorem d_LBWorker_bind_18 : decode mm_LBWorker_bind.2.1 18 = .ok (.aaload, 1) ∧ 18 + 1 = 19 := ⟨by decide +kernel, rfl⟩
theorem d_LBWorker_bind_19 : decode mm_LBWorker_bind.2.1 19 = .ok (.iconst 1, 1) ∧ 19 + 1 = 20 := ⟨by decide +kernel, rfl⟩
theorem d_LBWorker_bind_20 : decode mm_LBWorker_bind.2.1 20 = .ok (.putfield 36, 3) ∧ 20 + 3 = 23 := ⟨by decide +kernel, rfl⟩
theorem d_LBWorker_bind_23 : decode mm_LBWorker_bind.2.1 23 = .ok (.aload_n 0, 1) ∧ 23 + 1 = 24 := ⟨by decide +kernel, rfl⟩
theorem d_LBWorker_bind_24 : decode mm_LBWorker_bind.2.1 24 = .ok (.invokevirtual 40, 3) ∧ 24 + 3 = 27 := ⟨by decide +kernel, rfl⟩
theorem d_LBWorker_bind_27 : decode mm_LBWorker_bind.2.1 27 = .ok (.return_, 1) := by decide +kernel
theorem d_LBWorker_unbind_0 : decode mm_LBWorker_unbind.2.1 0 = .ok (.aload_n 0, 1) ∧ 0 + 1 = 1 := ⟨by decide +kernel, rfl⟩
theorem d_LBWorker_unbind_1 : decode mm_LBWorker_unbind.2.1 1 = .ok (.getfield 17, 3) ∧ 1 + 3 = 4 := ⟨by decide +kernel, rfl⟩
theorem d_LBWorker_unbind_4 : decode mm_LBWorker_unbind.2.1 4 = .ok (.iload_n 1, 1) ∧ 4 + 1 = 5 := ⟨by decide +kernel, rfl⟩
theorem d_LBWorker_unbind_5 : decode mm_LBWorker_unbind.2.1 5 = .ok (.aaload, 1) ∧ 5 + 1 = 6 := ⟨by decide +kernel, rfl⟩
theorem d_LBWorker_unbind_6 : decode mm_LBWorker_unbind.2.1 6 = .ok (.iconst 0, 1) ∧ 6 + 1 = 7 := ⟨by decide +kernel, rfl⟩
theorem d_LBWorker_unbind_7 : decode mm_LBWorker_unbind.2.1 7 = .ok (.putfield 36, 3) ∧ 7 + 3 = 10 := ⟨by decide +kernel, rfl⟩
theorem d_LBWorker_unbind_10 : decode mm_LBWorker_unbind.2.1 10 = .ok (.aload_n 0, 1) ∧ 10 + 1 = 11 := ⟨by decide +kernel, rfl⟩
theorem d_LBWorker_unbind_11 : decode mm_LBWorker_unbind.2.1 11 = .ok (.invokevirtual 40, 3) ∧ 11 + 3 = 14 := ⟨by decide +kernel, rfl⟩
theorem d_LBWorker_unbind_14 : decode mm_LBWorker_unbind.2.1 14 = .ok (.return_, 1) := by decide +kernel
theorem d_LBWorker_forgetValues_0 : decode mm_LBWorker_forgetValues.2.1 0 = .ok (.iconst 0, 1) ∧ 0 + 1 = 1 := ⟨by decide +kernel, rfl⟩
theorem d_LBWorker_forgetValues_1 : decode mm_LBWorker_forgetValues.2.1 1 = .ok (.istore_n 1, 1) ∧ 1 + 1 = 2 := ⟨by decide +kernel, rfl⟩
theorem d_LBWorker_forgetValues_2 : decode mm_LBWorker_forgetValues.2.1 2 = .ok (.iload_n 1, 1) ∧ 2 + 1 = 3 := ⟨by decide +kernel, rfl⟩
theorem d_LBWorker_forgetValues_3 : decode mm_LBWorker_forgetValues.2.1 3 = .ok (.bipush 8, 2) ∧ 3 + 2 = 5 := ⟨by decide +kernel, rfl⟩
theorem d_LBWorker_forgetValues_5 : decode mm_LBWorker_forgetValues.2.1 5 = .ok (.if_icmp .ge 21, 3) ∧ 5 + 3 = 8 ∧ ((5 : Nat) : Int) + (21) = ((26 : Nat) : Int) := ⟨by decide +kernel, rfl, by decide⟩
theorem d_LBWorker_forgetValues_8 : decode mm_LBWorker_forgetValues.2.1 8 = .ok (.aload_n 0, 1) ∧ 8 + 1 = 9 := ⟨by decide +kernel, rfl⟩
theorem d_LBWorker_forgetValues_9 : decode mm_LBWorker_forgetValues.2.1 9 = .ok (.getfield 17, 3) ∧ 9 + 3 = 12 := ⟨by decide +kernel, rfl⟩
theorem d_LBWorker_forgetValues_12 : decode mm_LBWorker_forgetValues.2.1 12 = .ok (.iload_n 1, 1) ∧ 12 + 1 = 13 := ⟨by decide +kernel, rfl⟩
theorem d_LBWorker_forgetValues_13 : decode mm_LBWorker_forgetValues.2.1 13 = .ok (.aaload, 1) ∧ 13 + 1 = 14 := ⟨by decide +kernel, rfl⟩
theorem d_LBWorker_forgetValues_14 : decode mm_LBWorker_forgetValues.2.1 14 = .ok (.ldc2_w 43, 3) ∧ 14 + 3 = 17 := ⟨by decide +kernel, rfl⟩
theorem d_LBWorker_forgetValues_17 : decode mm_LBWorker_forgetValues.2.1 17 = .ok (.putfield 45, 3) ∧ 17 + 3 = 20 := ⟨by decide +kernel, rfl⟩
theorem d_LBWorker_forgetValues_20 : decode mm_LBWorker_forgetValues.2.1 20 = .ok (.iinc 1 1, 3) ∧ 20 + 3 = 23 := ⟨by decide +kernel, rfl⟩
theorem d_LBWorker_forgetValues_23 : decode mm_LBWorker_forgetValues.2.1 23 = .ok (.goto (-21), 3) ∧ 23 + 3 = 26 ∧ ((23 : Nat) : Int) + (-21) = ((2 : Nat) : Int) := ⟨by decide +kernel, rfl, by decide⟩
theorem d_LBWorker_forgetValues_26 : decode mm_LBWorker_forgetValues.2.1 26 = .ok (.return_, 1) := by decide +kernel
theorem d_LBWorker_namesBound_0 : decode mm_LBWorker_namesBound.2.1 0 = .ok (.iconst 0, 1) ∧ 0 + 1 = 1 := ⟨by decide +kernel, rfl⟩
theorem d_LBWorker_namesBound_1 : decode mm_LBWorker_namesBound.2.1 1 = .ok (.istore_n 1, 1) ∧ 1 + 1 = 2 := ⟨by decide +kernel, rfl⟩
theorem d_LBWorker_namesBound_2 : decode mm_LBWorker_namesBound.2.1 2 = .ok (.iconst 0, 1) ∧ 2 + 1 = 3 := ⟨by decide +kernel, rfl⟩
theorem d_LBWorker_namesBound_3 : decode mm_LBWorker_namesBound.2.1 3 = .ok (.istore_n 2, 1) ∧ 3 + 1 = 4 := ⟨by decide +kernel, rfl⟩
theorem d_LBWorker_namesBound_4 : decode mm_LBWorker_namesBound.2.1 4 = .ok (.iload_n 2, 1) ∧ 4 + 1 = 5 := ⟨by decide +kernel, rfl⟩
theorem d_LBWorker_namesBound_5 : decode mm_LBWorker_namesBound.2.1 5 = .ok (.bipush 8, 2) ∧ 5 + 2 = 7 := ⟨by decide +kernel, rfl⟩
theorem d_LBWorker_namesBound_7 : decode mm_LBWorker_namesBound.2.1 7 = .ok (.if_icmp .ge 29, 3) ∧ 7 + 3 = 10 ∧ ((7 : Nat) : Int) + (29) = ((36 : Nat) : Int) := ⟨by decide +kernel, rfl, by decide⟩
theorem d_LBWorker_namesBound_10 : decode mm_LBWorker_namesBound.2.1 10 = .ok (.iload_n 1, 1) ∧ 10 + 1 = 11 := ⟨by decide +kernel, rfl⟩
theorem d_LBWorker_namesBound_11 : decode mm_LBWorker_namesBound.2.1 11 = .ok (.aload_n 0, 1) ∧ 11 + 1 = 12 := ⟨by decide +kernel, rfl⟩
theorem d_LBWorker_namesBound_12 : decode mm_LBWorker_namesBound.2.1 12 = .ok (.getfield 17, 3) ∧ 12 + 3 = 15 := ⟨by decide +kernel, rfl⟩
theorem d_LBWorker_namesBound_15 : decode mm_LBWorker_namesBound.2.1 15 = .ok (.iload_n 2, 1) ∧ 15 + 1 = 16 := ⟨by decide +kernel, rfl⟩
theorem d_LBWorker_namesBound_16 : decode mm_LBWorker_namesBound.2.1 16 = .ok (.aaload, 1) ∧ 16 + 1 = 17 := ⟨by decide +kernel, rfl⟩
theorem d_LBWorker_namesBound_17 : decode mm_LBWorker_namesBound.2.1 17 = .ok (.getfield 36, 3) ∧ 17 + 3 = 20 := ⟨by decide +kernel, rfl⟩
theorem d_LBWorker_namesBound_20 : decode mm_LBWorker_namesBound.2.1 20 = .ok (.ifCond .eq 7, 3) ∧ 20 + 3 = 23 ∧ ((20 : Nat) : Int) + (7) = ((27 : Nat) : Int) := ⟨by decide +kernel, rfl, by decide⟩
theorem d_LBWorker_namesBound_23 : decode mm_LBWorker_namesBound.2.1 23 = .ok (.iconst 1, 1) ∧ 23 + 1 = 24 := ⟨by decide +kernel, rfl⟩
theorem d_LBWorker_namesBound_24 : decode mm_LBWorker_namesBound.2.1 24 = .ok (.goto 4, 3) ∧ 24 + 3 = 27 ∧ ((24 : Nat) : Int) + (4) = ((28 : Nat) : Int) := ⟨by decide +kernel, rfl, by decide⟩
theorem d_LBWorker_namesBound_27 : decode mm_LBWorker_namesBound.2.1 27 = .ok (.iconst 0, 1) ∧ 27 + 1 = 28 := ⟨by decide +kernel, rfl⟩
theorem d_LBWorker_namesBound_28 : decode mm_LBWorker_namesBound.2.1 28 = .ok (.iadd, 1) ∧ 28 + 1 = 29 := ⟨by decide +kernel, rfl⟩
theorem d_LBWorker_namesBound_29 : decode mm_LBWorker_namesBound.2.1 29 = .ok (.istore_n 1, 1) ∧ 29 + 1 = 30 := ⟨by decide +kernel, rfl⟩
theorem d_LBWorker_namesBound_30 : decode mm_LBWorker_namesBound.2.1 30 = .ok (.iinc 2 1, 3) ∧ 30 + 3 = 33 := ⟨by decide +kernel, rfl⟩
theorem d_LBWorker_namesBound_33 : decode mm_LBWorker_namesBound.2.1 33 = .ok (.goto (-29), 3) ∧ 33 + 3 = 36 ∧ ((33 : Nat) : Int) + (-29) = ((4 : Nat) : Int) := ⟨by decide +kernel, rfl, by decide⟩
theorem d_LBWorker_namesBound_36 : decode mm_LBWorker_namesBound.2.1 36 = .ok (.iload_n 1, 1) ∧ 36 + 1 = 37 := ⟨by decide +kernel, rfl⟩
theorem d_LBWorker_namesBound_37 : decode mm_LBWorker_namesBound.2.1 37 = .ok (.ireturn, 1) := by decide +kernel
theorem d_LBWorker_namesKept_0 : decode mm_LBWorker_namesKept.2.1 0 = .ok (.iconst 0, 1) ∧ 0 + 1 = 1 := ⟨by decide +kernel, rfl⟩
theorem d_LBWorker_namesKept_1 : decode mm_LBWorker_namesKept.2.1 1 = .ok (.istore_n 1, 1) ∧ 1 + 1 = 2 := ⟨by decide +kernel, rfl⟩
theorem d_LBWorker_namesKept_2 : decode mm_LBWorker_namesKept.2.1 2 = .ok (.iconst 0, 1) ∧ 2 + 1 = 3 := ⟨by decide +kernel, rfl⟩
theorem d_LBWorker_namesKept_3 : decode mm_LBWorker_namesKept.2.1 3 = .ok (.istore_n 2, 1) ∧ 3 + 1 = 4 := ⟨by decide +kernel, rfl⟩
theorem d_LBWorker_namesKept_4 : decode mm_LBWorker_namesKept.2.1 4 = .ok (.iload_n 2, 1) ∧ 4 + 1 = 5 := ⟨by decide +kernel, rfl⟩
theorem d_LBWorker_namesKept_5 : decode mm_LBWorker_namesKept.2.1 5 = .ok (.bipush 8, 2) ∧ 5 + 2 = 7 := ⟨by decide +kernel, rfl⟩
theorem d_LBWorker_namesKept_7 : decode mm_LBWorker_namesKept.2.1 7 = .ok (.if_icmp .ge 33, 3) ∧ 7 + 3 = 10 ∧ ((7 : Nat) : Int) + (33) = ((40 : Nat) : Int) := ⟨by decide +kernel, rfl, by decide⟩
theorem d_LBWorker_namesKept_10 : decode mm_LBWorker_namesKept.2.1 10 = .ok (.iload_n 1, 1) ∧ 10 + 1 = 11 := ⟨by decide +kernel, rfl⟩
theorem d_LBWorker_namesKept_11 : decode mm_LBWorker_namesKept.2.1 11 = .ok (.aload_n 0, 1) ∧ 11 + 1 = 12 := ⟨by decide +kernel, rfl⟩
theorem d_LBWorker_namesKept_12 : decode mm_LBWorker_namesKept.2.1 12 = .ok (.getfield 17, 3) ∧ 12 + 3 = 15 := ⟨by decide +kernel, rfl⟩
theorem d_LBWorker_namesKept_15 : decode mm_LBWorker_namesKept.2.1 15 = .ok (.iload_n 2, 1) ∧ 15 + 1 = 16 := ⟨by decide +kernel, rfl⟩
theorem d_LBWorker_namesKept_16 : decode mm_LBWorker_namesKept.2.1 16 = .ok (.aaload, 1) ∧ 16 + 1 = 17 := ⟨by decide +kernel, rfl⟩
theorem d_LBWorker_namesKept_17 : decode mm_LBWorker_namesKept.2.1 17 = .ok (.getfield 45, 3) ∧ 17 + 3 = 20 := ⟨by decide +kernel, rfl⟩
theorem d_LBWorker_namesKept_20 : decode mm_LBWorker_namesKept.2.1 20 = .ok (.ldc2_w 43, 3) ∧ 20 + 3 = 23 := ⟨by decide +kernel, rfl⟩
theorem d_LBWorker_namesKept_23 : decode mm_LBWorker_namesKept.2.1 23 = .ok (.lcmp, 1) ∧ 23 + 1 = 24 := ⟨by decide +kernel, rfl⟩
theorem d_LBWorker_namesKept_24 : decode mm_LBWorker_namesKept.2.1 24 = .ok (.ifCond .eq 7, 3) ∧ 24 + 3 = 27 ∧ ((24 : Nat) : Int) + (7) = ((31 : Nat) : Int) := ⟨by decide +kernel, rfl, by decide⟩
theorem d_LBWorker_namesKept_27 : decode mm_LBWorker_namesKept.2.1 27 = .ok (.iconst 1, 1) ∧ 27 + 1 = 28 := ⟨by decide +kernel, rfl⟩
theorem d_LBWorker_namesKept_28 : decode mm_LBWorker_namesKept.2.1 28 = .ok (.goto 4, 3) ∧ 28 + 3 = 31 ∧ ((28 : Nat) : Int) + (4) = ((32 : Nat) : Int) := ⟨by decide +kernel, rfl, by decide⟩
theorem d_LBWorker_namesKept_31 : decode mm_LBWorker_namesKept.2.1 31 = .ok (.iconst 0, 1) ∧ 31 + 1 = 32 := ⟨by decide +kernel, rfl⟩
theorem d_LBWorker_namesKept_32 : decode mm_LBWorker_namesKept.2.1 32 = .ok (.iadd, 1) ∧ 32 + 1 = 33 := ⟨by decide +kernel, rfl⟩
theorem d_LBWorker_namesKept_33 : decode mm_LBWorker_namesKept.2.1 33 = .ok (.istore_n 1, 1) ∧ 33 + 1 = 34 := ⟨by decide +kernel, rfl⟩
theorem d_LBWorker_namesKept_34 : decode mm_LBWorker_namesKept.2.1 34 = .ok (.iinc 2 1, 3) ∧ 34 + 3 = 37 := ⟨by decide +kernel, rfl⟩
theorem d_LBWorker_namesKept_37 : decode mm_LBWorker_namesKept.2.1 37 = .ok (.goto (-33), 3) ∧ 37 + 3 = 40 ∧ ((37 : Nat) : Int) + (-33) = ((4 : Nat) : Int) := ⟨by decide +kernel, rfl, by decide⟩
theorem d_LBWorker_namesKept_40 : decode mm_LBWorker_namesKept.2.1 40 = .ok (.iload_n 1, 1) ∧ 40 + 1 = 41 := ⟨by decide +kernel, rfl⟩
theorem d_LBWorker_namesKept_41 : decode mm_LBWorker_namesKept.2.1 41 = .ok (.ireturn, 1) := by decide +kernel
theorem d_LBWorker_isClosed_0 : decode mm_LBWorker_isClosed.2.1 0 = .ok (.aload_n 0, 1) ∧ 0 + 1 = 1 := ⟨by decide +kernel, rfl⟩
theorem d_LBWorker_isClosed_1 : decode mm_LBWorker_isClosed.2.1 1 = .ok (.getfield 49, 3) ∧ 1 + 3 = 4 := ⟨by decide +kernel, rfl⟩
theorem d_LBWorker_isClosed_4 : decode mm_LBWorker_isClosed.2.1 4 = .ok (.bipush 30, 2) ∧ 4 + 2 = 6 := ⟨by decide +kernel, rfl⟩
theorem d_LBWorker_isClosed_6 : decode mm_LBWorker_isClosed.2.1 6 = .ok (.if_icmp .lt 7, 3) ∧ 6 + 3 = 9 ∧ ((6 : Nat) : Int) + (7) = ((13 : Nat) : Int) := ⟨by decide +kernel, rfl, by decide⟩
theorem d_LBWorker_isClosed_9 : decode mm_LBWorker_isClosed.2.1 9 = .ok (.iconst 1, 1) ∧ 9 + 1 = 10 := ⟨by decide +kernel, rfl⟩
theorem d_LBWorker_isClosed_10 : decode mm_LBWorker_isClosed.2.1 10 = .ok (.goto 4, 3) ∧ 10 + 3 = 13 ∧ ((10 : Nat) : Int) + (4) = ((14 : Nat) : Int) := ⟨by decide +kernel, rfl, by decide⟩
theorem d_LBWorker_isClosed_13 : decode mm_LBWorker_isClosed.2.1 13 = .ok (.iconst 0, 1) ∧ 13 + 1 = 14 := ⟨by decide +kernel, rfl⟩
theorem d_LBWorker_isClosed_14 : decode mm_LBWorker_isClosed.2.1 14 = .ok (.ireturn, 1) := by decide +kernel
theorem d_LBWorker_answerOf_0 : decode mm_LBWorker_answerOf.2.1 0 = .ok (.lload_n 1, 1) ∧ 0 + 1 = 1 := ⟨by decide +kernel, rfl⟩
theorem d_LBWorker_answerOf_1 : decode mm_LBWorker_answerOf.2.1 1 = .ok (.invokestatic 53, 3) ∧ 1 + 3 = 4 := ⟨by decide +kernel, rfl⟩
theorem d_LBWorker_answerOf_4 : decode mm_LBWorker_answerOf.2.1 4 = .ok (.ifCond .ne 5, 3) ∧ 4 + 3 = 7 ∧ ((4 : Nat) : Int) + (5) = ((9 : Nat) : Int) := ⟨by decide +kernel, rfl, by decide⟩
theorem d_LBWorker_answerOf_7 : decode mm_LBWorker_answerOf.2.1 7 = .ok (.iconst 0, 1) ∧ 7 + 1 = 8 := ⟨by decide +kernel, rfl⟩
theorem d_LBWorker_answerOf_8 : decode mm_LBWorker_answerOf.2.1 8 = .ok (.ireturn, 1) := by decide +kernel
theorem d_LBWorker_answerOf_9 : decode mm_LBWorker_answerOf.2.1 9 = .ok (.aload_n 0, 1) ∧ 9 + 1 = 10 := ⟨by decide +kernel, rfl⟩
theorem d_LBWorker_answerOf_10 : decode mm_LBWorker_answerOf.2.1 10 = .ok (.dup, 1) ∧ 10 + 1 = 11 := ⟨by decide +kernel, rfl⟩
theorem d_LBWorker_answerOf_11 : decode mm_LBWorker_answerOf.2.1 11 = .ok (.getfield 49, 3) ∧ 11 + 3 = 14 := ⟨by decide +kernel, rfl⟩
theorem d_LBWorker_answerOf_14 : decode mm_LBWorker_answerOf.2.1 14 = .ok (.iconst 1, 1) ∧ 14 + 1 = 15 := ⟨by decide +kernel, rfl⟩
theorem d_LBWorker_answerOf_15 : decode mm_LBWorker_answerOf.2.1 15 = .ok (.iadd, 1) ∧ 15 + 1 = 16 := ⟨by decide +kernel, rfl⟩
theorem d_LBWorker_answerOf_16 : decode mm_LBWorker_answerOf.2.1 16 = .ok (.putfield 49, 3) ∧ 16 + 3 = 19 := ⟨by decide +kernel, rfl⟩
theorem d_LBWorker_answerOf_19 : decode mm_LBWorker_answerOf.2.1 19 = .ok (.lload_n 1, 1) ∧ 19 + 1 = 20 := ⟨by decide +kernel, rfl⟩
theorem d_LBWorker_answerOf_20 : decode mm_LBWorker_answerOf.2.1 20 = .ok (.ldc2_w 43, 3) ∧ 20 + 3 = 23 := ⟨by decide +kernel, rfl⟩
theorem d_LBWorker_answerOf_23 : decode mm_LBWorker_answerOf.2.1 23 = .ok (.lsub, 1) ∧ 23 + 1 = 24 := ⟨by decide +kernel, rfl⟩
theorem d_LBWorker_answerOf_24 : decode mm_LBWorker_answerOf.2.1 24 = .ok (.l2i, 1) ∧ 24 + 1 = 25 := ⟨by decide +kernel, rfl⟩
theorem d_LBWorker_answerOf_25 : decode mm_LBWorker_answerOf.2.1 25 = .ok (.ireturn, 1) := by decide +kernel
theorem d_LBWorker_workOutName_0 : decode mm_LBWorker_workOutName.2.1 0 = .ok (.aload_n 0, 1) ∧ 0 + 1 = 1 := ⟨by decide +kernel, rfl⟩
theorem d_LBWorker_workOutName_1 : decode mm_LBWorker_workOutName.2.1 1 = .ok (.iconst 1, 1) ∧ 1 + 1 = 2 := ⟨by decide +kernel, rfl⟩
theorem d_LBWorker_workOutName_2 : decode mm_LBWorker_workOutName.2.1 2 = .ok (.putfield 57, 3) ∧ 2 + 3 = 5 := ⟨by decide +kernel, rfl⟩
theorem d_LBWorker_workOutName_5 : decode mm_LBWorker_workOutName.2.1 5 = .ok (.aload_n 0, 1) ∧ 5 + 1 = 6 := ⟨by decide +kernel, rfl⟩
theorem d_LBWorker_workOutName_6 : decode mm_LBWorker_workOutName.2.1 6 = .ok (.iload_n 1, 1) ∧ 6 + 1 = 7 := ⟨by decide +kernel, rfl⟩
theorem d_LBWorker_workOutName_7 : decode mm_LBWorker_workOutName.2.1 7 = .ok (.iconst 1, 1) ∧ 7 + 1 = 8 := ⟨by decide +kernel, rfl⟩
theorem d_LBWorker_workOutName_8 : decode mm_LBWorker_workOutName.2.1 8 = .ok (.invokevirtual 60, 3) ∧ 8 + 3 = 11 := ⟨by decide +kernel, rfl⟩
theorem d_LBWorker_workOutName_11 : decode mm_LBWorker_workOutName.2.1 11 = .ok (.lreturn, 1) := by decide +kernel
theorem d_LBWorker_workOutText_0 : decode mm_LBWorker_workOutText.2.1 0 = .ok (.aload_n 0, 1) ∧ 0 + 1 = 1 := ⟨by decide +kernel, rfl⟩
theorem d_LBWorker_workOutText_1 : decode mm_LBWorker_workOutText.2.1 1 = .ok (.iconst 0, 1) ∧ 1 + 1 = 2 := ⟨by decide +kernel, rfl⟩
theorem d_LBWorker_workOutText_2 : decode mm_LBWorker_workOutText.2.1 2 = .ok (.putfield 57, 3) ∧ 2 + 3 = 5 := ⟨by decide +kernel, rfl⟩
theorem d_LBWorker_workOutText_5 : decode mm_LBWorker_workOutText.2.1 5 = .ok (.aload_n 0, 1) ∧ 5 + 1 = 6 := ⟨by decide +kernel, rfl⟩
theorem d_LBWorker_workOutText_6 : decode mm_LBWorker_workOutText.2.1 6 = .ok (.aload_n 1, 1) ∧ 6 + 1 = 7 := ⟨by decide +kernel, rfl⟩
theorem d_LBWorker_workOutText_7 : decode mm_LBWorker_workOutText.2.1 7 = .ok (.iconst 0, 1) ∧ 7 + 1 = 8 := ⟨by decide +kernel, rfl⟩
theorem d_LBWorker_workOutText_8 : decode mm_LBWorker_workOutText.2.1 8 = .ok (.iconst 1, 1) ∧ 8 + 1 = 9 := ⟨by decide +kernel, rfl⟩
theorem d_LBWorker_workOutText_9 : decode mm_LBWorker_workOutText.2.1 9 = .ok (.invokevirtual 64, 3) ∧ 9 + 3 = 12 := ⟨by decide +kernel, rfl⟩
theorem d_LBWorker_workOutText_12 : decode mm_LBWorker_workOutText.2.1 12 = .ok (.lreturn, 1) := by decide +kernel
theorem d_LBWorker_work_0 : decode mm_LBWorker_work.2.1 0 = .ok (.aload_n 0, 1) ∧ 0 + 1 = 1 := ⟨by decide +kernel, rfl⟩
theorem d_LBWorker_work_1 : decode mm_LBWorker_work.2.1 1 = .ok (.getfield 57, 3) ∧ 1 + 3 = 4 := ⟨by decide +kernel, rfl⟩
theorem d_LBWorker_work_4 : decode mm_LBWorker_work.2.1 4 = .ok (.sipush 200, 3) ∧ 4 + 3 = 7 := ⟨by decide +kernel, rfl⟩
theorem d_LBWorker_work_7 : decode mm_LBWorker_work.2.1 7 = .ok (.if_icmp .ge 9, 3) ∧ 7 + 3 = 10 ∧ ((7 : Nat) : Int) + (9) = ((16 : Nat) : Int) := ⟨by decide +kernel, rfl, by decide⟩
theorem d_LBWorker_work_10 : decode mm_LBWorker_work.2.1 10 = .ok (.iload_n 3, 1) ∧ 10 + 1 = 11 := ⟨by decide +kernel, rfl⟩
theorem d_LBWorker_work_11 : decode mm_LBWorker_work.2.1 11 = .ok (.bipush 72, 2) ∧ 11 + 2 = 13 := ⟨by decide +kernel, rfl⟩
theorem d_LBWorker_work_13 : decode mm_LBWorker_work.2.1 13 = .ok (.if_icmp .le 7, 3) ∧ 13 + 3 = 16 ∧ ((13 : Nat) : Int) + (7) = ((20 : Nat) : Int) := ⟨by decide +kernel, rfl, by decide⟩
theorem d_LBWorker_work_16 : decode mm_LBWorker_work.2.1 16 = .ok (.ldc2_w 68, 3) ∧ 16 + 3 = 19 := ⟨by decide +kernel, rfl⟩
theorem d_LBWorker_work_19 : decode mm_LBWorker_work.2.1 19 = .ok (.lreturn, 1) := by decide +kernel
theorem d_LBWorker_work_20 : decode mm_LBWorker_work.2.1 20 = .ok (.aload_n 0, 1) ∧ 20 + 1 = 21 := ⟨by decide +kernel, rfl⟩
theorem d_LBWorker_work_21 : decode mm_LBWorker_work.2.1 21 = .ok (.dup, 1) ∧ 21 + 1 = 22 := ⟨by decide +kernel, rfl⟩
theorem d_LBWorker_work_22 : decode mm_LBWorker_work.2.1 22 = .ok (.getfield 57, 3) ∧ 22 + 3 = 25 := ⟨by decide +kernel, rfl⟩
theorem d_LBWorker_work_25 : decode mm_LBWorker_work.2.1 25 = .ok (.iconst 1, 1) ∧ 25 + 1 = 26 := ⟨by decide +kernel, rfl⟩
theorem d_LBWorker_work_26 : decode mm_LBWorker_work.2.1 26 = .ok (.iadd, 1) ∧ 26 + 1 = 27 := ⟨by decide +kernel, rfl⟩
theorem d_LBWorker_work_27 : decode mm_LBWorker_work.2.1 27 = .ok (.putfield 57, 3) ∧ 27 + 3 = 30 := ⟨by decide +kernel, rfl⟩
theorem d_LBWorker_work_30 : decode mm_LBWorker_work.2.1 30 = .ok (.aload_n 1, 1) ∧ 30 + 1 = 31 := ⟨by decide +kernel, rfl⟩
theorem d_LBWorker_work_31 : decode mm_LBWorker_work.2.1 31 = .ok (.iload_n 2, 1) ∧ 31 + 1 = 32 := ⟨by decide +kernel, rfl⟩
theorem d_LBWorker_work_32 : decode mm_LBWorker_work.2.1 32 = .ok (.invokevirtual 70, 3) ∧ 32 + 3 = 35 := ⟨by decide +kernel, rfl⟩
theorem d_LBWorker_work_35 : decode mm_LBWorker_work.2.1 35 = .ok (.istore 4, 2) ∧ 35 + 2 = 37 := ⟨by decide +kernel, rfl⟩
theorem d_LBWorker_work_37 : decode mm_LBWorker_work.2.1 37 = .ok (.iload 4, 2) ∧ 37 + 2 = 39 := ⟨by decide +kernel, rfl⟩
theorem d_LBWorker_work_39 : decode mm_LBWorker_work.2.1 39 = .ok (.invokestatic 74, 3) ∧ 39 + 3 = 42 := ⟨by decide +kernel, rfl⟩
theorem d_LBWorker_work_42 : decode mm_LBWorker_work.2.1 42 = .ok (.ifCond .eq 10, 3) ∧ 42 + 3 = 45 ∧ ((42 : Nat) : Int) + (10) = ((52 : Nat) : Int) := ⟨by decide +kernel, rfl, by decide⟩
theorem d_LBWorker_work_45 : decode mm_LBWorker_work.2.1 45 = .ok (.iload 4, 2) ∧ 45 + 2 = 47 := ⟨by decide +kernel, rfl⟩
theorem d_LBWorker_work_47 : decode mm_LBWorker_work.2.1 47 = .ok (.bipush 48, 2) ∧ 47 + 2 = 49 := ⟨by decide +kernel, rfl⟩
theorem d_LBWorker_work_49 : decode mm_LBWorker_work.2.1 49 = .ok (.isub, 1) ∧ 49 + 1 = 50 := ⟨by decide +kernel, rfl⟩
theorem d_LBWorker_work_50 : decode mm_LBWorker_work.2.1 50 = .ok (.i2l, 1) ∧ 50 + 1 = 51 := ⟨by decide +kernel, rfl⟩
theorem d_LBWorker_work_51 : decode mm_LBWorker_work.2.1 51 = .ok (.lreturn, 1) := by decide +kernel
theorem d_LBWorker_work_52 : decode mm_LBWorker_work.2.1 52 = .ok (.iload 4, 2) ∧ 52 + 2 = 54 := ⟨by decide +kernel, rfl⟩
theorem d_LBWorker_work_54 : decode mm_LBWorker_work.2.1 54 = .ok (.invokestatic 78, 3) ∧ 54 + 3 = 57 := ⟨by decide +kernel, rfl⟩
theorem d_LBWorker_work_57 : decode mm_LBWorker_work.2.1 57 = .ok (.ifCond .eq 14, 3) ∧ 57 + 3 = 60 ∧ ((57 : Nat) : Int) + (14) = ((71 : Nat) : Int) := ⟨by decide +kernel, rfl, by decide⟩
theorem d_LBWorker_work_60 : decode mm_LBWorker_work.2.1 60 = .ok (.aload_n 0, 1) ∧ 60 + 1 = 61 := ⟨by decide +kernel, rfl⟩
theorem d_LBWorker_work_61 : decode mm_LBWorker_work.2.1 61 = .ok (.iload 4, 2) ∧ 61 + 2 = 63 := ⟨by decide +kernel, rfl⟩
theorem d_LBWorker_work_63 : decode mm_LBWorker_work.2.1 63 = .ok (.bipush 97, 2) ∧ 63 + 2 = 65 := ⟨by decide +kernel, rfl⟩
theorem d_LBWorker_work_65 : decode mm_LBWorker_work.2.1 65 = .ok (.isub, 1) ∧ 65 + 1 = 66 := ⟨by decide +kernel, rfl⟩
theorem d_LBWorker_work_66 : decode mm_LBWorker_work.2.1 66 = .ok (.iload_n 3, 1) ∧ 66 + 1 = 67 := ⟨by decide +kernel, rfl⟩
theorem d_LBWorker_work_67 : decode mm_LBWorker_work.2.1 67 = .ok (.invokevirtual 60, 3) ∧ 67 + 3 = 70 := ⟨by decide +kernel, rfl⟩
theorem d_LBWorker_work_70 : decode mm_LBWorker_work.2.1 70 = .ok (.lreturn, 1) := by decide +kernel
theorem d_LBWorker_work_71 : decode mm_LBWorker_work.2.1 71 = .ok (.iload 4, 2) ∧ 71 + 2 = 73 := ⟨by decide +kernel, rfl⟩
theorem d_LBWorker_work_73 : decode mm_LBWorker_work.2.1 73 = .ok (.lookupswitch 91 #[(33, 59), (63, 51), (68, 75), (79, 83), (84, 67)], 51) := by decide +kernel
theorem d_LBWorker_work_124 : decode mm_LBWorker_work.2.1 124 = .ok (.aload_n 0, 1) ∧ 124 + 1 = 125 := ⟨by decide +kernel, rfl⟩
theorem d_LBWorker_work_125 : decode mm_LBWorker_work.2.1 125 = .ok (.aload_n 1, 1) ∧ 125 + 1 = 126 := ⟨by decide +kernel, rfl⟩
theorem d_LBWorker_work_126 : decode mm_LBWorker_work.2.1 126 = .ok (.iload_n 2, 1) ∧ 126 + 1 = 127 := ⟨by decide +kernel, rfl⟩
theorem d_LBWorker_work_127 : decode mm_LBWorker_work.2.1 127 = .ok (.iload_n 3, 1) ∧ 127 + 1 = 128 := ⟨by decide +kernel, rfl⟩
theorem d_LBWorker_work_128 : decode mm_LBWorker_work.2.1 128 = .ok (.invokevirtual 81, 3) ∧ 128 + 3 = 131 := ⟨by decide +kernel, rfl⟩
theorem d_LBWorker_work_131 : decode mm_LBWorker_work.2.1 131 = .ok (.lreturn, 1) := by decide +kernel
theorem d_LBWorker_work_132 : decode mm_LBWorker_work.2.1 132 = .ok (.aload_n 0, 1) ∧ 132 + 1 = 133 := ⟨by decide +kernel, rfl⟩
theorem d_LBWorker_work_133 : decode mm_LBWorker_work.2.1 133 = .ok (.aload_n 1, 1) ∧ 133 + 1 = 134 := ⟨by decide +kernel, rfl⟩
theorem d_LBWorker_work_134 : decode mm_LBWorker_work.2.1 134 = .ok (.iload_n 2, 1) ∧ 134 + 1 = 135 := ⟨by decide +kernel, rfl⟩
theorem d_LBWorker_work_135 : decode mm_LBWorker_work.2.1 135 = .ok (.iload_n 3, 1) ∧ 135 + 1 = 136 := ⟨by decide +kernel, rfl⟩
theorem d_LBWorker_work_136 : decode mm_LBWorker_work.2.1 136 = .ok (.invokevirtual 84, 3) ∧ 136 + 3 = 139 := ⟨by decide +kernel, rfl⟩
theorem d_LBWorker_work_139 : decode mm_LBWorker_work.2.1 139 = .ok (.lreturn, 1) := by decide +kernel
theorem d_LBWorker_work_140 : decode mm_LBWorker_work.2.1 140 = .ok (.aload_n 0, 1) ∧ 140 + 1 = 141 := ⟨by decide +kernel, rfl⟩
theorem d_LBWorker_work_141 : decode mm_LBWorker_work.2.1 141 = .ok (.aload_n 1, 1) ∧ 141 + 1 = 142 := ⟨by decide +kernel, rfl⟩
theorem d_LBWorker_work_142 : decode mm_LBWorker_work.2.1 142 = .ok (.iload_n 2, 1) ∧ 142 + 1 = 143 := ⟨by decide +kernel, rfl⟩
theorem d_LBWorker_work_143 : decode mm_LBWorker_work.2.1 143 = .ok (.iload_n 3, 1) ∧ 143 + 1 = 144 := ⟨by decide +kernel, rfl⟩
theorem d_LBWorker_work_144 : decode mm_LBWorker_work.2.1 144 = .ok (.invokevirtual 87, 3) ∧ 144 + 3 = 147 := ⟨by decide +kernel, rfl⟩
theorem d_LBWorker_work_147 : decode mm_LBWorker_work.2.1 147 = .ok (.lreturn, 1) := by decide +kernel
theorem d_LBWorker_work_148 : decode mm_LBWorker_work.2.1 148 = .ok (.aload_n 0, 1) ∧ 148 + 1 = 149 := ⟨by decide +kernel, rfl⟩
theorem d_LBWorker_work_149 : decode mm_LBWorker_work.2.1 149 = .ok (.aload_n 1, 1) ∧ 149 + 1 = 150 := ⟨by decide +kernel, rfl⟩
theorem d_LBWorker_work_150 : decode mm_LBWorker_work.2.1 150 = .ok (.iload_n 2, 1) ∧ 150 + 1 = 151 := ⟨by decide +kernel, rfl⟩
theorem d_LBWorker_work_151 : decode mm_LBWorker_work.2.1 151 = .ok (.iload_n 3, 1) ∧ 151 + 1 = 152 := ⟨by decide +kernel, rfl⟩
theorem d_LBWorker_work_152 : decode mm_LBWorker_work.2.1 152 = .ok (.invokevirtual 90, 3) ∧ 152 + 3 = 155 := ⟨by decide +kernel, rfl⟩
theorem d_LBWorker_work_155 : decode mm_LBWorker_work.2.1 155 = .ok (.lreturn, 1) := by decide +kernel
theorem d_LBWorker_work_156 : decode mm_LBWorker_work.2.1 156 = .ok (.aload_n 0, 1) ∧ 156 + 1 = 157 := ⟨by decide +kernel, rfl⟩
theorem d_LBWorker_work_157 : decode mm_LBWorker_work.2.1 157 = .ok (.aload_n 1, 1) ∧ 157 + 1 = 158 := ⟨by decide +kernel, rfl⟩
theorem d_LBWorker_work_158 : decode mm_LBWorker_work.2.1 158 = .ok (.iload_n 2, 1) ∧ 158 + 1 = 159 := ⟨by decide +kernel, rfl⟩
theorem d_LBWorker_work_159 : decode mm_LBWorker_work.2.1 159 = .ok (.iload_n 3, 1) ∧ 159 + 1 = 160 := ⟨by decide +kernel, rfl⟩
theorem d_LBWorker_work_160 : decode mm_LBWorker_work.2.1 160 = .ok (.invokevirtual 93, 3) ∧ 160 + 3 = 163 := ⟨by decide +kernel, rfl⟩
theorem d_LBWorker_work_163 : decode mm_LBWorker_work.2.1 163 = .ok (.lreturn, 1) := by decide +kernel
theorem d_LBWorker_work_164 : decode mm_LBWorker_work.2.1 164 = .ok (.aload_n 0, 1) ∧ 164 + 1 = 165 := ⟨by decide +kernel, rfl⟩
theorem d_LBWorker_work_165 : decode mm_LBWorker_work.2.1 165 = .ok (.aload_n 1, 1) ∧ 165 + 1 = 166 := ⟨by decide +kernel, rfl⟩
theorem d_LBWorker_work_166 : decode mm_LBWorker_work.2.1 166 = .ok (.iload_n 2, 1) ∧ 166 + 1 = 167 := ⟨by decide +kernel, rfl⟩
theorem d_LBWorker_work_167 : decode mm_LBWorker_work.2.1 167 = .ok (.iload_n 3, 1) ∧ 167 + 1 = 168 := ⟨by decide +kernel, rfl⟩
theorem d_LBWorker_work_168 : decode mm_LBWorker_work.2.1 168 = .ok (.invokevirtual 96, 3) ∧ 168 + 3 = 171 := ⟨by decide +kernel, rfl⟩
theorem d_LBWorker_work_171 : decode mm_LBWorker_work.2.1 171 = .ok (.lreturn, 1) := by decide +kernel
theorem d_LBWorker_workName_0 : decode mm_LBWorker_workName.2.1 0 = .ok (.aload_n 0, 1) ∧ 0 + 1 = 1 := ⟨by decide +kernel, rfl⟩
theorem d_LBWorker_workName_1 : decode mm_LBWorker_workName.2.1 1 = .ok (.getfield 17, 3) ∧ 1 + 3 = 4 := ⟨by decide +kernel, rfl⟩
theorem d_LBWorker_workName_4 : decode mm_LBWorker_workName.2.1 4 = .ok (.iload_n 1, 1) ∧ 4 + 1 = 5 := ⟨by decide +kernel, rfl⟩
theorem d_LBWorker_workName_5 : decode mm_LBWorker_workName.2.1 5 = .ok (.aaload, 1) ∧ 5 + 1 = 6 := ⟨by decide +kernel, rfl⟩
theorem d_LBWorker_workName_6 : decode mm_LBWorker_workName.2.1 6 = .ok (.astore_n 3, 1) ∧ 6 + 1 = 7 := ⟨by decide +kernel, rfl⟩
theorem d_LBWorker_workName_7 : decode mm_LBWorker_workName.2.1 7 = .ok (.aload_n 3, 1) ∧ 7 + 1 = 8 := ⟨by decide +kernel, rfl⟩
theorem d_LBWorker_workName_8 : decode mm_LBWorker_workName.2.1 8 = .ok (.getfield 36, 3) ∧ 8 + 3 = 11 := ⟨by decide +kernel, rfl⟩
theorem d_LBWorker_workName_11 : decode mm_LBWorker_workName.2.1 11 = .ok (.ifCond .ne 7, 3) ∧ 11 + 3 = 14 ∧ ((11 : Nat) : Int) + (7) = ((18 : Nat) : Int) := ⟨by decide +kernel, rfl, by decide⟩
theorem d_LBWorker_workName_14 : decode mm_LBWorker_workName.2.1 14 = .ok (.ldc2_w 99, 3) ∧ 14 + 3 = 17 := ⟨by decide +kernel, rfl⟩
theorem d_LBWorker_workName_17 : decode mm_LBWorker_workName.2.1 17 = .ok (.lreturn, 1) := by decide +kernel
theorem d_LBWorker_workName_18 : decode mm_LBWorker_workName.2.1 18 = .ok (.aload_n 3, 1) ∧ 18 + 1 = 19 := ⟨by decide +kernel, rfl⟩
theorem d_LBWorker_workName_19 : decode mm_LBWorker_workName.2.1 19 = .ok (.getfield 101, 3) ∧ 19 + 3 = 22 := ⟨by decide +kernel, rfl⟩
theorem d_LBWorker_workName_22 : decode mm_LBWorker_workName.2.1 22 = .ok (.ifCond .eq 7, 3) ∧ 22 + 3 = 25 ∧ ((22 : Nat) : Int) + (7) = ((29 : Nat) : Int) := ⟨by decide +kernel, rfl, by decide⟩
theorem d_LBWorker_workName_25 : decode mm_LBWorker_workName.2.1 25 = .ok (.ldc2_w 104, 3) ∧ 25 + 3 = 28 := ⟨by decide +kernel, rfl⟩
theorem d_LBWorker_workName_28 : decode mm_LBWorker_workName.2.1 28 = .ok (.lreturn, 1) := by decide +kernel
theorem d_LBWorker_workName_29 : decode mm_LBWorker_workName.2.1 29 = .ok (.aload_n 3, 1) ∧ 29 + 1 = 30 := ⟨by decide +kernel, rfl⟩
theorem d_LBWorker_workName_30 : decode mm_LBWorker_workName.2.1 30 = .ok (.getfield 45, 3) ∧ 30 + 3 = 33 := ⟨by decide +kernel, rfl⟩
theorem d_LBWorker_workName_33 : decode mm_LBWorker_workName.2.1 33 = .ok (.ldc2_w 43, 3) ∧ 33 + 3 = 36 := ⟨by decide +kernel, rfl⟩
theorem d_LBWorker_workName_36 : decode mm_LBWorker_workName.2.1 36 = .ok (.lcmp, 1) ∧ 36 + 1 = 37 := ⟨by decide +kernel, rfl⟩
theorem d_LBWorker_workName_37 : decode mm_LBWorker_workName.2.1 37 = .ok (.ifCond .eq 8, 3) ∧ 37 + 3 = 40 ∧ ((37 : Nat) : Int) + (8) = ((45 : Nat) : Int) := ⟨by decide +kernel, rfl, by decide⟩
theorem d_LBWorker_workName_40 : decode mm_LBWorker_workName.2.1 40 = .ok (.aload_n 3, 1) ∧ 40 + 1 = 41 := ⟨by decide +kernel, rfl⟩
theorem d_LBWorker_workName_41 : decode mm_LBWorker_workName.2.1 41 = .ok (.getfield 45, 3) ∧ 41 + 3 = 44 := ⟨by decide +kernel, rfl⟩
theorem d_LBWorker_workName_44 : decode mm_LBWorker_workName.2.1 44 = .ok (.lreturn, 1) := by decide +kernel
theorem d_LBWorker_workName_45 : decode mm_LBWorker_workName.2.1 45 = .ok (.aload_n 3, 1) ∧ 45 + 1 = 46 := ⟨by decide +kernel, rfl⟩
theorem d_LBWorker_workName_46 : decode mm_LBWorker_workName.2.1 46 = .ok (.iconst 1, 1) ∧ 46 + 1 = 47 := ⟨by decide +kernel, rfl⟩
theorem d_LBWorker_workName_47 : decode mm_LBWorker_workName.2.1 47 = .ok (.putfield 101, 3) ∧ 47 + 3 = 50 := ⟨by decide +kernel, rfl⟩
theorem d_LBWorker_workName_50 : decode mm_LBWorker_workName.2.1 50 = .ok (.aload_n 0, 1) ∧ 50 + 1 = 51 := ⟨by decide +kernel, rfl⟩
theorem d_LBWorker_workName_51 : decode mm_LBWorker_workName.2.1 51 = .ok (.aload_n 3, 1) ∧ 51 + 1 = 52 := ⟨by decide +kernel, rfl⟩
theorem d_LBWorker_workName_52 : decode mm_LBWorker_workName.2.1 52 = .ok (.getfield 26, 3) ∧ 52 + 3 = 55 := ⟨by decide +kernel, rfl⟩
theorem d_LBWorker_workName_55 : decode mm_LBWorker_workName.2.1 55 = .ok (.iconst 0, 1) ∧ 55 + 1 = 56 := ⟨by decide +kernel, rfl⟩
theorem d_LBWorker_workName_56 : decode mm_LBWorker_workName.2.1 56 = .ok (.iload_n 2, 1) ∧ 56 + 1 = 57 := ⟨by decide +kernel, rfl⟩
theorem d_LBWorker_workName_57 : decode mm_LBWorker_workName.2.1 57 = .ok (.iconst 1, 1) ∧ 57 + 1 = 58 := ⟨by decide +kernel, rfl⟩
theorem d_LBWorker_workName_58 : decode mm_LBWorker_workName.2.1 58 = .ok (.iadd, 1) ∧ 58 + 1 = 59 := ⟨by decide +kernel, rfl⟩
theorem d_LBWorker_workName_59 : decode mm_LBWorker_workName.2.1 59 = .ok (.invokevirtual 64, 3) ∧ 59 + 3 = 62 := ⟨by decide +kernel, rfl⟩
theorem d_LBWorker_workName_62 : decode mm_LBWorker_workName.2.1 62 = .ok (.lstore 4, 2) ∧ 62 + 2 = 64 := ⟨by decide +kernel, rfl⟩
theorem d_LBWorker_workName_64 : decode mm_LBWorker_workName.2.1 64 = .ok (.aload_n 3, 1) ∧ 64 + 1 = 65 := ⟨by decide +kernel, rfl⟩
theorem d_LBWorker_workName_65 : decode mm_LBWorker_workName.2.1 65 = .ok (.iconst 0, 1) ∧ 65 + 1 = 66 := ⟨by decide +kernel, rfl⟩
theorem d_LBWorker_workName_66 : decode mm_LBWorker_workName.2.1 66 = .ok (.putfield 101, 3) ∧ 66 + 3 = 69 := ⟨by decide +kernel, rfl⟩
theorem d_LBWorker_workName_69 : decode mm_LBWorker_workName.2.1 69 = .ok (.lload 4, 2) ∧ 69 + 2 = 71 := ⟨by decide +kernel, rfl⟩
theorem d_LBWorker_workName_71 : decode mm_LBWorker_workName.2.1 71 = .ok (.invokestatic 53, 3) ∧ 71 + 3 = 74 := ⟨by decide +kernel, rfl⟩
theorem d_LBWorker_workName_74 : decode mm_LBWorker_workName.2.1 74 = .ok (.ifCond .ne 9, 3) ∧ 74 + 3 = 77 ∧ ((74 : Nat) : Int) + (9) = ((83 : Nat) : Int) := ⟨by decide +kernel, rfl, by decide⟩
theorem d_LBWorker_workName_77 : decode mm_LBWorker_workName.2.1 77 = .ok (.aload_n 3, 1) ∧ 77 + 1 = 78 := ⟨by decide +kernel, rfl⟩
theorem d_LBWorker_workName_78 : decode mm_LBWorker_workName.2.1 78 = .ok (.lload 4, 2) ∧ 78 + 2 = 80 := ⟨by decide +kernel, rfl⟩
theorem d_LBWorker_workName_80 : decode mm_LBWorker_workName.2.1 80 = .ok (.putfield 45, 3) ∧ 80 + 3 = 83 := ⟨by decide +kernel, rfl⟩
theorem d_LBWorker_workName_83 : decode mm_LBWorker_workName.2.1 83 = .ok (.lload 4, 2) ∧ 83 + 2 = 85 := ⟨by decide +kernel, rfl⟩
theorem d_LBWorker_workName_85 : decode mm_LBWorker_workName.2.1 85 = .ok (.lreturn, 1) := by decide +kernel
theorem d_LBWorker_workPair_0 : decode mm_LBWorker_workPair.2.1 0 = .ok (.aload_n 0, 1) ∧ 0 + 1 = 1 := ⟨by decide +kernel, rfl⟩
theorem d_LBWorker_workPair_1 : decode mm_LBWorker_workPair.2.1 1 = .ok (.aload_n 1, 1) ∧ 1 + 1 = 2 := ⟨by decide +kernel, rfl⟩
theorem d_LBWorker_workPair_2 : decode mm_LBWorker_workPair.2.1 2 = .ok (.iload_n 2, 1) ∧ 2 + 1 = 3 := ⟨by decide +kernel, rfl⟩
theorem d_LBWorker_workPair_3 : decode mm_LBWorker_workPair.2.1 3 = .ok (.iconst 1, 1) ∧ 3 + 1 = 4 := ⟨by decide +kernel, rfl⟩
theorem d_LBWorker_workPair_4 : decode mm_LBWorker_workPair.2.1 4 = .ok (.iadd, 1) ∧ 4 + 1 = 5 := ⟨by decide +kernel, rfl⟩
theorem d_LBWorker_workPair_5 : decode mm_LBWorker_workPair.2.1 5 = .ok (.iload_n 3, 1) ∧ 5 + 1 = 6 := ⟨by decide +kernel, rfl⟩
theorem d_LBWorker_workPair_6 : decode mm_LBWorker_workPair.2.1 6 = .ok (.iconst 1, 1) ∧ 6 + 1 = 7 := ⟨by decide +kernel, rfl⟩
theorem d_LBWorker_workPair_7 : decode mm_LBWorker_workPair.2.1 7 = .ok (.iadd, 1) ∧ 7 + 1 = 8 := ⟨by decide +kernel, rfl⟩
theorem d_LBWorker_workPair_8 : decode mm_LBWorker_workPair.2.1 8 = .ok (.invokevirtual 64, 3) ∧ 8 + 3 = 11 := ⟨by decide +kernel, rfl⟩
theorem d_LBWorker_workPair_11 : decode mm_LBWorker_workPair.2.1 11 = .ok (.lstore 4, 2) ∧ 11 + 2 = 13 := ⟨by decide +kernel, rfl⟩
theorem d_LBWorker_workPair_13 : decode mm_LBWorker_workPair.2.1 13 = .ok (.lload 4, 2) ∧ 13 + 2 = 15 := ⟨by decide +kernel, rfl⟩
theorem d_LBWorker_workPair_15 : decode mm_LBWorker_workPair.2.1 15 = .ok (.invokestatic 53, 3) ∧ 15 + 3 = 18 := ⟨by decide +kernel, rfl⟩
theorem d_LBWorker_workPair_18 : decode mm_LBWorker_workPair.2.1 18 = .ok (.ifCond .eq 6, 3) ∧ 18 + 3 = 21 ∧ ((18 : Nat) : Int) + (6) = ((24 : Nat) : Int) := ⟨by decide +kernel, rfl, by decide⟩
theorem d_LBWorker_workPair_21 : decode mm_LBWorker_workPair.2.1 21 = .ok (.lload 4, 2) ∧ 21 + 2 = 23 := ⟨by decide +kernel, rfl⟩
theorem d_LBWorker_workPair_23 : decode mm_LBWorker_workPair.2.1 23 = .ok (.lreturn, 1) := by decide +kernel
theorem d_LBWorker_workPair_24 : decode mm_LBWorker_workPair.2.1 24 = .ok (.aload_n 0, 1) ∧ 24 + 1 = 25 := ⟨by decide +kernel, rfl⟩
theorem d_LBWorker_workPair_25 : decode mm_LBWorker_workPair.2.1 25 = .ok (.aload_n 1, 1) ∧ 25 + 1 = 26 := ⟨by decide +kernel, rfl⟩
theorem d_LBWorker_workPair_26 : decode mm_LBWorker_workPair.2.1 26 = .ok (.aload_n 1, 1) ∧ 26 + 1 = 27 := ⟨by decide +kernel, rfl⟩
theorem d_LBWorker_workPair_27 : decode mm_LBWorker_workPair.2.1 27 = .ok (.iload_n 2, 1) ∧ 27 + 1 = 28 := ⟨by decide +kernel, rfl⟩
theorem d_LBWorker_workPair_28 : decode mm_LBWorker_workPair.2.1 28 = .ok (.iconst 1, 1) ∧ 28 + 1 = 29 := ⟨by decide +kernel, rfl⟩
theorem d_LBWorker_workPair_29 : decode mm_LBWorker_workPair.2.1 29 = .ok (.iadd, 1) ∧ 29 + 1 = 30 := ⟨by decide +kernel, rfl⟩
theorem d_LBWorker_workPair_30 : decode mm_LBWorker_workPair.2.1 30 = .ok (.invokevirtual 106, 3) ∧ 30 + 3 = 33 := ⟨by decide +kernel, rfl⟩
theorem d_LBWorker_workPair_33 : decode mm_LBWorker_workPair.2.1 33 = .ok (.iload_n 3, 1) ∧ 33 + 1 = 34 := ⟨by decide +kernel, rfl⟩
theorem d_LBWorker_workPair_34 : decode mm_LBWorker_workPair.2.1 34 = .ok (.iconst 1, 1) ∧ 34 + 1 = 35 := ⟨by decide +kernel, rfl⟩
theorem d_LBWorker_workPair_35 : decode mm_LBWorker_workPair.2.1 35 = .ok (.iadd, 1) ∧ 35 + 1 = 36 := ⟨by decide +kernel, rfl⟩
theorem d_LBWorker_workPair_36 : decode mm_LBWorker_workPair.2.1 36 = .ok (.invokevirtual 64, 3) ∧ 36 + 3 = 39 := ⟨by decide +kernel, rfl⟩
theorem d_LBWorker_workPair_39 : decode mm_LBWorker_workPair.2.1 39 = .ok (.lstore 6, 2) ∧ 39 + 2 = 41 := ⟨by decide +kernel, rfl⟩
theorem d_LBWorker_workPair_41 : decode mm_LBWorker_workPair.2.1 41 = .ok (.lload 6, 2) ∧ 41 + 2 = 43 := ⟨by decide +kernel, rfl⟩
theorem d_LBWorker_workPair_43 : decode mm_LBWorker_workPair.2.1 43 = .ok (.invokestatic 53, 3) ∧ 43 + 3 = 46 := ⟨by decide +kernel, rfl⟩
theorem d_LBWorker_workPair_46 : decode mm_LBWorker_workPair.2.1 46 = .ok (.ifCond .eq 6, 3) ∧ 46 + 3 = 49 ∧ ((46 : Nat) : Int) + (6) = ((52 : Nat) : Int) := ⟨by decide +kernel, rfl, by decide⟩
theorem d_LBWorker_workPair_49 : decode mm_LBWorker_workPair.2.1 49 = .ok (.lload 6, 2) ∧ 49 + 2 = 51 := ⟨by decide +kernel, rfl⟩
theorem d_LBWorker_workPair_51 : decode mm_LBWorker_workPair.2.1 51 = .ok (.lreturn, 1) := by decide +kernel
theorem d_LBWorker_workPair_52 : decode mm_LBWorker_workPair.2.1 52 = .ok (.lload 4, 2) ∧ 52 + 2 = 54 := ⟨by decide +kernel, rfl⟩
theorem d_LBWorker_workPair_54 : decode mm_LBWorker_workPair.2.1 54 = .ok (.invokestatic 109, 3) ∧ 54 + 3 = 57 := ⟨by decide +kernel, rfl⟩
theorem d_LBWorker_workPair_57 : decode mm_LBWorker_workPair.2.1 57 = .ok (.ifCond .ne 11, 3) ∧ 57 + 3 = 60 ∧ ((57 : Nat) : Int) + (11) = ((68 : Nat) : Int) := ⟨by decide +kernel, rfl, by decide⟩
theorem d_LBWorker_workPair_60 : decode mm_LBWorker_workPair.2.1 60 = .ok (.lload 6, 2) ∧ 60 + 2 = 62 := ⟨by decide +kernel, rfl⟩
theorem d_LBWorker_workPair_62 : decode mm_LBWorker_workPair.2.1 62 = .ok (.invokestatic 109, 3) ∧ 62 + 3 = 65 := ⟨by decide +kernel, rfl⟩
theorem d_LBWorker_workPair_65 : decode mm_LBWorker_workPair.2.1 65 = .ok (.ifCond .eq 7, 3) ∧ 65 + 3 = 68 ∧ ((65 : Nat) : Int) + (7) = ((72 : Nat) : Int) := ⟨by decide +kernel, rfl, by decide⟩
theorem d_LBWorker_workPair_68 : decode mm_LBWorker_workPair.2.1 68 = .ok (.ldc2_w 112, 3) ∧ 68 + 3 = 71 := ⟨by decide +kernel, rfl⟩
theorem d_LBWorker_workPair_71 : decode mm_LBWorker_workPair.2.1 71 = .ok (.lreturn, 1) := by decide +kernel
theorem d_LBWorker_workPair_72 : decode mm_LBWorker_workPair.2.1 72 = .ok (.aload_n 1, 1) ∧ 72 + 1 = 73 := ⟨by decide +kernel, rfl⟩
theorem d_LBWorker_workPair_73 : decode mm_LBWorker_workPair.2.1 73 = .ok (.iload_n 2, 1) ∧ 73 + 1 = 74 := ⟨by decide +kernel, rfl⟩
theorem d_LBWorker_workPair_74 : decode mm_LBWorker_workPair.2.1 74 = .ok (.invokevirtual 70, 3) ∧ 74 + 3 = 77 := ⟨by decide +kernel, rfl⟩
theorem d_LBWorker_workPair_77 : decode mm_LBWorker_workPair.2.1 77 = .ok (.lload 4, 2) ∧ 77 + 2 = 79 := ⟨by decide +kernel, rfl⟩
theorem d_LBWorker_workPair_79 : decode mm_LBWorker_workPair.2.1 79 = .ok (.l2i, 1) ∧ 79 + 1 = 80 := ⟨by decide +kernel, rfl⟩
theorem d_LBWorker_workPair_80 : decode mm_LBWorker_workPair.2.1 80 = .ok (.lload 6, 2) ∧ 80 + 2 = 82 := ⟨by decide +kernel, rfl⟩
theorem d_LBWorker_workPair_82 : decode mm_LBWorker_workPair.2.1 82 = .ok (.l2i, 1) ∧ 82 + 1 = 83 := ⟨by decide +kernel, rfl⟩
theorem d_LBWorker_workPair_83 : decode mm_LBWorker_workPair.2.1 83 = .ok (.invokestatic 114, 3) ∧ 83 + 3 = 86 := ⟨by decide +kernel, rfl⟩
theorem d_LBWorker_workPair_86 : decode mm_LBWorker_workPair.2.1 86 = .ok (.i2l, 1) ∧ 86 + 1 = 87 := ⟨by decide +kernel, rfl⟩
theorem d_LBWorker_workPair_87 : decode mm_LBWorker_workPair.2.1 87 = .ok (.lreturn, 1) := by decide +kernel
theorem d_LBWorker_combine_0 : decode mm_LBWorker_combine.2.1 0 = .ok (.iload_n 0, 1) ∧ 0 + 1 = 1 := ⟨by decide +kernel, rfl⟩
theorem d_LBWorker_combine_1 : decode mm_LBWorker_combine.2.1 1 = .ok (.tableswitch 43 42 45 #[39, 31, 43, 35], 31) := by decide +kernel
theorem d_LBWorker_combine_32 : decode mm_LBWorker_combine.2.1 32 = .ok (.iload_n 1, 1) ∧ 32 + 1 = 33 := ⟨by decide +kernel, rfl⟩
theorem d_LBWorker_combine_33 : decode mm_LBWorker_combine.2.1 33 = .ok (.iload_n 2, 1) ∧ 33 + 1 = 34 := ⟨by decide +kernel, rfl⟩
theorem d_LBWorker_combine_34 : decode mm_LBWorker_combine.2.1 34 = .ok (.iadd, 1) ∧ 34 + 1 = 35 := ⟨by decide +kernel, rfl⟩
theorem d_LBWorker_combine_35 : decode mm_LBWorker_combine.2.1 35 = .ok (.ireturn, 1) := by decide +kernel
theorem d_LBWorker_combine_36 : decode mm_LBWorker_combine.2.1 36 = .ok (.iload_n 1, 1) ∧ 36 + 1 = 37 := ⟨by decide +kernel, rfl⟩
theorem d_LBWorker_combine_37 : decode mm_LBWorker_combine.2.1 37 = .ok (.iload_n 2, 1) ∧ 37 + 1 = 38 := ⟨by decide +kernel, rfl⟩
theorem d_LBWorker_combine_38 : decode mm_LBWorker_combine.2.1 38 = .ok (.isub, 1) ∧ 38 + 1 = 39 := ⟨by decide +kernel, rfl⟩
theorem d_LBWorker_combine_39 : decode mm_LBWorker_combine.2.1 39 = .ok (.ireturn, 1) := by decide +kernel
theorem d_LBWorker_combine_40 : decode mm_LBWorker_combine.2.1 40 = .ok (.iload_n 1, 1) ∧ 40 + 1 = 41 := ⟨by decide +kernel, rfl⟩
theorem d_LBWorker_combine_41 : decode mm_LBWorker_combine.2.1 41 = .ok (.iload_n 2, 1) ∧ 41 + 1 = 42 := ⟨by decide +kernel, rfl⟩
theorem d_LBWorker_combine_42 : decode mm_LBWorker_combine.2.1 42 = .ok (.imul, 1) ∧ 42 + 1 = 43 := ⟨by decide +kernel, rfl⟩
theorem d_LBWorker_combine_43 : decode mm_LBWorker_combine.2.1 43 = .ok (.ireturn, 1) := by decide +kernel
theorem d_LBWorker_combine_44 : decode mm_LBWorker_combine.2.1 44 = .ok (.iload_n 1, 1) ∧ 44 + 1 = 45 := ⟨by decide +kernel, rfl⟩
theorem d_LBWorker_combine_45 : decode mm_LBWorker_combine.2.1 45 = .ok (.iload_n 2, 1) ∧ 45 + 1 = 46 := ⟨by decide +kernel, rfl⟩
theorem d_LBWorker_combine_46 : decode mm_LBWorker_combine.2.1 46 = .ok (.if_icmp .ge 7, 3) ∧ 46 + 3 = 49 ∧ ((46 : Nat) : Int) + (7) = ((53 : Nat) : Int) := ⟨by decide +kernel, rfl, by decide⟩
theorem d_LBWorker_combine_49 : decode mm_LBWorker_combine.2.1 49 = .ok (.iconst 1, 1) ∧ 49 + 1 = 50 := ⟨by decide +kernel, rfl⟩
theorem d_LBWorker_combine_50 : decode mm_LBWorker_combine.2.1 50 = .ok (.goto 4, 3) ∧ 50 + 3 = 53 ∧ ((50 : Nat) : Int) + (4) = ((54 : Nat) : Int) := ⟨by decide +kernel, rfl, by decide⟩
theorem d_LBWorker_combine_53 : decode mm_LBWorker_combine.2.1 53 = .ok (.iconst 0, 1) ∧ 53 + 1 = 54 := ⟨by decide +kernel, rfl⟩
theorem d_LBWorker_combine_54 : decode mm_LBWorker_combine.2.1 54 = .ok (.ireturn, 1) := by decide +kernel
theorem d_LBWorker_workChoice_0 : decode mm_LBWorker_workChoice.2.1 0 = .ok (.aload_n 0, 1) ∧ 0 + 1 = 1 := ⟨by decide +kernel, rfl⟩
theorem d_LBWorker_workChoice_1 : decode mm_LBWorker_workChoice.2.1 1 = .ok (.aload_n 1, 1) ∧ 1 + 1 = 2 := ⟨by decide +kernel, rfl⟩
theorem d_LBWorker_workChoice_2 : decode mm_LBWorker_workChoice.2.1 2 = .ok (.iload_n 2, 1) ∧ 2 + 1 = 3 := ⟨by decide +kernel, rfl⟩
theorem d_LBWorker_workChoice_3 : decode mm_LBWorker_workChoice.2.1 3 = .ok (.iconst 1, 1) ∧ 3 + 1 = 4 := ⟨by decide +kernel, rfl⟩
theorem d_LBWorker_workChoice_4 : decode mm_LBWorker_workChoice.2.1 4 = .ok (.iadd, 1) ∧ 4 + 1 = 5 := ⟨by decide +kernel, rfl⟩
theorem d_LBWorker_workChoice_5 : decode mm_LBWorker_workChoice.2.1 5 = .ok (.iload_n 3, 1) ∧ 5 + 1 = 6 := ⟨by decide +kernel, rfl⟩
theorem d_LBWorker_workChoice_6 : decode mm_LBWorker_workChoice.2.1 6 = .ok (.iconst 1, 1) ∧ 6 + 1 = 7 := ⟨by decide +kernel, rfl⟩
theorem d_LBWorker_workChoice_7 : decode mm_LBWorker_workChoice.2.1 7 = .ok (.iadd, 1) ∧ 7 + 1 = 8 := ⟨by decide +kernel, rfl⟩
theorem d_LBWorker_workChoice_8 : decode mm_LBWorker_workChoice.2.1 8 = .ok (.invokevirtual 64, 3) ∧ 8 + 3 = 11 := ⟨by decide +kernel, rfl⟩
theorem d_LBWorker_workChoice_11 : decode mm_LBWorker_workChoice.2.1 11 = .ok (.lstore 4, 2) ∧ 11 + 2 = 13 := ⟨by decide +kernel, rfl⟩
theorem d_LBWorker_workChoice_13 : decode mm_LBWorker_workChoice.2.1 13 = .ok (.lload 4, 2) ∧ 13 + 2 = 15 := ⟨by decide +kernel, rfl⟩
theorem d_LBWorker_workChoice_15 : decode mm_LBWorker_workChoice.2.1 15 = .ok (.invokestatic 53, 3) ∧ 15 + 3 = 18 := ⟨by decide +kernel, rfl⟩
theorem d_LBWorker_workChoice_18 : decode mm_LBWorker_workChoice.2.1 18 = .ok (.ifCond .eq 6, 3) ∧ 18 + 3 = 21 ∧ ((18 : Nat) : Int) + (6) = ((24 : Nat) : Int) := ⟨by decide +kernel, rfl, by decide⟩
theorem d_LBWorker_workChoice_21 : decode mm_LBWorker_workChoice.2.1 21 = .ok (.lload 4, 2) ∧ 21 + 2 = 23 := ⟨by decide +kernel, rfl⟩
theorem d_LBWorker_workChoice_23 : decode mm_LBWorker_workChoice.2.1 23 = .ok (.lreturn, 1) := by decide +kernel
theorem d_LBWorker_workChoice_24 : decode mm_LBWorker_workChoice.2.1 24 = .ok (.lload 4, 2) ∧ 24 + 2 = 26 := ⟨by decide +kernel, rfl⟩
theorem d_LBWorker_workChoice_26 : decode mm_LBWorker_workChoice.2.1 26 = .ok (.invokestatic 109, 3) ∧ 26 + 3 = 29 := ⟨by decide +kernel, rfl⟩
theorem d_LBWorker_workChoice_29 : decode mm_LBWorker_workChoice.2.1 29 = .ok (.ifCond .eq 7, 3) ∧ 29 + 3 = 32 ∧ ((29 : Nat) : Int) + (7) = ((36 : Nat) : Int) := ⟨by decide +kernel, rfl, by decide⟩
theorem d_LBWorker_workChoice_32 : decode mm_LBWorker_workChoice.2.1 32 = .ok (.ldc2_w 112, 3) ∧ 32 + 3 = 35 := ⟨by decide +kernel, rfl⟩
theorem d_LBWorker_workChoice_35 : decode mm_LBWorker_workChoice.2.1 35 = .ok (.lreturn, 1) := by decide +kernel
theorem d_LBWorker_workChoice_36 : decode mm_LBWorker_workChoice.2.1 36 = .ok (.aload_n 1, 1) ∧ 36 + 1 = 37 := ⟨by decide +kernel, rfl⟩
theorem d_LBWorker_workChoice_37 : decode mm_LBWorker_workChoice.2.1 37 = .ok (.iload_n 2, 1) ∧ 37 + 1 = 38 := ⟨by decide +kernel, rfl⟩
theorem d_LBWorker_workChoice_38 : decode mm_LBWorker_workChoice.2.1 38 = .ok (.iconst 1, 1) ∧ 38 + 1 = 39 := ⟨by decide +kernel, rfl⟩
theorem d_LBWorker_workChoice_39 : decode mm_LBWorker_workChoice.2.1 39 = .ok (.iadd, 1) ∧ 39 + 1 = 40 := ⟨by decide +kernel, rfl⟩
theorem d_LBWorker_workChoice_40 : decode mm_LBWorker_workChoice.2.1 40 = .ok (.invokevirtual 106, 3) ∧ 40 + 3 = 43 := ⟨by decide +kernel, rfl⟩
theorem d_LBWorker_workChoice_43 : decode mm_LBWorker_workChoice.2.1 43 = .ok (.istore 6, 2) ∧ 43 + 2 = 45 := ⟨by decide +kernel, rfl⟩
theorem d_LBWorker_workChoice_45 : decode mm_LBWorker_workChoice.2.1 45 = .ok (.aload_n 0, 1) ∧ 45 + 1 = 46 := ⟨by decide +kernel, rfl⟩
theorem d_LBWorker_workChoice_46 : decode mm_LBWorker_workChoice.2.1 46 = .ok (.aload_n 1, 1) ∧ 46 + 1 = 47 := ⟨by decide +kernel, rfl⟩
theorem d_LBWorker_workChoice_47 : decode mm_LBWorker_workChoice.2.1 47 = .ok (.lload 4, 2) ∧ 47 + 2 = 49 := ⟨by decide +kernel, rfl⟩
theorem d_LBWorker_workChoice_49 : decode mm_LBWorker_workChoice.2.1 49 = .ok (.lconst 0, 1) ∧ 49 + 1 = 50 := ⟨by decide +kernel, rfl⟩
theorem d_LBWorker_workChoice_50 : decode mm_LBWorker_workChoice.2.1 50 = .ok (.lcmp, 1) ∧ 50 + 1 = 51 := ⟨by decide +kernel, rfl⟩
theorem d_LBWorker_workChoice_51 : decode mm_LBWorker_workChoice.2.1 51 = .ok (.ifCond .eq 8, 3) ∧ 51 + 3 = 54 ∧ ((51 : Nat) : Int) + (8) = ((59 : Nat) : Int) := ⟨by decide +kernel, rfl, by decide⟩
theorem d_LBWorker_workChoice_54 : decode mm_LBWorker_workChoice.2.1 54 = .ok (.iload 6, 2) ∧ 54 + 2 = 56 := ⟨by decide +kernel, rfl⟩
theorem d_LBWorker_workChoice_56 : decode mm_LBWorker_workChoice.2.1 56 = .ok (.goto 9, 3) ∧ 56 + 3 = 59 ∧ ((56 : Nat) : Int) + (9) = ((65 : Nat) : Int) := ⟨by decide +kernel, rfl, by decide⟩
theorem d_LBWorker_workChoice_59 : decode mm_LBWorker_workChoice.2.1 59 = .ok (.aload_n 1, 1) ∧ 59 + 1 = 60 := ⟨by decide +kernel, rfl⟩
theorem d_LBWorker_workChoice_60 : decode mm_LBWorker_workChoice.2.1 60 = .ok (.iload 6, 2) ∧ 60 + 2 = 62 := ⟨by decide +kernel, rfl⟩
theorem d_LBWorker_workChoice_62 : decode mm_LBWorker_workChoice.2.1 62 = .ok (.invokevirtual 106, 3) ∧ 62 + 3 = 65 := ⟨by decide +kernel, rfl⟩
theorem d_LBWorker_workChoice_65 : decode mm_LBWorker_workChoice.2.1 65 = .ok (.iload_n 3, 1) ∧ 65 + 1 = 66 := ⟨by decide +kernel, rfl⟩
theorem d_LBWorker_workChoice_66 : decode mm_LBWorker_workChoice.2.1 66 = .ok (.iconst 1, 1) ∧ 66 + 1 = 67 := ⟨by decide +kernel, rfl⟩
theorem d_LBWorker_workChoice_67 : decode mm_LBWorker_workChoice.2.1 67 = .ok (.iadd, 1) ∧ 67 + 1 = 68 := ⟨by decide +kernel, rfl⟩
theorem d_LBWorker_workChoice_68 : decode mm_LBWorker_workChoice.2.1 68 = .ok (.invokevirtual 64, 3) ∧ 68 + 3 = 71 := ⟨by decide +kernel, rfl⟩
theorem d_LBWorker_workChoice_71 : decode mm_LBWorker_workChoice.2.1 71 = .ok (.lreturn, 1) := by decide +kernel
theorem d_LBWorker_workAbort_0 : decode mm_LBWorker_workAbort.2.1 0 = .ok (.aload_n 0, 1) ∧ 0 + 1 = 1 := ⟨by decide +kernel, rfl⟩
theorem d_LBWorker_workAbort_1 : decode mm_LBWorker_workAbort.2.1 1 = .ok (.aload_n 1, 1) ∧ 1 + 1 = 2 := ⟨by decide +kernel, rfl⟩
theorem d_LBWorker_workAbort_2 : decode mm_LBWorker_workAbort.2.1 2 = .ok (.iload_n 2, 1) ∧ 2 + 1 = 3 := ⟨by decide +kernel, rfl⟩
theorem d_LBWorker_workAbort_3 : decode mm_LBWorker_workAbort.2.1 3 = .ok (.iconst 1, 1) ∧ 3 + 1 = 4 := ⟨by decide +kernel, rfl⟩
theorem d_LBWorker_workAbort_4 : decode mm_LBWorker_workAbort.2.1 4 = .ok (.iadd, 1) ∧ 4 + 1 = 5 := ⟨by decide +kernel, rfl⟩
theorem d_LBWorker_workAbort_5 : decode mm_LBWorker_workAbort.2.1 5 = .ok (.iload_n 3, 1) ∧ 5 + 1 = 6 := ⟨by decide +kernel, rfl⟩
theorem d_LBWorker_workAbort_6 : decode mm_LBWorker_workAbort.2.1 6 = .ok (.iconst 1, 1) ∧ 6 + 1 = 7 := ⟨by decide +kernel, rfl⟩
theorem d_LBWorker_workAbort_7 : decode mm_LBWorker_workAbort.2.1 7 = .ok (.iadd, 1) ∧ 7 + 1 = 8 := ⟨by decide +kernel, rfl⟩
theorem d_LBWorker_workAbort_8 : decode mm_LBWorker_workAbort.2.1 8 = .ok (.invokevirtual 64, 3) ∧ 8 + 3 = 11 := ⟨by decide +kernel, rfl⟩
theorem d_LBWorker_workAbort_11 : decode mm_LBWorker_workAbort.2.1 11 = .ok (.lstore 4, 2) ∧ 11 + 2 = 13 := ⟨by decide +kernel, rfl⟩
theorem d_LBWorker_workAbort_13 : decode mm_LBWorker_workAbort.2.1 13 = .ok (.lload 4, 2) ∧ 13 + 2 = 15 := ⟨by decide +kernel, rfl⟩
theorem d_LBWorker_workAbort_15 : decode mm_LBWorker_workAbort.2.1 15 = .ok (.invokestatic 53, 3) ∧ 15 + 3 = 18 := ⟨by decide +kernel, rfl⟩
theorem d_LBWorker_workAbort_18 : decode mm_LBWorker_workAbort.2.1 18 = .ok (.ifCond .eq 8, 3) ∧ 18 + 3 = 21 ∧ ((18 : Nat) : Int) + (8) = ((26 : Nat) : Int) := ⟨by decide +kernel, rfl, by decide⟩
theorem d_LBWorker_workAbort_21 : decode mm_LBWorker_workAbort.2.1 21 = .ok (.lload 4, 2) ∧ 21 + 2 = 23 := ⟨by decide +kernel, rfl⟩
theorem d_LBWorker_workAbort_23 : decode mm_LBWorker_workAbort.2.1 23 = .ok (.goto 6, 3) ∧ 23 + 3 = 26 ∧ ((23 : Nat) : Int) + (6) = ((29 : Nat) : Int) := ⟨by decide +kernel, rfl, by decide⟩
theorem d_LBWorker_workAbort_26 : decode mm_LBWorker_workAbort.2.1 26 = .ok (.ldc2_w 118, 3) ∧ 26 + 3 = 29 := ⟨by decide +kernel, rfl⟩
theorem d_LBWorker_workAbort_29 : decode mm_LBWorker_workAbort.2.1 29 = .ok (.lreturn, 1) := by decide +kernel
theorem d_LBWorker_workTry_0 : decode mm_LBWorker_workTry.2.1 0 = .ok (.aload_n 0, 1) ∧ 0 + 1 = 1 := ⟨by decide +kernel, rfl⟩
theorem d_LBWorker_workTry_1 : decode mm_LBWorker_workTry.2.1 1 = .ok (.aload_n 1, 1) ∧ 1 + 1 = 2 := ⟨by decide +kernel, rfl⟩
theorem d_LBWorker_workTry_2 : decode mm_LBWorker_workTry.2.1 2 = .ok (.iload_n 2, 1) ∧ 2 + 1 = 3 := ⟨by decide +kernel, rfl⟩
theorem d_LBWorker_workTry_3 : decode mm_LBWorker_workTry.2.1 3 = .ok (.iconst 1, 1) ∧ 3 + 1 = 4 := ⟨by decide +kernel, rfl⟩
theorem d_LBWorker_workTry_4 : decode mm_LBWorker_workTry.2.1 4 = .ok (.iadd, 1) ∧ 4 + 1 = 5 := ⟨by decide +kernel, rfl⟩
theorem d_LBWorker_workTry_5 : decode mm_LBWorker_workTry.2.1 5 = .ok (.iload_n 3, 1) ∧ 5 + 1 = 6 := ⟨by decide +kernel, rfl⟩
theorem d_LBWorker_workTry_6 : decode mm_LBWorker_workTry.2.1 6 = .ok (.iconst 1, 1) ∧ 6 + 1 = 7 := ⟨by decide +kernel, rfl⟩
theorem d_LBWorker_workTry_7 : decode mm_LBWorker_workTry.2.1 7 = .ok (.iadd, 1) ∧ 7 + 1 = 8 := ⟨by decide +kernel, rfl⟩
theorem d_LBWorker_workTry_8 : decode mm_LBWorker_workTry.2.1 8 = .ok (.invokevirtual 64, 3) ∧ 8 + 3 = 11 := ⟨by decide +kernel, rfl⟩
theorem d_LBWorker_workTry_11 : decode mm_LBWorker_workTry.2.1 11 = .ok (.lstore 4, 2) ∧ 11 + 2 = 13 := ⟨by decide +kernel, rfl⟩
theorem d_LBWorker_workTry_13 : decode mm_LBWorker_workTry.2.1 13 = .ok (.lload 4, 2) ∧ 13 + 2 = 15 := ⟨by decide +kernel, rfl⟩
theorem d_LBWorker_workTry_15 : decode mm_LBWorker_workTry.2.1 15 = .ok (.invokestatic 120, 3) ∧ 15 + 3 = 18 := ⟨by decide +kernel, rfl⟩
theorem d_LBWorker_workTry_18 : decode mm_LBWorker_workTry.2.1 18 = .ok (.ifCond .ne 6, 3) ∧ 18 + 3 = 21 ∧ ((18 : Nat) : Int) + (6) = ((24 : Nat) : Int) := ⟨by decide +kernel, rfl, by decide⟩
theorem d_LBWorker_workTry_21 : decode mm_LBWorker_workTry.2.1 21 = .ok (.lload 4, 2) ∧ 21 + 2 = 23 := ⟨by decide +kernel, rfl⟩
theorem d_LBWorker_workTry_23 : decode mm_LBWorker_workTry.2.1 23 = .ok (.lreturn, 1) := by decide +kernel
theorem d_LBWorker_workTry_24 : decode mm_LBWorker_workTry.2.1 24 = .ok (.aload_n 0, 1) ∧ 24 + 1 = 25 := ⟨by decide +kernel, rfl⟩
theorem d_LBWorker_workTry_25 : decode mm_LBWorker_workTry.2.1 25 = .ok (.dup, 1) ∧ 25 + 1 = 26 := ⟨by decide +kernel, rfl⟩
theorem d_LBWorker_workTry_26 : decode mm_LBWorker_workTry.2.1 26 = .ok (.getfield 49, 3) ∧ 26 + 3 = 29 := ⟨by decide +kernel, rfl⟩
theorem d_LBWorker_workTry_29 : decode mm_LBWorker_workTry.2.1 29 = .ok (.iconst 1, 1) ∧ 29 + 1 = 30 := ⟨by decide +kernel, rfl⟩
theorem d_LBWorker_workTry_30 : decode mm_LBWorker_workTry.2.1 30 = .ok (.iadd, 1) ∧ 30 + 1 = 31 := ⟨by decide +kernel, rfl⟩
theorem d_LBWorker_workTry_31 : decode mm_LBWorker_workTry.2.1 31 = .ok (.putfield 49, 3) ∧ 31 + 3 = 34 := ⟨by decide +kernel, rfl⟩
theorem d_LBWorker_workTry_34 : decode mm_LBWorker_workTry.2.1 34 = .ok (.aload_n 0, 1) ∧ 34 + 1 = 35 := ⟨by decide +kernel, rfl⟩
theorem d_LBWorker_workTry_35 : decode mm_LBWorker_workTry.2.1 35 = .ok (.aload_n 1, 1) ∧ 35 + 1 = 36 := ⟨by decide +kernel, rfl⟩
theorem d_LBWorker_workTry_36 : decode mm_LBWorker_workTry.2.1 36 = .ok (.aload_n 1, 1) ∧ 36 + 1 = 37 := ⟨by decide +kernel, rfl⟩
theorem d_LBWorker_workTry_37 : decode mm_LBWorker_workTry.2.1 37 = .ok (.iload_n 2, 1) ∧ 37 + 1 = 38 := ⟨by decide +kernel, rfl⟩
theorem d_LBWorker_workTry_38 : decode mm_LBWorker_workTry.2.1 38 = .ok (.iconst 1, 1) ∧ 38 + 1 = 39 := ⟨by decide +kernel, rfl⟩
theorem d_LBWorker_workTry_39 : decode mm_LBWorker_workTry.2.1 39 = .ok (.iadd, 1) ∧ 39 + 1 = 40 := ⟨by decide +kernel, rfl⟩
theorem d_LBWorker_workTry_40 : decode mm_LBWorker_workTry.2.1 40 = .ok (.invokevirtual 106, 3) ∧ 40 + 3 = 43 := ⟨by decide +kernel, rfl⟩
theorem d_LBWorker_workTry_43 : decode mm_LBWorker_workTry.2.1 43 = .ok (.iload_n 3, 1) ∧ 43 + 1 = 44 := ⟨by decide +kernel, rfl⟩
theorem d_LBWorker_workTry_44 : decode mm_LBWorker_workTry.2.1 44 = .ok (.iconst 1, 1) ∧ 44 + 1 = 45 := ⟨by decide +kernel, rfl⟩
theorem d_LBWorker_workTry_45 : decode mm_LBWorker_workTry.2.1 45 = .ok (.iadd, 1) ∧ 45 + 1 = 46 := ⟨by decide +kernel, rfl⟩
theorem d_LBWorker_workTry_46 : decode mm_LBWorker_workTry.2.1 46 = .ok (.invokevirtual 64, 3) ∧ 46 + 3 = 49 := ⟨by decide +kernel, rfl⟩
theorem d_LBWorker_workTry_49 : decode mm_LBWorker_workTry.2.1 49 = .ok (.lreturn, 1) := by decide +kernel
theorem d_LBWorker_canBeMadeGood_0 : decode mm_LBWorker_canBeMadeGood.2.1 0 = .ok (.lload_n 0, 1) ∧ 0 + 1 = 1 := ⟨by decide +kernel, rfl⟩
theorem d_LBWorker_canBeMadeGood_1 : decode mm_LBWorker_canBeMadeGood.2.1 1 = .ok (.ldc2_w 99, 3) ∧ 1 + 3 = 4 := ⟨by decide +kernel, rfl⟩
theorem d_LBWorker_canBeMadeGood_4 : decode mm_LBWorker_canBeMadeGood.2.1 4 = .ok (.lcmp, 1) ∧ 4 + 1 = 5 := ⟨by decide +kernel, rfl⟩
theorem d_LBWorker_canBeMadeGood_5 : decode mm_LBWorker_canBeMadeGood.2.1 5 = .ok (.ifCond .eq 27, 3) ∧ 5 + 3 = 8 ∧ ((5 : Nat) : Int) + (27) = ((32 : Nat) : Int) := ⟨by decide +kernel, rfl, by decide⟩
theorem d_LBWorker_canBeMadeGood_8 : decode mm_LBWorker_canBeMadeGood.2.1 8 = .ok (.lload_n 0, 1) ∧ 8 + 1 = 9 := ⟨by decide +kernel, rfl⟩
theorem d_LBWorker_canBeMadeGood_9 : decode mm_LBWorker_canBeMadeGood.2.1 9 = .ok (.ldc2_w 112, 3) ∧ 9 + 3 = 12 := ⟨by decide +kernel, rfl⟩
theorem d_LBWorker_canBeMadeGood_12 : decode mm_LBWorker_canBeMadeGood.2.1 12 = .ok (.lcmp, 1) ∧ 12 + 1 = 13 := ⟨by decide +kernel, rfl⟩
theorem d_LBWorker_canBeMadeGood_13 : decode mm_LBWorker_canBeMadeGood.2.1 13 = .ok (.ifCond .eq 19, 3) ∧ 13 + 3 = 16 ∧ ((13 : Nat) : Int) + (19) = ((32 : Nat) : Int) := ⟨by decide +kernel, rfl, by decide⟩
theorem d_LBWorker_canBeMadeGood_16 : decode mm_LBWorker_canBeMadeGood.2.1 16 = .ok (.lload_n 0, 1) ∧ 16 + 1 = 17 := ⟨by decide +kernel, rfl⟩
theorem d_LBWorker_canBeMadeGood_17 : decode mm_LBWorker_canBeMadeGood.2.1 17 = .ok (.ldc2_w 118, 3) ∧ 17 + 3 = 20 := ⟨by decide +kernel, rfl⟩
theorem d_LBWorker_canBeMadeGood_20 : decode mm_LBWorker_canBeMadeGood.2.1 20 = .ok (.lcmp, 1) ∧ 20 + 1 = 21 := ⟨by decide +kernel, rfl⟩
theorem d_LBWorker_canBeMadeGood_21 : decode mm_LBWorker_canBeMadeGood.2.1 21 = .ok (.ifCond .eq 11, 3) ∧ 21 + 3 = 24 ∧ ((21 : Nat) : Int) + (11) = ((32 : Nat) : Int) := ⟨by decide +kernel, rfl, by decide⟩
theorem d_LBWorker_canBeMadeGood_24 : decode mm_LBWorker_canBeMadeGood.2.1 24 = .ok (.lload_n 0, 1) ∧ 24 + 1 = 25 := ⟨by decide +kernel, rfl⟩
theorem d_LBWorker_canBeMadeGood_25 : decode mm_LBWorker_canBeMadeGood.2.1 25 = .ok (.ldc2_w 123, 3) ∧ 25 + 3 = 28 := ⟨by decide +kernel, rfl⟩
theorem d_LBWorker_canBeMadeGood_28 : decode mm_LBWorker_canBeMadeGood.2.1 28 = .ok (.lcmp, 1) ∧ 28 + 1 = 29 := ⟨by decide +kernel, rfl⟩
theorem d_LBWorker_canBeMadeGood_29 : decode mm_LBWorker_canBeMadeGood.2.1 29 = .ok (.ifCond .ne 7, 3) ∧ 29 + 3 = 32 ∧ ((29 : Nat) : Int) + (7) = ((36 : Nat) : Int) := ⟨by decide +kernel, rfl, by decide⟩
theorem d_LBWorker_canBeMadeGood_32 : decode mm_LBWorker_canBeMadeGood.2.1 32 = .ok (.iconst 1, 1) ∧ 32 + 1 = 33 := ⟨by decide +kernel, rfl⟩
theorem d_LBWorker_canBeMadeGood_33 : decode mm_LBWorker_canBeMadeGood.2.1 33 = .ok (.goto 4, 3) ∧ 33 + 3 = 36 ∧ ((33 : Nat) : Int) + (4) = ((37 : Nat) : Int) := ⟨by decide +kernel, rfl, by decide⟩
theorem d_LBWorker_canBeMadeGood_36 : decode mm_LBWorker_canBeMadeGood.2.1 36 = .ok (.iconst 0, 1) ∧ 36 + 1 = 37 := ⟨by decide +kernel, rfl⟩
theorem d_LBWorker_canBeMadeGood_37 : decode mm_LBWorker_canBeMadeGood.2.1 37 = .ok (.ireturn, 1) := by decide +kernel
theorem d_LBWorker_workPlan_0 : decode mm_LBWorker_workPlan.2.1 0 = .ok (.iload_n 3, 1) ∧ 0 + 1 = 1 := ⟨by decide +kernel, rfl⟩
theorem d_LBWorker_workPlan_1 : decode mm_LBWorker_workPlan.2.1 1 = .ok (.iconst 4, 1) ∧ 1 + 1 = 2 := ⟨by decide +kernel, rfl⟩
theorem d_LBWorker_workPlan_2 : decode mm_LBWorker_workPlan.2.1 2 = .ok (.imul, 1) ∧ 2 + 1 = 3 := ⟨by decide +kernel, rfl⟩
theorem d_LBWorker_workPlan_3 : decode mm_LBWorker_workPlan.2.1 3 = .ok (.istore 4, 2) ∧ 3 + 2 = 5 := ⟨by decide +kernel, rfl⟩
theorem d_LBWorker_workPlan_5 : decode mm_LBWorker_workPlan.2.1 5 = .ok (.iconst 0, 1) ∧ 5 + 1 = 6 := ⟨by decide +kernel, rfl⟩
theorem d_LBWorker_workPlan_6 : decode mm_LBWorker_workPlan.2.1 6 = .ok (.istore 5, 2) ∧ 6 + 2 = 8 := ⟨by decide +kernel, rfl⟩
theorem d_LBWorker_workPlan_8 : decode mm_LBWorker_workPlan.2.1 8 = .ok (.iload_n 2, 1) ∧ 8 + 1 = 9 := ⟨by decide +kernel, rfl⟩
theorem d_LBWorker_workPlan_9 : decode mm_LBWorker_workPlan.2.1 9 = .ok (.iconst 3, 1) ∧ 9 + 1 = 10 := ⟨by decide +kernel, rfl⟩
theorem d_LBWorker_workPlan_10 : decode mm_LBWorker_workPlan.2.1 10 = .ok (.iadd, 1) ∧ 10 + 1 = 11 := ⟨by decide +kernel, rfl⟩
theorem d_LBWorker_workPlan_11 : decode mm_LBWorker_workPlan.2.1 11 = .ok (.istore 6, 2) ∧ 11 + 2 = 13 := ⟨by decide +kernel, rfl⟩
theorem d_LBWorker_workPlan_13 : decode mm_LBWorker_workPlan.2.1 13 = .ok (.iload 5, 2) ∧ 13 + 2 = 15 := ⟨by decide +kernel, rfl⟩
theorem d_LBWorker_workPlan_15 : decode mm_LBWorker_workPlan.2.1 15 = .ok (.iconst 4, 1) ∧ 15 + 1 = 16 := ⟨by decide +kernel, rfl⟩
theorem d_LBWorker_workPlan_16 : decode mm_LBWorker_workPlan.2.1 16 = .ok (.if_icmp .ge 63, 3) ∧ 16 + 3 = 19 ∧ ((16 : Nat) : Int) + (63) = ((79 : Nat) : Int) := ⟨by decide +kernel, rfl, by decide⟩
theorem d_LBWorker_workPlan_19 : decode mm_LBWorker_workPlan.2.1 19 = .ok (.aload_n 1, 1) ∧ 19 + 1 = 20 := ⟨by decide +kernel, rfl⟩
theorem d_LBWorker_workPlan_20 : decode mm_LBWorker_workPlan.2.1 20 = .ok (.iload 6, 2) ∧ 20 + 2 = 22 := ⟨by decide +kernel, rfl⟩
theorem d_LBWorker_workPlan_22 : decode mm_LBWorker_workPlan.2.1 22 = .ok (.invokevirtual 70, 3) ∧ 22 + 3 = 25 := ⟨by decide +kernel, rfl⟩
theorem d_LBWorker_workPlan_25 : decode mm_LBWorker_workPlan.2.1 25 = .ok (.bipush 41, 2) ∧ 25 + 2 = 27 := ⟨by decide +kernel, rfl⟩
theorem d_LBWorker_workPlan_27 : decode mm_LBWorker_workPlan.2.1 27 = .ok (.if_icmp .eq 52, 3) ∧ 27 + 3 = 30 ∧ ((27 : Nat) : Int) + (52) = ((79 : Nat) : Int) := ⟨by decide +kernel, rfl, by decide⟩
theorem d_LBWorker_workPlan_30 : decode mm_LBWorker_workPlan.2.1 30 = .ok (.aload_n 0, 1) ∧ 30 + 1 = 31 := ⟨by decide +kernel, rfl⟩
theorem d_LBWorker_workPlan_31 : decode mm_LBWorker_workPlan.2.1 31 = .ok (.aload_n 1, 1) ∧ 31 + 1 = 32 := ⟨by decide +kernel, rfl⟩
theorem d_LBWorker_workPlan_32 : decode mm_LBWorker_workPlan.2.1 32 = .ok (.iload 6, 2) ∧ 32 + 2 = 34 := ⟨by decide +kernel, rfl⟩
theorem d_LBWorker_workPlan_34 : decode mm_LBWorker_workPlan.2.1 34 = .ok (.iload_n 3, 1) ∧ 34 + 1 = 35 := ⟨by decide +kernel, rfl⟩
theorem d_LBWorker_workPlan_35 : decode mm_LBWorker_workPlan.2.1 35 = .ok (.iconst 1, 1) ∧ 35 + 1 = 36 := ⟨by decide +kernel, rfl⟩
theorem d_LBWorker_workPlan_36 : decode mm_LBWorker_workPlan.2.1 36 = .ok (.iadd, 1) ∧ 36 + 1 = 37 := ⟨by decide +kernel, rfl⟩
theorem d_LBWorker_workPlan_37 : decode mm_LBWorker_workPlan.2.1 37 = .ok (.invokevirtual 64, 3) ∧ 37 + 3 = 40 := ⟨by decide +kernel, rfl⟩
theorem d_LBWorker_workPlan_40 : decode mm_LBWorker_workPlan.2.1 40 = .ok (.lstore 7, 2) ∧ 40 + 2 = 42 := ⟨by decide +kernel, rfl⟩
theorem d_LBWorker_workPlan_42 : decode mm_LBWorker_workPlan.2.1 42 = .ok (.lload 7, 2) ∧ 42 + 2 = 44 := ⟨by decide +kernel, rfl⟩
theorem d_LBWorker_workPlan_44 : decode mm_LBWorker_workPlan.2.1 44 = .ok (.invokestatic 53, 3) ∧ 44 + 3 = 47 := ⟨by decide +kernel, rfl⟩
theorem d_LBWorker_workPlan_47 : decode mm_LBWorker_workPlan.2.1 47 = .ok (.ifCond .eq 6, 3) ∧ 47 + 3 = 50 ∧ ((47 : Nat) : Int) + (6) = ((53 : Nat) : Int) := ⟨by decide +kernel, rfl, by decide⟩
theorem d_LBWorker_workPlan_50 : decode mm_LBWorker_workPlan.2.1 50 = .ok (.lload 7, 2) ∧ 50 + 2 = 52 := ⟨by decide +kernel, rfl⟩
theorem d_LBWorker_workPlan_52 : decode mm_LBWorker_workPlan.2.1 52 = .ok (.lreturn, 1) := by decide +kernel
theorem d_LBWorker_workPlan_53 : decode mm_LBWorker_workPlan.2.1 53 = .ok (.aload_n 0, 1) ∧ 53 + 1 = 54 := ⟨by decide +kernel, rfl⟩
theorem d_LBWorker_workPlan_54 : decode mm_LBWorker_workPlan.2.1 54 = .ok (.getfield 22, 3) ∧ 54 + 3 = 57 := ⟨by decide +kernel, rfl⟩
theorem d_LBWorker_workPlan_57 : decode mm_LBWorker_workPlan.2.1 57 = .ok (.iload 4, 2) ∧ 57 + 2 = 59 := ⟨by decide +kernel, rfl⟩
theorem d_LBWorker_workPlan_59 : decode mm_LBWorker_workPlan.2.1 59 = .ok (.iload 5, 2) ∧ 59 + 2 = 61 := ⟨by decide +kernel, rfl⟩
theorem d_LBWorker_workPlan_61 : decode mm_LBWorker_workPlan.2.1 61 = .ok (.iadd, 1) ∧ 61 + 1 = 62 := ⟨by decide +kernel, rfl⟩
theorem d_LBWorker_workPlan_62 : decode mm_LBWorker_workPlan.2.1 62 = .ok (.lload 7, 2) ∧ 62 + 2 = 64 := ⟨by decide +kernel, rfl⟩
theorem d_LBWorker_workPlan_64 : decode mm_LBWorker_workPlan.2.1 64 = .ok (.lastore, 1) ∧ 64 + 1 = 65 := ⟨by decide +kernel, rfl⟩
theorem d_LBWorker_workPlan_65 : decode mm_LBWorker_workPlan.2.1 65 = .ok (.iinc 5 1, 3) ∧ 65 + 3 = 68 := ⟨by decide +kernel, rfl⟩
theorem d_LBWorker_workPlan_68 : decode mm_LBWorker_workPlan.2.1 68 = .ok (.aload_n 1, 1) ∧ 68 + 1 = 69 := ⟨by decide +kernel, rfl⟩
theorem d_LBWorker_workPlan_69 : decode mm_LBWorker_workPlan.2.1 69 = .ok (.iload 6, 2) ∧ 69 + 2 = 71 := ⟨by decide +kernel, rfl⟩
theorem d_LBWorker_workPlan_71 : decode mm_LBWorker_workPlan.2.1 71 = .ok (.invokevirtual 106, 3) ∧ 71 + 3 = 74 := ⟨by decide +kernel, rfl⟩
theorem d_LBWorker_workPlan_74 : decode mm_LBWorker_workPlan.2.1 74 = .ok (.istore 6, 2) ∧ 74 + 2 = 76 := ⟨by decide +kernel, rfl⟩
theorem d_LBWorker_workPlan_76 : decode mm_LBWorker_workPlan.2.1 76 = .ok (.goto (-63), 3) ∧ 76 + 3 = 79 ∧ ((76 : Nat) : Int) + (-63) = ((13 : Nat) : Int) := ⟨by decide +kernel, rfl, by decide⟩
theorem d_LBWorker_workPlan_79 : decode mm_LBWorker_workPlan.2.1 79 = .ok (.aload_n 0, 1) ∧ 79 + 1 = 80 := ⟨by decide +kernel, rfl⟩
theorem d_LBWorker_workPlan_80 : decode mm_LBWorker_workPlan.2.1 80 = .ok (.getfield 9, 3) ∧ 80 + 3 = 83 := ⟨by decide +kernel, rfl⟩
theorem d_LBWorker_workPlan_83 : decode mm_LBWorker_workPlan.2.1 83 = .ok (.aload_n 1, 1) ∧ 83 + 1 = 84 := ⟨by decide +kernel, rfl⟩
theorem d_LBWorker_workPlan_84 : decode mm_LBWorker_workPlan.2.1 84 = .ok (.iload_n 2, 1) ∧ 84 + 1 = 85 := ⟨by decide +kernel, rfl⟩
theorem d_LBWorker_workPlan_85 : decode mm_LBWorker_workPlan.2.1 85 = .ok (.iconst 1, 1) ∧ 85 + 1 = 86 := ⟨by decide +kernel, rfl⟩
theorem d_LBWorker_workPlan_86 : decode mm_LBWorker_workPlan.2.1 86 = .ok (.iadd, 1) ∧ 86 + 1 = 87 := ⟨by decide +kernel, rfl⟩
theorem d_LBWorker_workPlan_87 : decode mm_LBWorker_workPlan.2.1 87 = .ok (.invokevirtual 70, 3) ∧ 87 + 3 = 90 := ⟨by decide +kernel, rfl⟩
theorem d_LBWorker_workPlan_90 : decode mm_LBWorker_workPlan.2.1 90 = .ok (.bipush 48, 2) ∧ 90 + 2 = 92 := ⟨by decide +kernel, rfl⟩
theorem d_LBWorker_workPlan_92 : decode mm_LBWorker_workPlan.2.1 92 = .ok (.isub, 1) ∧ 92 + 1 = 93 := ⟨by decide +kernel, rfl⟩
theorem d_LBWorker_workPlan_93 : decode mm_LBWorker_workPlan.2.1 93 = .ok (.aload_n 0, 1) ∧ 93 + 1 = 94 := ⟨by decide +kernel, rfl⟩
theorem d_LBWorker_workPlan_94 : decode mm_LBWorker_workPlan.2.1 94 = .ok (.getfield 22, 3) ∧ 94 + 3 = 97 := ⟨by decide +kernel, rfl⟩
theorem d_LBWorker_workPlan_97 : decode mm_LBWorker_workPlan.2.1 97 = .ok (.iload 4, 2) ∧ 97 + 2 = 99 := ⟨by decide +kernel, rfl⟩
theorem d_LBWorker_workPlan_99 : decode mm_LBWorker_workPlan.2.1 99 = .ok (.iload 5, 2) ∧ 99 + 2 = 101 := ⟨by decide +kernel, rfl⟩
theorem d_LBWorker_workPlan_101 : decode mm_LBWorker_workPlan.2.1 101 = .ok (.invokevirtual 125, 3) ∧ 101 + 3 = 104 := ⟨by decide +kernel, rfl⟩
theorem d_LBWorker_workPlan_104 : decode mm_LBWorker_workPlan.2.1 104 = .ok (.lreturn, 1) := by decide +kernel
theorem d_LBWorker_workResult_0 : decode mm_LBWorker_workResult.2.1 0 = .ok (.aload_n 0, 1) ∧ 0 + 1 = 1 := ⟨by decide +kernel, rfl⟩
theorem d_LBWorker_workResult_1 : decode mm_LBWorker_workResult.2.1 1 = .ok (.aload_n 1, 1) ∧ 1 + 1 = 2 := ⟨by decide +kernel, rfl⟩
theorem d_LBWorker_workResult_2 : decode mm_LBWorker_workResult.2.1 2 = .ok (.iload_n 2, 1) ∧ 2 + 1 = 3 := ⟨by decide +kernel, rfl⟩
theorem d_LBWorker_workResult_3 : decode mm_LBWorker_workResult.2.1 3 = .ok (.iconst 1, 1) ∧ 3 + 1 = 4 := ⟨by decide +kernel, rfl⟩
theorem d_LBWorker_workResult_4 : decode mm_LBWorker_workResult.2.1 4 = .ok (.iadd, 1) ∧ 4 + 1 = 5 := ⟨by decide +kernel, rfl⟩
theorem d_LBWorker_workResult_5 : decode mm_LBWorker_workResult.2.1 5 = .ok (.iload_n 3, 1) ∧ 5 + 1 = 6 := ⟨by decide +kernel, rfl⟩
theorem d_LBWorker_workResult_6 : decode mm_LBWorker_workResult.2.1 6 = .ok (.iconst 1, 1) ∧ 6 + 1 = 7 := ⟨by decide +kernel, rfl⟩
theorem d_LBWorker_workResult_7 : decode mm_LBWorker_workResult.2.1 7 = .ok (.iadd, 1) ∧ 7 + 1 = 8 := ⟨by decide +kernel, rfl⟩
theorem d_LBWorker_workResult_8 : decode mm_LBWorker_workResult.2.1 8 = .ok (.invokevirtual 64, 3) ∧ 8 + 3 = 11 := ⟨by decide +kernel, rfl⟩
theorem d_LBWorker_workResult_11 : decode mm_LBWorker_workResult.2.1 11 = .ok (.lstore 4, 2) ∧ 11 + 2 = 13 := ⟨by decide +kernel, rfl⟩
theorem d_LBWorker_workResult_13 : decode mm_LBWorker_workResult.2.1 13 = .ok (.lload 4, 2) ∧ 13 + 2 = 15 := ⟨by decide +kernel, rfl⟩
theorem d_LBWorker_workResult_15 : decode mm_LBWorker_workResult.2.1 15 = .ok (.invokestatic 53, 3) ∧ 15 + 3 = 18 := ⟨by decide +kernel, rfl⟩
theorem d_LBWorker_workResult_18 : decode mm_LBWorker_workResult.2.1 18 = .ok (.ifCond .eq 6, 3) ∧ 18 + 3 = 21 ∧ ((18 : Nat) : Int) + (6) = ((24 : Nat) : Int) := ⟨by decide +kernel, rfl, by decide⟩
theorem d_LBWorker_workResult_21 : decode mm_LBWorker_workResult.2.1 21 = .ok (.lload 4, 2) ∧ 21 + 2 = 23 := ⟨by decide +kernel, rfl⟩
theorem d_LBWorker_workResult_23 : decode mm_LBWorker_workResult.2.1 23 = .ok (.lreturn, 1) := by decide +kernel
theorem d_LBWorker_workResult_24 : decode mm_LBWorker_workResult.2.1 24 = .ok (.lload 4, 2) ∧ 24 + 2 = 26 := ⟨by decide +kernel, rfl⟩
theorem d_LBWorker_workResult_26 : decode mm_LBWorker_workResult.2.1 26 = .ok (.invokestatic 109, 3) ∧ 26 + 3 = 29 := ⟨by decide +kernel, rfl⟩
theorem d_LBWorker_workResult_29 : decode mm_LBWorker_workResult.2.1 29 = .ok (.ifCond .eq 15, 3) ∧ 29 + 3 = 32 ∧ ((29 : Nat) : Int) + (15) = ((44 : Nat) : Int) := ⟨by decide +kernel, rfl, by decide⟩
theorem d_LBWorker_workResult_32 : decode mm_LBWorker_workResult.2.1 32 = .ok (.aload_n 0, 1) ∧ 32 + 1 = 33 := ⟨by decide +kernel, rfl⟩
theorem d_LBWorker_workResult_33 : decode mm_LBWorker_workResult.2.1 33 = .ok (.getfield 9, 3) ∧ 33 + 3 = 36 := ⟨by decide +kernel, rfl⟩
theorem d_LBWorker_workResult_36 : decode mm_LBWorker_workResult.2.1 36 = .ok (.lload 4, 2) ∧ 36 + 2 = 38 := ⟨by decide +kernel, rfl⟩
theorem d_LBWorker_workResult_38 : decode mm_LBWorker_workResult.2.1 38 = .ok (.invokevirtual 131, 3) ∧ 38 + 3 = 41 := ⟨by decide +kernel, rfl⟩
theorem d_LBWorker_workResult_41 : decode mm_LBWorker_workResult.2.1 41 = .ok (.goto 6, 3) ∧ 41 + 3 = 44 ∧ ((41 : Nat) : Int) + (6) = ((47 : Nat) : Int) := ⟨by decide +kernel, rfl, by decide⟩
theorem d_LBWorker_workResult_44 : decode mm_LBWorker_workResult.2.1 44 = .ok (.ldc2_w 112, 3) ∧ 44 + 3 = 47 := ⟨by decide +kernel, rfl⟩
theorem d_LBWorker_workResult_47 : decode mm_LBWorker_workResult.2.1 47 = .ok (.lreturn, 1) := by decide +kernel
end
section
set_option maxRecDepth 100000 in
theorem wp_LB_init_0 {l : Launch} {G : mx_G} {d : Nat} {hs : mx_H} {Q : Option Value → mx_H → Prop} (l0 : Nat) (h : (∀ hs1 : mx_H, hs1 = mx_nw hs (1, [.null, .null, .int 0, .int 0, .int 0]) 5 → mx_C mx_S0 l G d mm_LBText_init [.ref hs.2.1] hs1 (fun (r2 : Option Value) (hs3 : mx_H) => r2 = none ∧ (∃ fs4 : List Value, hs3.1 l0 = some (0, fs4) ∧ ∀ hs5 : mx_H, hs5 = mx_st hs3 l0 (0, fs4.set 0 (.ref hs.2.1)) → (∀ hs6 : mx_H, hs6 = mx_nw hs5 (4, [.null, .null, .int 0, .int 0]) 4 → mx_C mx_S0 l G d mm_LBStore_init [.ref hs5.2.1] hs6 (fun (r7 : Option Value) (hs8 : mx_H) => r7 = none ∧ (∃ fs9 : List Value, hs8.1 l0 = some (0, fs9) ∧ ∀ hs10 : mx_H, hs10 = mx_st hs8 l0 (0, fs9.set 1 (.ref hs5.2.1)) → (∀ hs11 : mx_H, hs11 = mx_nw hs10 (5, [.null, .null, .null, .int 0, .int 0]) 5 → (∃ (a13 : Nat), mx_f hs11 l0 0 1 (.ref a13) ∧ mx_C mx_S0 l G d mm_LBWorker_init [.ref hs10.2.1, .ref a13] hs11 (fun (r14 : Option Value) (hs15 : mx_H) => r14 = none ∧ (∃ fs16 : List Value, hs15.1 l0 = some (0, fs16) ∧ ∀ hs17 : mx_H, hs17 = mx_st hs15 l0 (0, fs16.set 2 (.ref hs10.2.1)) → (∃ fs18 : List Value, hs17.1 l0 = some (0, fs18) ∧ ∀ hs19 : mx_H, hs19 = mx_st hs17 l0 (0, fs18.set 3 (.long (-1000000000000))) → (∃ fs20 : List Value, hs19.1 l0 = some (0, fs20) ∧ ∀ hs21 : mx_H, hs21 = mx_st hs19 l0 (0, fs20.set 4 (.int (-1))) → Q none hs21))))))))))))) : mx_Ok mx_S0 l G (d + 1) mm_LB_init 0 [(0, .ref l0)] [] hs Q := by
  refine mx_aload_nR d_LB_init_0 rfl 0 rfl ?_
  refine mx_objInit d_LB_init_1 kw_0 kw_1 k_objcode (Nat.le_of_ble_eq_true rfl) ?_
  refine mx_aload_nR d_LB_init_4 rfl 0 rfl ?_
  refine mx_new d_LB_init_5 (ci := 1) (q := mx_cl0_1) (fs := [.null, .null, .int 0, .int 0, .int 0]) (n := 5) rfl kw_2 kw_3 kw_4 rfl rfl mdf_1 ?_
  obtain ⟨hs1, hg_⟩ : ∃ x_, x_ = mx_nw hs (1, [.null, .null, .int 0, .int 0, .int 0]) 5 := ⟨_, rfl⟩
  replace h := h hs1 hg_
  rw [← hg_]
  clear hg_
  refine mx_dup d_LB_init_8 rfl ?_
  refine mx_invI (Y := mm_LBText_init) (As := []) (rest := [.ref hs.2.1, .ref l0]) rfl d_LB_init_9.1 ok_LBText_init kw_21 kw_22 rfl rfl rfl (Nat.le_of_ble_eq_true rfl) (Nat.le_of_ble_eq_true rfl) h (fun r2 hs3 h => ?_)
  obtain ⟨e9_, h⟩ := h
  subst e9_
  show mx_Ok mx_S0 l G (d + 1) mm_LB_init 12 [(0, .ref l0)] [.ref hs.2.1, .ref l0] hs3 Q
  obtain ⟨fs4, e1_, h⟩ := h
  refine mx_putF d_LB_init_12 (ci := 0) (k := 0) (q := mx_cl0_0) (ty := (.object "LazyBuilder$Text")) rfl (Nat.le_of_ble_eq_true rfl) kw_5 rfl rfl rfl (by decide +kernel) rfl rfl (by omega) e1_ ?_
  obtain ⟨hs5, hg_⟩ : ∃ x_, x_ = mx_st hs3 l0 (0, fs4.set 0 (.ref hs.2.1)) := ⟨_, rfl⟩
  replace h := h hs5 hg_
  rw [← hg_]
  clear hg_
  refine mx_aload_nR d_LB_init_15 rfl 0 rfl ?_
  refine mx_new d_LB_init_16 (ci := 4) (q := mx_cl0_4) (fs := [.null, .null, .int 0, .int 0]) (n := 4) rfl kw_6 kw_7 kw_8 rfl rfl mdf_4 ?_
  obtain ⟨hs6, hg_⟩ : ∃ x_, x_ = mx_nw hs5 (4, [.null, .null, .int 0, .int 0]) 4 := ⟨_, rfl⟩
  replace h := h hs6 hg_
  rw [← hg_]
  clear hg_
  refine mx_dup d_LB_init_19 rfl ?_
  refine mx_invI (Y := mm_LBStore_init) (As := []) (rest := [.ref hs5.2.1, .ref l0]) rfl d_LB_init_20.1 ok_LBStore_init kw_19 kw_20 rfl rfl rfl (Nat.le_of_ble_eq_true rfl) (Nat.le_of_ble_eq_true rfl) h (fun r7 hs8 h => ?_)
  obtain ⟨e9_, h⟩ := h
  subst e9_
  show mx_Ok mx_S0 l G (d + 1) mm_LB_init 23 [(0, .ref l0)] [.ref hs5.2.1, .ref l0] hs8 Q
  obtain ⟨fs9, e1_, h⟩ := h
  refine mx_putF d_LB_init_23 (ci := 0) (k := 1) (q := mx_cl0_0) (ty := (.object "LazyBuilder$Store")) rfl (Nat.le_of_ble_eq_true rfl) kw_9 rfl rfl rfl (by decide +kernel) rfl rfl (by omega) e1_ ?_
  obtain ⟨hs10, hg_⟩ : ∃ x_, x_ = mx_st hs8 l0 (0, fs9.set 1 (.ref hs5.2.1)) := ⟨_, rfl⟩
  replace h := h hs10 hg_
  rw [← hg_]
  clear hg_
  refine mx_aload_nR d_LB_init_26 rfl 0 rfl ?_
  refine mx_new d_LB_init_27 (ci := 5) (q := mx_cl0_5) (fs := [.null, .null, .null, .int 0, .int 0]) (n := 5) rfl kw_10 kw_11 kw_12 rfl rfl mdf_5 ?_
  obtain ⟨hs11, hg_⟩ : ∃ x_, x_ = mx_nw hs10 (5, [.null, .null, .null, .int 0, .int 0]) 5 := ⟨_, rfl⟩
  replace h := h hs11 hg_
  rw [← hg_]
  clear hg_
  refine mx_dup d_LB_init_30 rfl ?_
  refine mx_aload_nR d_LB_init_31 rfl 0 rfl ?_
  obtain ⟨a13, ⟨fs12, e1_, e2_⟩, h⟩ := h
  refine mx_get d_LB_init_32 (ci := 0) (k := 1) (q := mx_cl0_0) rfl (Nat.le_of_ble_eq_true rfl) kw_9 e1_ e2_ ?_
  refine mx_invI (Y := mm_LBWorker_init) (As := [.ref a13]) (rest := [.ref hs10.2.1, .ref l0]) rfl d_LB_init_35.1 ok_LBWorker_init kw_17 kw_18 rfl rfl rfl (Nat.le_of_ble_eq_true rfl) (Nat.le_of_ble_eq_true rfl) h (fun r14 hs15 h => ?_)
  obtain ⟨e9_, h⟩ := h
  subst e9_
  show mx_Ok mx_S0 l G (d + 1) mm_LB_init 38 [(0, .ref l0)] [.ref hs10.2.1, .ref l0] hs15 Q
  obtain ⟨fs16, e1_, h⟩ := h
  refine mx_putF d_LB_init_38 (ci := 0) (k := 2) (q := mx_cl0_0) (ty := (.object "LazyBuilder$Worker")) rfl (Nat.le_of_ble_eq_true rfl) kw_13 rfl rfl rfl (by decide +kernel) rfl rfl (by omega) e1_ ?_
  obtain ⟨hs17, hg_⟩ : ∃ x_, x_ = mx_st hs15 l0 (0, fs16.set 2 (.ref hs10.2.1)) := ⟨_, rfl⟩
  replace h := h hs17 hg_
  rw [← hg_]
  clear hg_
  refine mx_aload_nR d_LB_init_41 rfl 0 rfl ?_
  refine mx_ldc2 (v := (-1000000000000)) d_LB_init_42 kw_14 ?_
  obtain ⟨fs18, e1_, h⟩ := h
  refine mx_put d_LB_init_45 (ci := 0) (k := 3) (q := mx_cl0_0) (ty := .long) rfl (Nat.le_of_ble_eq_true rfl) kw_15 rfl (by decide +kernel) rfl rfl (by omega) e1_ ?_
  obtain ⟨hs19, hg_⟩ : ∃ x_, x_ = mx_st hs17 l0 (0, fs18.set 3 (.long (-1000000000000))) := ⟨_, rfl⟩
  replace h := h hs19 hg_
  rw [← hg_]
  clear hg_
  refine mx_aload_nR d_LB_init_48 rfl 0 rfl ?_
  refine mx_iconst (v := -1) d_LB_init_49 (by decide) ?_
  obtain ⟨fs20, e1_, h⟩ := h
  refine mx_put d_LB_init_50 (ci := 0) (k := 4) (q := mx_cl0_0) (ty := .int) rfl (Nat.le_of_ble_eq_true rfl) kw_16 rfl (by decide +kernel) rfl rfl (by omega) e1_ ?_
  obtain ⟨hs21, hg_⟩ : ∃ x_, x_ = mx_st hs19 l0 (0, fs20.set 4 (.int (-1))) := ⟨_, rfl⟩
  replace h := h hs21 hg_
  rw [← hg_]
  clear hg_
  exact mx_return d_LB_init_53 rfl h
set_option maxRecDepth 100000 in
theorem wp_LB_type_0 {l : Launch} {G : mx_G} {d : Nat} {hs : mx_H} {Q : Option Value → mx_H → Prop} (l0 : Nat) (l1 : Int32) (h : (∃ (a2 : Nat), mx_f hs l0 0 0 (.ref a2) ∧ ((∃ fs6 : List Value, hs.1 a2 = some (1, fs6)) ∧ mx_C mx_S0 l G d mm_LBText_append [.ref a2, .int l1] hs (fun (r3 : Option Value) (hs4 : mx_H) => ∃ x5 : Int32, r3 = some (.int x5) ∧ Q (some (.int x5)) hs4)))) : mx_Ok mx_S0 l G (d + 1) mm_LB_type 0 [(0, .ref l0), (1, .int l1)] [] hs Q := by
  refine mx_aload_nR d_LB_type_0 rfl 0 rfl ?_
  obtain ⟨a2, ⟨fs1, e1_, e2_⟩, h⟩ := h
  refine mx_get d_LB_type_1 (ci := 0) (k := 0) (q := mx_cl0_0) rfl (Nat.le_of_ble_eq_true rfl) kw_5 e1_ e2_ ?_
  refine mx_iload_n d_LB_type_4 rfl 1 rfl ?_
  obtain ⟨⟨fs6, e1_⟩, h⟩ := h
  refine mx_invV (Y := mm_LBText_append) (As := [.int l1]) (rest := []) d_LB_type_5.1 ok_LBText_append kw_23 kw_24 kw_25 rfl rfl (Nat.le_of_ble_eq_true rfl) (Nat.le_of_ble_eq_true rfl) e1_ (q := mx_cl0_1) rfl rfl h (fun r3 hs4 h => ?_)
  obtain ⟨x5, e9_, h⟩ := h
  subst e9_
  show mx_Ok mx_S0 l G (d + 1) mm_LB_type 8 [(0, .ref l0), (1, .int l1)] [.int x5] hs4 Q
  exact mx_ireturn d_LB_type_8 rfl rfl h
set_option maxRecDepth 100000 in
theorem wp_LB_types_0 {l : Launch} {G : mx_G} {d : Nat} {hs : mx_H} {Q : Option Value → mx_H → Prop} (l0 : Nat) (l1 : Int64) (h : mx_Ok mx_S0 l G (d + 1) mm_LB_types 3 [(0, .ref l0), (1, .long l1), (3, .int 56)] [] hs Q) : mx_Ok mx_S0 l G (d + 1) mm_LB_types 0 [(0, .ref l0), (1, .long l1)] [] hs Q := by
  refine mx_bipush (v := 56) d_LB_types_0 (by decide) ?_
  refine mx_istore_n (lv2 := [(3, .int 56), (0, .ref l0), (1, .long l1)]) d_LB_types_2 rfl (Nat.le_of_ble_eq_true rfl) rfl ?_
  exact mx_sub [1, 2, 0] rfl h
set_option maxRecDepth 100000 in
theorem wp_LB_types_3 {l : Launch} {G : mx_G} {d : Nat} {hs : mx_H} {Q : Option Value → mx_H → Prop} (l0 : Nat) (l1 : Int64) (l3 : Int32) (h : ((l3 < 0 → (∃ (a2 : Nat), mx_f hs l0 0 0 (.ref a2) ∧ (∃ (x4 : Int32), mx_f hs a2 1 2 (.int x4) ∧ Q (some (.int x4)) hs))) ∧ (¬ (l3 < 0) → ((((Int64.toInt32 ((Int64.toUInt64 l1 >>> ((Int32.toInt64 l3).toUInt64 &&& Int64.toUInt64 63)).toInt64)) &&& 255) = 0 → mx_Ok mx_S0 l G (d + 1) mm_LB_types 41 [(0, .ref l0), (1, .long l1), (3, .int l3)] [] hs Q) ∧ (¬ (((Int64.toInt32 ((Int64.toUInt64 l1 >>> ((Int32.toInt64 l3).toUInt64 &&& Int64.toUInt64 63)).toInt64)) &&& 255) = 0) → (∃ (a6 : Nat), mx_f hs l0 0 0 (.ref a6) ∧ ((∃ fs10 : List Value, hs.1 a6 = some (1, fs10)) ∧ mx_C mx_S0 l G d mm_LBText_append [.ref a6, .int ((Int64.toInt32 ((Int64.toUInt64 l1 >>> ((Int32.toInt64 l3).toUInt64 &&& Int64.toUInt64 63)).toInt64)) &&& 255)] hs (fun (r7 : Option Value) (hs8 : mx_H) => ∃ x9 : Int32, r7 = some (.int x9) ∧ ((0 ≤ x9 → mx_Ok mx_S0 l G (d + 1) mm_LB_types 41 [(0, .ref l0), (1, .long l1), (3, .int l3)] [] hs8 Q) ∧ (¬ (0 ≤ x9) → Q (some (.int x9)) hs8)))))))))) : mx_Ok mx_S0 l G (d + 1) mm_LB_types 3 [(0, .ref l0), (1, .long l1), (3, .int l3)] [] hs Q := by
  refine mx_iload_n d_LB_types_3 rfl 2 rfl ?_
  refine mx_if_lt d_LB_types_4 (fun c9 => ?_) (fun c9 => ?_)
  · replace h := h.1 c9
    refine mx_aload_nR d_LB_types_47 rfl 0 rfl ?_
    obtain ⟨a2, ⟨fs1, e1_, e2_⟩, h⟩ := h
    refine mx_get d_LB_types_48 (ci := 0) (k := 0) (q := mx_cl0_0) rfl (Nat.le_of_ble_eq_true rfl) kw_5 e1_ e2_ ?_
    obtain ⟨x4, ⟨fs3, e1_, e2_⟩, h⟩ := h
    refine mx_get d_LB_types_51 (ci := 1) (k := 2) (q := mx_cl0_1) rfl (Nat.le_of_ble_eq_true rfl) kw_26 e1_ e2_ ?_
    exact mx_ireturn d_LB_types_54 rfl rfl h
  · replace h := h.2 c9
    refine mx_lload_n d_LB_types_7 rfl 1 rfl ?_
    refine mx_iload_n d_LB_types_8 rfl 2 rfl ?_
    refine mx_lushr d_LB_types_9 ?_
    refine mx_l2i d_LB_types_10 ?_
    refine mx_sipush (v := 255) d_LB_types_11 (by decide) ?_
    refine mx_iand d_LB_types_14 ?_
    refine mx_istore (lv2 := [(4, .int ((Int64.toInt32 ((Int64.toUInt64 l1 >>> ((Int32.toInt64 l3).toUInt64 &&& Int64.toUInt64 63)).toInt64)) &&& 255)), (0, .ref l0), (1, .long l1), (3, .int l3)]) d_LB_types_15 (Nat.le_of_ble_eq_true rfl) rfl ?_
    refine mx_iload d_LB_types_17 0 rfl ?_
    refine mx_if_eq d_LB_types_19 (fun c9 => ?_) (fun c9 => ?_)
    · replace h := h.1 c9
      exact mx_sub [1, 2, 3] rfl h
    · replace h := h.2 c9
      refine mx_aload_nR d_LB_types_22 rfl 1 rfl ?_
      obtain ⟨a6, ⟨fs5, e1_, e2_⟩, h⟩ := h
      refine mx_get d_LB_types_23 (ci := 0) (k := 0) (q := mx_cl0_0) rfl (Nat.le_of_ble_eq_true rfl) kw_5 e1_ e2_ ?_
      refine mx_iload d_LB_types_26 0 rfl ?_
      obtain ⟨⟨fs10, e1_⟩, h⟩ := h
      refine mx_invV (Y := mm_LBText_append) (As := [.int ((Int64.toInt32 ((Int64.toUInt64 l1 >>> ((Int32.toInt64 l3).toUInt64 &&& Int64.toUInt64 63)).toInt64)) &&& 255)]) (rest := []) d_LB_types_28.1 ok_LBText_append kw_23 kw_24 kw_25 rfl rfl (Nat.le_of_ble_eq_true rfl) (Nat.le_of_ble_eq_true rfl) e1_ (q := mx_cl0_1) rfl rfl h (fun r7 hs8 h => ?_)
      obtain ⟨x9, e9_, h⟩ := h
      subst e9_
      show mx_Ok mx_S0 l G (d + 1) mm_LB_types 31 [(4, .int ((Int64.toInt32 ((Int64.toUInt64 l1 >>> ((Int32.toInt64 l3).toUInt64 &&& Int64.toUInt64 63)).toInt64)) &&& 255)), (0, .ref l0), (1, .long l1), (3, .int l3)] [.int x9] hs8 Q
      refine mx_istore (lv2 := [(5, .int x9), (4, .int ((Int64.toInt32 ((Int64.toUInt64 l1 >>> ((Int32.toInt64 l3).toUInt64 &&& Int64.toUInt64 63)).toInt64)) &&& 255)), (0, .ref l0), (1, .long l1), (3, .int l3)]) d_LB_types_31 (Nat.le_of_ble_eq_true rfl) rfl ?_
      refine mx_iload d_LB_types_33 0 rfl ?_
      refine mx_if_ge d_LB_types_35 (fun c9 => ?_) (fun c9 => ?_)
      · replace h := h.1 c9
        exact mx_sub [2, 3, 4] rfl h
      · replace h := h.2 c9
        refine mx_iload d_LB_types_38 0 rfl ?_
        exact mx_ireturn d_LB_types_40 rfl rfl h
set_option maxRecDepth 100000 in
theorem wp_LB_types_41 {l : Launch} {G : mx_G} {d : Nat} {hs : mx_H} {Q : Option Value → mx_H → Prop} (l0 : Nat) (l1 : Int64) (l3 : Int32) (h : mx_Ok mx_S0 l G (d + 1) mm_LB_types 3 [(0, .ref l0), (1, .long l1), (3, .int (l3 + (-8)))] [] hs Q) : mx_Ok mx_S0 l G (d + 1) mm_LB_types 41 [(0, .ref l0), (1, .long l1), (3, .int l3)] [] hs Q := by
  refine mx_iinc (v := l3 + (-8)) (lv2 := [(3, .int (l3 + (-8))), (0, .ref l0), (1, .long l1)]) d_LB_types_41 2 rfl (by rfl) (Nat.le_of_ble_eq_true rfl) rfl ?_
  refine mx_goto d_LB_types_44 ?_
  exact mx_sub [1, 2, 0] rfl h
set_option maxRecDepth 100000 in
theorem wp_LB_define_0 {l : Launch} {G : mx_G} {d : Nat} {hs : mx_H} {Q : Option Value → mx_H → Prop} (l0 : Nat) (l1 : Int32) (h : mx_C mx_S0 l G d mm_LB_isNameNumber [.int l1] hs (fun (r1 : Option Value) (hs2 : mx_H) => ∃ x3 : Int32, r1 = some (.int x3) ∧ ((¬ x3 = 0 → ((∃ fs23 : List Value, hs2.1 l0 = some (0, fs23)) ∧ mx_C mx_S0 l G d mm_LB_readLine [.ref l0] hs2 (fun (r4 : Option Value) (hs5 : mx_H) => ∃ x6 : Int32, r4 = some (.int x6) ∧ ((¬ x6 = 0 → (∃ (a8 : Nat), mx_f hs5 l0 0 0 (.ref a8) ∧ (∃ (x10 : Int32), mx_f hs5 a8 1 3 (.int x10) ∧ (∃ (a12 : Nat), mx_f hs5 l0 0 2 (.ref a12) ∧ (∃ (a14 : Nat), mx_f hs5 l0 0 0 (.ref a14) ∧ ((∃ fs22 : List Value, hs5.1 a12 = some (5, fs22)) ∧ mx_C mx_S0 l G d mm_LBWorker_bind [.ref a12, .int l1, .ref a14] hs5 (fun (r15 : Option Value) (hs16 : mx_H) => r15 = none ∧ (∃ (a18 : Nat), mx_f hs16 l0 0 0 (.ref a18) ∧ ((∃ fs21 : List Value, hs16.1 a18 = some (1, fs21)) ∧ mx_C mx_S0 l G d mm_LBText_clear [.ref a18] hs16 (fun (r19 : Option Value) (hs20 : mx_H) => r19 = none ∧ Q (some (.int x10)) hs20)))))))))) ∧ (¬ (¬ x6 = 0) → Q (some (.int (-3))) hs5))))) ∧ (¬ (¬ x3 = 0) → Q (some (.int (-1))) hs2)))) : mx_Ok mx_S0 l G (d + 1) mm_LB_define 0 [(0, .ref l0), (1, .int l1)] [] hs Q := by
  refine mx_iload_n d_LB_define_0 rfl 1 rfl ?_
  refine mx_invS (Y := mm_LB_isNameNumber) (As := [.int l1]) (rest := []) d_LB_define_1.1 ok_LB_isNameNumber kw_37 kw_38 rfl rfl (Nat.le_of_ble_eq_true rfl) (Nat.le_of_ble_eq_true rfl) h (fun r1 hs2 h => ?_)
  obtain ⟨x3, e9_, h⟩ := h
  subst e9_
  show mx_Ok mx_S0 l G (d + 1) mm_LB_define 4 [(0, .ref l0), (1, .int l1)] [.int x3] hs2 Q
  refine mx_if_ne d_LB_define_4 (fun c9 => ?_) (fun c9 => ?_)
  · replace h := h.1 c9
    refine mx_aload_nR d_LB_define_9 rfl 0 rfl ?_
    obtain ⟨⟨fs23, e1_⟩, h⟩ := h
    refine mx_invV (Y := mm_LB_readLine) (As := []) (rest := []) d_LB_define_10.1 ok_LB_readLine kw_34 kw_35 kw_36 rfl rfl (Nat.le_of_ble_eq_true rfl) (Nat.le_of_ble_eq_true rfl) e1_ (q := mx_cl0_0) rfl rfl h (fun r4 hs5 h => ?_)
    obtain ⟨x6, e9_, h⟩ := h
    subst e9_
    show mx_Ok mx_S0 l G (d + 1) mm_LB_define 13 [(0, .ref l0), (1, .int l1)] [.int x6] hs5 Q
    refine mx_if_ne d_LB_define_13 (fun c9 => ?_) (fun c9 => ?_)
    · replace h := h.1 c9
      refine mx_aload_nR d_LB_define_19 rfl 0 rfl ?_
      obtain ⟨a8, ⟨fs7, e1_, e2_⟩, h⟩ := h
      refine mx_get d_LB_define_20 (ci := 0) (k := 0) (q := mx_cl0_0) rfl (Nat.le_of_ble_eq_true rfl) kw_5 e1_ e2_ ?_
      obtain ⟨x10, ⟨fs9, e1_, e2_⟩, h⟩ := h
      refine mx_get d_LB_define_23 (ci := 1) (k := 3) (q := mx_cl0_1) rfl (Nat.le_of_ble_eq_true rfl) kw_27 e1_ e2_ ?_
      refine mx_istore_n (lv2 := [(2, .int x10), (0, .ref l0), (1, .int l1)]) d_LB_define_26 rfl (Nat.le_of_ble_eq_true rfl) rfl ?_
      refine mx_aload_nR d_LB_define_27 rfl 1 rfl ?_
      obtain ⟨a12, ⟨fs11, e1_, e2_⟩, h⟩ := h
      refine mx_get d_LB_define_28 (ci := 0) (k := 2) (q := mx_cl0_0) rfl (Nat.le_of_ble_eq_true rfl) kw_13 e1_ e2_ ?_
      refine mx_iload_n d_LB_define_31 rfl 2 rfl ?_
      refine mx_aload_nR d_LB_define_32 rfl 1 rfl ?_
      obtain ⟨a14, ⟨fs13, e1_, e2_⟩, h⟩ := h
      refine mx_get d_LB_define_33 (ci := 0) (k := 0) (q := mx_cl0_0) rfl (Nat.le_of_ble_eq_true rfl) kw_5 e1_ e2_ ?_
      obtain ⟨⟨fs22, e1_⟩, h⟩ := h
      refine mx_invV (Y := mm_LBWorker_bind) (As := [.int l1, .ref a14]) (rest := []) d_LB_define_36.1 ok_LBWorker_bind kw_31 kw_32 kw_33 rfl rfl (Nat.le_of_ble_eq_true rfl) (Nat.le_of_ble_eq_true rfl) e1_ (q := mx_cl0_5) rfl rfl h (fun r15 hs16 h => ?_)
      obtain ⟨e9_, h⟩ := h
      subst e9_
      show mx_Ok mx_S0 l G (d + 1) mm_LB_define 39 [(2, .int x10), (0, .ref l0), (1, .int l1)] [] hs16 Q
      refine mx_aload_nR d_LB_define_39 rfl 1 rfl ?_
      obtain ⟨a18, ⟨fs17, e1_, e2_⟩, h⟩ := h
      refine mx_get d_LB_define_40 (ci := 0) (k := 0) (q := mx_cl0_0) rfl (Nat.le_of_ble_eq_true rfl) kw_5 e1_ e2_ ?_
      obtain ⟨⟨fs21, e1_⟩, h⟩ := h
      refine mx_invV (Y := mm_LBText_clear) (As := []) (rest := []) d_LB_define_43.1 ok_LBText_clear kw_28 kw_29 kw_30 rfl rfl (Nat.le_of_ble_eq_true rfl) (Nat.le_of_ble_eq_true rfl) e1_ (q := mx_cl0_1) rfl rfl h (fun r19 hs20 h => ?_)
      obtain ⟨e9_, h⟩ := h
      subst e9_
      show mx_Ok mx_S0 l G (d + 1) mm_LB_define 46 [(2, .int x10), (0, .ref l0), (1, .int l1)] [] hs20 Q
      refine mx_iload_n d_LB_define_46 rfl 0 rfl ?_
      exact mx_ireturn d_LB_define_47 rfl rfl h
    · replace h := h.2 c9
      refine mx_bipush (v := (-3)) d_LB_define_16 (by decide) ?_
      exact mx_ireturn d_LB_define_18 rfl rfl h
  · replace h := h.2 c9
    refine mx_iconst (v := -1) d_LB_define_7 (by decide) ?_
    exact mx_ireturn d_LB_define_8 rfl rfl h
set_option maxRecDepth 100000 in
theorem wp_LB_undefine_0 {l : Launch} {G : mx_G} {d : Nat} {hs : mx_H} {Q : Option Value → mx_H → Prop} (l0 : Nat) (l1 : Int32) (h : mx_C mx_S0 l G d mm_LB_isNameNumber [.int l1] hs (fun (r1 : Option Value) (hs2 : mx_H) => ∃ x3 : Int32, r1 = some (.int x3) ∧ ((x3 = 0 → Q (some (.int (-1))) hs2) ∧ (¬ (x3 = 0) → (∃ (a5 : Nat), mx_f hs2 l0 0 2 (.ref a5) ∧ (∃ (a7 : Nat), mx_f hs2 a5 5 0 (.ref a7) ∧ (∃ (vs8 : List Value) (a9 : Nat), hs2.1 a7 = some (112, vs8) ∧ ¬ l1 < 0 ∧ vs8[Int32.toNatClampNeg l1]? = some (.ref a9) ∧ (∃ (x11 : Int32), mx_f hs2 a9 2 1 (.int x11) ∧ ((¬ x11 = 0 → (∃ (a13 : Nat), mx_f hs2 l0 0 2 (.ref a13) ∧ ((∃ fs16 : List Value, hs2.1 a13 = some (5, fs16)) ∧ mx_C mx_S0 l G d mm_LBWorker_unbind [.ref a13, .int l1] hs2 (fun (r14 : Option Value) (hs15 : mx_H) => r14 = none ∧ Q (some (.int 0)) hs15)))) ∧ (¬ (¬ x11 = 0) → Q (some (.int (-1))) hs2)))))))))) : mx_Ok mx_S0 l G (d + 1) mm_LB_undefine 0 [(0, .ref l0), (1, .int l1)] [] hs Q := by
  refine mx_iload_n d_LB_undefine_0 rfl 1 rfl ?_
  refine mx_invS (Y := mm_LB_isNameNumber) (As := [.int l1]) (rest := []) d_LB_undefine_1.1 ok_LB_isNameNumber kw_37 kw_38 rfl rfl (Nat.le_of_ble_eq_true rfl) (Nat.le_of_ble_eq_true rfl) h (fun r1 hs2 h => ?_)
  obtain ⟨x3, e9_, h⟩ := h
  subst e9_
  show mx_Ok mx_S0 l G (d + 1) mm_LB_undefine 4 [(0, .ref l0), (1, .int l1)] [.int x3] hs2 Q
  refine mx_if_eq d_LB_undefine_4 (fun c9 => ?_) (fun c9 => ?_)
  · replace h := h.1 c9
    refine mx_iconst (v := -1) d_LB_undefine_22 (by decide) ?_
    exact mx_ireturn d_LB_undefine_23 rfl rfl h
  · replace h := h.2 c9
    refine mx_aload_nR d_LB_undefine_7 rfl 0 rfl ?_
    obtain ⟨a5, ⟨fs4, e1_, e2_⟩, h⟩ := h
    refine mx_get d_LB_undefine_8 (ci := 0) (k := 2) (q := mx_cl0_0) rfl (Nat.le_of_ble_eq_true rfl) kw_13 e1_ e2_ ?_
    obtain ⟨a7, ⟨fs6, e1_, e2_⟩, h⟩ := h
    refine mx_get d_LB_undefine_11 (ci := 5) (k := 0) (q := mx_cl0_5) rfl (Nat.le_of_ble_eq_true rfl) kw_39 e1_ e2_ ?_
    refine mx_iload_n d_LB_undefine_14 rfl 1 rfl ?_
    obtain ⟨vs8, a9, e1_, e2_, e3_, h⟩ := h
    refine mx_aald (C := "LazyBuilder$Name") d_LB_undefine_15 (k := 112) rfl e1_ e2_ e3_ ?_
    obtain ⟨x11, ⟨fs10, e1_, e2_⟩, h⟩ := h
    refine mx_get d_LB_undefine_16 (ci := 2) (k := 1) (q := mx_cl0_2) rfl (Nat.le_of_ble_eq_true rfl) kw_40 e1_ e2_ ?_
    refine mx_if_ne d_LB_undefine_19 (fun c9 => ?_) (fun c9 => ?_)
    · replace h := h.1 c9
      refine mx_aload_nR d_LB_undefine_24 rfl 0 rfl ?_
      obtain ⟨a13, ⟨fs12, e1_, e2_⟩, h⟩ := h
      refine mx_get d_LB_undefine_25 (ci := 0) (k := 2) (q := mx_cl0_0) rfl (Nat.le_of_ble_eq_true rfl) kw_13 e1_ e2_ ?_
      refine mx_iload_n d_LB_undefine_28 rfl 1 rfl ?_
      obtain ⟨⟨fs16, e1_⟩, h⟩ := h
      refine mx_invV (Y := mm_LBWorker_unbind) (As := [.int l1]) (rest := []) d_LB_undefine_29.1 ok_LBWorker_unbind kw_41 kw_42 kw_43 rfl rfl (Nat.le_of_ble_eq_true rfl) (Nat.le_of_ble_eq_true rfl) e1_ (q := mx_cl0_5) rfl rfl h (fun r14 hs15 h => ?_)
      obtain ⟨e9_, h⟩ := h
      subst e9_
      show mx_Ok mx_S0 l G (d + 1) mm_LB_undefine 32 [(0, .ref l0), (1, .int l1)] [] hs15 Q
      refine mx_iconst (v := 0) d_LB_undefine_32 (by decide) ?_
      exact mx_ireturn d_LB_undefine_33 rfl rfl h
    · replace h := h.2 c9
      refine mx_iconst (v := -1) d_LB_undefine_22 (by decide) ?_
      exact mx_ireturn d_LB_undefine_23 rfl rfl h
set_option maxRecDepth 100000 in
theorem wp_LB_force_0 {l : Launch} {G : mx_G} {d : Nat} {hs : mx_H} {Q : Option Value → mx_H → Prop} (l0 : Nat) (l1 : Int32) (h : mx_C mx_S0 l G d mm_LB_isNameNumber [.int l1] hs (fun (r1 : Option Value) (hs2 : mx_H) => ∃ x3 : Int32, r1 = some (.int x3) ∧ ((¬ x3 = 0 → (∃ (a5 : Nat), mx_f hs2 l0 0 2 (.ref a5) ∧ ((∃ fs21 : List Value, hs2.1 a5 = some (5, fs21)) ∧ mx_C mx_S0 l G d mm_LBWorker_isClosed [.ref a5] hs2 (fun (r6 : Option Value) (hs7 : mx_H) => ∃ x8 : Int32, r6 = some (.int x8) ∧ ((x8 = 0 → (∃ (a10 : Nat), mx_f hs7 l0 0 2 (.ref a10) ∧ (∃ (a12 : Nat), mx_f hs7 l0 0 2 (.ref a12) ∧ ((∃ fs20 : List Value, hs7.1 a12 = some (5, fs20)) ∧ mx_C mx_S0 l G d mm_LBWorker_workOutName [.ref a12, .int l1] hs7 (fun (r13 : Option Value) (hs14 : mx_H) => ∃ x15 : Int64, r13 = some (.long x15) ∧ ((∃ fs19 : List Value, hs14.1 a10 = some (5, fs19)) ∧ mx_C mx_S0 l G d mm_LBWorker_answerOf [.ref a10, .long x15] hs14 (fun (r16 : Option Value) (hs17 : mx_H) => ∃ x18 : Int32, r16 = some (.int x18) ∧ Q (some (.int x18)) hs17))))))) ∧ (¬ (x8 = 0) → Q (some (.int (-11))) hs7)))))) ∧ (¬ (¬ x3 = 0) → Q (some (.int (-1))) hs2)))) : mx_Ok mx_S0 l G (d + 1) mm_LB_force 0 [(0, .ref l0), (1, .int l1)] [] hs Q := by
  refine mx_iload_n d_LB_force_0 rfl 1 rfl ?_
  refine mx_invS (Y := mm_LB_isNameNumber) (As := [.int l1]) (rest := []) d_LB_force_1.1 ok_LB_isNameNumber kw_37 kw_38 rfl rfl (Nat.le_of_ble_eq_true rfl) (Nat.le_of_ble_eq_true rfl) h (fun r1 hs2 h => ?_)
  obtain ⟨x3, e9_, h⟩ := h
  subst e9_
  show mx_Ok mx_S0 l G (d + 1) mm_LB_force 4 [(0, .ref l0), (1, .int l1)] [.int x3] hs2 Q
  refine mx_if_ne d_LB_force_4 (fun c9 => ?_) (fun c9 => ?_)
  · replace h := h.1 c9
    refine mx_aload_nR d_LB_force_9 rfl 0 rfl ?_
    obtain ⟨a5, ⟨fs4, e1_, e2_⟩, h⟩ := h
    refine mx_get d_LB_force_10 (ci := 0) (k := 2) (q := mx_cl0_0) rfl (Nat.le_of_ble_eq_true rfl) kw_13 e1_ e2_ ?_
    obtain ⟨⟨fs21, e1_⟩, h⟩ := h
    refine mx_invV (Y := mm_LBWorker_isClosed) (As := []) (rest := []) d_LB_force_13.1 ok_LBWorker_isClosed kw_50 kw_51 kw_52 rfl rfl (Nat.le_of_ble_eq_true rfl) (Nat.le_of_ble_eq_true rfl) e1_ (q := mx_cl0_5) rfl rfl h (fun r6 hs7 h => ?_)
    obtain ⟨x8, e9_, h⟩ := h
    subst e9_
    show mx_Ok mx_S0 l G (d + 1) mm_LB_force 16 [(0, .ref l0), (1, .int l1)] [.int x8] hs7 Q
    refine mx_if_eq d_LB_force_16 (fun c9 => ?_) (fun c9 => ?_)
    · replace h := h.1 c9
      refine mx_aload_nR d_LB_force_22 rfl 0 rfl ?_
      obtain ⟨a10, ⟨fs9, e1_, e2_⟩, h⟩ := h
      refine mx_get d_LB_force_23 (ci := 0) (k := 2) (q := mx_cl0_0) rfl (Nat.le_of_ble_eq_true rfl) kw_13 e1_ e2_ ?_
      refine mx_aload_nR d_LB_force_26 rfl 0 rfl ?_
      obtain ⟨a12, ⟨fs11, e1_, e2_⟩, h⟩ := h
      refine mx_get d_LB_force_27 (ci := 0) (k := 2) (q := mx_cl0_0) rfl (Nat.le_of_ble_eq_true rfl) kw_13 e1_ e2_ ?_
      refine mx_iload_n d_LB_force_30 rfl 1 rfl ?_
      obtain ⟨⟨fs20, e1_⟩, h⟩ := h
      refine mx_invV (Y := mm_LBWorker_workOutName) (As := [.int l1]) (rest := [.ref a10]) d_LB_force_31.1 ok_LBWorker_workOutName kw_47 kw_48 kw_49 rfl rfl (Nat.le_of_ble_eq_true rfl) (Nat.le_of_ble_eq_true rfl) e1_ (q := mx_cl0_5) rfl rfl h (fun r13 hs14 h => ?_)
      obtain ⟨x15, e9_, h⟩ := h
      subst e9_
      show mx_Ok mx_S0 l G (d + 1) mm_LB_force 34 [(0, .ref l0), (1, .int l1)] [.long x15, .ref a10] hs14 Q
      obtain ⟨⟨fs19, e1_⟩, h⟩ := h
      refine mx_invV (Y := mm_LBWorker_answerOf) (As := [.long x15]) (rest := []) d_LB_force_34.1 ok_LBWorker_answerOf kw_44 kw_45 kw_46 rfl rfl (Nat.le_of_ble_eq_true rfl) (Nat.le_of_ble_eq_true rfl) e1_ (q := mx_cl0_5) rfl rfl h (fun r16 hs17 h => ?_)
      obtain ⟨x18, e9_, h⟩ := h
      subst e9_
      show mx_Ok mx_S0 l G (d + 1) mm_LB_force 37 [(0, .ref l0), (1, .int l1)] [.int x18] hs17 Q
      exact mx_ireturn d_LB_force_37 rfl rfl h
    · replace h := h.2 c9
      refine mx_bipush (v := (-11)) d_LB_force_19 (by decide) ?_
      exact mx_ireturn d_LB_force_21 rfl rfl h
  · replace h := h.2 c9
    refine mx_iconst (v := -1) d_LB_force_7 (by decide) ?_
    exact mx_ireturn d_LB_force_8 rfl rfl h
set_option maxRecDepth 100000 in
theorem wp_LB_show_0 {l : Launch} {G : mx_G} {d : Nat} {hs : mx_H} {Q : Option Value → mx_H → Prop} (l0 : Nat) (h : ((∃ fs14 : List Value, hs.1 l0 = some (0, fs14)) ∧ mx_C mx_S0 l G d mm_LB_readLine [.ref l0] hs (fun (r1 : Option Value) (hs2 : mx_H) => ∃ x3 : Int32, r1 = some (.int x3) ∧ ((¬ x3 = 0 → (∃ (a5 : Nat), mx_f hs2 l0 0 2 (.ref a5) ∧ ((∃ fs13 : List Value, hs2.1 a5 = some (5, fs13)) ∧ mx_C mx_S0 l G d mm_LBWorker_isClosed [.ref a5] hs2 (fun (r6 : Option Value) (hs7 : mx_H) => ∃ x8 : Int32, r6 = some (.int x8) ∧ ((x8 = 0 → ((∃ fs12 : List Value, hs7.1 l0 = some (0, fs12)) ∧ mx_C mx_S0 l G d mm_LB_workLineOut [.ref l0] hs7 (fun (r9 : Option Value) (hs10 : mx_H) => ∃ x11 : Int32, r9 = some (.int x11) ∧ mx_Ok mx_S0 l G (d + 1) mm_LB_show 29 [(0, .ref l0)] [.int x11] hs10 Q))) ∧ (¬ (x8 = 0) → mx_Ok mx_S0 l G (d + 1) mm_LB_show 29 [(0, .ref l0)] [.int (-11)] hs7 Q)))))) ∧ (¬ (¬ x3 = 0) → Q (some (.int (-3))) hs2))))) : mx_Ok mx_S0 l G (d + 1) mm_LB_show 0 [(0, .ref l0)] [] hs Q := by
  refine mx_aload_nR d_LB_show_0 rfl 0 rfl ?_
  obtain ⟨⟨fs14, e1_⟩, h⟩ := h
  refine mx_invV (Y := mm_LB_readLine) (As := []) (rest := []) d_LB_show_1.1 ok_LB_readLine kw_34 kw_35 kw_36 rfl rfl (Nat.le_of_ble_eq_true rfl) (Nat.le_of_ble_eq_true rfl) e1_ (q := mx_cl0_0) rfl rfl h (fun r1 hs2 h => ?_)
  obtain ⟨x3, e9_, h⟩ := h
  subst e9_
  show mx_Ok mx_S0 l G (d + 1) mm_LB_show 4 [(0, .ref l0)] [.int x3] hs2 Q
  refine mx_if_ne d_LB_show_4 (fun c9 => ?_) (fun c9 => ?_)
  · replace h := h.1 c9
    refine mx_aload_nR d_LB_show_10 rfl 0 rfl ?_
    obtain ⟨a5, ⟨fs4, e1_, e2_⟩, h⟩ := h
    refine mx_get d_LB_show_11 (ci := 0) (k := 2) (q := mx_cl0_0) rfl (Nat.le_of_ble_eq_true rfl) kw_13 e1_ e2_ ?_
    obtain ⟨⟨fs13, e1_⟩, h⟩ := h
    refine mx_invV (Y := mm_LBWorker_isClosed) (As := []) (rest := []) d_LB_show_14.1 ok_LBWorker_isClosed kw_50 kw_51 kw_52 rfl rfl (Nat.le_of_ble_eq_true rfl) (Nat.le_of_ble_eq_true rfl) e1_ (q := mx_cl0_5) rfl rfl h (fun r6 hs7 h => ?_)
    obtain ⟨x8, e9_, h⟩ := h
    subst e9_
    show mx_Ok mx_S0 l G (d + 1) mm_LB_show 17 [(0, .ref l0)] [.int x8] hs7 Q
    refine mx_if_eq d_LB_show_17 (fun c9 => ?_) (fun c9 => ?_)
    · replace h := h.1 c9
      refine mx_aload_nR d_LB_show_25 rfl 0 rfl ?_
      obtain ⟨⟨fs12, e1_⟩, h⟩ := h
      refine mx_invV (Y := mm_LB_workLineOut) (As := []) (rest := []) d_LB_show_26.1 ok_LB_workLineOut kw_53 kw_54 kw_55 rfl rfl (Nat.le_of_ble_eq_true rfl) (Nat.le_of_ble_eq_true rfl) e1_ (q := mx_cl0_0) rfl rfl h (fun r9 hs10 h => ?_)
      obtain ⟨x11, e9_, h⟩ := h
      subst e9_
      show mx_Ok mx_S0 l G (d + 1) mm_LB_show 29 [(0, .ref l0)] [.int x11] hs10 Q
      exact mx_sub [0] rfl h
    · replace h := h.2 c9
      refine mx_bipush (v := (-11)) d_LB_show_20 (by decide) ?_
      refine mx_goto d_LB_show_22 ?_
      exact mx_sub [0] rfl h
  · replace h := h.2 c9
    refine mx_bipush (v := (-3)) d_LB_show_7 (by decide) ?_
    exact mx_ireturn d_LB_show_9 rfl rfl h
set_option maxRecDepth 100000 in
theorem wp_LB_show_29 {l : Launch} {G : mx_G} {d : Nat} {hs : mx_H} {Q : Option Value → mx_H → Prop} (l0 : Nat) (s0 : Int32) (h : (∃ (a2 : Nat), mx_f hs l0 0 0 (.ref a2) ∧ ((∃ fs5 : List Value, hs.1 a2 = some (1, fs5)) ∧ mx_C mx_S0 l G d mm_LBText_clear [.ref a2] hs (fun (r3 : Option Value) (hs4 : mx_H) => r3 = none ∧ Q (some (.int s0)) hs4)))) : mx_Ok mx_S0 l G (d + 1) mm_LB_show 29 [(0, .ref l0)] [.int s0] hs Q := by
  refine mx_istore_n (lv2 := [(1, .int s0), (0, .ref l0)]) d_LB_show_29 rfl (Nat.le_of_ble_eq_true rfl) rfl ?_
  refine mx_aload_nR d_LB_show_30 rfl 1 rfl ?_
  obtain ⟨a2, ⟨fs1, e1_, e2_⟩, h⟩ := h
  refine mx_get d_LB_show_31 (ci := 0) (k := 0) (q := mx_cl0_0) rfl (Nat.le_of_ble_eq_true rfl) kw_5 e1_ e2_ ?_
  obtain ⟨⟨fs5, e1_⟩, h⟩ := h
  refine mx_invV (Y := mm_LBText_clear) (As := []) (rest := []) d_LB_show_34.1 ok_LBText_clear kw_28 kw_29 kw_30 rfl rfl (Nat.le_of_ble_eq_true rfl) (Nat.le_of_ble_eq_true rfl) e1_ (q := mx_cl0_1) rfl rfl h (fun r3 hs4 h => ?_)
  obtain ⟨e9_, h⟩ := h
  subst e9_
  show mx_Ok mx_S0 l G (d + 1) mm_LB_show 37 [(1, .int s0), (0, .ref l0)] [] hs4 Q
  refine mx_iload_n d_LB_show_37 rfl 0 rfl ?_
  exact mx_ireturn d_LB_show_38 rfl rfl h
set_option maxRecDepth 100000 in
theorem wp_LB_value_0 {l : Launch} {G : mx_G} {d : Nat} {hs : mx_H} {Q : Option Value → mx_H → Prop} (l0 : Nat) (l1 : Int32) (h : ((¬ l1 = 8 → mx_C mx_S0 l G d mm_LB_isNameNumber [.int l1] hs (fun (r1 : Option Value) (hs2 : mx_H) => ∃ x3 : Int32, r1 = some (.int x3) ∧ ((x3 = 0 → Q (some (.long (-1000000000000))) hs2) ∧ (¬ (x3 = 0) → (∃ (a5 : Nat), mx_f hs2 l0 0 2 (.ref a5) ∧ (∃ (a7 : Nat), mx_f hs2 a5 5 0 (.ref a7) ∧ (∃ (vs8 : List Value) (a9 : Nat), hs2.1 a7 = some (112, vs8) ∧ ¬ l1 < 0 ∧ vs8[Int32.toNatClampNeg l1]? = some (.ref a9) ∧ (∃ (x11 : Int64), mx_f hs2 a9 2 3 (.long x11) ∧ Q (some (.long x11)) hs2)))))))) ∧ (¬ (¬ l1 = 8) → (∃ (x13 : Int64), mx_f hs l0 0 3 (.long x13) ∧ Q (some (.long x13)) hs)))) : mx_Ok mx_S0 l G (d + 1) mm_LB_value 0 [(0, .ref l0), (1, .int l1)] [] hs Q := by
  refine mx_iload_n d_LB_value_0 rfl 1 rfl ?_
  refine mx_bipush (v := 8) d_LB_value_1 (by decide) ?_
  refine mx_icmp_ne d_LB_value_3 (fun c9 => ?_) (fun c9 => ?_)
  · replace h := h.1 c9
    refine mx_iload_n d_LB_value_11 rfl 1 rfl ?_
    refine mx_invS (Y := mm_LB_isNameNumber) (As := [.int l1]) (rest := []) d_LB_value_12.1 ok_LB_isNameNumber kw_37 kw_38 rfl rfl (Nat.le_of_ble_eq_true rfl) (Nat.le_of_ble_eq_true rfl) h (fun r1 hs2 h => ?_)
    obtain ⟨x3, e9_, h⟩ := h
    subst e9_
    show mx_Ok mx_S0 l G (d + 1) mm_LB_value 15 [(0, .ref l0), (1, .int l1)] [.int x3] hs2 Q
    refine mx_if_eq d_LB_value_15 (fun c9 => ?_) (fun c9 => ?_)
    · replace h := h.1 c9
      refine mx_ldc2 (v := (-1000000000000)) d_LB_value_33 kw_14 ?_
      exact mx_lreturn d_LB_value_36 rfl h
    · replace h := h.2 c9
      refine mx_aload_nR d_LB_value_18 rfl 0 rfl ?_
      obtain ⟨a5, ⟨fs4, e1_, e2_⟩, h⟩ := h
      refine mx_get d_LB_value_19 (ci := 0) (k := 2) (q := mx_cl0_0) rfl (Nat.le_of_ble_eq_true rfl) kw_13 e1_ e2_ ?_
      obtain ⟨a7, ⟨fs6, e1_, e2_⟩, h⟩ := h
      refine mx_get d_LB_value_22 (ci := 5) (k := 0) (q := mx_cl0_5) rfl (Nat.le_of_ble_eq_true rfl) kw_39 e1_ e2_ ?_
      refine mx_iload_n d_LB_value_25 rfl 1 rfl ?_
      obtain ⟨vs8, a9, e1_, e2_, e3_, h⟩ := h
      refine mx_aald (C := "LazyBuilder$Name") d_LB_value_26 (k := 112) rfl e1_ e2_ e3_ ?_
      obtain ⟨x11, ⟨fs10, e1_, e2_⟩, h⟩ := h
      refine mx_get d_LB_value_27 (ci := 2) (k := 3) (q := mx_cl0_2) rfl (Nat.le_of_ble_eq_true rfl) kw_56 e1_ e2_ ?_
      refine mx_goto d_LB_value_30 ?_
      exact mx_lreturn d_LB_value_36 rfl h
  · replace h := h.2 c9
    refine mx_aload_nR d_LB_value_6 rfl 0 rfl ?_
    obtain ⟨x13, ⟨fs12, e1_, e2_⟩, h⟩ := h
    refine mx_get d_LB_value_7 (ci := 0) (k := 3) (q := mx_cl0_0) rfl (Nat.le_of_ble_eq_true rfl) kw_15 e1_ e2_ ?_
    exact mx_lreturn d_LB_value_10 rfl h
set_option maxRecDepth 100000 in
theorem wp_LB_builder_0 {l : Launch} {G : mx_G} {d : Nat} {hs : mx_H} {Q : Option Value → mx_H → Prop} (l0 : Nat) (l1 : Int32) (l2 : Int32) (h : ((l1 < 0 → Q (some (.int (-1))) hs) ∧ (¬ (l1 < 0) → ((10 ≤ l1 → Q (some (.int (-1))) hs) ∧ (¬ (10 ≤ l1) → ((l2 < 0 → Q (some (.int (-1))) hs) ∧ (¬ (l2 < 0) → ((l2 ≤ 4 → (∃ (a2 : Nat), mx_f hs l0 0 1 (.ref a2) ∧ (∃ (a4 : Nat), mx_f hs a2 4 1 (.ref a4) ∧ (∃ vs5 : List Value, hs.1 a4 = some (100, vs5) ∧ ¬ l1 < 0 ∧ Int32.toNatClampNeg l1 < vs5.length ∧ ∀ hs6 : mx_H, hs6 = mx_st hs a4 (100, vs5.set (Int32.toNatClampNeg l1) (.int l2)) → Q (some (.int 0)) hs6)))) ∧ (¬ (l2 ≤ 4) → Q (some (.int (-1))) hs))))))))) : mx_Ok mx_S0 l G (d + 1) mm_LB_builder 0 [(0, .ref l0), (1, .int l1), (2, .int l2)] [] hs Q := by
  refine mx_iload_n d_LB_builder_0 rfl 1 rfl ?_
  refine mx_if_lt d_LB_builder_1 (fun c9 => ?_) (fun c9 => ?_)
  · replace h := h.1 c9
    refine mx_iconst (v := -1) d_LB_builder_19 (by decide) ?_
    exact mx_ireturn d_LB_builder_20 rfl rfl h
  · replace h := h.2 c9
    refine mx_iload_n d_LB_builder_4 rfl 1 rfl ?_
    refine mx_bipush (v := 10) d_LB_builder_5 (by decide) ?_
    refine mx_icmp_ge d_LB_builder_7 (fun c9 => ?_) (fun c9 => ?_)
    · replace h := h.1 c9
      refine mx_iconst (v := -1) d_LB_builder_19 (by decide) ?_
      exact mx_ireturn d_LB_builder_20 rfl rfl h
    · replace h := h.2 c9
      refine mx_iload_n d_LB_builder_10 rfl 2 rfl ?_
      refine mx_if_lt d_LB_builder_11 (fun c9 => ?_) (fun c9 => ?_)
      · replace h := h.1 c9
        refine mx_iconst (v := -1) d_LB_builder_19 (by decide) ?_
        exact mx_ireturn d_LB_builder_20 rfl rfl h
      · replace h := h.2 c9
        refine mx_iload_n d_LB_builder_14 rfl 2 rfl ?_
        refine mx_iconst (v := 4) d_LB_builder_15 (by decide) ?_
        refine mx_icmp_le d_LB_builder_16 (fun c9 => ?_) (fun c9 => ?_)
        · replace h := h.1 c9
          refine mx_aload_nR d_LB_builder_21 rfl 0 rfl ?_
          obtain ⟨a2, ⟨fs1, e1_, e2_⟩, h⟩ := h
          refine mx_get d_LB_builder_22 (ci := 0) (k := 1) (q := mx_cl0_0) rfl (Nat.le_of_ble_eq_true rfl) kw_9 e1_ e2_ ?_
          obtain ⟨a4, ⟨fs3, e1_, e2_⟩, h⟩ := h
          refine mx_get d_LB_builder_25 (ci := 4) (k := 1) (q := mx_cl0_4) rfl (Nat.le_of_ble_eq_true rfl) kw_57 e1_ e2_ ?_
          refine mx_iload_n d_LB_builder_28 rfl 1 rfl ?_
          refine mx_iload_n d_LB_builder_29 rfl 2 rfl ?_
          obtain ⟨vs5, e1_, e2_, e3_, h⟩ := h
          refine mx_iast d_LB_builder_30 (k := 100) rfl (by decide) (by omega) e1_ e2_ e3_ ?_
          obtain ⟨hs6, hg_⟩ : ∃ x_, x_ = mx_st hs a4 (100, vs5.set (Int32.toNatClampNeg l1) (.int l2)) := ⟨_, rfl⟩
          replace h := h hs6 hg_
          rw [← hg_]
          clear hg_
          refine mx_iconst (v := 0) d_LB_builder_31 (by decide) ?_
          exact mx_ireturn d_LB_builder_32 rfl rfl h
        · replace h := h.2 c9
          refine mx_iconst (v := -1) d_LB_builder_19 (by decide) ?_
          exact mx_ireturn d_LB_builder_20 rfl rfl h
set_option maxRecDepth 100000 in
theorem wp_LB_build_0 {l : Launch} {G : mx_G} {d : Nat} {hs : mx_H} {Q : Option Value → mx_H → Prop} (l0 : Nat) (l1 : Int32) (h : (∃ (a2 : Nat), mx_f hs l0 0 1 (.ref a2) ∧ ((∃ fs25 : List Value, hs.1 a2 = some (4, fs25)) ∧ mx_C mx_S0 l G d mm_LBStore_planAt [.ref a2, .int l1] hs (fun (r3 : Option Value) (hs4 : mx_H) => ∃ v5 : Value, r3 = some v5 ∧ (v5 = .null ∨ ∃ z, v5 = .ref z) ∧ ((v5 = .null → Q (some (.int (-1))) hs4) ∧ (∀ a6 : Nat, v5 = .ref a6 → (∃ (a8 : Nat), mx_f hs4 l0 0 2 (.ref a8) ∧ ((∃ fs24 : List Value, hs4.1 a8 = some (5, fs24)) ∧ mx_C mx_S0 l G d mm_LBWorker_isClosed [.ref a8] hs4 (fun (r9 : Option Value) (hs10 : mx_H) => ∃ x11 : Int32, r9 = some (.int x11) ∧ ((x11 = 0 → (∃ (a13 : Nat), mx_f hs10 l0 0 2 (.ref a13) ∧ (∃ (a15 : Nat), mx_f hs10 l0 0 1 (.ref a15) ∧ ((∃ fs23 : List Value, hs10.1 a15 = some (4, fs23)) ∧ mx_C mx_S0 l G d mm_LBStore_resultOf [.ref a15, .long (1000000000000 + (Int32.toInt64 l1))] hs10 (fun (r16 : Option Value) (hs17 : mx_H) => ∃ x18 : Int64, r16 = some (.long x18) ∧ ((∃ fs22 : List Value, hs17.1 a13 = some (5, fs22)) ∧ mx_C mx_S0 l G d mm_LBWorker_answerOf [.ref a13, .long x18] hs17 (fun (r19 : Option Value) (hs20 : mx_H) => ∃ x21 : Int32, r19 = some (.int x21) ∧ Q (some (.int x21)) hs20))))))) ∧ (¬ (x11 = 0) → Q (some (.int (-11))) hs10))))))))))) : mx_Ok mx_S0 l G (d + 1) mm_LB_build 0 [(0, .ref l0), (1, .int l1)] [] hs Q := by
  refine mx_aload_nR d_LB_build_0 rfl 0 rfl ?_
  obtain ⟨a2, ⟨fs1, e1_, e2_⟩, h⟩ := h
  refine mx_get d_LB_build_1 (ci := 0) (k := 1) (q := mx_cl0_0) rfl (Nat.le_of_ble_eq_true rfl) kw_9 e1_ e2_ ?_
  refine mx_iload_n d_LB_build_4 rfl 1 rfl ?_
  obtain ⟨⟨fs25, e1_⟩, h⟩ := h
  refine mx_invV (Y := mm_LBStore_planAt) (As := [.int l1]) (rest := []) d_LB_build_5.1 ok_LBStore_planAt kw_62 kw_63 kw_64 rfl rfl (Nat.le_of_ble_eq_true rfl) (Nat.le_of_ble_eq_true rfl) e1_ (q := mx_cl0_4) rfl rfl h (fun r3 hs4 h => ?_)
  obtain ⟨v5, e9_, hv5, h⟩ := h
  subst e9_
  show mx_Ok mx_S0 l G (d + 1) mm_LB_build 8 [(0, .ref l0), (1, .int l1)] [v5] hs4 Q
  refine mx_ifnonnull d_LB_build_8 hv5 (fun a6 c9 => ?_) (fun c9 => ?_)
  · replace h := h.2 a6 c9
    subst c9
    refine mx_aload_nR d_LB_build_13 rfl 0 rfl ?_
    obtain ⟨a8, ⟨fs7, e1_, e2_⟩, h⟩ := h
    refine mx_get d_LB_build_14 (ci := 0) (k := 2) (q := mx_cl0_0) rfl (Nat.le_of_ble_eq_true rfl) kw_13 e1_ e2_ ?_
    obtain ⟨⟨fs24, e1_⟩, h⟩ := h
    refine mx_invV (Y := mm_LBWorker_isClosed) (As := []) (rest := []) d_LB_build_17.1 ok_LBWorker_isClosed kw_50 kw_51 kw_52 rfl rfl (Nat.le_of_ble_eq_true rfl) (Nat.le_of_ble_eq_true rfl) e1_ (q := mx_cl0_5) rfl rfl h (fun r9 hs10 h => ?_)
    obtain ⟨x11, e9_, h⟩ := h
    subst e9_
    show mx_Ok mx_S0 l G (d + 1) mm_LB_build 20 [(0, .ref l0), (1, .int l1)] [.int x11] hs10 Q
    refine mx_if_eq d_LB_build_20 (fun c9 => ?_) (fun c9 => ?_)
    · replace h := h.1 c9
      refine mx_aload_nR d_LB_build_26 rfl 0 rfl ?_
      obtain ⟨a13, ⟨fs12, e1_, e2_⟩, h⟩ := h
      refine mx_get d_LB_build_27 (ci := 0) (k := 2) (q := mx_cl0_0) rfl (Nat.le_of_ble_eq_true rfl) kw_13 e1_ e2_ ?_
      refine mx_aload_nR d_LB_build_30 rfl 0 rfl ?_
      obtain ⟨a15, ⟨fs14, e1_, e2_⟩, h⟩ := h
      refine mx_get d_LB_build_31 (ci := 0) (k := 1) (q := mx_cl0_0) rfl (Nat.le_of_ble_eq_true rfl) kw_9 e1_ e2_ ?_
      refine mx_ldc2 (v := 1000000000000) d_LB_build_34 kw_58 ?_
      refine mx_iload_n d_LB_build_37 rfl 1 rfl ?_
      refine mx_i2l d_LB_build_38 ?_
      refine mx_ladd d_LB_build_39 ?_
      obtain ⟨⟨fs23, e1_⟩, h⟩ := h
      refine mx_invV (Y := mm_LBStore_resultOf) (As := [.long (1000000000000 + (Int32.toInt64 l1))]) (rest := [.ref a13]) d_LB_build_40.1 ok_LBStore_resultOf kw_59 kw_60 kw_61 rfl rfl (Nat.le_of_ble_eq_true rfl) (Nat.le_of_ble_eq_true rfl) e1_ (q := mx_cl0_4) rfl rfl h (fun r16 hs17 h => ?_)
      obtain ⟨x18, e9_, h⟩ := h
      subst e9_
      show mx_Ok mx_S0 l G (d + 1) mm_LB_build 43 [(0, .ref l0), (1, .int l1)] [.long x18, .ref a13] hs17 Q
      obtain ⟨⟨fs22, e1_⟩, h⟩ := h
      refine mx_invV (Y := mm_LBWorker_answerOf) (As := [.long x18]) (rest := []) d_LB_build_43.1 ok_LBWorker_answerOf kw_44 kw_45 kw_46 rfl rfl (Nat.le_of_ble_eq_true rfl) (Nat.le_of_ble_eq_true rfl) e1_ (q := mx_cl0_5) rfl rfl h (fun r19 hs20 h => ?_)
      obtain ⟨x21, e9_, h⟩ := h
      subst e9_
      show mx_Ok mx_S0 l G (d + 1) mm_LB_build 46 [(0, .ref l0), (1, .int l1)] [.int x21] hs20 Q
      exact mx_ireturn d_LB_build_46 rfl rfl h
    · replace h := h.2 c9
      refine mx_bipush (v := (-11)) d_LB_build_23 (by decide) ?_
      exact mx_ireturn d_LB_build_25 rfl rfl h
  · replace h := h.1 c9
    subst c9
    refine mx_iconst (v := -1) d_LB_build_11 (by decide) ?_
    exact mx_ireturn d_LB_build_12 rfl rfl h
set_option maxRecDepth 100000 in
theorem wp_LB_root_0 {l : Launch} {G : mx_G} {d : Nat} {hs : mx_H} {Q : Option Value → mx_H → Prop} (l0 : Nat) (l1 : Int32) (l2 : Int32) (h : (∃ (a2 : Nat), mx_f hs l0 0 1 (.ref a2) ∧ ((∃ fs9 : List Value, hs.1 a2 = some (4, fs9)) ∧ mx_C mx_S0 l G d mm_LBStore_planAt [.ref a2, .int l1] hs (fun (r3 : Option Value) (hs4 : mx_H) => ∃ v5 : Value, r3 = some v5 ∧ (v5 = .null ∨ ∃ z, v5 = .ref z) ∧ ((v5 = .null → Q (some (.int (-1))) hs4) ∧ (∀ a6 : Nat, v5 = .ref a6 → ((l2 = 0 ∨ l2 = 1) ∧ ∃ fs7 : List Value, hs4.1 a6 = some (3, fs7) ∧ ∀ hs8 : mx_H, hs8 = mx_st hs4 a6 (3, fs7.set 3 (.int l2)) → Q (some (.int 0)) hs8))))))) : mx_Ok mx_S0 l G (d + 1) mm_LB_root 0 [(0, .ref l0), (1, .int l1), (2, .int l2)] [] hs Q := by
  refine mx_aload_nR d_LB_root_0 rfl 0 rfl ?_
  obtain ⟨a2, ⟨fs1, e1_, e2_⟩, h⟩ := h
  refine mx_get d_LB_root_1 (ci := 0) (k := 1) (q := mx_cl0_0) rfl (Nat.le_of_ble_eq_true rfl) kw_9 e1_ e2_ ?_
  refine mx_iload_n d_LB_root_4 rfl 1 rfl ?_
  obtain ⟨⟨fs9, e1_⟩, h⟩ := h
  refine mx_invV (Y := mm_LBStore_planAt) (As := [.int l1]) (rest := []) d_LB_root_5.1 ok_LBStore_planAt kw_62 kw_63 kw_64 rfl rfl (Nat.le_of_ble_eq_true rfl) (Nat.le_of_ble_eq_true rfl) e1_ (q := mx_cl0_4) rfl rfl h (fun r3 hs4 h => ?_)
  obtain ⟨v5, e9_, hv5, h⟩ := h
  subst e9_
  show mx_Ok mx_S0 l G (d + 1) mm_LB_root 8 [(0, .ref l0), (1, .int l1), (2, .int l2)] [v5] hs4 Q
  refine mx_astore_n (lv2 := [(3, v5), (0, .ref l0), (1, .int l1), (2, .int l2)]) d_LB_root_8 rfl (Nat.le_of_ble_eq_true rfl) rfl hv5 ?_
  refine mx_aload_n d_LB_root_9 rfl 0 rfl hv5 ?_
  refine mx_ifnonnull d_LB_root_10 hv5 (fun a6 c9 => ?_) (fun c9 => ?_)
  · replace h := h.2 a6 c9
    subst c9
    refine mx_aload_nR d_LB_root_15 rfl 0 rfl ?_
    refine mx_iload_n d_LB_root_16 rfl 3 rfl ?_
    obtain ⟨hb_, h⟩ := h
    obtain ⟨fs7, e1_, h⟩ := h
    refine mx_put d_LB_root_17 (ci := 3) (k := 3) (q := mx_cl0_3) (ty := .boolean) rfl (Nat.le_of_ble_eq_true rfl) kw_65 rfl (by decide +kernel) (mx_nz hb_) (mx_fz hb_) (by omega) e1_ ?_
    obtain ⟨hs8, hg_⟩ : ∃ x_, x_ = mx_st hs4 a6 (3, fs7.set 3 (.int l2)) := ⟨_, rfl⟩
    replace h := h hs8 hg_
    rw [← hg_]
    clear hg_
    refine mx_iconst (v := 0) d_LB_root_20 (by decide) ?_
    exact mx_ireturn d_LB_root_21 rfl rfl h
  · replace h := h.1 c9
    subst c9
    refine mx_iconst (v := -1) d_LB_root_13 (by decide) ?_
    exact mx_ireturn d_LB_root_14 rfl rfl h
set_option maxRecDepth 100000 in
theorem wp_LB_collect_0 {l : Launch} {G : mx_G} {d : Nat} {hs : mx_H} {Q : Option Value → mx_H → Prop} (l0 : Nat) (h : (∃ (a2 : Nat), mx_f hs l0 0 1 (.ref a2) ∧ ((∃ fs6 : List Value, hs.1 a2 = some (4, fs6)) ∧ mx_C mx_S0 l G d mm_LBStore_sweep [.ref a2] hs (fun (r3 : Option Value) (hs4 : mx_H) => ∃ x5 : Int32, r3 = some (.int x5) ∧ Q (some (.int x5)) hs4)))) : mx_Ok mx_S0 l G (d + 1) mm_LB_collect 0 [(0, .ref l0)] [] hs Q := by
  refine mx_aload_nR d_LB_collect_0 rfl 0 rfl ?_
  obtain ⟨a2, ⟨fs1, e1_, e2_⟩, h⟩ := h
  refine mx_get d_LB_collect_1 (ci := 0) (k := 1) (q := mx_cl0_0) rfl (Nat.le_of_ble_eq_true rfl) kw_9 e1_ e2_ ?_
  obtain ⟨⟨fs6, e1_⟩, h⟩ := h
  refine mx_invV (Y := mm_LBStore_sweep) (As := []) (rest := []) d_LB_collect_4.1 ok_LBStore_sweep kw_66 kw_67 kw_68 rfl rfl (Nat.le_of_ble_eq_true rfl) (Nat.le_of_ble_eq_true rfl) e1_ (q := mx_cl0_4) rfl rfl h (fun r3 hs4 h => ?_)
  obtain ⟨x5, e9_, h⟩ := h
  subst e9_
  show mx_Ok mx_S0 l G (d + 1) mm_LB_collect 7 [(0, .ref l0)] [.int x5] hs4 Q
  exact mx_ireturn d_LB_collect_7 rfl rfl h
set_option maxRecDepth 100000 in
theorem wp_LB_input_0 {l : Launch} {G : mx_G} {d : Nat} {hs : mx_H} {Q : Option Value → mx_H → Prop} (l0 : Nat) (l1 : Int32) (l2 : Int32) (h : (∃ (a2 : Nat), mx_f hs l0 0 1 (.ref a2) ∧ ((∃ fs14 : List Value, hs.1 a2 = some (4, fs14)) ∧ mx_C mx_S0 l G d mm_LBStore_planAt [.ref a2, .int l1] hs (fun (r3 : Option Value) (hs4 : mx_H) => ∃ v5 : Value, r3 = some v5 ∧ (v5 = .null ∨ ∃ z, v5 = .ref z) ∧ ((v5 = .null → Q (some (.long (-1000000000000))) hs4) ∧ (∀ a6 : Nat, v5 = .ref a6 → ((l2 < 0 → Q (some (.long (-1000000000000))) hs4) ∧ (¬ (l2 < 0) → (∃ (a8 : Nat), mx_f hs4 a6 3 1 (.ref a8) ∧ (∃ vs9 : List Value, hs4.1 a8 = some (102, vs9) ∧ ((l2 < (Int32.ofNat vs9.length) → (∃ (a11 : Nat), mx_f hs4 a6 3 1 (.ref a11) ∧ (∃ (vs12 : List Value) (x13 : Int64), hs4.1 a11 = some (102, vs12) ∧ ¬ l2 < 0 ∧ vs12[Int32.toNatClampNeg l2]? = some (.long x13) ∧ Q (some (.long x13)) hs4))) ∧ (¬ (l2 < (Int32.ofNat vs9.length)) → Q (some (.long (-1000000000000))) hs4)))))))))))) : mx_Ok mx_S0 l G (d + 1) mm_LB_input 0 [(0, .ref l0), (1, .int l1), (2, .int l2)] [] hs Q := by
  refine mx_aload_nR d_LB_input_0 rfl 0 rfl ?_
  obtain ⟨a2, ⟨fs1, e1_, e2_⟩, h⟩ := h
  refine mx_get d_LB_input_1 (ci := 0) (k := 1) (q := mx_cl0_0) rfl (Nat.le_of_ble_eq_true rfl) kw_9 e1_ e2_ ?_
  refine mx_iload_n d_LB_input_4 rfl 1 rfl ?_
  obtain ⟨⟨fs14, e1_⟩, h⟩ := h
  refine mx_invV (Y := mm_LBStore_planAt) (As := [.int l1]) (rest := []) d_LB_input_5.1 ok_LBStore_planAt kw_62 kw_63 kw_64 rfl rfl (Nat.le_of_ble_eq_true rfl) (Nat.le_of_ble_eq_true rfl) e1_ (q := mx_cl0_4) rfl rfl h (fun r3 hs4 h => ?_)
  obtain ⟨v5, e9_, hv5, h⟩ := h
  subst e9_
  show mx_Ok mx_S0 l G (d + 1) mm_LB_input 8 [(0, .ref l0), (1, .int l1), (2, .int l2)] [v5] hs4 Q
  refine mx_astore_n (lv2 := [(3, v5), (0, .ref l0), (1, .int l1), (2, .int l2)]) d_LB_input_8 rfl (Nat.le_of_ble_eq_true rfl) rfl hv5 ?_
  refine mx_aload_n d_LB_input_9 rfl 0 rfl hv5 ?_
  refine mx_ifnull d_LB_input_10 hv5 (fun c9 => ?_) (fun a6 c9 => ?_)
  · replace h := h.1 c9
    subst c9
    refine mx_ldc2 (v := (-1000000000000)) d_LB_input_26 kw_14 ?_
    exact mx_lreturn d_LB_input_29 rfl h
  · replace h := h.2 a6 c9
    subst c9
    refine mx_iload_n d_LB_input_13 rfl 3 rfl ?_
    refine mx_if_lt d_LB_input_14 (fun c9 => ?_) (fun c9 => ?_)
    · replace h := h.1 c9
      refine mx_ldc2 (v := (-1000000000000)) d_LB_input_26 kw_14 ?_
      exact mx_lreturn d_LB_input_29 rfl h
    · replace h := h.2 c9
      refine mx_iload_n d_LB_input_17 rfl 3 rfl ?_
      refine mx_aload_nR d_LB_input_18 rfl 0 rfl ?_
      obtain ⟨a8, ⟨fs7, e1_, e2_⟩, h⟩ := h
      refine mx_get d_LB_input_19 (ci := 3) (k := 1) (q := mx_cl0_3) rfl (Nat.le_of_ble_eq_true rfl) kw_69 e1_ e2_ ?_
      obtain ⟨vs9, e1_, h⟩ := h
      refine mx_alen d_LB_input_22 (k := 102) rfl e1_ ?_
      refine mx_icmp_lt d_LB_input_23 (fun c9 => ?_) (fun c9 => ?_)
      · replace h := h.1 c9
        refine mx_aload_nR d_LB_input_30 rfl 0 rfl ?_
        obtain ⟨a11, ⟨fs10, e1_, e2_⟩, h⟩ := h
        refine mx_get d_LB_input_31 (ci := 3) (k := 1) (q := mx_cl0_3) rfl (Nat.le_of_ble_eq_true rfl) kw_69 e1_ e2_ ?_
        refine mx_iload_n d_LB_input_34 rfl 3 rfl ?_
        obtain ⟨vs12, x13, e1_, e2_, e3_, h⟩ := h
        refine mx_lald d_LB_input_35 (k := 102) rfl e1_ e2_ e3_ ?_
        exact mx_lreturn d_LB_input_36 rfl h
      · replace h := h.2 c9
        refine mx_ldc2 (v := (-1000000000000)) d_LB_input_26 kw_14 ?_
        exact mx_lreturn d_LB_input_29 rfl h
set_option maxRecDepth 100000 in
theorem wp_LB_plan_0 {l : Launch} {G : mx_G} {d : Nat} {hs : mx_H} {Q : Option Value → mx_H → Prop} (l0 : Nat) (l1 : Int32) (l2 : Int32) (h : (∃ (a2 : Nat), mx_f hs l0 0 1 (.ref a2) ∧ ((∃ fs18 : List Value, hs.1 a2 = some (4, fs18)) ∧ mx_C mx_S0 l G d mm_LBStore_planAt [.ref a2, .int l1] hs (fun (r3 : Option Value) (hs4 : mx_H) => ∃ v5 : Value, r3 = some v5 ∧ (v5 = .null ∨ ∃ z, v5 = .ref z) ∧ ((v5 = .null → Q (some (.int (-1))) hs4) ∧ (∀ a6 : Nat, v5 = .ref a6 → ((l2 = 0 → (∃ (x8 : Int32), mx_f hs4 a6 3 0 (.int x8) ∧ Q (some (.int x8)) hs4)) ∧ (l2 = 1 → (∃ (a10 : Nat), mx_f hs4 a6 3 1 (.ref a10) ∧ (∃ vs11 : List Value, hs4.1 a10 = some (102, vs11) ∧ Q (some (.int (Int32.ofNat vs11.length))) hs4))) ∧ (l2 = 2 → (∃ (x13 : Int32), mx_f hs4 a6 3 2 (.int x13) ∧ ((x13 = 0 → Q (some (.int 0)) hs4) ∧ (¬ (x13 = 0) → Q (some (.int 1)) hs4)))) ∧ (l2 = 3 → (∃ (x15 : Int32), mx_f hs4 a6 3 5 (.int x15) ∧ Q (some (.int x15)) hs4)) ∧ (l2 = 4 → (∃ (x17 : Int32), mx_f hs4 a6 3 3 (.int x17) ∧ ((x17 = 0 → Q (some (.int 0)) hs4) ∧ (¬ (x17 = 0) → Q (some (.int 1)) hs4)))) ∧ (¬ l2 = 0 → ¬ l2 = 1 → ¬ l2 = 2 → ¬ l2 = 3 → ¬ l2 = 4 → Q (some (.int (-1))) hs4)))))))) : mx_Ok mx_S0 l G (d + 1) mm_LB_plan 0 [(0, .ref l0), (1, .int l1), (2, .int l2)] [] hs Q := by
  refine mx_aload_nR d_LB_plan_0 rfl 0 rfl ?_
  obtain ⟨a2, ⟨fs1, e1_, e2_⟩, h⟩ := h
  refine mx_get d_LB_plan_1 (ci := 0) (k := 1) (q := mx_cl0_0) rfl (Nat.le_of_ble_eq_true rfl) kw_9 e1_ e2_ ?_
  refine mx_iload_n d_LB_plan_4 rfl 1 rfl ?_
  obtain ⟨⟨fs18, e1_⟩, h⟩ := h
  refine mx_invV (Y := mm_LBStore_planAt) (As := [.int l1]) (rest := []) d_LB_plan_5.1 ok_LBStore_planAt kw_62 kw_63 kw_64 rfl rfl (Nat.le_of_ble_eq_true rfl) (Nat.le_of_ble_eq_true rfl) e1_ (q := mx_cl0_4) rfl rfl h (fun r3 hs4 h => ?_)
  obtain ⟨v5, e9_, hv5, h⟩ := h
  subst e9_
  show mx_Ok mx_S0 l G (d + 1) mm_LB_plan 8 [(0, .ref l0), (1, .int l1), (2, .int l2)] [v5] hs4 Q
  refine mx_astore_n (lv2 := [(3, v5), (0, .ref l0), (1, .int l1), (2, .int l2)]) d_LB_plan_8 rfl (Nat.le_of_ble_eq_true rfl) rfl hv5 ?_
  refine mx_aload_n d_LB_plan_9 rfl 0 rfl hv5 ?_
  refine mx_ifnonnull d_LB_plan_10 hv5 (fun a6 c9 => ?_) (fun c9 => ?_)
  · replace h := h.2 a6 c9
    subst c9
    refine mx_iload_n d_LB_plan_15 rfl 3 rfl ?_
    by_cases c0_ : l2 = 0
    · replace h := h.1 c0_
      refine mx_tableIn d_LB_plan_16 (by rw [c0_]; decide) (by rw [c0_]; decide) (o := 36) (by rw [c0_]; decide) (tgt := 52) (by decide) ?_
      refine mx_aload_nR d_LB_plan_52 rfl 0 rfl ?_
      obtain ⟨x8, ⟨fs7, e1_, e2_⟩, h⟩ := h
      refine mx_get d_LB_plan_53 (ci := 3) (k := 0) (q := mx_cl0_3) rfl (Nat.le_of_ble_eq_true rfl) kw_70 e1_ e2_ ?_
      exact mx_ireturn d_LB_plan_56 rfl rfl h
    by_cases c1_ : l2 = 1
    · replace h := h.2.1 c1_
      refine mx_tableIn d_LB_plan_16 (by rw [c1_]; decide) (by rw [c1_]; decide) (o := 41) (by rw [c1_]; decide) (tgt := 57) (by decide) ?_
      refine mx_aload_nR d_LB_plan_57 rfl 0 rfl ?_
      obtain ⟨a10, ⟨fs9, e1_, e2_⟩, h⟩ := h
      refine mx_get d_LB_plan_58 (ci := 3) (k := 1) (q := mx_cl0_3) rfl (Nat.le_of_ble_eq_true rfl) kw_69 e1_ e2_ ?_
      obtain ⟨vs11, e1_, h⟩ := h
      refine mx_alen d_LB_plan_61 (k := 102) rfl e1_ ?_
      exact mx_ireturn d_LB_plan_62 rfl rfl h
    by_cases c2_ : l2 = 2
    · replace h := h.2.2.1 c2_
      refine mx_tableIn d_LB_plan_16 (by rw [c2_]; decide) (by rw [c2_]; decide) (o := 47) (by rw [c2_]; decide) (tgt := 63) (by decide) ?_
      refine mx_aload_nR d_LB_plan_63 rfl 0 rfl ?_
      obtain ⟨x13, ⟨fs12, e1_, e2_⟩, h⟩ := h
      refine mx_get d_LB_plan_64 (ci := 3) (k := 2) (q := mx_cl0_3) rfl (Nat.le_of_ble_eq_true rfl) kw_71 e1_ e2_ ?_
      refine mx_if_eq d_LB_plan_67 (fun c9 => ?_) (fun c9 => ?_)
      · replace h := h.1 c9
        refine mx_iconst (v := 0) d_LB_plan_74 (by decide) ?_
        exact mx_ireturn d_LB_plan_75 rfl rfl h
      · replace h := h.2 c9
        refine mx_iconst (v := 1) d_LB_plan_70 (by decide) ?_
        refine mx_goto d_LB_plan_71 ?_
        exact mx_ireturn d_LB_plan_75 rfl rfl h
    by_cases c3_ : l2 = 3
    · replace h := h.2.2.2.1 c3_
      refine mx_tableIn d_LB_plan_16 (by rw [c3_]; decide) (by rw [c3_]; decide) (o := 60) (by rw [c3_]; decide) (tgt := 76) (by decide) ?_
      refine mx_aload_nR d_LB_plan_76 rfl 0 rfl ?_
      obtain ⟨x15, ⟨fs14, e1_, e2_⟩, h⟩ := h
      refine mx_get d_LB_plan_77 (ci := 3) (k := 5) (q := mx_cl0_3) rfl (Nat.le_of_ble_eq_true rfl) kw_72 e1_ e2_ ?_
      exact mx_ireturn d_LB_plan_80 rfl rfl h
    by_cases c4_ : l2 = 4
    · replace h := h.2.2.2.2.1 c4_
      refine mx_tableIn d_LB_plan_16 (by rw [c4_]; decide) (by rw [c4_]; decide) (o := 65) (by rw [c4_]; decide) (tgt := 81) (by decide) ?_
      refine mx_aload_nR d_LB_plan_81 rfl 0 rfl ?_
      obtain ⟨x17, ⟨fs16, e1_, e2_⟩, h⟩ := h
      refine mx_get d_LB_plan_82 (ci := 3) (k := 3) (q := mx_cl0_3) rfl (Nat.le_of_ble_eq_true rfl) kw_65 e1_ e2_ ?_
      refine mx_if_eq d_LB_plan_85 (fun c9 => ?_) (fun c9 => ?_)
      · replace h := h.1 c9
        refine mx_iconst (v := 0) d_LB_plan_92 (by decide) ?_
        exact mx_ireturn d_LB_plan_93 rfl rfl h
      · replace h := h.2 c9
        refine mx_iconst (v := 1) d_LB_plan_88 (by decide) ?_
        refine mx_goto d_LB_plan_89 ?_
        exact mx_ireturn d_LB_plan_93 rfl rfl h
    replace h := h.2.2.2.2.2 c0_ c1_ c2_ c3_ c4_
    have z0_ := lv_neT c0_ (a := 0) (by decide)
    have z1_ := lv_neT c1_ (a := 1) (by decide)
    have z2_ := lv_neT c2_ (a := 2) (by decide)
    have z3_ := lv_neT c3_ (a := 3) (by decide)
    have z4_ := lv_neT c4_ (a := 4) (by decide)
    refine mx_tableOut d_LB_plan_16 (by omega) (tgt := 94) (by decide) ?_
    refine mx_iconst (v := -1) d_LB_plan_94 (by decide) ?_
    exact mx_ireturn d_LB_plan_95 rfl rfl h
  · replace h := h.1 c9
    subst c9
    refine mx_iconst (v := -1) d_LB_plan_13 (by decide) ?_
    exact mx_ireturn d_LB_plan_14 rfl rfl h
set_option maxRecDepth 100000 in
theorem wp_LB_count_0 {l : Launch} {G : mx_G} {d : Nat} {hs : mx_H} {Q : Option Value → mx_H → Prop} (l0 : Nat) (l1 : Int32) (h : ((l1 = 0 → (∃ (a2 : Nat), mx_f hs l0 0 1 (.ref a2) ∧ (∃ (x4 : Int32), mx_f hs a2 4 2 (.int x4) ∧ Q (some (.int x4)) hs))) ∧ (l1 = 1 → (∃ (a6 : Nat), mx_f hs l0 0 1 (.ref a6) ∧ (∃ (x8 : Int32), mx_f hs a6 4 3 (.int x8) ∧ Q (some (.int x8)) hs))) ∧ (l1 = 2 → (∃ (a10 : Nat), mx_f hs l0 0 2 (.ref a10) ∧ (∃ (x12 : Int32), mx_f hs a10 5 3 (.int x12) ∧ Q (some (.int x12)) hs))) ∧ (l1 = 3 → (∃ (a14 : Nat), mx_f hs l0 0 2 (.ref a14) ∧ (∃ (x16 : Int32), mx_f hs a14 5 4 (.int x16) ∧ Q (some (.int x16)) hs))) ∧ (l1 = 4 → (∃ (a18 : Nat), mx_f hs l0 0 0 (.ref a18) ∧ (∃ (x20 : Int32), mx_f hs a18 1 2 (.int x20) ∧ Q (some (.int x20)) hs))) ∧ (l1 = 5 → (∃ (x22 : Int32), mx_f hs l0 0 4 (.int x22) ∧ Q (some (.int x22)) hs)) ∧ (l1 = 6 → (∃ (a24 : Nat), mx_f hs l0 0 2 (.ref a24) ∧ ((∃ fs28 : List Value, hs.1 a24 = some (5, fs28)) ∧ mx_C mx_S0 l G d mm_LBWorker_namesBound [.ref a24] hs (fun (r25 : Option Value) (hs26 : mx_H) => ∃ x27 : Int32, r25 = some (.int x27) ∧ Q (some (.int x27)) hs26)))) ∧ (l1 = 7 → (∃ (a30 : Nat), mx_f hs l0 0 2 (.ref a30) ∧ ((∃ fs34 : List Value, hs.1 a30 = some (5, fs34)) ∧ mx_C mx_S0 l G d mm_LBWorker_namesKept [.ref a30] hs (fun (r31 : Option Value) (hs32 : mx_H) => ∃ x33 : Int32, r31 = some (.int x33) ∧ Q (some (.int x33)) hs32)))) ∧ (¬ l1 = 0 → ¬ l1 = 1 → ¬ l1 = 2 → ¬ l1 = 3 → ¬ l1 = 4 → ¬ l1 = 5 → ¬ l1 = 6 → ¬ l1 = 7 → Q (some (.int (-1))) hs))) : mx_Ok mx_S0 l G (d + 1) mm_LB_count 0 [(0, .ref l0), (1, .int l1)] [] hs Q := by
  refine mx_iload_n d_LB_count_0 rfl 1 rfl ?_
  by_cases c0_ : l1 = 0
  · replace h := h.1 c0_
    refine mx_tableIn d_LB_count_1 (by rw [c0_]; decide) (by rw [c0_]; decide) (o := 47) (by rw [c0_]; decide) (tgt := 48) (by decide) ?_
    refine mx_aload_nR d_LB_count_48 rfl 0 rfl ?_
    obtain ⟨a2, ⟨fs1, e1_, e2_⟩, h⟩ := h
    refine mx_get d_LB_count_49 (ci := 0) (k := 1) (q := mx_cl0_0) rfl (Nat.le_of_ble_eq_true rfl) kw_9 e1_ e2_ ?_
    obtain ⟨x4, ⟨fs3, e1_, e2_⟩, h⟩ := h
    refine mx_get d_LB_count_52 (ci := 4) (k := 2) (q := mx_cl0_4) rfl (Nat.le_of_ble_eq_true rfl) kw_73 e1_ e2_ ?_
    exact mx_ireturn d_LB_count_55 rfl rfl h
  by_cases c1_ : l1 = 1
  · replace h := h.2.1 c1_
    refine mx_tableIn d_LB_count_1 (by rw [c1_]; decide) (by rw [c1_]; decide) (o := 55) (by rw [c1_]; decide) (tgt := 56) (by decide) ?_
    refine mx_aload_nR d_LB_count_56 rfl 0 rfl ?_
    obtain ⟨a6, ⟨fs5, e1_, e2_⟩, h⟩ := h
    refine mx_get d_LB_count_57 (ci := 0) (k := 1) (q := mx_cl0_0) rfl (Nat.le_of_ble_eq_true rfl) kw_9 e1_ e2_ ?_
    obtain ⟨x8, ⟨fs7, e1_, e2_⟩, h⟩ := h
    refine mx_get d_LB_count_60 (ci := 4) (k := 3) (q := mx_cl0_4) rfl (Nat.le_of_ble_eq_true rfl) kw_74 e1_ e2_ ?_
    exact mx_ireturn d_LB_count_63 rfl rfl h
  by_cases c2_ : l1 = 2
  · replace h := h.2.2.1 c2_
    refine mx_tableIn d_LB_count_1 (by rw [c2_]; decide) (by rw [c2_]; decide) (o := 63) (by rw [c2_]; decide) (tgt := 64) (by decide) ?_
    refine mx_aload_nR d_LB_count_64 rfl 0 rfl ?_
    obtain ⟨a10, ⟨fs9, e1_, e2_⟩, h⟩ := h
    refine mx_get d_LB_count_65 (ci := 0) (k := 2) (q := mx_cl0_0) rfl (Nat.le_of_ble_eq_true rfl) kw_13 e1_ e2_ ?_
    obtain ⟨x12, ⟨fs11, e1_, e2_⟩, h⟩ := h
    refine mx_get d_LB_count_68 (ci := 5) (k := 3) (q := mx_cl0_5) rfl (Nat.le_of_ble_eq_true rfl) kw_75 e1_ e2_ ?_
    exact mx_ireturn d_LB_count_71 rfl rfl h
  by_cases c3_ : l1 = 3
  · replace h := h.2.2.2.1 c3_
    refine mx_tableIn d_LB_count_1 (by rw [c3_]; decide) (by rw [c3_]; decide) (o := 71) (by rw [c3_]; decide) (tgt := 72) (by decide) ?_
    refine mx_aload_nR d_LB_count_72 rfl 0 rfl ?_
    obtain ⟨a14, ⟨fs13, e1_, e2_⟩, h⟩ := h
    refine mx_get d_LB_count_73 (ci := 0) (k := 2) (q := mx_cl0_0) rfl (Nat.le_of_ble_eq_true rfl) kw_13 e1_ e2_ ?_
    obtain ⟨x16, ⟨fs15, e1_, e2_⟩, h⟩ := h
    refine mx_get d_LB_count_76 (ci := 5) (k := 4) (q := mx_cl0_5) rfl (Nat.le_of_ble_eq_true rfl) kw_76 e1_ e2_ ?_
    exact mx_ireturn d_LB_count_79 rfl rfl h
  by_cases c4_ : l1 = 4
  · replace h := h.2.2.2.2.1 c4_
    refine mx_tableIn d_LB_count_1 (by rw [c4_]; decide) (by rw [c4_]; decide) (o := 79) (by rw [c4_]; decide) (tgt := 80) (by decide) ?_
    refine mx_aload_nR d_LB_count_80 rfl 0 rfl ?_
    obtain ⟨a18, ⟨fs17, e1_, e2_⟩, h⟩ := h
    refine mx_get d_LB_count_81 (ci := 0) (k := 0) (q := mx_cl0_0) rfl (Nat.le_of_ble_eq_true rfl) kw_5 e1_ e2_ ?_
    obtain ⟨x20, ⟨fs19, e1_, e2_⟩, h⟩ := h
    refine mx_get d_LB_count_84 (ci := 1) (k := 2) (q := mx_cl0_1) rfl (Nat.le_of_ble_eq_true rfl) kw_26 e1_ e2_ ?_
    exact mx_ireturn d_LB_count_87 rfl rfl h
  by_cases c5_ : l1 = 5
  · replace h := h.2.2.2.2.2.1 c5_
    refine mx_tableIn d_LB_count_1 (by rw [c5_]; decide) (by rw [c5_]; decide) (o := 87) (by rw [c5_]; decide) (tgt := 88) (by decide) ?_
    refine mx_aload_nR d_LB_count_88 rfl 0 rfl ?_
    obtain ⟨x22, ⟨fs21, e1_, e2_⟩, h⟩ := h
    refine mx_get d_LB_count_89 (ci := 0) (k := 4) (q := mx_cl0_0) rfl (Nat.le_of_ble_eq_true rfl) kw_16 e1_ e2_ ?_
    exact mx_ireturn d_LB_count_92 rfl rfl h
  by_cases c6_ : l1 = 6
  · replace h := h.2.2.2.2.2.2.1 c6_
    refine mx_tableIn d_LB_count_1 (by rw [c6_]; decide) (by rw [c6_]; decide) (o := 92) (by rw [c6_]; decide) (tgt := 93) (by decide) ?_
    refine mx_aload_nR d_LB_count_93 rfl 0 rfl ?_
    obtain ⟨a24, ⟨fs23, e1_, e2_⟩, h⟩ := h
    refine mx_get d_LB_count_94 (ci := 0) (k := 2) (q := mx_cl0_0) rfl (Nat.le_of_ble_eq_true rfl) kw_13 e1_ e2_ ?_
    obtain ⟨⟨fs28, e1_⟩, h⟩ := h
    refine mx_invV (Y := mm_LBWorker_namesBound) (As := []) (rest := []) d_LB_count_97.1 ok_LBWorker_namesBound kw_77 kw_78 kw_79 rfl rfl (Nat.le_of_ble_eq_true rfl) (Nat.le_of_ble_eq_true rfl) e1_ (q := mx_cl0_5) rfl rfl h (fun r25 hs26 h => ?_)
    obtain ⟨x27, e9_, h⟩ := h
    subst e9_
    show mx_Ok mx_S0 l G (d + 1) mm_LB_count 100 [(0, .ref l0), (1, .int l1)] [.int x27] hs26 Q
    exact mx_ireturn d_LB_count_100 rfl rfl h
  by_cases c7_ : l1 = 7
  · replace h := h.2.2.2.2.2.2.2.1 c7_
    refine mx_tableIn d_LB_count_1 (by rw [c7_]; decide) (by rw [c7_]; decide) (o := 100) (by rw [c7_]; decide) (tgt := 101) (by decide) ?_
    refine mx_aload_nR d_LB_count_101 rfl 0 rfl ?_
    obtain ⟨a30, ⟨fs29, e1_, e2_⟩, h⟩ := h
    refine mx_get d_LB_count_102 (ci := 0) (k := 2) (q := mx_cl0_0) rfl (Nat.le_of_ble_eq_true rfl) kw_13 e1_ e2_ ?_
    obtain ⟨⟨fs34, e1_⟩, h⟩ := h
    refine mx_invV (Y := mm_LBWorker_namesKept) (As := []) (rest := []) d_LB_count_105.1 ok_LBWorker_namesKept kw_80 kw_81 kw_82 rfl rfl (Nat.le_of_ble_eq_true rfl) (Nat.le_of_ble_eq_true rfl) e1_ (q := mx_cl0_5) rfl rfl h (fun r31 hs32 h => ?_)
    obtain ⟨x33, e9_, h⟩ := h
    subst e9_
    show mx_Ok mx_S0 l G (d + 1) mm_LB_count 108 [(0, .ref l0), (1, .int l1)] [.int x33] hs32 Q
    exact mx_ireturn d_LB_count_108 rfl rfl h
  replace h := h.2.2.2.2.2.2.2.2 c0_ c1_ c2_ c3_ c4_ c5_ c6_ c7_
  have z0_ := lv_neT c0_ (a := 0) (by decide)
  have z1_ := lv_neT c1_ (a := 1) (by decide)
  have z2_ := lv_neT c2_ (a := 2) (by decide)
  have z3_ := lv_neT c3_ (a := 3) (by decide)
  have z4_ := lv_neT c4_ (a := 4) (by decide)
  have z5_ := lv_neT c5_ (a := 5) (by decide)
  have z6_ := lv_neT c6_ (a := 6) (by decide)
  have z7_ := lv_neT c7_ (a := 7) (by decide)
  refine mx_tableOut d_LB_count_1 (by omega) (tgt := 109) (by decide) ?_
  refine mx_iconst (v := -1) d_LB_count_109 (by decide) ?_
  exact mx_ireturn d_LB_count_110 rfl rfl h
set_option maxRecDepth 100000 in
theorem wp_LB_readLine_0 {l : Launch} {G : mx_G} {d : Nat} {hs : mx_H} {Q : Option Value → mx_H → Prop} (l0 : Nat) (h : (∃ (a2 : Nat), mx_f hs l0 0 0 (.ref a2) ∧ ((∃ fs17 : List Value, hs.1 a2 = some (1, fs17)) ∧ mx_C mx_S0 l G d mm_LBText_read [.ref a2] hs (fun (r3 : Option Value) (hs4 : mx_H) => ∃ x5 : Int32, r3 = some (.int x5) ∧ ((x5 = 0 → (∃ (a7 : Nat), mx_f hs4 l0 0 0 (.ref a7) ∧ (∃ (x9 : Int32), mx_f hs4 a7 1 4 (.int x9) ∧ (∃ fs10 : List Value, hs4.1 l0 = some (0, fs10) ∧ ∀ hs11 : mx_H, hs11 = mx_st hs4 l0 (0, fs10.set 4 (.int x9)) → (∃ (a13 : Nat), mx_f hs11 l0 0 0 (.ref a13) ∧ ((∃ fs16 : List Value, hs11.1 a13 = some (1, fs16)) ∧ mx_C mx_S0 l G d mm_LBText_clear [.ref a13] hs11 (fun (r14 : Option Value) (hs15 : mx_H) => r14 = none ∧ Q (some (.int 0)) hs15))))))) ∧ (¬ (x5 = 0) → Q (some (.int 1)) hs4)))))) : mx_Ok mx_S0 l G (d + 1) mm_LB_readLine 0 [(0, .ref l0)] [] hs Q := by
  refine mx_aload_nR d_LB_readLine_0 rfl 0 rfl ?_
  obtain ⟨a2, ⟨fs1, e1_, e2_⟩, h⟩ := h
  refine mx_get d_LB_readLine_1 (ci := 0) (k := 0) (q := mx_cl0_0) rfl (Nat.le_of_ble_eq_true rfl) kw_5 e1_ e2_ ?_
  obtain ⟨⟨fs17, e1_⟩, h⟩ := h
  refine mx_invV (Y := mm_LBText_read) (As := []) (rest := []) d_LB_readLine_4.1 ok_LBText_read kw_84 kw_85 kw_86 rfl rfl (Nat.le_of_ble_eq_true rfl) (Nat.le_of_ble_eq_true rfl) e1_ (q := mx_cl0_1) rfl rfl h (fun r3 hs4 h => ?_)
  obtain ⟨x5, e9_, h⟩ := h
  subst e9_
  show mx_Ok mx_S0 l G (d + 1) mm_LB_readLine 7 [(0, .ref l0)] [.int x5] hs4 Q
  refine mx_if_eq d_LB_readLine_7 (fun c9 => ?_) (fun c9 => ?_)
  · replace h := h.1 c9
    refine mx_aload_nR d_LB_readLine_12 rfl 0 rfl ?_
    refine mx_aload_nR d_LB_readLine_13 rfl 0 rfl ?_
    obtain ⟨a7, ⟨fs6, e1_, e2_⟩, h⟩ := h
    refine mx_get d_LB_readLine_14 (ci := 0) (k := 0) (q := mx_cl0_0) rfl (Nat.le_of_ble_eq_true rfl) kw_5 e1_ e2_ ?_
    obtain ⟨x9, ⟨fs8, e1_, e2_⟩, h⟩ := h
    refine mx_get d_LB_readLine_17 (ci := 1) (k := 4) (q := mx_cl0_1) rfl (Nat.le_of_ble_eq_true rfl) kw_83 e1_ e2_ ?_
    obtain ⟨fs10, e1_, h⟩ := h
    refine mx_put d_LB_readLine_20 (ci := 0) (k := 4) (q := mx_cl0_0) (ty := .int) rfl (Nat.le_of_ble_eq_true rfl) kw_16 rfl (by decide +kernel) rfl rfl (by omega) e1_ ?_
    obtain ⟨hs11, hg_⟩ : ∃ x_, x_ = mx_st hs4 l0 (0, fs10.set 4 (.int x9)) := ⟨_, rfl⟩
    replace h := h hs11 hg_
    rw [← hg_]
    clear hg_
    refine mx_aload_nR d_LB_readLine_23 rfl 0 rfl ?_
    obtain ⟨a13, ⟨fs12, e1_, e2_⟩, h⟩ := h
    refine mx_get d_LB_readLine_24 (ci := 0) (k := 0) (q := mx_cl0_0) rfl (Nat.le_of_ble_eq_true rfl) kw_5 e1_ e2_ ?_
    obtain ⟨⟨fs16, e1_⟩, h⟩ := h
    refine mx_invV (Y := mm_LBText_clear) (As := []) (rest := []) d_LB_readLine_27.1 ok_LBText_clear kw_28 kw_29 kw_30 rfl rfl (Nat.le_of_ble_eq_true rfl) (Nat.le_of_ble_eq_true rfl) e1_ (q := mx_cl0_1) rfl rfl h (fun r14 hs15 h => ?_)
    obtain ⟨e9_, h⟩ := h
    subst e9_
    show mx_Ok mx_S0 l G (d + 1) mm_LB_readLine 30 [(0, .ref l0)] [] hs15 Q
    refine mx_iconst (v := 0) d_LB_readLine_30 (by decide) ?_
    exact mx_ireturn d_LB_readLine_31 rfl (mx_nz (Or.inl rfl)) h
  · replace h := h.2 c9
    refine mx_iconst (v := 1) d_LB_readLine_10 (by decide) ?_
    exact mx_ireturn d_LB_readLine_11 rfl (mx_nz (Or.inr rfl)) h
set_option maxRecDepth 100000 in
theorem wp_LB_workLineOut_0 {l : Launch} {G : mx_G} {d : Nat} {hs : mx_H} {Q : Option Value → mx_H → Prop} (l0 : Nat) (h : (∃ (a2 : Nat), mx_f hs l0 0 2 (.ref a2) ∧ (∃ (a4 : Nat), mx_f hs l0 0 0 (.ref a4) ∧ ((∃ fs13 : List Value, hs.1 a2 = some (5, fs13)) ∧ mx_C mx_S0 l G d mm_LBWorker_workOutText [.ref a2, .ref a4] hs (fun (r5 : Option Value) (hs6 : mx_H) => ∃ x7 : Int64, r5 = some (.long x7) ∧ mx_C mx_S0 l G d mm_LB_isFailure [.long x7] hs6 (fun (r8 : Option Value) (hs9 : mx_H) => ∃ x10 : Int32, r8 = some (.int x10) ∧ ((¬ x10 = 0 → mx_Ok mx_S0 l G (d + 1) mm_LB_workLineOut 24 [(0, .ref l0), (1, .long x7)] [] hs9 Q) ∧ (¬ (¬ x10 = 0) → (∃ fs11 : List Value, hs9.1 l0 = some (0, fs11) ∧ ∀ hs12 : mx_H, hs12 = mx_st hs9 l0 (0, fs11.set 3 (.long x7)) → mx_Ok mx_S0 l G (d + 1) mm_LB_workLineOut 24 [(0, .ref l0), (1, .long x7)] [] hs12 Q))))))))) : mx_Ok mx_S0 l G (d + 1) mm_LB_workLineOut 0 [(0, .ref l0)] [] hs Q := by
  refine mx_aload_nR d_LB_workLineOut_0 rfl 0 rfl ?_
  obtain ⟨a2, ⟨fs1, e1_, e2_⟩, h⟩ := h
  refine mx_get d_LB_workLineOut_1 (ci := 0) (k := 2) (q := mx_cl0_0) rfl (Nat.le_of_ble_eq_true rfl) kw_13 e1_ e2_ ?_
  refine mx_aload_nR d_LB_workLineOut_4 rfl 0 rfl ?_
  obtain ⟨a4, ⟨fs3, e1_, e2_⟩, h⟩ := h
  refine mx_get d_LB_workLineOut_5 (ci := 0) (k := 0) (q := mx_cl0_0) rfl (Nat.le_of_ble_eq_true rfl) kw_5 e1_ e2_ ?_
  obtain ⟨⟨fs13, e1_⟩, h⟩ := h
  refine mx_invV (Y := mm_LBWorker_workOutText) (As := [.ref a4]) (rest := []) d_LB_workLineOut_8.1 ok_LBWorker_workOutText kw_89 kw_90 kw_91 rfl rfl (Nat.le_of_ble_eq_true rfl) (Nat.le_of_ble_eq_true rfl) e1_ (q := mx_cl0_5) rfl rfl h (fun r5 hs6 h => ?_)
  obtain ⟨x7, e9_, h⟩ := h
  subst e9_
  show mx_Ok mx_S0 l G (d + 1) mm_LB_workLineOut 11 [(0, .ref l0)] [.long x7] hs6 Q
  refine mx_lstore_n (lv2 := [(1, .long x7), (0, .ref l0)]) d_LB_workLineOut_11 rfl (Nat.le_of_ble_eq_true rfl) rfl ?_
  refine mx_lload_n d_LB_workLineOut_12 rfl 0 rfl ?_
  refine mx_invS (Y := mm_LB_isFailure) (As := [.long x7]) (rest := []) d_LB_workLineOut_13.1 ok_LB_isFailure kw_87 kw_88 rfl rfl (Nat.le_of_ble_eq_true rfl) (Nat.le_of_ble_eq_true rfl) h (fun r8 hs9 h => ?_)
  obtain ⟨x10, e9_, h⟩ := h
  subst e9_
  show mx_Ok mx_S0 l G (d + 1) mm_LB_workLineOut 16 [(1, .long x7), (0, .ref l0)] [.int x10] hs9 Q
  refine mx_if_ne d_LB_workLineOut_16 (fun c9 => ?_) (fun c9 => ?_)
  · replace h := h.1 c9
    exact mx_sub [1, 0] rfl h
  · replace h := h.2 c9
    refine mx_aload_nR d_LB_workLineOut_19 rfl 1 rfl ?_
    refine mx_lload_n d_LB_workLineOut_20 rfl 0 rfl ?_
    obtain ⟨fs11, e1_, h⟩ := h
    refine mx_put d_LB_workLineOut_21 (ci := 0) (k := 3) (q := mx_cl0_0) (ty := .long) rfl (Nat.le_of_ble_eq_true rfl) kw_15 rfl (by decide +kernel) rfl rfl (by omega) e1_ ?_
    obtain ⟨hs12, hg_⟩ : ∃ x_, x_ = mx_st hs9 l0 (0, fs11.set 3 (.long x7)) := ⟨_, rfl⟩
    replace h := h hs12 hg_
    rw [← hg_]
    clear hg_
    exact mx_sub [1, 0] rfl h
set_option maxRecDepth 100000 in
theorem wp_LB_workLineOut_24 {l : Launch} {G : mx_G} {d : Nat} {hs : mx_H} {Q : Option Value → mx_H → Prop} (l0 : Nat) (l1 : Int64) (h : (∃ (a2 : Nat), mx_f hs l0 0 2 (.ref a2) ∧ ((∃ fs6 : List Value, hs.1 a2 = some (5, fs6)) ∧ mx_C mx_S0 l G d mm_LBWorker_answerOf [.ref a2, .long l1] hs (fun (r3 : Option Value) (hs4 : mx_H) => ∃ x5 : Int32, r3 = some (.int x5) ∧ Q (some (.int x5)) hs4)))) : mx_Ok mx_S0 l G (d + 1) mm_LB_workLineOut 24 [(0, .ref l0), (1, .long l1)] [] hs Q := by
  refine mx_aload_nR d_LB_workLineOut_24 rfl 0 rfl ?_
  obtain ⟨a2, ⟨fs1, e1_, e2_⟩, h⟩ := h
  refine mx_get d_LB_workLineOut_25 (ci := 0) (k := 2) (q := mx_cl0_0) rfl (Nat.le_of_ble_eq_true rfl) kw_13 e1_ e2_ ?_
  refine mx_lload_n d_LB_workLineOut_28 rfl 1 rfl ?_
  obtain ⟨⟨fs6, e1_⟩, h⟩ := h
  refine mx_invV (Y := mm_LBWorker_answerOf) (As := [.long l1]) (rest := []) d_LB_workLineOut_29.1 ok_LBWorker_answerOf kw_44 kw_45 kw_46 rfl rfl (Nat.le_of_ble_eq_true rfl) (Nat.le_of_ble_eq_true rfl) e1_ (q := mx_cl0_5) rfl rfl h (fun r3 hs4 h => ?_)
  obtain ⟨x5, e9_, h⟩ := h
  subst e9_
  show mx_Ok mx_S0 l G (d + 1) mm_LB_workLineOut 32 [(0, .ref l0), (1, .long l1)] [.int x5] hs4 Q
  exact mx_ireturn d_LB_workLineOut_32 rfl rfl h
set_option maxRecDepth 100000 in
theorem wp_LB_isNameNumber_0 {l : Launch} {G : mx_G} {d : Nat} {hs : mx_H} {Q : Option Value → mx_H → Prop} (l0 : Int32) (h : ((l0 < 0 → Q (some (.int 0)) hs) ∧ (¬ (l0 < 0) → ((8 ≤ l0 → Q (some (.int 0)) hs) ∧ (¬ (8 ≤ l0) → Q (some (.int 1)) hs))))) : mx_Ok mx_S0 l G (d + 1) mm_LB_isNameNumber 0 [(0, .int l0)] [] hs Q := by
  refine mx_iload_n d_LB_isNameNumber_0 rfl 0 rfl ?_
  refine mx_if_lt d_LB_isNameNumber_1 (fun c9 => ?_) (fun c9 => ?_)
  · replace h := h.1 c9
    refine mx_iconst (v := 0) d_LB_isNameNumber_14 (by decide) ?_
    exact mx_ireturn d_LB_isNameNumber_15 rfl (mx_nz (Or.inl rfl)) h
  · replace h := h.2 c9
    refine mx_iload_n d_LB_isNameNumber_4 rfl 0 rfl ?_
    refine mx_bipush (v := 8) d_LB_isNameNumber_5 (by decide) ?_
    refine mx_icmp_ge d_LB_isNameNumber_7 (fun c9 => ?_) (fun c9 => ?_)
    · replace h := h.1 c9
      refine mx_iconst (v := 0) d_LB_isNameNumber_14 (by decide) ?_
      exact mx_ireturn d_LB_isNameNumber_15 rfl (mx_nz (Or.inl rfl)) h
    · replace h := h.2 c9
      refine mx_iconst (v := 1) d_LB_isNameNumber_10 (by decide) ?_
      refine mx_goto d_LB_isNameNumber_11 ?_
      exact mx_ireturn d_LB_isNameNumber_15 rfl (mx_nz (Or.inr rfl)) h
set_option maxRecDepth 100000 in
theorem wp_LB_isDigit_0 {l : Launch} {G : mx_G} {d : Nat} {hs : mx_H} {Q : Option Value → mx_H → Prop} (l0 : Int32) (h : ((l0 < 48 → Q (some (.int 0)) hs) ∧ (¬ (l0 < 48) → ((57 < l0 → Q (some (.int 0)) hs) ∧ (¬ (57 < l0) → Q (some (.int 1)) hs))))) : mx_Ok mx_S0 l G (d + 1) mm_LB_isDigit 0 [(0, .int l0)] [] hs Q := by
  refine mx_iload_n d_LB_isDigit_0 rfl 0 rfl ?_
  refine mx_bipush (v := 48) d_LB_isDigit_1 (by decide) ?_
  refine mx_icmp_lt d_LB_isDigit_3 (fun c9 => ?_) (fun c9 => ?_)
  · replace h := h.1 c9
    refine mx_iconst (v := 0) d_LB_isDigit_16 (by decide) ?_
    exact mx_ireturn d_LB_isDigit_17 rfl (mx_nz (Or.inl rfl)) h
  · replace h := h.2 c9
    refine mx_iload_n d_LB_isDigit_6 rfl 0 rfl ?_
    refine mx_bipush (v := 57) d_LB_isDigit_7 (by decide) ?_
    refine mx_icmp_gt d_LB_isDigit_9 (fun c9 => ?_) (fun c9 => ?_)
    · replace h := h.1 c9
      refine mx_iconst (v := 0) d_LB_isDigit_16 (by decide) ?_
      exact mx_ireturn d_LB_isDigit_17 rfl (mx_nz (Or.inl rfl)) h
    · replace h := h.2 c9
      refine mx_iconst (v := 1) d_LB_isDigit_12 (by decide) ?_
      refine mx_goto d_LB_isDigit_13 ?_
      exact mx_ireturn d_LB_isDigit_17 rfl (mx_nz (Or.inr rfl)) h
set_option maxRecDepth 100000 in
theorem wp_LB_isLetter_0 {l : Launch} {G : mx_G} {d : Nat} {hs : mx_H} {Q : Option Value → mx_H → Prop} (l0 : Int32) (h : ((l0 < 97 → Q (some (.int 0)) hs) ∧ (¬ (l0 < 97) → ((105 ≤ l0 → Q (some (.int 0)) hs) ∧ (¬ (105 ≤ l0) → Q (some (.int 1)) hs))))) : mx_Ok mx_S0 l G (d + 1) mm_LB_isLetter 0 [(0, .int l0)] [] hs Q := by
  refine mx_iload_n d_LB_isLetter_0 rfl 0 rfl ?_
  refine mx_bipush (v := 97) d_LB_isLetter_1 (by decide) ?_
  refine mx_icmp_lt d_LB_isLetter_3 (fun c9 => ?_) (fun c9 => ?_)
  · replace h := h.1 c9
    refine mx_iconst (v := 0) d_LB_isLetter_16 (by decide) ?_
    exact mx_ireturn d_LB_isLetter_17 rfl (mx_nz (Or.inl rfl)) h
  · replace h := h.2 c9
    refine mx_iload_n d_LB_isLetter_6 rfl 0 rfl ?_
    refine mx_bipush (v := 105) d_LB_isLetter_7 (by decide) ?_
    refine mx_icmp_ge d_LB_isLetter_9 (fun c9 => ?_) (fun c9 => ?_)
    · replace h := h.1 c9
      refine mx_iconst (v := 0) d_LB_isLetter_16 (by decide) ?_
      exact mx_ireturn d_LB_isLetter_17 rfl (mx_nz (Or.inl rfl)) h
    · replace h := h.2 c9
      refine mx_iconst (v := 1) d_LB_isLetter_12 (by decide) ?_
      refine mx_goto d_LB_isLetter_13 ?_
      exact mx_ireturn d_LB_isLetter_17 rfl (mx_nz (Or.inr rfl)) h
set_option maxRecDepth 100000 in
theorem wp_LB_partsAfter_0 {l : Launch} {G : mx_G} {d : Nat} {hs : mx_H} {Q : Option Value → mx_H → Prop} (l0 : Int32) (h : ((l0 = 33 → Q (some (.int 1)) hs) ∧ (l0 = 42 → Q (some (.int 2)) hs) ∧ (l0 = 43 → Q (some (.int 2)) hs) ∧ (l0 = 45 → Q (some (.int 2)) hs) ∧ (l0 = 60 → Q (some (.int 2)) hs) ∧ (l0 = 63 → Q (some (.int 3)) hs) ∧ (l0 = 79 → Q (some (.int 1)) hs) ∧ (l0 = 84 → Q (some (.int 2)) hs) ∧ (¬ l0 = 33 → ¬ l0 = 42 → ¬ l0 = 43 → ¬ l0 = 45 → ¬ l0 = 60 → ¬ l0 = 63 → ¬ l0 = 79 → ¬ l0 = 84 → Q (some (.int 0)) hs))) : mx_Ok mx_S0 l G (d + 1) mm_LB_partsAfter 0 [(0, .int l0)] [] hs Q := by
  refine mx_iload_n d_LB_partsAfter_0 rfl 0 rfl ?_
  by_cases c0_ : l0 = 33
  · replace h := h.1 c0_
    refine mx_lookup d_LB_partsAfter_1 (by decide) (o := 75) (by rw [c0_]; decide) (tgt := 76) (by decide) ?_
    refine mx_iconst (v := 1) d_LB_partsAfter_76 (by decide) ?_
    exact mx_ireturn d_LB_partsAfter_77 rfl rfl h
  by_cases c1_ : l0 = 42
  · replace h := h.2.1 c1_
    refine mx_lookup d_LB_partsAfter_1 (by decide) (o := 77) (by rw [c1_]; decide) (tgt := 78) (by decide) ?_
    refine mx_iconst (v := 2) d_LB_partsAfter_78 (by decide) ?_
    exact mx_ireturn d_LB_partsAfter_79 rfl rfl h
  by_cases c2_ : l0 = 43
  · replace h := h.2.2.1 c2_
    refine mx_lookup d_LB_partsAfter_1 (by decide) (o := 77) (by rw [c2_]; decide) (tgt := 78) (by decide) ?_
    refine mx_iconst (v := 2) d_LB_partsAfter_78 (by decide) ?_
    exact mx_ireturn d_LB_partsAfter_79 rfl rfl h
  by_cases c3_ : l0 = 45
  · replace h := h.2.2.2.1 c3_
    refine mx_lookup d_LB_partsAfter_1 (by decide) (o := 77) (by rw [c3_]; decide) (tgt := 78) (by decide) ?_
    refine mx_iconst (v := 2) d_LB_partsAfter_78 (by decide) ?_
    exact mx_ireturn d_LB_partsAfter_79 rfl rfl h
  by_cases c4_ : l0 = 60
  · replace h := h.2.2.2.2.1 c4_
    refine mx_lookup d_LB_partsAfter_1 (by decide) (o := 77) (by rw [c4_]; decide) (tgt := 78) (by decide) ?_
    refine mx_iconst (v := 2) d_LB_partsAfter_78 (by decide) ?_
    exact mx_ireturn d_LB_partsAfter_79 rfl rfl h
  by_cases c5_ : l0 = 63
  · replace h := h.2.2.2.2.2.1 c5_
    refine mx_lookup d_LB_partsAfter_1 (by decide) (o := 79) (by rw [c5_]; decide) (tgt := 80) (by decide) ?_
    refine mx_iconst (v := 3) d_LB_partsAfter_80 (by decide) ?_
    exact mx_ireturn d_LB_partsAfter_81 rfl rfl h
  by_cases c6_ : l0 = 79
  · replace h := h.2.2.2.2.2.2.1 c6_
    refine mx_lookup d_LB_partsAfter_1 (by decide) (o := 75) (by rw [c6_]; decide) (tgt := 76) (by decide) ?_
    refine mx_iconst (v := 1) d_LB_partsAfter_76 (by decide) ?_
    exact mx_ireturn d_LB_partsAfter_77 rfl rfl h
  by_cases c7_ : l0 = 84
  · replace h := h.2.2.2.2.2.2.2.1 c7_
    refine mx_lookup d_LB_partsAfter_1 (by decide) (o := 77) (by rw [c7_]; decide) (tgt := 78) (by decide) ?_
    refine mx_iconst (v := 2) d_LB_partsAfter_78 (by decide) ?_
    exact mx_ireturn d_LB_partsAfter_79 rfl rfl h
  replace h := h.2.2.2.2.2.2.2.2 c0_ c1_ c2_ c3_ c4_ c5_ c6_ c7_
  refine mx_lookup d_LB_partsAfter_1 (by decide) (o := 81) (by show Op.lookupswitch.offset [(33, 75), (42, 77), (43, 77), (45, 77), (60, 77), (63, 79), (79, 75), (84, 77)] 81 _ = _; rw [lv_osw c0_ (by decide), lv_osw c1_ (by decide), lv_osw c2_ (by decide), lv_osw c3_ (by decide), lv_osw c4_ (by decide), lv_osw c5_ (by decide), lv_osw c6_ (by decide), lv_osw c7_ (by decide)]; rfl) (tgt := 82) (by decide) ?_
  refine mx_iconst (v := 0) d_LB_partsAfter_82 (by decide) ?_
  exact mx_ireturn d_LB_partsAfter_83 rfl rfl h
set_option maxRecDepth 100000 in
theorem wp_LB_isFailure_0 {l : Launch} {G : mx_G} {d : Nat} {hs : mx_H} {Q : Option Value → mx_H → Prop} (l0 : Int64) (h : (((-1000000000000) ≤ l0 → Q (some (.int 0)) hs) ∧ (¬ ((-1000000000000) ≤ l0) → Q (some (.int 1)) hs))) : mx_Ok mx_S0 l G (d + 1) mm_LB_isFailure 0 [(0, .long l0)] [] hs Q := by
  refine mx_lload_n d_LB_isFailure_0 rfl 0 rfl ?_
  refine mx_ldc2 (v := (-1000000000000)) d_LB_isFailure_1 kw_14 ?_
  refine mx_lcmp d_LB_isFailure_4 ?_
  refine mx_if_ge d_LB_isFailure_5 (fun c9 => ?_) (fun c9 => ?_)
  · replace h := h.1 ((lg_cmp_ge _ _).mp c9)
    refine mx_iconst (v := 0) d_LB_isFailure_12 (by decide) ?_
    exact mx_ireturn d_LB_isFailure_13 rfl (mx_nz (Or.inl rfl)) h
  · replace h := h.2 (fun z9 => c9 ((lg_cmp_ge _ _).mpr z9))
    refine mx_iconst (v := 1) d_LB_isFailure_8 (by decide) ?_
    refine mx_goto d_LB_isFailure_9 ?_
    exact mx_ireturn d_LB_isFailure_13 rfl (mx_nz (Or.inr rfl)) h
set_option maxRecDepth 100000 in
theorem wp_LB_isPlan_0 {l : Launch} {G : mx_G} {d : Nat} {hs : mx_H} {Q : Option Value → mx_H → Prop} (l0 : Int64) (h : ((l0 ≤ 1000000000000 → Q (some (.int 0)) hs) ∧ (¬ (l0 ≤ 1000000000000) → Q (some (.int 1)) hs))) : mx_Ok mx_S0 l G (d + 1) mm_LB_isPlan 0 [(0, .long l0)] [] hs Q := by
  refine mx_lload_n d_LB_isPlan_0 rfl 0 rfl ?_
  refine mx_ldc2 (v := 1000000000000) d_LB_isPlan_1 kw_58 ?_
  refine mx_lcmp d_LB_isPlan_4 ?_
  refine mx_if_le d_LB_isPlan_5 (fun c9 => ?_) (fun c9 => ?_)
  · replace h := h.1 ((lg_cmp_le _ _).mp c9)
    refine mx_iconst (v := 0) d_LB_isPlan_12 (by decide) ?_
    exact mx_ireturn d_LB_isPlan_13 rfl (mx_nz (Or.inl rfl)) h
  · replace h := h.2 (fun z9 => c9 ((lg_cmp_le _ _).mpr z9))
    refine mx_iconst (v := 1) d_LB_isPlan_8 (by decide) ?_
    refine mx_goto d_LB_isPlan_9 ?_
    exact mx_ireturn d_LB_isPlan_13 rfl (mx_nz (Or.inr rfl)) h
set_option maxRecDepth 100000 in
theorem wp_LB_numberOf_0 {l : Launch} {G : mx_G} {d : Nat} {hs : mx_H} {Q : Option Value → mx_H → Prop} (l0 : Int64) (h : Q (some (.int (Int64.toInt32 (l0 - 1000000000000)))) hs) : mx_Ok mx_S0 l G (d + 1) mm_LB_numberOf 0 [(0, .long l0)] [] hs Q := by
  refine mx_lload_n d_LB_numberOf_0 rfl 0 rfl ?_
  refine mx_ldc2 (v := 1000000000000) d_LB_numberOf_1 kw_58 ?_
  refine mx_lsub d_LB_numberOf_4 ?_
  refine mx_l2i d_LB_numberOf_5 ?_
  exact mx_ireturn d_LB_numberOf_6 rfl rfl h
set_option maxRecDepth 100000 in
theorem wp_LBText_init_0 {l : Launch} {G : mx_G} {d : Nat} {hs : mx_H} {Q : Option Value → mx_H → Prop} (l0 : Nat) (h : (∀ hs1 : mx_H, hs1 = mx_nw hs (100, List.replicate 24 (.int 0)) 24 → (∃ fs2 : List Value, hs1.1 l0 = some (1, fs2) ∧ ∀ hs3 : mx_H, hs3 = mx_st hs1 l0 (1, fs2.set 0 (.ref hs.2.1)) → (∀ hs4 : mx_H, hs4 = mx_nw hs3 (100, List.replicate 24 (.int 0)) 24 → (∃ fs5 : List Value, hs4.1 l0 = some (1, fs5) ∧ ∀ hs6 : mx_H, hs6 = mx_st hs4 l0 (1, fs5.set 1 (.ref hs3.2.1)) → Q none hs6))))) : mx_Ok mx_S0 l G (d + 1) mm_LBText_init 0 [(0, .ref l0)] [] hs Q := by
  refine mx_aload_nR d_LBText_init_0 rfl 0 rfl ?_
  refine mx_objInit d_LBText_init_1 kw_92 kw_1 k_objcode (Nat.le_of_ble_eq_true rfl) ?_
  refine mx_aload_nR d_LBText_init_4 rfl 0 rfl ?_
  refine mx_bipush (v := 24) d_LBText_init_5 (by decide) ?_
  refine mx_newa d_LBText_init_7 (k := 100) (ty := .int) (dv := .int 0) (N := 24) rfl rfl rfl (by decide) kw_93 (by decide) (by decide) (by decide) ?_
  obtain ⟨hs1, hg_⟩ : ∃ x_, x_ = mx_nw hs (100, List.replicate 24 (.int 0)) 24 := ⟨_, rfl⟩
  replace h := h hs1 hg_
  rw [← hg_]
  clear hg_
  obtain ⟨fs2, e1_, h⟩ := h
  refine mx_putF d_LBText_init_9 (ci := 1) (k := 0) (q := mx_cl0_1) (ty := (.array .int)) rfl (Nat.le_of_ble_eq_true rfl) kw_94 rfl rfl rfl (by decide +kernel) rfl rfl (by omega) e1_ ?_
  obtain ⟨hs3, hg_⟩ : ∃ x_, x_ = mx_st hs1 l0 (1, fs2.set 0 (.ref hs.2.1)) := ⟨_, rfl⟩
  replace h := h hs3 hg_
  rw [← hg_]
  clear hg_
  refine mx_aload_nR d_LBText_init_12 rfl 0 rfl ?_
  refine mx_bipush (v := 24) d_LBText_init_13 (by decide) ?_
  refine mx_newa d_LBText_init_15 (k := 100) (ty := .int) (dv := .int 0) (N := 24) rfl rfl rfl (by decide) kw_93 (by decide) (by decide) (by decide) ?_
  obtain ⟨hs4, hg_⟩ : ∃ x_, x_ = mx_nw hs3 (100, List.replicate 24 (.int 0)) 24 := ⟨_, rfl⟩
  replace h := h hs4 hg_
  rw [← hg_]
  clear hg_
  obtain ⟨fs5, e1_, h⟩ := h
  refine mx_putF d_LBText_init_17 (ci := 1) (k := 1) (q := mx_cl0_1) (ty := (.array .int)) rfl (Nat.le_of_ble_eq_true rfl) kw_95 rfl rfl rfl (by decide +kernel) rfl rfl (by omega) e1_ ?_
  obtain ⟨hs6, hg_⟩ : ∃ x_, x_ = mx_st hs4 l0 (1, fs5.set 1 (.ref hs3.2.1)) := ⟨_, rfl⟩
  replace h := h hs6 hg_
  rw [← hg_]
  clear hg_
  exact mx_return d_LBText_init_20 rfl h
set_option maxRecDepth 100000 in
theorem wp_LBText_append_0 {l : Launch} {G : mx_G} {d : Nat} {hs : mx_H} {Q : Option Value → mx_H → Prop} (l0 : Nat) (l1 : Int32) (h : mx_C mx_S0 l G d mm_LBText_belongs [.int l1] hs (fun (r1 : Option Value) (hs2 : mx_H) => ∃ x3 : Int32, r1 = some (.int x3) ∧ ((¬ x3 = 0 → (∃ (x5 : Int32), mx_f hs2 l0 1 2 (.int x5) ∧ ((x5 < 24 → (∃ (a7 : Nat), mx_f hs2 l0 1 0 (.ref a7) ∧ (∃ (x9 : Int32), mx_f hs2 l0 1 2 (.int x9) ∧ (∃ vs10 : List Value, hs2.1 a7 = some (100, vs10) ∧ ¬ x9 < 0 ∧ Int32.toNatClampNeg x9 < vs10.length ∧ ∀ hs11 : mx_H, hs11 = mx_st hs2 a7 (100, vs10.set (Int32.toNatClampNeg x9) (.int l1)) → (∃ (x13 : Int32), mx_f hs11 l0 1 2 (.int x13) ∧ (∃ fs14 : List Value, hs11.1 l0 = some (1, fs14) ∧ ∀ hs15 : mx_H, hs15 = mx_st hs11 l0 (1, fs14.set 2 (.int (x13 + 1))) → (∃ (x17 : Int32), mx_f hs15 l0 1 2 (.int x17) ∧ Q (some (.int x17)) hs15))))))) ∧ (¬ (x5 < 24) → Q (some (.int (-2))) hs2)))) ∧ (¬ (¬ x3 = 0) → Q (some (.int (-1))) hs2)))) : mx_Ok mx_S0 l G (d + 1) mm_LBText_append 0 [(0, .ref l0), (1, .int l1)] [] hs Q := by
  refine mx_iload_n d_LBText_append_0 rfl 1 rfl ?_
  refine mx_invS (Y := mm_LBText_belongs) (As := [.int l1]) (rest := []) d_LBText_append_1.1 ok_LBText_belongs kw_97 kw_98 rfl rfl (Nat.le_of_ble_eq_true rfl) (Nat.le_of_ble_eq_true rfl) h (fun r1 hs2 h => ?_)
  obtain ⟨x3, e9_, h⟩ := h
  subst e9_
  show mx_Ok mx_S0 l G (d + 1) mm_LBText_append 4 [(0, .ref l0), (1, .int l1)] [.int x3] hs2 Q
  refine mx_if_ne d_LBText_append_4 (fun c9 => ?_) (fun c9 => ?_)
  · replace h := h.1 c9
    refine mx_aload_nR d_LBText_append_9 rfl 0 rfl ?_
    obtain ⟨x5, ⟨fs4, e1_, e2_⟩, h⟩ := h
    refine mx_get d_LBText_append_10 (ci := 1) (k := 2) (q := mx_cl0_1) rfl (Nat.le_of_ble_eq_true rfl) kw_96 e1_ e2_ ?_
    refine mx_bipush (v := 24) d_LBText_append_13 (by decide) ?_
    refine mx_icmp_lt d_LBText_append_15 (fun c9 => ?_) (fun c9 => ?_)
    · replace h := h.1 c9
      refine mx_aload_nR d_LBText_append_21 rfl 0 rfl ?_
      obtain ⟨a7, ⟨fs6, e1_, e2_⟩, h⟩ := h
      refine mx_get d_LBText_append_22 (ci := 1) (k := 0) (q := mx_cl0_1) rfl (Nat.le_of_ble_eq_true rfl) kw_94 e1_ e2_ ?_
      refine mx_aload_nR d_LBText_append_25 rfl 0 rfl ?_
      obtain ⟨x9, ⟨fs8, e1_, e2_⟩, h⟩ := h
      refine mx_get d_LBText_append_26 (ci := 1) (k := 2) (q := mx_cl0_1) rfl (Nat.le_of_ble_eq_true rfl) kw_96 e1_ e2_ ?_
      refine mx_iload_n d_LBText_append_29 rfl 1 rfl ?_
      obtain ⟨vs10, e1_, e2_, e3_, h⟩ := h
      refine mx_iast d_LBText_append_30 (k := 100) rfl (by decide) (by omega) e1_ e2_ e3_ ?_
      obtain ⟨hs11, hg_⟩ : ∃ x_, x_ = mx_st hs2 a7 (100, vs10.set (Int32.toNatClampNeg x9) (.int l1)) := ⟨_, rfl⟩
      replace h := h hs11 hg_
      rw [← hg_]
      clear hg_
      refine mx_aload_nR d_LBText_append_31 rfl 0 rfl ?_
      refine mx_dup d_LBText_append_32 rfl ?_
      obtain ⟨x13, ⟨fs12, e1_, e2_⟩, h⟩ := h
      refine mx_get d_LBText_append_33 (ci := 1) (k := 2) (q := mx_cl0_1) rfl (Nat.le_of_ble_eq_true rfl) kw_96 e1_ e2_ ?_
      refine mx_iconst (v := 1) d_LBText_append_36 (by decide) ?_
      refine mx_iadd d_LBText_append_37 ?_
      obtain ⟨fs14, e1_, h⟩ := h
      refine mx_put d_LBText_append_38 (ci := 1) (k := 2) (q := mx_cl0_1) (ty := .int) rfl (Nat.le_of_ble_eq_true rfl) kw_96 rfl (by decide +kernel) rfl rfl (by omega) e1_ ?_
      obtain ⟨hs15, hg_⟩ : ∃ x_, x_ = mx_st hs11 l0 (1, fs14.set 2 (.int (x13 + 1))) := ⟨_, rfl⟩
      replace h := h hs15 hg_
      rw [← hg_]
      clear hg_
      refine mx_aload_nR d_LBText_append_41 rfl 0 rfl ?_
      obtain ⟨x17, ⟨fs16, e1_, e2_⟩, h⟩ := h
      refine mx_get d_LBText_append_42 (ci := 1) (k := 2) (q := mx_cl0_1) rfl (Nat.le_of_ble_eq_true rfl) kw_96 e1_ e2_ ?_
      exact mx_ireturn d_LBText_append_45 rfl rfl h
    · replace h := h.2 c9
      refine mx_bipush (v := (-2)) d_LBText_append_18 (by decide) ?_
      exact mx_ireturn d_LBText_append_20 rfl rfl h
  · replace h := h.2 c9
    refine mx_iconst (v := -1) d_LBText_append_7 (by decide) ?_
    exact mx_ireturn d_LBText_append_8 rfl rfl h
set_option maxRecDepth 100000 in
theorem wp_LBText_clear_0 {l : Launch} {G : mx_G} {d : Nat} {hs : mx_H} {Q : Option Value → mx_H → Prop} (l0 : Nat) (h : (∃ fs1 : List Value, hs.1 l0 = some (1, fs1) ∧ ∀ hs2 : mx_H, hs2 = mx_st hs l0 (1, fs1.set 2 (.int 0)) → Q none hs2)) : mx_Ok mx_S0 l G (d + 1) mm_LBText_clear 0 [(0, .ref l0)] [] hs Q := by
  refine mx_aload_nR d_LBText_clear_0 rfl 0 rfl ?_
  refine mx_iconst (v := 0) d_LBText_clear_1 (by decide) ?_
  obtain ⟨fs1, e1_, h⟩ := h
  refine mx_put d_LBText_clear_2 (ci := 1) (k := 2) (q := mx_cl0_1) (ty := .int) rfl (Nat.le_of_ble_eq_true rfl) kw_96 rfl (by decide +kernel) rfl rfl (by omega) e1_ ?_
  obtain ⟨hs2, hg_⟩ : ∃ x_, x_ = mx_st hs l0 (1, fs1.set 2 (.int 0)) := ⟨_, rfl⟩
  replace h := h hs2 hg_
  rw [← hg_]
  clear hg_
  exact mx_return d_LBText_clear_5 rfl h
set_option maxRecDepth 100000 in
theorem wp_LBText_copyFrom_0 {l : Launch} {G : mx_G} {d : Nat} {hs : mx_H} {Q : Option Value → mx_H → Prop} (l0 : Nat) (l1 : Nat) (h : (∃ (a2 : Nat), mx_f hs l1 1 0 (.ref a2) ∧ (∃ (a4 : Nat), mx_f hs l0 1 0 (.ref a4) ∧ (∃ vs5 vs6 : List Value, hs.1 a2 = some (100, vs5) ∧ hs.1 a4 = some (100, vs6) ∧ ¬ (0 : Int32) < 0 ∧ ¬ (0 : Int32) < 0 ∧ ¬ (24 : Int32) < 0 ∧ (Int32.toNatClampNeg 0) + (Int32.toNatClampNeg 24) ≤ vs5.length ∧ (Int32.toNatClampNeg 0) + (Int32.toNatClampNeg 24) ≤ vs6.length ∧ (∀ v ∈ vs5, fits .int v = true ∧ ∀ x, v ≠ .ref x) ∧ ∀ hs7 : mx_H, hs7 = mx_st hs a4 (100, mx_cpy vs5 vs6 (Int32.toNatClampNeg 0) (Int32.toNatClampNeg 0) (Int32.toNatClampNeg 24)) → (∃ (a9 : Nat), mx_f hs7 l1 1 1 (.ref a9) ∧ (∃ (a11 : Nat), mx_f hs7 l0 1 1 (.ref a11) ∧ (∃ vs12 vs13 : List Value, hs7.1 a9 = some (100, vs12) ∧ hs7.1 a11 = some (100, vs13) ∧ ¬ (0 : Int32) < 0 ∧ ¬ (0 : Int32) < 0 ∧ ¬ (24 : Int32) < 0 ∧ (Int32.toNatClampNeg 0) + (Int32.toNatClampNeg 24) ≤ vs12.length ∧ (Int32.toNatClampNeg 0) + (Int32.toNatClampNeg 24) ≤ vs13.length ∧ (∀ v ∈ vs12, fits .int v = true ∧ ∀ x, v ≠ .ref x) ∧ ∀ hs14 : mx_H, hs14 = mx_st hs7 a11 (100, mx_cpy vs12 vs13 (Int32.toNatClampNeg 0) (Int32.toNatClampNeg 0) (Int32.toNatClampNeg 24)) → (∃ (x16 : Int32), mx_f hs14 l1 1 2 (.int x16) ∧ (∃ fs17 : List Value, hs14.1 l0 = some (1, fs17) ∧ ∀ hs18 : mx_H, hs18 = mx_st hs14 l0 (1, fs17.set 2 (.int x16)) → (∃ (x20 : Int32), mx_f hs18 l1 1 3 (.int x20) ∧ (∃ fs21 : List Value, hs18.1 l0 = some (1, fs21) ∧ ∀ hs22 : mx_H, hs22 = mx_st hs18 l0 (1, fs21.set 3 (.int x20)) → Q none hs22))))))))))) : mx_Ok mx_S0 l G (d + 1) mm_LBText_copyFrom 0 [(0, .ref l0), (1, .ref l1)] [] hs Q := by
  refine mx_aload_nR d_LBText_copyFrom_0 rfl 1 rfl ?_
  obtain ⟨a2, ⟨fs1, e1_, e2_⟩, h⟩ := h
  refine mx_get d_LBText_copyFrom_1 (ci := 1) (k := 0) (q := mx_cl0_1) rfl (Nat.le_of_ble_eq_true rfl) kw_94 e1_ e2_ ?_
  refine mx_iconst (v := 0) d_LBText_copyFrom_4 (by decide) ?_
  refine mx_aload_nR d_LBText_copyFrom_5 rfl 0 rfl ?_
  obtain ⟨a4, ⟨fs3, e1_, e2_⟩, h⟩ := h
  refine mx_get d_LBText_copyFrom_6 (ci := 1) (k := 0) (q := mx_cl0_1) rfl (Nat.le_of_ble_eq_true rfl) kw_94 e1_ e2_ ?_
  refine mx_iconst (v := 0) d_LBText_copyFrom_9 (by decide) ?_
  refine mx_bipush (v := 24) d_LBText_copyFrom_10 (by decide) ?_
  obtain ⟨vs5, vs6, e1_, e2_, e3_, e4_, e5_, e6_, e7_, e8_, h⟩ := h
  refine mx_copy (k0 := 100) (k1 := 100) (ty := .int) d_LBText_copyFrom_12 kw_99 k_acp1 k_acp2 k_acp3 rfl rfl rfl (by decide) (Nat.le_of_ble_eq_true rfl) e1_ e2_ e3_ e4_ e5_ rfl rfl rfl e6_ e7_ e8_ ?_
  obtain ⟨hs7, hg_⟩ : ∃ x_, x_ = mx_st hs a4 (100, mx_cpy vs5 vs6 (Int32.toNatClampNeg 0) (Int32.toNatClampNeg 0) (Int32.toNatClampNeg 24)) := ⟨_, rfl⟩
  replace h := h hs7 hg_
  rw [← hg_]
  clear hg_
  refine mx_aload_nR d_LBText_copyFrom_15 rfl 1 rfl ?_
  obtain ⟨a9, ⟨fs8, e1_, e2_⟩, h⟩ := h
  refine mx_get d_LBText_copyFrom_16 (ci := 1) (k := 1) (q := mx_cl0_1) rfl (Nat.le_of_ble_eq_true rfl) kw_95 e1_ e2_ ?_
  refine mx_iconst (v := 0) d_LBText_copyFrom_19 (by decide) ?_
  refine mx_aload_nR d_LBText_copyFrom_20 rfl 0 rfl ?_
  obtain ⟨a11, ⟨fs10, e1_, e2_⟩, h⟩ := h
  refine mx_get d_LBText_copyFrom_21 (ci := 1) (k := 1) (q := mx_cl0_1) rfl (Nat.le_of_ble_eq_true rfl) kw_95 e1_ e2_ ?_
  refine mx_iconst (v := 0) d_LBText_copyFrom_24 (by decide) ?_
  refine mx_bipush (v := 24) d_LBText_copyFrom_25 (by decide) ?_
  obtain ⟨vs12, vs13, e1_, e2_, e3_, e4_, e5_, e6_, e7_, e8_, h⟩ := h
  refine mx_copy (k0 := 100) (k1 := 100) (ty := .int) d_LBText_copyFrom_27 kw_99 k_acp1 k_acp2 k_acp3 rfl rfl rfl (by decide) (Nat.le_of_ble_eq_true rfl) e1_ e2_ e3_ e4_ e5_ rfl rfl rfl e6_ e7_ e8_ ?_
  obtain ⟨hs14, hg_⟩ : ∃ x_, x_ = mx_st hs7 a11 (100, mx_cpy vs12 vs13 (Int32.toNatClampNeg 0) (Int32.toNatClampNeg 0) (Int32.toNatClampNeg 24)) := ⟨_, rfl⟩
  replace h := h hs14 hg_
  rw [← hg_]
  clear hg_
  refine mx_aload_nR d_LBText_copyFrom_30 rfl 0 rfl ?_
  refine mx_aload_nR d_LBText_copyFrom_31 rfl 1 rfl ?_
  obtain ⟨x16, ⟨fs15, e1_, e2_⟩, h⟩ := h
  refine mx_get d_LBText_copyFrom_32 (ci := 1) (k := 2) (q := mx_cl0_1) rfl (Nat.le_of_ble_eq_true rfl) kw_96 e1_ e2_ ?_
  obtain ⟨fs17, e1_, h⟩ := h
  refine mx_put d_LBText_copyFrom_35 (ci := 1) (k := 2) (q := mx_cl0_1) (ty := .int) rfl (Nat.le_of_ble_eq_true rfl) kw_96 rfl (by decide +kernel) rfl rfl (by omega) e1_ ?_
  obtain ⟨hs18, hg_⟩ : ∃ x_, x_ = mx_st hs14 l0 (1, fs17.set 2 (.int x16)) := ⟨_, rfl⟩
  replace h := h hs18 hg_
  rw [← hg_]
  clear hg_
  refine mx_aload_nR d_LBText_copyFrom_38 rfl 0 rfl ?_
  refine mx_aload_nR d_LBText_copyFrom_39 rfl 1 rfl ?_
  obtain ⟨x20, ⟨fs19, e1_, e2_⟩, h⟩ := h
  refine mx_get d_LBText_copyFrom_40 (ci := 1) (k := 3) (q := mx_cl0_1) rfl (Nat.le_of_ble_eq_true rfl) kw_100 e1_ e2_ ?_
  obtain ⟨fs21, e1_, h⟩ := h
  refine mx_put d_LBText_copyFrom_43 (ci := 1) (k := 3) (q := mx_cl0_1) (ty := .int) rfl (Nat.le_of_ble_eq_true rfl) kw_100 rfl (by decide +kernel) rfl rfl (by omega) e1_ ?_
  obtain ⟨hs22, hg_⟩ : ∃ x_, x_ = mx_st hs18 l0 (1, fs21.set 3 (.int x20)) := ⟨_, rfl⟩
  replace h := h hs22 hg_
  rw [← hg_]
  clear hg_
  exact mx_return d_LBText_copyFrom_46 rfl h
set_option maxRecDepth 100000 in
theorem wp_LBText_codeAt_0 {l : Launch} {G : mx_G} {d : Nat} {hs : mx_H} {Q : Option Value → mx_H → Prop} (l0 : Nat) (l1 : Int32) (h : ((l1 < 0 → Q (some (.int 0)) hs) ∧ (¬ (l1 < 0) → (∃ (x2 : Int32), mx_f hs l0 1 2 (.int x2) ∧ ((x2 ≤ l1 → Q (some (.int 0)) hs) ∧ (¬ (x2 ≤ l1) → (∃ (a4 : Nat), mx_f hs l0 1 0 (.ref a4) ∧ (∃ (vs5 : List Value) (x6 : Int32), hs.1 a4 = some (100, vs5) ∧ ¬ l1 < 0 ∧ vs5[Int32.toNatClampNeg l1]? = some (.int x6) ∧ Q (some (.int x6)) hs)))))))) : mx_Ok mx_S0 l G (d + 1) mm_LBText_codeAt 0 [(0, .ref l0), (1, .int l1)] [] hs Q := by
  refine mx_iload_n d_LBText_codeAt_0 rfl 1 rfl ?_
  refine mx_if_lt d_LBText_codeAt_1 (fun c9 => ?_) (fun c9 => ?_)
  · replace h := h.1 c9
    refine mx_iconst (v := 0) d_LBText_codeAt_21 (by decide) ?_
    exact mx_ireturn d_LBText_codeAt_22 rfl rfl h
  · replace h := h.2 c9
    refine mx_iload_n d_LBText_codeAt_4 rfl 1 rfl ?_
    refine mx_aload_nR d_LBText_codeAt_5 rfl 0 rfl ?_
    obtain ⟨x2, ⟨fs1, e1_, e2_⟩, h⟩ := h
    refine mx_get d_LBText_codeAt_6 (ci := 1) (k := 2) (q := mx_cl0_1) rfl (Nat.le_of_ble_eq_true rfl) kw_96 e1_ e2_ ?_
    refine mx_icmp_ge d_LBText_codeAt_9 (fun c9 => ?_) (fun c9 => ?_)
    · replace h := h.1 c9
      refine mx_iconst (v := 0) d_LBText_codeAt_21 (by decide) ?_
      exact mx_ireturn d_LBText_codeAt_22 rfl rfl h
    · replace h := h.2 c9
      refine mx_aload_nR d_LBText_codeAt_12 rfl 0 rfl ?_
      obtain ⟨a4, ⟨fs3, e1_, e2_⟩, h⟩ := h
      refine mx_get d_LBText_codeAt_13 (ci := 1) (k := 0) (q := mx_cl0_1) rfl (Nat.le_of_ble_eq_true rfl) kw_94 e1_ e2_ ?_
      refine mx_iload_n d_LBText_codeAt_16 rfl 1 rfl ?_
      obtain ⟨vs5, x6, e1_, e2_, e3_, h⟩ := h
      refine mx_iald d_LBText_codeAt_17 (k := 100) rfl e1_ e2_ e3_ ?_
      refine mx_goto d_LBText_codeAt_18 ?_
      exact mx_ireturn d_LBText_codeAt_22 rfl rfl h
set_option maxRecDepth 100000 in
theorem wp_LBText_endOf_0 {l : Launch} {G : mx_G} {d : Nat} {hs : mx_H} {Q : Option Value → mx_H → Prop} (l0 : Nat) (l1 : Int32) (h : ((l1 < 0 → mx_Ok mx_S0 l G (d + 1) mm_LBText_endOf 21 [(0, .ref l0)] [] hs Q) ∧ (¬ (l1 < 0) → (∃ (x2 : Int32), mx_f hs l0 1 2 (.int x2) ∧ ((x2 ≤ l1 → mx_Ok mx_S0 l G (d + 1) mm_LBText_endOf 21 [(0, .ref l0)] [] hs Q) ∧ (¬ (x2 ≤ l1) → (∃ (a4 : Nat), mx_f hs l0 1 1 (.ref a4) ∧ (∃ (vs5 : List Value) (x6 : Int32), hs.1 a4 = some (100, vs5) ∧ ¬ l1 < 0 ∧ vs5[Int32.toNatClampNeg l1]? = some (.int x6) ∧ Q (some (.int x6)) hs)))))))) : mx_Ok mx_S0 l G (d + 1) mm_LBText_endOf 0 [(0, .ref l0), (1, .int l1)] [] hs Q := by
  refine mx_iload_n d_LBText_endOf_0 rfl 1 rfl ?_
  refine mx_if_lt d_LBText_endOf_1 (fun c9 => ?_) (fun c9 => ?_)
  · replace h := h.1 c9
    exact mx_sub [0] rfl h
  · replace h := h.2 c9
    refine mx_iload_n d_LBText_endOf_4 rfl 1 rfl ?_
    refine mx_aload_nR d_LBText_endOf_5 rfl 0 rfl ?_
    obtain ⟨x2, ⟨fs1, e1_, e2_⟩, h⟩ := h
    refine mx_get d_LBText_endOf_6 (ci := 1) (k := 2) (q := mx_cl0_1) rfl (Nat.le_of_ble_eq_true rfl) kw_96 e1_ e2_ ?_
    refine mx_icmp_ge d_LBText_endOf_9 (fun c9 => ?_) (fun c9 => ?_)
    · replace h := h.1 c9
      exact mx_sub [0] rfl h
    · replace h := h.2 c9
      refine mx_aload_nR d_LBText_endOf_12 rfl 0 rfl ?_
      obtain ⟨a4, ⟨fs3, e1_, e2_⟩, h⟩ := h
      refine mx_get d_LBText_endOf_13 (ci := 1) (k := 1) (q := mx_cl0_1) rfl (Nat.le_of_ble_eq_true rfl) kw_95 e1_ e2_ ?_
      refine mx_iload_n d_LBText_endOf_16 rfl 1 rfl ?_
      obtain ⟨vs5, x6, e1_, e2_, e3_, h⟩ := h
      refine mx_iald d_LBText_endOf_17 (k := 100) rfl e1_ e2_ e3_ ?_
      refine mx_goto d_LBText_endOf_18 ?_
      exact mx_ireturn d_LBText_endOf_25 rfl rfl h
set_option maxRecDepth 100000 in
theorem wp_LBText_endOf_21 {l : Launch} {G : mx_G} {d : Nat} {hs : mx_H} {Q : Option Value → mx_H → Prop} (l0 : Nat) (h : (∃ (x2 : Int32), mx_f hs l0 1 2 (.int x2) ∧ Q (some (.int x2)) hs)) : mx_Ok mx_S0 l G (d + 1) mm_LBText_endOf 21 [(0, .ref l0)] [] hs Q := by
  refine mx_aload_nR d_LBText_endOf_21 rfl 0 rfl ?_
  obtain ⟨x2, ⟨fs1, e1_, e2_⟩, h⟩ := h
  refine mx_get d_LBText_endOf_22 (ci := 1) (k := 2) (q := mx_cl0_1) rfl (Nat.le_of_ble_eq_true rfl) kw_96 e1_ e2_ ?_
  exact mx_ireturn d_LBText_endOf_25 rfl rfl h
set_option maxRecDepth 100000 in
theorem wp_LBText_read_0 {l : Launch} {G : mx_G} {d : Nat} {hs : mx_H} {Q : Option Value → mx_H → Prop} (l0 : Nat) (h : (∃ fs1 : List Value, hs.1 l0 = some (1, fs1) ∧ ∀ hs2 : mx_H, hs2 = mx_st hs l0 (1, fs1.set 3 (.int 0)) → ((∃ fs10 : List Value, hs2.1 l0 = some (1, fs10)) ∧ mx_C mx_S0 l G d mm_LBText_readExpression [.ref l0, .int 0, .int 1] hs2 (fun (r3 : Option Value) (hs4 : mx_H) => ∃ x5 : Int32, r3 = some (.int x5) ∧ ((¬ x5 = (-1) → (∃ (x7 : Int32), mx_f hs4 l0 1 2 (.int x7) ∧ ((x7 ≤ x5 → Q (some (.int 1)) hs4) ∧ (¬ (x7 ≤ x5) → (∃ fs8 : List Value, hs4.1 l0 = some (1, fs8) ∧ ∀ hs9 : mx_H, hs9 = mx_st hs4 l0 (1, fs8.set 4 (.int x5)) → Q (some (.int 0)) hs9))))) ∧ (¬ (¬ x5 = (-1)) → Q (some (.int 0)) hs4)))))) : mx_Ok mx_S0 l G (d + 1) mm_LBText_read 0 [(0, .ref l0)] [] hs Q := by
  refine mx_aload_nR d_LBText_read_0 rfl 0 rfl ?_
  refine mx_iconst (v := 0) d_LBText_read_1 (by decide) ?_
  obtain ⟨fs1, e1_, h⟩ := h
  refine mx_put d_LBText_read_2 (ci := 1) (k := 3) (q := mx_cl0_1) (ty := .int) rfl (Nat.le_of_ble_eq_true rfl) kw_100 rfl (by decide +kernel) rfl rfl (by omega) e1_ ?_
  obtain ⟨hs2, hg_⟩ : ∃ x_, x_ = mx_st hs l0 (1, fs1.set 3 (.int 0)) := ⟨_, rfl⟩
  replace h := h hs2 hg_
  rw [← hg_]
  clear hg_
  refine mx_aload_nR d_LBText_read_5 rfl 0 rfl ?_
  refine mx_iconst (v := 0) d_LBText_read_6 (by decide) ?_
  refine mx_iconst (v := 1) d_LBText_read_7 (by decide) ?_
  obtain ⟨⟨fs10, e1_⟩, h⟩ := h
  refine mx_invV (Y := mm_LBText_readExpression) (As := [.int 0, .int 1]) (rest := []) d_LBText_read_8.1 ok_LBText_readExpression kw_102 kw_103 kw_104 rfl rfl (Nat.le_of_ble_eq_true rfl) (Nat.le_of_ble_eq_true rfl) e1_ (q := mx_cl0_1) rfl rfl h (fun r3 hs4 h => ?_)
  obtain ⟨x5, e9_, h⟩ := h
  subst e9_
  show mx_Ok mx_S0 l G (d + 1) mm_LBText_read 11 [(0, .ref l0)] [.int x5] hs4 Q
  refine mx_istore_n (lv2 := [(1, .int x5), (0, .ref l0)]) d_LBText_read_11 rfl (Nat.le_of_ble_eq_true rfl) rfl ?_
  refine mx_iload_n d_LBText_read_12 rfl 0 rfl ?_
  refine mx_iconst (v := -1) d_LBText_read_13 (by decide) ?_
  refine mx_icmp_ne d_LBText_read_14 (fun c9 => ?_) (fun c9 => ?_)
  · replace h := h.1 c9
    refine mx_iload_n d_LBText_read_19 rfl 0 rfl ?_
    refine mx_aload_nR d_LBText_read_20 rfl 1 rfl ?_
    obtain ⟨x7, ⟨fs6, e1_, e2_⟩, h⟩ := h
    refine mx_get d_LBText_read_21 (ci := 1) (k := 2) (q := mx_cl0_1) rfl (Nat.le_of_ble_eq_true rfl) kw_96 e1_ e2_ ?_
    refine mx_icmp_ge d_LBText_read_24 (fun c9 => ?_) (fun c9 => ?_)
    · replace h := h.1 c9
      refine mx_iconst (v := 1) d_LBText_read_34 (by decide) ?_
      exact mx_ireturn d_LBText_read_35 rfl (mx_nz (Or.inr rfl)) h
    · replace h := h.2 c9
      refine mx_aload_nR d_LBText_read_27 rfl 1 rfl ?_
      refine mx_iload_n d_LBText_read_28 rfl 0 rfl ?_
      obtain ⟨fs8, e1_, h⟩ := h
      refine mx_put d_LBText_read_29 (ci := 1) (k := 4) (q := mx_cl0_1) (ty := .int) rfl (Nat.le_of_ble_eq_true rfl) kw_101 rfl (by decide +kernel) rfl rfl (by omega) e1_ ?_
      obtain ⟨hs9, hg_⟩ : ∃ x_, x_ = mx_st hs4 l0 (1, fs8.set 4 (.int x5)) := ⟨_, rfl⟩
      replace h := h hs9 hg_
      rw [← hg_]
      clear hg_
      refine mx_iconst (v := 0) d_LBText_read_32 (by decide) ?_
      exact mx_ireturn d_LBText_read_33 rfl (mx_nz (Or.inl rfl)) h
  · replace h := h.2 c9
    refine mx_iconst (v := 0) d_LBText_read_17 (by decide) ?_
    exact mx_ireturn d_LBText_read_18 rfl (mx_nz (Or.inl rfl)) h
set_option maxRecDepth 100000 in
theorem wp_LBText_readExpression_0 {l : Launch} {G : mx_G} {d : Nat} {hs : mx_H} {Q : Option Value → mx_H → Prop} (l0 : Nat) (l1 : Int32) (l2 : Int32) (h : (∃ (x2 : Int32), mx_f hs l0 1 2 (.int x2) ∧ ((x2 ≤ l1 → mx_Ok mx_S0 l G (d + 1) mm_LBText_readExpression 14 [(0, .ref l0), (1, .int l1)] [] hs Q) ∧ (¬ (x2 ≤ l1) → ((l2 ≤ 8 → ((∃ fs14 : List Value, hs.1 l0 = some (1, fs14)) ∧ mx_C mx_S0 l G d mm_LBText_readKind [.ref l0, .int l1, .int l2] hs (fun (r3 : Option Value) (hs4 : mx_H) => ∃ x5 : Int32, r3 = some (.int x5) ∧ (∃ (a7 : Nat), mx_f hs4 l0 1 1 (.ref a7) ∧ (∃ vs8 : List Value, hs4.1 a7 = some (100, vs8) ∧ ¬ l1 < 0 ∧ Int32.toNatClampNeg l1 < vs8.length ∧ ∀ hs9 : mx_H, hs9 = mx_st hs4 a7 (100, vs8.set (Int32.toNatClampNeg l1) (.int x5)) → (∃ (x11 : Int32), mx_f hs9 l0 1 3 (.int x11) ∧ (∃ fs12 : List Value, hs9.1 l0 = some (1, fs12) ∧ ∀ hs13 : mx_H, hs13 = mx_st hs9 l0 (1, fs12.set 3 (.int (if x11 < l2 then l2 else x11))) → Q (some (.int x5)) hs13))))))) ∧ (¬ (l2 ≤ 8) → mx_Ok mx_S0 l G (d + 1) mm_LBText_readExpression 14 [(0, .ref l0), (1, .int l1)] [] hs Q)))))) : mx_Ok mx_S0 l G (d + 1) mm_LBText_readExpression 0 [(0, .ref l0), (1, .int l1), (2, .int l2)] [] hs Q := by
  refine mx_iload_n d_LBText_readExpression_0 rfl 1 rfl ?_
  refine mx_aload_nR d_LBText_readExpression_1 rfl 0 rfl ?_
  obtain ⟨x2, ⟨fs1, e1_, e2_⟩, h⟩ := h
  refine mx_get d_LBText_readExpression_2 (ci := 1) (k := 2) (q := mx_cl0_1) rfl (Nat.le_of_ble_eq_true rfl) kw_96 e1_ e2_ ?_
  refine mx_icmp_ge d_LBText_readExpression_5 (fun c9 => ?_) (fun c9 => ?_)
  · replace h := h.1 c9
    exact mx_sub [0, 1] rfl h
  · replace h := h.2 c9
    refine mx_iload_n d_LBText_readExpression_8 rfl 2 rfl ?_
    refine mx_bipush (v := 8) d_LBText_readExpression_9 (by decide) ?_
    refine mx_icmp_le d_LBText_readExpression_11 (fun c9 => ?_) (fun c9 => ?_)
    · replace h := h.1 c9
      refine mx_aload_nR d_LBText_readExpression_20 rfl 0 rfl ?_
      refine mx_iload_n d_LBText_readExpression_21 rfl 1 rfl ?_
      refine mx_iload_n d_LBText_readExpression_22 rfl 2 rfl ?_
      obtain ⟨⟨fs14, e1_⟩, h⟩ := h
      refine mx_invV (Y := mm_LBText_readKind) (As := [.int l1, .int l2]) (rest := []) d_LBText_readExpression_23.1 ok_LBText_readKind kw_106 kw_107 kw_108 rfl rfl (Nat.le_of_ble_eq_true rfl) (Nat.le_of_ble_eq_true rfl) e1_ (q := mx_cl0_1) rfl rfl h (fun r3 hs4 h => ?_)
      obtain ⟨x5, e9_, h⟩ := h
      subst e9_
      show mx_Ok mx_S0 l G (d + 1) mm_LBText_readExpression 26 [(0, .ref l0), (1, .int l1), (2, .int l2)] [.int x5] hs4 Q
      refine mx_istore_n (lv2 := [(3, .int x5), (0, .ref l0), (1, .int l1), (2, .int l2)]) d_LBText_readExpression_26 rfl (Nat.le_of_ble_eq_true rfl) rfl ?_
      refine mx_aload_nR d_LBText_readExpression_27 rfl 1 rfl ?_
      obtain ⟨a7, ⟨fs6, e1_, e2_⟩, h⟩ := h
      refine mx_get d_LBText_readExpression_28 (ci := 1) (k := 1) (q := mx_cl0_1) rfl (Nat.le_of_ble_eq_true rfl) kw_95 e1_ e2_ ?_
      refine mx_iload_n d_LBText_readExpression_31 rfl 2 rfl ?_
      refine mx_iload_n d_LBText_readExpression_32 rfl 0 rfl ?_
      obtain ⟨vs8, e1_, e2_, e3_, h⟩ := h
      refine mx_iast d_LBText_readExpression_33 (k := 100) rfl (by decide) (by omega) e1_ e2_ e3_ ?_
      obtain ⟨hs9, hg_⟩ : ∃ x_, x_ = mx_st hs4 a7 (100, vs8.set (Int32.toNatClampNeg l1) (.int x5)) := ⟨_, rfl⟩
      replace h := h hs9 hg_
      rw [← hg_]
      clear hg_
      refine mx_aload_nR d_LBText_readExpression_34 rfl 1 rfl ?_
      refine mx_aload_nR d_LBText_readExpression_35 rfl 1 rfl ?_
      obtain ⟨x11, ⟨fs10, e1_, e2_⟩, h⟩ := h
      refine mx_get d_LBText_readExpression_36 (ci := 1) (k := 3) (q := mx_cl0_1) rfl (Nat.le_of_ble_eq_true rfl) kw_100 e1_ e2_ ?_
      refine mx_iload_n d_LBText_readExpression_39 rfl 3 rfl ?_
      refine mx_mmax d_LBText_readExpression_40 kw_105 k_mmax1 k_mmax2 k_mmax3 (Nat.le_of_ble_eq_true rfl) ?_
      obtain ⟨fs12, e1_, h⟩ := h
      refine mx_put d_LBText_readExpression_43 (ci := 1) (k := 3) (q := mx_cl0_1) (ty := .int) rfl (Nat.le_of_ble_eq_true rfl) kw_100 rfl (by decide +kernel) rfl rfl (by omega) e1_ ?_
      obtain ⟨hs13, hg_⟩ : ∃ x_, x_ = mx_st hs9 l0 (1, fs12.set 3 (.int (if x11 < l2 then l2 else x11))) := ⟨_, rfl⟩
      replace h := h hs13 hg_
      rw [← hg_]
      clear hg_
      refine mx_iload_n d_LBText_readExpression_46 rfl 0 rfl ?_
      exact mx_ireturn d_LBText_readExpression_47 rfl rfl h
    · replace h := h.2 c9
      exact mx_sub [0, 1] rfl h
set_option maxRecDepth 100000 in
theorem wp_LBText_readExpression_14 {l : Launch} {G : mx_G} {d : Nat} {hs : mx_H} {Q : Option Value → mx_H → Prop} (l0 : Nat) (l1 : Int32) (h : ((∃ fs4 : List Value, hs.1 l0 = some (1, fs4)) ∧ mx_C mx_S0 l G d mm_LBText_badAt [.ref l0, .int l1] hs (fun (r1 : Option Value) (hs2 : mx_H) => ∃ x3 : Int32, r1 = some (.int x3) ∧ Q (some (.int x3)) hs2))) : mx_Ok mx_S0 l G (d + 1) mm_LBText_readExpression 14 [(0, .ref l0), (1, .int l1)] [] hs Q := by
  refine mx_aload_nR d_LBText_readExpression_14 rfl 0 rfl ?_
  refine mx_iload_n d_LBText_readExpression_15 rfl 1 rfl ?_
  obtain ⟨⟨fs4, e1_⟩, h⟩ := h
  refine mx_invV (Y := mm_LBText_badAt) (As := [.int l1]) (rest := []) d_LBText_readExpression_16.1 ok_LBText_badAt kw_109 kw_110 kw_111 rfl rfl (Nat.le_of_ble_eq_true rfl) (Nat.le_of_ble_eq_true rfl) e1_ (q := mx_cl0_1) rfl rfl h (fun r1 hs2 h => ?_)
  obtain ⟨x3, e9_, h⟩ := h
  subst e9_
  show mx_Ok mx_S0 l G (d + 1) mm_LBText_readExpression 19 [(0, .ref l0), (1, .int l1)] [.int x3] hs2 Q
  exact mx_ireturn d_LBText_readExpression_19 rfl rfl h
set_option maxRecDepth 100000 in
theorem wp_LBText_readKind_0 {l : Launch} {G : mx_G} {d : Nat} {hs : mx_H} {Q : Option Value → mx_H → Prop} (l0 : Nat) (l1 : Int32) (l2 : Int32) (h : ((∃ fs17 : List Value, hs.1 l0 = some (1, fs17)) ∧ mx_C mx_S0 l G d mm_LBText_codeAt [.ref l0, .int l1] hs (fun (r1 : Option Value) (hs2 : mx_H) => ∃ x3 : Int32, r1 = some (.int x3) ∧ mx_C mx_S0 l G d mm_LB_isDigit [.int x3] hs2 (fun (r4 : Option Value) (hs5 : mx_H) => ∃ x6 : Int32, r4 = some (.int x6) ∧ ((¬ x6 = 0 → mx_Ok mx_S0 l G (d + 1) mm_LBText_readKind 20 [(1, .int l1)] [] hs5 Q) ∧ (¬ (¬ x6 = 0) → mx_C mx_S0 l G d mm_LB_isLetter [.int x3] hs5 (fun (r7 : Option Value) (hs8 : mx_H) => ∃ x9 : Int32, r7 = some (.int x9) ∧ ((x9 = 0 → ((¬ x3 = 68 → mx_C mx_S0 l G d mm_LB_partsAfter [.int x3] hs8 (fun (r10 : Option Value) (hs11 : mx_H) => ∃ x12 : Int32, r10 = some (.int x12) ∧ ((x12 = 0 → mx_Ok mx_S0 l G (d + 1) mm_LBText_readKind 54 [(0, .ref l0), (1, .int l1)] [] hs11 Q) ∧ (¬ (x12 = 0) → ((l2 < 8 → mx_Ok mx_S0 l G (d + 1) mm_LBText_readKind 68 [(0, .ref l0), (2, .int l2), (4, .int x12), (5, .int (l1 + 1)), (6, .int 0)] [] hs11 Q) ∧ (¬ (l2 < 8) → mx_Ok mx_S0 l G (d + 1) mm_LBText_readKind 54 [(0, .ref l0), (1, .int l1)] [] hs11 Q)))))) ∧ (¬ (¬ x3 = 68) → ((∃ fs16 : List Value, hs8.1 l0 = some (1, fs16)) ∧ mx_C mx_S0 l G d mm_LBText_readPlan [.ref l0, .int l1, .int l2] hs8 (fun (r13 : Option Value) (hs14 : mx_H) => ∃ x15 : Int32, r13 = some (.int x15) ∧ Q (some (.int x15)) hs14))))) ∧ (¬ (x9 = 0) → mx_Ok mx_S0 l G (d + 1) mm_LBText_readKind 20 [(1, .int l1)] [] hs8 Q))))))))) : mx_Ok mx_S0 l G (d + 1) mm_LBText_readKind 0 [(0, .ref l0), (1, .int l1), (2, .int l2)] [] hs Q := by
  refine mx_aload_nR d_LBText_readKind_0 rfl 0 rfl ?_
  refine mx_iload_n d_LBText_readKind_1 rfl 1 rfl ?_
  obtain ⟨⟨fs17, e1_⟩, h⟩ := h
  refine mx_invV (Y := mm_LBText_codeAt) (As := [.int l1]) (rest := []) d_LBText_readKind_2.1 ok_LBText_codeAt kw_118 kw_119 kw_120 rfl rfl (Nat.le_of_ble_eq_true rfl) (Nat.le_of_ble_eq_true rfl) e1_ (q := mx_cl0_1) rfl rfl h (fun r1 hs2 h => ?_)
  obtain ⟨x3, e9_, h⟩ := h
  subst e9_
  show mx_Ok mx_S0 l G (d + 1) mm_LBText_readKind 5 [(0, .ref l0), (1, .int l1), (2, .int l2)] [.int x3] hs2 Q
  refine mx_istore_n (lv2 := [(3, .int x3), (0, .ref l0), (1, .int l1), (2, .int l2)]) d_LBText_readKind_5 rfl (Nat.le_of_ble_eq_true rfl) rfl ?_
  refine mx_iload_n d_LBText_readKind_6 rfl 0 rfl ?_
  refine mx_invSN (Y := mm_LB_isDigit) (As := [.int x3]) (rest := []) d_LBText_readKind_7.1 ok_LB_isDigit kn_2 kw_117 rfl rfl (Nat.le_of_ble_eq_true rfl) (Nat.le_of_ble_eq_true rfl) h (fun r4 hs5 h => ?_)
  obtain ⟨x6, e9_, h⟩ := h
  subst e9_
  show mx_Ok mx_S0 l G (d + 1) mm_LBText_readKind 10 [(3, .int x3), (0, .ref l0), (1, .int l1), (2, .int l2)] [.int x6] hs5 Q
  refine mx_if_ne d_LBText_readKind_10 (fun c9 => ?_) (fun c9 => ?_)
  · replace h := h.1 c9
    exact mx_sub [2] rfl h
  · replace h := h.2 c9
    refine mx_iload_n d_LBText_readKind_13 rfl 0 rfl ?_
    refine mx_invSN (Y := mm_LB_isLetter) (As := [.int x3]) (rest := []) d_LBText_readKind_14.1 ok_LB_isLetter kn_1 kw_116 rfl rfl (Nat.le_of_ble_eq_true rfl) (Nat.le_of_ble_eq_true rfl) h (fun r7 hs8 h => ?_)
    obtain ⟨x9, e9_, h⟩ := h
    subst e9_
    show mx_Ok mx_S0 l G (d + 1) mm_LBText_readKind 17 [(3, .int x3), (0, .ref l0), (1, .int l1), (2, .int l2)] [.int x9] hs8 Q
    refine mx_if_eq d_LBText_readKind_17 (fun c9 => ?_) (fun c9 => ?_)
    · replace h := h.1 c9
      refine mx_iload_n d_LBText_readKind_24 rfl 0 rfl ?_
      refine mx_bipush (v := 68) d_LBText_readKind_25 (by decide) ?_
      refine mx_icmp_ne d_LBText_readKind_27 (fun c9 => ?_) (fun c9 => ?_)
      · replace h := h.1 c9
        refine mx_iload_n d_LBText_readKind_37 rfl 0 rfl ?_
        refine mx_invSN (Y := mm_LB_partsAfter) (As := [.int x3]) (rest := []) d_LBText_readKind_38.1 ok_LB_partsAfter kn_0 kw_112 rfl rfl (Nat.le_of_ble_eq_true rfl) (Nat.le_of_ble_eq_true rfl) h (fun r10 hs11 h => ?_)
        obtain ⟨x12, e9_, h⟩ := h
        subst e9_
        show mx_Ok mx_S0 l G (d + 1) mm_LBText_readKind 41 [(3, .int x3), (0, .ref l0), (1, .int l1), (2, .int l2)] [.int x12] hs11 Q
        refine mx_istore (lv2 := [(4, .int x12), (3, .int x3), (0, .ref l0), (1, .int l1), (2, .int l2)]) d_LBText_readKind_41 (Nat.le_of_ble_eq_true rfl) rfl ?_
        refine mx_iload d_LBText_readKind_43 0 rfl ?_
        refine mx_if_eq d_LBText_readKind_45 (fun c9 => ?_) (fun c9 => ?_)
        · replace h := h.1 c9
          exact mx_sub [2, 3] rfl h
        · replace h := h.2 c9
          refine mx_iload_n d_LBText_readKind_48 rfl 4 rfl ?_
          refine mx_bipush (v := 8) d_LBText_readKind_49 (by decide) ?_
          refine mx_icmp_lt d_LBText_readKind_51 (fun c9 => ?_) (fun c9 => ?_)
          · replace h := h.1 c9
            refine mx_iload_n d_LBText_readKind_60 rfl 3 rfl ?_
            refine mx_iconst (v := 1) d_LBText_readKind_61 (by decide) ?_
            refine mx_iadd d_LBText_readKind_62 ?_
            refine mx_istore (lv2 := [(5, .int (l1 + 1)), (4, .int x12), (3, .int x3), (0, .ref l0), (1, .int l1), (2, .int l2)]) d_LBText_readKind_63 (Nat.le_of_ble_eq_true rfl) rfl ?_
            refine mx_iconst (v := 0) d_LBText_readKind_65 (by decide) ?_
            refine mx_istore (lv2 := [(6, .int 0), (5, .int (l1 + 1)), (4, .int x12), (3, .int x3), (0, .ref l0), (1, .int l1), (2, .int l2)]) d_LBText_readKind_66 (Nat.le_of_ble_eq_true rfl) rfl ?_
            exact mx_sub [4, 6, 2, 1, 0] rfl h
          · replace h := h.2 c9
            exact mx_sub [2, 3] rfl h
      · replace h := h.2 c9
        refine mx_aload_nR d_LBText_readKind_30 rfl 1 rfl ?_
        refine mx_iload_n d_LBText_readKind_31 rfl 2 rfl ?_
        refine mx_iload_n d_LBText_readKind_32 rfl 3 rfl ?_
        obtain ⟨⟨fs16, e1_⟩, h⟩ := h
        refine mx_invV (Y := mm_LBText_readPlan) (As := [.int l1, .int l2]) (rest := []) d_LBText_readKind_33.1 ok_LBText_readPlan kw_113 kw_114 kw_115 rfl rfl (Nat.le_of_ble_eq_true rfl) (Nat.le_of_ble_eq_true rfl) e1_ (q := mx_cl0_1) rfl rfl h (fun r13 hs14 h => ?_)
        obtain ⟨x15, e9_, h⟩ := h
        subst e9_
        show mx_Ok mx_S0 l G (d + 1) mm_LBText_readKind 36 [(3, .int x3), (0, .ref l0), (1, .int l1), (2, .int l2)] [.int x15] hs14 Q
        exact mx_ireturn d_LBText_readKind_36 rfl rfl h
    · replace h := h.2 c9
      exact mx_sub [2] rfl h
set_option maxRecDepth 100000 in
theorem wp_LBText_readKind_20 {l : Launch} {G : mx_G} {d : Nat} {hs : mx_H} {Q : Option Value → mx_H → Prop} (l1 : Int32) (h : Q (some (.int (l1 + 1))) hs) : mx_Ok mx_S0 l G (d + 1) mm_LBText_readKind 20 [(1, .int l1)] [] hs Q := by
  refine mx_iload_n d_LBText_readKind_20 rfl 0 rfl ?_
  refine mx_iconst (v := 1) d_LBText_readKind_21 (by decide) ?_
  refine mx_iadd d_LBText_readKind_22 ?_
  exact mx_ireturn d_LBText_readKind_23 rfl rfl h
set_option maxRecDepth 100000 in
theorem wp_LBText_readKind_54 {l : Launch} {G : mx_G} {d : Nat} {hs : mx_H} {Q : Option Value → mx_H → Prop} (l0 : Nat) (l1 : Int32) (h : ((∃ fs4 : List Value, hs.1 l0 = some (1, fs4)) ∧ mx_C mx_S0 l G d mm_LBText_badAt [.ref l0, .int l1] hs (fun (r1 : Option Value) (hs2 : mx_H) => ∃ x3 : Int32, r1 = some (.int x3) ∧ Q (some (.int x3)) hs2))) : mx_Ok mx_S0 l G (d + 1) mm_LBText_readKind 54 [(0, .ref l0), (1, .int l1)] [] hs Q := by
  refine mx_aload_nR d_LBText_readKind_54 rfl 0 rfl ?_
  refine mx_iload_n d_LBText_readKind_55 rfl 1 rfl ?_
  obtain ⟨⟨fs4, e1_⟩, h⟩ := h
  refine mx_invV (Y := mm_LBText_badAt) (As := [.int l1]) (rest := []) d_LBText_readKind_56.1 ok_LBText_badAt kw_109 kw_110 kw_111 rfl rfl (Nat.le_of_ble_eq_true rfl) (Nat.le_of_ble_eq_true rfl) e1_ (q := mx_cl0_1) rfl rfl h (fun r1 hs2 h => ?_)
  obtain ⟨x3, e9_, h⟩ := h
  subst e9_
  show mx_Ok mx_S0 l G (d + 1) mm_LBText_readKind 59 [(0, .ref l0), (1, .int l1)] [.int x3] hs2 Q
  exact mx_ireturn d_LBText_readKind_59 rfl rfl h
set_option maxRecDepth 100000 in
theorem wp_LBText_readKind_68 {l : Launch} {G : mx_G} {d : Nat} {hs : mx_H} {Q : Option Value → mx_H → Prop} (l0 : Nat) (l2 : Int32) (l4 : Int32) (l5 : Int32) (l6 : Int32) (h : ((l4 ≤ l6 → Q (some (.int l5)) hs) ∧ (¬ (l4 ≤ l6) → ((l5 = (-1) → Q (some (.int l5)) hs) ∧ (¬ (l5 = (-1)) → ((∃ fs4 : List Value, hs.1 l0 = some (1, fs4)) ∧ mx_C mx_S0 l G d mm_LBText_readExpression [.ref l0, .int l5, .int (l2 + 1)] hs (fun (r1 : Option Value) (hs2 : mx_H) => ∃ x3 : Int32, r1 = some (.int x3) ∧ mx_Ok mx_S0 l G (d + 1) mm_LBText_readKind 68 [(0, .ref l0), (2, .int l2), (4, .int l4), (5, .int x3), (6, .int (l6 + 1))] [] hs2 Q))))))) : mx_Ok mx_S0 l G (d + 1) mm_LBText_readKind 68 [(0, .ref l0), (2, .int l2), (4, .int l4), (5, .int l5), (6, .int l6)] [] hs Q := by
  refine mx_iload d_LBText_readKind_68 4 rfl ?_
  refine mx_iload d_LBText_readKind_70 2 rfl ?_
  refine mx_icmp_ge d_LBText_readKind_72 (fun c9 => ?_) (fun c9 => ?_)
  · replace h := h.1 c9
    refine mx_iload d_LBText_readKind_98 3 rfl ?_
    exact mx_ireturn d_LBText_readKind_100 rfl rfl h
  · replace h := h.2 c9
    refine mx_iload d_LBText_readKind_75 3 rfl ?_
    refine mx_iconst (v := -1) d_LBText_readKind_77 (by decide) ?_
    refine mx_icmp_eq d_LBText_readKind_78 (fun c9 => ?_) (fun c9 => ?_)
    · replace h := h.1 c9
      refine mx_iload d_LBText_readKind_98 3 rfl ?_
      exact mx_ireturn d_LBText_readKind_100 rfl rfl h
    · replace h := h.2 c9
      refine mx_aload_nR d_LBText_readKind_81 rfl 0 rfl ?_
      refine mx_iload d_LBText_readKind_82 3 rfl ?_
      refine mx_iload_n d_LBText_readKind_84 rfl 1 rfl ?_
      refine mx_iconst (v := 1) d_LBText_readKind_85 (by decide) ?_
      refine mx_iadd d_LBText_readKind_86 ?_
      obtain ⟨⟨fs4, e1_⟩, h⟩ := h
      refine mx_invV (Y := mm_LBText_readExpression) (As := [.int l5, .int (l2 + 1)]) (rest := []) d_LBText_readKind_87.1 ok_LBText_readExpression kw_102 kw_103 kw_104 rfl rfl (Nat.le_of_ble_eq_true rfl) (Nat.le_of_ble_eq_true rfl) e1_ (q := mx_cl0_1) rfl rfl h (fun r1 hs2 h => ?_)
      obtain ⟨x3, e9_, h⟩ := h
      subst e9_
      show mx_Ok mx_S0 l G (d + 1) mm_LBText_readKind 90 [(0, .ref l0), (2, .int l2), (4, .int l4), (5, .int l5), (6, .int l6)] [.int x3] hs2 Q
      refine mx_istore (lv2 := [(5, .int x3), (0, .ref l0), (2, .int l2), (4, .int l4), (6, .int l6)]) d_LBText_readKind_90 (Nat.le_of_ble_eq_true rfl) rfl ?_
      refine mx_iinc (v := l6 + 1) (lv2 := [(6, .int (l6 + 1)), (5, .int x3), (0, .ref l0), (2, .int l2), (4, .int l4)]) d_LBText_readKind_92 4 rfl (by rfl) (Nat.le_of_ble_eq_true rfl) rfl ?_
      refine mx_goto d_LBText_readKind_95 ?_
      exact mx_sub [2, 3, 4, 1, 0] rfl h
set_option maxRecDepth 100000 in
theorem wp_LBText_readPlan_0 {l : Launch} {G : mx_G} {d : Nat} {hs : mx_H} {Q : Option Value → mx_H → Prop} (l0 : Nat) (l1 : Int32) (l2 : Int32) (h : ((∃ fs19 : List Value, hs.1 l0 = some (1, fs19)) ∧ mx_C mx_S0 l G d mm_LBText_codeAt [.ref l0, .int (l1 + 1)] hs (fun (r1 : Option Value) (hs2 : mx_H) => ∃ x3 : Int32, r1 = some (.int x3) ∧ mx_C mx_S0 l G d mm_LB_isDigit [.int x3] hs2 (fun (r4 : Option Value) (hs5 : mx_H) => ∃ x6 : Int32, r4 = some (.int x6) ∧ ((¬ x6 = 0 → ((∃ fs14 : List Value, hs5.1 l0 = some (1, fs14)) ∧ mx_C mx_S0 l G d mm_LBText_codeAt [.ref l0, .int (l1 + 2)] hs5 (fun (r7 : Option Value) (hs8 : mx_H) => ∃ x9 : Int32, r7 = some (.int x9) ∧ ((x9 = 40 → mx_Ok mx_S0 l G (d + 1) mm_LBText_readPlan 48 [(0, .ref l0), (2, .int l2), (3, .int (l1 + 3)), (4, .int 0)] [] hs8 Q) ∧ (¬ (x9 = 40) → ((∃ fs13 : List Value, hs8.1 l0 = some (1, fs13)) ∧ mx_C mx_S0 l G d mm_LBText_badAt [.ref l0, .int (l1 + 2)] hs8 (fun (r10 : Option Value) (hs11 : mx_H) => ∃ x12 : Int32, r10 = some (.int x12) ∧ Q (some (.int x12)) hs11))))))) ∧ (¬ (¬ x6 = 0) → ((∃ fs18 : List Value, hs5.1 l0 = some (1, fs18)) ∧ mx_C mx_S0 l G d mm_LBText_badAt [.ref l0, .int (l1 + 1)] hs5 (fun (r15 : Option Value) (hs16 : mx_H) => ∃ x17 : Int32, r15 = some (.int x17) ∧ Q (some (.int x17)) hs16)))))))) : mx_Ok mx_S0 l G (d + 1) mm_LBText_readPlan 0 [(0, .ref l0), (1, .int l1), (2, .int l2)] [] hs Q := by
  refine mx_aload_nR d_LBText_readPlan_0 rfl 0 rfl ?_
  refine mx_iload_n d_LBText_readPlan_1 rfl 1 rfl ?_
  refine mx_iconst (v := 1) d_LBText_readPlan_2 (by decide) ?_
  refine mx_iadd d_LBText_readPlan_3 ?_
  obtain ⟨⟨fs19, e1_⟩, h⟩ := h
  refine mx_invV (Y := mm_LBText_codeAt) (As := [.int (l1 + 1)]) (rest := []) d_LBText_readPlan_4.1 ok_LBText_codeAt kw_118 kw_119 kw_120 rfl rfl (Nat.le_of_ble_eq_true rfl) (Nat.le_of_ble_eq_true rfl) e1_ (q := mx_cl0_1) rfl rfl h (fun r1 hs2 h => ?_)
  obtain ⟨x3, e9_, h⟩ := h
  subst e9_
  show mx_Ok mx_S0 l G (d + 1) mm_LBText_readPlan 7 [(0, .ref l0), (1, .int l1), (2, .int l2)] [.int x3] hs2 Q
  refine mx_invSN (Y := mm_LB_isDigit) (As := [.int x3]) (rest := []) d_LBText_readPlan_7.1 ok_LB_isDigit kn_2 kw_117 rfl rfl (Nat.le_of_ble_eq_true rfl) (Nat.le_of_ble_eq_true rfl) h (fun r4 hs5 h => ?_)
  obtain ⟨x6, e9_, h⟩ := h
  subst e9_
  show mx_Ok mx_S0 l G (d + 1) mm_LBText_readPlan 10 [(0, .ref l0), (1, .int l1), (2, .int l2)] [.int x6] hs5 Q
  refine mx_if_ne d_LBText_readPlan_10 (fun c9 => ?_) (fun c9 => ?_)
  · replace h := h.1 c9
    refine mx_aload_nR d_LBText_readPlan_21 rfl 0 rfl ?_
    refine mx_iload_n d_LBText_readPlan_22 rfl 1 rfl ?_
    refine mx_iconst (v := 2) d_LBText_readPlan_23 (by decide) ?_
    refine mx_iadd d_LBText_readPlan_24 ?_
    obtain ⟨⟨fs14, e1_⟩, h⟩ := h
    refine mx_invV (Y := mm_LBText_codeAt) (As := [.int (l1 + 2)]) (rest := []) d_LBText_readPlan_25.1 ok_LBText_codeAt kw_118 kw_119 kw_120 rfl rfl (Nat.le_of_ble_eq_true rfl) (Nat.le_of_ble_eq_true rfl) e1_ (q := mx_cl0_1) rfl rfl h (fun r7 hs8 h => ?_)
    obtain ⟨x9, e9_, h⟩ := h
    subst e9_
    show mx_Ok mx_S0 l G (d + 1) mm_LBText_readPlan 28 [(0, .ref l0), (1, .int l1), (2, .int l2)] [.int x9] hs8 Q
    refine mx_bipush (v := 40) d_LBText_readPlan_28 (by decide) ?_
    refine mx_icmp_eq d_LBText_readPlan_30 (fun c9 => ?_) (fun c9 => ?_)
    · replace h := h.1 c9
      refine mx_iload_n d_LBText_readPlan_41 rfl 1 rfl ?_
      refine mx_iconst (v := 3) d_LBText_readPlan_42 (by decide) ?_
      refine mx_iadd d_LBText_readPlan_43 ?_
      refine mx_istore_n (lv2 := [(3, .int (l1 + 3)), (0, .ref l0), (1, .int l1), (2, .int l2)]) d_LBText_readPlan_44 rfl (Nat.le_of_ble_eq_true rfl) rfl ?_
      refine mx_iconst (v := 0) d_LBText_readPlan_45 (by decide) ?_
      refine mx_istore (lv2 := [(4, .int 0), (3, .int (l1 + 3)), (0, .ref l0), (1, .int l1), (2, .int l2)]) d_LBText_readPlan_46 (Nat.le_of_ble_eq_true rfl) rfl ?_
      exact mx_sub [2, 4, 1, 0] rfl h
    · replace h := h.2 c9
      refine mx_aload_nR d_LBText_readPlan_33 rfl 0 rfl ?_
      refine mx_iload_n d_LBText_readPlan_34 rfl 1 rfl ?_
      refine mx_iconst (v := 2) d_LBText_readPlan_35 (by decide) ?_
      refine mx_iadd d_LBText_readPlan_36 ?_
      obtain ⟨⟨fs13, e1_⟩, h⟩ := h
      refine mx_invV (Y := mm_LBText_badAt) (As := [.int (l1 + 2)]) (rest := []) d_LBText_readPlan_37.1 ok_LBText_badAt kw_109 kw_110 kw_111 rfl rfl (Nat.le_of_ble_eq_true rfl) (Nat.le_of_ble_eq_true rfl) e1_ (q := mx_cl0_1) rfl rfl h (fun r10 hs11 h => ?_)
      obtain ⟨x12, e9_, h⟩ := h
      subst e9_
      show mx_Ok mx_S0 l G (d + 1) mm_LBText_readPlan 40 [(0, .ref l0), (1, .int l1), (2, .int l2)] [.int x12] hs11 Q
      exact mx_ireturn d_LBText_readPlan_40 rfl rfl h
  · replace h := h.2 c9
    refine mx_aload_nR d_LBText_readPlan_13 rfl 0 rfl ?_
    refine mx_iload_n d_LBText_readPlan_14 rfl 1 rfl ?_
    refine mx_iconst (v := 1) d_LBText_readPlan_15 (by decide) ?_
    refine mx_iadd d_LBText_readPlan_16 ?_
    obtain ⟨⟨fs18, e1_⟩, h⟩ := h
    refine mx_invV (Y := mm_LBText_badAt) (As := [.int (l1 + 1)]) (rest := []) d_LBText_readPlan_17.1 ok_LBText_badAt kw_109 kw_110 kw_111 rfl rfl (Nat.le_of_ble_eq_true rfl) (Nat.le_of_ble_eq_true rfl) e1_ (q := mx_cl0_1) rfl rfl h (fun r15 hs16 h => ?_)
    obtain ⟨x17, e9_, h⟩ := h
    subst e9_
    show mx_Ok mx_S0 l G (d + 1) mm_LBText_readPlan 20 [(0, .ref l0), (1, .int l1), (2, .int l2)] [.int x17] hs16 Q
    exact mx_ireturn d_LBText_readPlan_20 rfl rfl h
set_option maxRecDepth 100000 in
theorem wp_LBText_readPlan_48 {l : Launch} {G : mx_G} {d : Nat} {hs : mx_H} {Q : Option Value → mx_H → Prop} (l0 : Nat) (l2 : Int32) (l3 : Int32) (l4 : Int32) (h : ((4 ≤ l4 → mx_Ok mx_S0 l G (d + 1) mm_LBText_readPlan 86 [(0, .ref l0), (3, .int l3)] [] hs Q) ∧ (¬ (4 ≤ l4) → ((∃ fs8 : List Value, hs.1 l0 = some (1, fs8)) ∧ mx_C mx_S0 l G d mm_LBText_codeAt [.ref l0, .int l3] hs (fun (r1 : Option Value) (hs2 : mx_H) => ∃ x3 : Int32, r1 = some (.int x3) ∧ ((x3 = 41 → mx_Ok mx_S0 l G (d + 1) mm_LBText_readPlan 86 [(0, .ref l0), (3, .int l3)] [] hs2 Q) ∧ (¬ (x3 = 41) → ((∃ fs7 : List Value, hs2.1 l0 = some (1, fs7)) ∧ mx_C mx_S0 l G d mm_LBText_readExpression [.ref l0, .int l3, .int (l2 + 1)] hs2 (fun (r4 : Option Value) (hs5 : mx_H) => ∃ x6 : Int32, r4 = some (.int x6) ∧ ((¬ x6 = (-1) → mx_Ok mx_S0 l G (d + 1) mm_LBText_readPlan 48 [(0, .ref l0), (2, .int l2), (3, .int x6), (4, .int (l4 + 1))] [] hs5 Q) ∧ (¬ (¬ x6 = (-1)) → Q (some (.int (-1))) hs5))))))))))) : mx_Ok mx_S0 l G (d + 1) mm_LBText_readPlan 48 [(0, .ref l0), (2, .int l2), (3, .int l3), (4, .int l4)] [] hs Q := by
  refine mx_iload d_LBText_readPlan_48 3 rfl ?_
  refine mx_iconst (v := 4) d_LBText_readPlan_50 (by decide) ?_
  refine mx_icmp_ge d_LBText_readPlan_51 (fun c9 => ?_) (fun c9 => ?_)
  · replace h := h.1 c9
    exact mx_sub [0, 2] rfl h
  · replace h := h.2 c9
    refine mx_aload_nR d_LBText_readPlan_54 rfl 0 rfl ?_
    refine mx_iload_n d_LBText_readPlan_55 rfl 2 rfl ?_
    obtain ⟨⟨fs8, e1_⟩, h⟩ := h
    refine mx_invV (Y := mm_LBText_codeAt) (As := [.int l3]) (rest := []) d_LBText_readPlan_56.1 ok_LBText_codeAt kw_118 kw_119 kw_120 rfl rfl (Nat.le_of_ble_eq_true rfl) (Nat.le_of_ble_eq_true rfl) e1_ (q := mx_cl0_1) rfl rfl h (fun r1 hs2 h => ?_)
    obtain ⟨x3, e9_, h⟩ := h
    subst e9_
    show mx_Ok mx_S0 l G (d + 1) mm_LBText_readPlan 59 [(0, .ref l0), (2, .int l2), (3, .int l3), (4, .int l4)] [.int x3] hs2 Q
    refine mx_bipush (v := 41) d_LBText_readPlan_59 (by decide) ?_
    refine mx_icmp_eq d_LBText_readPlan_61 (fun c9 => ?_) (fun c9 => ?_)
    · replace h := h.1 c9
      exact mx_sub [0, 2] rfl h
    · replace h := h.2 c9
      refine mx_aload_nR d_LBText_readPlan_64 rfl 0 rfl ?_
      refine mx_iload_n d_LBText_readPlan_65 rfl 2 rfl ?_
      refine mx_iload_n d_LBText_readPlan_66 rfl 1 rfl ?_
      refine mx_iconst (v := 1) d_LBText_readPlan_67 (by decide) ?_
      refine mx_iadd d_LBText_readPlan_68 ?_
      obtain ⟨⟨fs7, e1_⟩, h⟩ := h
      refine mx_invV (Y := mm_LBText_readExpression) (As := [.int l3, .int (l2 + 1)]) (rest := []) d_LBText_readPlan_69.1 ok_LBText_readExpression kw_102 kw_103 kw_104 rfl rfl (Nat.le_of_ble_eq_true rfl) (Nat.le_of_ble_eq_true rfl) e1_ (q := mx_cl0_1) rfl rfl h (fun r4 hs5 h => ?_)
      obtain ⟨x6, e9_, h⟩ := h
      subst e9_
      show mx_Ok mx_S0 l G (d + 1) mm_LBText_readPlan 72 [(0, .ref l0), (2, .int l2), (3, .int l3), (4, .int l4)] [.int x6] hs5 Q
      refine mx_istore_n (lv2 := [(3, .int x6), (0, .ref l0), (2, .int l2), (4, .int l4)]) d_LBText_readPlan_72 rfl (Nat.le_of_ble_eq_true rfl) rfl ?_
      refine mx_iload_n d_LBText_readPlan_73 rfl 0 rfl ?_
      refine mx_iconst (v := -1) d_LBText_readPlan_74 (by decide) ?_
      refine mx_icmp_ne d_LBText_readPlan_75 (fun c9 => ?_) (fun c9 => ?_)
      · replace h := h.1 c9
        refine mx_iinc (v := l4 + 1) (lv2 := [(4, .int (l4 + 1)), (3, .int x6), (0, .ref l0), (2, .int l2)]) d_LBText_readPlan_80 3 rfl (by rfl) (Nat.le_of_ble_eq_true rfl) rfl ?_
        refine mx_goto d_LBText_readPlan_83 ?_
        exact mx_sub [2, 3, 1, 0] rfl h
      · replace h := h.2 c9
        refine mx_iconst (v := -1) d_LBText_readPlan_78 (by decide) ?_
        exact mx_ireturn d_LBText_readPlan_79 rfl rfl h
set_option maxRecDepth 100000 in
theorem wp_LBText_readPlan_86 {l : Launch} {G : mx_G} {d : Nat} {hs : mx_H} {Q : Option Value → mx_H → Prop} (l0 : Nat) (l3 : Int32) (h : ((∃ fs8 : List Value, hs.1 l0 = some (1, fs8)) ∧ mx_C mx_S0 l G d mm_LBText_codeAt [.ref l0, .int l3] hs (fun (r1 : Option Value) (hs2 : mx_H) => ∃ x3 : Int32, r1 = some (.int x3) ∧ ((¬ x3 = 41 → ((∃ fs7 : List Value, hs2.1 l0 = some (1, fs7)) ∧ mx_C mx_S0 l G d mm_LBText_badAt [.ref l0, .int l3] hs2 (fun (r4 : Option Value) (hs5 : mx_H) => ∃ x6 : Int32, r4 = some (.int x6) ∧ Q (some (.int x6)) hs5))) ∧ (¬ (¬ x3 = 41) → Q (some (.int (l3 + 1))) hs2))))) : mx_Ok mx_S0 l G (d + 1) mm_LBText_readPlan 86 [(0, .ref l0), (3, .int l3)] [] hs Q := by
  refine mx_aload_nR d_LBText_readPlan_86 rfl 0 rfl ?_
  refine mx_iload_n d_LBText_readPlan_87 rfl 1 rfl ?_
  obtain ⟨⟨fs8, e1_⟩, h⟩ := h
  refine mx_invV (Y := mm_LBText_codeAt) (As := [.int l3]) (rest := []) d_LBText_readPlan_88.1 ok_LBText_codeAt kw_118 kw_119 kw_120 rfl rfl (Nat.le_of_ble_eq_true rfl) (Nat.le_of_ble_eq_true rfl) e1_ (q := mx_cl0_1) rfl rfl h (fun r1 hs2 h => ?_)
  obtain ⟨x3, e9_, h⟩ := h
  subst e9_
  show mx_Ok mx_S0 l G (d + 1) mm_LBText_readPlan 91 [(0, .ref l0), (3, .int l3)] [.int x3] hs2 Q
  refine mx_bipush (v := 41) d_LBText_readPlan_91 (by decide) ?_
  refine mx_icmp_ne d_LBText_readPlan_93 (fun c9 => ?_) (fun c9 => ?_)
  · replace h := h.1 c9
    refine mx_aload_nR d_LBText_readPlan_102 rfl 0 rfl ?_
    refine mx_iload_n d_LBText_readPlan_103 rfl 1 rfl ?_
    obtain ⟨⟨fs7, e1_⟩, h⟩ := h
    refine mx_invV (Y := mm_LBText_badAt) (As := [.int l3]) (rest := []) d_LBText_readPlan_104.1 ok_LBText_badAt kw_109 kw_110 kw_111 rfl rfl (Nat.le_of_ble_eq_true rfl) (Nat.le_of_ble_eq_true rfl) e1_ (q := mx_cl0_1) rfl rfl h (fun r4 hs5 h => ?_)
    obtain ⟨x6, e9_, h⟩ := h
    subst e9_
    show mx_Ok mx_S0 l G (d + 1) mm_LBText_readPlan 107 [(0, .ref l0), (3, .int l3)] [.int x6] hs5 Q
    exact mx_ireturn d_LBText_readPlan_107 rfl rfl h
  · replace h := h.2 c9
    refine mx_iload_n d_LBText_readPlan_96 rfl 1 rfl ?_
    refine mx_iconst (v := 1) d_LBText_readPlan_97 (by decide) ?_
    refine mx_iadd d_LBText_readPlan_98 ?_
    refine mx_goto d_LBText_readPlan_99 ?_
    exact mx_ireturn d_LBText_readPlan_107 rfl rfl h
set_option maxRecDepth 100000 in
theorem wp_LBText_badAt_0 {l : Launch} {G : mx_G} {d : Nat} {hs : mx_H} {Q : Option Value → mx_H → Prop} (l0 : Nat) (l1 : Int32) (h : (∃ fs1 : List Value, hs.1 l0 = some (1, fs1) ∧ ∀ hs2 : mx_H, hs2 = mx_st hs l0 (1, fs1.set 4 (.int l1)) → Q (some (.int (-1))) hs2)) : mx_Ok mx_S0 l G (d + 1) mm_LBText_badAt 0 [(0, .ref l0), (1, .int l1)] [] hs Q := by
  refine mx_aload_nR d_LBText_badAt_0 rfl 0 rfl ?_
  refine mx_iload_n d_LBText_badAt_1 rfl 1 rfl ?_
  obtain ⟨fs1, e1_, h⟩ := h
  refine mx_put d_LBText_badAt_2 (ci := 1) (k := 4) (q := mx_cl0_1) (ty := .int) rfl (Nat.le_of_ble_eq_true rfl) kw_101 rfl (by decide +kernel) rfl rfl (by omega) e1_ ?_
  obtain ⟨hs2, hg_⟩ : ∃ x_, x_ = mx_st hs l0 (1, fs1.set 4 (.int l1)) := ⟨_, rfl⟩
  replace h := h hs2 hg_
  rw [← hg_]
  clear hg_
  refine mx_iconst (v := -1) d_LBText_badAt_5 (by decide) ?_
  exact mx_ireturn d_LBText_badAt_6 rfl rfl h
set_option maxRecDepth 100000 in
theorem wp_LBText_belongs_0 {l : Launch} {G : mx_G} {d : Nat} {hs : mx_H} {Q : Option Value → mx_H → Prop} (l0 : Int32) (h : mx_C mx_S0 l G d mm_LB_isDigit [.int l0] hs (fun (r1 : Option Value) (hs2 : mx_H) => ∃ x3 : Int32, r1 = some (.int x3) ∧ ((¬ x3 = 0 → mx_Ok mx_S0 l G (d + 1) mm_LBText_belongs 39 [] [] hs2 Q) ∧ (¬ (¬ x3 = 0) → mx_C mx_S0 l G d mm_LB_isLetter [.int l0] hs2 (fun (r4 : Option Value) (hs5 : mx_H) => ∃ x6 : Int32, r4 = some (.int x6) ∧ ((¬ x6 = 0 → mx_Ok mx_S0 l G (d + 1) mm_LBText_belongs 39 [] [] hs5 Q) ∧ (¬ (¬ x6 = 0) → mx_C mx_S0 l G d mm_LB_partsAfter [.int l0] hs5 (fun (r7 : Option Value) (hs8 : mx_H) => ∃ x9 : Int32, r7 = some (.int x9) ∧ ((0 < x9 → mx_Ok mx_S0 l G (d + 1) mm_LBText_belongs 39 [] [] hs8 Q) ∧ (¬ (0 < x9) → ((l0 = 68 → mx_Ok mx_S0 l G (d + 1) mm_LBText_belongs 39 [] [] hs8 Q) ∧ (¬ (l0 = 68) → ((l0 = 40 → mx_Ok mx_S0 l G (d + 1) mm_LBText_belongs 39 [] [] hs8 Q) ∧ (¬ (l0 = 40) → ((¬ l0 = 41 → Q (some (.int 0)) hs8) ∧ (¬ (¬ l0 = 41) → mx_Ok mx_S0 l G (d + 1) mm_LBText_belongs 39 [] [] hs8 Q)))))))))))))))) : mx_Ok mx_S0 l G (d + 1) mm_LBText_belongs 0 [(0, .int l0)] [] hs Q := by
  refine mx_iload_n d_LBText_belongs_0 rfl 0 rfl ?_
  refine mx_invSN (Y := mm_LB_isDigit) (As := [.int l0]) (rest := []) d_LBText_belongs_1.1 ok_LB_isDigit kn_2 kw_117 rfl rfl (Nat.le_of_ble_eq_true rfl) (Nat.le_of_ble_eq_true rfl) h (fun r1 hs2 h => ?_)
  obtain ⟨x3, e9_, h⟩ := h
  subst e9_
  show mx_Ok mx_S0 l G (d + 1) mm_LBText_belongs 4 [(0, .int l0)] [.int x3] hs2 Q
  refine mx_if_ne d_LBText_belongs_4 (fun c9 => ?_) (fun c9 => ?_)
  · replace h := h.1 c9
    exact mx_sub [] rfl h
  · replace h := h.2 c9
    refine mx_iload_n d_LBText_belongs_7 rfl 0 rfl ?_
    refine mx_invSN (Y := mm_LB_isLetter) (As := [.int l0]) (rest := []) d_LBText_belongs_8.1 ok_LB_isLetter kn_1 kw_116 rfl rfl (Nat.le_of_ble_eq_true rfl) (Nat.le_of_ble_eq_true rfl) h (fun r4 hs5 h => ?_)
    obtain ⟨x6, e9_, h⟩ := h
    subst e9_
    show mx_Ok mx_S0 l G (d + 1) mm_LBText_belongs 11 [(0, .int l0)] [.int x6] hs5 Q
    refine mx_if_ne d_LBText_belongs_11 (fun c9 => ?_) (fun c9 => ?_)
    · replace h := h.1 c9
      exact mx_sub [] rfl h
    · replace h := h.2 c9
      refine mx_iload_n d_LBText_belongs_14 rfl 0 rfl ?_
      refine mx_invSN (Y := mm_LB_partsAfter) (As := [.int l0]) (rest := []) d_LBText_belongs_15.1 ok_LB_partsAfter kn_0 kw_112 rfl rfl (Nat.le_of_ble_eq_true rfl) (Nat.le_of_ble_eq_true rfl) h (fun r7 hs8 h => ?_)
      obtain ⟨x9, e9_, h⟩ := h
      subst e9_
      show mx_Ok mx_S0 l G (d + 1) mm_LBText_belongs 18 [(0, .int l0)] [.int x9] hs8 Q
      refine mx_if_gt d_LBText_belongs_18 (fun c9 => ?_) (fun c9 => ?_)
      · replace h := h.1 c9
        exact mx_sub [] rfl h
      · replace h := h.2 c9
        refine mx_iload_n d_LBText_belongs_21 rfl 0 rfl ?_
        refine mx_bipush (v := 68) d_LBText_belongs_22 (by decide) ?_
        refine mx_icmp_eq d_LBText_belongs_24 (fun c9 => ?_) (fun c9 => ?_)
        · replace h := h.1 c9
          exact mx_sub [] rfl h
        · replace h := h.2 c9
          refine mx_iload_n d_LBText_belongs_27 rfl 0 rfl ?_
          refine mx_bipush (v := 40) d_LBText_belongs_28 (by decide) ?_
          refine mx_icmp_eq d_LBText_belongs_30 (fun c9 => ?_) (fun c9 => ?_)
          · replace h := h.1 c9
            exact mx_sub [] rfl h
          · replace h := h.2 c9
            refine mx_iload_n d_LBText_belongs_33 rfl 0 rfl ?_
            refine mx_bipush (v := 41) d_LBText_belongs_34 (by decide) ?_
            refine mx_icmp_ne d_LBText_belongs_36 (fun c9 => ?_) (fun c9 => ?_)
            · replace h := h.1 c9
              refine mx_iconst (v := 0) d_LBText_belongs_43 (by decide) ?_
              exact mx_ireturn d_LBText_belongs_44 rfl (mx_nz (Or.inl rfl)) h
            · replace h := h.2 c9
              exact mx_sub [] rfl h
set_option maxRecDepth 100000 in
theorem wp_LBText_belongs_39 {l : Launch} {G : mx_G} {d : Nat} {hs : mx_H} {Q : Option Value → mx_H → Prop}  (h : Q (some (.int 1)) hs) : mx_Ok mx_S0 l G (d + 1) mm_LBText_belongs 39 [] [] hs Q := by
  refine mx_iconst (v := 1) d_LBText_belongs_39 (by decide) ?_
  refine mx_goto d_LBText_belongs_40 ?_
  exact mx_ireturn d_LBText_belongs_44 rfl (mx_nz (Or.inr rfl)) h
set_option maxRecDepth 100000 in
theorem wp_LBName_init_0 {l : Launch} {G : mx_G} {d : Nat} {hs : mx_H} {Q : Option Value → mx_H → Prop} (l0 : Nat) (h : (∀ hs1 : mx_H, hs1 = mx_nw hs (1, [.null, .null, .int 0, .int 0, .int 0]) 5 → mx_C mx_S0 l G d mm_LBText_init [.ref hs.2.1] hs1 (fun (r2 : Option Value) (hs3 : mx_H) => r2 = none ∧ (∃ fs4 : List Value, hs3.1 l0 = some (2, fs4) ∧ ∀ hs5 : mx_H, hs5 = mx_st hs3 l0 (2, fs4.set 0 (.ref hs.2.1)) → (∃ fs6 : List Value, hs5.1 l0 = some (2, fs6) ∧ ∀ hs7 : mx_H, hs7 = mx_st hs5 l0 (2, fs6.set 3 (.long (-1000000000000))) → Q none hs7))))) : mx_Ok mx_S0 l G (d + 1) mm_LBName_init 0 [(0, .ref l0)] [] hs Q := by
  refine mx_aload_nR d_LBName_init_0 rfl 0 rfl ?_
  refine mx_objInit d_LBName_init_1 kw_121 kw_1 k_objcode (Nat.le_of_ble_eq_true rfl) ?_
  refine mx_aload_nR d_LBName_init_4 rfl 0 rfl ?_
  refine mx_new d_LBName_init_5 (ci := 1) (q := mx_cl0_1) (fs := [.null, .null, .int 0, .int 0, .int 0]) (n := 5) rfl kw_122 kw_3 kw_4 rfl rfl mdf_1 ?_
  obtain ⟨hs1, hg_⟩ : ∃ x_, x_ = mx_nw hs (1, [.null, .null, .int 0, .int 0, .int 0]) 5 := ⟨_, rfl⟩
  replace h := h hs1 hg_
  rw [← hg_]
  clear hg_
  refine mx_dup d_LBName_init_8 rfl ?_
  refine mx_invI (Y := mm_LBText_init) (As := []) (rest := [.ref hs.2.1, .ref l0]) rfl d_LBName_init_9.1 ok_LBText_init kw_126 kw_22 rfl rfl rfl (Nat.le_of_ble_eq_true rfl) (Nat.le_of_ble_eq_true rfl) h (fun r2 hs3 h => ?_)
  obtain ⟨e9_, h⟩ := h
  subst e9_
  show mx_Ok mx_S0 l G (d + 1) mm_LBName_init 12 [(0, .ref l0)] [.ref hs.2.1, .ref l0] hs3 Q
  obtain ⟨fs4, e1_, h⟩ := h
  refine mx_putF d_LBName_init_12 (ci := 2) (k := 0) (q := mx_cl0_2) (ty := (.object "LazyBuilder$Text")) rfl (Nat.le_of_ble_eq_true rfl) kw_123 rfl rfl rfl (by decide +kernel) rfl rfl (by omega) e1_ ?_
  obtain ⟨hs5, hg_⟩ : ∃ x_, x_ = mx_st hs3 l0 (2, fs4.set 0 (.ref hs.2.1)) := ⟨_, rfl⟩
  replace h := h hs5 hg_
  rw [← hg_]
  clear hg_
  refine mx_aload_nR d_LBName_init_15 rfl 0 rfl ?_
  refine mx_ldc2 (v := (-1000000000000)) d_LBName_init_16 kw_124 ?_
  obtain ⟨fs6, e1_, h⟩ := h
  refine mx_put d_LBName_init_19 (ci := 2) (k := 3) (q := mx_cl0_2) (ty := .long) rfl (Nat.le_of_ble_eq_true rfl) kw_125 rfl (by decide +kernel) rfl rfl (by omega) e1_ ?_
  obtain ⟨hs7, hg_⟩ : ∃ x_, x_ = mx_st hs5 l0 (2, fs6.set 3 (.long (-1000000000000))) := ⟨_, rfl⟩
  replace h := h hs7 hg_
  rw [← hg_]
  clear hg_
  exact mx_return d_LBName_init_22 rfl h
set_option maxRecDepth 100000 in
theorem wp_LBPlan_init_0 {l : Launch} {G : mx_G} {d : Nat} {hs : mx_H} {Q : Option Value → mx_H → Prop} (l0 : Nat) (l1 : Int32) (l2 : Nat) (h : (∃ fs1 : List Value, hs.1 l0 = some (3, fs1) ∧ ∀ hs2 : mx_H, hs2 = mx_st hs l0 (3, fs1.set 0 (.int l1)) → (∃ fs3 : List Value, hs2.1 l0 = some (3, fs3) ∧ ∀ hs4 : mx_H, hs4 = mx_st hs2 l0 (3, fs3.set 1 (.ref l2)) → Q none hs4))) : mx_Ok mx_S0 l G (d + 1) mm_LBPlan_init 0 [(0, .ref l0), (1, .int l1), (2, .ref l2)] [] hs Q := by
  refine mx_aload_nR d_LBPlan_init_0 rfl 0 rfl ?_
  refine mx_objInit d_LBPlan_init_1 kw_127 kw_1 k_objcode (Nat.le_of_ble_eq_true rfl) ?_
  refine mx_aload_nR d_LBPlan_init_4 rfl 0 rfl ?_
  refine mx_iload_n d_LBPlan_init_5 rfl 1 rfl ?_
  obtain ⟨fs1, e1_, h⟩ := h
  refine mx_putF d_LBPlan_init_6 (ci := 3) (k := 0) (q := mx_cl0_3) (ty := .int) rfl (Nat.le_of_ble_eq_true rfl) kw_128 rfl rfl rfl (by decide +kernel) rfl rfl (by omega) e1_ ?_
  obtain ⟨hs2, hg_⟩ : ∃ x_, x_ = mx_st hs l0 (3, fs1.set 0 (.int l1)) := ⟨_, rfl⟩
  replace h := h hs2 hg_
  rw [← hg_]
  clear hg_
  refine mx_aload_nR d_LBPlan_init_9 rfl 0 rfl ?_
  refine mx_aload_nR d_LBPlan_init_10 rfl 2 rfl ?_
  obtain ⟨fs3, e1_, h⟩ := h
  refine mx_putF d_LBPlan_init_11 (ci := 3) (k := 1) (q := mx_cl0_3) (ty := (.array .long)) rfl (Nat.le_of_ble_eq_true rfl) kw_129 rfl rfl rfl (by decide +kernel) rfl rfl (by omega) e1_ ?_
  obtain ⟨hs4, hg_⟩ : ∃ x_, x_ = mx_st hs2 l0 (3, fs3.set 1 (.ref l2)) := ⟨_, rfl⟩
  replace h := h hs4 hg_
  rw [← hg_]
  clear hg_
  exact mx_return d_LBPlan_init_14 rfl h
set_option maxRecDepth 100000 in
theorem wp_LBPlan_isAlike_0 {l : Launch} {G : mx_G} {d : Nat} {hs : mx_H} {Q : Option Value → mx_H → Prop} (l0 : Nat) (l1 : Int32) (l2 : Nat) (l3 : Int32) (l4 : Int32) (h : (∃ (x2 : Int32), mx_f hs l0 3 0 (.int x2) ∧ ((¬ x2 = l1 → Q (some (.int 0)) hs) ∧ (¬ (¬ x2 = l1) → (∃ (a4 : Nat), mx_f hs l0 3 1 (.ref a4) ∧ (∃ vs5 : List Value, hs.1 a4 = some (102, vs5) ∧ (((Int32.ofNat vs5.length) = l4 → mx_Ok mx_S0 l G (d + 1) mm_LBPlan_isAlike 23 [(0, .ref l0), (2, .ref l2), (3, .int l3), (4, .int l4), (5, .int 0)] [] hs Q) ∧ (¬ ((Int32.ofNat vs5.length) = l4) → Q (some (.int 0)) hs)))))))) : mx_Ok mx_S0 l G (d + 1) mm_LBPlan_isAlike 0 [(0, .ref l0), (1, .int l1), (2, .ref l2), (3, .int l3), (4, .int l4)] [] hs Q := by
  refine mx_aload_nR d_LBPlan_isAlike_0 rfl 0 rfl ?_
  obtain ⟨x2, ⟨fs1, e1_, e2_⟩, h⟩ := h
  refine mx_get d_LBPlan_isAlike_1 (ci := 3) (k := 0) (q := mx_cl0_3) rfl (Nat.le_of_ble_eq_true rfl) kw_128 e1_ e2_ ?_
  refine mx_iload_n d_LBPlan_isAlike_4 rfl 1 rfl ?_
  refine mx_icmp_ne d_LBPlan_isAlike_5 (fun c9 => ?_) (fun c9 => ?_)
  · replace h := h.1 c9
    refine mx_iconst (v := 0) d_LBPlan_isAlike_18 (by decide) ?_
    exact mx_ireturn d_LBPlan_isAlike_19 rfl (mx_nz (Or.inl rfl)) h
  · replace h := h.2 c9
    refine mx_aload_nR d_LBPlan_isAlike_8 rfl 0 rfl ?_
    obtain ⟨a4, ⟨fs3, e1_, e2_⟩, h⟩ := h
    refine mx_get d_LBPlan_isAlike_9 (ci := 3) (k := 1) (q := mx_cl0_3) rfl (Nat.le_of_ble_eq_true rfl) kw_129 e1_ e2_ ?_
    obtain ⟨vs5, e1_, h⟩ := h
    refine mx_alen d_LBPlan_isAlike_12 (k := 102) rfl e1_ ?_
    refine mx_iload d_LBPlan_isAlike_13 4 rfl ?_
    refine mx_icmp_eq d_LBPlan_isAlike_15 (fun c9 => ?_) (fun c9 => ?_)
    · replace h := h.1 c9
      refine mx_iconst (v := 0) d_LBPlan_isAlike_20 (by decide) ?_
      refine mx_istore (lv2 := [(5, .int 0), (0, .ref l0), (1, .int l1), (2, .ref l2), (3, .int l3), (4, .int l4)]) d_LBPlan_isAlike_21 (Nat.le_of_ble_eq_true rfl) rfl ?_
      exact mx_sub [1, 3, 4, 5, 0] rfl h
    · replace h := h.2 c9
      refine mx_iconst (v := 0) d_LBPlan_isAlike_18 (by decide) ?_
      exact mx_ireturn d_LBPlan_isAlike_19 rfl (mx_nz (Or.inl rfl)) h
set_option maxRecDepth 100000 in
theorem wp_LBPlan_isAlike_23 {l : Launch} {G : mx_G} {d : Nat} {hs : mx_H} {Q : Option Value → mx_H → Prop} (l0 : Nat) (l2 : Nat) (l3 : Int32) (l4 : Int32) (l5 : Int32) (h : ((l4 ≤ l5 → Q (some (.int 1)) hs) ∧ (¬ (l4 ≤ l5) → (∃ (a2 : Nat), mx_f hs l0 3 1 (.ref a2) ∧ (∃ (vs3 : List Value) (x4 : Int64), hs.1 a2 = some (102, vs3) ∧ ¬ l5 < 0 ∧ vs3[Int32.toNatClampNeg l5]? = some (.long x4) ∧ (∃ (vs5 : List Value) (x6 : Int64), hs.1 l2 = some (102, vs5) ∧ ¬ (l3 + l5) < 0 ∧ vs5[Int32.toNatClampNeg (l3 + l5)]? = some (.long x6) ∧ ((x4 = x6 → mx_Ok mx_S0 l G (d + 1) mm_LBPlan_isAlike 23 [(0, .ref l0), (2, .ref l2), (3, .int l3), (4, .int l4), (5, .int (l5 + 1))] [] hs Q) ∧ (¬ (x4 = x6) → Q (some (.int 0)) hs)))))))) : mx_Ok mx_S0 l G (d + 1) mm_LBPlan_isAlike 23 [(0, .ref l0), (2, .ref l2), (3, .int l3), (4, .int l4), (5, .int l5)] [] hs Q := by
  refine mx_iload d_LBPlan_isAlike_23 4 rfl ?_
  refine mx_iload d_LBPlan_isAlike_25 3 rfl ?_
  refine mx_icmp_ge d_LBPlan_isAlike_27 (fun c9 => ?_) (fun c9 => ?_)
  · replace h := h.1 c9
    refine mx_iconst (v := 1) d_LBPlan_isAlike_55 (by decide) ?_
    exact mx_ireturn d_LBPlan_isAlike_56 rfl (mx_nz (Or.inr rfl)) h
  · replace h := h.2 c9
    refine mx_aload_nR d_LBPlan_isAlike_30 rfl 0 rfl ?_
    obtain ⟨a2, ⟨fs1, e1_, e2_⟩, h⟩ := h
    refine mx_get d_LBPlan_isAlike_31 (ci := 3) (k := 1) (q := mx_cl0_3) rfl (Nat.le_of_ble_eq_true rfl) kw_129 e1_ e2_ ?_
    refine mx_iload d_LBPlan_isAlike_34 4 rfl ?_
    obtain ⟨vs3, x4, e1_, e2_, e3_, h⟩ := h
    refine mx_lald d_LBPlan_isAlike_36 (k := 102) rfl e1_ e2_ e3_ ?_
    refine mx_aload_nR d_LBPlan_isAlike_37 rfl 1 rfl ?_
    refine mx_iload_n d_LBPlan_isAlike_38 rfl 2 rfl ?_
    refine mx_iload d_LBPlan_isAlike_39 4 rfl ?_
    refine mx_iadd d_LBPlan_isAlike_41 ?_
    obtain ⟨vs5, x6, e1_, e2_, e3_, h⟩ := h
    refine mx_lald d_LBPlan_isAlike_42 (k := 102) rfl e1_ e2_ e3_ ?_
    refine mx_lcmp d_LBPlan_isAlike_43 ?_
    refine mx_if_eq d_LBPlan_isAlike_44 (fun c9 => ?_) (fun c9 => ?_)
    · replace h := h.1 ((lg_cmp_eq _ _).mp c9)
      refine mx_iinc (v := l5 + 1) (lv2 := [(5, .int (l5 + 1)), (0, .ref l0), (2, .ref l2), (3, .int l3), (4, .int l4)]) d_LBPlan_isAlike_49 4 rfl (by rfl) (Nat.le_of_ble_eq_true rfl) rfl ?_
      refine mx_goto d_LBPlan_isAlike_52 ?_
      exact mx_sub [1, 2, 3, 4, 0] rfl h
    · replace h := h.2 (fun z9 => c9 ((lg_cmp_eq _ _).mpr z9))
      refine mx_iconst (v := 0) d_LBPlan_isAlike_47 (by decide) ?_
      exact mx_ireturn d_LBPlan_isAlike_48 rfl (mx_nz (Or.inl rfl)) h
end
section
set_option maxRecDepth 100000 in
theorem wp_LBStore_init_0 {l : Launch} {G : mx_G} {d : Nat} {hs : mx_H} {Q : Option Value → mx_H → Prop} (l0 : Nat) (h : (∀ hs1 : mx_H, hs1 = mx_nw hs (113, List.replicate 30 (.null)) 30 → (∃ fs2 : List Value, hs1.1 l0 = some (4, fs2) ∧ ∀ hs3 : mx_H, hs3 = mx_st hs1 l0 (4, fs2.set 0 (.ref hs.2.1)) → (∀ hs4 : mx_H, hs4 = mx_nw hs3 (100, List.replicate 10 (.int 0)) 10 → (∃ fs5 : List Value, hs4.1 l0 = some (4, fs5) ∧ ∀ hs6 : mx_H, hs6 = mx_st hs4 l0 (4, fs5.set 1 (.ref hs3.2.1)) → Q none hs6))))) : mx_Ok mx_S0 l G (d + 1) mm_LBStore_init 0 [(0, .ref l0)] [] hs Q := by
  refine mx_aload_nR d_LBStore_init_0 rfl 0 rfl ?_
  refine mx_objInit d_LBStore_init_1 kw_130 kw_1 k_objcode (Nat.le_of_ble_eq_true rfl) ?_
  refine mx_aload_nR d_LBStore_init_4 rfl 0 rfl ?_
  refine mx_bipush (v := 30) d_LBStore_init_5 (by decide) ?_
  refine mx_anewa d_LBStore_init_7 (k := 113) (C := "LazyBuilder$Plan") (N := 30) rfl (by decide) kw_131 (by decide) (by decide) (by decide) (by decide) ?_
  obtain ⟨hs1, hg_⟩ : ∃ x_, x_ = mx_nw hs (113, List.replicate 30 (.null)) 30 := ⟨_, rfl⟩
  replace h := h hs1 hg_
  rw [← hg_]
  clear hg_
  obtain ⟨fs2, e1_, h⟩ := h
  refine mx_putF d_LBStore_init_10 (ci := 4) (k := 0) (q := mx_cl0_4) (ty := (.array (.object "LazyBuilder$Plan"))) rfl (Nat.le_of_ble_eq_true rfl) kw_132 rfl rfl rfl (by decide +kernel) rfl rfl (by omega) e1_ ?_
  obtain ⟨hs3, hg_⟩ : ∃ x_, x_ = mx_st hs1 l0 (4, fs2.set 0 (.ref hs.2.1)) := ⟨_, rfl⟩
  replace h := h hs3 hg_
  rw [← hg_]
  clear hg_
  refine mx_aload_nR d_LBStore_init_13 rfl 0 rfl ?_
  refine mx_bipush (v := 10) d_LBStore_init_14 (by decide) ?_
  refine mx_newa d_LBStore_init_16 (k := 100) (ty := .int) (dv := .int 0) (N := 10) rfl rfl rfl (by decide) kw_93 (by decide) (by decide) (by decide) ?_
  obtain ⟨hs4, hg_⟩ : ∃ x_, x_ = mx_nw hs3 (100, List.replicate 10 (.int 0)) 10 := ⟨_, rfl⟩
  replace h := h hs4 hg_
  rw [← hg_]
  clear hg_
  obtain ⟨fs5, e1_, h⟩ := h
  refine mx_putF d_LBStore_init_18 (ci := 4) (k := 1) (q := mx_cl0_4) (ty := (.array .int)) rfl (Nat.le_of_ble_eq_true rfl) kw_133 rfl rfl rfl (by decide +kernel) rfl rfl (by omega) e1_ ?_
  obtain ⟨hs6, hg_⟩ : ∃ x_, x_ = mx_st hs4 l0 (4, fs5.set 1 (.ref hs3.2.1)) := ⟨_, rfl⟩
  replace h := h hs6 hg_
  rw [← hg_]
  clear hg_
  exact mx_return d_LBStore_init_21 rfl h
set_option maxRecDepth 100000 in
theorem wp_LBStore_planAt_0 {l : Launch} {G : mx_G} {d : Nat} {hs : mx_H} {Q : Option Value → mx_H → Prop} (l0 : Nat) (l1 : Int32) (h : ((l1 < 1 → Q (some (.null)) hs) ∧ (¬ (l1 < 1) → (∃ (x2 : Int32), mx_f hs l0 4 2 (.int x2) ∧ ((x2 < l1 → Q (some (.null)) hs) ∧ (¬ (x2 < l1) → (∃ (a4 : Nat), mx_f hs l0 4 0 (.ref a4) ∧ (∃ (vs5 : List Value) (a6 : Nat), hs.1 a4 = some (113, vs5) ∧ ¬ (l1 - 1) < 0 ∧ vs5[Int32.toNatClampNeg (l1 - 1)]? = some (.ref a6) ∧ Q (some (.ref a6)) hs)))))))) : mx_Ok mx_S0 l G (d + 1) mm_LBStore_planAt 0 [(0, .ref l0), (1, .int l1)] [] hs Q := by
  refine mx_iload_n d_LBStore_planAt_0 rfl 1 rfl ?_
  refine mx_iconst (v := 1) d_LBStore_planAt_1 (by decide) ?_
  refine mx_icmp_lt d_LBStore_planAt_2 (fun c9 => ?_) (fun c9 => ?_)
  · replace h := h.1 c9
    refine mx_null d_LBStore_planAt_24 ?_
    exact mx_areturn d_LBStore_planAt_25 rfl (Or.inl ⟨_, rfl⟩) (Or.inl rfl) h
  · replace h := h.2 c9
    refine mx_iload_n d_LBStore_planAt_5 rfl 1 rfl ?_
    refine mx_aload_nR d_LBStore_planAt_6 rfl 0 rfl ?_
    obtain ⟨x2, ⟨fs1, e1_, e2_⟩, h⟩ := h
    refine mx_get d_LBStore_planAt_7 (ci := 4) (k := 2) (q := mx_cl0_4) rfl (Nat.le_of_ble_eq_true rfl) kw_134 e1_ e2_ ?_
    refine mx_icmp_gt d_LBStore_planAt_10 (fun c9 => ?_) (fun c9 => ?_)
    · replace h := h.1 c9
      refine mx_null d_LBStore_planAt_24 ?_
      exact mx_areturn d_LBStore_planAt_25 rfl (Or.inl ⟨_, rfl⟩) (Or.inl rfl) h
    · replace h := h.2 c9
      refine mx_aload_nR d_LBStore_planAt_13 rfl 0 rfl ?_
      obtain ⟨a4, ⟨fs3, e1_, e2_⟩, h⟩ := h
      refine mx_get d_LBStore_planAt_14 (ci := 4) (k := 0) (q := mx_cl0_4) rfl (Nat.le_of_ble_eq_true rfl) kw_132 e1_ e2_ ?_
      refine mx_iload_n d_LBStore_planAt_17 rfl 1 rfl ?_
      refine mx_iconst (v := 1) d_LBStore_planAt_18 (by decide) ?_
      refine mx_isub d_LBStore_planAt_19 ?_
      obtain ⟨vs5, a6, e1_, e2_, e3_, h⟩ := h
      refine mx_aald (C := "LazyBuilder$Plan") d_LBStore_planAt_20 (k := 113) rfl e1_ e2_ e3_ ?_
      refine mx_goto d_LBStore_planAt_21 ?_
      exact mx_areturn d_LBStore_planAt_25 rfl (Or.inl ⟨_, rfl⟩) (Or.inr ⟨_, rfl⟩) h
set_option maxRecDepth 100000 in
theorem wp_LBStore_planIn_0 {l : Launch} {G : mx_G} {d : Nat} {hs : mx_H} {Q : Option Value → mx_H → Prop} (l0 : Nat) (l1 : Int64) (h : mx_C mx_S0 l G d mm_LB_isPlan [.long l1] hs (fun (r1 : Option Value) (hs2 : mx_H) => ∃ x3 : Int32, r1 = some (.int x3) ∧ ((x3 = 0 → Q (some (.null)) hs2) ∧ (¬ (x3 = 0) → mx_C mx_S0 l G d mm_LB_numberOf [.long l1] hs2 (fun (r4 : Option Value) (hs5 : mx_H) => ∃ x6 : Int32, r4 = some (.int x6) ∧ ((∃ fs10 : List Value, hs5.1 l0 = some (4, fs10)) ∧ mx_C mx_S0 l G d mm_LBStore_planAt [.ref l0, .int x6] hs5 (fun (r7 : Option Value) (hs8 : mx_H) => ∃ v9 : Value, r7 = some v9 ∧ (v9 = .null ∨ ∃ z, v9 = .ref z) ∧ Q (some (v9)) hs8))))))) : mx_Ok mx_S0 l G (d + 1) mm_LBStore_planIn 0 [(0, .ref l0), (1, .long l1)] [] hs Q := by
  refine mx_lload_n d_LBStore_planIn_0 rfl 1 rfl ?_
  refine mx_invSN (Y := mm_LB_isPlan) (As := [.long l1]) (rest := []) d_LBStore_planIn_1.1 ok_LB_isPlan kn_4 kw_137 rfl rfl (Nat.le_of_ble_eq_true rfl) (Nat.le_of_ble_eq_true rfl) h (fun r1 hs2 h => ?_)
  obtain ⟨x3, e9_, h⟩ := h
  subst e9_
  show mx_Ok mx_S0 l G (d + 1) mm_LBStore_planIn 4 [(0, .ref l0), (1, .long l1)] [.int x3] hs2 Q
  refine mx_if_eq d_LBStore_planIn_4 (fun c9 => ?_) (fun c9 => ?_)
  · replace h := h.1 c9
    refine mx_null d_LBStore_planIn_18 ?_
    exact mx_areturn d_LBStore_planIn_19 rfl (Or.inl ⟨_, rfl⟩) (Or.inl rfl) h
  · replace h := h.2 c9
    refine mx_aload_nR d_LBStore_planIn_7 rfl 0 rfl ?_
    refine mx_lload_n d_LBStore_planIn_8 rfl 1 rfl ?_
    refine mx_invSN (Y := mm_LB_numberOf) (As := [.long l1]) (rest := [.ref l0]) d_LBStore_planIn_9.1 ok_LB_numberOf kn_3 kw_136 rfl rfl (Nat.le_of_ble_eq_true rfl) (Nat.le_of_ble_eq_true rfl) h (fun r4 hs5 h => ?_)
    obtain ⟨x6, e9_, h⟩ := h
    subst e9_
    show mx_Ok mx_S0 l G (d + 1) mm_LBStore_planIn 12 [(0, .ref l0), (1, .long l1)] [.int x6, .ref l0] hs5 Q
    obtain ⟨⟨fs10, e1_⟩, h⟩ := h
    refine mx_invV (Y := mm_LBStore_planAt) (As := [.int x6]) (rest := []) d_LBStore_planIn_12.1 ok_LBStore_planAt kw_135 kw_63 kw_64 rfl rfl (Nat.le_of_ble_eq_true rfl) (Nat.le_of_ble_eq_true rfl) e1_ (q := mx_cl0_4) rfl rfl h (fun r7 hs8 h => ?_)
    obtain ⟨v9, e9_, hv9, h⟩ := h
    subst e9_
    show mx_Ok mx_S0 l G (d + 1) mm_LBStore_planIn 15 [(0, .ref l0), (1, .long l1)] [v9] hs8 Q
    refine mx_goto d_LBStore_planIn_15 ?_
    exact mx_areturn d_LBStore_planIn_19 rfl (Or.inl ⟨_, rfl⟩) hv9 h
set_option maxRecDepth 100000 in
theorem wp_LBStore_planOf_0 {l : Launch} {G : mx_G} {d : Nat} {hs : mx_H} {Q : Option Value → mx_H → Prop} (l0 : Nat) (l1 : Int32) (l2 : Nat) (l3 : Int32) (l4 : Int32) (h : mx_Ok mx_S0 l G (d + 1) mm_LBStore_planOf 3 [(0, .ref l0), (1, .int l1), (2, .ref l2), (3, .int l3), (4, .int l4), (5, .int 0)] [] hs Q) : mx_Ok mx_S0 l G (d + 1) mm_LBStore_planOf 0 [(0, .ref l0), (1, .int l1), (2, .ref l2), (3, .int l3), (4, .int l4)] [] hs Q := by
  refine mx_iconst (v := 0) d_LBStore_planOf_0 (by decide) ?_
  refine mx_istore (lv2 := [(5, .int 0), (0, .ref l0), (1, .int l1), (2, .ref l2), (3, .int l3), (4, .int l4)]) d_LBStore_planOf_1 (Nat.le_of_ble_eq_true rfl) rfl ?_
  exact mx_sub [1, 2, 3, 4, 5, 0] rfl h
set_option maxRecDepth 100000 in
theorem wp_LBStore_planOf_3 {l : Launch} {G : mx_G} {d : Nat} {hs : mx_H} {Q : Option Value → mx_H → Prop} (l0 : Nat) (l1 : Int32) (l2 : Nat) (l3 : Int32) (l4 : Int32) (l5 : Int32) (h : (∃ (x2 : Int32), mx_f hs l0 4 2 (.int x2) ∧ ((x2 ≤ l5 → (∃ (x4 : Int32), mx_f hs l0 4 2 (.int x4) ∧ ((x4 < 30 → (¬ l4 < 0 ∧ (Int32.toNatClampNeg l4) * componentBytes .long ≤ 536870912 ∧ ∀ hs5 : mx_H, hs5 = mx_nw hs (102, List.replicate (Int32.toNatClampNeg l4) (.long 0)) (Int32.toNatClampNeg l4) → (∃ vs6 vs7 : List Value, hs5.1 l2 = some (102, vs6) ∧ hs5.1 hs.2.1 = some (102, vs7) ∧ ¬ l3 < 0 ∧ ¬ (0 : Int32) < 0 ∧ ¬ l4 < 0 ∧ (Int32.toNatClampNeg l3) + (Int32.toNatClampNeg l4) ≤ vs6.length ∧ (Int32.toNatClampNeg 0) + (Int32.toNatClampNeg l4) ≤ vs7.length ∧ (∀ v ∈ vs6, fits .long v = true ∧ ∀ x, v ≠ .ref x) ∧ ∀ hs8 : mx_H, hs8 = mx_st hs5 hs.2.1 (102, mx_cpy vs6 vs7 (Int32.toNatClampNeg l3) (Int32.toNatClampNeg 0) (Int32.toNatClampNeg l4)) → (∃ (a10 : Nat), mx_f hs8 l0 4 0 (.ref a10) ∧ (∃ (x12 : Int32), mx_f hs8 l0 4 2 (.int x12) ∧ (∀ hs13 : mx_H, hs13 = mx_nw hs8 (3, [.int 0, .null, .int 0, .int 0, .int 0, .int 0]) 6 → mx_C mx_S0 l G d mm_LBPlan_init [.ref hs8.2.1, .int l1, .ref hs.2.1] hs13 (fun (r14 : Option Value) (hs15 : mx_H) => r14 = none ∧ (∃ vs16 : List Value, hs15.1 a10 = some (113, vs16) ∧ ¬ x12 < 0 ∧ Int32.toNatClampNeg x12 < vs16.length ∧ (∃ fs24 : List Value, hs15.1 hs8.2.1 = some (3, fs24)) ∧ ∀ hs17 : mx_H, hs17 = mx_st hs15 a10 (113, vs16.set (Int32.toNatClampNeg x12) (.ref hs8.2.1)) → (∃ (x19 : Int32), mx_f hs17 l0 4 2 (.int x19) ∧ (∃ fs20 : List Value, hs17.1 l0 = some (4, fs20) ∧ ∀ hs21 : mx_H, hs21 = mx_st hs17 l0 (4, fs20.set 2 (.int (x19 + 1))) → (∃ (x23 : Int32), mx_f hs21 l0 4 2 (.int x23) ∧ Q (some (.long (1000000000000 + (Int32.toInt64 x23)))) hs21))))))))))) ∧ (¬ (x4 < 30) → Q (some (.long (-1000000000009))) hs)))) ∧ (¬ (x2 ≤ l5) → (∃ (a26 : Nat), mx_f hs l0 4 0 (.ref a26) ∧ (∃ (vs27 : List Value) (a28 : Nat), hs.1 a26 = some (113, vs27) ∧ ¬ l5 < 0 ∧ vs27[Int32.toNatClampNeg l5]? = some (.ref a28) ∧ ((∃ fs32 : List Value, hs.1 a28 = some (3, fs32)) ∧ mx_C mx_S0 l G d mm_LBPlan_isAlike [.ref a28, .int l1, .ref l2, .int l3, .int l4] hs (fun (r29 : Option Value) (hs30 : mx_H) => ∃ x31 : Int32, r29 = some (.int x31) ∧ ((x31 = 0 → mx_Ok mx_S0 l G (d + 1) mm_LBStore_planOf 3 [(0, .ref l0), (1, .int l1), (2, .ref l2), (3, .int l3), (4, .int l4), (5, .int (l5 + 1))] [] hs30 Q) ∧ (¬ (x31 = 0) → Q (some (.long ((1000000000000 + (Int32.toInt64 l5)) + 1))) hs30)))))))))) : mx_Ok mx_S0 l G (d + 1) mm_LBStore_planOf 3 [(0, .ref l0), (1, .int l1), (2, .ref l2), (3, .int l3), (4, .int l4), (5, .int l5)] [] hs Q := by
  refine mx_iload d_LBStore_planOf_3 5 rfl ?_
  refine mx_aload_nR d_LBStore_planOf_5 rfl 0 rfl ?_
  obtain ⟨x2, ⟨fs1, e1_, e2_⟩, h⟩ := h
  refine mx_get d_LBStore_planOf_6 (ci := 4) (k := 2) (q := mx_cl0_4) rfl (Nat.le_of_ble_eq_true rfl) kw_134 e1_ e2_ ?_
  refine mx_icmp_ge d_LBStore_planOf_9 (fun c9 => ?_) (fun c9 => ?_)
  · replace h := h.1 c9
    refine mx_aload_nR d_LBStore_planOf_46 rfl 0 rfl ?_
    obtain ⟨x4, ⟨fs3, e1_, e2_⟩, h⟩ := h
    refine mx_get d_LBStore_planOf_47 (ci := 4) (k := 2) (q := mx_cl0_4) rfl (Nat.le_of_ble_eq_true rfl) kw_134 e1_ e2_ ?_
    refine mx_bipush (v := 30) d_LBStore_planOf_50 (by decide) ?_
    refine mx_icmp_lt d_LBStore_planOf_52 (fun c9 => ?_) (fun c9 => ?_)
    · replace h := h.1 c9
      refine mx_iload d_LBStore_planOf_59 4 rfl ?_
      obtain ⟨g1_, g2_, h⟩ := h
      refine mx_newa d_LBStore_planOf_61 (k := 102) (ty := .long) (dv := .long 0) (N := (Int32.toNatClampNeg l4)) rfl rfl rfl (by decide) kw_138 g1_ rfl g2_ ?_
      obtain ⟨hs5, hg_⟩ : ∃ x_, x_ = mx_nw hs (102, List.replicate (Int32.toNatClampNeg l4) (.long 0)) (Int32.toNatClampNeg l4) := ⟨_, rfl⟩
      replace h := h hs5 hg_
      rw [← hg_]
      clear hg_
      refine mx_astore (lv2 := [(5, .ref hs.2.1), (0, .ref l0), (1, .int l1), (2, .ref l2), (3, .int l3), (4, .int l4)]) d_LBStore_planOf_63 (Nat.le_of_ble_eq_true rfl) rfl (Or.inr ⟨_, rfl⟩) ?_
      refine mx_aload_nR d_LBStore_planOf_65 rfl 3 rfl ?_
      refine mx_iload_n d_LBStore_planOf_66 rfl 4 rfl ?_
      refine mx_aloadR d_LBStore_planOf_67 0 rfl ?_
      refine mx_iconst (v := 0) d_LBStore_planOf_69 (by decide) ?_
      refine mx_iload d_LBStore_planOf_70 5 rfl ?_
      obtain ⟨vs6, vs7, e1_, e2_, e3_, e4_, e5_, e6_, e7_, e8_, h⟩ := h
      refine mx_copy (k0 := 102) (k1 := 102) (ty := .long) d_LBStore_planOf_72 kw_139 k_acp1 k_acp2 k_acp3 rfl rfl rfl (by decide) (Nat.le_of_ble_eq_true rfl) e1_ e2_ e3_ e4_ e5_ rfl rfl rfl e6_ e7_ e8_ ?_
      obtain ⟨hs8, hg_⟩ : ∃ x_, x_ = mx_st hs5 hs.2.1 (102, mx_cpy vs6 vs7 (Int32.toNatClampNeg l3) (Int32.toNatClampNeg 0) (Int32.toNatClampNeg l4)) := ⟨_, rfl⟩
      replace h := h hs8 hg_
      rw [← hg_]
      clear hg_
      refine mx_aload_nR d_LBStore_planOf_75 rfl 1 rfl ?_
      obtain ⟨a10, ⟨fs9, e1_, e2_⟩, h⟩ := h
      refine mx_get d_LBStore_planOf_76 (ci := 4) (k := 0) (q := mx_cl0_4) rfl (Nat.le_of_ble_eq_true rfl) kw_132 e1_ e2_ ?_
      refine mx_aload_nR d_LBStore_planOf_79 rfl 1 rfl ?_
      obtain ⟨x12, ⟨fs11, e1_, e2_⟩, h⟩ := h
      refine mx_get d_LBStore_planOf_80 (ci := 4) (k := 2) (q := mx_cl0_4) rfl (Nat.le_of_ble_eq_true rfl) kw_134 e1_ e2_ ?_
      refine mx_new d_LBStore_planOf_83 (ci := 3) (q := mx_cl0_3) (fs := [.int 0, .null, .int 0, .int 0, .int 0, .int 0]) (n := 6) rfl kw_131 kw_140 kw_141 rfl rfl mdf_3 ?_
      obtain ⟨hs13, hg_⟩ : ∃ x_, x_ = mx_nw hs8 (3, [.int 0, .null, .int 0, .int 0, .int 0, .int 0]) 6 := ⟨_, rfl⟩
      replace h := h hs13 hg_
      rw [← hg_]
      clear hg_
      refine mx_dup d_LBStore_planOf_86 rfl ?_
      refine mx_iload_n d_LBStore_planOf_87 rfl 2 rfl ?_
      refine mx_aloadR d_LBStore_planOf_88 0 rfl ?_
      refine mx_invI (Y := mm_LBPlan_init) (As := [.int l1, .ref hs.2.1]) (rest := [.ref hs8.2.1, .int x12, .ref a10]) rfl d_LBStore_planOf_90.1 ok_LBPlan_init kw_143 kw_144 rfl rfl rfl (Nat.le_of_ble_eq_true rfl) (Nat.le_of_ble_eq_true rfl) h (fun r14 hs15 h => ?_)
      obtain ⟨e9_, h⟩ := h
      subst e9_
      show mx_Ok mx_S0 l G (d + 1) mm_LBStore_planOf 93 [(5, .ref hs.2.1), (0, .ref l0), (1, .int l1), (2, .ref l2), (3, .int l3), (4, .int l4)] [.ref hs8.2.1, .int x12, .ref a10] hs15 Q
      obtain ⟨vs16, e1_, e2_, e3_, ⟨fs24, e4_⟩, h⟩ := h
      refine mx_aastR d_LBStore_planOf_93 (ci := 3) (k := 113) rfl rfl (by decide) (by omega) e1_ e2_ e3_ e4_ ?_
      obtain ⟨hs17, hg_⟩ : ∃ x_, x_ = mx_st hs15 a10 (113, vs16.set (Int32.toNatClampNeg x12) (.ref hs8.2.1)) := ⟨_, rfl⟩
      replace h := h hs17 hg_
      rw [← hg_]
      clear hg_
      refine mx_aload_nR d_LBStore_planOf_94 rfl 1 rfl ?_
      refine mx_dup d_LBStore_planOf_95 rfl ?_
      obtain ⟨x19, ⟨fs18, e1_, e2_⟩, h⟩ := h
      refine mx_get d_LBStore_planOf_96 (ci := 4) (k := 2) (q := mx_cl0_4) rfl (Nat.le_of_ble_eq_true rfl) kw_134 e1_ e2_ ?_
      refine mx_iconst (v := 1) d_LBStore_planOf_99 (by decide) ?_
      refine mx_iadd d_LBStore_planOf_100 ?_
      obtain ⟨fs20, e1_, h⟩ := h
      refine mx_put d_LBStore_planOf_101 (ci := 4) (k := 2) (q := mx_cl0_4) (ty := .int) rfl (Nat.le_of_ble_eq_true rfl) kw_134 rfl (by decide +kernel) rfl rfl (by omega) e1_ ?_
      obtain ⟨hs21, hg_⟩ : ∃ x_, x_ = mx_st hs17 l0 (4, fs20.set 2 (.int (x19 + 1))) := ⟨_, rfl⟩
      replace h := h hs21 hg_
      rw [← hg_]
      clear hg_
      refine mx_ldc2 (v := 1000000000000) d_LBStore_planOf_104 kw_142 ?_
      refine mx_aload_nR d_LBStore_planOf_107 rfl 1 rfl ?_
      obtain ⟨x23, ⟨fs22, e1_, e2_⟩, h⟩ := h
      refine mx_get d_LBStore_planOf_108 (ci := 4) (k := 2) (q := mx_cl0_4) rfl (Nat.le_of_ble_eq_true rfl) kw_134 e1_ e2_ ?_
      refine mx_i2l d_LBStore_planOf_111 ?_
      refine mx_ladd d_LBStore_planOf_112 ?_
      exact mx_lreturn d_LBStore_planOf_113 rfl h
    · replace h := h.2 c9
      refine mx_ldc2 (v := (-1000000000009)) d_LBStore_planOf_55 kw_145 ?_
      exact mx_lreturn d_LBStore_planOf_58 rfl h
  · replace h := h.2 c9
    refine mx_aload_nR d_LBStore_planOf_12 rfl 0 rfl ?_
    obtain ⟨a26, ⟨fs25, e1_, e2_⟩, h⟩ := h
    refine mx_get d_LBStore_planOf_13 (ci := 4) (k := 0) (q := mx_cl0_4) rfl (Nat.le_of_ble_eq_true rfl) kw_132 e1_ e2_ ?_
    refine mx_iload d_LBStore_planOf_16 5 rfl ?_
    obtain ⟨vs27, a28, e1_, e2_, e3_, h⟩ := h
    refine mx_aald (C := "LazyBuilder$Plan") d_LBStore_planOf_18 (k := 113) rfl e1_ e2_ e3_ ?_
    refine mx_iload_n d_LBStore_planOf_19 rfl 1 rfl ?_
    refine mx_aload_nR d_LBStore_planOf_20 rfl 2 rfl ?_
    refine mx_iload_n d_LBStore_planOf_21 rfl 3 rfl ?_
    refine mx_iload d_LBStore_planOf_22 4 rfl ?_
    obtain ⟨⟨fs32, e1_⟩, h⟩ := h
    refine mx_invV (Y := mm_LBPlan_isAlike) (As := [.int l1, .ref l2, .int l3, .int l4]) (rest := []) d_LBStore_planOf_24.1 ok_LBPlan_isAlike kw_146 kw_147 kw_148 rfl rfl (Nat.le_of_ble_eq_true rfl) (Nat.le_of_ble_eq_true rfl) e1_ (q := mx_cl0_3) rfl rfl h (fun r29 hs30 h => ?_)
    obtain ⟨x31, e9_, h⟩ := h
    subst e9_
    show mx_Ok mx_S0 l G (d + 1) mm_LBStore_planOf 27 [(0, .ref l0), (1, .int l1), (2, .ref l2), (3, .int l3), (4, .int l4), (5, .int l5)] [.int x31] hs30 Q
    refine mx_if_eq d_LBStore_planOf_27 (fun c9 => ?_) (fun c9 => ?_)
    · replace h := h.1 c9
      refine mx_iinc (v := l5 + 1) (lv2 := [(5, .int (l5 + 1)), (0, .ref l0), (1, .int l1), (2, .ref l2), (3, .int l3), (4, .int l4)]) d_LBStore_planOf_40 5 rfl (by rfl) (Nat.le_of_ble_eq_true rfl) rfl ?_
      refine mx_goto d_LBStore_planOf_43 ?_
      exact mx_sub [1, 2, 3, 4, 5, 0] rfl h
    · replace h := h.2 c9
      refine mx_ldc2 (v := 1000000000000) d_LBStore_planOf_30 kw_142 ?_
      refine mx_iload d_LBStore_planOf_33 5 rfl ?_
      refine mx_i2l d_LBStore_planOf_35 ?_
      refine mx_ladd d_LBStore_planOf_36 ?_
      refine mx_lconst (v := 1) d_LBStore_planOf_37 rfl ?_
      refine mx_ladd d_LBStore_planOf_38 ?_
      exact mx_lreturn d_LBStore_planOf_39 rfl h
set_option maxRecDepth 100000 in
theorem wp_LBStore_resultOf_0 {l : Launch} {G : mx_G} {d : Nat} {hs : mx_H} {Q : Option Value → mx_H → Prop} (l0 : Nat) (l1 : Int64) (h : (∃ (x2 : Int32), mx_f hs l0 4 2 (.int x2) ∧ ((∃ fs6 : List Value, hs.1 l0 = some (4, fs6)) ∧ mx_C mx_S0 l G d mm_LBStore_partOf [.ref l0, .long l1, .int (x2 + 1)] hs (fun (r3 : Option Value) (hs4 : mx_H) => ∃ x5 : Int64, r3 = some (.long x5) ∧ Q (some (.long x5)) hs4)))) : mx_Ok mx_S0 l G (d + 1) mm_LBStore_resultOf 0 [(0, .ref l0), (1, .long l1)] [] hs Q := by
  refine mx_aload_nR d_LBStore_resultOf_0 rfl 0 rfl ?_
  refine mx_lload_n d_LBStore_resultOf_1 rfl 1 rfl ?_
  refine mx_aload_nR d_LBStore_resultOf_2 rfl 0 rfl ?_
  obtain ⟨x2, ⟨fs1, e1_, e2_⟩, h⟩ := h
  refine mx_get d_LBStore_resultOf_3 (ci := 4) (k := 2) (q := mx_cl0_4) rfl (Nat.le_of_ble_eq_true rfl) kw_134 e1_ e2_ ?_
  refine mx_iconst (v := 1) d_LBStore_resultOf_6 (by decide) ?_
  refine mx_iadd d_LBStore_resultOf_7 ?_
  obtain ⟨⟨fs6, e1_⟩, h⟩ := h
  refine mx_invV (Y := mm_LBStore_partOf) (As := [.long l1, .int (x2 + 1)]) (rest := []) d_LBStore_resultOf_8.1 ok_LBStore_partOf kw_149 kw_150 kw_151 rfl rfl (Nat.le_of_ble_eq_true rfl) (Nat.le_of_ble_eq_true rfl) e1_ (q := mx_cl0_4) rfl rfl h (fun r3 hs4 h => ?_)
  obtain ⟨x5, e9_, h⟩ := h
  subst e9_
  show mx_Ok mx_S0 l G (d + 1) mm_LBStore_resultOf 11 [(0, .ref l0), (1, .long l1)] [.long x5] hs4 Q
  exact mx_lreturn d_LBStore_resultOf_11 rfl h
set_option maxRecDepth 100000 in
theorem wp_LBStore_partOf_0 {l : Launch} {G : mx_G} {d : Nat} {hs : mx_H} {Q : Option Value → mx_H → Prop} (l0 : Nat) (l1 : Int64) (l3 : Int32) (h : ((∃ fs12 : List Value, hs.1 l0 = some (4, fs12)) ∧ mx_C mx_S0 l G d mm_LBStore_planIn [.ref l0, .long l1] hs (fun (r1 : Option Value) (hs2 : mx_H) => ∃ v3 : Value, r1 = some v3 ∧ (v3 = .null ∨ ∃ z, v3 = .ref z) ∧ ((v3 = .null → Q (some (.long l1)) hs2) ∧ (∀ a4 : Nat, v3 = .ref a4 → (∃ (x6 : Int32), mx_f hs2 a4 3 2 (.int x6) ∧ ((x6 = 0 → mx_C mx_S0 l G d mm_LB_numberOf [.long l1] hs2 (fun (r7 : Option Value) (hs8 : mx_H) => ∃ x9 : Int32, r7 = some (.int x9) ∧ ((x9 < l3 → mx_Ok mx_S0 l G (d + 1) mm_LBStore_partOf 48 [(0, .ref l0), (4, .ref a4), (5, .int x9), (6, .int 0)] [] hs8 Q) ∧ (¬ (x9 < l3) → Q (some (.long (-1000000000007))) hs8)))) ∧ (¬ (x6 = 0) → (∃ (x11 : Int32), mx_f hs2 a4 3 5 (.int x11) ∧ Q (some (.long (Int32.toInt64 x11))) hs2))))))))) : mx_Ok mx_S0 l G (d + 1) mm_LBStore_partOf 0 [(0, .ref l0), (1, .long l1), (3, .int l3)] [] hs Q := by
  refine mx_aload_nR d_LBStore_partOf_0 rfl 0 rfl ?_
  refine mx_lload_n d_LBStore_partOf_1 rfl 1 rfl ?_
  obtain ⟨⟨fs12, e1_⟩, h⟩ := h
  refine mx_invV (Y := mm_LBStore_planIn) (As := [.long l1]) (rest := []) d_LBStore_partOf_2.1 ok_LBStore_planIn kw_155 kw_156 kw_157 rfl rfl (Nat.le_of_ble_eq_true rfl) (Nat.le_of_ble_eq_true rfl) e1_ (q := mx_cl0_4) rfl rfl h (fun r1 hs2 h => ?_)
  obtain ⟨v3, e9_, hv3, h⟩ := h
  subst e9_
  show mx_Ok mx_S0 l G (d + 1) mm_LBStore_partOf 5 [(0, .ref l0), (1, .long l1), (3, .int l3)] [v3] hs2 Q
  refine mx_astore (lv2 := [(4, v3), (0, .ref l0), (1, .long l1), (3, .int l3)]) d_LBStore_partOf_5 (Nat.le_of_ble_eq_true rfl) rfl hv3 ?_
  refine mx_aload d_LBStore_partOf_7 0 rfl hv3 ?_
  refine mx_ifnonnull d_LBStore_partOf_9 hv3 (fun a4 c9 => ?_) (fun c9 => ?_)
  · replace h := h.2 a4 c9
    subst c9
    refine mx_aloadR d_LBStore_partOf_14 0 rfl ?_
    obtain ⟨x6, ⟨fs5, e1_, e2_⟩, h⟩ := h
    refine mx_get d_LBStore_partOf_16 (ci := 3) (k := 2) (q := mx_cl0_3) rfl (Nat.le_of_ble_eq_true rfl) kw_152 e1_ e2_ ?_
    refine mx_if_eq d_LBStore_partOf_19 (fun c9 => ?_) (fun c9 => ?_)
    · replace h := h.1 c9
      refine mx_lload_n d_LBStore_partOf_29 rfl 2 rfl ?_
      refine mx_invSN (Y := mm_LB_numberOf) (As := [.long l1]) (rest := []) d_LBStore_partOf_30.1 ok_LB_numberOf kn_3 kw_136 rfl rfl (Nat.le_of_ble_eq_true rfl) (Nat.le_of_ble_eq_true rfl) h (fun r7 hs8 h => ?_)
      obtain ⟨x9, e9_, h⟩ := h
      subst e9_
      show mx_Ok mx_S0 l G (d + 1) mm_LBStore_partOf 33 [(4, .ref a4), (0, .ref l0), (1, .long l1), (3, .int l3)] [.int x9] hs8 Q
      refine mx_istore (lv2 := [(5, .int x9), (4, .ref a4), (0, .ref l0), (1, .long l1), (3, .int l3)]) d_LBStore_partOf_33 (Nat.le_of_ble_eq_true rfl) rfl ?_
      refine mx_iload d_LBStore_partOf_35 0 rfl ?_
      refine mx_iload_n d_LBStore_partOf_37 rfl 4 rfl ?_
      refine mx_icmp_lt d_LBStore_partOf_38 (fun c9 => ?_) (fun c9 => ?_)
      · replace h := h.1 c9
        refine mx_iconst (v := 0) d_LBStore_partOf_45 (by decide) ?_
        refine mx_istore (lv2 := [(6, .int 0), (5, .int x9), (4, .ref a4), (0, .ref l0), (1, .long l1), (3, .int l3)]) d_LBStore_partOf_46 (Nat.le_of_ble_eq_true rfl) rfl ?_
        exact mx_sub [3, 2, 1, 0] rfl h
      · replace h := h.2 c9
        refine mx_ldc2 (v := (-1000000000007)) d_LBStore_partOf_41 kw_153 ?_
        exact mx_lreturn d_LBStore_partOf_44 rfl h
    · replace h := h.2 c9
      refine mx_aloadR d_LBStore_partOf_22 0 rfl ?_
      obtain ⟨x11, ⟨fs10, e1_, e2_⟩, h⟩ := h
      refine mx_get d_LBStore_partOf_24 (ci := 3) (k := 5) (q := mx_cl0_3) rfl (Nat.le_of_ble_eq_true rfl) kw_154 e1_ e2_ ?_
      refine mx_i2l d_LBStore_partOf_27 ?_
      exact mx_lreturn d_LBStore_partOf_28 rfl h
  · replace h := h.1 c9
    subst c9
    refine mx_lload_n d_LBStore_partOf_12 rfl 2 rfl ?_
    exact mx_lreturn d_LBStore_partOf_13 rfl h
set_option maxRecDepth 100000 in
theorem wp_LBStore_partOf_48 {l : Launch} {G : mx_G} {d : Nat} {hs : mx_H} {Q : Option Value → mx_H → Prop} (l0 : Nat) (l4 : Nat) (l5 : Int32) (l6 : Int32) (h : (∃ (a2 : Nat), mx_f hs l4 3 1 (.ref a2) ∧ (∃ vs3 : List Value, hs.1 a2 = some (102, vs3) ∧ (((Int32.ofNat vs3.length) ≤ l6 → ((∃ fs7 : List Value, hs.1 l0 = some (4, fs7)) ∧ mx_C mx_S0 l G d mm_LBStore_finish [.ref l0, .ref l4] hs (fun (r4 : Option Value) (hs5 : mx_H) => ∃ x6 : Int64, r4 = some (.long x6) ∧ Q (some (.long x6)) hs5))) ∧ (¬ ((Int32.ofNat vs3.length) ≤ l6) → (∃ (a9 : Nat), mx_f hs l4 3 1 (.ref a9) ∧ (∃ (vs10 : List Value) (x11 : Int64), hs.1 a9 = some (102, vs10) ∧ ¬ l6 < 0 ∧ vs10[Int32.toNatClampNeg l6]? = some (.long x11) ∧ ((∃ fs18 : List Value, hs.1 l0 = some (4, fs18)) ∧ mx_C mx_S0 l G d mm_LBStore_partOf [.ref l0, .long x11, .int l5] hs (fun (r12 : Option Value) (hs13 : mx_H) => ∃ x14 : Int64, r12 = some (.long x14) ∧ mx_C mx_S0 l G d mm_LB_isFailure [.long x14] hs13 (fun (r15 : Option Value) (hs16 : mx_H) => ∃ x17 : Int32, r15 = some (.int x17) ∧ ((x17 = 0 → mx_Ok mx_S0 l G (d + 1) mm_LBStore_partOf 48 [(0, .ref l0), (4, .ref l4), (5, .int l5), (6, .int (l6 + 1))] [] hs16 Q) ∧ (¬ (x17 = 0) → Q (some (.long x14)) hs16)))))))))))) : mx_Ok mx_S0 l G (d + 1) mm_LBStore_partOf 48 [(0, .ref l0), (4, .ref l4), (5, .int l5), (6, .int l6)] [] hs Q := by
  refine mx_iload d_LBStore_partOf_48 3 rfl ?_
  refine mx_aloadR d_LBStore_partOf_50 1 rfl ?_
  obtain ⟨a2, ⟨fs1, e1_, e2_⟩, h⟩ := h
  refine mx_get d_LBStore_partOf_52 (ci := 3) (k := 1) (q := mx_cl0_3) rfl (Nat.le_of_ble_eq_true rfl) kw_158 e1_ e2_ ?_
  obtain ⟨vs3, e1_, h⟩ := h
  refine mx_alen d_LBStore_partOf_55 (k := 102) rfl e1_ ?_
  refine mx_icmp_ge d_LBStore_partOf_56 (fun c9 => ?_) (fun c9 => ?_)
  · replace h := h.1 c9
    refine mx_aload_nR d_LBStore_partOf_92 rfl 0 rfl ?_
    refine mx_aloadR d_LBStore_partOf_93 1 rfl ?_
    obtain ⟨⟨fs7, e1_⟩, h⟩ := h
    refine mx_invV (Y := mm_LBStore_finish) (As := [.ref l4]) (rest := []) d_LBStore_partOf_95.1 ok_LBStore_finish kw_159 kw_160 kw_161 rfl rfl (Nat.le_of_ble_eq_true rfl) (Nat.le_of_ble_eq_true rfl) e1_ (q := mx_cl0_4) rfl rfl h (fun r4 hs5 h => ?_)
    obtain ⟨x6, e9_, h⟩ := h
    subst e9_
    show mx_Ok mx_S0 l G (d + 1) mm_LBStore_partOf 98 [(0, .ref l0), (4, .ref l4), (5, .int l5), (6, .int l6)] [.long x6] hs5 Q
    exact mx_lreturn d_LBStore_partOf_98 rfl h
  · replace h := h.2 c9
    refine mx_aload_nR d_LBStore_partOf_59 rfl 0 rfl ?_
    refine mx_aloadR d_LBStore_partOf_60 1 rfl ?_
    obtain ⟨a9, ⟨fs8, e1_, e2_⟩, h⟩ := h
    refine mx_get d_LBStore_partOf_62 (ci := 3) (k := 1) (q := mx_cl0_3) rfl (Nat.le_of_ble_eq_true rfl) kw_158 e1_ e2_ ?_
    refine mx_iload d_LBStore_partOf_65 3 rfl ?_
    obtain ⟨vs10, x11, e1_, e2_, e3_, h⟩ := h
    refine mx_lald d_LBStore_partOf_67 (k := 102) rfl e1_ e2_ e3_ ?_
    refine mx_iload d_LBStore_partOf_68 2 rfl ?_
    obtain ⟨⟨fs18, e1_⟩, h⟩ := h
    refine mx_invV (Y := mm_LBStore_partOf) (As := [.long x11, .int l5]) (rest := []) d_LBStore_partOf_70.1 ok_LBStore_partOf kw_149 kw_150 kw_151 rfl rfl (Nat.le_of_ble_eq_true rfl) (Nat.le_of_ble_eq_true rfl) e1_ (q := mx_cl0_4) rfl rfl h (fun r12 hs13 h => ?_)
    obtain ⟨x14, e9_, h⟩ := h
    subst e9_
    show mx_Ok mx_S0 l G (d + 1) mm_LBStore_partOf 73 [(0, .ref l0), (4, .ref l4), (5, .int l5), (6, .int l6)] [.long x14] hs13 Q
    refine mx_lstore (lv2 := [(7, .long x14), (0, .ref l0), (4, .ref l4), (5, .int l5), (6, .int l6)]) d_LBStore_partOf_73 (Nat.le_of_ble_eq_true rfl) rfl ?_
    refine mx_lload d_LBStore_partOf_75 0 rfl ?_
    refine mx_invSN (Y := mm_LB_isFailure) (As := [.long x14]) (rest := []) d_LBStore_partOf_77.1 ok_LB_isFailure kn_5 kw_88 rfl rfl (Nat.le_of_ble_eq_true rfl) (Nat.le_of_ble_eq_true rfl) h (fun r15 hs16 h => ?_)
    obtain ⟨x17, e9_, h⟩ := h
    subst e9_
    show mx_Ok mx_S0 l G (d + 1) mm_LBStore_partOf 80 [(7, .long x14), (0, .ref l0), (4, .ref l4), (5, .int l5), (6, .int l6)] [.int x17] hs16 Q
    refine mx_if_eq d_LBStore_partOf_80 (fun c9 => ?_) (fun c9 => ?_)
    · replace h := h.1 c9
      refine mx_iinc (v := l6 + 1) (lv2 := [(6, .int (l6 + 1)), (7, .long x14), (0, .ref l0), (4, .ref l4), (5, .int l5)]) d_LBStore_partOf_86 4 rfl (by rfl) (Nat.le_of_ble_eq_true rfl) rfl ?_
      refine mx_goto d_LBStore_partOf_89 ?_
      exact mx_sub [2, 3, 4, 0] rfl h
    · replace h := h.2 c9
      refine mx_lload d_LBStore_partOf_83 0 rfl ?_
      exact mx_lreturn d_LBStore_partOf_85 rfl h
set_option maxRecDepth 100000 in
theorem wp_LBStore_finish_0 {l : Launch} {G : mx_G} {d : Nat} {hs : mx_H} {Q : Option Value → mx_H → Prop} (l0 : Nat) (l1 : Nat) (h : (∃ (a2 : Nat), mx_f hs l0 4 1 (.ref a2) ∧ (∃ (x4 : Int32), mx_f hs l1 3 0 (.int x4) ∧ (∃ (vs5 : List Value) (x6 : Int32), hs.1 a2 = some (100, vs5) ∧ ¬ x4 < 0 ∧ vs5[Int32.toNatClampNeg x4]? = some (.int x6) ∧ ((x6 = 4 → Q (some (.long (-1000000000007))) hs) ∧ (¬ (x6 = 4) → ((¬ x6 = 3 → mx_Ok mx_S0 l G (d + 1) mm_LBStore_finish 34 [(0, .ref l0), (1, .ref l1), (2, .int x6)] [] hs Q) ∧ (¬ (¬ x6 = 3) → ((∃ fs10 : List Value, hs.1 l0 = some (4, fs10)) ∧ mx_C mx_S0 l G d mm_LBStore_greatestOf [.ref l0, .ref l1] hs (fun (r7 : Option Value) (hs8 : mx_H) => ∃ x9 : Int32, r7 = some (.int x9) ∧ ((x9 < 100 → mx_Ok mx_S0 l G (d + 1) mm_LBStore_finish 34 [(0, .ref l0), (1, .ref l1), (2, .int x6)] [] hs8 Q) ∧ (¬ (x9 < 100) → Q (some (.long (-1000000000007))) hs8)))))))))))) : mx_Ok mx_S0 l G (d + 1) mm_LBStore_finish 0 [(0, .ref l0), (1, .ref l1)] [] hs Q := by
  refine mx_aload_nR d_LBStore_finish_0 rfl 0 rfl ?_
  obtain ⟨a2, ⟨fs1, e1_, e2_⟩, h⟩ := h
  refine mx_get d_LBStore_finish_1 (ci := 4) (k := 1) (q := mx_cl0_4) rfl (Nat.le_of_ble_eq_true rfl) kw_133 e1_ e2_ ?_
  refine mx_aload_nR d_LBStore_finish_4 rfl 1 rfl ?_
  obtain ⟨x4, ⟨fs3, e1_, e2_⟩, h⟩ := h
  refine mx_get d_LBStore_finish_5 (ci := 3) (k := 0) (q := mx_cl0_3) rfl (Nat.le_of_ble_eq_true rfl) kw_162 e1_ e2_ ?_
  obtain ⟨vs5, x6, e1_, e2_, e3_, h⟩ := h
  refine mx_iald d_LBStore_finish_8 (k := 100) rfl e1_ e2_ e3_ ?_
  refine mx_istore_n (lv2 := [(2, .int x6), (0, .ref l0), (1, .ref l1)]) d_LBStore_finish_9 rfl (Nat.le_of_ble_eq_true rfl) rfl ?_
  refine mx_iload_n d_LBStore_finish_10 rfl 0 rfl ?_
  refine mx_iconst (v := 4) d_LBStore_finish_11 (by decide) ?_
  refine mx_icmp_eq d_LBStore_finish_12 (fun c9 => ?_) (fun c9 => ?_)
  · replace h := h.1 c9
    refine mx_ldc2 (v := (-1000000000007)) d_LBStore_finish_30 kw_153 ?_
    exact mx_lreturn d_LBStore_finish_33 rfl h
  · replace h := h.2 c9
    refine mx_iload_n d_LBStore_finish_15 rfl 0 rfl ?_
    refine mx_iconst (v := 3) d_LBStore_finish_16 (by decide) ?_
    refine mx_icmp_ne d_LBStore_finish_17 (fun c9 => ?_) (fun c9 => ?_)
    · replace h := h.1 c9
      exact mx_sub [1, 2, 0] rfl h
    · replace h := h.2 c9
      refine mx_aload_nR d_LBStore_finish_20 rfl 1 rfl ?_
      refine mx_aload_nR d_LBStore_finish_21 rfl 2 rfl ?_
      obtain ⟨⟨fs10, e1_⟩, h⟩ := h
      refine mx_invV (Y := mm_LBStore_greatestOf) (As := [.ref l1]) (rest := []) d_LBStore_finish_22.1 ok_LBStore_greatestOf kw_163 kw_164 kw_165 rfl rfl (Nat.le_of_ble_eq_true rfl) (Nat.le_of_ble_eq_true rfl) e1_ (q := mx_cl0_4) rfl rfl h (fun r7 hs8 h => ?_)
      obtain ⟨x9, e9_, h⟩ := h
      subst e9_
      show mx_Ok mx_S0 l G (d + 1) mm_LBStore_finish 25 [(2, .int x6), (0, .ref l0), (1, .ref l1)] [.int x9] hs8 Q
      refine mx_bipush (v := 100) d_LBStore_finish_25 (by decide) ?_
      refine mx_icmp_lt d_LBStore_finish_27 (fun c9 => ?_) (fun c9 => ?_)
      · replace h := h.1 c9
        exact mx_sub [1, 2, 0] rfl h
      · replace h := h.2 c9
        refine mx_ldc2 (v := (-1000000000007)) d_LBStore_finish_30 kw_153 ?_
        exact mx_lreturn d_LBStore_finish_33 rfl h
set_option maxRecDepth 100000 in
theorem wp_LBStore_finish_34 {l : Launch} {G : mx_G} {d : Nat} {hs : mx_H} {Q : Option Value → mx_H → Prop} (l0 : Nat) (l1 : Nat) (l2 : Int32) (h : ((∃ fs14 : List Value, hs.1 l0 = some (4, fs14)) ∧ mx_C mx_S0 l G d mm_LBStore_outcome [.ref l0, .ref l1, .int l2] hs (fun (r1 : Option Value) (hs2 : mx_H) => ∃ x3 : Int32, r1 = some (.int x3) ∧ (∃ fs4 : List Value, hs2.1 l1 = some (3, fs4) ∧ ∀ hs5 : mx_H, hs5 = mx_st hs2 l1 (3, fs4.set 5 (.int x3)) → (∃ fs6 : List Value, hs5.1 l1 = some (3, fs6) ∧ ∀ hs7 : mx_H, hs7 = mx_st hs5 l1 (3, fs6.set 2 (.int 1)) → (∃ (x9 : Int32), mx_f hs7 l0 4 3 (.int x9) ∧ (∃ fs10 : List Value, hs7.1 l0 = some (4, fs10) ∧ ∀ hs11 : mx_H, hs11 = mx_st hs7 l0 (4, fs10.set 3 (.int (x9 + 1))) → (∃ (x13 : Int32), mx_f hs11 l1 3 5 (.int x13) ∧ Q (some (.long (Int32.toInt64 x13))) hs11)))))))) : mx_Ok mx_S0 l G (d + 1) mm_LBStore_finish 34 [(0, .ref l0), (1, .ref l1), (2, .int l2)] [] hs Q := by
  refine mx_aload_nR d_LBStore_finish_34 rfl 1 rfl ?_
  refine mx_aload_nR d_LBStore_finish_35 rfl 0 rfl ?_
  refine mx_aload_nR d_LBStore_finish_36 rfl 1 rfl ?_
  refine mx_iload_n d_LBStore_finish_37 rfl 2 rfl ?_
  obtain ⟨⟨fs14, e1_⟩, h⟩ := h
  refine mx_invV (Y := mm_LBStore_outcome) (As := [.ref l1, .int l2]) (rest := [.ref l1]) d_LBStore_finish_38.1 ok_LBStore_outcome kw_167 kw_168 kw_169 rfl rfl (Nat.le_of_ble_eq_true rfl) (Nat.le_of_ble_eq_true rfl) e1_ (q := mx_cl0_4) rfl rfl h (fun r1 hs2 h => ?_)
  obtain ⟨x3, e9_, h⟩ := h
  subst e9_
  show mx_Ok mx_S0 l G (d + 1) mm_LBStore_finish 41 [(0, .ref l0), (1, .ref l1), (2, .int l2)] [.int x3, .ref l1] hs2 Q
  obtain ⟨fs4, e1_, h⟩ := h
  refine mx_put d_LBStore_finish_41 (ci := 3) (k := 5) (q := mx_cl0_3) (ty := .int) rfl (Nat.le_of_ble_eq_true rfl) kw_154 rfl (by decide +kernel) rfl rfl (by omega) e1_ ?_
  obtain ⟨hs5, hg_⟩ : ∃ x_, x_ = mx_st hs2 l1 (3, fs4.set 5 (.int x3)) := ⟨_, rfl⟩
  replace h := h hs5 hg_
  rw [← hg_]
  clear hg_
  refine mx_aload_nR d_LBStore_finish_44 rfl 1 rfl ?_
  refine mx_iconst (v := 1) d_LBStore_finish_45 (by decide) ?_
  obtain ⟨fs6, e1_, h⟩ := h
  refine mx_put d_LBStore_finish_46 (ci := 3) (k := 2) (q := mx_cl0_3) (ty := .boolean) rfl (Nat.le_of_ble_eq_true rfl) kw_152 rfl (by decide +kernel) (mx_nz (Or.inr rfl)) (mx_fz (Or.inr rfl)) (by omega) e1_ ?_
  obtain ⟨hs7, hg_⟩ : ∃ x_, x_ = mx_st hs5 l1 (3, fs6.set 2 (.int 1)) := ⟨_, rfl⟩
  replace h := h hs7 hg_
  rw [← hg_]
  clear hg_
  refine mx_aload_nR d_LBStore_finish_49 rfl 0 rfl ?_
  refine mx_dup d_LBStore_finish_50 rfl ?_
  obtain ⟨x9, ⟨fs8, e1_, e2_⟩, h⟩ := h
  refine mx_get d_LBStore_finish_51 (ci := 4) (k := 3) (q := mx_cl0_4) rfl (Nat.le_of_ble_eq_true rfl) kw_166 e1_ e2_ ?_
  refine mx_iconst (v := 1) d_LBStore_finish_54 (by decide) ?_
  refine mx_iadd d_LBStore_finish_55 ?_
  obtain ⟨fs10, e1_, h⟩ := h
  refine mx_put d_LBStore_finish_56 (ci := 4) (k := 3) (q := mx_cl0_4) (ty := .int) rfl (Nat.le_of_ble_eq_true rfl) kw_166 rfl (by decide +kernel) rfl rfl (by omega) e1_ ?_
  obtain ⟨hs11, hg_⟩ : ∃ x_, x_ = mx_st hs7 l0 (4, fs10.set 3 (.int (x9 + 1))) := ⟨_, rfl⟩
  replace h := h hs11 hg_
  rw [← hg_]
  clear hg_
  refine mx_aload_nR d_LBStore_finish_59 rfl 1 rfl ?_
  obtain ⟨x13, ⟨fs12, e1_, e2_⟩, h⟩ := h
  refine mx_get d_LBStore_finish_60 (ci := 3) (k := 5) (q := mx_cl0_3) rfl (Nat.le_of_ble_eq_true rfl) kw_154 e1_ e2_ ?_
  refine mx_i2l d_LBStore_finish_63 ?_
  exact mx_lreturn d_LBStore_finish_64 rfl h
set_option maxRecDepth 100000 in
theorem wp_LBStore_outcome_0 {l : Launch} {G : mx_G} {d : Nat} {hs : mx_H} {Q : Option Value → mx_H → Prop} (l0 : Nat) (l1 : Nat) (l2 : Int32) (h : ((l2 = 1 → ((∃ fs4 : List Value, hs.1 l0 = some (4, fs4)) ∧ mx_C mx_S0 l G d mm_LBStore_productOf [.ref l0, .ref l1] hs (fun (r1 : Option Value) (hs2 : mx_H) => ∃ x3 : Int32, r1 = some (.int x3) ∧ Q (some (.int x3)) hs2))) ∧ (l2 = 2 → ((∃ fs8 : List Value, hs.1 l0 = some (4, fs8)) ∧ mx_C mx_S0 l G d mm_LBStore_greatestOf [.ref l0, .ref l1] hs (fun (r5 : Option Value) (hs6 : mx_H) => ∃ x7 : Int32, r5 = some (.int x7) ∧ Q (some (.int x7)) hs6))) ∧ (l2 = 3 → (∃ (a10 : Nat), mx_f hs l1 3 1 (.ref a10) ∧ (∃ vs11 : List Value, hs.1 a10 = some (102, vs11) ∧ Q (some (.int (Int32.ofNat vs11.length))) hs))) ∧ (¬ l2 = 1 → ¬ l2 = 2 → ¬ l2 = 3 → ((∃ fs15 : List Value, hs.1 l0 = some (4, fs15)) ∧ mx_C mx_S0 l G d mm_LBStore_sumOf [.ref l0, .ref l1] hs (fun (r12 : Option Value) (hs13 : mx_H) => ∃ x14 : Int32, r12 = some (.int x14) ∧ Q (some (.int x14)) hs13))))) : mx_Ok mx_S0 l G (d + 1) mm_LBStore_outcome 0 [(0, .ref l0), (1, .ref l1), (2, .int l2)] [] hs Q := by
  refine mx_iload_n d_LBStore_outcome_0 rfl 2 rfl ?_
  by_cases c0_ : l2 = 1
  · replace h := h.1 c0_
    refine mx_tableIn d_LBStore_outcome_1 (by rw [c0_]; decide) (by rw [c0_]; decide) (o := 27) (by rw [c0_]; decide) (tgt := 28) (by decide) ?_
    refine mx_aload_nR d_LBStore_outcome_28 rfl 0 rfl ?_
    refine mx_aload_nR d_LBStore_outcome_29 rfl 1 rfl ?_
    obtain ⟨⟨fs4, e1_⟩, h⟩ := h
    refine mx_invV (Y := mm_LBStore_productOf) (As := [.ref l1]) (rest := []) d_LBStore_outcome_30.1 ok_LBStore_productOf kw_170 kw_171 kw_172 rfl rfl (Nat.le_of_ble_eq_true rfl) (Nat.le_of_ble_eq_true rfl) e1_ (q := mx_cl0_4) rfl rfl h (fun r1 hs2 h => ?_)
    obtain ⟨x3, e9_, h⟩ := h
    subst e9_
    show mx_Ok mx_S0 l G (d + 1) mm_LBStore_outcome 33 [(0, .ref l0), (1, .ref l1), (2, .int l2)] [.int x3] hs2 Q
    exact mx_ireturn d_LBStore_outcome_33 rfl rfl h
  by_cases c1_ : l2 = 2
  · replace h := h.2.1 c1_
    refine mx_tableIn d_LBStore_outcome_1 (by rw [c1_]; decide) (by rw [c1_]; decide) (o := 33) (by rw [c1_]; decide) (tgt := 34) (by decide) ?_
    refine mx_aload_nR d_LBStore_outcome_34 rfl 0 rfl ?_
    refine mx_aload_nR d_LBStore_outcome_35 rfl 1 rfl ?_
    obtain ⟨⟨fs8, e1_⟩, h⟩ := h
    refine mx_invV (Y := mm_LBStore_greatestOf) (As := [.ref l1]) (rest := []) d_LBStore_outcome_36.1 ok_LBStore_greatestOf kw_163 kw_164 kw_165 rfl rfl (Nat.le_of_ble_eq_true rfl) (Nat.le_of_ble_eq_true rfl) e1_ (q := mx_cl0_4) rfl rfl h (fun r5 hs6 h => ?_)
    obtain ⟨x7, e9_, h⟩ := h
    subst e9_
    show mx_Ok mx_S0 l G (d + 1) mm_LBStore_outcome 39 [(0, .ref l0), (1, .ref l1), (2, .int l2)] [.int x7] hs6 Q
    exact mx_ireturn d_LBStore_outcome_39 rfl rfl h
  by_cases c2_ : l2 = 3
  · replace h := h.2.2.1 c2_
    refine mx_tableIn d_LBStore_outcome_1 (by rw [c2_]; decide) (by rw [c2_]; decide) (o := 39) (by rw [c2_]; decide) (tgt := 40) (by decide) ?_
    refine mx_aload_nR d_LBStore_outcome_40 rfl 1 rfl ?_
    obtain ⟨a10, ⟨fs9, e1_, e2_⟩, h⟩ := h
    refine mx_get d_LBStore_outcome_41 (ci := 3) (k := 1) (q := mx_cl0_3) rfl (Nat.le_of_ble_eq_true rfl) kw_158 e1_ e2_ ?_
    obtain ⟨vs11, e1_, h⟩ := h
    refine mx_alen d_LBStore_outcome_44 (k := 102) rfl e1_ ?_
    exact mx_ireturn d_LBStore_outcome_45 rfl rfl h
  replace h := h.2.2.2 c0_ c1_ c2_
  have z0_ := lv_neT c0_ (a := 1) (by decide)
  have z1_ := lv_neT c1_ (a := 2) (by decide)
  have z2_ := lv_neT c2_ (a := 3) (by decide)
  refine mx_tableOut d_LBStore_outcome_1 (by omega) (tgt := 46) (by decide) ?_
  refine mx_aload_nR d_LBStore_outcome_46 rfl 0 rfl ?_
  refine mx_aload_nR d_LBStore_outcome_47 rfl 1 rfl ?_
  obtain ⟨⟨fs15, e1_⟩, h⟩ := h
  refine mx_invV (Y := mm_LBStore_sumOf) (As := [.ref l1]) (rest := []) d_LBStore_outcome_48.1 ok_LBStore_sumOf kw_173 kw_174 kw_175 rfl rfl (Nat.le_of_ble_eq_true rfl) (Nat.le_of_ble_eq_true rfl) e1_ (q := mx_cl0_4) rfl rfl h (fun r12 hs13 h => ?_)
  obtain ⟨x14, e9_, h⟩ := h
  subst e9_
  show mx_Ok mx_S0 l G (d + 1) mm_LBStore_outcome 51 [(0, .ref l0), (1, .ref l1), (2, .int l2)] [.int x14] hs13 Q
  exact mx_ireturn d_LBStore_outcome_51 rfl rfl h
set_option maxRecDepth 100000 in
theorem wp_LBStore_sumOf_0 {l : Launch} {G : mx_G} {d : Nat} {hs : mx_H} {Q : Option Value → mx_H → Prop} (l0 : Nat) (l1 : Nat) (h : mx_Ok mx_S0 l G (d + 1) mm_LBStore_sumOf 4 [(0, .ref l0), (1, .ref l1), (2, .int 0), (3, .int 0)] [] hs Q) : mx_Ok mx_S0 l G (d + 1) mm_LBStore_sumOf 0 [(0, .ref l0), (1, .ref l1)] [] hs Q := by
  refine mx_iconst (v := 0) d_LBStore_sumOf_0 (by decide) ?_
  refine mx_istore_n (lv2 := [(2, .int 0), (0, .ref l0), (1, .ref l1)]) d_LBStore_sumOf_1 rfl (Nat.le_of_ble_eq_true rfl) rfl ?_
  refine mx_iconst (v := 0) d_LBStore_sumOf_2 (by decide) ?_
  refine mx_istore_n (lv2 := [(3, .int 0), (2, .int 0), (0, .ref l0), (1, .ref l1)]) d_LBStore_sumOf_3 rfl (Nat.le_of_ble_eq_true rfl) rfl ?_
  exact mx_sub [2, 3, 1, 0] rfl h
set_option maxRecDepth 100000 in
theorem wp_LBStore_sumOf_4 {l : Launch} {G : mx_G} {d : Nat} {hs : mx_H} {Q : Option Value → mx_H → Prop} (l0 : Nat) (l1 : Nat) (l2 : Int32) (l3 : Int32) (h : (∃ (a2 : Nat), mx_f hs l1 3 1 (.ref a2) ∧ (∃ vs3 : List Value, hs.1 a2 = some (102, vs3) ∧ (((Int32.ofNat vs3.length) ≤ l3 → Q (some (.int l2)) hs) ∧ (¬ ((Int32.ofNat vs3.length) ≤ l3) → (∃ (a5 : Nat), mx_f hs l1 3 1 (.ref a5) ∧ (∃ (vs6 : List Value) (x7 : Int64), hs.1 a5 = some (102, vs6) ∧ ¬ l3 < 0 ∧ vs6[Int32.toNatClampNeg l3]? = some (.long x7) ∧ ((∃ fs11 : List Value, hs.1 l0 = some (4, fs11)) ∧ mx_C mx_S0 l G d mm_LBStore_readyPart [.ref l0, .long x7] hs (fun (r8 : Option Value) (hs9 : mx_H) => ∃ x10 : Int32, r8 = some (.int x10) ∧ mx_Ok mx_S0 l G (d + 1) mm_LBStore_sumOf 4 [(0, .ref l0), (1, .ref l1), (2, .int (l2 + x10)), (3, .int (l3 + 1))] [] hs9 Q))))))))) : mx_Ok mx_S0 l G (d + 1) mm_LBStore_sumOf 4 [(0, .ref l0), (1, .ref l1), (2, .int l2), (3, .int l3)] [] hs Q := by
  refine mx_iload_n d_LBStore_sumOf_4 rfl 3 rfl ?_
  refine mx_aload_nR d_LBStore_sumOf_5 rfl 1 rfl ?_
  obtain ⟨a2, ⟨fs1, e1_, e2_⟩, h⟩ := h
  refine mx_get d_LBStore_sumOf_6 (ci := 3) (k := 1) (q := mx_cl0_3) rfl (Nat.le_of_ble_eq_true rfl) kw_158 e1_ e2_ ?_
  obtain ⟨vs3, e1_, h⟩ := h
  refine mx_alen d_LBStore_sumOf_9 (k := 102) rfl e1_ ?_
  refine mx_icmp_ge d_LBStore_sumOf_10 (fun c9 => ?_) (fun c9 => ?_)
  · replace h := h.1 c9
    refine mx_iload_n d_LBStore_sumOf_32 rfl 2 rfl ?_
    exact mx_ireturn d_LBStore_sumOf_33 rfl rfl h
  · replace h := h.2 c9
    refine mx_iload_n d_LBStore_sumOf_13 rfl 2 rfl ?_
    refine mx_aload_nR d_LBStore_sumOf_14 rfl 0 rfl ?_
    refine mx_aload_nR d_LBStore_sumOf_15 rfl 1 rfl ?_
    obtain ⟨a5, ⟨fs4, e1_, e2_⟩, h⟩ := h
    refine mx_get d_LBStore_sumOf_16 (ci := 3) (k := 1) (q := mx_cl0_3) rfl (Nat.le_of_ble_eq_true rfl) kw_158 e1_ e2_ ?_
    refine mx_iload_n d_LBStore_sumOf_19 rfl 3 rfl ?_
    obtain ⟨vs6, x7, e1_, e2_, e3_, h⟩ := h
    refine mx_lald d_LBStore_sumOf_20 (k := 102) rfl e1_ e2_ e3_ ?_
    obtain ⟨⟨fs11, e1_⟩, h⟩ := h
    refine mx_invV (Y := mm_LBStore_readyPart) (As := [.long x7]) (rest := [.int l2]) d_LBStore_sumOf_21.1 ok_LBStore_readyPart kw_176 kw_177 kw_178 rfl rfl (Nat.le_of_ble_eq_true rfl) (Nat.le_of_ble_eq_true rfl) e1_ (q := mx_cl0_4) rfl rfl h (fun r8 hs9 h => ?_)
    obtain ⟨x10, e9_, h⟩ := h
    subst e9_
    show mx_Ok mx_S0 l G (d + 1) mm_LBStore_sumOf 24 [(0, .ref l0), (1, .ref l1), (2, .int l2), (3, .int l3)] [.int x10, .int l2] hs9 Q
    refine mx_iadd d_LBStore_sumOf_24 ?_
    refine mx_istore_n (lv2 := [(2, .int (l2 + x10)), (0, .ref l0), (1, .ref l1), (3, .int l3)]) d_LBStore_sumOf_25 rfl (Nat.le_of_ble_eq_true rfl) rfl ?_
    refine mx_iinc (v := l3 + 1) (lv2 := [(3, .int (l3 + 1)), (2, .int (l2 + x10)), (0, .ref l0), (1, .ref l1)]) d_LBStore_sumOf_26 3 rfl (by rfl) (Nat.le_of_ble_eq_true rfl) rfl ?_
    refine mx_goto d_LBStore_sumOf_29 ?_
    exact mx_sub [2, 3, 1, 0] rfl h
set_option maxRecDepth 100000 in
theorem wp_LBStore_productOf_0 {l : Launch} {G : mx_G} {d : Nat} {hs : mx_H} {Q : Option Value → mx_H → Prop} (l0 : Nat) (l1 : Nat) (h : mx_Ok mx_S0 l G (d + 1) mm_LBStore_productOf 4 [(0, .ref l0), (1, .ref l1), (2, .int 1), (3, .int 0)] [] hs Q) : mx_Ok mx_S0 l G (d + 1) mm_LBStore_productOf 0 [(0, .ref l0), (1, .ref l1)] [] hs Q := by
  refine mx_iconst (v := 1) d_LBStore_productOf_0 (by decide) ?_
  refine mx_istore_n (lv2 := [(2, .int 1), (0, .ref l0), (1, .ref l1)]) d_LBStore_productOf_1 rfl (Nat.le_of_ble_eq_true rfl) rfl ?_
  refine mx_iconst (v := 0) d_LBStore_productOf_2 (by decide) ?_
  refine mx_istore_n (lv2 := [(3, .int 0), (2, .int 1), (0, .ref l0), (1, .ref l1)]) d_LBStore_productOf_3 rfl (Nat.le_of_ble_eq_true rfl) rfl ?_
  exact mx_sub [2, 3, 1, 0] rfl h
set_option maxRecDepth 100000 in
theorem wp_LBStore_productOf_4 {l : Launch} {G : mx_G} {d : Nat} {hs : mx_H} {Q : Option Value → mx_H → Prop} (l0 : Nat) (l1 : Nat) (l2 : Int32) (l3 : Int32) (h : (∃ (a2 : Nat), mx_f hs l1 3 1 (.ref a2) ∧ (∃ vs3 : List Value, hs.1 a2 = some (102, vs3) ∧ (((Int32.ofNat vs3.length) ≤ l3 → Q (some (.int l2)) hs) ∧ (¬ ((Int32.ofNat vs3.length) ≤ l3) → (∃ (a5 : Nat), mx_f hs l1 3 1 (.ref a5) ∧ (∃ (vs6 : List Value) (x7 : Int64), hs.1 a5 = some (102, vs6) ∧ ¬ l3 < 0 ∧ vs6[Int32.toNatClampNeg l3]? = some (.long x7) ∧ ((∃ fs11 : List Value, hs.1 l0 = some (4, fs11)) ∧ mx_C mx_S0 l G d mm_LBStore_readyPart [.ref l0, .long x7] hs (fun (r8 : Option Value) (hs9 : mx_H) => ∃ x10 : Int32, r8 = some (.int x10) ∧ mx_Ok mx_S0 l G (d + 1) mm_LBStore_productOf 4 [(0, .ref l0), (1, .ref l1), (2, .int (l2 * x10)), (3, .int (l3 + 1))] [] hs9 Q))))))))) : mx_Ok mx_S0 l G (d + 1) mm_LBStore_productOf 4 [(0, .ref l0), (1, .ref l1), (2, .int l2), (3, .int l3)] [] hs Q := by
  refine mx_iload_n d_LBStore_productOf_4 rfl 3 rfl ?_
  refine mx_aload_nR d_LBStore_productOf_5 rfl 1 rfl ?_
  obtain ⟨a2, ⟨fs1, e1_, e2_⟩, h⟩ := h
  refine mx_get d_LBStore_productOf_6 (ci := 3) (k := 1) (q := mx_cl0_3) rfl (Nat.le_of_ble_eq_true rfl) kw_158 e1_ e2_ ?_
  obtain ⟨vs3, e1_, h⟩ := h
  refine mx_alen d_LBStore_productOf_9 (k := 102) rfl e1_ ?_
  refine mx_icmp_ge d_LBStore_productOf_10 (fun c9 => ?_) (fun c9 => ?_)
  · replace h := h.1 c9
    refine mx_iload_n d_LBStore_productOf_32 rfl 2 rfl ?_
    exact mx_ireturn d_LBStore_productOf_33 rfl rfl h
  · replace h := h.2 c9
    refine mx_iload_n d_LBStore_productOf_13 rfl 2 rfl ?_
    refine mx_aload_nR d_LBStore_productOf_14 rfl 0 rfl ?_
    refine mx_aload_nR d_LBStore_productOf_15 rfl 1 rfl ?_
    obtain ⟨a5, ⟨fs4, e1_, e2_⟩, h⟩ := h
    refine mx_get d_LBStore_productOf_16 (ci := 3) (k := 1) (q := mx_cl0_3) rfl (Nat.le_of_ble_eq_true rfl) kw_158 e1_ e2_ ?_
    refine mx_iload_n d_LBStore_productOf_19 rfl 3 rfl ?_
    obtain ⟨vs6, x7, e1_, e2_, e3_, h⟩ := h
    refine mx_lald d_LBStore_productOf_20 (k := 102) rfl e1_ e2_ e3_ ?_
    obtain ⟨⟨fs11, e1_⟩, h⟩ := h
    refine mx_invV (Y := mm_LBStore_readyPart) (As := [.long x7]) (rest := [.int l2]) d_LBStore_productOf_21.1 ok_LBStore_readyPart kw_176 kw_177 kw_178 rfl rfl (Nat.le_of_ble_eq_true rfl) (Nat.le_of_ble_eq_true rfl) e1_ (q := mx_cl0_4) rfl rfl h (fun r8 hs9 h => ?_)
    obtain ⟨x10, e9_, h⟩ := h
    subst e9_
    show mx_Ok mx_S0 l G (d + 1) mm_LBStore_productOf 24 [(0, .ref l0), (1, .ref l1), (2, .int l2), (3, .int l3)] [.int x10, .int l2] hs9 Q
    refine mx_imul d_LBStore_productOf_24 ?_
    refine mx_istore_n (lv2 := [(2, .int (l2 * x10)), (0, .ref l0), (1, .ref l1), (3, .int l3)]) d_LBStore_productOf_25 rfl (Nat.le_of_ble_eq_true rfl) rfl ?_
    refine mx_iinc (v := l3 + 1) (lv2 := [(3, .int (l3 + 1)), (2, .int (l2 * x10)), (0, .ref l0), (1, .ref l1)]) d_LBStore_productOf_26 3 rfl (by rfl) (Nat.le_of_ble_eq_true rfl) rfl ?_
    refine mx_goto d_LBStore_productOf_29 ?_
    exact mx_sub [2, 3, 1, 0] rfl h
set_option maxRecDepth 100000 in
theorem wp_LBStore_greatestOf_0 {l : Launch} {G : mx_G} {d : Nat} {hs : mx_H} {Q : Option Value → mx_H → Prop} (l0 : Nat) (l1 : Nat) (h : (∃ (a2 : Nat), mx_f hs l1 3 1 (.ref a2) ∧ (∃ vs3 : List Value, hs.1 a2 = some (102, vs3) ∧ ((¬ (Int32.ofNat vs3.length) = 0 → (∃ (a5 : Nat), mx_f hs l1 3 1 (.ref a5) ∧ (∃ (vs6 : List Value) (x7 : Int64), hs.1 a5 = some (102, vs6) ∧ ¬ (0 : Int32) < 0 ∧ vs6[Int32.toNatClampNeg 0]? = some (.long x7) ∧ ((∃ fs11 : List Value, hs.1 l0 = some (4, fs11)) ∧ mx_C mx_S0 l G d mm_LBStore_readyPart [.ref l0, .long x7] hs (fun (r8 : Option Value) (hs9 : mx_H) => ∃ x10 : Int32, r8 = some (.int x10) ∧ mx_Ok mx_S0 l G (d + 1) mm_LBStore_greatestOf 23 [(0, .ref l0), (1, .ref l1), (2, .int x10), (3, .int 1)] [] hs9 Q))))) ∧ (¬ (¬ (Int32.ofNat vs3.length) = 0) → Q (some (.int 0)) hs))))) : mx_Ok mx_S0 l G (d + 1) mm_LBStore_greatestOf 0 [(0, .ref l0), (1, .ref l1)] [] hs Q := by
  refine mx_aload_nR d_LBStore_greatestOf_0 rfl 1 rfl ?_
  obtain ⟨a2, ⟨fs1, e1_, e2_⟩, h⟩ := h
  refine mx_get d_LBStore_greatestOf_1 (ci := 3) (k := 1) (q := mx_cl0_3) rfl (Nat.le_of_ble_eq_true rfl) kw_158 e1_ e2_ ?_
  obtain ⟨vs3, e1_, h⟩ := h
  refine mx_alen d_LBStore_greatestOf_4 (k := 102) rfl e1_ ?_
  refine mx_if_ne d_LBStore_greatestOf_5 (fun c9 => ?_) (fun c9 => ?_)
  · replace h := h.1 c9
    refine mx_aload_nR d_LBStore_greatestOf_10 rfl 0 rfl ?_
    refine mx_aload_nR d_LBStore_greatestOf_11 rfl 1 rfl ?_
    obtain ⟨a5, ⟨fs4, e1_, e2_⟩, h⟩ := h
    refine mx_get d_LBStore_greatestOf_12 (ci := 3) (k := 1) (q := mx_cl0_3) rfl (Nat.le_of_ble_eq_true rfl) kw_158 e1_ e2_ ?_
    refine mx_iconst (v := 0) d_LBStore_greatestOf_15 (by decide) ?_
    obtain ⟨vs6, x7, e1_, e2_, e3_, h⟩ := h
    refine mx_lald d_LBStore_greatestOf_16 (k := 102) rfl e1_ e2_ e3_ ?_
    obtain ⟨⟨fs11, e1_⟩, h⟩ := h
    refine mx_invV (Y := mm_LBStore_readyPart) (As := [.long x7]) (rest := []) d_LBStore_greatestOf_17.1 ok_LBStore_readyPart kw_176 kw_177 kw_178 rfl rfl (Nat.le_of_ble_eq_true rfl) (Nat.le_of_ble_eq_true rfl) e1_ (q := mx_cl0_4) rfl rfl h (fun r8 hs9 h => ?_)
    obtain ⟨x10, e9_, h⟩ := h
    subst e9_
    show mx_Ok mx_S0 l G (d + 1) mm_LBStore_greatestOf 20 [(0, .ref l0), (1, .ref l1)] [.int x10] hs9 Q
    refine mx_istore_n (lv2 := [(2, .int x10), (0, .ref l0), (1, .ref l1)]) d_LBStore_greatestOf_20 rfl (Nat.le_of_ble_eq_true rfl) rfl ?_
    refine mx_iconst (v := 1) d_LBStore_greatestOf_21 (by decide) ?_
    refine mx_istore_n (lv2 := [(3, .int 1), (2, .int x10), (0, .ref l0), (1, .ref l1)]) d_LBStore_greatestOf_22 rfl (Nat.le_of_ble_eq_true rfl) rfl ?_
    exact mx_sub [2, 3, 1, 0] rfl h
  · replace h := h.2 c9
    refine mx_iconst (v := 0) d_LBStore_greatestOf_8 (by decide) ?_
    exact mx_ireturn d_LBStore_greatestOf_9 rfl rfl h
set_option maxRecDepth 100000 in
theorem wp_LBStore_greatestOf_23 {l : Launch} {G : mx_G} {d : Nat} {hs : mx_H} {Q : Option Value → mx_H → Prop} (l0 : Nat) (l1 : Nat) (l2 : Int32) (l3 : Int32) (h : (∃ (a2 : Nat), mx_f hs l1 3 1 (.ref a2) ∧ (∃ vs3 : List Value, hs.1 a2 = some (102, vs3) ∧ (((Int32.ofNat vs3.length) ≤ l3 → Q (some (.int l2)) hs) ∧ (¬ ((Int32.ofNat vs3.length) ≤ l3) → (∃ (a5 : Nat), mx_f hs l1 3 1 (.ref a5) ∧ (∃ (vs6 : List Value) (x7 : Int64), hs.1 a5 = some (102, vs6) ∧ ¬ l3 < 0 ∧ vs6[Int32.toNatClampNeg l3]? = some (.long x7) ∧ ((∃ fs11 : List Value, hs.1 l0 = some (4, fs11)) ∧ mx_C mx_S0 l G d mm_LBStore_readyPart [.ref l0, .long x7] hs (fun (r8 : Option Value) (hs9 : mx_H) => ∃ x10 : Int32, r8 = some (.int x10) ∧ mx_Ok mx_S0 l G (d + 1) mm_LBStore_greatestOf 23 [(0, .ref l0), (1, .ref l1), (2, .int (if l2 < x10 then x10 else l2)), (3, .int (l3 + 1))] [] hs9 Q))))))))) : mx_Ok mx_S0 l G (d + 1) mm_LBStore_greatestOf 23 [(0, .ref l0), (1, .ref l1), (2, .int l2), (3, .int l3)] [] hs Q := by
  refine mx_iload_n d_LBStore_greatestOf_23 rfl 3 rfl ?_
  refine mx_aload_nR d_LBStore_greatestOf_24 rfl 1 rfl ?_
  obtain ⟨a2, ⟨fs1, e1_, e2_⟩, h⟩ := h
  refine mx_get d_LBStore_greatestOf_25 (ci := 3) (k := 1) (q := mx_cl0_3) rfl (Nat.le_of_ble_eq_true rfl) kw_158 e1_ e2_ ?_
  obtain ⟨vs3, e1_, h⟩ := h
  refine mx_alen d_LBStore_greatestOf_28 (k := 102) rfl e1_ ?_
  refine mx_icmp_ge d_LBStore_greatestOf_29 (fun c9 => ?_) (fun c9 => ?_)
  · replace h := h.1 c9
    refine mx_iload_n d_LBStore_greatestOf_53 rfl 2 rfl ?_
    exact mx_ireturn d_LBStore_greatestOf_54 rfl rfl h
  · replace h := h.2 c9
    refine mx_iload_n d_LBStore_greatestOf_32 rfl 2 rfl ?_
    refine mx_aload_nR d_LBStore_greatestOf_33 rfl 0 rfl ?_
    refine mx_aload_nR d_LBStore_greatestOf_34 rfl 1 rfl ?_
    obtain ⟨a5, ⟨fs4, e1_, e2_⟩, h⟩ := h
    refine mx_get d_LBStore_greatestOf_35 (ci := 3) (k := 1) (q := mx_cl0_3) rfl (Nat.le_of_ble_eq_true rfl) kw_158 e1_ e2_ ?_
    refine mx_iload_n d_LBStore_greatestOf_38 rfl 3 rfl ?_
    obtain ⟨vs6, x7, e1_, e2_, e3_, h⟩ := h
    refine mx_lald d_LBStore_greatestOf_39 (k := 102) rfl e1_ e2_ e3_ ?_
    obtain ⟨⟨fs11, e1_⟩, h⟩ := h
    refine mx_invV (Y := mm_LBStore_readyPart) (As := [.long x7]) (rest := [.int l2]) d_LBStore_greatestOf_40.1 ok_LBStore_readyPart kw_176 kw_177 kw_178 rfl rfl (Nat.le_of_ble_eq_true rfl) (Nat.le_of_ble_eq_true rfl) e1_ (q := mx_cl0_4) rfl rfl h (fun r8 hs9 h => ?_)
    obtain ⟨x10, e9_, h⟩ := h
    subst e9_
    show mx_Ok mx_S0 l G (d + 1) mm_LBStore_greatestOf 43 [(0, .ref l0), (1, .ref l1), (2, .int l2), (3, .int l3)] [.int x10, .int l2] hs9 Q
    refine mx_mmax d_LBStore_greatestOf_43 kw_179 k_mmax1 k_mmax2 k_mmax3 (Nat.le_of_ble_eq_true rfl) ?_
    refine mx_istore_n (lv2 := [(2, .int (if l2 < x10 then x10 else l2)), (0, .ref l0), (1, .ref l1), (3, .int l3)]) d_LBStore_greatestOf_46 rfl (Nat.le_of_ble_eq_true rfl) rfl ?_
    refine mx_iinc (v := l3 + 1) (lv2 := [(3, .int (l3 + 1)), (2, .int (if l2 < x10 then x10 else l2)), (0, .ref l0), (1, .ref l1)]) d_LBStore_greatestOf_47 3 rfl (by rfl) (Nat.le_of_ble_eq_true rfl) rfl ?_
    refine mx_goto d_LBStore_greatestOf_50 ?_
    exact mx_sub [2, 3, 1, 0] rfl h
set_option maxRecDepth 100000 in
theorem wp_LBStore_readyPart_0 {l : Launch} {G : mx_G} {d : Nat} {hs : mx_H} {Q : Option Value → mx_H → Prop} (l0 : Nat) (l1 : Int64) (h : ((∃ fs7 : List Value, hs.1 l0 = some (4, fs7)) ∧ mx_C mx_S0 l G d mm_LBStore_planIn [.ref l0, .long l1] hs (fun (r1 : Option Value) (hs2 : mx_H) => ∃ v3 : Value, r1 = some v3 ∧ (v3 = .null ∨ ∃ z, v3 = .ref z) ∧ ((v3 = .null → Q (some (.int (Int64.toInt32 l1))) hs2) ∧ (∀ a4 : Nat, v3 = .ref a4 → (∃ (x6 : Int32), mx_f hs2 a4 3 5 (.int x6) ∧ Q (some (.int x6)) hs2)))))) : mx_Ok mx_S0 l G (d + 1) mm_LBStore_readyPart 0 [(0, .ref l0), (1, .long l1)] [] hs Q := by
  refine mx_aload_nR d_LBStore_readyPart_0 rfl 0 rfl ?_
  refine mx_lload_n d_LBStore_readyPart_1 rfl 1 rfl ?_
  obtain ⟨⟨fs7, e1_⟩, h⟩ := h
  refine mx_invV (Y := mm_LBStore_planIn) (As := [.long l1]) (rest := []) d_LBStore_readyPart_2.1 ok_LBStore_planIn kw_155 kw_156 kw_157 rfl rfl (Nat.le_of_ble_eq_true rfl) (Nat.le_of_ble_eq_true rfl) e1_ (q := mx_cl0_4) rfl rfl h (fun r1 hs2 h => ?_)
  obtain ⟨v3, e9_, hv3, h⟩ := h
  subst e9_
  show mx_Ok mx_S0 l G (d + 1) mm_LBStore_readyPart 5 [(0, .ref l0), (1, .long l1)] [v3] hs2 Q
  refine mx_astore_n (lv2 := [(3, v3), (0, .ref l0), (1, .long l1)]) d_LBStore_readyPart_5 rfl (Nat.le_of_ble_eq_true rfl) rfl hv3 ?_
  refine mx_aload_n d_LBStore_readyPart_6 rfl 0 rfl hv3 ?_
  refine mx_ifnonnull d_LBStore_readyPart_7 hv3 (fun a4 c9 => ?_) (fun c9 => ?_)
  · replace h := h.2 a4 c9
    subst c9
    refine mx_aload_nR d_LBStore_readyPart_15 rfl 0 rfl ?_
    obtain ⟨x6, ⟨fs5, e1_, e2_⟩, h⟩ := h
    refine mx_get d_LBStore_readyPart_16 (ci := 3) (k := 5) (q := mx_cl0_3) rfl (Nat.le_of_ble_eq_true rfl) kw_154 e1_ e2_ ?_
    exact mx_ireturn d_LBStore_readyPart_19 rfl rfl h
  · replace h := h.1 c9
    subst c9
    refine mx_lload_n d_LBStore_readyPart_10 rfl 2 rfl ?_
    refine mx_l2i d_LBStore_readyPart_11 ?_
    refine mx_goto d_LBStore_readyPart_12 ?_
    exact mx_ireturn d_LBStore_readyPart_19 rfl rfl h
set_option maxRecDepth 100000 in
theorem wp_LBStore_sweep_0 {l : Launch} {G : mx_G} {d : Nat} {hs : mx_H} {Q : Option Value → mx_H → Prop} (l0 : Nat) (h : mx_Ok mx_S0 l G (d + 1) mm_LBStore_sweep 2 [(0, .ref l0), (1, .int 0)] [] hs Q) : mx_Ok mx_S0 l G (d + 1) mm_LBStore_sweep 0 [(0, .ref l0)] [] hs Q := by
  refine mx_iconst (v := 0) d_LBStore_sweep_0 (by decide) ?_
  refine mx_istore_n (lv2 := [(1, .int 0), (0, .ref l0)]) d_LBStore_sweep_1 rfl (Nat.le_of_ble_eq_true rfl) rfl ?_
  exact mx_sub [1, 0] rfl h
set_option maxRecDepth 100000 in
theorem wp_LBStore_sweep_2 {l : Launch} {G : mx_G} {d : Nat} {hs : mx_H} {Q : Option Value → mx_H → Prop} (l0 : Nat) (l1 : Int32) (h : (∃ (x2 : Int32), mx_f hs l0 4 2 (.int x2) ∧ ((x2 ≤ l1 → (∃ (x4 : Int32), mx_f hs l0 4 2 (.int x4) ∧ mx_Ok mx_S0 l G (d + 1) mm_LBStore_sweep 43 [(0, .ref l0), (1, .int 0), (2, .int (x4 - 1))] [] hs Q)) ∧ (¬ (x2 ≤ l1) → (∃ (a6 : Nat), mx_f hs l0 4 0 (.ref a6) ∧ (∃ (vs7 : List Value) (a8 : Nat), hs.1 a6 = some (113, vs7) ∧ ¬ l1 < 0 ∧ vs7[Int32.toNatClampNeg l1]? = some (.ref a8) ∧ (∃ (a10 : Nat), mx_f hs l0 4 0 (.ref a10) ∧ (∃ (vs11 : List Value) (a12 : Nat), hs.1 a10 = some (113, vs11) ∧ ¬ l1 < 0 ∧ vs11[Int32.toNatClampNeg l1]? = some (.ref a12) ∧ (∃ (x14 : Int32), mx_f hs a12 3 3 (.int x14) ∧ ((x14 = 0 ∨ x14 = 1) ∧ ∃ fs15 : List Value, hs.1 a8 = some (3, fs15) ∧ ∀ hs16 : mx_H, hs16 = mx_st hs a8 (3, fs15.set 4 (.int x14)) → mx_Ok mx_S0 l G (d + 1) mm_LBStore_sweep 2 [(0, .ref l0), (1, .int (l1 + 1))] [] hs16 Q)))))))))) : mx_Ok mx_S0 l G (d + 1) mm_LBStore_sweep 2 [(0, .ref l0), (1, .int l1)] [] hs Q := by
  refine mx_iload_n d_LBStore_sweep_2 rfl 1 rfl ?_
  refine mx_aload_nR d_LBStore_sweep_3 rfl 0 rfl ?_
  obtain ⟨x2, ⟨fs1, e1_, e2_⟩, h⟩ := h
  refine mx_get d_LBStore_sweep_4 (ci := 4) (k := 2) (q := mx_cl0_4) rfl (Nat.le_of_ble_eq_true rfl) kw_134 e1_ e2_ ?_
  refine mx_icmp_ge d_LBStore_sweep_7 (fun c9 => ?_) (fun c9 => ?_)
  · replace h := h.1 c9
    refine mx_iconst (v := 0) d_LBStore_sweep_34 (by decide) ?_
    refine mx_istore_n (lv2 := [(1, .int 0), (0, .ref l0)]) d_LBStore_sweep_35 rfl (Nat.le_of_ble_eq_true rfl) rfl ?_
    refine mx_aload_nR d_LBStore_sweep_36 rfl 1 rfl ?_
    obtain ⟨x4, ⟨fs3, e1_, e2_⟩, h⟩ := h
    refine mx_get d_LBStore_sweep_37 (ci := 4) (k := 2) (q := mx_cl0_4) rfl (Nat.le_of_ble_eq_true rfl) kw_134 e1_ e2_ ?_
    refine mx_iconst (v := 1) d_LBStore_sweep_40 (by decide) ?_
    refine mx_isub d_LBStore_sweep_41 ?_
    refine mx_istore_n (lv2 := [(2, .int (x4 - 1)), (1, .int 0), (0, .ref l0)]) d_LBStore_sweep_42 rfl (Nat.le_of_ble_eq_true rfl) rfl ?_
    exact mx_sub [2, 1, 0] rfl h
  · replace h := h.2 c9
    refine mx_aload_nR d_LBStore_sweep_10 rfl 0 rfl ?_
    obtain ⟨a6, ⟨fs5, e1_, e2_⟩, h⟩ := h
    refine mx_get d_LBStore_sweep_11 (ci := 4) (k := 0) (q := mx_cl0_4) rfl (Nat.le_of_ble_eq_true rfl) kw_132 e1_ e2_ ?_
    refine mx_iload_n d_LBStore_sweep_14 rfl 1 rfl ?_
    obtain ⟨vs7, a8, e1_, e2_, e3_, h⟩ := h
    refine mx_aald (C := "LazyBuilder$Plan") d_LBStore_sweep_15 (k := 113) rfl e1_ e2_ e3_ ?_
    refine mx_aload_nR d_LBStore_sweep_16 rfl 0 rfl ?_
    obtain ⟨a10, ⟨fs9, e1_, e2_⟩, h⟩ := h
    refine mx_get d_LBStore_sweep_17 (ci := 4) (k := 0) (q := mx_cl0_4) rfl (Nat.le_of_ble_eq_true rfl) kw_132 e1_ e2_ ?_
    refine mx_iload_n d_LBStore_sweep_20 rfl 1 rfl ?_
    obtain ⟨vs11, a12, e1_, e2_, e3_, h⟩ := h
    refine mx_aald (C := "LazyBuilder$Plan") d_LBStore_sweep_21 (k := 113) rfl e1_ e2_ e3_ ?_
    obtain ⟨x14, ⟨fs13, e1_, e2_⟩, h⟩ := h
    refine mx_get d_LBStore_sweep_22 (ci := 3) (k := 3) (q := mx_cl0_3) rfl (Nat.le_of_ble_eq_true rfl) kw_180 e1_ e2_ ?_
    obtain ⟨hb_, h⟩ := h
    obtain ⟨fs15, e1_, h⟩ := h
    refine mx_put d_LBStore_sweep_25 (ci := 3) (k := 4) (q := mx_cl0_3) (ty := .boolean) rfl (Nat.le_of_ble_eq_true rfl) kw_181 rfl (by decide +kernel) (mx_nz hb_) (mx_fz hb_) (by omega) e1_ ?_
    obtain ⟨hs16, hg_⟩ : ∃ x_, x_ = mx_st hs a8 (3, fs15.set 4 (.int x14)) := ⟨_, rfl⟩
    replace h := h hs16 hg_
    rw [← hg_]
    clear hg_
    refine mx_iinc (v := l1 + 1) (lv2 := [(1, .int (l1 + 1)), (0, .ref l0)]) d_LBStore_sweep_28 1 rfl (by rfl) (Nat.le_of_ble_eq_true rfl) rfl ?_
    refine mx_goto d_LBStore_sweep_31 ?_
    exact mx_sub [1, 0] rfl h
set_option maxRecDepth 100000 in
theorem wp_LBStore_sweep_43 {l : Launch} {G : mx_G} {d : Nat} {hs : mx_H} {Q : Option Value → mx_H → Prop} (l0 : Nat) (l1 : Int32) (l2 : Int32) (h : ((l2 < 0 → Q (some (.int l1)) hs) ∧ (¬ (l2 < 0) → (∃ (a2 : Nat), mx_f hs l0 4 0 (.ref a2) ∧ (∃ (vs3 : List Value) (a4 : Nat), hs.1 a2 = some (113, vs3) ∧ ¬ l2 < 0 ∧ vs3[Int32.toNatClampNeg l2]? = some (.ref a4) ∧ (∃ (x6 : Int32), mx_f hs a4 3 4 (.int x6) ∧ ((x6 = 0 → (∃ (a8 : Nat), mx_f hs l0 4 0 (.ref a8) ∧ (∃ (vs9 : List Value) (a10 : Nat), hs.1 a8 = some (113, vs9) ∧ ¬ l2 < 0 ∧ vs9[Int32.toNatClampNeg l2]? = some (.ref a10) ∧ (∃ (x12 : Int32), mx_f hs a10 3 2 (.int x12) ∧ ((x12 = 0 → mx_Ok mx_S0 l G (d + 1) mm_LBStore_sweep 107 [(0, .ref l0), (1, .int l1), (2, .int l2)] [] hs Q) ∧ (¬ (x12 = 0) → (∃ (a14 : Nat), mx_f hs l0 4 0 (.ref a14) ∧ (∃ (vs15 : List Value) (a16 : Nat), hs.1 a14 = some (113, vs15) ∧ ¬ l2 < 0 ∧ vs15[Int32.toNatClampNeg l2]? = some (.ref a16) ∧ (∃ fs17 : List Value, hs.1 a16 = some (3, fs17) ∧ ∀ hs18 : mx_H, hs18 = mx_st hs a16 (3, fs17.set 2 (.int 0)) → (∃ (a20 : Nat), mx_f hs18 l0 4 0 (.ref a20) ∧ (∃ (vs21 : List Value) (a22 : Nat), hs18.1 a20 = some (113, vs21) ∧ ¬ l2 < 0 ∧ vs21[Int32.toNatClampNeg l2]? = some (.ref a22) ∧ (∃ fs23 : List Value, hs18.1 a22 = some (3, fs23) ∧ ∀ hs24 : mx_H, hs24 = mx_st hs18 a22 (3, fs23.set 5 (.int 0)) → mx_Ok mx_S0 l G (d + 1) mm_LBStore_sweep 107 [(0, .ref l0), (1, .int (l1 + 1)), (2, .int l2)] [] hs24 Q)))))))))))) ∧ (¬ (x6 = 0) → (∃ (a26 : Nat), mx_f hs l0 4 0 (.ref a26) ∧ (∃ (vs27 : List Value) (a28 : Nat), hs.1 a26 = some (113, vs27) ∧ ¬ l2 < 0 ∧ vs27[Int32.toNatClampNeg l2]? = some (.ref a28) ∧ ((∃ fs31 : List Value, hs.1 l0 = some (4, fs31)) ∧ mx_C mx_S0 l G d mm_LBStore_wantInputs [.ref l0, .ref a28] hs (fun (r29 : Option Value) (hs30 : mx_H) => r29 = none ∧ mx_Ok mx_S0 l G (d + 1) mm_LBStore_sweep 107 [(0, .ref l0), (1, .int l1), (2, .int l2)] [] hs30 Q)))))))))))) : mx_Ok mx_S0 l G (d + 1) mm_LBStore_sweep 43 [(0, .ref l0), (1, .int l1), (2, .int l2)] [] hs Q := by
  refine mx_iload_n d_LBStore_sweep_43 rfl 2 rfl ?_
  refine mx_if_lt d_LBStore_sweep_44 (fun c9 => ?_) (fun c9 => ?_)
  · replace h := h.1 c9
    refine mx_iload_n d_LBStore_sweep_113 rfl 1 rfl ?_
    exact mx_ireturn d_LBStore_sweep_114 rfl rfl h
  · replace h := h.2 c9
    refine mx_aload_nR d_LBStore_sweep_47 rfl 0 rfl ?_
    obtain ⟨a2, ⟨fs1, e1_, e2_⟩, h⟩ := h
    refine mx_get d_LBStore_sweep_48 (ci := 4) (k := 0) (q := mx_cl0_4) rfl (Nat.le_of_ble_eq_true rfl) kw_132 e1_ e2_ ?_
    refine mx_iload_n d_LBStore_sweep_51 rfl 2 rfl ?_
    obtain ⟨vs3, a4, e1_, e2_, e3_, h⟩ := h
    refine mx_aald (C := "LazyBuilder$Plan") d_LBStore_sweep_52 (k := 113) rfl e1_ e2_ e3_ ?_
    obtain ⟨x6, ⟨fs5, e1_, e2_⟩, h⟩ := h
    refine mx_get d_LBStore_sweep_53 (ci := 3) (k := 4) (q := mx_cl0_3) rfl (Nat.le_of_ble_eq_true rfl) kw_181 e1_ e2_ ?_
    refine mx_if_eq d_LBStore_sweep_56 (fun c9 => ?_) (fun c9 => ?_)
    · replace h := h.1 c9
      refine mx_aload_nR d_LBStore_sweep_72 rfl 0 rfl ?_
      obtain ⟨a8, ⟨fs7, e1_, e2_⟩, h⟩ := h
      refine mx_get d_LBStore_sweep_73 (ci := 4) (k := 0) (q := mx_cl0_4) rfl (Nat.le_of_ble_eq_true rfl) kw_132 e1_ e2_ ?_
      refine mx_iload_n d_LBStore_sweep_76 rfl 2 rfl ?_
      obtain ⟨vs9, a10, e1_, e2_, e3_, h⟩ := h
      refine mx_aald (C := "LazyBuilder$Plan") d_LBStore_sweep_77 (k := 113) rfl e1_ e2_ e3_ ?_
      obtain ⟨x12, ⟨fs11, e1_, e2_⟩, h⟩ := h
      refine mx_get d_LBStore_sweep_78 (ci := 3) (k := 2) (q := mx_cl0_3) rfl (Nat.le_of_ble_eq_true rfl) kw_152 e1_ e2_ ?_
      refine mx_if_eq d_LBStore_sweep_81 (fun c9 => ?_) (fun c9 => ?_)
      · replace h := h.1 c9
        exact mx_sub [0, 1, 2] rfl h
      · replace h := h.2 c9
        refine mx_aload_nR d_LBStore_sweep_84 rfl 0 rfl ?_
        obtain ⟨a14, ⟨fs13, e1_, e2_⟩, h⟩ := h
        refine mx_get d_LBStore_sweep_85 (ci := 4) (k := 0) (q := mx_cl0_4) rfl (Nat.le_of_ble_eq_true rfl) kw_132 e1_ e2_ ?_
        refine mx_iload_n d_LBStore_sweep_88 rfl 2 rfl ?_
        obtain ⟨vs15, a16, e1_, e2_, e3_, h⟩ := h
        refine mx_aald (C := "LazyBuilder$Plan") d_LBStore_sweep_89 (k := 113) rfl e1_ e2_ e3_ ?_
        refine mx_iconst (v := 0) d_LBStore_sweep_90 (by decide) ?_
        obtain ⟨fs17, e1_, h⟩ := h
        refine mx_put d_LBStore_sweep_91 (ci := 3) (k := 2) (q := mx_cl0_3) (ty := .boolean) rfl (Nat.le_of_ble_eq_true rfl) kw_152 rfl (by decide +kernel) (mx_nz (Or.inl rfl)) (mx_fz (Or.inl rfl)) (by omega) e1_ ?_
        obtain ⟨hs18, hg_⟩ : ∃ x_, x_ = mx_st hs a16 (3, fs17.set 2 (.int 0)) := ⟨_, rfl⟩
        replace h := h hs18 hg_
        rw [← hg_]
        clear hg_
        refine mx_aload_nR d_LBStore_sweep_94 rfl 0 rfl ?_
        obtain ⟨a20, ⟨fs19, e1_, e2_⟩, h⟩ := h
        refine mx_get d_LBStore_sweep_95 (ci := 4) (k := 0) (q := mx_cl0_4) rfl (Nat.le_of_ble_eq_true rfl) kw_132 e1_ e2_ ?_
        refine mx_iload_n d_LBStore_sweep_98 rfl 2 rfl ?_
        obtain ⟨vs21, a22, e1_, e2_, e3_, h⟩ := h
        refine mx_aald (C := "LazyBuilder$Plan") d_LBStore_sweep_99 (k := 113) rfl e1_ e2_ e3_ ?_
        refine mx_iconst (v := 0) d_LBStore_sweep_100 (by decide) ?_
        obtain ⟨fs23, e1_, h⟩ := h
        refine mx_put d_LBStore_sweep_101 (ci := 3) (k := 5) (q := mx_cl0_3) (ty := .int) rfl (Nat.le_of_ble_eq_true rfl) kw_154 rfl (by decide +kernel) rfl rfl (by omega) e1_ ?_
        obtain ⟨hs24, hg_⟩ : ∃ x_, x_ = mx_st hs18 a22 (3, fs23.set 5 (.int 0)) := ⟨_, rfl⟩
        replace h := h hs24 hg_
        rw [← hg_]
        clear hg_
        refine mx_iinc (v := l1 + 1) (lv2 := [(1, .int (l1 + 1)), (0, .ref l0), (2, .int l2)]) d_LBStore_sweep_104 1 rfl (by rfl) (Nat.le_of_ble_eq_true rfl) rfl ?_
        exact mx_sub [1, 0, 2] rfl h
    · replace h := h.2 c9
      refine mx_aload_nR d_LBStore_sweep_59 rfl 0 rfl ?_
      refine mx_aload_nR d_LBStore_sweep_60 rfl 0 rfl ?_
      obtain ⟨a26, ⟨fs25, e1_, e2_⟩, h⟩ := h
      refine mx_get d_LBStore_sweep_61 (ci := 4) (k := 0) (q := mx_cl0_4) rfl (Nat.le_of_ble_eq_true rfl) kw_132 e1_ e2_ ?_
      refine mx_iload_n d_LBStore_sweep_64 rfl 2 rfl ?_
      obtain ⟨vs27, a28, e1_, e2_, e3_, h⟩ := h
      refine mx_aald (C := "LazyBuilder$Plan") d_LBStore_sweep_65 (k := 113) rfl e1_ e2_ e3_ ?_
      obtain ⟨⟨fs31, e1_⟩, h⟩ := h
      refine mx_invV (Y := mm_LBStore_wantInputs) (As := [.ref a28]) (rest := []) d_LBStore_sweep_66.1 ok_LBStore_wantInputs kw_182 kw_183 kw_184 rfl rfl (Nat.le_of_ble_eq_true rfl) (Nat.le_of_ble_eq_true rfl) e1_ (q := mx_cl0_4) rfl rfl h (fun r29 hs30 h => ?_)
      obtain ⟨e9_, h⟩ := h
      subst e9_
      show mx_Ok mx_S0 l G (d + 1) mm_LBStore_sweep 69 [(0, .ref l0), (1, .int l1), (2, .int l2)] [] hs30 Q
      refine mx_goto d_LBStore_sweep_69 ?_
      exact mx_sub [0, 1, 2] rfl h
set_option maxRecDepth 100000 in
theorem wp_LBStore_sweep_107 {l : Launch} {G : mx_G} {d : Nat} {hs : mx_H} {Q : Option Value → mx_H → Prop} (l0 : Nat) (l1 : Int32) (l2 : Int32) (h : mx_Ok mx_S0 l G (d + 1) mm_LBStore_sweep 43 [(0, .ref l0), (1, .int l1), (2, .int (l2 + (-1)))] [] hs Q) : mx_Ok mx_S0 l G (d + 1) mm_LBStore_sweep 107 [(0, .ref l0), (1, .int l1), (2, .int l2)] [] hs Q := by
  refine mx_iinc (v := l2 + (-1)) (lv2 := [(2, .int (l2 + (-1))), (0, .ref l0), (1, .int l1)]) d_LBStore_sweep_107 2 rfl (by rfl) (Nat.le_of_ble_eq_true rfl) rfl ?_
  refine mx_goto d_LBStore_sweep_110 ?_
  exact mx_sub [1, 2, 0] rfl h
set_option maxRecDepth 100000 in
theorem wp_LBStore_wantInputs_0 {l : Launch} {G : mx_G} {d : Nat} {hs : mx_H} {Q : Option Value → mx_H → Prop} (l0 : Nat) (l1 : Nat) (h : mx_Ok mx_S0 l G (d + 1) mm_LBStore_wantInputs 2 [(0, .ref l0), (1, .ref l1), (2, .int 0)] [] hs Q) : mx_Ok mx_S0 l G (d + 1) mm_LBStore_wantInputs 0 [(0, .ref l0), (1, .ref l1)] [] hs Q := by
  refine mx_iconst (v := 0) d_LBStore_wantInputs_0 (by decide) ?_
  refine mx_istore_n (lv2 := [(2, .int 0), (0, .ref l0), (1, .ref l1)]) d_LBStore_wantInputs_1 rfl (Nat.le_of_ble_eq_true rfl) rfl ?_
  exact mx_sub [1, 2, 0] rfl h
set_option maxRecDepth 100000 in
theorem wp_LBStore_wantInputs_2 {l : Launch} {G : mx_G} {d : Nat} {hs : mx_H} {Q : Option Value → mx_H → Prop} (l0 : Nat) (l1 : Nat) (l2 : Int32) (h : (∃ (a2 : Nat), mx_f hs l1 3 1 (.ref a2) ∧ (∃ vs3 : List Value, hs.1 a2 = some (102, vs3) ∧ (((Int32.ofNat vs3.length) ≤ l2 → Q none hs) ∧ (¬ ((Int32.ofNat vs3.length) ≤ l2) → (∃ (a5 : Nat), mx_f hs l1 3 1 (.ref a5) ∧ (∃ (vs6 : List Value) (x7 : Int64), hs.1 a5 = some (102, vs6) ∧ ¬ l2 < 0 ∧ vs6[Int32.toNatClampNeg l2]? = some (.long x7) ∧ ((∃ fs14 : List Value, hs.1 l0 = some (4, fs14)) ∧ mx_C mx_S0 l G d mm_LBStore_planIn [.ref l0, .long x7] hs (fun (r8 : Option Value) (hs9 : mx_H) => ∃ v10 : Value, r8 = some v10 ∧ (v10 = .null ∨ ∃ z, v10 = .ref z) ∧ ((v10 = .null → mx_Ok mx_S0 l G (d + 1) mm_LBStore_wantInputs 31 [(0, .ref l0), (1, .ref l1), (2, .int l2)] [] hs9 Q) ∧ (∀ a11 : Nat, v10 = .ref a11 → (∃ fs12 : List Value, hs9.1 a11 = some (3, fs12) ∧ ∀ hs13 : mx_H, hs13 = mx_st hs9 a11 (3, fs12.set 4 (.int 1)) → mx_Ok mx_S0 l G (d + 1) mm_LBStore_wantInputs 31 [(0, .ref l0), (1, .ref l1), (2, .int l2)] [] hs13 Q)))))))))))) : mx_Ok mx_S0 l G (d + 1) mm_LBStore_wantInputs 2 [(0, .ref l0), (1, .ref l1), (2, .int l2)] [] hs Q := by
  refine mx_iload_n d_LBStore_wantInputs_2 rfl 2 rfl ?_
  refine mx_aload_nR d_LBStore_wantInputs_3 rfl 1 rfl ?_
  obtain ⟨a2, ⟨fs1, e1_, e2_⟩, h⟩ := h
  refine mx_get d_LBStore_wantInputs_4 (ci := 3) (k := 1) (q := mx_cl0_3) rfl (Nat.le_of_ble_eq_true rfl) kw_158 e1_ e2_ ?_
  obtain ⟨vs3, e1_, h⟩ := h
  refine mx_alen d_LBStore_wantInputs_7 (k := 102) rfl e1_ ?_
  refine mx_icmp_ge d_LBStore_wantInputs_8 (fun c9 => ?_) (fun c9 => ?_)
  · replace h := h.1 c9
    exact mx_return d_LBStore_wantInputs_37 rfl h
  · replace h := h.2 c9
    refine mx_aload_nR d_LBStore_wantInputs_11 rfl 0 rfl ?_
    refine mx_aload_nR d_LBStore_wantInputs_12 rfl 1 rfl ?_
    obtain ⟨a5, ⟨fs4, e1_, e2_⟩, h⟩ := h
    refine mx_get d_LBStore_wantInputs_13 (ci := 3) (k := 1) (q := mx_cl0_3) rfl (Nat.le_of_ble_eq_true rfl) kw_158 e1_ e2_ ?_
    refine mx_iload_n d_LBStore_wantInputs_16 rfl 2 rfl ?_
    obtain ⟨vs6, x7, e1_, e2_, e3_, h⟩ := h
    refine mx_lald d_LBStore_wantInputs_17 (k := 102) rfl e1_ e2_ e3_ ?_
    obtain ⟨⟨fs14, e1_⟩, h⟩ := h
    refine mx_invV (Y := mm_LBStore_planIn) (As := [.long x7]) (rest := []) d_LBStore_wantInputs_18.1 ok_LBStore_planIn kw_155 kw_156 kw_157 rfl rfl (Nat.le_of_ble_eq_true rfl) (Nat.le_of_ble_eq_true rfl) e1_ (q := mx_cl0_4) rfl rfl h (fun r8 hs9 h => ?_)
    obtain ⟨v10, e9_, hv10, h⟩ := h
    subst e9_
    show mx_Ok mx_S0 l G (d + 1) mm_LBStore_wantInputs 21 [(0, .ref l0), (1, .ref l1), (2, .int l2)] [v10] hs9 Q
    refine mx_astore_n (lv2 := [(3, v10), (0, .ref l0), (1, .ref l1), (2, .int l2)]) d_LBStore_wantInputs_21 rfl (Nat.le_of_ble_eq_true rfl) rfl hv10 ?_
    refine mx_aload_n d_LBStore_wantInputs_22 rfl 0 rfl hv10 ?_
    refine mx_ifnull d_LBStore_wantInputs_23 hv10 (fun c9 => ?_) (fun a11 c9 => ?_)
    · replace h := h.1 c9
      subst c9
      exact mx_sub [1, 2, 3] rfl h
    · replace h := h.2 a11 c9
      subst c9
      refine mx_aload_nR d_LBStore_wantInputs_26 rfl 0 rfl ?_
      refine mx_iconst (v := 1) d_LBStore_wantInputs_27 (by decide) ?_
      obtain ⟨fs12, e1_, h⟩ := h
      refine mx_put d_LBStore_wantInputs_28 (ci := 3) (k := 4) (q := mx_cl0_3) (ty := .boolean) rfl (Nat.le_of_ble_eq_true rfl) kw_181 rfl (by decide +kernel) (mx_nz (Or.inr rfl)) (mx_fz (Or.inr rfl)) (by omega) e1_ ?_
      obtain ⟨hs13, hg_⟩ : ∃ x_, x_ = mx_st hs9 a11 (3, fs12.set 4 (.int 1)) := ⟨_, rfl⟩
      replace h := h hs13 hg_
      rw [← hg_]
      clear hg_
      exact mx_sub [1, 2, 3] rfl h
set_option maxRecDepth 100000 in
theorem wp_LBStore_wantInputs_31 {l : Launch} {G : mx_G} {d : Nat} {hs : mx_H} {Q : Option Value → mx_H → Prop} (l0 : Nat) (l1 : Nat) (l2 : Int32) (h : mx_Ok mx_S0 l G (d + 1) mm_LBStore_wantInputs 2 [(0, .ref l0), (1, .ref l1), (2, .int (l2 + 1))] [] hs Q) : mx_Ok mx_S0 l G (d + 1) mm_LBStore_wantInputs 31 [(0, .ref l0), (1, .ref l1), (2, .int l2)] [] hs Q := by
  refine mx_iinc (v := l2 + 1) (lv2 := [(2, .int (l2 + 1)), (0, .ref l0), (1, .ref l1)]) d_LBStore_wantInputs_31 2 rfl (by rfl) (Nat.le_of_ble_eq_true rfl) rfl ?_
  refine mx_goto d_LBStore_wantInputs_34 ?_
  exact mx_sub [1, 2, 0] rfl h
set_option maxRecDepth 100000 in
theorem wp_LBWorker_init_0 {l : Launch} {G : mx_G} {d : Nat} {hs : mx_H} {Q : Option Value → mx_H → Prop} (l0 : Nat) (l1 : Nat) (h : (∃ fs1 : List Value, hs.1 l0 = some (5, fs1) ∧ ∀ hs2 : mx_H, hs2 = mx_st hs l0 (5, fs1.set 1 (.ref l1)) → (∀ hs3 : mx_H, hs3 = mx_nw hs2 (112, List.replicate 8 (.null)) 8 → (∃ fs4 : List Value, hs3.1 l0 = some (5, fs4) ∧ ∀ hs5 : mx_H, hs5 = mx_st hs3 l0 (5, fs4.set 0 (.ref hs2.2.1)) → mx_Ok mx_S0 l G (d + 1) mm_LBWorker_init 20 [(0, .ref l0), (2, .int 0)] [] hs5 Q)))) : mx_Ok mx_S0 l G (d + 1) mm_LBWorker_init 0 [(0, .ref l0), (1, .ref l1)] [] hs Q := by
  refine mx_aload_nR d_LBWorker_init_0 rfl 0 rfl ?_
  refine mx_objInit d_LBWorker_init_1 kw_185 kw_1 k_objcode (Nat.le_of_ble_eq_true rfl) ?_
  refine mx_aload_nR d_LBWorker_init_4 rfl 0 rfl ?_
  refine mx_aload_nR d_LBWorker_init_5 rfl 1 rfl ?_
  obtain ⟨fs1, e1_, h⟩ := h
  refine mx_putF d_LBWorker_init_6 (ci := 5) (k := 1) (q := mx_cl0_5) (ty := (.object "LazyBuilder$Store")) rfl (Nat.le_of_ble_eq_true rfl) kw_186 rfl rfl rfl (by decide +kernel) rfl rfl (by omega) e1_ ?_
  obtain ⟨hs2, hg_⟩ : ∃ x_, x_ = mx_st hs l0 (5, fs1.set 1 (.ref l1)) := ⟨_, rfl⟩
  replace h := h hs2 hg_
  rw [← hg_]
  clear hg_
  refine mx_aload_nR d_LBWorker_init_9 rfl 0 rfl ?_
  refine mx_bipush (v := 8) d_LBWorker_init_10 (by decide) ?_
  refine mx_anewa d_LBWorker_init_12 (k := 112) (C := "LazyBuilder$Name") (N := 8) rfl (by decide) kw_187 (by decide) (by decide) (by decide) (by decide) ?_
  obtain ⟨hs3, hg_⟩ : ∃ x_, x_ = mx_nw hs2 (112, List.replicate 8 (.null)) 8 := ⟨_, rfl⟩
  replace h := h hs3 hg_
  rw [← hg_]
  clear hg_
  obtain ⟨fs4, e1_, h⟩ := h
  refine mx_putF d_LBWorker_init_15 (ci := 5) (k := 0) (q := mx_cl0_5) (ty := (.array (.object "LazyBuilder$Name"))) rfl (Nat.le_of_ble_eq_true rfl) kw_188 rfl rfl rfl (by decide +kernel) rfl rfl (by omega) e1_ ?_
  obtain ⟨hs5, hg_⟩ : ∃ x_, x_ = mx_st hs3 l0 (5, fs4.set 0 (.ref hs2.2.1)) := ⟨_, rfl⟩
  replace h := h hs5 hg_
  rw [← hg_]
  clear hg_
  refine mx_iconst (v := 0) d_LBWorker_init_18 (by decide) ?_
  refine mx_istore_n (lv2 := [(2, .int 0), (0, .ref l0), (1, .ref l1)]) d_LBWorker_init_19 rfl (Nat.le_of_ble_eq_true rfl) rfl ?_
  exact mx_sub [1, 0] rfl h
set_option maxRecDepth 100000 in
theorem wp_LBWorker_init_20 {l : Launch} {G : mx_G} {d : Nat} {hs : mx_H} {Q : Option Value → mx_H → Prop} (l0 : Nat) (l2 : Int32) (h : ((8 ≤ l2 → (∀ hs1 : mx_H, hs1 = mx_nw hs (102, List.replicate 292 (.long 0)) 292 → (∃ fs2 : List Value, hs1.1 l0 = some (5, fs2) ∧ ∀ hs3 : mx_H, hs3 = mx_st hs1 l0 (5, fs2.set 2 (.ref hs.2.1)) → Q none hs3))) ∧ (¬ (8 ≤ l2) → (∃ (a5 : Nat), mx_f hs l0 5 0 (.ref a5) ∧ (∀ hs6 : mx_H, hs6 = mx_nw hs (2, [.null, .int 0, .int 0, .long 0]) 4 → mx_C mx_S0 l G d mm_LBName_init [.ref hs.2.1] hs6 (fun (r7 : Option Value) (hs8 : mx_H) => r7 = none ∧ (∃ vs9 : List Value, hs8.1 a5 = some (112, vs9) ∧ ¬ l2 < 0 ∧ Int32.toNatClampNeg l2 < vs9.length ∧ (∃ fs11 : List Value, hs8.1 hs.2.1 = some (2, fs11)) ∧ ∀ hs10 : mx_H, hs10 = mx_st hs8 a5 (112, vs9.set (Int32.toNatClampNeg l2) (.ref hs.2.1)) → mx_Ok mx_S0 l G (d + 1) mm_LBWorker_init 20 [(0, .ref l0), (2, .int (l2 + 1))] [] hs10 Q))))))) : mx_Ok mx_S0 l G (d + 1) mm_LBWorker_init 20 [(0, .ref l0), (2, .int l2)] [] hs Q := by
  refine mx_iload_n d_LBWorker_init_20 rfl 1 rfl ?_
  refine mx_bipush (v := 8) d_LBWorker_init_21 (by decide) ?_
  refine mx_icmp_ge d_LBWorker_init_23 (fun c9 => ?_) (fun c9 => ?_)
  · replace h := h.1 c9
    refine mx_aload_nR d_LBWorker_init_45 rfl 0 rfl ?_
    refine mx_sipush (v := 292) d_LBWorker_init_46 (by decide) ?_
    refine mx_newa d_LBWorker_init_49 (k := 102) (ty := .long) (dv := .long 0) (N := 292) rfl rfl rfl (by decide) kw_138 (by decide) (by decide) (by decide) ?_
    obtain ⟨hs1, hg_⟩ : ∃ x_, x_ = mx_nw hs (102, List.replicate 292 (.long 0)) 292 := ⟨_, rfl⟩
    replace h := h hs1 hg_
    rw [← hg_]
    clear hg_
    obtain ⟨fs2, e1_, h⟩ := h
    refine mx_putF d_LBWorker_init_51 (ci := 5) (k := 2) (q := mx_cl0_5) (ty := (.array .long)) rfl (Nat.le_of_ble_eq_true rfl) kw_189 rfl rfl rfl (by decide +kernel) rfl rfl (by omega) e1_ ?_
    obtain ⟨hs3, hg_⟩ : ∃ x_, x_ = mx_st hs1 l0 (5, fs2.set 2 (.ref hs.2.1)) := ⟨_, rfl⟩
    replace h := h hs3 hg_
    rw [← hg_]
    clear hg_
    exact mx_return d_LBWorker_init_54 rfl h
  · replace h := h.2 c9
    refine mx_aload_nR d_LBWorker_init_26 rfl 0 rfl ?_
    obtain ⟨a5, ⟨fs4, e1_, e2_⟩, h⟩ := h
    refine mx_get d_LBWorker_init_27 (ci := 5) (k := 0) (q := mx_cl0_5) rfl (Nat.le_of_ble_eq_true rfl) kw_188 e1_ e2_ ?_
    refine mx_iload_n d_LBWorker_init_30 rfl 1 rfl ?_
    refine mx_new d_LBWorker_init_31 (ci := 2) (q := mx_cl0_2) (fs := [.null, .int 0, .int 0, .long 0]) (n := 4) rfl kw_187 kw_190 kw_191 rfl rfl mdf_2 ?_
    obtain ⟨hs6, hg_⟩ : ∃ x_, x_ = mx_nw hs (2, [.null, .int 0, .int 0, .long 0]) 4 := ⟨_, rfl⟩
    replace h := h hs6 hg_
    rw [← hg_]
    clear hg_
    refine mx_dup d_LBWorker_init_34 rfl ?_
    refine mx_invI (Y := mm_LBName_init) (As := []) (rest := [.ref hs.2.1, .int l2, .ref a5]) rfl d_LBWorker_init_35.1 ok_LBName_init kw_192 kw_193 rfl rfl rfl (Nat.le_of_ble_eq_true rfl) (Nat.le_of_ble_eq_true rfl) h (fun r7 hs8 h => ?_)
    obtain ⟨e9_, h⟩ := h
    subst e9_
    show mx_Ok mx_S0 l G (d + 1) mm_LBWorker_init 38 [(0, .ref l0), (2, .int l2)] [.ref hs.2.1, .int l2, .ref a5] hs8 Q
    obtain ⟨vs9, e1_, e2_, e3_, ⟨fs11, e4_⟩, h⟩ := h
    refine mx_aastR d_LBWorker_init_38 (ci := 2) (k := 112) rfl rfl (by decide) (by omega) e1_ e2_ e3_ e4_ ?_
    obtain ⟨hs10, hg_⟩ : ∃ x_, x_ = mx_st hs8 a5 (112, vs9.set (Int32.toNatClampNeg l2) (.ref hs.2.1)) := ⟨_, rfl⟩
    replace h := h hs10 hg_
    rw [← hg_]
    clear hg_
    refine mx_iinc (v := l2 + 1) (lv2 := [(2, .int (l2 + 1)), (0, .ref l0)]) d_LBWorker_init_39 1 rfl (by rfl) (Nat.le_of_ble_eq_true rfl) rfl ?_
    refine mx_goto d_LBWorker_init_42 ?_
    exact mx_sub [1, 0] rfl h
set_option maxRecDepth 100000 in
theorem wp_LBWorker_bind_0 {l : Launch} {G : mx_G} {d : Nat} {hs : mx_H} {Q : Option Value → mx_H → Prop} (l0 : Nat) (l1 : Int32) (l2 : Nat) (h : (∃ (a2 : Nat), mx_f hs l0 5 0 (.ref a2) ∧ (∃ (vs3 : List Value) (a4 : Nat), hs.1 a2 = some (112, vs3) ∧ ¬ l1 < 0 ∧ vs3[Int32.toNatClampNeg l1]? = some (.ref a4) ∧ (∃ (a6 : Nat), mx_f hs a4 2 0 (.ref a6) ∧ ((∃ fs18 : List Value, hs.1 a6 = some (1, fs18)) ∧ mx_C mx_S0 l G d mm_LBText_copyFrom [.ref a6, .ref l2] hs (fun (r7 : Option Value) (hs8 : mx_H) => r7 = none ∧ (∃ (a10 : Nat), mx_f hs8 l0 5 0 (.ref a10) ∧ (∃ (vs11 : List Value) (a12 : Nat), hs8.1 a10 = some (112, vs11) ∧ ¬ l1 < 0 ∧ vs11[Int32.toNatClampNeg l1]? = some (.ref a12) ∧ (∃ fs13 : List Value, hs8.1 a12 = some (2, fs13) ∧ ∀ hs14 : mx_H, hs14 = mx_st hs8 a12 (2, fs13.set 1 (.int 1)) → ((∃ fs17 : List Value, hs14.1 l0 = some (5, fs17)) ∧ mx_C mx_S0 l G d mm_LBWorker_forgetValues [.ref l0] hs14 (fun (r15 : Option Value) (hs16 : mx_H) => r15 = none ∧ Q none hs16))))))))))) : mx_Ok mx_S0 l G (d + 1) mm_LBWorker_bind 0 [(0, .ref l0), (1, .int l1), (2, .ref l2)] [] hs Q := by
  refine mx_aload_nR d_LBWorker_bind_0 rfl 0 rfl ?_
  obtain ⟨a2, ⟨fs1, e1_, e2_⟩, h⟩ := h
  refine mx_get d_LBWorker_bind_1 (ci := 5) (k := 0) (q := mx_cl0_5) rfl (Nat.le_of_ble_eq_true rfl) kw_188 e1_ e2_ ?_
  refine mx_iload_n d_LBWorker_bind_4 rfl 1 rfl ?_
  obtain ⟨vs3, a4, e1_, e2_, e3_, h⟩ := h
  refine mx_aald (C := "LazyBuilder$Name") d_LBWorker_bind_5 (k := 112) rfl e1_ e2_ e3_ ?_
  obtain ⟨a6, ⟨fs5, e1_, e2_⟩, h⟩ := h
  refine mx_get d_LBWorker_bind_6 (ci := 2) (k := 0) (q := mx_cl0_2) rfl (Nat.le_of_ble_eq_true rfl) kw_194 e1_ e2_ ?_
  refine mx_aload_nR d_LBWorker_bind_9 rfl 2 rfl ?_
  obtain ⟨⟨fs18, e1_⟩, h⟩ := h
  refine mx_invV (Y := mm_LBText_copyFrom) (As := [.ref l2]) (rest := []) d_LBWorker_bind_10.1 ok_LBText_copyFrom kw_199 kw_200 kw_201 rfl rfl (Nat.le_of_ble_eq_true rfl) (Nat.le_of_ble_eq_true rfl) e1_ (q := mx_cl0_1) rfl rfl h (fun r7 hs8 h => ?_)
  obtain ⟨e9_, h⟩ := h
  subst e9_
  show mx_Ok mx_S0 l G (d + 1) mm_LBWorker_bind 13 [(0, .ref l0), (1, .int l1), (2, .ref l2)] [] hs8 Q
  refine mx_aload_nR d_LBWorker_bind_13 rfl 0 rfl ?_
  obtain ⟨a10, ⟨fs9, e1_, e2_⟩, h⟩ := h
  refine mx_get d_LBWorker_bind_14 (ci := 5) (k := 0) (q := mx_cl0_5) rfl (Nat.le_of_ble_eq_true rfl) kw_188 e1_ e2_ ?_
  refine mx_iload_n d_LBWorker_bind_17 rfl 1 rfl ?_
  obtain ⟨vs11, a12, e1_, e2_, e3_, h⟩ := h
  refine mx_aald (C := "LazyBuilder$Name") d_LBWorker_bind_18 (k := 112) rfl e1_ e2_ e3_ ?_
  refine mx_iconst (v := 1) d_LBWorker_bind_19 (by decide) ?_
  obtain ⟨fs13, e1_, h⟩ := h
  refine mx_put d_LBWorker_bind_20 (ci := 2) (k := 1) (q := mx_cl0_2) (ty := .boolean) rfl (Nat.le_of_ble_eq_true rfl) kw_195 rfl (by decide +kernel) (mx_nz (Or.inr rfl)) (mx_fz (Or.inr rfl)) (by omega) e1_ ?_
  obtain ⟨hs14, hg_⟩ : ∃ x_, x_ = mx_st hs8 a12 (2, fs13.set 1 (.int 1)) := ⟨_, rfl⟩
  replace h := h hs14 hg_
  rw [← hg_]
  clear hg_
  refine mx_aload_nR d_LBWorker_bind_23 rfl 0 rfl ?_
  obtain ⟨⟨fs17, e1_⟩, h⟩ := h
  refine mx_invV (Y := mm_LBWorker_forgetValues) (As := []) (rest := []) d_LBWorker_bind_24.1 ok_LBWorker_forgetValues kw_196 kw_197 kw_198 rfl rfl (Nat.le_of_ble_eq_true rfl) (Nat.le_of_ble_eq_true rfl) e1_ (q := mx_cl0_5) rfl rfl h (fun r15 hs16 h => ?_)
  obtain ⟨e9_, h⟩ := h
  subst e9_
  show mx_Ok mx_S0 l G (d + 1) mm_LBWorker_bind 27 [(0, .ref l0), (1, .int l1), (2, .ref l2)] [] hs16 Q
  exact mx_return d_LBWorker_bind_27 rfl h
set_option maxRecDepth 100000 in
theorem wp_LBWorker_unbind_0 {l : Launch} {G : mx_G} {d : Nat} {hs : mx_H} {Q : Option Value → mx_H → Prop} (l0 : Nat) (l1 : Int32) (h : (∃ (a2 : Nat), mx_f hs l0 5 0 (.ref a2) ∧ (∃ (vs3 : List Value) (a4 : Nat), hs.1 a2 = some (112, vs3) ∧ ¬ l1 < 0 ∧ vs3[Int32.toNatClampNeg l1]? = some (.ref a4) ∧ (∃ fs5 : List Value, hs.1 a4 = some (2, fs5) ∧ ∀ hs6 : mx_H, hs6 = mx_st hs a4 (2, fs5.set 1 (.int 0)) → ((∃ fs9 : List Value, hs6.1 l0 = some (5, fs9)) ∧ mx_C mx_S0 l G d mm_LBWorker_forgetValues [.ref l0] hs6 (fun (r7 : Option Value) (hs8 : mx_H) => r7 = none ∧ Q none hs8)))))) : mx_Ok mx_S0 l G (d + 1) mm_LBWorker_unbind 0 [(0, .ref l0), (1, .int l1)] [] hs Q := by
  refine mx_aload_nR d_LBWorker_unbind_0 rfl 0 rfl ?_
  obtain ⟨a2, ⟨fs1, e1_, e2_⟩, h⟩ := h
  refine mx_get d_LBWorker_unbind_1 (ci := 5) (k := 0) (q := mx_cl0_5) rfl (Nat.le_of_ble_eq_true rfl) kw_188 e1_ e2_ ?_
  refine mx_iload_n d_LBWorker_unbind_4 rfl 1 rfl ?_
  obtain ⟨vs3, a4, e1_, e2_, e3_, h⟩ := h
  refine mx_aald (C := "LazyBuilder$Name") d_LBWorker_unbind_5 (k := 112) rfl e1_ e2_ e3_ ?_
  refine mx_iconst (v := 0) d_LBWorker_unbind_6 (by decide) ?_
  obtain ⟨fs5, e1_, h⟩ := h
  refine mx_put d_LBWorker_unbind_7 (ci := 2) (k := 1) (q := mx_cl0_2) (ty := .boolean) rfl (Nat.le_of_ble_eq_true rfl) kw_195 rfl (by decide +kernel) (mx_nz (Or.inl rfl)) (mx_fz (Or.inl rfl)) (by omega) e1_ ?_
  obtain ⟨hs6, hg_⟩ : ∃ x_, x_ = mx_st hs a4 (2, fs5.set 1 (.int 0)) := ⟨_, rfl⟩
  replace h := h hs6 hg_
  rw [← hg_]
  clear hg_
  refine mx_aload_nR d_LBWorker_unbind_10 rfl 0 rfl ?_
  obtain ⟨⟨fs9, e1_⟩, h⟩ := h
  refine mx_invV (Y := mm_LBWorker_forgetValues) (As := []) (rest := []) d_LBWorker_unbind_11.1 ok_LBWorker_forgetValues kw_196 kw_197 kw_198 rfl rfl (Nat.le_of_ble_eq_true rfl) (Nat.le_of_ble_eq_true rfl) e1_ (q := mx_cl0_5) rfl rfl h (fun r7 hs8 h => ?_)
  obtain ⟨e9_, h⟩ := h
  subst e9_
  show mx_Ok mx_S0 l G (d + 1) mm_LBWorker_unbind 14 [(0, .ref l0), (1, .int l1)] [] hs8 Q
  exact mx_return d_LBWorker_unbind_14 rfl h
set_option maxRecDepth 100000 in
theorem wp_LBWorker_forgetValues_0 {l : Launch} {G : mx_G} {d : Nat} {hs : mx_H} {Q : Option Value → mx_H → Prop} (l0 : Nat) (h : mx_Ok mx_S0 l G (d + 1) mm_LBWorker_forgetValues 2 [(0, .ref l0), (1, .int 0)] [] hs Q) : mx_Ok mx_S0 l G (d + 1) mm_LBWorker_forgetValues 0 [(0, .ref l0)] [] hs Q := by
  refine mx_iconst (v := 0) d_LBWorker_forgetValues_0 (by decide) ?_
  refine mx_istore_n (lv2 := [(1, .int 0), (0, .ref l0)]) d_LBWorker_forgetValues_1 rfl (Nat.le_of_ble_eq_true rfl) rfl ?_
  exact mx_sub [1, 0] rfl h
set_option maxRecDepth 100000 in
theorem wp_LBWorker_forgetValues_2 {l : Launch} {G : mx_G} {d : Nat} {hs : mx_H} {Q : Option Value → mx_H → Prop} (l0 : Nat) (l1 : Int32) (h : ((8 ≤ l1 → Q none hs) ∧ (¬ (8 ≤ l1) → (∃ (a2 : Nat), mx_f hs l0 5 0 (.ref a2) ∧ (∃ (vs3 : List Value) (a4 : Nat), hs.1 a2 = some (112, vs3) ∧ ¬ l1 < 0 ∧ vs3[Int32.toNatClampNeg l1]? = some (.ref a4) ∧ (∃ fs5 : List Value, hs.1 a4 = some (2, fs5) ∧ ∀ hs6 : mx_H, hs6 = mx_st hs a4 (2, fs5.set 3 (.long (-1000000000000))) → mx_Ok mx_S0 l G (d + 1) mm_LBWorker_forgetValues 2 [(0, .ref l0), (1, .int (l1 + 1))] [] hs6 Q)))))) : mx_Ok mx_S0 l G (d + 1) mm_LBWorker_forgetValues 2 [(0, .ref l0), (1, .int l1)] [] hs Q := by
  refine mx_iload_n d_LBWorker_forgetValues_2 rfl 1 rfl ?_
  refine mx_bipush (v := 8) d_LBWorker_forgetValues_3 (by decide) ?_
  refine mx_icmp_ge d_LBWorker_forgetValues_5 (fun c9 => ?_) (fun c9 => ?_)
  · replace h := h.1 c9
    exact mx_return d_LBWorker_forgetValues_26 rfl h
  · replace h := h.2 c9
    refine mx_aload_nR d_LBWorker_forgetValues_8 rfl 0 rfl ?_
    obtain ⟨a2, ⟨fs1, e1_, e2_⟩, h⟩ := h
    refine mx_get d_LBWorker_forgetValues_9 (ci := 5) (k := 0) (q := mx_cl0_5) rfl (Nat.le_of_ble_eq_true rfl) kw_188 e1_ e2_ ?_
    refine mx_iload_n d_LBWorker_forgetValues_12 rfl 1 rfl ?_
    obtain ⟨vs3, a4, e1_, e2_, e3_, h⟩ := h
    refine mx_aald (C := "LazyBuilder$Name") d_LBWorker_forgetValues_13 (k := 112) rfl e1_ e2_ e3_ ?_
    refine mx_ldc2 (v := (-1000000000000)) d_LBWorker_forgetValues_14 kw_202 ?_
    obtain ⟨fs5, e1_, h⟩ := h
    refine mx_put d_LBWorker_forgetValues_17 (ci := 2) (k := 3) (q := mx_cl0_2) (ty := .long) rfl (Nat.le_of_ble_eq_true rfl) kw_203 rfl (by decide +kernel) rfl rfl (by omega) e1_ ?_
    obtain ⟨hs6, hg_⟩ : ∃ x_, x_ = mx_st hs a4 (2, fs5.set 3 (.long (-1000000000000))) := ⟨_, rfl⟩
    replace h := h hs6 hg_
    rw [← hg_]
    clear hg_
    refine mx_iinc (v := l1 + 1) (lv2 := [(1, .int (l1 + 1)), (0, .ref l0)]) d_LBWorker_forgetValues_20 1 rfl (by rfl) (Nat.le_of_ble_eq_true rfl) rfl ?_
    refine mx_goto d_LBWorker_forgetValues_23 ?_
    exact mx_sub [1, 0] rfl h
set_option maxRecDepth 100000 in
theorem wp_LBWorker_namesBound_0 {l : Launch} {G : mx_G} {d : Nat} {hs : mx_H} {Q : Option Value → mx_H → Prop} (l0 : Nat) (h : mx_Ok mx_S0 l G (d + 1) mm_LBWorker_namesBound 4 [(0, .ref l0), (1, .int 0), (2, .int 0)] [] hs Q) : mx_Ok mx_S0 l G (d + 1) mm_LBWorker_namesBound 0 [(0, .ref l0)] [] hs Q := by
  refine mx_iconst (v := 0) d_LBWorker_namesBound_0 (by decide) ?_
  refine mx_istore_n (lv2 := [(1, .int 0), (0, .ref l0)]) d_LBWorker_namesBound_1 rfl (Nat.le_of_ble_eq_true rfl) rfl ?_
  refine mx_iconst (v := 0) d_LBWorker_namesBound_2 (by decide) ?_
  refine mx_istore_n (lv2 := [(2, .int 0), (1, .int 0), (0, .ref l0)]) d_LBWorker_namesBound_3 rfl (Nat.le_of_ble_eq_true rfl) rfl ?_
  exact mx_sub [2, 1, 0] rfl h
set_option maxRecDepth 100000 in
theorem wp_LBWorker_namesBound_4 {l : Launch} {G : mx_G} {d : Nat} {hs : mx_H} {Q : Option Value → mx_H → Prop} (l0 : Nat) (l1 : Int32) (l2 : Int32) (h : ((8 ≤ l2 → Q (some (.int l1)) hs) ∧ (¬ (8 ≤ l2) → (∃ (a2 : Nat), mx_f hs l0 5 0 (.ref a2) ∧ (∃ (vs3 : List Value) (a4 : Nat), hs.1 a2 = some (112, vs3) ∧ ¬ l2 < 0 ∧ vs3[Int32.toNatClampNeg l2]? = some (.ref a4) ∧ (∃ (x6 : Int32), mx_f hs a4 2 1 (.int x6) ∧ ((x6 = 0 → mx_Ok mx_S0 l G (d + 1) mm_LBWorker_namesBound 28 [(0, .ref l0), (2, .int l2)] [.int 0, .int l1] hs Q) ∧ (¬ (x6 = 0) → mx_Ok mx_S0 l G (d + 1) mm_LBWorker_namesBound 28 [(0, .ref l0), (2, .int l2)] [.int 1, .int l1] hs Q)))))))) : mx_Ok mx_S0 l G (d + 1) mm_LBWorker_namesBound 4 [(0, .ref l0), (1, .int l1), (2, .int l2)] [] hs Q := by
  refine mx_iload_n d_LBWorker_namesBound_4 rfl 2 rfl ?_
  refine mx_bipush (v := 8) d_LBWorker_namesBound_5 (by decide) ?_
  refine mx_icmp_ge d_LBWorker_namesBound_7 (fun c9 => ?_) (fun c9 => ?_)
  · replace h := h.1 c9
    refine mx_iload_n d_LBWorker_namesBound_36 rfl 1 rfl ?_
    exact mx_ireturn d_LBWorker_namesBound_37 rfl rfl h
  · replace h := h.2 c9
    refine mx_iload_n d_LBWorker_namesBound_10 rfl 1 rfl ?_
    refine mx_aload_nR d_LBWorker_namesBound_11 rfl 0 rfl ?_
    obtain ⟨a2, ⟨fs1, e1_, e2_⟩, h⟩ := h
    refine mx_get d_LBWorker_namesBound_12 (ci := 5) (k := 0) (q := mx_cl0_5) rfl (Nat.le_of_ble_eq_true rfl) kw_188 e1_ e2_ ?_
    refine mx_iload_n d_LBWorker_namesBound_15 rfl 2 rfl ?_
    obtain ⟨vs3, a4, e1_, e2_, e3_, h⟩ := h
    refine mx_aald (C := "LazyBuilder$Name") d_LBWorker_namesBound_16 (k := 112) rfl e1_ e2_ e3_ ?_
    obtain ⟨x6, ⟨fs5, e1_, e2_⟩, h⟩ := h
    refine mx_get d_LBWorker_namesBound_17 (ci := 2) (k := 1) (q := mx_cl0_2) rfl (Nat.le_of_ble_eq_true rfl) kw_195 e1_ e2_ ?_
    refine mx_if_eq d_LBWorker_namesBound_20 (fun c9 => ?_) (fun c9 => ?_)
    · replace h := h.1 c9
      refine mx_iconst (v := 0) d_LBWorker_namesBound_27 (by decide) ?_
      exact mx_sub [0, 2] rfl h
    · replace h := h.2 c9
      refine mx_iconst (v := 1) d_LBWorker_namesBound_23 (by decide) ?_
      refine mx_goto d_LBWorker_namesBound_24 ?_
      exact mx_sub [0, 2] rfl h
set_option maxRecDepth 100000 in
theorem wp_LBWorker_namesBound_28 {l : Launch} {G : mx_G} {d : Nat} {hs : mx_H} {Q : Option Value → mx_H → Prop} (l0 : Nat) (l2 : Int32) (s0 : Int32) (s1 : Int32) (h : mx_Ok mx_S0 l G (d + 1) mm_LBWorker_namesBound 4 [(0, .ref l0), (1, .int (s0 + s1)), (2, .int (l2 + 1))] [] hs Q) : mx_Ok mx_S0 l G (d + 1) mm_LBWorker_namesBound 28 [(0, .ref l0), (2, .int l2)] [.int s1, .int s0] hs Q := by
  refine mx_iadd d_LBWorker_namesBound_28 ?_
  refine mx_istore_n (lv2 := [(1, .int (s0 + s1)), (0, .ref l0), (2, .int l2)]) d_LBWorker_namesBound_29 rfl (Nat.le_of_ble_eq_true rfl) rfl ?_
  refine mx_iinc (v := l2 + 1) (lv2 := [(2, .int (l2 + 1)), (1, .int (s0 + s1)), (0, .ref l0)]) d_LBWorker_namesBound_30 2 rfl (by rfl) (Nat.le_of_ble_eq_true rfl) rfl ?_
  refine mx_goto d_LBWorker_namesBound_33 ?_
  exact mx_sub [2, 1, 0] rfl h
set_option maxRecDepth 100000 in
theorem wp_LBWorker_namesKept_0 {l : Launch} {G : mx_G} {d : Nat} {hs : mx_H} {Q : Option Value → mx_H → Prop} (l0 : Nat) (h : mx_Ok mx_S0 l G (d + 1) mm_LBWorker_namesKept 4 [(0, .ref l0), (1, .int 0), (2, .int 0)] [] hs Q) : mx_Ok mx_S0 l G (d + 1) mm_LBWorker_namesKept 0 [(0, .ref l0)] [] hs Q := by
  refine mx_iconst (v := 0) d_LBWorker_namesKept_0 (by decide) ?_
  refine mx_istore_n (lv2 := [(1, .int 0), (0, .ref l0)]) d_LBWorker_namesKept_1 rfl (Nat.le_of_ble_eq_true rfl) rfl ?_
  refine mx_iconst (v := 0) d_LBWorker_namesKept_2 (by decide) ?_
  refine mx_istore_n (lv2 := [(2, .int 0), (1, .int 0), (0, .ref l0)]) d_LBWorker_namesKept_3 rfl (Nat.le_of_ble_eq_true rfl) rfl ?_
  exact mx_sub [2, 1, 0] rfl h
set_option maxRecDepth 100000 in
theorem wp_LBWorker_namesKept_4 {l : Launch} {G : mx_G} {d : Nat} {hs : mx_H} {Q : Option Value → mx_H → Prop} (l0 : Nat) (l1 : Int32) (l2 : Int32) (h : ((8 ≤ l2 → Q (some (.int l1)) hs) ∧ (¬ (8 ≤ l2) → (∃ (a2 : Nat), mx_f hs l0 5 0 (.ref a2) ∧ (∃ (vs3 : List Value) (a4 : Nat), hs.1 a2 = some (112, vs3) ∧ ¬ l2 < 0 ∧ vs3[Int32.toNatClampNeg l2]? = some (.ref a4) ∧ (∃ (x6 : Int64), mx_f hs a4 2 3 (.long x6) ∧ ((x6 = (-1000000000000) → mx_Ok mx_S0 l G (d + 1) mm_LBWorker_namesKept 32 [(0, .ref l0), (2, .int l2)] [.int 0, .int l1] hs Q) ∧ (¬ (x6 = (-1000000000000)) → mx_Ok mx_S0 l G (d + 1) mm_LBWorker_namesKept 32 [(0, .ref l0), (2, .int l2)] [.int 1, .int l1] hs Q)))))))) : mx_Ok mx_S0 l G (d + 1) mm_LBWorker_namesKept 4 [(0, .ref l0), (1, .int l1), (2, .int l2)] [] hs Q := by
  refine mx_iload_n d_LBWorker_namesKept_4 rfl 2 rfl ?_
  refine mx_bipush (v := 8) d_LBWorker_namesKept_5 (by decide) ?_
  refine mx_icmp_ge d_LBWorker_namesKept_7 (fun c9 => ?_) (fun c9 => ?_)
  · replace h := h.1 c9
    refine mx_iload_n d_LBWorker_namesKept_40 rfl 1 rfl ?_
    exact mx_ireturn d_LBWorker_namesKept_41 rfl rfl h
  · replace h := h.2 c9
    refine mx_iload_n d_LBWorker_namesKept_10 rfl 1 rfl ?_
    refine mx_aload_nR d_LBWorker_namesKept_11 rfl 0 rfl ?_
    obtain ⟨a2, ⟨fs1, e1_, e2_⟩, h⟩ := h
    refine mx_get d_LBWorker_namesKept_12 (ci := 5) (k := 0) (q := mx_cl0_5) rfl (Nat.le_of_ble_eq_true rfl) kw_188 e1_ e2_ ?_
    refine mx_iload_n d_LBWorker_namesKept_15 rfl 2 rfl ?_
    obtain ⟨vs3, a4, e1_, e2_, e3_, h⟩ := h
    refine mx_aald (C := "LazyBuilder$Name") d_LBWorker_namesKept_16 (k := 112) rfl e1_ e2_ e3_ ?_
    obtain ⟨x6, ⟨fs5, e1_, e2_⟩, h⟩ := h
    refine mx_get d_LBWorker_namesKept_17 (ci := 2) (k := 3) (q := mx_cl0_2) rfl (Nat.le_of_ble_eq_true rfl) kw_203 e1_ e2_ ?_
    refine mx_ldc2 (v := (-1000000000000)) d_LBWorker_namesKept_20 kw_202 ?_
    refine mx_lcmp d_LBWorker_namesKept_23 ?_
    refine mx_if_eq d_LBWorker_namesKept_24 (fun c9 => ?_) (fun c9 => ?_)
    · replace h := h.1 ((lg_cmp_eq _ _).mp c9)
      refine mx_iconst (v := 0) d_LBWorker_namesKept_31 (by decide) ?_
      exact mx_sub [0, 2] rfl h
    · replace h := h.2 (fun z9 => c9 ((lg_cmp_eq _ _).mpr z9))
      refine mx_iconst (v := 1) d_LBWorker_namesKept_27 (by decide) ?_
      refine mx_goto d_LBWorker_namesKept_28 ?_
      exact mx_sub [0, 2] rfl h
set_option maxRecDepth 100000 in
theorem wp_LBWorker_namesKept_32 {l : Launch} {G : mx_G} {d : Nat} {hs : mx_H} {Q : Option Value → mx_H → Prop} (l0 : Nat) (l2 : Int32) (s0 : Int32) (s1 : Int32) (h : mx_Ok mx_S0 l G (d + 1) mm_LBWorker_namesKept 4 [(0, .ref l0), (1, .int (s0 + s1)), (2, .int (l2 + 1))] [] hs Q) : mx_Ok mx_S0 l G (d + 1) mm_LBWorker_namesKept 32 [(0, .ref l0), (2, .int l2)] [.int s1, .int s0] hs Q := by
  refine mx_iadd d_LBWorker_namesKept_32 ?_
  refine mx_istore_n (lv2 := [(1, .int (s0 + s1)), (0, .ref l0), (2, .int l2)]) d_LBWorker_namesKept_33 rfl (Nat.le_of_ble_eq_true rfl) rfl ?_
  refine mx_iinc (v := l2 + 1) (lv2 := [(2, .int (l2 + 1)), (1, .int (s0 + s1)), (0, .ref l0)]) d_LBWorker_namesKept_34 2 rfl (by rfl) (Nat.le_of_ble_eq_true rfl) rfl ?_
  refine mx_goto d_LBWorker_namesKept_37 ?_
  exact mx_sub [2, 1, 0] rfl h
set_option maxRecDepth 100000 in
theorem wp_LBWorker_isClosed_0 {l : Launch} {G : mx_G} {d : Nat} {hs : mx_H} {Q : Option Value → mx_H → Prop} (l0 : Nat) (h : (∃ (x2 : Int32), mx_f hs l0 5 4 (.int x2) ∧ ((x2 < 30 → Q (some (.int 0)) hs) ∧ (¬ (x2 < 30) → Q (some (.int 1)) hs)))) : mx_Ok mx_S0 l G (d + 1) mm_LBWorker_isClosed 0 [(0, .ref l0)] [] hs Q := by
  refine mx_aload_nR d_LBWorker_isClosed_0 rfl 0 rfl ?_
  obtain ⟨x2, ⟨fs1, e1_, e2_⟩, h⟩ := h
  refine mx_get d_LBWorker_isClosed_1 (ci := 5) (k := 4) (q := mx_cl0_5) rfl (Nat.le_of_ble_eq_true rfl) kw_204 e1_ e2_ ?_
  refine mx_bipush (v := 30) d_LBWorker_isClosed_4 (by decide) ?_
  refine mx_icmp_lt d_LBWorker_isClosed_6 (fun c9 => ?_) (fun c9 => ?_)
  · replace h := h.1 c9
    refine mx_iconst (v := 0) d_LBWorker_isClosed_13 (by decide) ?_
    exact mx_ireturn d_LBWorker_isClosed_14 rfl (mx_nz (Or.inl rfl)) h
  · replace h := h.2 c9
    refine mx_iconst (v := 1) d_LBWorker_isClosed_9 (by decide) ?_
    refine mx_goto d_LBWorker_isClosed_10 ?_
    exact mx_ireturn d_LBWorker_isClosed_14 rfl (mx_nz (Or.inr rfl)) h
set_option maxRecDepth 100000 in
theorem wp_LBWorker_answerOf_0 {l : Launch} {G : mx_G} {d : Nat} {hs : mx_H} {Q : Option Value → mx_H → Prop} (l0 : Nat) (l1 : Int64) (h : mx_C mx_S0 l G d mm_LB_isFailure [.long l1] hs (fun (r1 : Option Value) (hs2 : mx_H) => ∃ x3 : Int32, r1 = some (.int x3) ∧ ((¬ x3 = 0 → (∃ (x5 : Int32), mx_f hs2 l0 5 4 (.int x5) ∧ (∃ fs6 : List Value, hs2.1 l0 = some (5, fs6) ∧ ∀ hs7 : mx_H, hs7 = mx_st hs2 l0 (5, fs6.set 4 (.int (x5 + 1))) → Q (some (.int (Int64.toInt32 (l1 - (-1000000000000))))) hs7))) ∧ (¬ (¬ x3 = 0) → Q (some (.int 0)) hs2)))) : mx_Ok mx_S0 l G (d + 1) mm_LBWorker_answerOf 0 [(0, .ref l0), (1, .long l1)] [] hs Q := by
  refine mx_lload_n d_LBWorker_answerOf_0 rfl 1 rfl ?_
  refine mx_invSN (Y := mm_LB_isFailure) (As := [.long l1]) (rest := []) d_LBWorker_answerOf_1.1 ok_LB_isFailure kn_6 kw_88 rfl rfl (Nat.le_of_ble_eq_true rfl) (Nat.le_of_ble_eq_true rfl) h (fun r1 hs2 h => ?_)
  obtain ⟨x3, e9_, h⟩ := h
  subst e9_
  show mx_Ok mx_S0 l G (d + 1) mm_LBWorker_answerOf 4 [(0, .ref l0), (1, .long l1)] [.int x3] hs2 Q
  refine mx_if_ne d_LBWorker_answerOf_4 (fun c9 => ?_) (fun c9 => ?_)
  · replace h := h.1 c9
    refine mx_aload_nR d_LBWorker_answerOf_9 rfl 0 rfl ?_
    refine mx_dup d_LBWorker_answerOf_10 rfl ?_
    obtain ⟨x5, ⟨fs4, e1_, e2_⟩, h⟩ := h
    refine mx_get d_LBWorker_answerOf_11 (ci := 5) (k := 4) (q := mx_cl0_5) rfl (Nat.le_of_ble_eq_true rfl) kw_204 e1_ e2_ ?_
    refine mx_iconst (v := 1) d_LBWorker_answerOf_14 (by decide) ?_
    refine mx_iadd d_LBWorker_answerOf_15 ?_
    obtain ⟨fs6, e1_, h⟩ := h
    refine mx_put d_LBWorker_answerOf_16 (ci := 5) (k := 4) (q := mx_cl0_5) (ty := .int) rfl (Nat.le_of_ble_eq_true rfl) kw_204 rfl (by decide +kernel) rfl rfl (by omega) e1_ ?_
    obtain ⟨hs7, hg_⟩ : ∃ x_, x_ = mx_st hs2 l0 (5, fs6.set 4 (.int (x5 + 1))) := ⟨_, rfl⟩
    replace h := h hs7 hg_
    rw [← hg_]
    clear hg_
    refine mx_lload_n d_LBWorker_answerOf_19 rfl 1 rfl ?_
    refine mx_ldc2 (v := (-1000000000000)) d_LBWorker_answerOf_20 kw_202 ?_
    refine mx_lsub d_LBWorker_answerOf_23 ?_
    refine mx_l2i d_LBWorker_answerOf_24 ?_
    exact mx_ireturn d_LBWorker_answerOf_25 rfl rfl h
  · replace h := h.2 c9
    refine mx_iconst (v := 0) d_LBWorker_answerOf_7 (by decide) ?_
    exact mx_ireturn d_LBWorker_answerOf_8 rfl rfl h
set_option maxRecDepth 100000 in
theorem wp_LBWorker_workOutName_0 {l : Launch} {G : mx_G} {d : Nat} {hs : mx_H} {Q : Option Value → mx_H → Prop} (l0 : Nat) (l1 : Int32) (h : (∃ fs1 : List Value, hs.1 l0 = some (5, fs1) ∧ ∀ hs2 : mx_H, hs2 = mx_st hs l0 (5, fs1.set 3 (.int 1)) → ((∃ fs6 : List Value, hs2.1 l0 = some (5, fs6)) ∧ mx_C mx_S0 l G d mm_LBWorker_workName [.ref l0, .int l1, .int 1] hs2 (fun (r3 : Option Value) (hs4 : mx_H) => ∃ x5 : Int64, r3 = some (.long x5) ∧ Q (some (.long x5)) hs4)))) : mx_Ok mx_S0 l G (d + 1) mm_LBWorker_workOutName 0 [(0, .ref l0), (1, .int l1)] [] hs Q := by
  refine mx_aload_nR d_LBWorker_workOutName_0 rfl 0 rfl ?_
  refine mx_iconst (v := 1) d_LBWorker_workOutName_1 (by decide) ?_
  obtain ⟨fs1, e1_, h⟩ := h
  refine mx_put d_LBWorker_workOutName_2 (ci := 5) (k := 3) (q := mx_cl0_5) (ty := .int) rfl (Nat.le_of_ble_eq_true rfl) kw_205 rfl (by decide +kernel) rfl rfl (by omega) e1_ ?_
  obtain ⟨hs2, hg_⟩ : ∃ x_, x_ = mx_st hs l0 (5, fs1.set 3 (.int 1)) := ⟨_, rfl⟩
  replace h := h hs2 hg_
  rw [← hg_]
  clear hg_
  refine mx_aload_nR d_LBWorker_workOutName_5 rfl 0 rfl ?_
  refine mx_iload_n d_LBWorker_workOutName_6 rfl 1 rfl ?_
  refine mx_iconst (v := 1) d_LBWorker_workOutName_7 (by decide) ?_
  obtain ⟨⟨fs6, e1_⟩, h⟩ := h
  refine mx_invV (Y := mm_LBWorker_workName) (As := [.int l1, .int 1]) (rest := []) d_LBWorker_workOutName_8.1 ok_LBWorker_workName kw_206 kw_207 kw_208 rfl rfl (Nat.le_of_ble_eq_true rfl) (Nat.le_of_ble_eq_true rfl) e1_ (q := mx_cl0_5) rfl rfl h (fun r3 hs4 h => ?_)
  obtain ⟨x5, e9_, h⟩ := h
  subst e9_
  show mx_Ok mx_S0 l G (d + 1) mm_LBWorker_workOutName 11 [(0, .ref l0), (1, .int l1)] [.long x5] hs4 Q
  exact mx_lreturn d_LBWorker_workOutName_11 rfl h
set_option maxRecDepth 100000 in
theorem wp_LBWorker_workOutText_0 {l : Launch} {G : mx_G} {d : Nat} {hs : mx_H} {Q : Option Value → mx_H → Prop} (l0 : Nat) (l1 : Nat) (h : (∃ fs1 : List Value, hs.1 l0 = some (5, fs1) ∧ ∀ hs2 : mx_H, hs2 = mx_st hs l0 (5, fs1.set 3 (.int 0)) → ((∃ fs6 : List Value, hs2.1 l0 = some (5, fs6)) ∧ mx_C mx_S0 l G d mm_LBWorker_work [.ref l0, .ref l1, .int 0, .int 1] hs2 (fun (r3 : Option Value) (hs4 : mx_H) => ∃ x5 : Int64, r3 = some (.long x5) ∧ Q (some (.long x5)) hs4)))) : mx_Ok mx_S0 l G (d + 1) mm_LBWorker_workOutText 0 [(0, .ref l0), (1, .ref l1)] [] hs Q := by
  refine mx_aload_nR d_LBWorker_workOutText_0 rfl 0 rfl ?_
  refine mx_iconst (v := 0) d_LBWorker_workOutText_1 (by decide) ?_
  obtain ⟨fs1, e1_, h⟩ := h
  refine mx_put d_LBWorker_workOutText_2 (ci := 5) (k := 3) (q := mx_cl0_5) (ty := .int) rfl (Nat.le_of_ble_eq_true rfl) kw_205 rfl (by decide +kernel) rfl rfl (by omega) e1_ ?_
  obtain ⟨hs2, hg_⟩ : ∃ x_, x_ = mx_st hs l0 (5, fs1.set 3 (.int 0)) := ⟨_, rfl⟩
  replace h := h hs2 hg_
  rw [← hg_]
  clear hg_
  refine mx_aload_nR d_LBWorker_workOutText_5 rfl 0 rfl ?_
  refine mx_aload_nR d_LBWorker_workOutText_6 rfl 1 rfl ?_
  refine mx_iconst (v := 0) d_LBWorker_workOutText_7 (by decide) ?_
  refine mx_iconst (v := 1) d_LBWorker_workOutText_8 (by decide) ?_
  obtain ⟨⟨fs6, e1_⟩, h⟩ := h
  refine mx_invV (Y := mm_LBWorker_work) (As := [.ref l1, .int 0, .int 1]) (rest := []) d_LBWorker_workOutText_9.1 ok_LBWorker_work kw_209 kw_210 kw_211 rfl rfl (Nat.le_of_ble_eq_true rfl) (Nat.le_of_ble_eq_true rfl) e1_ (q := mx_cl0_5) rfl rfl h (fun r3 hs4 h => ?_)
  obtain ⟨x5, e9_, h⟩ := h
  subst e9_
  show mx_Ok mx_S0 l G (d + 1) mm_LBWorker_workOutText 12 [(0, .ref l0), (1, .ref l1)] [.long x5] hs4 Q
  exact mx_lreturn d_LBWorker_workOutText_12 rfl h
set_option maxRecDepth 100000 in
theorem wp_LBWorker_work_0 {l : Launch} {G : mx_G} {d : Nat} {hs : mx_H} {Q : Option Value → mx_H → Prop} (l0 : Nat) (l1 : Nat) (l2 : Int32) (l3 : Int32) (h : (∃ (x2 : Int32), mx_f hs l0 5 3 (.int x2) ∧ ((200 ≤ x2 → Q (some (.long (-1000000000010))) hs) ∧ (¬ (200 ≤ x2) → ((l3 ≤ 72 → (∃ (x4 : Int32), mx_f hs l0 5 3 (.int x4) ∧ (∃ fs5 : List Value, hs.1 l0 = some (5, fs5) ∧ ∀ hs6 : mx_H, hs6 = mx_st hs l0 (5, fs5.set 3 (.int (x4 + 1))) → ((∃ fs44 : List Value, hs6.1 l1 = some (1, fs44)) ∧ mx_C mx_S0 l G d mm_LBText_codeAt [.ref l1, .int l2] hs6 (fun (r7 : Option Value) (hs8 : mx_H) => ∃ x9 : Int32, r7 = some (.int x9) ∧ mx_C mx_S0 l G d mm_LB_isDigit [.int x9] hs8 (fun (r10 : Option Value) (hs11 : mx_H) => ∃ x12 : Int32, r10 = some (.int x12) ∧ ((x12 = 0 → mx_C mx_S0 l G d mm_LB_isLetter [.int x9] hs11 (fun (r13 : Option Value) (hs14 : mx_H) => ∃ x15 : Int32, r13 = some (.int x15) ∧ ((x15 = 0 → ((x9 = 33 → ((∃ fs19 : List Value, hs14.1 l0 = some (5, fs19)) ∧ mx_C mx_S0 l G d mm_LBWorker_workAbort [.ref l0, .ref l1, .int l2, .int l3] hs14 (fun (r16 : Option Value) (hs17 : mx_H) => ∃ x18 : Int64, r16 = some (.long x18) ∧ Q (some (.long x18)) hs17))) ∧ (x9 = 63 → ((∃ fs23 : List Value, hs14.1 l0 = some (5, fs23)) ∧ mx_C mx_S0 l G d mm_LBWorker_workChoice [.ref l0, .ref l1, .int l2, .int l3] hs14 (fun (r20 : Option Value) (hs21 : mx_H) => ∃ x22 : Int64, r20 = some (.long x22) ∧ Q (some (.long x22)) hs21))) ∧ (x9 = 68 → ((∃ fs27 : List Value, hs14.1 l0 = some (5, fs27)) ∧ mx_C mx_S0 l G d mm_LBWorker_workPlan [.ref l0, .ref l1, .int l2, .int l3] hs14 (fun (r24 : Option Value) (hs25 : mx_H) => ∃ x26 : Int64, r24 = some (.long x26) ∧ Q (some (.long x26)) hs25))) ∧ (x9 = 79 → ((∃ fs31 : List Value, hs14.1 l0 = some (5, fs31)) ∧ mx_C mx_S0 l G d mm_LBWorker_workResult [.ref l0, .ref l1, .int l2, .int l3] hs14 (fun (r28 : Option Value) (hs29 : mx_H) => ∃ x30 : Int64, r28 = some (.long x30) ∧ Q (some (.long x30)) hs29))) ∧ (x9 = 84 → ((∃ fs35 : List Value, hs14.1 l0 = some (5, fs35)) ∧ mx_C mx_S0 l G d mm_LBWorker_workTry [.ref l0, .ref l1, .int l2, .int l3] hs14 (fun (r32 : Option Value) (hs33 : mx_H) => ∃ x34 : Int64, r32 = some (.long x34) ∧ Q (some (.long x34)) hs33))) ∧ (¬ x9 = 33 → ¬ x9 = 63 → ¬ x9 = 68 → ¬ x9 = 79 → ¬ x9 = 84 → ((∃ fs39 : List Value, hs14.1 l0 = some (5, fs39)) ∧ mx_C mx_S0 l G d mm_LBWorker_workPair [.ref l0, .ref l1, .int l2, .int l3] hs14 (fun (r36 : Option Value) (hs37 : mx_H) => ∃ x38 : Int64, r36 = some (.long x38) ∧ Q (some (.long x38)) hs37))))) ∧ (¬ (x15 = 0) → ((∃ fs43 : List Value, hs14.1 l0 = some (5, fs43)) ∧ mx_C mx_S0 l G d mm_LBWorker_workName [.ref l0, .int (x9 - 97), .int l3] hs14 (fun (r40 : Option Value) (hs41 : mx_H) => ∃ x42 : Int64, r40 = some (.long x42) ∧ Q (some (.long x42)) hs41)))))) ∧ (¬ (x12 = 0) → Q (some (.long (Int32.toInt64 (x9 - 48)))) hs11)))))))) ∧ (¬ (l3 ≤ 72) → Q (some (.long (-1000000000010))) hs)))))) : mx_Ok mx_S0 l G (d + 1) mm_LBWorker_work 0 [(0, .ref l0), (1, .ref l1), (2, .int l2), (3, .int l3)] [] hs Q := by
  refine mx_aload_nR d_LBWorker_work_0 rfl 0 rfl ?_
  obtain ⟨x2, ⟨fs1, e1_, e2_⟩, h⟩ := h
  refine mx_get d_LBWorker_work_1 (ci := 5) (k := 3) (q := mx_cl0_5) rfl (Nat.le_of_ble_eq_true rfl) kw_205 e1_ e2_ ?_
  refine mx_sipush (v := 200) d_LBWorker_work_4 (by decide) ?_
  refine mx_icmp_ge d_LBWorker_work_7 (fun c9 => ?_) (fun c9 => ?_)
  · replace h := h.1 c9
    refine mx_ldc2 (v := (-1000000000010)) d_LBWorker_work_16 kw_212 ?_
    exact mx_lreturn d_LBWorker_work_19 rfl h
  · replace h := h.2 c9
    refine mx_iload_n d_LBWorker_work_10 rfl 3 rfl ?_
    refine mx_bipush (v := 72) d_LBWorker_work_11 (by decide) ?_
    refine mx_icmp_le d_LBWorker_work_13 (fun c9 => ?_) (fun c9 => ?_)
    · replace h := h.1 c9
      refine mx_aload_nR d_LBWorker_work_20 rfl 0 rfl ?_
      refine mx_dup d_LBWorker_work_21 rfl ?_
      obtain ⟨x4, ⟨fs3, e1_, e2_⟩, h⟩ := h
      refine mx_get d_LBWorker_work_22 (ci := 5) (k := 3) (q := mx_cl0_5) rfl (Nat.le_of_ble_eq_true rfl) kw_205 e1_ e2_ ?_
      refine mx_iconst (v := 1) d_LBWorker_work_25 (by decide) ?_
      refine mx_iadd d_LBWorker_work_26 ?_
      obtain ⟨fs5, e1_, h⟩ := h
      refine mx_put d_LBWorker_work_27 (ci := 5) (k := 3) (q := mx_cl0_5) (ty := .int) rfl (Nat.le_of_ble_eq_true rfl) kw_205 rfl (by decide +kernel) rfl rfl (by omega) e1_ ?_
      obtain ⟨hs6, hg_⟩ : ∃ x_, x_ = mx_st hs l0 (5, fs5.set 3 (.int (x4 + 1))) := ⟨_, rfl⟩
      replace h := h hs6 hg_
      rw [← hg_]
      clear hg_
      refine mx_aload_nR d_LBWorker_work_30 rfl 1 rfl ?_
      refine mx_iload_n d_LBWorker_work_31 rfl 2 rfl ?_
      obtain ⟨⟨fs44, e1_⟩, h⟩ := h
      refine mx_invV (Y := mm_LBText_codeAt) (As := [.int l2]) (rest := []) d_LBWorker_work_32.1 ok_LBText_codeAt kw_231 kw_119 kw_120 rfl rfl (Nat.le_of_ble_eq_true rfl) (Nat.le_of_ble_eq_true rfl) e1_ (q := mx_cl0_1) rfl rfl h (fun r7 hs8 h => ?_)
      obtain ⟨x9, e9_, h⟩ := h
      subst e9_
      show mx_Ok mx_S0 l G (d + 1) mm_LBWorker_work 35 [(0, .ref l0), (1, .ref l1), (2, .int l2), (3, .int l3)] [.int x9] hs8 Q
      refine mx_istore (lv2 := [(4, .int x9), (0, .ref l0), (1, .ref l1), (2, .int l2), (3, .int l3)]) d_LBWorker_work_35 (Nat.le_of_ble_eq_true rfl) rfl ?_
      refine mx_iload d_LBWorker_work_37 0 rfl ?_
      refine mx_invSN (Y := mm_LB_isDigit) (As := [.int x9]) (rest := []) d_LBWorker_work_39.1 ok_LB_isDigit kn_8 kw_117 rfl rfl (Nat.le_of_ble_eq_true rfl) (Nat.le_of_ble_eq_true rfl) h (fun r10 hs11 h => ?_)
      obtain ⟨x12, e9_, h⟩ := h
      subst e9_
      show mx_Ok mx_S0 l G (d + 1) mm_LBWorker_work 42 [(4, .int x9), (0, .ref l0), (1, .ref l1), (2, .int l2), (3, .int l3)] [.int x12] hs11 Q
      refine mx_if_eq d_LBWorker_work_42 (fun c9 => ?_) (fun c9 => ?_)
      · replace h := h.1 c9
        refine mx_iload d_LBWorker_work_52 0 rfl ?_
        refine mx_invSN (Y := mm_LB_isLetter) (As := [.int x9]) (rest := []) d_LBWorker_work_54.1 ok_LB_isLetter kn_7 kw_116 rfl rfl (Nat.le_of_ble_eq_true rfl) (Nat.le_of_ble_eq_true rfl) h (fun r13 hs14 h => ?_)
        obtain ⟨x15, e9_, h⟩ := h
        subst e9_
        show mx_Ok mx_S0 l G (d + 1) mm_LBWorker_work 57 [(4, .int x9), (0, .ref l0), (1, .ref l1), (2, .int l2), (3, .int l3)] [.int x15] hs14 Q
        refine mx_if_eq d_LBWorker_work_57 (fun c9 => ?_) (fun c9 => ?_)
        · replace h := h.1 c9
          refine mx_iload d_LBWorker_work_71 0 rfl ?_
          by_cases c0_ : x9 = 33
          · replace h := h.1 c0_
            refine mx_lookup d_LBWorker_work_73 (by decide) (o := 59) (by rw [c0_]; decide) (tgt := 132) (by decide) ?_
            refine mx_aload_nR d_LBWorker_work_132 rfl 1 rfl ?_
            refine mx_aload_nR d_LBWorker_work_133 rfl 2 rfl ?_
            refine mx_iload_n d_LBWorker_work_134 rfl 3 rfl ?_
            refine mx_iload_n d_LBWorker_work_135 rfl 4 rfl ?_
            obtain ⟨⟨fs19, e1_⟩, h⟩ := h
            refine mx_invV (Y := mm_LBWorker_workAbort) (As := [.ref l1, .int l2, .int l3]) (rest := []) d_LBWorker_work_136.1 ok_LBWorker_workAbort kw_213 kw_214 kw_215 rfl rfl (Nat.le_of_ble_eq_true rfl) (Nat.le_of_ble_eq_true rfl) e1_ (q := mx_cl0_5) rfl rfl h (fun r16 hs17 h => ?_)
            obtain ⟨x18, e9_, h⟩ := h
            subst e9_
            show mx_Ok mx_S0 l G (d + 1) mm_LBWorker_work 139 [(4, .int x9), (0, .ref l0), (1, .ref l1), (2, .int l2), (3, .int l3)] [.long x18] hs17 Q
            exact mx_lreturn d_LBWorker_work_139 rfl h
          by_cases c1_ : x9 = 63
          · replace h := h.2.1 c1_
            refine mx_lookup d_LBWorker_work_73 (by decide) (o := 51) (by rw [c1_]; decide) (tgt := 124) (by decide) ?_
            refine mx_aload_nR d_LBWorker_work_124 rfl 1 rfl ?_
            refine mx_aload_nR d_LBWorker_work_125 rfl 2 rfl ?_
            refine mx_iload_n d_LBWorker_work_126 rfl 3 rfl ?_
            refine mx_iload_n d_LBWorker_work_127 rfl 4 rfl ?_
            obtain ⟨⟨fs23, e1_⟩, h⟩ := h
            refine mx_invV (Y := mm_LBWorker_workChoice) (As := [.ref l1, .int l2, .int l3]) (rest := []) d_LBWorker_work_128.1 ok_LBWorker_workChoice kw_216 kw_217 kw_218 rfl rfl (Nat.le_of_ble_eq_true rfl) (Nat.le_of_ble_eq_true rfl) e1_ (q := mx_cl0_5) rfl rfl h (fun r20 hs21 h => ?_)
            obtain ⟨x22, e9_, h⟩ := h
            subst e9_
            show mx_Ok mx_S0 l G (d + 1) mm_LBWorker_work 131 [(4, .int x9), (0, .ref l0), (1, .ref l1), (2, .int l2), (3, .int l3)] [.long x22] hs21 Q
            exact mx_lreturn d_LBWorker_work_131 rfl h
          by_cases c2_ : x9 = 68
          · replace h := h.2.2.1 c2_
            refine mx_lookup d_LBWorker_work_73 (by decide) (o := 75) (by rw [c2_]; decide) (tgt := 148) (by decide) ?_
            refine mx_aload_nR d_LBWorker_work_148 rfl 1 rfl ?_
            refine mx_aload_nR d_LBWorker_work_149 rfl 2 rfl ?_
            refine mx_iload_n d_LBWorker_work_150 rfl 3 rfl ?_
            refine mx_iload_n d_LBWorker_work_151 rfl 4 rfl ?_
            obtain ⟨⟨fs27, e1_⟩, h⟩ := h
            refine mx_invV (Y := mm_LBWorker_workPlan) (As := [.ref l1, .int l2, .int l3]) (rest := []) d_LBWorker_work_152.1 ok_LBWorker_workPlan kw_219 kw_220 kw_221 rfl rfl (Nat.le_of_ble_eq_true rfl) (Nat.le_of_ble_eq_true rfl) e1_ (q := mx_cl0_5) rfl rfl h (fun r24 hs25 h => ?_)
            obtain ⟨x26, e9_, h⟩ := h
            subst e9_
            show mx_Ok mx_S0 l G (d + 1) mm_LBWorker_work 155 [(4, .int x9), (0, .ref l0), (1, .ref l1), (2, .int l2), (3, .int l3)] [.long x26] hs25 Q
            exact mx_lreturn d_LBWorker_work_155 rfl h
          by_cases c3_ : x9 = 79
          · replace h := h.2.2.2.1 c3_
            refine mx_lookup d_LBWorker_work_73 (by decide) (o := 83) (by rw [c3_]; decide) (tgt := 156) (by decide) ?_
            refine mx_aload_nR d_LBWorker_work_156 rfl 1 rfl ?_
            refine mx_aload_nR d_LBWorker_work_157 rfl 2 rfl ?_
            refine mx_iload_n d_LBWorker_work_158 rfl 3 rfl ?_
            refine mx_iload_n d_LBWorker_work_159 rfl 4 rfl ?_
            obtain ⟨⟨fs31, e1_⟩, h⟩ := h
            refine mx_invV (Y := mm_LBWorker_workResult) (As := [.ref l1, .int l2, .int l3]) (rest := []) d_LBWorker_work_160.1 ok_LBWorker_workResult kw_222 kw_223 kw_224 rfl rfl (Nat.le_of_ble_eq_true rfl) (Nat.le_of_ble_eq_true rfl) e1_ (q := mx_cl0_5) rfl rfl h (fun r28 hs29 h => ?_)
            obtain ⟨x30, e9_, h⟩ := h
            subst e9_
            show mx_Ok mx_S0 l G (d + 1) mm_LBWorker_work 163 [(4, .int x9), (0, .ref l0), (1, .ref l1), (2, .int l2), (3, .int l3)] [.long x30] hs29 Q
            exact mx_lreturn d_LBWorker_work_163 rfl h
          by_cases c4_ : x9 = 84
          · replace h := h.2.2.2.2.1 c4_
            refine mx_lookup d_LBWorker_work_73 (by decide) (o := 67) (by rw [c4_]; decide) (tgt := 140) (by decide) ?_
            refine mx_aload_nR d_LBWorker_work_140 rfl 1 rfl ?_
            refine mx_aload_nR d_LBWorker_work_141 rfl 2 rfl ?_
            refine mx_iload_n d_LBWorker_work_142 rfl 3 rfl ?_
            refine mx_iload_n d_LBWorker_work_143 rfl 4 rfl ?_
            obtain ⟨⟨fs35, e1_⟩, h⟩ := h
            refine mx_invV (Y := mm_LBWorker_workTry) (As := [.ref l1, .int l2, .int l3]) (rest := []) d_LBWorker_work_144.1 ok_LBWorker_workTry kw_225 kw_226 kw_227 rfl rfl (Nat.le_of_ble_eq_true rfl) (Nat.le_of_ble_eq_true rfl) e1_ (q := mx_cl0_5) rfl rfl h (fun r32 hs33 h => ?_)
            obtain ⟨x34, e9_, h⟩ := h
            subst e9_
            show mx_Ok mx_S0 l G (d + 1) mm_LBWorker_work 147 [(4, .int x9), (0, .ref l0), (1, .ref l1), (2, .int l2), (3, .int l3)] [.long x34] hs33 Q
            exact mx_lreturn d_LBWorker_work_147 rfl h
          replace h := h.2.2.2.2.2 c0_ c1_ c2_ c3_ c4_
          refine mx_lookup d_LBWorker_work_73 (by decide) (o := 91) (by show Op.lookupswitch.offset [(33, 59), (63, 51), (68, 75), (79, 83), (84, 67)] 91 _ = _; rw [lv_osw c0_ (by decide), lv_osw c1_ (by decide), lv_osw c2_ (by decide), lv_osw c3_ (by decide), lv_osw c4_ (by decide)]; rfl) (tgt := 164) (by decide) ?_
          refine mx_aload_nR d_LBWorker_work_164 rfl 1 rfl ?_
          refine mx_aload_nR d_LBWorker_work_165 rfl 2 rfl ?_
          refine mx_iload_n d_LBWorker_work_166 rfl 3 rfl ?_
          refine mx_iload_n d_LBWorker_work_167 rfl 4 rfl ?_
          obtain ⟨⟨fs39, e1_⟩, h⟩ := h
          refine mx_invV (Y := mm_LBWorker_workPair) (As := [.ref l1, .int l2, .int l3]) (rest := []) d_LBWorker_work_168.1 ok_LBWorker_workPair kw_228 kw_229 kw_230 rfl rfl (Nat.le_of_ble_eq_true rfl) (Nat.le_of_ble_eq_true rfl) e1_ (q := mx_cl0_5) rfl rfl h (fun r36 hs37 h => ?_)
          obtain ⟨x38, e9_, h⟩ := h
          subst e9_
          show mx_Ok mx_S0 l G (d + 1) mm_LBWorker_work 171 [(4, .int x9), (0, .ref l0), (1, .ref l1), (2, .int l2), (3, .int l3)] [.long x38] hs37 Q
          exact mx_lreturn d_LBWorker_work_171 rfl h
        · replace h := h.2 c9
          refine mx_aload_nR d_LBWorker_work_60 rfl 1 rfl ?_
          refine mx_iload d_LBWorker_work_61 0 rfl ?_
          refine mx_bipush (v := 97) d_LBWorker_work_63 (by decide) ?_
          refine mx_isub d_LBWorker_work_65 ?_
          refine mx_iload_n d_LBWorker_work_66 rfl 4 rfl ?_
          obtain ⟨⟨fs43, e1_⟩, h⟩ := h
          refine mx_invV (Y := mm_LBWorker_workName) (As := [.int (x9 - 97), .int l3]) (rest := []) d_LBWorker_work_67.1 ok_LBWorker_workName kw_206 kw_207 kw_208 rfl rfl (Nat.le_of_ble_eq_true rfl) (Nat.le_of_ble_eq_true rfl) e1_ (q := mx_cl0_5) rfl rfl h (fun r40 hs41 h => ?_)
          obtain ⟨x42, e9_, h⟩ := h
          subst e9_
          show mx_Ok mx_S0 l G (d + 1) mm_LBWorker_work 70 [(4, .int x9), (0, .ref l0), (1, .ref l1), (2, .int l2), (3, .int l3)] [.long x42] hs41 Q
          exact mx_lreturn d_LBWorker_work_70 rfl h
      · replace h := h.2 c9
        refine mx_iload d_LBWorker_work_45 0 rfl ?_
        refine mx_bipush (v := 48) d_LBWorker_work_47 (by decide) ?_
        refine mx_isub d_LBWorker_work_49 ?_
        refine mx_i2l d_LBWorker_work_50 ?_
        exact mx_lreturn d_LBWorker_work_51 rfl h
    · replace h := h.2 c9
      refine mx_ldc2 (v := (-1000000000010)) d_LBWorker_work_16 kw_212 ?_
      exact mx_lreturn d_LBWorker_work_19 rfl h
set_option maxRecDepth 100000 in
theorem wp_LBWorker_workName_0 {l : Launch} {G : mx_G} {d : Nat} {hs : mx_H} {Q : Option Value → mx_H → Prop} (l0 : Nat) (l1 : Int32) (l2 : Int32) (h : (∃ (a2 : Nat), mx_f hs l0 5 0 (.ref a2) ∧ (∃ (vs3 : List Value) (a4 : Nat), hs.1 a2 = some (112, vs3) ∧ ¬ l1 < 0 ∧ vs3[Int32.toNatClampNeg l1]? = some (.ref a4) ∧ (∃ (x6 : Int32), mx_f hs a4 2 1 (.int x6) ∧ ((¬ x6 = 0 → (∃ (x8 : Int32), mx_f hs a4 2 2 (.int x8) ∧ ((x8 = 0 → (∃ (x10 : Int64), mx_f hs a4 2 3 (.long x10) ∧ ((x10 = (-1000000000000) → (∃ fs11 : List Value, hs.1 a4 = some (2, fs11) ∧ ∀ hs12 : mx_H, hs12 = mx_st hs a4 (2, fs11.set 2 (.int 1)) → (∃ (a14 : Nat), mx_f hs12 a4 2 0 (.ref a14) ∧ ((∃ fs25 : List Value, hs12.1 l0 = some (5, fs25)) ∧ mx_C mx_S0 l G d mm_LBWorker_work [.ref l0, .ref a14, .int 0, .int (l2 + 1)] hs12 (fun (r15 : Option Value) (hs16 : mx_H) => ∃ x17 : Int64, r15 = some (.long x17) ∧ (∃ fs18 : List Value, hs16.1 a4 = some (2, fs18) ∧ ∀ hs19 : mx_H, hs19 = mx_st hs16 a4 (2, fs18.set 2 (.int 0)) → mx_C mx_S0 l G d mm_LB_isFailure [.long x17] hs19 (fun (r20 : Option Value) (hs21 : mx_H) => ∃ x22 : Int32, r20 = some (.int x22) ∧ ((¬ x22 = 0 → Q (some (.long x17)) hs21) ∧ (¬ (¬ x22 = 0) → (∃ fs23 : List Value, hs21.1 a4 = some (2, fs23) ∧ ∀ hs24 : mx_H, hs24 = mx_st hs21 a4 (2, fs23.set 3 (.long x17)) → Q (some (.long x17)) hs24)))))))))) ∧ (¬ (x10 = (-1000000000000)) → (∃ (x27 : Int64), mx_f hs a4 2 3 (.long x27) ∧ Q (some (.long x27)) hs))))) ∧ (¬ (x8 = 0) → Q (some (.long (-1000000000008))) hs)))) ∧ (¬ (¬ x6 = 0) → Q (some (.long (-1000000000004))) hs)))))) : mx_Ok mx_S0 l G (d + 1) mm_LBWorker_workName 0 [(0, .ref l0), (1, .int l1), (2, .int l2)] [] hs Q := by
  refine mx_aload_nR d_LBWorker_workName_0 rfl 0 rfl ?_
  obtain ⟨a2, ⟨fs1, e1_, e2_⟩, h⟩ := h
  refine mx_get d_LBWorker_workName_1 (ci := 5) (k := 0) (q := mx_cl0_5) rfl (Nat.le_of_ble_eq_true rfl) kw_188 e1_ e2_ ?_
  refine mx_iload_n d_LBWorker_workName_4 rfl 1 rfl ?_
  obtain ⟨vs3, a4, e1_, e2_, e3_, h⟩ := h
  refine mx_aald (C := "LazyBuilder$Name") d_LBWorker_workName_5 (k := 112) rfl e1_ e2_ e3_ ?_
  refine mx_astore_n (lv2 := [(3, .ref a4), (0, .ref l0), (1, .int l1), (2, .int l2)]) d_LBWorker_workName_6 rfl (Nat.le_of_ble_eq_true rfl) rfl (Or.inr ⟨_, rfl⟩) ?_
  refine mx_aload_nR d_LBWorker_workName_7 rfl 0 rfl ?_
  obtain ⟨x6, ⟨fs5, e1_, e2_⟩, h⟩ := h
  refine mx_get d_LBWorker_workName_8 (ci := 2) (k := 1) (q := mx_cl0_2) rfl (Nat.le_of_ble_eq_true rfl) kw_195 e1_ e2_ ?_
  refine mx_if_ne d_LBWorker_workName_11 (fun c9 => ?_) (fun c9 => ?_)
  · replace h := h.1 c9
    refine mx_aload_nR d_LBWorker_workName_18 rfl 0 rfl ?_
    obtain ⟨x8, ⟨fs7, e1_, e2_⟩, h⟩ := h
    refine mx_get d_LBWorker_workName_19 (ci := 2) (k := 2) (q := mx_cl0_2) rfl (Nat.le_of_ble_eq_true rfl) kw_232 e1_ e2_ ?_
    refine mx_if_eq d_LBWorker_workName_22 (fun c9 => ?_) (fun c9 => ?_)
    · replace h := h.1 c9
      refine mx_aload_nR d_LBWorker_workName_29 rfl 0 rfl ?_
      obtain ⟨x10, ⟨fs9, e1_, e2_⟩, h⟩ := h
      refine mx_get d_LBWorker_workName_30 (ci := 2) (k := 3) (q := mx_cl0_2) rfl (Nat.le_of_ble_eq_true rfl) kw_203 e1_ e2_ ?_
      refine mx_ldc2 (v := (-1000000000000)) d_LBWorker_workName_33 kw_202 ?_
      refine mx_lcmp d_LBWorker_workName_36 ?_
      refine mx_if_eq d_LBWorker_workName_37 (fun c9 => ?_) (fun c9 => ?_)
      · replace h := h.1 ((lg_cmp_eq _ _).mp c9)
        refine mx_aload_nR d_LBWorker_workName_45 rfl 0 rfl ?_
        refine mx_iconst (v := 1) d_LBWorker_workName_46 (by decide) ?_
        obtain ⟨fs11, e1_, h⟩ := h
        refine mx_put d_LBWorker_workName_47 (ci := 2) (k := 2) (q := mx_cl0_2) (ty := .boolean) rfl (Nat.le_of_ble_eq_true rfl) kw_232 rfl (by decide +kernel) (mx_nz (Or.inr rfl)) (mx_fz (Or.inr rfl)) (by omega) e1_ ?_
        obtain ⟨hs12, hg_⟩ : ∃ x_, x_ = mx_st hs a4 (2, fs11.set 2 (.int 1)) := ⟨_, rfl⟩
        replace h := h hs12 hg_
        rw [← hg_]
        clear hg_
        refine mx_aload_nR d_LBWorker_workName_50 rfl 1 rfl ?_
        refine mx_aload_nR d_LBWorker_workName_51 rfl 0 rfl ?_
        obtain ⟨a14, ⟨fs13, e1_, e2_⟩, h⟩ := h
        refine mx_get d_LBWorker_workName_52 (ci := 2) (k := 0) (q := mx_cl0_2) rfl (Nat.le_of_ble_eq_true rfl) kw_194 e1_ e2_ ?_
        refine mx_iconst (v := 0) d_LBWorker_workName_55 (by decide) ?_
        refine mx_iload_n d_LBWorker_workName_56 rfl 3 rfl ?_
        refine mx_iconst (v := 1) d_LBWorker_workName_57 (by decide) ?_
        refine mx_iadd d_LBWorker_workName_58 ?_
        obtain ⟨⟨fs25, e1_⟩, h⟩ := h
        refine mx_invV (Y := mm_LBWorker_work) (As := [.ref a14, .int 0, .int (l2 + 1)]) (rest := []) d_LBWorker_workName_59.1 ok_LBWorker_work kw_209 kw_210 kw_211 rfl rfl (Nat.le_of_ble_eq_true rfl) (Nat.le_of_ble_eq_true rfl) e1_ (q := mx_cl0_5) rfl rfl h (fun r15 hs16 h => ?_)
        obtain ⟨x17, e9_, h⟩ := h
        subst e9_
        show mx_Ok mx_S0 l G (d + 1) mm_LBWorker_workName 62 [(3, .ref a4), (0, .ref l0), (1, .int l1), (2, .int l2)] [.long x17] hs16 Q
        refine mx_lstore (lv2 := [(4, .long x17), (3, .ref a4), (0, .ref l0), (1, .int l1), (2, .int l2)]) d_LBWorker_workName_62 (Nat.le_of_ble_eq_true rfl) rfl ?_
        refine mx_aload_nR d_LBWorker_workName_64 rfl 1 rfl ?_
        refine mx_iconst (v := 0) d_LBWorker_workName_65 (by decide) ?_
        obtain ⟨fs18, e1_, h⟩ := h
        refine mx_put d_LBWorker_workName_66 (ci := 2) (k := 2) (q := mx_cl0_2) (ty := .boolean) rfl (Nat.le_of_ble_eq_true rfl) kw_232 rfl (by decide +kernel) (mx_nz (Or.inl rfl)) (mx_fz (Or.inl rfl)) (by omega) e1_ ?_
        obtain ⟨hs19, hg_⟩ : ∃ x_, x_ = mx_st hs16 a4 (2, fs18.set 2 (.int 0)) := ⟨_, rfl⟩
        replace h := h hs19 hg_
        rw [← hg_]
        clear hg_
        refine mx_lload d_LBWorker_workName_69 0 rfl ?_
        refine mx_invSN (Y := mm_LB_isFailure) (As := [.long x17]) (rest := []) d_LBWorker_workName_71.1 ok_LB_isFailure kn_6 kw_88 rfl rfl (Nat.le_of_ble_eq_true rfl) (Nat.le_of_ble_eq_true rfl) h (fun r20 hs21 h => ?_)
        obtain ⟨x22, e9_, h⟩ := h
        subst e9_
        show mx_Ok mx_S0 l G (d + 1) mm_LBWorker_workName 74 [(4, .long x17), (3, .ref a4), (0, .ref l0), (1, .int l1), (2, .int l2)] [.int x22] hs21 Q
        refine mx_if_ne d_LBWorker_workName_74 (fun c9 => ?_) (fun c9 => ?_)
        · replace h := h.1 c9
          refine mx_lload d_LBWorker_workName_83 0 rfl ?_
          exact mx_lreturn d_LBWorker_workName_85 rfl h
        · replace h := h.2 c9
          refine mx_aload_nR d_LBWorker_workName_77 rfl 1 rfl ?_
          refine mx_lload d_LBWorker_workName_78 0 rfl ?_
          obtain ⟨fs23, e1_, h⟩ := h
          refine mx_put d_LBWorker_workName_80 (ci := 2) (k := 3) (q := mx_cl0_2) (ty := .long) rfl (Nat.le_of_ble_eq_true rfl) kw_203 rfl (by decide +kernel) rfl rfl (by omega) e1_ ?_
          obtain ⟨hs24, hg_⟩ : ∃ x_, x_ = mx_st hs21 a4 (2, fs23.set 3 (.long x17)) := ⟨_, rfl⟩
          replace h := h hs24 hg_
          rw [← hg_]
          clear hg_
          refine mx_lload d_LBWorker_workName_83 0 rfl ?_
          exact mx_lreturn d_LBWorker_workName_85 rfl h
      · replace h := h.2 (fun z9 => c9 ((lg_cmp_eq _ _).mpr z9))
        refine mx_aload_nR d_LBWorker_workName_40 rfl 0 rfl ?_
        obtain ⟨x27, ⟨fs26, e1_, e2_⟩, h⟩ := h
        refine mx_get d_LBWorker_workName_41 (ci := 2) (k := 3) (q := mx_cl0_2) rfl (Nat.le_of_ble_eq_true rfl) kw_203 e1_ e2_ ?_
        exact mx_lreturn d_LBWorker_workName_44 rfl h
    · replace h := h.2 c9
      refine mx_ldc2 (v := (-1000000000008)) d_LBWorker_workName_25 kw_233 ?_
      exact mx_lreturn d_LBWorker_workName_28 rfl h
  · replace h := h.2 c9
    refine mx_ldc2 (v := (-1000000000004)) d_LBWorker_workName_14 kw_234 ?_
    exact mx_lreturn d_LBWorker_workName_17 rfl h
set_option maxRecDepth 100000 in
theorem wp_LBWorker_workPair_0 {l : Launch} {G : mx_G} {d : Nat} {hs : mx_H} {Q : Option Value → mx_H → Prop} (l0 : Nat) (l1 : Nat) (l2 : Int32) (l3 : Int32) (h : ((∃ fs31 : List Value, hs.1 l0 = some (5, fs31)) ∧ mx_C mx_S0 l G d mm_LBWorker_work [.ref l0, .ref l1, .int (l2 + 1), .int (l3 + 1)] hs (fun (r1 : Option Value) (hs2 : mx_H) => ∃ x3 : Int64, r1 = some (.long x3) ∧ mx_C mx_S0 l G d mm_LB_isFailure [.long x3] hs2 (fun (r4 : Option Value) (hs5 : mx_H) => ∃ x6 : Int32, r4 = some (.int x6) ∧ ((x6 = 0 → ((∃ fs30 : List Value, hs5.1 l1 = some (1, fs30)) ∧ mx_C mx_S0 l G d mm_LBText_endOf [.ref l1, .int (l2 + 1)] hs5 (fun (r7 : Option Value) (hs8 : mx_H) => ∃ x9 : Int32, r7 = some (.int x9) ∧ ((∃ fs29 : List Value, hs8.1 l0 = some (5, fs29)) ∧ mx_C mx_S0 l G d mm_LBWorker_work [.ref l0, .ref l1, .int x9, .int (l3 + 1)] hs8 (fun (r10 : Option Value) (hs11 : mx_H) => ∃ x12 : Int64, r10 = some (.long x12) ∧ mx_C mx_S0 l G d mm_LB_isFailure [.long x12] hs11 (fun (r13 : Option Value) (hs14 : mx_H) => ∃ x15 : Int32, r13 = some (.int x15) ∧ ((x15 = 0 → mx_C mx_S0 l G d mm_LB_isPlan [.long x3] hs14 (fun (r16 : Option Value) (hs17 : mx_H) => ∃ x18 : Int32, r16 = some (.int x18) ∧ ((¬ x18 = 0 → Q (some (.long (-1000000000005))) hs17) ∧ (¬ (¬ x18 = 0) → mx_C mx_S0 l G d mm_LB_isPlan [.long x12] hs17 (fun (r19 : Option Value) (hs20 : mx_H) => ∃ x21 : Int32, r19 = some (.int x21) ∧ ((x21 = 0 → ((∃ fs28 : List Value, hs20.1 l1 = some (1, fs28)) ∧ mx_C mx_S0 l G d mm_LBText_codeAt [.ref l1, .int l2] hs20 (fun (r22 : Option Value) (hs23 : mx_H) => ∃ x24 : Int32, r22 = some (.int x24) ∧ mx_C mx_S0 l G d mm_LBWorker_combine [.int x24, .int (Int64.toInt32 x3), .int (Int64.toInt32 x12)] hs23 (fun (r25 : Option Value) (hs26 : mx_H) => ∃ x27 : Int32, r25 = some (.int x27) ∧ Q (some (.long (Int32.toInt64 x27))) hs26)))) ∧ (¬ (x21 = 0) → Q (some (.long (-1000000000005))) hs20))))))) ∧ (¬ (x15 = 0) → Q (some (.long x12)) hs14)))))))) ∧ (¬ (x6 = 0) → Q (some (.long x3)) hs5)))))) : mx_Ok mx_S0 l G (d + 1) mm_LBWorker_workPair 0 [(0, .ref l0), (1, .ref l1), (2, .int l2), (3, .int l3)] [] hs Q := by
  refine mx_aload_nR d_LBWorker_workPair_0 rfl 0 rfl ?_
  refine mx_aload_nR d_LBWorker_workPair_1 rfl 1 rfl ?_
  refine mx_iload_n d_LBWorker_workPair_2 rfl 2 rfl ?_
  refine mx_iconst (v := 1) d_LBWorker_workPair_3 (by decide) ?_
  refine mx_iadd d_LBWorker_workPair_4 ?_
  refine mx_iload_n d_LBWorker_workPair_5 rfl 3 rfl ?_
  refine mx_iconst (v := 1) d_LBWorker_workPair_6 (by decide) ?_
  refine mx_iadd d_LBWorker_workPair_7 ?_
  obtain ⟨⟨fs31, e1_⟩, h⟩ := h
  refine mx_invV (Y := mm_LBWorker_work) (As := [.ref l1, .int (l2 + 1), .int (l3 + 1)]) (rest := []) d_LBWorker_workPair_8.1 ok_LBWorker_work kw_209 kw_210 kw_211 rfl rfl (Nat.le_of_ble_eq_true rfl) (Nat.le_of_ble_eq_true rfl) e1_ (q := mx_cl0_5) rfl rfl h (fun r1 hs2 h => ?_)
  obtain ⟨x3, e9_, h⟩ := h
  subst e9_
  show mx_Ok mx_S0 l G (d + 1) mm_LBWorker_workPair 11 [(0, .ref l0), (1, .ref l1), (2, .int l2), (3, .int l3)] [.long x3] hs2 Q
  refine mx_lstore (lv2 := [(4, .long x3), (0, .ref l0), (1, .ref l1), (2, .int l2), (3, .int l3)]) d_LBWorker_workPair_11 (Nat.le_of_ble_eq_true rfl) rfl ?_
  refine mx_lload d_LBWorker_workPair_13 0 rfl ?_
  refine mx_invSN (Y := mm_LB_isFailure) (As := [.long x3]) (rest := []) d_LBWorker_workPair_15.1 ok_LB_isFailure kn_6 kw_88 rfl rfl (Nat.le_of_ble_eq_true rfl) (Nat.le_of_ble_eq_true rfl) h (fun r4 hs5 h => ?_)
  obtain ⟨x6, e9_, h⟩ := h
  subst e9_
  show mx_Ok mx_S0 l G (d + 1) mm_LBWorker_workPair 18 [(4, .long x3), (0, .ref l0), (1, .ref l1), (2, .int l2), (3, .int l3)] [.int x6] hs5 Q
  refine mx_if_eq d_LBWorker_workPair_18 (fun c9 => ?_) (fun c9 => ?_)
  · replace h := h.1 c9
    refine mx_aload_nR d_LBWorker_workPair_24 rfl 1 rfl ?_
    refine mx_aload_nR d_LBWorker_workPair_25 rfl 2 rfl ?_
    refine mx_aload_nR d_LBWorker_workPair_26 rfl 2 rfl ?_
    refine mx_iload_n d_LBWorker_workPair_27 rfl 3 rfl ?_
    refine mx_iconst (v := 1) d_LBWorker_workPair_28 (by decide) ?_
    refine mx_iadd d_LBWorker_workPair_29 ?_
    obtain ⟨⟨fs30, e1_⟩, h⟩ := h
    refine mx_invV (Y := mm_LBText_endOf) (As := [.int (l2 + 1)]) (rest := [.ref l1, .ref l0]) d_LBWorker_workPair_30.1 ok_LBText_endOf kw_238 kw_239 kw_240 rfl rfl (Nat.le_of_ble_eq_true rfl) (Nat.le_of_ble_eq_true rfl) e1_ (q := mx_cl0_1) rfl rfl h (fun r7 hs8 h => ?_)
    obtain ⟨x9, e9_, h⟩ := h
    subst e9_
    show mx_Ok mx_S0 l G (d + 1) mm_LBWorker_workPair 33 [(4, .long x3), (0, .ref l0), (1, .ref l1), (2, .int l2), (3, .int l3)] [.int x9, .ref l1, .ref l0] hs8 Q
    refine mx_iload_n d_LBWorker_workPair_33 rfl 4 rfl ?_
    refine mx_iconst (v := 1) d_LBWorker_workPair_34 (by decide) ?_
    refine mx_iadd d_LBWorker_workPair_35 ?_
    obtain ⟨⟨fs29, e1_⟩, h⟩ := h
    refine mx_invV (Y := mm_LBWorker_work) (As := [.ref l1, .int x9, .int (l3 + 1)]) (rest := []) d_LBWorker_workPair_36.1 ok_LBWorker_work kw_209 kw_210 kw_211 rfl rfl (Nat.le_of_ble_eq_true rfl) (Nat.le_of_ble_eq_true rfl) e1_ (q := mx_cl0_5) rfl rfl h (fun r10 hs11 h => ?_)
    obtain ⟨x12, e9_, h⟩ := h
    subst e9_
    show mx_Ok mx_S0 l G (d + 1) mm_LBWorker_workPair 39 [(4, .long x3), (0, .ref l0), (1, .ref l1), (2, .int l2), (3, .int l3)] [.long x12] hs11 Q
    refine mx_lstore (lv2 := [(6, .long x12), (4, .long x3), (0, .ref l0), (1, .ref l1), (2, .int l2), (3, .int l3)]) d_LBWorker_workPair_39 (Nat.le_of_ble_eq_true rfl) rfl ?_
    refine mx_lload d_LBWorker_workPair_41 0 rfl ?_
    refine mx_invSN (Y := mm_LB_isFailure) (As := [.long x12]) (rest := []) d_LBWorker_workPair_43.1 ok_LB_isFailure kn_6 kw_88 rfl rfl (Nat.le_of_ble_eq_true rfl) (Nat.le_of_ble_eq_true rfl) h (fun r13 hs14 h => ?_)
    obtain ⟨x15, e9_, h⟩ := h
    subst e9_
    show mx_Ok mx_S0 l G (d + 1) mm_LBWorker_workPair 46 [(6, .long x12), (4, .long x3), (0, .ref l0), (1, .ref l1), (2, .int l2), (3, .int l3)] [.int x15] hs14 Q
    refine mx_if_eq d_LBWorker_workPair_46 (fun c9 => ?_) (fun c9 => ?_)
    · replace h := h.1 c9
      refine mx_lload d_LBWorker_workPair_52 1 rfl ?_
      refine mx_invSN (Y := mm_LB_isPlan) (As := [.long x3]) (rest := []) d_LBWorker_workPair_54.1 ok_LB_isPlan kn_9 kw_137 rfl rfl (Nat.le_of_ble_eq_true rfl) (Nat.le_of_ble_eq_true rfl) h (fun r16 hs17 h => ?_)
      obtain ⟨x18, e9_, h⟩ := h
      subst e9_
      show mx_Ok mx_S0 l G (d + 1) mm_LBWorker_workPair 57 [(6, .long x12), (4, .long x3), (0, .ref l0), (1, .ref l1), (2, .int l2), (3, .int l3)] [.int x18] hs17 Q
      refine mx_if_ne d_LBWorker_workPair_57 (fun c9 => ?_) (fun c9 => ?_)
      · replace h := h.1 c9
        refine mx_ldc2 (v := (-1000000000005)) d_LBWorker_workPair_68 kw_235 ?_
        exact mx_lreturn d_LBWorker_workPair_71 rfl h
      · replace h := h.2 c9
        refine mx_lload d_LBWorker_workPair_60 0 rfl ?_
        refine mx_invSN (Y := mm_LB_isPlan) (As := [.long x12]) (rest := []) d_LBWorker_workPair_62.1 ok_LB_isPlan kn_9 kw_137 rfl rfl (Nat.le_of_ble_eq_true rfl) (Nat.le_of_ble_eq_true rfl) h (fun r19 hs20 h => ?_)
        obtain ⟨x21, e9_, h⟩ := h
        subst e9_
        show mx_Ok mx_S0 l G (d + 1) mm_LBWorker_workPair 65 [(6, .long x12), (4, .long x3), (0, .ref l0), (1, .ref l1), (2, .int l2), (3, .int l3)] [.int x21] hs20 Q
        refine mx_if_eq d_LBWorker_workPair_65 (fun c9 => ?_) (fun c9 => ?_)
        · replace h := h.1 c9
          refine mx_aload_nR d_LBWorker_workPair_72 rfl 3 rfl ?_
          refine mx_iload_n d_LBWorker_workPair_73 rfl 4 rfl ?_
          obtain ⟨⟨fs28, e1_⟩, h⟩ := h
          refine mx_invV (Y := mm_LBText_codeAt) (As := [.int l2]) (rest := []) d_LBWorker_workPair_74.1 ok_LBText_codeAt kw_231 kw_119 kw_120 rfl rfl (Nat.le_of_ble_eq_true rfl) (Nat.le_of_ble_eq_true rfl) e1_ (q := mx_cl0_1) rfl rfl h (fun r22 hs23 h => ?_)
          obtain ⟨x24, e9_, h⟩ := h
          subst e9_
          show mx_Ok mx_S0 l G (d + 1) mm_LBWorker_workPair 77 [(6, .long x12), (4, .long x3), (0, .ref l0), (1, .ref l1), (2, .int l2), (3, .int l3)] [.int x24] hs23 Q
          refine mx_lload d_LBWorker_workPair_77 1 rfl ?_
          refine mx_l2i d_LBWorker_workPair_79 ?_
          refine mx_lload d_LBWorker_workPair_80 0 rfl ?_
          refine mx_l2i d_LBWorker_workPair_82 ?_
          refine mx_invS (Y := mm_LBWorker_combine) (As := [.int x24, .int (Int64.toInt32 x3), .int (Int64.toInt32 x12)]) (rest := []) d_LBWorker_workPair_83.1 ok_LBWorker_combine kw_236 kw_237 rfl rfl (Nat.le_of_ble_eq_true rfl) (Nat.le_of_ble_eq_true rfl) h (fun r25 hs26 h => ?_)
          obtain ⟨x27, e9_, h⟩ := h
          subst e9_
          show mx_Ok mx_S0 l G (d + 1) mm_LBWorker_workPair 86 [(6, .long x12), (4, .long x3), (0, .ref l0), (1, .ref l1), (2, .int l2), (3, .int l3)] [.int x27] hs26 Q
          refine mx_i2l d_LBWorker_workPair_86 ?_
          exact mx_lreturn d_LBWorker_workPair_87 rfl h
        · replace h := h.2 c9
          refine mx_ldc2 (v := (-1000000000005)) d_LBWorker_workPair_68 kw_235 ?_
          exact mx_lreturn d_LBWorker_workPair_71 rfl h
    · replace h := h.2 c9
      refine mx_lload d_LBWorker_workPair_49 0 rfl ?_
      exact mx_lreturn d_LBWorker_workPair_51 rfl h
  · replace h := h.2 c9
    refine mx_lload d_LBWorker_workPair_21 0 rfl ?_
    exact mx_lreturn d_LBWorker_workPair_23 rfl h
set_option maxRecDepth 100000 in
theorem wp_LBWorker_combine_0 {l : Launch} {G : mx_G} {d : Nat} {hs : mx_H} {Q : Option Value → mx_H → Prop} (l0 : Int32) (l1 : Int32) (l2 : Int32) (h : ((l0 = 42 → Q (some (.int (l1 * l2))) hs) ∧ (l0 = 43 → Q (some (.int (l1 + l2))) hs) ∧ (l0 = 44 → mx_Ok mx_S0 l G (d + 1) mm_LBWorker_combine 44 [(1, .int l1), (2, .int l2)] [] hs Q) ∧ (l0 = 45 → Q (some (.int (l1 - l2))) hs) ∧ (¬ l0 = 42 → ¬ l0 = 43 → ¬ l0 = 44 → ¬ l0 = 45 → mx_Ok mx_S0 l G (d + 1) mm_LBWorker_combine 44 [(1, .int l1), (2, .int l2)] [] hs Q))) : mx_Ok mx_S0 l G (d + 1) mm_LBWorker_combine 0 [(0, .int l0), (1, .int l1), (2, .int l2)] [] hs Q := by
  refine mx_iload_n d_LBWorker_combine_0 rfl 0 rfl ?_
  by_cases c0_ : l0 = 42
  · replace h := h.1 c0_
    refine mx_tableIn d_LBWorker_combine_1 (by rw [c0_]; decide) (by rw [c0_]; decide) (o := 39) (by rw [c0_]; decide) (tgt := 40) (by decide) ?_
    refine mx_iload_n d_LBWorker_combine_40 rfl 1 rfl ?_
    refine mx_iload_n d_LBWorker_combine_41 rfl 2 rfl ?_
    refine mx_imul d_LBWorker_combine_42 ?_
    exact mx_ireturn d_LBWorker_combine_43 rfl rfl h
  by_cases c1_ : l0 = 43
  · replace h := h.2.1 c1_
    refine mx_tableIn d_LBWorker_combine_1 (by rw [c1_]; decide) (by rw [c1_]; decide) (o := 31) (by rw [c1_]; decide) (tgt := 32) (by decide) ?_
    refine mx_iload_n d_LBWorker_combine_32 rfl 1 rfl ?_
    refine mx_iload_n d_LBWorker_combine_33 rfl 2 rfl ?_
    refine mx_iadd d_LBWorker_combine_34 ?_
    exact mx_ireturn d_LBWorker_combine_35 rfl rfl h
  by_cases c2_ : l0 = 44
  · replace h := h.2.2.1 c2_
    refine mx_tableIn d_LBWorker_combine_1 (by rw [c2_]; decide) (by rw [c2_]; decide) (o := 43) (by rw [c2_]; decide) (tgt := 44) (by decide) ?_
    exact mx_sub [1, 2] rfl h
  by_cases c3_ : l0 = 45
  · replace h := h.2.2.2.1 c3_
    refine mx_tableIn d_LBWorker_combine_1 (by rw [c3_]; decide) (by rw [c3_]; decide) (o := 35) (by rw [c3_]; decide) (tgt := 36) (by decide) ?_
    refine mx_iload_n d_LBWorker_combine_36 rfl 1 rfl ?_
    refine mx_iload_n d_LBWorker_combine_37 rfl 2 rfl ?_
    refine mx_isub d_LBWorker_combine_38 ?_
    exact mx_ireturn d_LBWorker_combine_39 rfl rfl h
  replace h := h.2.2.2.2 c0_ c1_ c2_ c3_
  have z0_ := lv_neT c0_ (a := 42) (by decide)
  have z1_ := lv_neT c1_ (a := 43) (by decide)
  have z2_ := lv_neT c2_ (a := 44) (by decide)
  have z3_ := lv_neT c3_ (a := 45) (by decide)
  refine mx_tableOut d_LBWorker_combine_1 (by omega) (tgt := 44) (by decide) ?_
  exact mx_sub [1, 2] rfl h
set_option maxRecDepth 100000 in
theorem wp_LBWorker_combine_44 {l : Launch} {G : mx_G} {d : Nat} {hs : mx_H} {Q : Option Value → mx_H → Prop} (l1 : Int32) (l2 : Int32) (h : ((l2 ≤ l1 → Q (some (.int 0)) hs) ∧ (¬ (l2 ≤ l1) → Q (some (.int 1)) hs))) : mx_Ok mx_S0 l G (d + 1) mm_LBWorker_combine 44 [(1, .int l1), (2, .int l2)] [] hs Q := by
  refine mx_iload_n d_LBWorker_combine_44 rfl 0 rfl ?_
  refine mx_iload_n d_LBWorker_combine_45 rfl 1 rfl ?_
  refine mx_icmp_ge d_LBWorker_combine_46 (fun c9 => ?_) (fun c9 => ?_)
  · replace h := h.1 c9
    refine mx_iconst (v := 0) d_LBWorker_combine_53 (by decide) ?_
    exact mx_ireturn d_LBWorker_combine_54 rfl rfl h
  · replace h := h.2 c9
    refine mx_iconst (v := 1) d_LBWorker_combine_49 (by decide) ?_
    refine mx_goto d_LBWorker_combine_50 ?_
    exact mx_ireturn d_LBWorker_combine_54 rfl rfl h
set_option maxRecDepth 100000 in
theorem wp_LBWorker_workChoice_0 {l : Launch} {G : mx_G} {d : Nat} {hs : mx_H} {Q : Option Value → mx_H → Prop} (l0 : Nat) (l1 : Nat) (l2 : Int32) (l3 : Int32) (h : ((∃ fs18 : List Value, hs.1 l0 = some (5, fs18)) ∧ mx_C mx_S0 l G d mm_LBWorker_work [.ref l0, .ref l1, .int (l2 + 1), .int (l3 + 1)] hs (fun (r1 : Option Value) (hs2 : mx_H) => ∃ x3 : Int64, r1 = some (.long x3) ∧ mx_C mx_S0 l G d mm_LB_isFailure [.long x3] hs2 (fun (r4 : Option Value) (hs5 : mx_H) => ∃ x6 : Int32, r4 = some (.int x6) ∧ ((x6 = 0 → mx_C mx_S0 l G d mm_LB_isPlan [.long x3] hs5 (fun (r7 : Option Value) (hs8 : mx_H) => ∃ x9 : Int32, r7 = some (.int x9) ∧ ((x9 = 0 → ((∃ fs17 : List Value, hs8.1 l1 = some (1, fs17)) ∧ mx_C mx_S0 l G d mm_LBText_endOf [.ref l1, .int (l2 + 1)] hs8 (fun (r10 : Option Value) (hs11 : mx_H) => ∃ x12 : Int32, r10 = some (.int x12) ∧ ((x3 = 0 → ((∃ fs16 : List Value, hs11.1 l1 = some (1, fs16)) ∧ mx_C mx_S0 l G d mm_LBText_endOf [.ref l1, .int x12] hs11 (fun (r13 : Option Value) (hs14 : mx_H) => ∃ x15 : Int32, r13 = some (.int x15) ∧ mx_Ok mx_S0 l G (d + 1) mm_LBWorker_workChoice 65 [(3, .int l3)] [.int x15, .ref l1, .ref l0] hs14 Q))) ∧ (¬ (x3 = 0) → mx_Ok mx_S0 l G (d + 1) mm_LBWorker_workChoice 65 [(3, .int l3)] [.int x12, .ref l1, .ref l0] hs11 Q))))) ∧ (¬ (x9 = 0) → Q (some (.long (-1000000000005))) hs8)))) ∧ (¬ (x6 = 0) → Q (some (.long x3)) hs5)))))) : mx_Ok mx_S0 l G (d + 1) mm_LBWorker_workChoice 0 [(0, .ref l0), (1, .ref l1), (2, .int l2), (3, .int l3)] [] hs Q := by
  refine mx_aload_nR d_LBWorker_workChoice_0 rfl 0 rfl ?_
  refine mx_aload_nR d_LBWorker_workChoice_1 rfl 1 rfl ?_
  refine mx_iload_n d_LBWorker_workChoice_2 rfl 2 rfl ?_
  refine mx_iconst (v := 1) d_LBWorker_workChoice_3 (by decide) ?_
  refine mx_iadd d_LBWorker_workChoice_4 ?_
  refine mx_iload_n d_LBWorker_workChoice_5 rfl 3 rfl ?_
  refine mx_iconst (v := 1) d_LBWorker_workChoice_6 (by decide) ?_
  refine mx_iadd d_LBWorker_workChoice_7 ?_
  obtain ⟨⟨fs18, e1_⟩, h⟩ := h
  refine mx_invV (Y := mm_LBWorker_work) (As := [.ref l1, .int (l2 + 1), .int (l3 + 1)]) (rest := []) d_LBWorker_workChoice_8.1 ok_LBWorker_work kw_209 kw_210 kw_211 rfl rfl (Nat.le_of_ble_eq_true rfl) (Nat.le_of_ble_eq_true rfl) e1_ (q := mx_cl0_5) rfl rfl h (fun r1 hs2 h => ?_)
  obtain ⟨x3, e9_, h⟩ := h
  subst e9_
  show mx_Ok mx_S0 l G (d + 1) mm_LBWorker_workChoice 11 [(0, .ref l0), (1, .ref l1), (2, .int l2), (3, .int l3)] [.long x3] hs2 Q
  refine mx_lstore (lv2 := [(4, .long x3), (0, .ref l0), (1, .ref l1), (2, .int l2), (3, .int l3)]) d_LBWorker_workChoice_11 (Nat.le_of_ble_eq_true rfl) rfl ?_
  refine mx_lload d_LBWorker_workChoice_13 0 rfl ?_
  refine mx_invSN (Y := mm_LB_isFailure) (As := [.long x3]) (rest := []) d_LBWorker_workChoice_15.1 ok_LB_isFailure kn_6 kw_88 rfl rfl (Nat.le_of_ble_eq_true rfl) (Nat.le_of_ble_eq_true rfl) h (fun r4 hs5 h => ?_)
  obtain ⟨x6, e9_, h⟩ := h
  subst e9_
  show mx_Ok mx_S0 l G (d + 1) mm_LBWorker_workChoice 18 [(4, .long x3), (0, .ref l0), (1, .ref l1), (2, .int l2), (3, .int l3)] [.int x6] hs5 Q
  refine mx_if_eq d_LBWorker_workChoice_18 (fun c9 => ?_) (fun c9 => ?_)
  · replace h := h.1 c9
    refine mx_lload d_LBWorker_workChoice_24 0 rfl ?_
    refine mx_invSN (Y := mm_LB_isPlan) (As := [.long x3]) (rest := []) d_LBWorker_workChoice_26.1 ok_LB_isPlan kn_9 kw_137 rfl rfl (Nat.le_of_ble_eq_true rfl) (Nat.le_of_ble_eq_true rfl) h (fun r7 hs8 h => ?_)
    obtain ⟨x9, e9_, h⟩ := h
    subst e9_
    show mx_Ok mx_S0 l G (d + 1) mm_LBWorker_workChoice 29 [(4, .long x3), (0, .ref l0), (1, .ref l1), (2, .int l2), (3, .int l3)] [.int x9] hs8 Q
    refine mx_if_eq d_LBWorker_workChoice_29 (fun c9 => ?_) (fun c9 => ?_)
    · replace h := h.1 c9
      refine mx_aload_nR d_LBWorker_workChoice_36 rfl 2 rfl ?_
      refine mx_iload_n d_LBWorker_workChoice_37 rfl 3 rfl ?_
      refine mx_iconst (v := 1) d_LBWorker_workChoice_38 (by decide) ?_
      refine mx_iadd d_LBWorker_workChoice_39 ?_
      obtain ⟨⟨fs17, e1_⟩, h⟩ := h
      refine mx_invV (Y := mm_LBText_endOf) (As := [.int (l2 + 1)]) (rest := []) d_LBWorker_workChoice_40.1 ok_LBText_endOf kw_238 kw_239 kw_240 rfl rfl (Nat.le_of_ble_eq_true rfl) (Nat.le_of_ble_eq_true rfl) e1_ (q := mx_cl0_1) rfl rfl h (fun r10 hs11 h => ?_)
      obtain ⟨x12, e9_, h⟩ := h
      subst e9_
      show mx_Ok mx_S0 l G (d + 1) mm_LBWorker_workChoice 43 [(4, .long x3), (0, .ref l0), (1, .ref l1), (2, .int l2), (3, .int l3)] [.int x12] hs11 Q
      refine mx_istore (lv2 := [(6, .int x12), (4, .long x3), (0, .ref l0), (1, .ref l1), (2, .int l2), (3, .int l3)]) d_LBWorker_workChoice_43 (Nat.le_of_ble_eq_true rfl) rfl ?_
      refine mx_aload_nR d_LBWorker_workChoice_45 rfl 2 rfl ?_
      refine mx_aload_nR d_LBWorker_workChoice_46 rfl 3 rfl ?_
      refine mx_lload d_LBWorker_workChoice_47 1 rfl ?_
      refine mx_lconst (v := 0) d_LBWorker_workChoice_49 rfl ?_
      refine mx_lcmp d_LBWorker_workChoice_50 ?_
      refine mx_if_eq d_LBWorker_workChoice_51 (fun c9 => ?_) (fun c9 => ?_)
      · replace h := h.1 ((lg_cmp_eq _ _).mp c9)
        refine mx_aload_nR d_LBWorker_workChoice_59 rfl 3 rfl ?_
        refine mx_iload d_LBWorker_workChoice_60 0 rfl ?_
        obtain ⟨⟨fs16, e1_⟩, h⟩ := h
        refine mx_invV (Y := mm_LBText_endOf) (As := [.int x12]) (rest := [.ref l1, .ref l0]) d_LBWorker_workChoice_62.1 ok_LBText_endOf kw_238 kw_239 kw_240 rfl rfl (Nat.le_of_ble_eq_true rfl) (Nat.le_of_ble_eq_true rfl) e1_ (q := mx_cl0_1) rfl rfl h (fun r13 hs14 h => ?_)
        obtain ⟨x15, e9_, h⟩ := h
        subst e9_
        show mx_Ok mx_S0 l G (d + 1) mm_LBWorker_workChoice 65 [(6, .int x12), (4, .long x3), (0, .ref l0), (1, .ref l1), (2, .int l2), (3, .int l3)] [.int x15, .ref l1, .ref l0] hs14 Q
        exact mx_sub [5] rfl h
      · replace h := h.2 (fun z9 => c9 ((lg_cmp_eq _ _).mpr z9))
        refine mx_iload d_LBWorker_workChoice_54 0 rfl ?_
        refine mx_goto d_LBWorker_workChoice_56 ?_
        exact mx_sub [5] rfl h
    · replace h := h.2 c9
      refine mx_ldc2 (v := (-1000000000005)) d_LBWorker_workChoice_32 kw_235 ?_
      exact mx_lreturn d_LBWorker_workChoice_35 rfl h
  · replace h := h.2 c9
    refine mx_lload d_LBWorker_workChoice_21 0 rfl ?_
    exact mx_lreturn d_LBWorker_workChoice_23 rfl h
set_option maxRecDepth 100000 in
theorem wp_LBWorker_workChoice_65 {l : Launch} {G : mx_G} {d : Nat} {hs : mx_H} {Q : Option Value → mx_H → Prop} (l3 : Int32) (s0 : Nat) (s1 : Nat) (s2 : Int32) (h : ((∃ fs4 : List Value, hs.1 s0 = some (5, fs4)) ∧ mx_C mx_S0 l G d mm_LBWorker_work [.ref s0, .ref s1, .int s2, .int (l3 + 1)] hs (fun (r1 : Option Value) (hs2 : mx_H) => ∃ x3 : Int64, r1 = some (.long x3) ∧ Q (some (.long x3)) hs2))) : mx_Ok mx_S0 l G (d + 1) mm_LBWorker_workChoice 65 [(3, .int l3)] [.int s2, .ref s1, .ref s0] hs Q := by
  refine mx_iload_n d_LBWorker_workChoice_65 rfl 0 rfl ?_
  refine mx_iconst (v := 1) d_LBWorker_workChoice_66 (by decide) ?_
  refine mx_iadd d_LBWorker_workChoice_67 ?_
  obtain ⟨⟨fs4, e1_⟩, h⟩ := h
  refine mx_invV (Y := mm_LBWorker_work) (As := [.ref s1, .int s2, .int (l3 + 1)]) (rest := []) d_LBWorker_workChoice_68.1 ok_LBWorker_work kw_209 kw_210 kw_211 rfl rfl (Nat.le_of_ble_eq_true rfl) (Nat.le_of_ble_eq_true rfl) e1_ (q := mx_cl0_5) rfl rfl h (fun r1 hs2 h => ?_)
  obtain ⟨x3, e9_, h⟩ := h
  subst e9_
  show mx_Ok mx_S0 l G (d + 1) mm_LBWorker_workChoice 71 [(3, .int l3)] [.long x3] hs2 Q
  exact mx_lreturn d_LBWorker_workChoice_71 rfl h
set_option maxRecDepth 100000 in
theorem wp_LBWorker_workAbort_0 {l : Launch} {G : mx_G} {d : Nat} {hs : mx_H} {Q : Option Value → mx_H → Prop} (l0 : Nat) (l1 : Nat) (l2 : Int32) (l3 : Int32) (h : ((∃ fs7 : List Value, hs.1 l0 = some (5, fs7)) ∧ mx_C mx_S0 l G d mm_LBWorker_work [.ref l0, .ref l1, .int (l2 + 1), .int (l3 + 1)] hs (fun (r1 : Option Value) (hs2 : mx_H) => ∃ x3 : Int64, r1 = some (.long x3) ∧ mx_C mx_S0 l G d mm_LB_isFailure [.long x3] hs2 (fun (r4 : Option Value) (hs5 : mx_H) => ∃ x6 : Int32, r4 = some (.int x6) ∧ ((x6 = 0 → Q (some (.long (-1000000000006))) hs5) ∧ (¬ (x6 = 0) → Q (some (.long x3)) hs5)))))) : mx_Ok mx_S0 l G (d + 1) mm_LBWorker_workAbort 0 [(0, .ref l0), (1, .ref l1), (2, .int l2), (3, .int l3)] [] hs Q := by
  refine mx_aload_nR d_LBWorker_workAbort_0 rfl 0 rfl ?_
  refine mx_aload_nR d_LBWorker_workAbort_1 rfl 1 rfl ?_
  refine mx_iload_n d_LBWorker_workAbort_2 rfl 2 rfl ?_
  refine mx_iconst (v := 1) d_LBWorker_workAbort_3 (by decide) ?_
  refine mx_iadd d_LBWorker_workAbort_4 ?_
  refine mx_iload_n d_LBWorker_workAbort_5 rfl 3 rfl ?_
  refine mx_iconst (v := 1) d_LBWorker_workAbort_6 (by decide) ?_
  refine mx_iadd d_LBWorker_workAbort_7 ?_
  obtain ⟨⟨fs7, e1_⟩, h⟩ := h
  refine mx_invV (Y := mm_LBWorker_work) (As := [.ref l1, .int (l2 + 1), .int (l3 + 1)]) (rest := []) d_LBWorker_workAbort_8.1 ok_LBWorker_work kw_209 kw_210 kw_211 rfl rfl (Nat.le_of_ble_eq_true rfl) (Nat.le_of_ble_eq_true rfl) e1_ (q := mx_cl0_5) rfl rfl h (fun r1 hs2 h => ?_)
  obtain ⟨x3, e9_, h⟩ := h
  subst e9_
  show mx_Ok mx_S0 l G (d + 1) mm_LBWorker_workAbort 11 [(0, .ref l0), (1, .ref l1), (2, .int l2), (3, .int l3)] [.long x3] hs2 Q
  refine mx_lstore (lv2 := [(4, .long x3), (0, .ref l0), (1, .ref l1), (2, .int l2), (3, .int l3)]) d_LBWorker_workAbort_11 (Nat.le_of_ble_eq_true rfl) rfl ?_
  refine mx_lload d_LBWorker_workAbort_13 0 rfl ?_
  refine mx_invSN (Y := mm_LB_isFailure) (As := [.long x3]) (rest := []) d_LBWorker_workAbort_15.1 ok_LB_isFailure kn_6 kw_88 rfl rfl (Nat.le_of_ble_eq_true rfl) (Nat.le_of_ble_eq_true rfl) h (fun r4 hs5 h => ?_)
  obtain ⟨x6, e9_, h⟩ := h
  subst e9_
  show mx_Ok mx_S0 l G (d + 1) mm_LBWorker_workAbort 18 [(4, .long x3), (0, .ref l0), (1, .ref l1), (2, .int l2), (3, .int l3)] [.int x6] hs5 Q
  refine mx_if_eq d_LBWorker_workAbort_18 (fun c9 => ?_) (fun c9 => ?_)
  · replace h := h.1 c9
    refine mx_ldc2 (v := (-1000000000006)) d_LBWorker_workAbort_26 kw_241 ?_
    exact mx_lreturn d_LBWorker_workAbort_29 rfl h
  · replace h := h.2 c9
    refine mx_lload d_LBWorker_workAbort_21 0 rfl ?_
    refine mx_goto d_LBWorker_workAbort_23 ?_
    exact mx_lreturn d_LBWorker_workAbort_29 rfl h
set_option maxRecDepth 100000 in
theorem wp_LBWorker_workTry_0 {l : Launch} {G : mx_G} {d : Nat} {hs : mx_H} {Q : Option Value → mx_H → Prop} (l0 : Nat) (l1 : Nat) (l2 : Int32) (l3 : Int32) (h : ((∃ fs19 : List Value, hs.1 l0 = some (5, fs19)) ∧ mx_C mx_S0 l G d mm_LBWorker_work [.ref l0, .ref l1, .int (l2 + 1), .int (l3 + 1)] hs (fun (r1 : Option Value) (hs2 : mx_H) => ∃ x3 : Int64, r1 = some (.long x3) ∧ mx_C mx_S0 l G d mm_LBWorker_canBeMadeGood [.long x3] hs2 (fun (r4 : Option Value) (hs5 : mx_H) => ∃ x6 : Int32, r4 = some (.int x6) ∧ ((¬ x6 = 0 → (∃ (x8 : Int32), mx_f hs5 l0 5 4 (.int x8) ∧ (∃ fs9 : List Value, hs5.1 l0 = some (5, fs9) ∧ ∀ hs10 : mx_H, hs10 = mx_st hs5 l0 (5, fs9.set 4 (.int (x8 + 1))) → ((∃ fs18 : List Value, hs10.1 l1 = some (1, fs18)) ∧ mx_C mx_S0 l G d mm_LBText_endOf [.ref l1, .int (l2 + 1)] hs10 (fun (r11 : Option Value) (hs12 : mx_H) => ∃ x13 : Int32, r11 = some (.int x13) ∧ ((∃ fs17 : List Value, hs12.1 l0 = some (5, fs17)) ∧ mx_C mx_S0 l G d mm_LBWorker_work [.ref l0, .ref l1, .int x13, .int (l3 + 1)] hs12 (fun (r14 : Option Value) (hs15 : mx_H) => ∃ x16 : Int64, r14 = some (.long x16) ∧ Q (some (.long x16)) hs15))))))) ∧ (¬ (¬ x6 = 0) → Q (some (.long x3)) hs5)))))) : mx_Ok mx_S0 l G (d + 1) mm_LBWorker_workTry 0 [(0, .ref l0), (1, .ref l1), (2, .int l2), (3, .int l3)] [] hs Q := by
  refine mx_aload_nR d_LBWorker_workTry_0 rfl 0 rfl ?_
  refine mx_aload_nR d_LBWorker_workTry_1 rfl 1 rfl ?_
  refine mx_iload_n d_LBWorker_workTry_2 rfl 2 rfl ?_
  refine mx_iconst (v := 1) d_LBWorker_workTry_3 (by decide) ?_
  refine mx_iadd d_LBWorker_workTry_4 ?_
  refine mx_iload_n d_LBWorker_workTry_5 rfl 3 rfl ?_
  refine mx_iconst (v := 1) d_LBWorker_workTry_6 (by decide) ?_
  refine mx_iadd d_LBWorker_workTry_7 ?_
  obtain ⟨⟨fs19, e1_⟩, h⟩ := h
  refine mx_invV (Y := mm_LBWorker_work) (As := [.ref l1, .int (l2 + 1), .int (l3 + 1)]) (rest := []) d_LBWorker_workTry_8.1 ok_LBWorker_work kw_209 kw_210 kw_211 rfl rfl (Nat.le_of_ble_eq_true rfl) (Nat.le_of_ble_eq_true rfl) e1_ (q := mx_cl0_5) rfl rfl h (fun r1 hs2 h => ?_)
  obtain ⟨x3, e9_, h⟩ := h
  subst e9_
  show mx_Ok mx_S0 l G (d + 1) mm_LBWorker_workTry 11 [(0, .ref l0), (1, .ref l1), (2, .int l2), (3, .int l3)] [.long x3] hs2 Q
  refine mx_lstore (lv2 := [(4, .long x3), (0, .ref l0), (1, .ref l1), (2, .int l2), (3, .int l3)]) d_LBWorker_workTry_11 (Nat.le_of_ble_eq_true rfl) rfl ?_
  refine mx_lload d_LBWorker_workTry_13 0 rfl ?_
  refine mx_invS (Y := mm_LBWorker_canBeMadeGood) (As := [.long x3]) (rest := []) d_LBWorker_workTry_15.1 ok_LBWorker_canBeMadeGood kw_242 kw_243 rfl rfl (Nat.le_of_ble_eq_true rfl) (Nat.le_of_ble_eq_true rfl) h (fun r4 hs5 h => ?_)
  obtain ⟨x6, e9_, h⟩ := h
  subst e9_
  show mx_Ok mx_S0 l G (d + 1) mm_LBWorker_workTry 18 [(4, .long x3), (0, .ref l0), (1, .ref l1), (2, .int l2), (3, .int l3)] [.int x6] hs5 Q
  refine mx_if_ne d_LBWorker_workTry_18 (fun c9 => ?_) (fun c9 => ?_)
  · replace h := h.1 c9
    refine mx_aload_nR d_LBWorker_workTry_24 rfl 1 rfl ?_
    refine mx_dup d_LBWorker_workTry_25 rfl ?_
    obtain ⟨x8, ⟨fs7, e1_, e2_⟩, h⟩ := h
    refine mx_get d_LBWorker_workTry_26 (ci := 5) (k := 4) (q := mx_cl0_5) rfl (Nat.le_of_ble_eq_true rfl) kw_204 e1_ e2_ ?_
    refine mx_iconst (v := 1) d_LBWorker_workTry_29 (by decide) ?_
    refine mx_iadd d_LBWorker_workTry_30 ?_
    obtain ⟨fs9, e1_, h⟩ := h
    refine mx_put d_LBWorker_workTry_31 (ci := 5) (k := 4) (q := mx_cl0_5) (ty := .int) rfl (Nat.le_of_ble_eq_true rfl) kw_204 rfl (by decide +kernel) rfl rfl (by omega) e1_ ?_
    obtain ⟨hs10, hg_⟩ : ∃ x_, x_ = mx_st hs5 l0 (5, fs9.set 4 (.int (x8 + 1))) := ⟨_, rfl⟩
    replace h := h hs10 hg_
    rw [← hg_]
    clear hg_
    refine mx_aload_nR d_LBWorker_workTry_34 rfl 1 rfl ?_
    refine mx_aload_nR d_LBWorker_workTry_35 rfl 2 rfl ?_
    refine mx_aload_nR d_LBWorker_workTry_36 rfl 2 rfl ?_
    refine mx_iload_n d_LBWorker_workTry_37 rfl 3 rfl ?_
    refine mx_iconst (v := 1) d_LBWorker_workTry_38 (by decide) ?_
    refine mx_iadd d_LBWorker_workTry_39 ?_
    obtain ⟨⟨fs18, e1_⟩, h⟩ := h
    refine mx_invV (Y := mm_LBText_endOf) (As := [.int (l2 + 1)]) (rest := [.ref l1, .ref l0]) d_LBWorker_workTry_40.1 ok_LBText_endOf kw_238 kw_239 kw_240 rfl rfl (Nat.le_of_ble_eq_true rfl) (Nat.le_of_ble_eq_true rfl) e1_ (q := mx_cl0_1) rfl rfl h (fun r11 hs12 h => ?_)
    obtain ⟨x13, e9_, h⟩ := h
    subst e9_
    show mx_Ok mx_S0 l G (d + 1) mm_LBWorker_workTry 43 [(4, .long x3), (0, .ref l0), (1, .ref l1), (2, .int l2), (3, .int l3)] [.int x13, .ref l1, .ref l0] hs12 Q
    refine mx_iload_n d_LBWorker_workTry_43 rfl 4 rfl ?_
    refine mx_iconst (v := 1) d_LBWorker_workTry_44 (by decide) ?_
    refine mx_iadd d_LBWorker_workTry_45 ?_
    obtain ⟨⟨fs17, e1_⟩, h⟩ := h
    refine mx_invV (Y := mm_LBWorker_work) (As := [.ref l1, .int x13, .int (l3 + 1)]) (rest := []) d_LBWorker_workTry_46.1 ok_LBWorker_work kw_209 kw_210 kw_211 rfl rfl (Nat.le_of_ble_eq_true rfl) (Nat.le_of_ble_eq_true rfl) e1_ (q := mx_cl0_5) rfl rfl h (fun r14 hs15 h => ?_)
    obtain ⟨x16, e9_, h⟩ := h
    subst e9_
    show mx_Ok mx_S0 l G (d + 1) mm_LBWorker_workTry 49 [(4, .long x3), (0, .ref l0), (1, .ref l1), (2, .int l2), (3, .int l3)] [.long x16] hs15 Q
    exact mx_lreturn d_LBWorker_workTry_49 rfl h
  · replace h := h.2 c9
    refine mx_lload d_LBWorker_workTry_21 0 rfl ?_
    exact mx_lreturn d_LBWorker_workTry_23 rfl h
set_option maxRecDepth 100000 in
theorem wp_LBWorker_canBeMadeGood_0 {l : Launch} {G : mx_G} {d : Nat} {hs : mx_H} {Q : Option Value → mx_H → Prop} (l0 : Int64) (h : ((l0 = (-1000000000004) → mx_Ok mx_S0 l G (d + 1) mm_LBWorker_canBeMadeGood 32 [] [] hs Q) ∧ (¬ (l0 = (-1000000000004)) → ((l0 = (-1000000000005) → mx_Ok mx_S0 l G (d + 1) mm_LBWorker_canBeMadeGood 32 [] [] hs Q) ∧ (¬ (l0 = (-1000000000005)) → ((l0 = (-1000000000006) → mx_Ok mx_S0 l G (d + 1) mm_LBWorker_canBeMadeGood 32 [] [] hs Q) ∧ (¬ (l0 = (-1000000000006)) → ((¬ l0 = (-1000000000007) → Q (some (.int 0)) hs) ∧ (¬ (¬ l0 = (-1000000000007)) → mx_Ok mx_S0 l G (d + 1) mm_LBWorker_canBeMadeGood 32 [] [] hs Q))))))))) : mx_Ok mx_S0 l G (d + 1) mm_LBWorker_canBeMadeGood 0 [(0, .long l0)] [] hs Q := by
  refine mx_lload_n d_LBWorker_canBeMadeGood_0 rfl 0 rfl ?_
  refine mx_ldc2 (v := (-1000000000004)) d_LBWorker_canBeMadeGood_1 kw_234 ?_
  refine mx_lcmp d_LBWorker_canBeMadeGood_4 ?_
  refine mx_if_eq d_LBWorker_canBeMadeGood_5 (fun c9 => ?_) (fun c9 => ?_)
  · replace h := h.1 ((lg_cmp_eq _ _).mp c9)
    exact mx_sub [] rfl h
  · replace h := h.2 (fun z9 => c9 ((lg_cmp_eq _ _).mpr z9))
    refine mx_lload_n d_LBWorker_canBeMadeGood_8 rfl 0 rfl ?_
    refine mx_ldc2 (v := (-1000000000005)) d_LBWorker_canBeMadeGood_9 kw_235 ?_
    refine mx_lcmp d_LBWorker_canBeMadeGood_12 ?_
    refine mx_if_eq d_LBWorker_canBeMadeGood_13 (fun c9 => ?_) (fun c9 => ?_)
    · replace h := h.1 ((lg_cmp_eq _ _).mp c9)
      exact mx_sub [] rfl h
    · replace h := h.2 (fun z9 => c9 ((lg_cmp_eq _ _).mpr z9))
      refine mx_lload_n d_LBWorker_canBeMadeGood_16 rfl 0 rfl ?_
      refine mx_ldc2 (v := (-1000000000006)) d_LBWorker_canBeMadeGood_17 kw_241 ?_
      refine mx_lcmp d_LBWorker_canBeMadeGood_20 ?_
      refine mx_if_eq d_LBWorker_canBeMadeGood_21 (fun c9 => ?_) (fun c9 => ?_)
      · replace h := h.1 ((lg_cmp_eq _ _).mp c9)
        exact mx_sub [] rfl h
      · replace h := h.2 (fun z9 => c9 ((lg_cmp_eq _ _).mpr z9))
        refine mx_lload_n d_LBWorker_canBeMadeGood_24 rfl 0 rfl ?_
        refine mx_ldc2 (v := (-1000000000007)) d_LBWorker_canBeMadeGood_25 kw_244 ?_
        refine mx_lcmp d_LBWorker_canBeMadeGood_28 ?_
        refine mx_if_ne d_LBWorker_canBeMadeGood_29 (fun c9 => ?_) (fun c9 => ?_)
        · replace h := h.1 ((not_congr (lg_cmp_eq _ _)).mp c9)
          refine mx_iconst (v := 0) d_LBWorker_canBeMadeGood_36 (by decide) ?_
          exact mx_ireturn d_LBWorker_canBeMadeGood_37 rfl (mx_nz (Or.inl rfl)) h
        · replace h := h.2 (fun z9 => c9 ((not_congr (lg_cmp_eq _ _)).mpr z9))
          exact mx_sub [] rfl h
set_option maxRecDepth 100000 in
theorem wp_LBWorker_canBeMadeGood_32 {l : Launch} {G : mx_G} {d : Nat} {hs : mx_H} {Q : Option Value → mx_H → Prop}  (h : Q (some (.int 1)) hs) : mx_Ok mx_S0 l G (d + 1) mm_LBWorker_canBeMadeGood 32 [] [] hs Q := by
  refine mx_iconst (v := 1) d_LBWorker_canBeMadeGood_32 (by decide) ?_
  refine mx_goto d_LBWorker_canBeMadeGood_33 ?_
  exact mx_ireturn d_LBWorker_canBeMadeGood_37 rfl (mx_nz (Or.inr rfl)) h
set_option maxRecDepth 100000 in
theorem wp_LBWorker_workPlan_0 {l : Launch} {G : mx_G} {d : Nat} {hs : mx_H} {Q : Option Value → mx_H → Prop} (l0 : Nat) (l1 : Nat) (l2 : Int32) (l3 : Int32) (h : mx_Ok mx_S0 l G (d + 1) mm_LBWorker_workPlan 13 [(0, .ref l0), (1, .ref l1), (2, .int l2), (3, .int l3), (4, .int (l3 * 4)), (5, .int 0), (6, .int (l2 + 3))] [] hs Q) : mx_Ok mx_S0 l G (d + 1) mm_LBWorker_workPlan 0 [(0, .ref l0), (1, .ref l1), (2, .int l2), (3, .int l3)] [] hs Q := by
  refine mx_iload_n d_LBWorker_workPlan_0 rfl 3 rfl ?_
  refine mx_iconst (v := 4) d_LBWorker_workPlan_1 (by decide) ?_
  refine mx_imul d_LBWorker_workPlan_2 ?_
  refine mx_istore (lv2 := [(4, .int (l3 * 4)), (0, .ref l0), (1, .ref l1), (2, .int l2), (3, .int l3)]) d_LBWorker_workPlan_3 (Nat.le_of_ble_eq_true rfl) rfl ?_
  refine mx_iconst (v := 0) d_LBWorker_workPlan_5 (by decide) ?_
  refine mx_istore (lv2 := [(5, .int 0), (4, .int (l3 * 4)), (0, .ref l0), (1, .ref l1), (2, .int l2), (3, .int l3)]) d_LBWorker_workPlan_6 (Nat.le_of_ble_eq_true rfl) rfl ?_
  refine mx_iload_n d_LBWorker_workPlan_8 rfl 4 rfl ?_
  refine mx_iconst (v := 3) d_LBWorker_workPlan_9 (by decide) ?_
  refine mx_iadd d_LBWorker_workPlan_10 ?_
  refine mx_istore (lv2 := [(6, .int (l2 + 3)), (5, .int 0), (4, .int (l3 * 4)), (0, .ref l0), (1, .ref l1), (2, .int l2), (3, .int l3)]) d_LBWorker_workPlan_11 (Nat.le_of_ble_eq_true rfl) rfl ?_
  exact mx_sub [3, 4, 5, 6, 2, 1, 0] rfl h
set_option maxRecDepth 100000 in
theorem wp_LBWorker_workPlan_13 {l : Launch} {G : mx_G} {d : Nat} {hs : mx_H} {Q : Option Value → mx_H → Prop} (l0 : Nat) (l1 : Nat) (l2 : Int32) (l3 : Int32) (l4 : Int32) (l5 : Int32) (l6 : Int32) (h : ((4 ≤ l5 → mx_Ok mx_S0 l G (d + 1) mm_LBWorker_workPlan 79 [(0, .ref l0), (1, .ref l1), (2, .int l2), (4, .int l4), (5, .int l5)] [] hs Q) ∧ (¬ (4 ≤ l5) → ((∃ fs19 : List Value, hs.1 l1 = some (1, fs19)) ∧ mx_C mx_S0 l G d mm_LBText_codeAt [.ref l1, .int l6] hs (fun (r1 : Option Value) (hs2 : mx_H) => ∃ x3 : Int32, r1 = some (.int x3) ∧ ((x3 = 41 → mx_Ok mx_S0 l G (d + 1) mm_LBWorker_workPlan 79 [(0, .ref l0), (1, .ref l1), (2, .int l2), (4, .int l4), (5, .int l5)] [] hs2 Q) ∧ (¬ (x3 = 41) → ((∃ fs18 : List Value, hs2.1 l0 = some (5, fs18)) ∧ mx_C mx_S0 l G d mm_LBWorker_work [.ref l0, .ref l1, .int l6, .int (l3 + 1)] hs2 (fun (r4 : Option Value) (hs5 : mx_H) => ∃ x6 : Int64, r4 = some (.long x6) ∧ mx_C mx_S0 l G d mm_LB_isFailure [.long x6] hs5 (fun (r7 : Option Value) (hs8 : mx_H) => ∃ x9 : Int32, r7 = some (.int x9) ∧ ((x9 = 0 → (∃ (a11 : Nat), mx_f hs8 l0 5 2 (.ref a11) ∧ (∃ vs12 : List Value, hs8.1 a11 = some (102, vs12) ∧ ¬ (l4 + l5) < 0 ∧ Int32.toNatClampNeg (l4 + l5) < vs12.length ∧ ∀ hs13 : mx_H, hs13 = mx_st hs8 a11 (102, vs12.set (Int32.toNatClampNeg (l4 + l5)) (.long x6)) → ((∃ fs17 : List Value, hs13.1 l1 = some (1, fs17)) ∧ mx_C mx_S0 l G d mm_LBText_endOf [.ref l1, .int l6] hs13 (fun (r14 : Option Value) (hs15 : mx_H) => ∃ x16 : Int32, r14 = some (.int x16) ∧ mx_Ok mx_S0 l G (d + 1) mm_LBWorker_workPlan 13 [(0, .ref l0), (1, .ref l1), (2, .int l2), (3, .int l3), (4, .int l4), (5, .int (l5 + 1)), (6, .int x16)] [] hs15 Q))))) ∧ (¬ (x9 = 0) → Q (some (.long x6)) hs8)))))))))))) : mx_Ok mx_S0 l G (d + 1) mm_LBWorker_workPlan 13 [(0, .ref l0), (1, .ref l1), (2, .int l2), (3, .int l3), (4, .int l4), (5, .int l5), (6, .int l6)] [] hs Q := by
  refine mx_iload d_LBWorker_workPlan_13 5 rfl ?_
  refine mx_iconst (v := 4) d_LBWorker_workPlan_15 (by decide) ?_
  refine mx_icmp_ge d_LBWorker_workPlan_16 (fun c9 => ?_) (fun c9 => ?_)
  · replace h := h.1 c9
    exact mx_sub [0, 1, 2, 4, 5] rfl h
  · replace h := h.2 c9
    refine mx_aload_nR d_LBWorker_workPlan_19 rfl 1 rfl ?_
    refine mx_iload d_LBWorker_workPlan_20 6 rfl ?_
    obtain ⟨⟨fs19, e1_⟩, h⟩ := h
    refine mx_invV (Y := mm_LBText_codeAt) (As := [.int l6]) (rest := []) d_LBWorker_workPlan_22.1 ok_LBText_codeAt kw_231 kw_119 kw_120 rfl rfl (Nat.le_of_ble_eq_true rfl) (Nat.le_of_ble_eq_true rfl) e1_ (q := mx_cl0_1) rfl rfl h (fun r1 hs2 h => ?_)
    obtain ⟨x3, e9_, h⟩ := h
    subst e9_
    show mx_Ok mx_S0 l G (d + 1) mm_LBWorker_workPlan 25 [(0, .ref l0), (1, .ref l1), (2, .int l2), (3, .int l3), (4, .int l4), (5, .int l5), (6, .int l6)] [.int x3] hs2 Q
    refine mx_bipush (v := 41) d_LBWorker_workPlan_25 (by decide) ?_
    refine mx_icmp_eq d_LBWorker_workPlan_27 (fun c9 => ?_) (fun c9 => ?_)
    · replace h := h.1 c9
      exact mx_sub [0, 1, 2, 4, 5] rfl h
    · replace h := h.2 c9
      refine mx_aload_nR d_LBWorker_workPlan_30 rfl 0 rfl ?_
      refine mx_aload_nR d_LBWorker_workPlan_31 rfl 1 rfl ?_
      refine mx_iload d_LBWorker_workPlan_32 6 rfl ?_
      refine mx_iload_n d_LBWorker_workPlan_34 rfl 3 rfl ?_
      refine mx_iconst (v := 1) d_LBWorker_workPlan_35 (by decide) ?_
      refine mx_iadd d_LBWorker_workPlan_36 ?_
      obtain ⟨⟨fs18, e1_⟩, h⟩ := h
      refine mx_invV (Y := mm_LBWorker_work) (As := [.ref l1, .int l6, .int (l3 + 1)]) (rest := []) d_LBWorker_workPlan_37.1 ok_LBWorker_work kw_209 kw_210 kw_211 rfl rfl (Nat.le_of_ble_eq_true rfl) (Nat.le_of_ble_eq_true rfl) e1_ (q := mx_cl0_5) rfl rfl h (fun r4 hs5 h => ?_)
      obtain ⟨x6, e9_, h⟩ := h
      subst e9_
      show mx_Ok mx_S0 l G (d + 1) mm_LBWorker_workPlan 40 [(0, .ref l0), (1, .ref l1), (2, .int l2), (3, .int l3), (4, .int l4), (5, .int l5), (6, .int l6)] [.long x6] hs5 Q
      refine mx_lstore (lv2 := [(7, .long x6), (0, .ref l0), (1, .ref l1), (2, .int l2), (3, .int l3), (4, .int l4), (5, .int l5), (6, .int l6)]) d_LBWorker_workPlan_40 (Nat.le_of_ble_eq_true rfl) rfl ?_
      refine mx_lload d_LBWorker_workPlan_42 0 rfl ?_
      refine mx_invSN (Y := mm_LB_isFailure) (As := [.long x6]) (rest := []) d_LBWorker_workPlan_44.1 ok_LB_isFailure kn_6 kw_88 rfl rfl (Nat.le_of_ble_eq_true rfl) (Nat.le_of_ble_eq_true rfl) h (fun r7 hs8 h => ?_)
      obtain ⟨x9, e9_, h⟩ := h
      subst e9_
      show mx_Ok mx_S0 l G (d + 1) mm_LBWorker_workPlan 47 [(7, .long x6), (0, .ref l0), (1, .ref l1), (2, .int l2), (3, .int l3), (4, .int l4), (5, .int l5), (6, .int l6)] [.int x9] hs8 Q
      refine mx_if_eq d_LBWorker_workPlan_47 (fun c9 => ?_) (fun c9 => ?_)
      · replace h := h.1 c9
        refine mx_aload_nR d_LBWorker_workPlan_53 rfl 1 rfl ?_
        obtain ⟨a11, ⟨fs10, e1_, e2_⟩, h⟩ := h
        refine mx_get d_LBWorker_workPlan_54 (ci := 5) (k := 2) (q := mx_cl0_5) rfl (Nat.le_of_ble_eq_true rfl) kw_189 e1_ e2_ ?_
        refine mx_iload d_LBWorker_workPlan_57 5 rfl ?_
        refine mx_iload d_LBWorker_workPlan_59 6 rfl ?_
        refine mx_iadd d_LBWorker_workPlan_61 ?_
        refine mx_lload d_LBWorker_workPlan_62 0 rfl ?_
        obtain ⟨vs12, e1_, e2_, e3_, h⟩ := h
        refine mx_last d_LBWorker_workPlan_64 (k := 102) rfl (by decide) (by omega) e1_ e2_ e3_ ?_
        obtain ⟨hs13, hg_⟩ : ∃ x_, x_ = mx_st hs8 a11 (102, vs12.set (Int32.toNatClampNeg (l4 + l5)) (.long x6)) := ⟨_, rfl⟩
        replace h := h hs13 hg_
        rw [← hg_]
        clear hg_
        refine mx_iinc (v := l5 + 1) (lv2 := [(5, .int (l5 + 1)), (7, .long x6), (0, .ref l0), (1, .ref l1), (2, .int l2), (3, .int l3), (4, .int l4), (6, .int l6)]) d_LBWorker_workPlan_65 6 rfl (by rfl) (Nat.le_of_ble_eq_true rfl) rfl ?_
        refine mx_aload_nR d_LBWorker_workPlan_68 rfl 3 rfl ?_
        refine mx_iload d_LBWorker_workPlan_69 7 rfl ?_
        obtain ⟨⟨fs17, e1_⟩, h⟩ := h
        refine mx_invV (Y := mm_LBText_endOf) (As := [.int l6]) (rest := []) d_LBWorker_workPlan_71.1 ok_LBText_endOf kw_238 kw_239 kw_240 rfl rfl (Nat.le_of_ble_eq_true rfl) (Nat.le_of_ble_eq_true rfl) e1_ (q := mx_cl0_1) rfl rfl h (fun r14 hs15 h => ?_)
        obtain ⟨x16, e9_, h⟩ := h
        subst e9_
        show mx_Ok mx_S0 l G (d + 1) mm_LBWorker_workPlan 74 [(5, .int (l5 + 1)), (7, .long x6), (0, .ref l0), (1, .ref l1), (2, .int l2), (3, .int l3), (4, .int l4), (6, .int l6)] [.int x16] hs15 Q
        refine mx_istore (lv2 := [(6, .int x16), (5, .int (l5 + 1)), (7, .long x6), (0, .ref l0), (1, .ref l1), (2, .int l2), (3, .int l3), (4, .int l4)]) d_LBWorker_workPlan_74 (Nat.le_of_ble_eq_true rfl) rfl ?_
        refine mx_goto d_LBWorker_workPlan_76 ?_
        exact mx_sub [3, 4, 5, 6, 7, 1, 0] rfl h
      · replace h := h.2 c9
        refine mx_lload d_LBWorker_workPlan_50 0 rfl ?_
        exact mx_lreturn d_LBWorker_workPlan_52 rfl h
set_option maxRecDepth 100000 in
theorem wp_LBWorker_workPlan_79 {l : Launch} {G : mx_G} {d : Nat} {hs : mx_H} {Q : Option Value → mx_H → Prop} (l0 : Nat) (l1 : Nat) (l2 : Int32) (l4 : Int32) (l5 : Int32) (h : (∃ (a2 : Nat), mx_f hs l0 5 1 (.ref a2) ∧ ((∃ fs12 : List Value, hs.1 l1 = some (1, fs12)) ∧ mx_C mx_S0 l G d mm_LBText_codeAt [.ref l1, .int (l2 + 1)] hs (fun (r3 : Option Value) (hs4 : mx_H) => ∃ x5 : Int32, r3 = some (.int x5) ∧ (∃ (a7 : Nat), mx_f hs4 l0 5 2 (.ref a7) ∧ ((∃ fs11 : List Value, hs4.1 a2 = some (4, fs11)) ∧ mx_C mx_S0 l G d mm_LBStore_planOf [.ref a2, .int (x5 - 48), .ref a7, .int l4, .int l5] hs4 (fun (r8 : Option Value) (hs9 : mx_H) => ∃ x10 : Int64, r8 = some (.long x10) ∧ Q (some (.long x10)) hs9))))))) : mx_Ok mx_S0 l G (d + 1) mm_LBWorker_workPlan 79 [(0, .ref l0), (1, .ref l1), (2, .int l2), (4, .int l4), (5, .int l5)] [] hs Q := by
  refine mx_aload_nR d_LBWorker_workPlan_79 rfl 0 rfl ?_
  obtain ⟨a2, ⟨fs1, e1_, e2_⟩, h⟩ := h
  refine mx_get d_LBWorker_workPlan_80 (ci := 5) (k := 1) (q := mx_cl0_5) rfl (Nat.le_of_ble_eq_true rfl) kw_186 e1_ e2_ ?_
  refine mx_aload_nR d_LBWorker_workPlan_83 rfl 1 rfl ?_
  refine mx_iload_n d_LBWorker_workPlan_84 rfl 2 rfl ?_
  refine mx_iconst (v := 1) d_LBWorker_workPlan_85 (by decide) ?_
  refine mx_iadd d_LBWorker_workPlan_86 ?_
  obtain ⟨⟨fs12, e1_⟩, h⟩ := h
  refine mx_invV (Y := mm_LBText_codeAt) (As := [.int (l2 + 1)]) (rest := [.ref a2]) d_LBWorker_workPlan_87.1 ok_LBText_codeAt kw_231 kw_119 kw_120 rfl rfl (Nat.le_of_ble_eq_true rfl) (Nat.le_of_ble_eq_true rfl) e1_ (q := mx_cl0_1) rfl rfl h (fun r3 hs4 h => ?_)
  obtain ⟨x5, e9_, h⟩ := h
  subst e9_
  show mx_Ok mx_S0 l G (d + 1) mm_LBWorker_workPlan 90 [(0, .ref l0), (1, .ref l1), (2, .int l2), (4, .int l4), (5, .int l5)] [.int x5, .ref a2] hs4 Q
  refine mx_bipush (v := 48) d_LBWorker_workPlan_90 (by decide) ?_
  refine mx_isub d_LBWorker_workPlan_92 ?_
  refine mx_aload_nR d_LBWorker_workPlan_93 rfl 0 rfl ?_
  obtain ⟨a7, ⟨fs6, e1_, e2_⟩, h⟩ := h
  refine mx_get d_LBWorker_workPlan_94 (ci := 5) (k := 2) (q := mx_cl0_5) rfl (Nat.le_of_ble_eq_true rfl) kw_189 e1_ e2_ ?_
  refine mx_iload d_LBWorker_workPlan_97 3 rfl ?_
  refine mx_iload d_LBWorker_workPlan_99 4 rfl ?_
  obtain ⟨⟨fs11, e1_⟩, h⟩ := h
  refine mx_invV (Y := mm_LBStore_planOf) (As := [.int (x5 - 48), .ref a7, .int l4, .int l5]) (rest := []) d_LBWorker_workPlan_101.1 ok_LBStore_planOf kw_245 kw_246 kw_247 rfl rfl (Nat.le_of_ble_eq_true rfl) (Nat.le_of_ble_eq_true rfl) e1_ (q := mx_cl0_4) rfl rfl h (fun r8 hs9 h => ?_)
  obtain ⟨x10, e9_, h⟩ := h
  subst e9_
  show mx_Ok mx_S0 l G (d + 1) mm_LBWorker_workPlan 104 [(0, .ref l0), (1, .ref l1), (2, .int l2), (4, .int l4), (5, .int l5)] [.long x10] hs9 Q
  exact mx_lreturn d_LBWorker_workPlan_104 rfl h
set_option maxRecDepth 100000 in
theorem wp_LBWorker_workResult_0 {l : Launch} {G : mx_G} {d : Nat} {hs : mx_H} {Q : Option Value → mx_H → Prop} (l0 : Nat) (l1 : Nat) (l2 : Int32) (l3 : Int32) (h : ((∃ fs16 : List Value, hs.1 l0 = some (5, fs16)) ∧ mx_C mx_S0 l G d mm_LBWorker_work [.ref l0, .ref l1, .int (l2 + 1), .int (l3 + 1)] hs (fun (r1 : Option Value) (hs2 : mx_H) => ∃ x3 : Int64, r1 = some (.long x3) ∧ mx_C mx_S0 l G d mm_LB_isFailure [.long x3] hs2 (fun (r4 : Option Value) (hs5 : mx_H) => ∃ x6 : Int32, r4 = some (.int x6) ∧ ((x6 = 0 → mx_C mx_S0 l G d mm_LB_isPlan [.long x3] hs5 (fun (r7 : Option Value) (hs8 : mx_H) => ∃ x9 : Int32, r7 = some (.int x9) ∧ ((x9 = 0 → Q (some (.long (-1000000000005))) hs8) ∧ (¬ (x9 = 0) → (∃ (a11 : Nat), mx_f hs8 l0 5 1 (.ref a11) ∧ ((∃ fs15 : List Value, hs8.1 a11 = some (4, fs15)) ∧ mx_C mx_S0 l G d mm_LBStore_resultOf [.ref a11, .long x3] hs8 (fun (r12 : Option Value) (hs13 : mx_H) => ∃ x14 : Int64, r12 = some (.long x14) ∧ Q (some (.long x14)) hs13))))))) ∧ (¬ (x6 = 0) → Q (some (.long x3)) hs5)))))) : mx_Ok mx_S0 l G (d + 1) mm_LBWorker_workResult 0 [(0, .ref l0), (1, .ref l1), (2, .int l2), (3, .int l3)] [] hs Q := by
  refine mx_aload_nR d_LBWorker_workResult_0 rfl 0 rfl ?_
  refine mx_aload_nR d_LBWorker_workResult_1 rfl 1 rfl ?_
  refine mx_iload_n d_LBWorker_workResult_2 rfl 2 rfl ?_
  refine mx_iconst (v := 1) d_LBWorker_workResult_3 (by decide) ?_
  refine mx_iadd d_LBWorker_workResult_4 ?_
  refine mx_iload_n d_LBWorker_workResult_5 rfl 3 rfl ?_
  refine mx_iconst (v := 1) d_LBWorker_workResult_6 (by decide) ?_
  refine mx_iadd d_LBWorker_workResult_7 ?_
  obtain ⟨⟨fs16, e1_⟩, h⟩ := h
  refine mx_invV (Y := mm_LBWorker_work) (As := [.ref l1, .int (l2 + 1), .int (l3 + 1)]) (rest := []) d_LBWorker_workResult_8.1 ok_LBWorker_work kw_209 kw_210 kw_211 rfl rfl (Nat.le_of_ble_eq_true rfl) (Nat.le_of_ble_eq_true rfl) e1_ (q := mx_cl0_5) rfl rfl h (fun r1 hs2 h => ?_)
  obtain ⟨x3, e9_, h⟩ := h
  subst e9_
  show mx_Ok mx_S0 l G (d + 1) mm_LBWorker_workResult 11 [(0, .ref l0), (1, .ref l1), (2, .int l2), (3, .int l3)] [.long x3] hs2 Q
  refine mx_lstore (lv2 := [(4, .long x3), (0, .ref l0), (1, .ref l1), (2, .int l2), (3, .int l3)]) d_LBWorker_workResult_11 (Nat.le_of_ble_eq_true rfl) rfl ?_
  refine mx_lload d_LBWorker_workResult_13 0 rfl ?_
  refine mx_invSN (Y := mm_LB_isFailure) (As := [.long x3]) (rest := []) d_LBWorker_workResult_15.1 ok_LB_isFailure kn_6 kw_88 rfl rfl (Nat.le_of_ble_eq_true rfl) (Nat.le_of_ble_eq_true rfl) h (fun r4 hs5 h => ?_)
  obtain ⟨x6, e9_, h⟩ := h
  subst e9_
  show mx_Ok mx_S0 l G (d + 1) mm_LBWorker_workResult 18 [(4, .long x3), (0, .ref l0), (1, .ref l1), (2, .int l2), (3, .int l3)] [.int x6] hs5 Q
  refine mx_if_eq d_LBWorker_workResult_18 (fun c9 => ?_) (fun c9 => ?_)
  · replace h := h.1 c9
    refine mx_lload d_LBWorker_workResult_24 0 rfl ?_
    refine mx_invSN (Y := mm_LB_isPlan) (As := [.long x3]) (rest := []) d_LBWorker_workResult_26.1 ok_LB_isPlan kn_9 kw_137 rfl rfl (Nat.le_of_ble_eq_true rfl) (Nat.le_of_ble_eq_true rfl) h (fun r7 hs8 h => ?_)
    obtain ⟨x9, e9_, h⟩ := h
    subst e9_
    show mx_Ok mx_S0 l G (d + 1) mm_LBWorker_workResult 29 [(4, .long x3), (0, .ref l0), (1, .ref l1), (2, .int l2), (3, .int l3)] [.int x9] hs8 Q
    refine mx_if_eq d_LBWorker_workResult_29 (fun c9 => ?_) (fun c9 => ?_)
    · replace h := h.1 c9
      refine mx_ldc2 (v := (-1000000000005)) d_LBWorker_workResult_44 kw_235 ?_
      exact mx_lreturn d_LBWorker_workResult_47 rfl h
    · replace h := h.2 c9
      refine mx_aload_nR d_LBWorker_workResult_32 rfl 1 rfl ?_
      obtain ⟨a11, ⟨fs10, e1_, e2_⟩, h⟩ := h
      refine mx_get d_LBWorker_workResult_33 (ci := 5) (k := 1) (q := mx_cl0_5) rfl (Nat.le_of_ble_eq_true rfl) kw_186 e1_ e2_ ?_
      refine mx_lload d_LBWorker_workResult_36 0 rfl ?_
      obtain ⟨⟨fs15, e1_⟩, h⟩ := h
      refine mx_invV (Y := mm_LBStore_resultOf) (As := [.long x3]) (rest := []) d_LBWorker_workResult_38.1 ok_LBStore_resultOf kw_248 kw_60 kw_61 rfl rfl (Nat.le_of_ble_eq_true rfl) (Nat.le_of_ble_eq_true rfl) e1_ (q := mx_cl0_4) rfl rfl h (fun r12 hs13 h => ?_)
      obtain ⟨x14, e9_, h⟩ := h
      subst e9_
      show mx_Ok mx_S0 l G (d + 1) mm_LBWorker_workResult 41 [(4, .long x3), (0, .ref l0), (1, .ref l1), (2, .int l2), (3, .int l3)] [.long x14] hs13 Q
      refine mx_goto d_LBWorker_workResult_41 ?_
      exact mx_lreturn d_LBWorker_workResult_47 rfl h
  · replace h := h.2 c9
    refine mx_lload d_LBWorker_workResult_21 0 rfl ?_
    exact mx_lreturn d_LBWorker_workResult_23 rfl h
end
section
/-! THE CLASS, its Text: contracts over mx_C, in continuation form. -/
theorem lz_pa_le (c : Int32) : lz_pa c ≤ 3 := by
  unfold lz_pa
  split
  · decide
  split
  · decide
  split
  · decide
  · decide
theorem mx_st_eq (hs : mx_H) (a : Nat) (x : mx_E) : (mx_st hs a x).1 a = some x := by simp [mx_st]
theorem mx_st_ne (hs : mx_H) {a q : Nat} (x : mx_E) (h : q ≠ a) : (mx_st hs a x).1 q = hs.1 q := by simp [mx_st, h]
theorem mx_nw_eq (hs : mx_H) (x : mx_E) (n : Nat) : (mx_nw hs x n).1 hs.2.1 = some x := by simp [mx_nw]
theorem mx_nw_ne (hs : mx_H) {q : Nat} (x : mx_E) (n : Nat) (h : q ≠ hs.2.1) : (mx_nw hs x n).1 q = hs.1 q := by simp [mx_nw, h]
/-- nothing has changed but cells of [a, a + n) -/
def mx_kp (hs hs' : mx_H) (a n : Nat) : Prop := (∀ q, q < a ∨ a + n ≤ q → hs'.1 q = hs.1 q) ∧ hs'.2 = hs.2
theorem mx_kp.rf {hs : mx_H} {a n : Nat} : mx_kp hs hs a n := ⟨fun _ _ => rfl, rfl⟩
theorem mx_kp.tr {h1 h2 h3 : mx_H} {a n : Nat} (p : mx_kp h1 h2 a n) (q : mx_kp h2 h3 a n) : mx_kp h1 h3 a n := ⟨fun x hx => (q.1 x hx).trans (p.1 x hx), q.2.trans p.2⟩
theorem mx_kp.st {hs : mx_H} {a n b : Nat} {x : mx_E} (h : a ≤ b) (h2 : b < a + n) : mx_kp hs (mx_st hs b x) a n := ⟨fun q hq => mx_st_ne hs x (by omega), rfl⟩
def lb_tx (hs : mx_H) (a : Nat) (t es : List Int32) (dp : Nat) (bp : Int32) : Prop := ∃ cs : List Int32, hs.1 a = some (1, [.ref (a + 1), .ref (a + 2), .int (nI t.length), .int (nI dp), .int bp]) ∧ hs.1 (a + 1) = some (100, cs.map Value.int) ∧ hs.1 (a + 2) = some (100, es.map Value.int) ∧ cs.length = 24 ∧ es.length = 24 ∧ t.length ≤ 24 ∧ cs.take t.length = t ∧ dp ≤ 8
theorem lb_tx.at {hs : mx_H} {a : Nat} {t es : List Int32} {dp : Nat} {bp : Int32} (h : lb_tx hs a t es dp bp) : hs.1 a = some (1, [.ref (a + 1), .ref (a + 2), .int (nI t.length), .int (nI dp), .int bp]) := by
  obtain ⟨cs, h0, -⟩ := h
  exact h0
theorem lb_tx.len {hs : mx_H} {a : Nat} {t es : List Int32} {dp : Nat} {bp : Int32} (h : lb_tx hs a t es dp bp) : t.length ≤ 24 ∧ es.length = 24 := by
  obtain ⟨cs, -, -, -, -, h4, h5, -⟩ := h
  exact ⟨h5, h4⟩
theorem lb_tx.kp {hs hs' : mx_H} {a b n : Nat} {t es : List Int32} {dp : Nat} {bp : Int32} (h : lb_tx hs a t es dp bp) (k : mx_kp hs hs' b n) (hb : a + 3 ≤ b ∨ b + n ≤ a) : lb_tx hs' a t es dp bp := by
  obtain ⟨cs, h0, h1, h2, h3⟩ := h
  exact ⟨cs, (k.1 _ (by omega)).trans h0, (k.1 _ (by omega)).trans h1, (k.1 _ (by omega)).trans h2, h3⟩
theorem lz_mapget {cs : List Int32} {i : Nat} {x : Int32} (h : cs[i]? = some x) : (cs.map Value.int)[i]? = some (.int x) := by
  rw [List.getElem?_map, h]
  rfl
theorem lz_cd_get {t : List Int32} {i : Nat} (h : i < t.length) : t[i]? = some (lz_cd t i) := by
  unfold lz_cd
  rw [List.getD_eq_getElem?_getD, List.getElem?_eq_getElem h]
  rfl
theorem lz_take_get {cs t : List Int32} {i : Nat} (h : cs.take t.length = t) (hi : i < t.length) : cs[i]? = some (lz_cd t i) := by
  have h1 : (cs.take t.length)[i]? = t[i]? := by rw [h]
  rw [List.getElem?_take, if_pos hi] at h1
  rw [h1]
  exact lz_cd_get hi
section CST
variable {l : Launch} {G : mx_G} {d : Nat} {hs : mx_H} {Q : Option Value → mx_H → Prop}
theorem c_isDigit {c : Int32} (k : Q (some (.int (lz_b (lz_dg c)))) hs) : mx_C mx_S0 l G (d + 1) mm_LB_isDigit [.int c] hs Q := by
  refine wp_LB_isDigit_0 _ ⟨fun h => ?_, fun h => ⟨fun h2 => ?_, fun h2 => ?_⟩⟩
  · have e : lz_dg c = false := by unfold lz_dg; simp [Int32.not_le.mpr h]
    rw [e] at k
    exact k
  · have e : lz_dg c = false := by unfold lz_dg; simp [Int32.not_le.mpr h2]
    rw [e] at k
    exact k
  · have e : lz_dg c = true := by unfold lz_dg; simp [Int32.not_lt.mp h, Int32.not_lt.mp h2]
    rw [e] at k
    exact k
theorem c_isLetter {c : Int32} (k : Q (some (.int (lz_b (lz_lt c)))) hs) : mx_C mx_S0 l G (d + 1) mm_LB_isLetter [.int c] hs Q := by
  refine wp_LB_isLetter_0 _ ⟨fun h => ?_, fun h => ⟨fun h2 => ?_, fun h2 => ?_⟩⟩
  · have e : lz_lt c = false := by unfold lz_lt; simp [Int32.not_le.mpr h]
    rw [e] at k
    exact k
  · have e : lz_lt c = false := by unfold lz_lt; simp [Int32.not_lt.mpr h2]
    rw [e] at k
    exact k
  · have e : lz_lt c = true := by unfold lz_lt; simp [Int32.not_lt.mp h, Int32.not_le.mp h2]
    rw [e] at k
    exact k
theorem c_isNameNumber {c : Int32} (k1 : ∀ j : Nat, j < 8 → c = nI j → Q (some (.int 1)) hs) (k0 : (c < 0 ∨ 8 ≤ c) → Q (some (.int 0)) hs) : mx_C mx_S0 l G (d + 1) mm_LB_isNameNumber [.int c] hs Q := by
  refine wp_LB_isNameNumber_0 _ ⟨fun h => k0 (Or.inl h), fun h => ⟨fun h2 => k0 (Or.inr h2), fun h2 => ?_⟩⟩
  rcases pk_ix c (n := 8) (by decide) with q | q | ⟨j, q1, q2⟩
  · exact absurd q h
  · exact absurd q h2
  · exact k1 j q1 q2
theorem c_partsAfter {c : Int32} (k : Q (some (.int (nI (lz_pa c)))) hs) : mx_C mx_S0 l G (d + 1) mm_LB_partsAfter [.int c] hs Q := by
  refine wp_LB_partsAfter_0 _ ⟨fun h => ?_, fun h => ?_, fun h => ?_, fun h => ?_, fun h => ?_, fun h => ?_, fun h => ?_, fun h => ?_, fun h1 h2 h3 h4 h5 h6 h7 h8 => ?_⟩
  all_goals first
    | (subst h; exact k)
    | (have e : lz_pa c = 0 := by unfold lz_pa; rw [if_neg (by rintro (q | q) <;> contradiction), if_neg (by rintro (q | q | q | q | q) <;> contradiction), if_neg h6]
       rw [e] at k
       exact k)
theorem c_isFailure {v : Int64} (k : Q (some (.int (lz_b (lz_bad v)))) hs) : mx_C mx_S0 l G (d + 1) mm_LB_isFailure [.long v] hs Q := by
  refine wp_LB_isFailure_0 _ ⟨fun h => ?_, fun h => ?_⟩
  · have e : lz_bad v = false := by unfold lz_bad; simp [Int64.not_lt.mpr h]
    rw [e] at k
    exact k
  · have e : lz_bad v = true := by unfold lz_bad; simp [Int64.not_le.mp h]
    rw [e] at k
    exact k
theorem c_isPlan {v : Int64} (k : Q (some (.int (lz_b (lz_pl v)))) hs) : mx_C mx_S0 l G (d + 1) mm_LB_isPlan [.long v] hs Q := by
  refine wp_LB_isPlan_0 _ ⟨fun h => ?_, fun h => ?_⟩
  · have e : lz_pl v = false := by unfold lz_pl; simp [Int64.not_lt.mpr h]
    rw [e] at k
    exact k
  · have e : lz_pl v = true := by unfold lz_pl; simp [Int64.not_le.mp h]
    rw [e] at k
    exact k
theorem c_numberOf {v : Int64} (k : Q (some (.int (Int64.toInt32 (v - 1000000000000)))) hs) : mx_C mx_S0 l G (d + 1) mm_LB_numberOf [.long v] hs Q := wp_LB_numberOf_0 _ k
/-- a character that belongs to a line -/
def lz_bl (c : Int32) : Bool := lz_dg c || lz_lt c || decide (0 < lz_pa c) || decide (c = 68) || decide (c = 40) || decide (c = 41)
theorem c_belongs {c : Int32} (k : Q (some (.int (lz_b (lz_bl c)))) hs) : mx_C mx_S0 l G (d + 2) mm_LBText_belongs [.int c] hs Q := by
  have k1 : lz_bl c = true → mx_Ok mx_S0 l G (d + 2) mm_LBText_belongs 39 [] [] hs Q := fun h => wp_LBText_belongs_39 (by rw [h] at k; exact k)
  refine wp_LBText_belongs_0 _ (c_isDigit ⟨_, rfl, fun h => ?_, fun h => c_isLetter ⟨_, rfl, fun h2 => ?_, fun h2 => c_partsAfter ⟨_, rfl, fun h3 => ?_, fun h3 => ⟨fun h4 => ?_, fun h4 => ⟨fun h5 => ?_, fun h5 => ⟨fun h6 => ?_, fun h6 => ?_⟩⟩⟩⟩⟩⟩)
  · exact k1 (by unfold lz_bl; rw [lz_b1.mp h]; rfl)
  · exact k1 (by unfold lz_bl; rw [lz_b1.mp h2]; simp)
  · have : 0 < lz_pa c := by
      rcases Nat.eq_zero_or_pos (lz_pa c) with q | q
      · rw [q] at h3
        exact absurd h3 (by decide)
      · exact q
    exact k1 (by unfold lz_bl; simp [this])
  · exact k1 (by unfold lz_bl; simp [h4])
  · exact k1 (by unfold lz_bl; simp [h5])
  · have e1 : lz_dg c = false := by
      cases q : lz_dg c
      · rfl
      · rw [q] at h
        exact absurd (by decide) h
    have e2 : lz_lt c = false := by
      cases q : lz_lt c
      · rfl
      · rw [q] at h2
        exact absurd (by decide) h2
    have e3 : lz_pa c = 0 := by
      have hle := lz_pa_le c
      rcases Nat.eq_zero_or_pos (lz_pa c) with q | q
      · exact q
      · exact absurd (nI_lt (a := 0) q (by omega)) h3
    have e : lz_bl c = false := by unfold lz_bl; simp [e1, e2, e3, h4, h5, h6]
    rw [e] at k
    exact k
  · exact k1 (by unfold lz_bl; simp [Decidable.not_not.mp h6])
theorem c_codeAt {a p : Nat} {t es : List Int32} {dp : Nat} {bp : Int32} (hT : lb_tx hs a t es dp bp) (hp : p < 2 ^ 31) (k : Q (some (.int (lz_cd t p))) hs) : mx_C mx_S0 l G (d + 1) mm_LBText_codeAt [.ref a, .int (nI p)] hs Q := by
  obtain ⟨cs, h0, h1, h2, h3, h4, h5, h6, h7⟩ := hT
  refine wp_LBText_codeAt_0 _ _ ⟨fun c => absurd c (nI_pos hp), fun _ => ⟨_, ⟨_, h0, rfl⟩, fun c => ?_, fun c => ?_⟩⟩
  · rw [nI_leI (by omega) hp] at c
    rw [lz_cd_out c] at k
    exact k
  · rw [nI_leI (by omega) hp] at c
    refine ⟨_, ⟨_, h0, rfl⟩, _, _, h1, nI_pos hp, ?_, k⟩
    rw [nI_clamp hp]
    exact lz_mapget (lz_take_get h6 (by omega))
theorem c_endOf {a p : Nat} {t es : List Int32} {dp : Nat} {bp : Int32} {e : Int32} (hT : lb_tx hs a t es dp bp) (hp : p < t.length) (he : es[p]? = some e) (k : Q (some (.int e)) hs) : mx_C mx_S0 l G (d + 1) mm_LBText_endOf [.ref a, .int (nI p)] hs Q := by
  obtain ⟨cs, h0, h1, h2, h3, h4, h5, h6, h7⟩ := hT
  have hp2 : p < 2 ^ 31 := by omega
  refine wp_LBText_endOf_0 _ _ ⟨fun c => absurd c (nI_pos hp2), fun _ => ⟨_, ⟨_, h0, rfl⟩, fun c => ?_, fun c => ?_⟩⟩
  · rw [nI_leI (by omega) hp2] at c
    omega
  · refine ⟨_, ⟨_, h0, rfl⟩, _, _, h2, nI_pos hp2, ?_, k⟩
    rw [nI_clamp hp2]
    exact lz_mapget he
theorem c_badAt {a : Nat} {t es : List Int32} {dp : Nat} {bp b : Int32} (hT : lb_tx hs a t es dp bp) (k : ∀ hs', lb_tx hs' a t es dp b → mx_kp hs hs' a 3 → Q (some (.int (-1))) hs') : mx_C mx_S0 l G (d + 1) mm_LBText_badAt [.ref a, .int b] hs Q := by
  obtain ⟨cs, h0, h1, h2, h3⟩ := hT
  refine wp_LBText_badAt_0 _ _ ⟨_, h0, fun hs2 e => ?_⟩
  subst e
  exact k _ ⟨cs, mx_st_eq _ _ _, (mx_st_ne _ _ (by omega)).trans h1, (mx_st_ne _ _ (by omega)).trans h2, h3⟩ (mx_kp.st (by omega) (by omega))
theorem c_clear {a : Nat} {t es : List Int32} {dp : Nat} {bp : Int32} (hT : lb_tx hs a t es dp bp) (k : ∀ hs', lb_tx hs' a [] es dp bp → mx_kp hs hs' a 3 → Q none hs') : mx_C mx_S0 l G (d + 1) mm_LBText_clear [.ref a] hs Q := by
  obtain ⟨cs, h0, h1, h2, h3, h4, h5, h6, h7⟩ := hT
  refine wp_LBText_clear_0 _ ⟨_, h0, fun hs2 e => ?_⟩
  subst e
  exact k _ ⟨cs, mx_st_eq _ _ _, (mx_st_ne _ _ (by omega)).trans h1, (mx_st_ne _ _ (by omega)).trans h2, h3, h4, by simp, by simp, h7⟩ (mx_kp.st (by omega) (by omega))
theorem c_append {a : Nat} {t es : List Int32} {dp : Nat} {bp c : Int32} (hT : lb_tx hs a t es dp bp) (k0 : lz_bl c = false → Q (some (.int (-1))) hs) (k1 : lz_bl c = true → t.length = 24 → Q (some (.int (-2))) hs) (k2 : lz_bl c = true → t.length < 24 → ∀ hs', lb_tx hs' a (t ++ [c]) es dp bp → mx_kp hs hs' a 3 → Q (some (.int (nI (t.length + 1)))) hs') : mx_C mx_S0 l G (d + 3) mm_LBText_append [.ref a, .int c] hs Q := by
  obtain ⟨cs, h0, h1, h2, h3, h4, h5, h6, h7⟩ := hT
  refine wp_LBText_append_0 _ _ (c_belongs ⟨_, rfl, fun h => ⟨_, ⟨_, h0, rfl⟩, fun q => ?_, fun q => ?_⟩, fun h => ?_⟩)
  · have hn : t.length < 24 := by
      rcases Nat.lt_or_ge t.length 24 with z | z
      · exact z
      · exact absurd q (nI_nlt (b := 24) z (by omega))
    refine ⟨_, ⟨_, h0, rfl⟩, _, ⟨_, h0, rfl⟩, _, h1, nI_pos (by omega), by rw [nI_clamp (by omega), List.length_map]; omega, fun hs2 e2 => ?_⟩
    subst e2
    have g0 := (mx_st_ne hs (q := a) (a := a + 1) (100, (cs.map Value.int).set (Int32.toNatClampNeg (nI t.length)) (.int c)) (by omega)).trans h0
    refine ⟨_, ⟨_, g0, rfl⟩, _, g0, fun hs3 e3 => ?_⟩
    subst e3
    refine ⟨_, ⟨_, mx_st_eq _ _ _, rfl⟩, ?_⟩
    refine (nI_1 t.length) ▸ k2 (lz_b1.mp h) hn _ ⟨cs.set t.length c, ?_, ?_, ?_, ?_, h4, ?_, ?_, h7⟩ (mx_kp.tr (mx_kp.st (b := a + 1) (by omega) (by omega)) (mx_kp.st (b := a) (by omega) (by omega)))
    · rw [mx_st_eq]
      simp only [List.length_append, List.length_cons, List.length_nil, Nat.zero_add, ← nI_1]
      rfl
    · rw [mx_st_ne _ _ (by omega), mx_st_eq, nI_clamp (by omega), List.map_set]
    · rw [mx_st_ne _ _ (by omega), mx_st_ne _ _ (by omega)]
      exact h2
    · rw [List.length_set]
      exact h3
    · simp only [List.length_append, List.length_cons, List.length_nil]
      omega
    · simp only [List.length_append, List.length_cons, List.length_nil, Nat.zero_add]
      rw [List.take_succ_eq_append_getElem (by rw [List.length_set]; omega), List.take_set_of_le (Nat.le_refl _), h6]
      simp
  · have hn : t.length = 24 := by
      rcases Nat.lt_or_ge t.length 24 with z | z
      · exact absurd (nI_lt (b := 24) z (by omega)) q
      · omega
    exact k1 (lz_b1.mp h) hn
  · exact k0 (lz_b0.mp (Decidable.not_not.mp h))
end CST
end
section
/-! THE CLASS reads a text. -/
def lz_re (r : Bool × Nat) : Int32 := if r.1 = true then nI r.2 else -1
/-- the places of the parts of a text stand in es, from p to e -/
def lz_EO (t es : List Int32) (p e : Nat) : Prop := ∀ i, p ≤ i → i < e → (i = 0 ∨ lz_cd t (i - 1) ≠ 68) → ∀ x, lz_rd t 8 i = (true, x) → es[i]? = some (nI x)
theorem lz_EO.app {t es1 es2 : List Int32} {p q e : Nat} (h1 : lz_EO t es1 p q) (hk : ∀ i, i < q → es2[i]? = es1[i]?) (h2 : lz_EO t es2 q e) : lz_EO t es2 p e := by
  intro i hp he hz x hx
  rcases Nat.lt_or_ge i q with h | h
  · rw [hk i h]
    exact h1 i hp h hz x hx
  · exact h2 i h he hz x hx
theorem lz_EO.nil {t es : List Int32} {p : Nat} : lz_EO t es p p := fun i h1 h2 => absurd h2 (by omega)
theorem lz_rd_par {t : List Int32} {k i x : Nat} (h : lz_cd t i = 40 ∨ lz_cd t i = 41) : ¬ lz_rd t k i = (true, x) := by
  cases k with
  | zero => simp [lz_rd]
  | succ k =>
    intro hh
    unfold lz_rd at hh
    by_cases hl : t.length ≤ i
    · rw [if_pos hl] at hh
      cases hh
    · rw [if_neg hl] at hh
      rcases h with h | h
      · rw [h, if_neg (by decide), if_neg (by decide), if_pos (Or.inl (by decide))] at hh
        cases hh
      · rw [h, if_neg (by decide), if_neg (by decide), if_pos (Or.inl (by decide))] at hh
        cases hh
/-- what a reading from p leaves: r its answer, es the places before it, es2 behind it -/
def lb_rs (t es es2 : List Int32) (bp2 : Int32) (p : Nat) (r : Bool × Nat) : Prop := (r.1 = true → (∀ i, i < p ∨ r.2 ≤ i → es2[i]? = es[i]?) ∧ lz_EO t es2 p r.2) ∧ (r.1 = false → bp2 = nI r.2)
def lb_RE (l : Launch) (G : mx_G) (a : Nat) (t : List Int32) (k : Nat) : Prop := ∀ (d : Nat) (hs : mx_H) (es : List Int32) (D : Nat) (bp : Int32) (p : Nat) (Q : Option Value → mx_H → Prop), 3 * k + 2 ≤ d → p ≤ 24 → lb_tx hs a t es D bp → (∀ hs2 es2 D2 bp2, lb_tx hs2 a t es2 D2 bp2 → mx_kp hs hs2 a 3 → lb_rs t es es2 bp2 p (lz_rd t k p) → ((lz_rd t k p).1 = true → D2 = max D (8 - k + lz_ht t k p)) → Q (some (.int (lz_re (lz_rd t k p)))) hs2) → mx_C mx_S0 l G d mm_LBText_readExpression [.ref a, .int (nI p), .int (nI (9 - k))] hs Q
section CRD
variable {l : Launch} {G : mx_G} {d a k : Nat} {t : List Int32}
theorem lb_rk_m1 {hs : mx_H} {Q : Option Value → mx_H → Prop} {x y z : Int32} (h : Q (some (.int (-1))) hs) : mx_Ok mx_S0 l G (d + 1) mm_LBText_readKind 68 [(0, .ref a), (2, .int x), (4, .int y), (5, .int (-1)), (6, .int z)] [] hs Q :=
  wp_LBText_readKind_68 _ _ _ _ _ ⟨fun _ => h, fun _ => ⟨fun _ => h, fun c => absurd rfl c⟩⟩
theorem lz_nm1 {n : Nat} (h : n < 2 ^ 31) : ¬ nI n = -1 := by
  intro e
  have := nI_pos h
  rw [e] at this
  exact this (by decide)
/-- the parts of a sign -/
theorem lb_rk_loop {N : Nat} (hN : N ≤ 3) (hk : k ≤ 7) (ih : lb_RE l G a t k) (hd : 3 * k + 2 ≤ d) : ∀ (n j q : Nat) (hs : mx_H) (es : List Int32) (D : Nat) (bp : Int32) (Q : Option Value → mx_H → Prop), j + n = N → q ≤ 24 → lb_tx hs a t es D bp →
    (∀ hs2 es2 D2 bp2, lb_tx hs2 a t es2 D2 bp2 → mx_kp hs hs2 a 3 → lb_rs t es es2 bp2 q (lz_ps (lz_rd t k) n q) → ((lz_ps (lz_rd t k) n q).1 = true → max D2 (8 - k) = max D (8 - k + lz_hp (lz_rd t k) (lz_ht t k) n q)) → Q (some (.int (lz_re (lz_ps (lz_rd t k) n q)))) hs2) →
    mx_Ok mx_S0 l G (d + 1) mm_LBText_readKind 68 [(0, .ref a), (2, .int (nI (8 - k))), (4, .int (nI N)), (5, .int (nI q)), (6, .int (nI j))] [] hs Q := by
  intro n
  induction n with
  | zero =>
    intro j q hs es D bp Q hj hq hT kk
    refine wp_LBText_readKind_68 _ _ _ _ _ ⟨fun _ => ?_, fun c => absurd (nI_le (by omega) (by omega)) c⟩
    exact kk hs es D bp hT mx_kp.rf ⟨fun _ => ⟨fun _ _ => rfl, lz_EO.nil⟩, fun h => by cases h⟩ (fun _ => by simp [lz_hp])
  | succ n ihn =>
    intro j q hs es D bp Q hj hq hT kk
    refine wp_LBText_readKind_68 _ _ _ _ _ ⟨fun c => absurd c (nI_ge (by omega) (by omega)), fun _ => ⟨fun c => absurd c (lz_nm1 (by omega)), fun _ => ⟨⟨_, hT.at⟩, ?_⟩⟩⟩
    rw [nI_1, show 8 - k + 1 = 9 - k by omega]
    refine ih d hs es D bp q _ hd hq hT (fun hs2 es2 D2 bp2 hT2 hk2 hr2 hD2 => ⟨_, rfl, ?_⟩)
    rw [nI_1]
    by_cases hc : (lz_rd t k q).1 = true
    · have hb := lz_rd_b (t := t) k q (lz_rd t k q).2 (Prod.ext hc rfl)
      have hlen := hT.len.1
      have e1 : lz_re (lz_rd t k q) = nI (lz_rd t k q).2 := by unfold lz_re; rw [if_pos hc]
      rw [e1]
      have e2 : lz_ps (lz_rd t k) (n + 1) q = lz_ps (lz_rd t k) n (lz_rd t k q).2 := by rw [lz_ps, if_pos hc]
      refine ihn (j + 1) _ hs2 es2 D2 bp2 Q (by omega) (by omega) hT2 (fun hs3 es3 D3 bp3 hT3 hk3 hr3 hD3 => ?_)
      rw [e2] at kk
      refine kk hs3 es3 D3 bp3 hT3 (hk2.tr hk3) ⟨fun h => ?_, fun h => hr3.2 h⟩ (fun h => ?_)
      · obtain ⟨p1, p2⟩ := hr2.1 hc
        obtain ⟨p3, p4⟩ := hr3.1 h
        have hb3 := (lz_ps_b (lz_rd_b (t := t) k) n _ (lz_ps (lz_rd t k) n (lz_rd t k q).2).2 hb.2 (Prod.ext h rfl)).1
        exact ⟨fun i hi => (p3 i (by omega)).trans (p1 i (by omega)), p2.app (fun i hi => p3 i (Or.inl hi)) p4⟩
      · have := hD3 h
        rw [this, hD2 hc, lz_hp]
        omega
    · have hf : (lz_rd t k q).1 = false := by simpa using hc
      have e1 : lz_re (lz_rd t k q) = -1 := by unfold lz_re; rw [if_neg hc]
      have e2 : lz_ps (lz_rd t k) (n + 1) q = lz_rd t k q := by rw [lz_ps, if_neg hc]
      rw [e1]
      refine lb_rk_m1 ?_
      rw [e2, e1] at kk
      exact kk hs2 es2 D2 bp2 hT2 hk2 hr2 (fun h => absurd h hc)
/-- the end of a list -/
theorem lb_rp_end {hs : mx_H} {Q : Option Value → mx_H → Prop} {q : Nat} {es : List Int32} {D : Nat} {bp : Int32} {r : Bool × Nat} (hr : r = if lz_cd t q = 41 then (true, q + 1) else (false, q)) (hq : q ≤ 24) (hT : lb_tx hs a t es D bp)
    (kk : ∀ hs2 es2 bp2, lb_tx hs2 a t es2 D bp2 → mx_kp hs hs2 a 3 → lb_rs t es es2 bp2 q r → Q (some (.int (lz_re r))) hs2) : mx_Ok mx_S0 l G (d + 2) mm_LBText_readPlan 86 [(0, .ref a), (3, .int (nI q))] [] hs Q := by
  refine wp_LBText_readPlan_86 _ _ ⟨⟨_, hT.at⟩, c_codeAt hT (by omega) ⟨_, rfl, fun c => ⟨⟨_, hT.at⟩, ?_⟩, fun c => ?_⟩⟩
  · rw [if_neg c] at hr
    refine c_badAt hT (fun hs2 hT2 hk2 => ⟨_, rfl, ?_⟩)
    rw [hr] at kk
    exact kk hs2 es _ hT2 hk2 ⟨fun h => (by cases h), fun _ => rfl⟩
  · have c := Decidable.not_not.mp c
    rw [if_pos c] at hr
    rw [hr] at kk
    rw [nI_1]
    refine kk hs es bp hT mx_kp.rf ⟨fun _ => ⟨fun _ _ => rfl, fun i h1 h2 _ x hx => ?_⟩, fun h => by cases h⟩
    have : i = q := by simp only at h2; omega
    subst this
    exact absurd hx (lz_rd_par (Or.inr c))
/-- the list of a D -/
theorem lb_rp_loop (hk : k ≤ 7) (ih : lb_RE l G a t k) (hd : 3 * k + 2 ≤ d) (hd1 : 1 ≤ d) : ∀ (n q : Nat) (hs : mx_H) (es : List Int32) (D : Nat) (bp : Int32) (Q : Option Value → mx_H → Prop), n ≤ 4 → q ≤ 24 → lb_tx hs a t es D bp →
    (∀ hs2 es2 D2 bp2, lb_tx hs2 a t es2 D2 bp2 → mx_kp hs hs2 a 3 → lb_rs t es es2 bp2 q (lz_ls (lz_rd t k) t n q) → ((lz_ls (lz_rd t k) t n q).1 = true → max D2 (8 - k) = max D (8 - k + lz_hl (lz_rd t k) (lz_ht t k) t n q)) → Q (some (.int (lz_re (lz_ls (lz_rd t k) t n q)))) hs2) →
    mx_Ok mx_S0 l G (d + 1) mm_LBText_readPlan 48 [(0, .ref a), (2, .int (nI (8 - k))), (3, .int (nI q)), (4, .int (nI (4 - n)))] [] hs Q := by
  obtain ⟨d0, rfl⟩ : ∃ d0, d = d0 + 1 := ⟨d - 1, by omega⟩
  intro n
  induction n with
  | zero =>
    intro q hs es D bp Q hn hq hT kk
    refine wp_LBText_readPlan_48 _ _ _ _ ⟨fun _ => ?_, fun c => absurd (nI_le (a := 4) (by omega) (by omega)) c⟩
    refine lb_rp_end (r := lz_ls (lz_rd t k) t 0 q) (by rw [lz_ls]) hq hT (fun hs2 es2 bp2 h1 h2 h3 => kk hs2 es2 D bp2 h1 h2 h3 (fun _ => by simp [lz_hl]))
  | succ n ihn =>
    intro q hs es D bp Q hn hq hT kk
    refine wp_LBText_readPlan_48 _ _ _ _ ⟨fun c => absurd c (nI_ge (b := 4) (by omega) (by omega)), fun _ => ⟨⟨_, hT.at⟩, c_codeAt hT (by omega) ⟨_, rfl, fun c => ?_, fun c => ⟨⟨_, hT.at⟩, ?_⟩⟩⟩⟩
    · refine lb_rp_end (r := lz_ls (lz_rd t k) t (n + 1) q) (by rw [lz_ls, if_pos c, if_pos c]) hq hT (fun hs2 es2 bp2 h1 h2 h3 => kk hs2 es2 D bp2 h1 h2 h3 (fun _ => by simp [lz_hl, c]))
    rw [nI_1, show 8 - k + 1 = 9 - k by omega]
    refine ih (d0 + 1) hs es D bp q _ hd hq hT (fun hs2 es2 D2 bp2 hT2 hk2 hr2 hD2 => ⟨_, rfl, fun g => ?_, fun g => ?_⟩)
    · have hc : (lz_rd t k q).1 = true := by
        by_cases hc : (lz_rd t k q).1 = true
        · exact hc
        · exact absurd (by unfold lz_re; rw [if_neg hc]) g
      have hb := lz_rd_b (t := t) k q (lz_rd t k q).2 (Prod.ext hc rfl)
      have hlen := hT.len.1
      have e1 : lz_re (lz_rd t k q) = nI (lz_rd t k q).2 := by unfold lz_re; rw [if_pos hc]
      rw [e1, nI_1, show 4 - (n + 1) + 1 = 4 - n by omega]
      have e2 : lz_ls (lz_rd t k) t (n + 1) q = lz_ls (lz_rd t k) t n (lz_rd t k q).2 := by rw [lz_ls, if_neg c, if_pos hc]
      refine ihn _ hs2 es2 D2 bp2 Q (by omega) (by omega) hT2 (fun hs3 es3 D3 bp3 hT3 hk3 hr3 hD3 => ?_)
      rw [e2] at kk
      refine kk hs3 es3 D3 bp3 hT3 (hk2.tr hk3) ⟨fun h => ?_, fun h => hr3.2 h⟩ (fun h => ?_)
      · obtain ⟨p1, p2⟩ := hr2.1 hc
        obtain ⟨p3, p4⟩ := hr3.1 h
        have hb3 := (lz_ls_b (lz_rd_b (t := t) k) n _ (lz_ls (lz_rd t k) t n (lz_rd t k q).2).2 (Prod.ext h rfl)).1
        exact ⟨fun i hi => (p3 i (by omega)).trans (p1 i (by omega)), p2.app (fun i hi => p3 i (Or.inl hi)) p4⟩
      · have := hD3 h
        rw [this, hD2 hc, lz_hl, if_neg c]
        omega
    · have g := Decidable.not_not.mp g
      have hc : ¬ (lz_rd t k q).1 = true := by
        intro hc
        have hb := lz_rd_b (t := t) k q (lz_rd t k q).2 (Prod.ext hc rfl)
        have hlen := hT.len.1
        have e1 : lz_re (lz_rd t k q) = nI (lz_rd t k q).2 := by unfold lz_re; rw [if_pos hc]
        exact lz_nm1 (by omega) (e1.symm.trans g)
      have e2 : lz_ls (lz_rd t k) t (n + 1) q = lz_rd t k q := by rw [lz_ls, if_neg c, if_neg hc]
      rw [e2, g] at kk
      exact kk hs2 es2 D2 bp2 hT2 hk2 hr2 (fun h => absurd h hc)
/-- the kinds of EXPRESSION -/
theorem lb_rk (hk : k ≤ 7) (ih : lb_RE l G a t k) (hd : 3 * k + 4 ≤ d) {hs : mx_H} {es : List Int32} {D : Nat} {bp : Int32} {p : Nat} {Q : Option Value → mx_H → Prop} (hp : p < t.length) (hT : lb_tx hs a t es D bp)
    (kk : ∀ hs2 es2 D2 bp2, lb_tx hs2 a t es2 D2 bp2 → mx_kp hs hs2 a 3 → lb_rs t es es2 bp2 (p + 1) (lz_rd t (k + 1) p) → ((lz_rd t (k + 1) p).1 = true → max D2 (8 - k) = max D (7 - k + lz_ht t (k + 1) p)) → Q (some (.int (lz_re (lz_rd t (k + 1) p)))) hs2) :
    mx_C mx_S0 l G d mm_LBText_readKind [.ref a, .int (nI p), .int (nI (8 - k))] hs Q := by
  obtain ⟨d0, rfl⟩ : ∃ d0, d = d0 + 4 := ⟨d - 4, by omega⟩
  have hlen := hT.len.1
  have hnl : ¬ t.length ≤ p := by omega
  have kleaf : (lz_dg (lz_cd t p) || lz_lt (lz_cd t p)) = true → mx_Ok mx_S0 l G (d0 + 4) mm_LBText_readKind 20 [(1, .int (nI p))] [] hs Q := by
    intro h
    refine wp_LBText_readKind_20 _ ?_
    rw [nI_1]
    have e : lz_rd t (k + 1) p = (true, p + 1) := by rw [lz_rd, if_neg hnl, if_pos h]
    have eh : lz_ht t (k + 1) p = 1 := by rw [lz_ht, if_pos h]
    rw [e, eh] at kk
    exact kk hs es D bp hT mx_kp.rf ⟨fun _ => ⟨fun _ _ => rfl, lz_EO.nil⟩, fun h => by cases h⟩ (fun _ => by omega)
  refine wp_LBText_readKind_0 _ _ _ ⟨⟨_, hT.at⟩, c_codeAt hT (by omega) ⟨_, rfl, c_isDigit ⟨_, rfl, fun h1 => kleaf (by rw [lz_b1.mp h1]; rfl), fun h1 => c_isLetter ⟨_, rfl, fun h2 => ?_, fun h2 => kleaf (by rw [lz_b1.mp h2]; simp)⟩⟩⟩⟩
  have h1 := lz_b0.mp (Decidable.not_not.mp h1)
  have h2 := lz_b0.mp h2
  have h3 : ¬ (lz_dg (lz_cd t p) || lz_lt (lz_cd t p)) = true := by rw [h1, h2]; decide
  refine ⟨fun h4 => c_partsAfter ⟨_, rfl, fun h5 => ?_, fun h5 => ⟨fun h6 => ?_, fun h6 => ?_⟩⟩, fun h4 => ?_⟩
  · have hz : lz_pa (lz_cd t p) = 0 := by
      rcases Nat.eq_zero_or_pos (lz_pa (lz_cd t p)) with q | q
      · exact q
      · have hle := lz_pa_le (lz_cd t p)
        exact absurd h5 (nI_ne0 q (by omega))
    have e : lz_rd t (k + 1) p = (false, p) := by rw [lz_rd, if_neg hnl, if_neg h3, if_neg h4, if_pos (Or.inl hz)]
    rw [e] at kk
    refine wp_LBText_readKind_54 _ _ ⟨⟨_, hT.at⟩, c_badAt hT (fun hs2 hT2 hk2 => ⟨_, rfl, ?_⟩)⟩
    exact kk hs2 es D _ hT2 hk2 ⟨fun h => (by cases h), fun _ => rfl⟩ (fun h => by cases h)
  · have hk6 : k ≠ 0 := by
      intro h
      subst h
      exact absurd h6 (by decide)
    have hle := lz_pa_le (lz_cd t p)
    have hz : ¬ lz_pa (lz_cd t p) = 0 := by
      intro q
      rw [q] at h5
      exact h5 (by decide)
    have e : lz_rd t (k + 1) p = lz_ps (lz_rd t k) (lz_pa (lz_cd t p)) (p + 1) := by rw [lz_rd, if_neg hnl, if_neg h3, if_neg h4, if_neg (by omega)]
    have eh : lz_ht t (k + 1) p = 1 + lz_hp (lz_rd t k) (lz_ht t k) (lz_pa (lz_cd t p)) (p + 1) := by rw [lz_ht, if_neg h3, if_neg h4]
    rw [nI_1]
    refine lb_rk_loop (N := lz_pa (lz_cd t p)) hle hk ih (by omega) (lz_pa (lz_cd t p)) 0 (p + 1) hs es D bp Q (by omega) (by omega) hT (fun hs2 es2 D2 bp2 hT2 hk2 hr2 hD2 => ?_)
    rw [e, eh] at kk
    exact kk hs2 es2 D2 bp2 hT2 hk2 hr2 (fun h => by rw [hD2 h]; omega)
  · have hk6 : k = 0 := by
      rcases Nat.eq_zero_or_pos k with q | q
      · exact q
      · exact absurd (nI_lt (a := 8 - k) (b := 8) (by omega) (by omega)) h6
    have e : lz_rd t (k + 1) p = (false, p) := by rw [lz_rd, if_neg hnl, if_neg h3, if_neg h4, if_pos (Or.inr hk6)]
    rw [e] at kk
    refine wp_LBText_readKind_54 _ _ ⟨⟨_, hT.at⟩, c_badAt hT (fun hs2 hT2 hk2 => ⟨_, rfl, ?_⟩)⟩
    exact kk hs2 es D _ hT2 hk2 ⟨fun h => (by cases h), fun _ => rfl⟩ (fun h => by cases h)
  · have h4 := Decidable.not_not.mp h4
    have eh : lz_ht t (k + 1) p = 1 + lz_hl (lz_rd t k) (lz_ht t k) t 4 (p + 3) := by rw [lz_ht, if_neg h3, if_pos h4]
    refine ⟨⟨_, hT.at⟩, ?_⟩
    have e2 : nI p + 2 = nI (p + 2) := nI_add p 2
    have e3 : nI p + 3 = nI (p + 3) := nI_add p 3
    refine wp_LBText_readPlan_0 _ _ _ ⟨⟨_, hT.at⟩, ?_⟩
    rw [nI_1, e2, e3]
    refine c_codeAt hT (by omega) ⟨_, rfl, c_isDigit ⟨_, rfl, fun g1 => ⟨⟨_, hT.at⟩, c_codeAt hT (by omega) ⟨_, rfl, fun g2 => ?_, fun g2 => ⟨⟨_, hT.at⟩, ?_⟩⟩⟩, fun g1 => ⟨⟨_, hT.at⟩, ?_⟩⟩⟩
    · have g1 : ¬ lz_dg (lz_cd t (p + 1)) = false := by rw [lz_b1.mp g1]; decide
      have hp2 : p + 2 < t.length := lz_cd_in (by rw [g2]; decide)
      have e : lz_rd t (k + 1) p = lz_ls (lz_rd t k) t 4 (p + 3) := by rw [lz_rd, if_neg hnl, if_neg h3, if_pos h4, if_neg g1, if_neg (not_not_intro g2)]
      refine lb_rp_loop hk ih (d := d0 + 2) (by omega) (by omega) 4 (p + 3) hs es D bp _ (Nat.le_refl _) (by omega) hT (fun hs2 es2 D2 bp2 hT2 hk2 hr2 hD2 => ⟨_, rfl, ?_⟩)
      rw [e, eh] at kk
      refine kk hs2 es2 D2 bp2 hT2 hk2 ⟨fun h => ?_, hr2.2⟩ (fun h => by rw [hD2 h]; omega)
      obtain ⟨p1, p2⟩ := hr2.1 h
      refine ⟨fun i hi => p1 i (by omega), fun i i1 i2 i3 x hx => ?_⟩
      rcases Nat.lt_or_ge i (p + 3) with q | q
      · rcases (show i = p + 1 ∨ i = p + 2 by omega) with rfl | rfl
        · rcases i3 with i3 | i3
          · omega
          · exact absurd h4 i3
        · exact absurd hx (lz_rd_par (Or.inl g2))
      · exact p2 i q i2 i3 x hx
    · have g1 : ¬ lz_dg (lz_cd t (p + 1)) = false := by rw [lz_b1.mp g1]; decide
      have e : lz_rd t (k + 1) p = (false, p + 2) := by rw [lz_rd, if_neg hnl, if_neg h3, if_pos h4, if_neg g1, if_pos g2]
      refine c_badAt hT (fun hs2 hT2 hk2 => ⟨_, rfl, ⟨_, rfl, ?_⟩⟩)
      rw [e] at kk
      exact kk hs2 es D _ hT2 hk2 ⟨fun h => (by cases h), fun _ => rfl⟩ (fun h => by cases h)
    · have g1 := lz_b0.mp (Decidable.not_not.mp g1)
      have e : lz_rd t (k + 1) p = (false, p + 1) := by rw [lz_rd, if_neg hnl, if_neg h3, if_pos h4, if_pos g1]
      refine c_badAt hT (fun hs2 hT2 hk2 => ⟨_, rfl, ⟨_, rfl, ?_⟩⟩)
      rw [e] at kk
      exact kk hs2 es D _ hT2 hk2 ⟨fun h => (by cases h), fun _ => rfl⟩ (fun h => by cases h)
theorem lz_max (a b : Nat) (ha : a < 2 ^ 31) (hb : b < 2 ^ 31) : (if nI a < nI b then nI b else nI a) = nI (max a b) := by
  by_cases h : a < b
  · rw [if_pos (nI_lt h hb), Nat.max_eq_right (by omega)]
  · rw [if_neg (nI_nlt (by omega) ha), Nat.max_eq_left (by omega)]
/-- an EXPRESSION is read -/
theorem lb_re : ∀ (k : Nat), k ≤ 8 → lb_RE l G a t k := by
  intro k
  induction k with
  | zero =>
    intro hk d hs es D bp p Q hd hp hT kk
    obtain ⟨d0, rfl⟩ : ∃ d0, d = d0 + 2 := ⟨d - 2, by omega⟩
    have hbad : mx_Ok mx_S0 l G (d0 + 2) mm_LBText_readExpression 14 [(0, .ref a), (1, .int (nI p))] [] hs Q := by
      refine wp_LBText_readExpression_14 _ _ ⟨⟨_, hT.at⟩, c_badAt hT (fun hs2 hT2 hk2 => ⟨_, rfl, ?_⟩)⟩
      exact kk hs2 es D _ hT2 hk2 ⟨fun h => (by cases h), fun _ => rfl⟩ (fun h => by cases h)
    exact wp_LBText_readExpression_0 _ _ _ ⟨_, ⟨_, hT.at, rfl⟩, fun _ => hbad, fun _ => ⟨fun c => absurd c (by decide), fun _ => hbad⟩⟩
  | succ k ih =>
    intro hk d hs es D bp p Q hd hp hT kk
    obtain ⟨d0, rfl⟩ : ∃ d0, d = d0 + 2 := ⟨d - 2, by omega⟩
    have hlen := hT.len
    rw [show 9 - (k + 1) = 8 - k by omega]
    refine wp_LBText_readExpression_0 _ _ _ ⟨_, ⟨_, hT.at, rfl⟩, fun c => ?_, fun c => ⟨fun _ => ⟨⟨_, hT.at⟩, ?_⟩, fun c2 => absurd (nI_le (a := 8 - k) (b := 8) (by omega) (by omega)) c2⟩⟩
    · rw [nI_leI (by omega) (by omega)] at c
      have e : lz_rd t (k + 1) p = (false, p) := by rw [lz_rd, if_pos c]
      rw [e] at kk
      refine wp_LBText_readExpression_14 _ _ ⟨⟨_, hT.at⟩, c_badAt hT (fun hs2 hT2 hk2 => ⟨_, rfl, ?_⟩)⟩
      exact kk hs2 es D _ hT2 hk2 ⟨fun h => (by cases h), fun _ => rfl⟩ (fun h => by cases h)
    · rw [nI_leI (by omega) (by omega)] at c
      refine lb_rk (by omega) (ih (by omega)) (d := d0 + 1) (by omega) (by omega) hT (fun hs2 es2 D2 bp2 hT2 hk2 hr2 hD2 => ⟨_, rfl, ?_⟩)
      obtain ⟨cs, h0, h1, h2, h3, h4, h5, h6, h7⟩ := hT2
      refine ⟨_, ⟨_, h0, rfl⟩, _, h2, nI_pos (by omega), by rw [nI_clamp (by omega), List.length_map]; omega, fun hs3 e3 => ?_⟩
      subst e3
      have g0 := (mx_st_ne hs2 (q := a) (a := a + 2) (100, (es2.map Value.int).set (Int32.toNatClampNeg (nI p)) (.int (lz_re (lz_rd t (k + 1) p)))) (by omega)).trans h0
      refine ⟨_, ⟨_, g0, rfl⟩, _, g0, fun hs4 e4 => ?_⟩
      subst e4
      refine kk _ (es2.set p (lz_re (lz_rd t (k + 1) p))) (max D2 (8 - k)) bp2 ⟨cs, ?_, ?_, ?_, h3, by rw [List.length_set]; exact h4, h5, h6, by omega⟩ (hk2.tr (mx_kp.tr (mx_kp.st (b := a + 2) (by omega) (by omega)) (mx_kp.st (b := a) (by omega) (by omega)))) ⟨fun h => ?_, hr2.2⟩ (fun h => ?_)
      · rw [mx_st_eq, ← lz_max D2 (8 - k) (by omega) (by omega)]
        rfl
      · rw [mx_st_ne _ _ (by omega), mx_st_ne _ _ (by omega)]
        exact h1
      · rw [mx_st_ne _ _ (by omega), mx_st_eq, nI_clamp (by omega), List.map_set]
      · obtain ⟨p1, p2⟩ := hr2.1 h
        have hb := lz_rd_b (t := t) (k + 1) p (lz_rd t (k + 1) p).2 (Prod.ext h rfl)
        have e1 : lz_re (lz_rd t (k + 1) p) = nI (lz_rd t (k + 1) p).2 := by unfold lz_re; rw [if_pos h]
        refine ⟨fun i hi => ?_, fun i i1 i2 i3 x hx => ?_⟩
        · rw [List.getElem?_set_ne (by omega)]
          exact p1 i (by omega)
        · by_cases hip : i = p
          · subst hip
            rw [List.getElem?_set_self (by omega), e1]
            have := (lz_rd_m (j := 8) hk (show lz_rd t (k + 1) i = (true, (lz_rd t (k + 1) i).2) from Prod.ext h rfl)).symm.trans hx
            rw [Prod.mk.injEq] at this
            rw [this.2]
          · rw [List.getElem?_set_ne (by omega)]
            exact p2 i (by omega) i2 i3 x hx
      · rw [hD2 h]
        omega
/-- the whole line is read -/
theorem c_read {hs : mx_H} {es : List Int32} {D : Nat} {bp : Int32} {Q : Option Value → mx_H → Prop} (hd : 27 ≤ d) (hT : lb_tx hs a t es D bp)
    (k1 : ∀ hs2 es2 bp2, (lz_line t).1 = true → lb_tx hs2 a t es2 (lz_line t).2 bp2 → mx_kp hs hs2 a 3 → lz_rd t 8 0 = (true, t.length) → lz_EO t es2 0 t.length → Q (some (.int 1)) hs2)
    (k0 : ∀ hs2 es2 D2, (lz_line t).1 = false → lb_tx hs2 a t es2 D2 (nI (lz_line t).2) → mx_kp hs hs2 a 3 → Q (some (.int 0)) hs2) : mx_C mx_S0 l G d mm_LBText_read [.ref a] hs Q := by
  obtain ⟨d0, rfl⟩ : ∃ d0, d = d0 + 1 := ⟨d - 1, by omega⟩
  have hlen := hT.len.1
  obtain ⟨cs, h0, h1, h2, h3, h4, h5, h6, h7⟩ := hT
  refine wp_LBText_read_0 _ ⟨_, h0, fun hs1 e1 => ?_⟩
  have hT1 : lb_tx hs1 a t es 0 bp := by
    subst e1
    exact ⟨cs, mx_st_eq _ _ _, (mx_st_ne _ _ (by omega)).trans h1, (mx_st_ne _ _ (by omega)).trans h2, h3, h4, h5, h6, by omega⟩
  have hk1 : mx_kp hs hs1 a 3 := by
    subst e1
    exact mx_kp.st (by omega) (by omega)
  clear e1
  refine ⟨⟨_, hT1.at⟩, ?_⟩
  refine lb_re (a := a) (t := t) 8 (Nat.le_refl 8) d0 hs1 es 0 bp 0 _ (by omega) (by omega) hT1 (fun hs2 es2 D2 bp2 hT2 hk2 hr2 hD2 => ⟨_, rfl, fun c => ⟨_, ⟨_, hT2.at, rfl⟩, fun c2 => ?_, fun c2 => ?_⟩, fun c => ?_⟩)
  · have hc : (lz_rd t 8 0).1 = true := by
      by_cases hc : (lz_rd t 8 0).1 = true
      · exact hc
      · exact absurd (by unfold lz_re; rw [if_neg hc]) c
    have hb := lz_rd_b (t := t) 8 0 (lz_rd t 8 0).2 (Prod.ext hc rfl)
    have e1 : lz_re (lz_rd t 8 0) = nI (lz_rd t 8 0).2 := by unfold lz_re; rw [if_pos hc]
    rw [e1, nI_leI (by omega) (by omega)] at c2
    have e2 : lz_line t = (true, lz_ht t 8 0) := by unfold lz_line; rw [if_pos hc, if_neg (by omega)]
    have e3 := hD2 hc
    have e4 : D2 = (lz_line t).2 := by rw [e2, e3]; simp
    have e5 : (lz_rd t 8 0).2 = t.length := by omega
    subst e4
    exact k1 hs2 es2 bp2 (by rw [e2]) hT2 (hk1.tr hk2) (Prod.ext hc e5) (e5 ▸ (hr2.1 hc).2)
  · have hc : (lz_rd t 8 0).1 = true := by
      by_cases hc : (lz_rd t 8 0).1 = true
      · exact hc
      · exact absurd (by unfold lz_re; rw [if_neg hc]) c
    have hb := lz_rd_b (t := t) 8 0 (lz_rd t 8 0).2 (Prod.ext hc rfl)
    have e1 : lz_re (lz_rd t 8 0) = nI (lz_rd t 8 0).2 := by unfold lz_re; rw [if_pos hc]
    rw [e1, nI_leI (by omega) (by omega)] at c2
    have e2 : lz_line t = (false, (lz_rd t 8 0).2) := by unfold lz_line; rw [if_pos hc, if_pos (by omega)]
    obtain ⟨cs2, g0, g1, g2, g3⟩ := hT2
    refine ⟨_, g0, fun hs3 e3 => ?_⟩
    refine k0 hs3 es2 D2 (by rw [e2]) ?_ ?_
    · subst e3
      rw [e2, e1]
      exact ⟨cs2, mx_st_eq _ _ _, (mx_st_ne _ _ (by omega)).trans g1, (mx_st_ne _ _ (by omega)).trans g2, g3⟩
    · subst e3
      exact (hk1.tr hk2).tr (mx_kp.st (by omega) (by omega))
  · have c := Decidable.not_not.mp c
    have hc : ¬ (lz_rd t 8 0).1 = true := by
      intro hc
      have hb := lz_rd_b (t := t) 8 0 (lz_rd t 8 0).2 (Prod.ext hc rfl)
      have e1 : lz_re (lz_rd t 8 0) = nI (lz_rd t 8 0).2 := by unfold lz_re; rw [if_pos hc]
      exact lz_nm1 (by omega) (e1.symm.trans c)
    have e2 : lz_line t = (false, (lz_rd t 8 0).2) := by unfold lz_line; rw [if_neg hc]
    have e3 := hr2.2 (by simpa using hc)
    refine k0 hs2 es2 D2 (by rw [e2]) ?_ (hk1.tr hk2)
    rw [e2, ← e3]
    exact hT2
end CRD
end
section
/-! THE CLASS, its Store. s: the Store's cell; A i: the cell of PLAN i's INPUTS, the PLAN's own cell is the next one. -/
/-- the cells of the kinds P stand as they were -/
def mx_fr (P : Nat → Bool) (hs hs' : mx_H) : Prop := (∀ q x, hs.1 q = some x → P x.1 = true → hs'.1 q = some x) ∧ hs.2.1 ≤ hs'.2.1
def mx_wf (hs : mx_H) : Prop := ∀ q x, hs.1 q = some x → q < hs.2.1
theorem mx_fr.rf {P : Nat → Bool} {hs : mx_H} : mx_fr P hs hs := ⟨fun _ _ h _ => h, Nat.le_refl _⟩
theorem mx_fr.tr {P : Nat → Bool} {h1 h2 h3 : mx_H} (p : mx_fr P h1 h2) (q : mx_fr P h2 h3) : mx_fr P h1 h3 := ⟨fun a x hx hp => q.1 a x (p.1 a x hx hp) hp, Nat.le_trans p.2 q.2⟩
theorem mx_fr.st {P : Nat → Bool} {hs : mx_H} {a : Nat} {x y : mx_E} (h : hs.1 a = some y) (hy : P y.1 = false) : mx_fr P hs (mx_st hs a x) := by
  refine ⟨fun q z hz hp => ?_, Nat.le_refl _⟩
  by_cases hq : q = a
  · subst hq
    rw [h] at hz
    cases hz
    rw [hy] at hp
    cases hp
  · rw [mx_st_ne _ _ hq]
    exact hz
theorem mx_fr.nw {P : Nat → Bool} {hs : mx_H} {x : mx_E} {n : Nat} (h : mx_wf hs) : mx_fr P hs (mx_nw hs x n) := by
  refine ⟨fun q z hz hp => ?_, Nat.le_succ _⟩
  rw [mx_nw_ne _ _ _ (Nat.ne_of_lt (h q z hz))]
  exact hz
theorem mx_wf.st {hs : mx_H} {a : Nat} {x y : mx_E} (h : mx_wf hs) (ha : hs.1 a = some y) : mx_wf (mx_st hs a x) := by
  intro q z hz
  by_cases hq : q = a
  · subst hq
    exact h _ _ ha
  · rw [mx_st_ne _ _ hq] at hz
    exact h q z hz
theorem mx_wf.nw {hs : mx_H} {x : mx_E} {n : Nat} (h : mx_wf hs) : mx_wf (mx_nw hs x n) := by
  intro q z hz
  show q < hs.2.1 + 1
  by_cases hq : q = hs.2.1
  · omega
  · rw [mx_nw_ne _ _ _ hq] at hz
    have := h q z hz
    omega
/-- the cell of a PLAN -/
def lb_pc (a : Nat) (p : lz_P) (w : Int32) : mx_E := (3, [.int p.1, .ref a, .int (lz_b p.2.2.1), .int (lz_b p.2.2.2.2), .int w, .int p.2.2.2.1])
def lb_st (hs : mx_H) (s : Nat) (A : Nat → Nat) (wq : Nat → Int32) (S : lz_S) : Prop :=
  hs.1 s = some (4, [.ref (s + 1), .ref (s + 2), .int (nI S.2.1), .int (nI S.2.2.2)]) ∧
  (∃ ps : List Value, hs.1 (s + 1) = some (113, ps) ∧ ps.length = 30 ∧ ∀ i, i < S.2.1 → ps[i]? = some (.ref (A i + 1))) ∧
  (∃ ks : List Int32, hs.1 (s + 2) = some (100, ks.map Value.int) ∧ ks.length = 10 ∧ ∀ i, i < 10 → ks[i]? = some (S.2.2.1 i)) ∧
  (∀ i, i < S.2.1 → hs.1 (A i + 1) = some (lb_pc (A i) (S.1 i) (wq i)) ∧ hs.1 (A i) = some (102, (S.1 i).2.1.map Value.long)) ∧
  (∀ i, i < S.2.1 → s + 3 ≤ A i) ∧ (∀ i j, i < j → j < S.2.1 → A i + 2 ≤ A j) ∧ lz_okS S ∧ mx_wf hs
section CSTO
variable {l : Launch} {G : mx_G} {d s : Nat} {hs : mx_H} {Q : Option Value → mx_H → Prop} {A : Nat → Nat} {wq : Nat → Int32} {S : lz_S}
theorem lb_st.at (h : lb_st hs s A wq S) : hs.1 s = some (4, [.ref (s + 1), .ref (s + 2), .int (nI S.2.1), .int (nI S.2.2.2)]) := h.1
theorem lb_st.ok (h : lb_st hs s A wq S) : lz_okS S := h.2.2.2.2.2.2.1
theorem lb_st.wf (h : lb_st hs s A wq S) : mx_wf hs := h.2.2.2.2.2.2.2
theorem lb_st.plan (h : lb_st hs s A wq S) {i : Nat} (hi : i < S.2.1) : hs.1 (A i + 1) = some (lb_pc (A i) (S.1 i) (wq i)) ∧ hs.1 (A i) = some (102, (S.1 i).2.1.map Value.long) := h.2.2.2.1 i hi
/-- a PLAN's cell is changed, its INPUTS stay -/
theorem lb_st.upd (h : lb_st hs s A wq S) {i : Nat} (hi : i < S.2.1) {p : lz_P} {w : Int32} (hp : p.2.1 = (S.1 i).2.1) (hk : lz_okP i p) : lb_st (mx_st hs (A i + 1) (lb_pc (A i) p w)) s A (fun j => if j = i then w else wq j) (lz_setP S i p) := by
  obtain ⟨h1, ⟨ps, h2, h3⟩, ⟨ks, h4, h5⟩, h6, h7, h8, h9, h10⟩ := h
  have hA := h7 i hi
  refine ⟨?_, ⟨ps, ?_, h3⟩, ⟨ks, ?_, h5⟩, fun j hj => ?_, h7, h8, ⟨h9.1, fun j hj => ?_, h9.2.2⟩, h10.st (h6 i hi).1⟩
  · rw [mx_st_ne _ _ (by omega)]
    exact h1
  · rw [mx_st_ne _ _ (by omega)]
    exact h2
  · rw [mx_st_ne _ _ (by omega)]
    exact h4
  · by_cases hij : j = i
    · subst hij
      simp only [lz_setP, if_true]
      refine ⟨mx_st_eq _ _ _, ?_⟩
      rw [mx_st_ne _ _ (by omega), hp]
      exact (h6 j hj).2
    · simp only [lz_setP, if_neg hij]
      have hne : A j + 2 ≤ A i ∨ A i + 2 ≤ A j := by
        rcases Nat.lt_or_ge j i with q | q
        · exact Or.inl (h8 j i q hi)
        · exact Or.inr (h8 i j (by omega) hj)
      rw [mx_st_ne _ _ (by omega), mx_st_ne _ _ (by omega)]
      exact h6 j hj
  · by_cases hij : j = i
    · subst hij
      simp only [lz_setP, if_true]
      exact hk
    · simp only [lz_setP, if_neg hij]
      exact h9.2.1 j hj
/-- the count of BUILDS is changed -/
theorem lb_st.cnt (h : lb_st hs s A wq S) (n : Nat) : lb_st (mx_st hs s (4, [.ref (s + 1), .ref (s + 2), .int (nI S.2.1), .int (nI n)])) s A wq (S.1, S.2.1, S.2.2.1, n) := by
  obtain ⟨h1, ⟨ps, h2, h3⟩, ⟨ks, h4, h5⟩, h6, h7, h8, h9, h10⟩ := h
  refine ⟨mx_st_eq _ _ _, ⟨ps, ?_, h3⟩, ⟨ks, ?_, h5⟩, fun j hj => ?_, h7, h8, h9, h10.st h1⟩
  · rw [mx_st_ne _ _ (by omega)]
    exact h2
  · rw [mx_st_ne _ _ (by omega)]
    exact h4
  · have := h7 j hj
    rw [mx_st_ne _ _ (by omega), mx_st_ne _ _ (by omega)]
    exact h6 j hj
theorem lz_longs {vs : List Int64} {i : Nat} {v : Int64} (h : vs[i]? = some v) : (vs.map Value.long)[i]? = some (.long v) := by
  rw [List.getElem?_map, h]
  rfl
theorem c_planAt (h : lb_st hs s A wq S) {m : Int32} (k0 : (m < 1 ∨ nI S.2.1 < m) → Q (some .null) hs) (k1 : ∀ j, j < S.2.1 → m = nI (j + 1) → Q (some (.ref (A j + 1))) hs) : mx_C mx_S0 l G (d + 1) mm_LBStore_planAt [.ref s, .int m] hs Q := by
  have hn := h.ok.1
  obtain ⟨h1, ⟨ps, h2, h3, h4⟩, -⟩ := h
  refine wp_LBStore_planAt_0 _ _ ⟨fun c => k0 (Or.inl c), fun c => ⟨_, ⟨_, h1, rfl⟩, fun c2 => k0 (Or.inr c2), fun c2 => ?_⟩⟩
  obtain ⟨j, hj, rfl⟩ : ∃ j : Nat, j < S.2.1 ∧ m = nI (j + 1) := by
    have c0 : ¬ m < 0 := fun q => c (by
      have : m.toInt < (0 : Int32).toInt := Int32.lt_iff_toInt_lt.mp q
      exact Int32.lt_iff_toInt_lt.mpr (by simp at this ⊢; omega))
    obtain ⟨j, hj, rfl⟩ := nI_of c0
    have hj0 : ¬ j < 1 := fun q => c (nI_lt (b := 1) q (by omega))
    have hj1 : ¬ S.2.1 < j := fun q => c2 (nI_lt q hj)
    exact ⟨j - 1, by omega, by rw [show j - 1 + 1 = j by omega]⟩
  refine ⟨_, ⟨_, h1, rfl⟩, _, _, h2, ?_, ?_, k1 j hj rfl⟩
  · rw [nI_pred]
    exact nI_pos (by omega)
  · rw [nI_pred, nI_clamp (by omega)]
    exact h4 j hj
theorem c_planIn (h : lb_st hs s A wq S) {v : Int64} (hV : lz_V S.2.1 v) (k0 : ∀ x : Int32, v = x.toInt64 → Q (some .null) hs) (k1 : ∀ j, j < S.2.1 → v = lz_pv j → Q (some (.ref (A j + 1))) hs) : mx_C mx_S0 l G (d + 2) mm_LBStore_planIn [.ref s, .long v] hs Q := by
  have hn := h.ok.1
  rcases hV with ⟨x, rfl⟩ | ⟨j, hj, rfl⟩
  · refine wp_LBStore_planIn_0 _ _ (c_isPlan ⟨_, rfl, fun _ => k0 x rfl, fun c => absurd (by rw [lz_n_pl]; rfl) c⟩)
  · refine wp_LBStore_planIn_0 _ _ (c_isPlan ⟨_, rfl, fun c => ?_, fun _ => c_numberOf ⟨_, rfl, ⟨_, h.at⟩, ?_⟩⟩)
    · rw [lz_pv_pl (by omega)] at c
      exact absurd c (by decide)
    · rw [lz_pv_i]
      refine c_planAt h (fun c => ?_) (fun i hi e => ⟨_, rfl, Or.inr ⟨_, rfl⟩, ?_⟩)
      · exfalso
        rcases c with c | c
        · exact nI_nlt (a := j + 1) (b := 1) (by omega) (by omega) c
        · exact nI_nlt (a := S.2.1) (b := j + 1) (by omega) (by omega) c
      · have : i = j := by
          have := (nI_eq (by omega) (by omega)).mp e
          omega
        subst this
        exact k1 i hi rfl
theorem c_readyPart (h : lb_st hs s A wq S) {v : Int64} (hV : lz_V S.2.1 v) (k : Q (some (.int (lz_rp S v))) hs) : mx_C mx_S0 l G (d + 3) mm_LBStore_readyPart [.ref s, .long v] hs Q := by
  have hn := h.ok.1
  refine wp_LBStore_readyPart_0 _ _ ⟨⟨_, h.at⟩, c_planIn h hV (fun x e => ⟨_, rfl, Or.inl rfl, fun _ => ?_, fun a e => by cases e⟩) (fun j hj e => ⟨_, rfl, Or.inr ⟨_, rfl⟩, fun e => (by cases e), fun a ea => ?_⟩)⟩
  · subst e
    unfold lz_rp at k
    rw [if_neg (by rw [lz_n_pl]; decide)] at k
    exact k
  · cases ea
    subst e
    unfold lz_rp at k
    rw [if_pos (lz_pv_pl (by omega)), lz_pv_ix (by omega)] at k
    exact ⟨_, ⟨_, (h.plan hj).1, rfl⟩, k⟩
theorem lz_drop {vs : List Int64} {i : Nat} {v : Int64} (h : vs[i]? = some v) : vs.drop i = v :: vs.drop (i + 1) := by
  obtain ⟨h1, h2⟩ := List.getElem?_eq_some_iff.mp h
  rw [List.drop_eq_getElem_cons h1, h2]
theorem c_sumOf (h : lb_st hs s A wq S) {j : Nat} (hj : j < S.2.1) (k : Q (some (.int (lz_sum S (S.1 j).2.1))) hs) : mx_C mx_S0 l G (d + 4) mm_LBStore_sumOf [.ref s, .ref (A j + 1)] hs Q := by
  have hn := h.ok.1
  obtain ⟨q1, q2, -⟩ := h.ok.2.1 j hj
  obtain ⟨p1, p2⟩ := h.plan hj
  have L : ∀ (n i : Nat) (x : Int32), i + n = (S.1 j).2.1.length → ((S.1 j).2.1.drop i).foldl (fun a v => a + lz_rp S v) x = lz_sum S (S.1 j).2.1 → mx_Ok mx_S0 l G (d + 4) mm_LBStore_sumOf 4 [(0, .ref s), (1, .ref (A j + 1)), (2, .int x), (3, .int (nI i))] [] hs Q := by
    intro n
    induction n with
    | zero =>
      intro i x hi hx
      refine wp_LBStore_sumOf_4 _ _ _ _ ⟨_, ⟨_, p1, rfl⟩, _, p2, fun _ => ?_, fun c => absurd ?_ c⟩
      · rw [List.drop_eq_nil_of_le (by omega)] at hx
        rw [show x = lz_sum S (S.1 j).2.1 from hx]
        exact k
      · rw [List.length_map]
        exact nI_le (by omega) (by omega)
    | succ n ih =>
      intro i x hi hx
      have hlt : i < (S.1 j).2.1.length := by omega
      have hv : (S.1 j).2.1[i]? = some ((S.1 j).2.1[i]) := List.getElem?_eq_getElem hlt
      refine wp_LBStore_sumOf_4 _ _ _ _ ⟨_, ⟨_, p1, rfl⟩, _, p2, fun c => absurd c ?_, fun _ => ⟨_, ⟨_, p1, rfl⟩, _, _, p2, nI_pos (by omega), by rw [nI_clamp (by omega)]; exact lz_longs hv, ⟨_, h.at⟩, c_readyPart h ((q2 _ (List.getElem_mem hlt)).mono (by omega)) ⟨_, rfl, ?_⟩⟩⟩
      · rw [List.length_map]
        exact nI_ge (by omega) (by omega)
      · rw [nI_1]
        rw [lz_drop hv] at hx
        exact ih (i + 1) _ (by omega) hx
  exact wp_LBStore_sumOf_0 _ _ (L _ 0 0 (Nat.zero_add _) rfl)
theorem c_productOf (h : lb_st hs s A wq S) {j : Nat} (hj : j < S.2.1) (k : Q (some (.int (lz_prod S (S.1 j).2.1))) hs) : mx_C mx_S0 l G (d + 4) mm_LBStore_productOf [.ref s, .ref (A j + 1)] hs Q := by
  have hn := h.ok.1
  obtain ⟨q1, q2, -⟩ := h.ok.2.1 j hj
  obtain ⟨p1, p2⟩ := h.plan hj
  have L : ∀ (n i : Nat) (x : Int32), i + n = (S.1 j).2.1.length → ((S.1 j).2.1.drop i).foldl (fun a v => a * lz_rp S v) x = lz_prod S (S.1 j).2.1 → mx_Ok mx_S0 l G (d + 4) mm_LBStore_productOf 4 [(0, .ref s), (1, .ref (A j + 1)), (2, .int x), (3, .int (nI i))] [] hs Q := by
    intro n
    induction n with
    | zero =>
      intro i x hi hx
      refine wp_LBStore_productOf_4 _ _ _ _ ⟨_, ⟨_, p1, rfl⟩, _, p2, fun _ => ?_, fun c => absurd ?_ c⟩
      · rw [List.drop_eq_nil_of_le (by omega)] at hx
        rw [show x = lz_prod S (S.1 j).2.1 from hx]
        exact k
      · rw [List.length_map]
        exact nI_le (by omega) (by omega)
    | succ n ih =>
      intro i x hi hx
      have hlt : i < (S.1 j).2.1.length := by omega
      have hv : (S.1 j).2.1[i]? = some ((S.1 j).2.1[i]) := List.getElem?_eq_getElem hlt
      refine wp_LBStore_productOf_4 _ _ _ _ ⟨_, ⟨_, p1, rfl⟩, _, p2, fun c => absurd c ?_, fun _ => ⟨_, ⟨_, p1, rfl⟩, _, _, p2, nI_pos (by omega), by rw [nI_clamp (by omega)]; exact lz_longs hv, ⟨_, h.at⟩, c_readyPart h ((q2 _ (List.getElem_mem hlt)).mono (by omega)) ⟨_, rfl, ?_⟩⟩⟩
      · rw [List.length_map]
        exact nI_ge (by omega) (by omega)
      · rw [nI_1]
        rw [lz_drop hv] at hx
        exact ih (i + 1) _ (by omega) hx
  exact wp_LBStore_productOf_0 _ _ (L _ 0 1 (Nat.zero_add _) rfl)
theorem c_greatestOf (h : lb_st hs s A wq S) {j : Nat} (hj : j < S.2.1) (k : Q (some (.int (lz_great S (S.1 j).2.1))) hs) : mx_C mx_S0 l G (d + 4) mm_LBStore_greatestOf [.ref s, .ref (A j + 1)] hs Q := by
  have hn := h.ok.1
  obtain ⟨q1, q2, -⟩ := h.ok.2.1 j hj
  obtain ⟨p1, p2⟩ := h.plan hj
  have L : ∀ (n i : Nat) (x : Int32), i + n = (S.1 j).2.1.length → ((S.1 j).2.1.drop i).foldl (fun a v => lz_mx a (lz_rp S v)) x = lz_great S (S.1 j).2.1 → mx_Ok mx_S0 l G (d + 4) mm_LBStore_greatestOf 23 [(0, .ref s), (1, .ref (A j + 1)), (2, .int x), (3, .int (nI i))] [] hs Q := by
    intro n
    induction n with
    | zero =>
      intro i x hi hx
      refine wp_LBStore_greatestOf_23 _ _ _ _ ⟨_, ⟨_, p1, rfl⟩, _, p2, fun _ => ?_, fun c => absurd ?_ c⟩
      · rw [List.drop_eq_nil_of_le (by omega)] at hx
        rw [show x = lz_great S (S.1 j).2.1 from hx]
        exact k
      · rw [List.length_map]
        exact nI_le (by omega) (by omega)
    | succ n ih =>
      intro i x hi hx
      have hlt : i < (S.1 j).2.1.length := by omega
      have hv : (S.1 j).2.1[i]? = some ((S.1 j).2.1[i]) := List.getElem?_eq_getElem hlt
      refine wp_LBStore_greatestOf_23 _ _ _ _ ⟨_, ⟨_, p1, rfl⟩, _, p2, fun c => absurd c ?_, fun _ => ⟨_, ⟨_, p1, rfl⟩, _, _, p2, nI_pos (by omega), by rw [nI_clamp (by omega)]; exact lz_longs hv, ⟨_, h.at⟩, c_readyPart h ((q2 _ (List.getElem_mem hlt)).mono (by omega)) ⟨_, rfl, ?_⟩⟩⟩
      · rw [List.length_map]
        exact nI_ge (by omega) (by omega)
      · rw [nI_1]
        rw [lz_drop hv] at hx
        exact ih (i + 1) _ (by omega) hx
  refine wp_LBStore_greatestOf_0 _ _ ⟨_, ⟨_, p1, rfl⟩, _, p2, fun c => ?_, fun c => ?_⟩
  · cases hvs : (S.1 j).2.1 with
    | nil =>
      rw [hvs] at c
      exact absurd rfl c
    | cons v vs =>
      have hv : (S.1 j).2.1[0]? = some v := by rw [hvs]; rfl
      refine ⟨_, ⟨_, p1, rfl⟩, _, _, p2, by decide, lz_longs hv, ⟨_, h.at⟩, c_readyPart h ((q2 v (by rw [hvs]; exact List.mem_cons_self)).mono (by omega)) ⟨_, rfl, ?_⟩⟩
      refine L (vs.length) 1 _ (by rw [hvs, List.length_cons]; omega) ?_
      rw [hvs]
      rfl
  · have c := Decidable.not_not.mp c
    rw [List.length_map] at c
    have hz : (S.1 j).2.1 = [] := by
      rcases Nat.eq_zero_or_pos (S.1 j).2.1.length with q | q
      · exact List.eq_nil_of_length_eq_zero q
      · exact absurd c (nI_ne0 q (by omega))
    rw [hz] at k
    exact k
theorem c_outcome (h : lb_st hs s A wq S) {j : Nat} (hj : j < S.2.1) {m : Int32} (k : Q (some (.int (lz_out S m (S.1 j).2.1))) hs) : mx_C mx_S0 l G (d + 5) mm_LBStore_outcome [.ref s, .ref (A j + 1), .int m] hs Q := by
  obtain ⟨p1, p2⟩ := h.plan hj
  unfold lz_out at k
  refine wp_LBStore_outcome_0 _ _ _ ⟨fun c => ⟨⟨_, h.at⟩, c_productOf h hj ⟨_, rfl, ?_⟩⟩, fun c => ⟨⟨_, h.at⟩, c_greatestOf h hj ⟨_, rfl, ?_⟩⟩, fun c => ⟨_, ⟨_, p1, rfl⟩, _, p2, ?_⟩, fun c1 c2 c3 => ⟨⟨_, h.at⟩, c_sumOf h hj ⟨_, rfl, ?_⟩⟩⟩
  · rw [if_pos c] at k
    exact k
  · subst c
    exact k
  · subst c
    rw [List.length_map]
    exact k
  · rw [if_neg c1, if_neg c2, if_neg c3] at k
    exact k
/-- the kinds that building leaves -/
def lb_kb : Nat → Bool := fun k => !(k == 3) && !(k == 4)
theorem mx_st_st (hs : mx_H) (a : Nat) (x y : mx_E) : mx_st (mx_st hs a x) a y = mx_st hs a y := by
  refine Prod.ext (funext fun q => ?_) rfl
  simp only [mx_st]
  by_cases h : q = a
  · rw [if_pos h, if_pos h]
  · rw [if_neg h, if_neg h, if_neg h]
theorem lz_wq (wq : Nat → Int32) (j : Nat) : (fun i => if i = j then wq j else wq i) = wq := by
  funext i
  by_cases h : i = j
  · rw [if_pos h, h]
  · rw [if_neg h]
theorem lz_setP_eq (S : lz_S) (j : Nat) (p : lz_P) : (lz_setP S j p).1 j = p := by simp [lz_setP]
theorem c_finish (h : lb_st hs s A wq S) {j : Nat} (hj : j < S.2.1) (k : ∀ hs2, lb_st hs2 s A wq (lz_fin S j).2 → mx_fr lb_kb hs hs2 → hs2.2 = hs.2 → Q (some (.long (lz_fin S j).1)) hs2) : mx_C mx_S0 l G (d + 6) mm_LBStore_finish [.ref s, .ref (A j + 1)] hs Q := by
  have hn := h.ok.1
  obtain ⟨q1, q2, ⟨m, q3, q4⟩, q5⟩ := h.ok.2.1 j hj
  obtain ⟨p1, p2⟩ := h.plan hj
  obtain ⟨ks, g1, g2, g3⟩ := h.2.2.1
  have em : (S.1 j).1.toNatClampNeg = m := by rw [q4, nI_clamp (by omega)]
  unfold lz_fin at k
  rw [em] at k
  have hgo : ¬ (S.2.2.1 m = 4 ∨ (S.2.2.1 m = 3 ∧ ¬ lz_great S (S.1 j).2.1 < 100)) → mx_Ok mx_S0 l G (d + 6) mm_LBStore_finish 34 [(0, .ref s), (1, .ref (A j + 1)), (2, .int (S.2.2.1 m))] [] hs Q := by
    intro hc
    rw [if_neg hc] at k
    obtain ⟨P, eP⟩ : ∃ P : lz_P, P = ((S.1 j).1, (S.1 j).2.1, true, lz_out S (S.2.2.1 m) (S.1 j).2.1, (S.1 j).2.2.2.2) := ⟨_, rfl⟩
    rw [← eP] at k
    refine wp_LBStore_finish_34 _ _ _ ⟨⟨_, h.at⟩, c_outcome h hj ⟨_, rfl, _, p1, fun hs2 e2 => ?_⟩⟩
    subst e2
    refine ⟨_, mx_st_eq _ _ _, fun hs3 e3 => ?_⟩
    have f3 : hs3 = mx_st hs (A j + 1) (lb_pc (A j) P (wq j)) := by
      rw [e3, mx_st_st, eP]
      rfl
    have h3 : lb_st hs3 s A wq (lz_setP S j P) := by
      have := h.upd hj (p := P) (w := wq j) (by rw [eP]) (by rw [eP]; exact ⟨q1, q2, ⟨m, q3, q4⟩, fun h => by cases h⟩)
      rw [lz_wq] at this
      rw [f3]
      exact this
    refine ⟨_, ⟨_, h3.at, rfl⟩, _, h3.at, fun hs4 e4 => ?_⟩
    rw [nI_1] at e4
    have h4 : lb_st hs4 s A wq ((lz_setP S j P).1, S.2.1, S.2.2.1, S.2.2.2 + 1) := by
      rw [e4]
      exact h3.cnt (S.2.2.2 + 1)
    have p5 := (h4.plan hj).1
    rw [show ((lz_setP S j P).1, S.2.1, S.2.2.1, S.2.2.2 + 1).1 j = P from lz_setP_eq S j P] at p5
    refine ⟨_, ⟨_, p5, rfl⟩, ?_⟩
    have k := k hs4 h4 (mx_fr.tr (h2 := hs3) (by rw [f3]; exact mx_fr.st p1 rfl) (by rw [e4]; exact mx_fr.st h3.at rfl)) (by rw [e4, f3]; rfl)
    rw [eP]
    exact k
  refine wp_LBStore_finish_0 _ _ ⟨_, ⟨_, h.at, rfl⟩, _, ⟨_, p1, rfl⟩, _, _, g1, by rw [q4]; exact nI_pos (by omega), by rw [em]; exact lz_mapget (g3 m q3), fun c => ?_, fun c => ⟨fun c2 => hgo (by rintro (x | ⟨x, -⟩) <;> contradiction), fun c2 => ⟨⟨_, h.at⟩, c_greatestOf h hj ⟨_, rfl, fun c3 => hgo (by rintro (x | ⟨-, x⟩) <;> contradiction), fun c3 => ?_⟩⟩⟩⟩
  · rw [if_pos (Or.inl c)] at k
    exact k hs h mx_fr.rf rfl
  · rw [if_pos (Or.inr ⟨Decidable.not_not.mp c2, c3⟩)] at k
    exact k hs h mx_fr.rf rfl
/-- a VALUE as a PART: its contract -/
def lb_PT (l : Launch) (G : mx_G) (s : Nat) (A : Nat → Nat) (f : Nat) : Prop := ∀ (d : Nat) (hs : mx_H) (wq : Nat → Int32) (S : lz_S) (v : Int64) (B : Nat) (Q : Option Value → mx_H → Prop), f + 8 ≤ d → lb_st hs s A wq S → lz_V S.2.1 v → B < 2 ^ 31 → (∀ j, j < 30 → v = lz_pv j → j < f ∧ j + 1 < B) → (∀ hs2, lb_st hs2 s A wq (lz_pt f S v).2 → mx_fr lb_kb hs hs2 → hs2.2 = hs.2 → Q (some (.long (lz_pt f S v).1)) hs2) → mx_C mx_S0 l G d mm_LBStore_partOf [.ref s, .long v, .int (nI B)] hs Q
theorem lb_pt_num {x : Int32} {v : Int64} {f : Nat} {S : lz_S} (h : v = x.toInt64) : lz_pt f S v = (v, S) := by
  cases f with
  | zero => rfl
  | succ f =>
    rw [lz_pt, if_pos (by rw [h]; exact lz_n_pl x)]
theorem lb_pt (f : Nat) : lb_PT l G s A f := by
  induction f with
  | zero =>
    intro d hs wq S v B Q hd h hV hB hj k
    obtain ⟨d0, rfl⟩ : ∃ d0, d = d0 + 3 := ⟨d - 3, by omega⟩
    refine wp_LBStore_partOf_0 _ _ _ ⟨⟨_, h.at⟩, c_planIn h hV (fun x e => ⟨_, rfl, Or.inl rfl, fun _ => k hs h mx_fr.rf rfl, fun a e => by cases e⟩) (fun j hjn e => absurd (hj j (by have := h.ok.1; omega) e).1 (by omega))⟩
  | succ f ih =>
    intro d hs wq S v B Q hd h hV hB hj k
    obtain ⟨d0, rfl⟩ : ∃ d0, d = d0 + 7 := ⟨d - 7, by omega⟩
    have hn := h.ok.1
    refine wp_LBStore_partOf_0 _ _ _ ⟨⟨_, h.at⟩, c_planIn h hV (fun x e => ⟨_, rfl, Or.inl rfl, fun _ => ?_, fun a e => by cases e⟩) (fun j hjn e => ⟨_, rfl, Or.inr ⟨_, rfl⟩, fun e => (by cases e), fun a ea => ?_⟩)⟩
    · rw [lb_pt_num e] at k
      exact k hs h mx_fr.rf rfl
    · cases ea
      obtain ⟨j1, j2⟩ := hj j (by omega) e
      obtain ⟨p1, p2⟩ := h.plan hjn
      subst e
      rw [lz_pt, if_neg (by rw [lz_pv_pl (by omega)]; decide), lz_pv_ix (by omega)] at k
      refine ⟨_, ⟨_, p1, rfl⟩, fun c => c_numberOf ⟨_, rfl, fun _ => ?_, fun c2 => ?_⟩, fun c => ⟨_, ⟨_, p1, rfl⟩, ?_⟩⟩
      · rw [lz_pv_i]
        rw [if_neg (by rw [lz_b0.mp c]; decide)] at k
        have L : ∀ (n i : Nat) (hs1 : mx_H) (T : lz_S), i + n = (S.1 j).2.1.length → lb_st hs1 s A wq T → lz_sm S T → mx_fr lb_kb hs hs1 → hs1.2 = hs.2 → lz_bi (lz_pt f) ((S.1 j).2.1.drop i) T = lz_bi (lz_pt f) (S.1 j).2.1 S → mx_Ok mx_S0 l G (d0 + 7) mm_LBStore_partOf 48 [(0, .ref s), (4, .ref (A j + 1)), (5, .int (nI (j + 1))), (6, .int (nI i))] [] hs1 Q := by
          intro n
          induction n with
          | zero =>
            intro i hs1 T hi h1 hsm hfr hsz hbi
            have hjT : j < T.2.1 := by rw [hsm.1]; exact hjn
            obtain ⟨t1, t2⟩ := h1.plan hjT
            rw [List.drop_eq_nil_of_le (by omega)] at hbi
            rw [← hbi, if_neg (by show ¬ lz_bad 0 = true; decide)] at k
            refine wp_LBStore_partOf_48 _ _ _ _ ⟨_, ⟨_, t1, rfl⟩, _, t2, fun _ => ⟨⟨_, h1.at⟩, c_finish h1 hjT (fun hs2 g1 g2 g3 => ⟨_, rfl, k hs2 g1 (hfr.tr g2) (g3.trans hsz)⟩)⟩, fun c => absurd ?_ c⟩
            rw [List.length_map, (hsm.2.2 j).2.1]
            have := (h.ok.2.1 j hjn).1
            exact nI_le (by omega) (by omega)
          | succ n ihn =>
            intro i hs1 T hi h1 hsm hfr hsz hbi
            have hjT : j < T.2.1 := by rw [hsm.1]; exact hjn
            obtain ⟨t1, t2⟩ := h1.plan hjT
            have hlen := (h.ok.2.1 j hjn).1
            have hlt : i < (S.1 j).2.1.length := by omega
            have hv : (S.1 j).2.1[i]? = some ((S.1 j).2.1[i]) := List.getElem?_eq_getElem hlt
            have hvT : (T.1 j).2.1[i]? = some ((S.1 j).2.1[i]) := by rw [(hsm.2.2 j).2.1]; exact hv
            have hvV := (h.ok.2.1 j hjn).2.1 _ (List.getElem_mem hlt)
            obtain ⟨w, ew⟩ : ∃ w, w = (S.1 j).2.1[i] := ⟨_, rfl⟩
            rw [← ew] at hv hvT hvV
            rw [lz_drop hv] at hbi
            refine wp_LBStore_partOf_48 _ _ _ _ ⟨_, ⟨_, t1, rfl⟩, _, t2, fun c => absurd c ?_, fun _ => ⟨_, ⟨_, t1, rfl⟩, _, _, t2, nI_pos (by omega), by rw [nI_clamp (by omega)]; exact lz_longs hvT, ⟨_, h1.at⟩, ?_⟩⟩
            · rw [List.length_map, (hsm.2.2 j).2.1]
              exact nI_ge (by omega) (by omega)
            · refine ih (d0 + 6) hs1 wq T w (j + 1) _ (by omega) h1 (by rw [hsm.1]; exact hvV.mono (by omega)) (by omega) (fun i' hi' e' => ?_) (fun hs2 g1 g2 g3 => ⟨_, rfl, c_isFailure ⟨_, rfl, fun c => ?_, fun c => ?_⟩⟩)
              · have := lz_V_pv hvV (by omega) (by omega) e'
                omega
              · rw [nI_1]
                rw [lz_bi, if_neg (by rw [lz_b0.mp c]; decide)] at hbi
                exact ihn (i + 1) hs2 _ (by omega) g1 (hsm.tr (lz_pt_sm f T w)) (hfr.tr g2) (g3.trans hsz) hbi
              · rw [lz_bi, if_pos (lz_b1.mp c)] at hbi
                rw [← hbi, if_pos (lz_b1.mp c)] at k
                exact k hs2 g1 (hfr.tr g2) (g3.trans hsz)
        exact L _ 0 hs S (Nat.zero_add _) h lz_sm.rf mx_fr.rf rfl rfl
      · exfalso
        rw [lz_pv_i] at c2
        exact c2 (nI_lt (by omega) hB)
      · rw [if_pos (lz_b1.mp c)] at k
        exact k hs h mx_fr.rf rfl
theorem c_resultOf (h : lb_st hs s A wq S) {v : Int64} (hV : lz_V S.2.1 v) (hd : 40 ≤ d) (k : ∀ hs2, lb_st hs2 s A wq (lz_pt 30 S v).2 → mx_fr lb_kb hs hs2 → hs2.2 = hs.2 → Q (some (.long (lz_pt 30 S v).1)) hs2) : mx_C mx_S0 l G d mm_LBStore_resultOf [.ref s, .long v] hs Q := by
  obtain ⟨d0, rfl⟩ : ∃ d0, d = d0 + 1 := ⟨d - 1, by omega⟩
  have hn := h.ok.1
  refine wp_LBStore_resultOf_0 _ _ ⟨_, ⟨_, h.at, rfl⟩, ⟨_, h.at⟩, ?_⟩
  rw [nI_1]
  refine lb_pt (l := l) (G := G) (s := s) (A := A) 30 d0 hs wq S v (S.2.1 + 1) _ (by omega) h hV (by omega) (fun j hj e => ?_) (fun hs2 g1 g2 g3 => ⟨_, rfl, k hs2 g1 g2 g3⟩)
  have := lz_V_pv hV (by omega) (by omega) e
  omega
end CSTO
end
section
/-! THE CLASS: the PLAN of a D. -/
section CPL
variable {l : Launch} {G : mx_G} {d s : Nat} {hs : mx_H} {Q : Option Value → mx_H → Prop} {A : Nat → Nat} {wq : Nat → Int32} {S : lz_S}
theorem c_isAlike (h : lb_st hs s A wq S) {j r F n : Nat} (hj : j < S.2.1) {L : List Int64} (hr : hs.1 r = some (102, L.map Value.long)) (hF : F + n ≤ L.length) (hL : L.length < 2 ^ 30) {mk : Int32} (k : Q (some (.int (lz_b (lz_al S mk ((L.drop F).take n) j)))) hs) : mx_C mx_S0 l G (d + 1) mm_LBPlan_isAlike [.ref (A j + 1), .int mk, .ref r, .int (nI F), .int (nI n)] hs Q := by
  obtain ⟨p1, p2⟩ := h.plan hj
  have hlen := (h.ok.2.1 j hj).1
  have hvl : ((L.drop F).take n).length = n := by rw [List.length_take, List.length_drop]; omega
  unfold lz_al at k
  have W : (S.1 j).1 = mk → (S.1 j).2.1.length = n → ∀ (m i : Nat), i + m = n → (∀ q, q < i → (S.1 j).2.1[q]? = L[F + q]?) → mx_Ok mx_S0 l G (d + 1) mm_LBPlan_isAlike 23 [(0, .ref (A j + 1)), (2, .ref r), (3, .int (nI F)), (4, .int (nI n)), (5, .int (nI i))] [] hs Q := by
    intro hm hl m
    induction m with
    | zero =>
      intro i hi hq
      refine wp_LBPlan_isAlike_23 _ _ _ _ _ ⟨fun _ => ?_, fun c => absurd (nI_le (by omega) (by omega)) c⟩
      have e9 : (S.1 j).2.1 = (L.drop F).take n := by
        apply List.ext_getElem?
        intro q
        rcases Nat.lt_or_ge q n with z | z
        · rw [hq q (by omega), List.getElem?_take, if_pos z, List.getElem?_drop]
        · rw [List.getElem?_eq_none (by omega), List.getElem?_eq_none (by omega)]
      rw [decide_eq_true ⟨hm, e9⟩] at k
      exact k
    | succ m ih =>
      intro i hi hq
      have h1 : i < (S.1 j).2.1.length := by omega
      have h2 : F + i < L.length := by omega
      refine wp_LBPlan_isAlike_23 _ _ _ _ _ ⟨fun c => absurd c (nI_ge (by omega) (by omega)), fun _ => ⟨_, ⟨_, p1, rfl⟩, _, _, p2, nI_pos (by omega), by rw [nI_clamp (by omega)]; exact lz_longs (List.getElem?_eq_getElem h1), _, _, hr, by rw [nI_add]; exact nI_pos (by omega), by rw [nI_add, nI_clamp (by omega)]; exact lz_longs (List.getElem?_eq_getElem h2), fun c => ?_, fun c => ?_⟩⟩
      · rw [nI_1]
        refine ih (i + 1) (by omega) (fun q hq2 => ?_)
        rcases Nat.lt_or_ge q i with z | z
        · exact hq q z
        · have : q = i := by omega
          subst this
          rw [List.getElem?_eq_getElem h1, List.getElem?_eq_getElem h2, c]
      · rw [decide_eq_false (fun z => c ?_)] at k
        · exact k
        · have e1 : (S.1 j).2.1[i]? = ((L.drop F).take n)[i]? := by rw [z.2]
          rw [List.getElem?_take, if_pos (by omega), List.getElem?_drop, List.getElem?_eq_getElem h1, List.getElem?_eq_getElem h2] at e1
          exact Option.some.inj e1
  refine wp_LBPlan_isAlike_0 _ _ _ _ _ ⟨_, ⟨_, p1, rfl⟩, fun c => ?_, fun c => ⟨_, ⟨_, p1, rfl⟩, _, p2, fun c2 => ?_, fun c2 => ?_⟩⟩
  · rw [decide_eq_false (fun z => c z.1)] at k
    exact k
  · rw [List.length_map] at c2
    have c2 : nI (S.1 j).2.1.length = nI n := c2
    refine W (Decidable.not_not.mp c) ((nI_eq (by omega) (by omega)).mp c2) n 0 (Nat.zero_add n) (fun q hq => absurd hq (by omega))
  · rw [decide_eq_false (fun z => c2 ?_)] at k
    · exact k
    · rw [List.length_map, z.2, hvl]
      rfl
/-- the kinds that a PLAN's coming leaves -/
def lb_kn : Nat → Bool := fun k => !(k == 4) && !(k == 113)
theorem c_planOf (h : lb_st hs s A wq S) {r F n : Nat} {L : List Int64} (hr : hs.1 r = some (102, L.map Value.long)) (hF : F + n ≤ L.length) (hL : L.length < 2 ^ 30) (hn : n ≤ 4) {m : Nat} (hm : m < 10) (hV : ∀ v ∈ (L.drop F).take n, lz_V S.2.1 v)
    (k : ∀ hs2 A2 wq2, lb_st hs2 s A2 wq2 (lz_of S (nI m) ((L.drop F).take n)).2 → mx_fr lb_kn hs hs2 → hs2.2.1 = hs.2.1 + 2 * ((lz_of S (nI m) ((L.drop F).take n)).2.2.1 - S.2.1) → hs2.2.2 ≤ hs.2.2 + 10 * ((lz_of S (nI m) ((L.drop F).take n)).2.2.1 - S.2.1) → (∀ i, i < (lz_of S (nI m) ((L.drop F).take n)).2.2.1 → (i < S.2.1 ∧ A2 i = A i) ∨ hs.2.1 ≤ A2 i) → Q (some (.long (lz_of S (nI m) ((L.drop F).take n)).1)) hs2) : mx_C mx_S0 l G (d + 2) mm_LBStore_planOf [.ref s, .int (nI m), .ref r, .int (nI F), .int (nI n)] hs Q := by
  have hsz := h.ok.1
  obtain ⟨vs, evs⟩ : ∃ vs, vs = (L.drop F).take n := ⟨_, rfl⟩
  rw [← evs] at k hV
  have hvl : vs.length = n := by rw [evs, List.length_take, List.length_drop]; omega
  obtain ⟨ps, g2, g3, g4⟩ := h.2.1
  unfold lz_of at k
  have W : ∀ (c i : Nat), i + c = S.2.1 → lz_fi (lz_al S (nI m) vs) c i = lz_fi (lz_al S (nI m) vs) S.2.1 0 → mx_Ok mx_S0 l G (d + 2) mm_LBStore_planOf 3 [(0, .ref s), (1, .int (nI m)), (2, .ref r), (3, .int (nI F)), (4, .int (nI n)), (5, .int (nI i))] [] hs Q := by
    intro c
    induction c with
    | zero =>
      intro i hi hf
      rw [← hf] at k
      simp only [lz_fi] at k
      refine wp_LBStore_planOf_3 _ _ _ _ _ _ ⟨_, ⟨_, h.at, rfl⟩, fun _ => ⟨_, ⟨_, h.at, rfl⟩, fun c => ?_, fun c => ?_⟩, fun c => absurd (nI_le (by omega) (by omega)) c⟩
      · have hlt : S.2.1 < 30 := by
          rcases Nat.lt_or_ge S.2.1 30 with z | z
          · exact z
          · exact absurd c (nI_nlt (b := 30) z (by omega))
        rw [if_neg (by omega)] at k
        have hrl : r < hs.2.1 := h.wf _ _ hr
        have hsl : s < hs.2.1 := h.wf _ _ h.at
        have hs1 : s + 1 < hs.2.1 := h.wf _ _ g2
        refine ⟨nI_pos (by omega), by rw [nI_clamp (by omega)]; show n * 8 ≤ _; omega, fun hs5 e5 => ?_⟩
        rw [nI_clamp (by omega)] at e5 ⊢
        have a1 : hs5.1 r = some (102, L.map Value.long) := by rw [e5, mx_nw_ne _ _ _ (by omega)]; exact hr
        have a2 : hs5.1 hs.2.1 = some (102, List.replicate n (Value.long 0)) := by rw [e5, mx_nw_eq]
        refine ⟨_, _, a1, a2, nI_pos (by omega), by decide, nI_pos (by omega), by rw [nI_clamp (by omega), List.length_map]; omega, by rw [List.length_replicate, show Int32.toNatClampNeg 0 = 0 from rfl]; first | omega | (rw [nI_clamp (by omega)]; omega), fun v hv => ?_, fun hs8 e8 => ?_⟩
        · obtain ⟨x, -, rfl⟩ := List.mem_map.mp hv
          exact ⟨rfl, fun _ z => by cases z⟩
        rw [nI_clamp (by omega), show Int32.toNatClampNeg 0 = 0 from rfl] at e8
        have ecp : mx_cpy (L.map Value.long) (List.replicate n (Value.long 0)) F 0 n = vs.map Value.long := by
          have hd0 : (List.replicate n (Value.long 0)).drop (0 + n) = [] := List.drop_eq_nil_of_le (by rw [List.length_replicate]; omega)
          unfold mx_cpy
          rw [evs, List.take_zero, List.nil_append, hd0, List.append_nil, List.map_take, List.map_drop]
        rw [ecp] at e8
        have z5 : hs5.2 = (hs.2.1 + 1, hs.2.2 + n) := by rw [e5]; rfl
        have z8 : hs8.2 = (hs.2.1 + 1, hs.2.2 + n) := by rw [e8]; exact z5
        have b1 : hs8.1 hs.2.1 = some (102, vs.map Value.long) := by rw [e8, mx_st_eq]
        have b2 : ∀ q, q < hs.2.1 → hs8.1 q = hs.1 q := fun q hq => by rw [e8, mx_st_ne _ _ (by omega), e5, mx_nw_ne _ _ _ (by omega)]
        have b3 : hs8.2.1 = hs.2.1 + 1 := by rw [z8]
        refine ⟨_, ⟨_, (b2 s hsl).trans h.at, rfl⟩, _, ⟨_, (b2 s hsl).trans h.at, rfl⟩, fun hs13 e13 => ?_⟩
        have c1 : hs13.1 hs8.2.1 = some (3, [.int 0, .null, .int 0, .int 0, .int 0, .int 0]) := by rw [e13, mx_nw_eq]
        have c2 : ∀ q, q < hs.2.1 + 1 → hs13.1 q = hs8.1 q := fun q hq => by rw [e13, mx_nw_ne _ _ _ (by omega)]
        have c3 : hs13.2 = (hs.2.1 + 2, hs.2.2 + n + 6) := by rw [e13]; show (hs8.2.1 + 1, hs8.2.2 + 6) = _; rw [z8]
        refine wp_LBPlan_init_0 _ _ _ ⟨_, c1, fun hs14 e14 => ?_⟩
        subst e14
        refine ⟨_, mx_st_eq _ _ _, fun hs15 e15 => ⟨rfl, ?_⟩⟩
        rw [mx_st_st] at e15
        have d1 : hs15.1 (hs.2.1 + 1) = some (lb_pc hs.2.1 (nI m, vs, false, 0, false) 0) := by
          rw [e15, ← b3, mx_st_eq]
          rfl
        have d2 : ∀ q, q < hs.2.1 + 1 → hs15.1 q = hs8.1 q := fun q hq => by rw [e15, mx_st_ne _ _ (by omega)]; exact c2 q hq
        have d3 : hs15.2 = (hs.2.1 + 2, hs.2.2 + n + 6) := by rw [e15]; exact c3
        have d4 : ∀ q x, hs15.1 q = some x → q < hs.2.1 + 2 := fun q x hq => by
          rcases Nat.lt_or_ge q (hs.2.1 + 2) with z | z
          · exact z
          · rw [e15, mx_st_ne _ _ (by omega), e13, mx_nw_ne _ _ _ (by omega), e8, mx_st_ne _ _ (by omega), e5, mx_nw_ne _ _ _ (by omega)] at hq
            have := h.wf _ _ hq
            omega
        rw [b3]
        refine ⟨_, ((d2 _ (by omega)).trans (b2 _ hs1)).trans g2, nI_pos (by omega), by rw [nI_clamp (by omega)]; omega, ⟨_, d1⟩, fun hs17 e17 => ?_⟩
        rw [nI_clamp (by omega)] at e17
        have f1 : hs17.1 s = hs.1 s := by rw [e17, mx_st_ne _ _ (by omega)]; exact (d2 _ (by omega)).trans (b2 _ hsl)
        refine ⟨_, ⟨_, f1.trans h.at, rfl⟩, _, f1.trans h.at, fun hs21 e21 => ?_⟩
        rw [nI_1] at e21
        have k2 := h.2.2.1
        have fin1 : hs21.1 s = some (4, [.ref (s + 1), .ref (s + 2), .int (nI (S.2.1 + 1)), .int (nI S.2.2.2)]) := by rw [e21, mx_st_eq]; rfl
        have fin2 : hs21.1 (s + 1) = some (113, ps.set S.2.1 (.ref (hs.2.1 + 1))) := by rw [e21, mx_st_ne _ _ (by omega), e17, mx_st_eq]
        have fin3 : ∀ q, q < hs.2.1 → q ≠ s → q ≠ s + 1 → hs21.1 q = hs.1 q := fun q q1 q2 q3 => by rw [e21, mx_st_ne _ _ q2, e17, mx_st_ne _ _ q3]; exact (d2 _ (by omega)).trans (b2 _ q1)
        have fin4 : hs21.1 (hs.2.1 + 1) = some (lb_pc hs.2.1 (nI m, vs, false, 0, false) 0) := by rw [e21, mx_st_ne _ _ (by omega), e17, mx_st_ne _ _ (by omega)]; exact d1
        have fin5 : hs21.1 hs.2.1 = some (102, vs.map Value.long) := by rw [e21, mx_st_ne _ _ (by omega), e17, mx_st_ne _ _ (by omega)]; exact (d2 _ (by omega)).trans b1
        have fin6 : hs21.2 = (hs.2.1 + 2, hs.2.2 + n + 6) := by rw [e21, e17]; exact d3
        refine ⟨_, ⟨_, fin1, rfl⟩, ?_⟩
        have eV : (1000000000000 : Int64) + (nI (S.2.1 + 1)).toInt64 = lz_pv S.2.1 := by rw [nI_l (by omega)]; rfl
        rw [eV]
        have hfr : mx_fr lb_kn hs hs21 := by
          refine ⟨fun q x hq hp => ?_, by rw [fin6]; exact Nat.le_add_right _ _⟩
          rw [fin3 q (h.wf _ _ hq) (fun z => ?_) (fun z => ?_)]
          · exact hq
          · rw [z, h.at] at hq
            cases hq
            cases hp
          · rw [z, g2] at hq
            cases hq
            cases hp
        refine k hs21 (fun i => if i = S.2.1 then hs.2.1 else A i) (fun i => if i = S.2.1 then 0 else wq i) ⟨fin1, ⟨_, fin2, by rw [List.length_set]; exact g3, fun i hi => ?_⟩, ?_, fun i hi => ?_, fun i hi => ?_, fun i j hij hj => ?_, ⟨?_, fun i hi => ?_, h.ok.2.2⟩, ?_⟩ hfr (by rw [fin6]; show _ = hs.2.1 + 2 * (S.2.1 + 1 - S.2.1); omega) (by rw [fin6]; show hs.2.2 + n + 6 ≤ hs.2.2 + 10 * (S.2.1 + 1 - S.2.1); omega) (fun i hi => by
          have hi : i < S.2.1 + 1 := hi
          by_cases hi2 : i = S.2.1
          · right
            simp only [if_pos hi2]
            exact Nat.le_refl _
          · left
            simp only [if_neg hi2]
            exact ⟨by omega, trivial⟩)
        · by_cases hi2 : i = S.2.1
          · subst hi2
            rw [List.getElem?_set_self (by omega)]
            simp
          · have hi : i < S.2.1 + 1 := hi
            rw [List.getElem?_set_ne (by omega)]
            simp only [if_neg hi2]
            exact g4 i (by omega)
        · obtain ⟨ks, u1, u2⟩ := k2
          refine ⟨ks, ?_, u2⟩
          rw [fin3 _ (h.wf _ _ u1) (by omega) (by omega)]
          exact u1
        · have hi : i < S.2.1 + 1 := hi
          by_cases hi2 : i = S.2.1
          · simp only [if_pos hi2]
            exact ⟨fin4, fin5⟩
          · simp only [if_neg hi2]
            obtain ⟨u1, u2⟩ := h.plan (i := i) (by omega)
            have u3 := h.2.2.2.2.1 i (by omega)
            rw [fin3 _ (h.wf _ _ u1) (by omega) (by omega), fin3 _ (h.wf _ _ u2) (by omega) (by omega)]
            exact ⟨u1, u2⟩
        · have hi : i < S.2.1 + 1 := hi
          by_cases hi2 : i = S.2.1
          · simp only [if_pos hi2]
            obtain ⟨ks, u1, u2⟩ := k2
            have := h.wf _ _ u1
            omega
          · simp only [if_neg hi2]
            exact h.2.2.2.2.1 i (by omega)
        · have hj : j < S.2.1 + 1 := hj
          have hi2 : ¬ i = S.2.1 := by omega
          simp only [if_neg hi2]
          by_cases hj2 : j = S.2.1
          · simp only [if_pos hj2]
            have := h.wf _ _ (h.plan (i := i) (by omega)).1
            omega
          · simp only [if_neg hj2]
            exact h.2.2.2.2.2.1 i j hij (by omega)
        · show S.2.1 + 1 ≤ 30
          omega
        · have hi : i < S.2.1 + 1 := hi
          by_cases hi2 : i = S.2.1
          · simp only [if_pos hi2]
            subst hi2
            exact ⟨by show vs.length ≤ 4; omega, hV, ⟨m, hm, rfl⟩, fun _ => rfl⟩
          · simp only [if_neg hi2]
            exact h.ok.2.1 i (by omega)
        · intro q x hq
          rw [fin6]
          show q < hs.2.1 + 2
          by_cases q2 : q = s
          · omega
          · by_cases q3 : q = s + 1
            · omega
            · rw [e21, mx_st_ne _ _ q2, e17, mx_st_ne _ _ q3] at hq
              exact d4 q x hq
      · have hge : 30 ≤ S.2.1 := by
          rcases Nat.lt_or_ge S.2.1 30 with z | z
          · exact absurd (nI_lt (b := 30) z (by omega)) c
          · exact z
        rw [if_pos hge] at k
        exact k hs A wq h mx_fr.rf (by simp) (by simp) (fun i hi => Or.inl ⟨hi, rfl⟩)
    | succ c ih =>
      intro i hi hf
      have hi1 : i < S.2.1 := by omega
      refine wp_LBStore_planOf_3 _ _ _ _ _ _ ⟨_, ⟨_, h.at, rfl⟩, fun z => absurd z (nI_ge (by omega) (by omega)), fun _ => ⟨_, ⟨_, h.at, rfl⟩, _, _, g2, nI_pos (by omega), by rw [nI_clamp (by omega)]; exact g4 i hi1, ⟨_, (h.plan hi1).1⟩, ?_⟩⟩
      refine c_isAlike h hi1 hr hF hL ⟨_, rfl, fun z => ?_, fun z => ?_⟩
      · rw [← evs] at z
        rw [nI_1]
        rw [lz_fi, if_neg (by rw [lz_b0.mp z]; decide)] at hf
        exact ih (i + 1) (by omega) hf
      · rw [← evs] at z
        rw [lz_fi, if_pos (lz_b1.mp z)] at hf
        rw [← hf] at k
        have eV : (1000000000000 : Int64) + (nI i).toInt64 + 1 = lz_pv i := by
          rw [nI_l (by omega), Int64.add_assoc, lN_1]
          rfl
        rw [eV]
        exact k hs A wq h mx_fr.rf (by simp) (by simp) (fun i hi => Or.inl ⟨hi, rfl⟩)
  exact wp_LBStore_planOf_0 _ _ _ _ _ (W S.2.1 0 (Nat.zero_add _) rfl)
end CPL
end
section
/-! THE CLASS works an EXPRESSION out. b: the cell of the LazyBuilder; its Worker is b + 7. -/
def lb_nc (b i : Nat) (x : Bool × Bool × Int64) : List Value := [.ref (b + 10 + 4 * i), .int (lz_b x.1), .int (lz_b x.2.1), .long x.2.2]
def lb_wk (hs : mx_H) (b : Nat) (T : Nat → List Int32) (A : Nat → Nat) (wq : Nat → Int32) (L : List Int64) (w : lz_W) : Prop :=
  hs.1 (b + 7) = some (5, [.ref (b + 8), .ref (b + 4), .ref (b + 41), .int (nI w.2.1), .int (nI w.2.2.1)]) ∧
  hs.1 (b + 8) = some (112, (List.range 8).map (fun i => Value.ref (b + 9 + 4 * i))) ∧
  (∀ i, i < 8 → hs.1 (b + 9 + 4 * i) = some (2, lb_nc b i (w.1 i))) ∧
  hs.1 (b + 41) = some (102, L.map Value.long) ∧ L.length = 292 ∧
  lb_st hs (b + 4) A wq w.2.2.2 ∧ (∀ i, i < w.2.2.2.2.1 → b + 42 ≤ A i) ∧ lz_okW T w
def lb_ts (hs : mx_H) (b : Nat) (T : Nat → List Int32) (w : lz_W) : Prop := ∀ i, i < 8 → ∃ es dp bp, lb_tx hs (b + 10 + 4 * i) (T i) es dp bp ∧ ((w.1 i).1 = true → lz_EO (T i) es 0 (T i).length)
def lb_tg (hs : mx_H) (a : Nat) (t : List Int32) : Prop := ∃ es dp bp, lb_tx hs a t es dp bp ∧ lz_EO t es 0 t.length
/-- the kinds that working out leaves -/
def lb_kw : Nat → Bool := fun k => !(k == 2) && !(k == 3) && !(k == 4) && !(k == 5) && !(k == 102) && !(k == 113)
theorem lb_tx.fr {hs hs' : mx_H} {a : Nat} {t es : List Int32} {dp : Nat} {bp : Int32} {P : Nat → Bool} (h : lb_tx hs a t es dp bp) (f : mx_fr P hs hs') (p1 : P 1 = true) (p2 : P 100 = true) : lb_tx hs' a t es dp bp := by
  obtain ⟨cs, h0, h1, h2, h3⟩ := h
  exact ⟨cs, f.1 _ _ h0 p1, f.1 _ _ h1 p2, f.1 _ _ h2 p2, h3⟩
theorem lb_tg.fr {hs hs' : mx_H} {a : Nat} {t : List Int32} (h : lb_tg hs a t) (f : mx_fr lb_kw hs hs') : lb_tg hs' a t := by
  obtain ⟨es, dp, bp, h1, h2⟩ := h
  exact ⟨es, dp, bp, h1.fr f rfl rfl, h2⟩
theorem lb_ts.fr {hs hs' : mx_H} {b : Nat} {T : Nat → List Int32} {w w' : lz_W} (h : lb_ts hs b T w) (f : mx_fr lb_kw hs hs') (e : ∀ i, i < 8 → (w'.1 i).1 = (w.1 i).1) : lb_ts hs' b T w' := by
  intro i hi
  obtain ⟨es, dp, bp, h1, h2⟩ := h i hi
  exact ⟨es, dp, bp, h1.fr f rfl rfl, fun z => h2 (by rw [← e i hi]; exact z)⟩
theorem mx_fr.mono {P P' : Nat → Bool} {hs hs' : mx_H} (h : mx_fr P hs hs') (hp : ∀ k, P' k = true → P k = true) : mx_fr P' hs hs' := ⟨fun q x hx hk => h.1 q x hx (hp _ hk), h.2⟩
/-- how many names are being worked out -/
def lz_bz (w : lz_W) : Nat := (lz_b' (w.1 0).2.1) + (lz_b' (w.1 1).2.1) + (lz_b' (w.1 2).2.1) + (lz_b' (w.1 3).2.1) + (lz_b' (w.1 4).2.1) + (lz_b' (w.1 5).2.1) + (lz_b' (w.1 6).2.1) + (lz_b' (w.1 7).2.1)
theorem lz_bz_set {w : lz_W} {i : Nat} (hi : i < 8) (h : (w.1 i).2.1 = false) (x y : Bool × Int64) : lz_bz (lz_setN w i (x.1, true, y.2)) = lz_bz w + 1 := by
  rcases (show i = 0 ∨ i = 1 ∨ i = 2 ∨ i = 3 ∨ i = 4 ∨ i = 5 ∨ i = 6 ∨ i = 7 by omega) with rfl | rfl | rfl | rfl | rfl | rfl | rfl | rfl <;> (simp [lz_bz, lz_setN, h, lz_b']; try omega)
theorem lz_bz_le (w : lz_W) : lz_bz w ≤ 8 := by
  have h : ∀ x : Bool, lz_b' x ≤ 1 := by intro x; cases x <;> decide
  have h0 := h (w.1 0).2.1
  have h1 := h (w.1 1).2.1
  have h2 := h (w.1 2).2.1
  have h3 := h (w.1 3).2.1
  have h4 := h (w.1 4).2.1
  have h5 := h (w.1 5).2.1
  have h6 := h (w.1 6).2.1
  have h7 := h (w.1 7).2.1
  unfold lz_bz
  omega
theorem lz_bz_eq {w w' : lz_W} (h : ∀ i, (w'.1 i).2.1 = (w.1 i).2.1) : lz_bz w' = lz_bz w := by
  unfold lz_bz
  rw [h 0, h 1, h 2, h 3, h 4, h 5, h 6, h 7]
/-- before: n: the fuel, d: the frames left, o: how many stand open, k: the depth allowed -/
def lb_pre (hs : mx_H) (b : Nat) (T : Nat → List Int32) (A : Nat → Nat) (wq : Nat → Int32) (L : List Int64) (w : lz_W) (a : Nat) (t : List Int32) (n d o k : Nat) : Prop :=
  lb_wk hs b T A wq L w ∧ lb_ts hs b T w ∧ lb_tg hs a t ∧ 200 ≤ w.2.1 + n ∧ w.2.1 ≤ 200 ∧ o ≤ 8 * lz_bz w + (9 - k) ∧ 2 * (73 - o) + 48 ≤ d
/-- behind -/
def lb_post (hs : mx_H) (b : Nat) (T : Nat → List Int32) (L : List Int64) (w : lz_W) (o : Nat) (r : Int64 × lz_W) (hs2 : mx_H) : Prop :=
  ∃ (A2 : Nat → Nat) (wq2 : Nat → Int32) (L2 : List Int64), lb_wk hs2 b T A2 wq2 L2 r.2 ∧ mx_fr lb_kw hs hs2 ∧ (∀ i, i < 4 * o → L2[i]? = L[i]?) ∧ hs2.2.1 = hs.2.1 + 2 * (r.2.2.2.2.2.1 - w.2.2.2.2.1) ∧ hs2.2.2 ≤ hs.2.2 + 10 * (r.2.2.2.2.2.1 - w.2.2.2.2.1)
def lb_WF (l : Launch) (G : mx_G) (b : Nat) (T : Nat → List Int32) (f : lz_F) (n : Nat) : Prop := ∀ (d : Nat) (hs : mx_H) (A : Nat → Nat) (wq : Nat → Int32) (L : List Int64) (w : lz_W) (a : Nat) (t : List Int32) (p k e o : Nat) (Q : Option Value → mx_H → Prop), k ≤ 8 → lz_rd t k p = (true, e) → (p = 0 ∨ lz_cd t (p - 1) ≠ 68) → lb_pre hs b T A wq L w a t n d o k →
  (∀ hs2, lb_post hs b T L w o (f t p w) hs2 → Q (some (.long (f t p w).1)) hs2) → mx_C mx_S0 l G d mm_LBWorker_work [.ref (b + 7), .ref a, .int (nI p), .int (nI o)] hs Q
section CWK
variable {l : Launch} {G : mx_G} {d b a n o k p e : Nat} {hs : mx_H} {Q : Option Value → mx_H → Prop} {A : Nat → Nat} {wq : Nat → Int32} {L : List Int64} {w : lz_W} {T : Nat → List Int32} {t : List Int32} {f : lz_F}
theorem lb_wk.at (h : lb_wk hs b T A wq L w) : hs.1 (b + 7) = some (5, [.ref (b + 8), .ref (b + 4), .ref (b + 41), .int (nI w.2.1), .int (nI w.2.2.1)]) := h.1
theorem lb_wk.sto (h : lb_wk hs b T A wq L w) : lb_st hs (b + 4) A wq w.2.2.2 := h.2.2.2.2.2.1
theorem lb_wk.ok (h : lb_wk hs b T A wq L w) : lz_okW T w := h.2.2.2.2.2.2.2
theorem lb_wk.name (h : lb_wk hs b T A wq L w) {i : Nat} (hi : i < 8) : hs.1 (b + 9 + 4 * i) = some (2, lb_nc b i (w.1 i)) := h.2.2.1 i hi
/-- the Store's cells under a change outside of them -/
theorem lb_st.out {s : Nat} {S : lz_S} {c : Nat} {x y : mx_E} (h : lb_st hs s A wq S) (hc : hs.1 c = some y) (h1 : c ≠ s) (h2 : c ≠ s + 1) (h3 : c ≠ s + 2) (h4 : ∀ i, i < S.2.1 → c ≠ A i ∧ c ≠ A i + 1) : lb_st (mx_st hs c x) s A wq S := by
  obtain ⟨g1, ⟨ps, g2, g3⟩, ⟨ks, g4, g5⟩, g6, g7, g8, g9, g10⟩ := h
  refine ⟨by rw [mx_st_ne _ _ (Ne.symm h1)]; exact g1, ⟨ps, by rw [mx_st_ne _ _ (Ne.symm h2)]; exact g2, g3⟩, ⟨ks, by rw [mx_st_ne _ _ (Ne.symm h3)]; exact g4, g5⟩, fun i hi => ?_, g7, g8, g9, g10.st hc⟩
  rw [mx_st_ne _ _ (Ne.symm (h4 i hi).2), mx_st_ne _ _ (Ne.symm (h4 i hi).1)]
  exact g6 i hi
/-- the Worker's numbers are changed -/
theorem lb_wk.nums (h : lb_wk hs b T A wq L w) (x y : Nat) : lb_wk (mx_st hs (b + 7) (5, [.ref (b + 8), .ref (b + 4), .ref (b + 41), .int (nI x), .int (nI y)])) b T A wq L (w.1, x, y, w.2.2.2) := by
  obtain ⟨h1, h2, h3, h4, h5, h6, h7, h8⟩ := h
  refine ⟨mx_st_eq _ _ _, by rw [mx_st_ne _ _ (by omega)]; exact h2, fun i hi => by rw [mx_st_ne _ _ (by omega)]; exact h3 i hi, by rw [mx_st_ne _ _ (by omega)]; exact h4, h5, h6.out h1 (by omega) (by omega) (by omega) (fun i hi => by have := h7 i hi; omega), h7, h8⟩
/-- a name's cell is changed -/
theorem lb_wk.nset (h : lb_wk hs b T A wq L w) {i : Nat} (hi : i < 8) {x : Bool × Bool × Int64} (hx : (x.1 = true → lz_rd (T i) 8 0 = (true, (T i).length)) ∧ (x.2.2 = -1000000000000 ∨ lz_V w.2.2.2.2.1 x.2.2)) : lb_wk (mx_st hs (b + 9 + 4 * i) (2, lb_nc b i x)) b T A wq L (lz_setN w i x) := by
  have hc := h.name hi
  obtain ⟨h1, h2, h3, h4, h5, h6, h7, h8⟩ := h
  refine ⟨by rw [mx_st_ne _ _ (by omega)]; exact h1, by rw [mx_st_ne _ _ (by omega)]; exact h2, fun j hj => ?_, by rw [mx_st_ne _ _ (by omega)]; exact h4, h5, h6.out hc (by omega) (by omega) (by omega) (fun j hj => by have := h7 j hj; omega), h7, ⟨fun j hj => ?_, h8.2⟩⟩
  · by_cases hij : j = i
    · subst hij
      simp only [lz_setN, if_true]
      exact mx_st_eq _ _ _
    · simp only [lz_setN, if_neg hij]
      rw [mx_st_ne _ _ (by omega)]
      exact h3 j hj
  · by_cases hij : j = i
    · subst hij
      simp only [lz_setN, if_true]
      exact hx
    · simp only [lz_setN, if_neg hij]
      exact h8.1 j hj
/-- a place of the lists is changed -/
theorem lb_wk.lset (h : lb_wk hs b T A wq L w) (i : Nat) (v : Int64) : lb_wk (mx_st hs (b + 41) (102, (L.set i v).map Value.long)) b T A wq (L.set i v) w := by
  obtain ⟨h1, h2, h3, h4, h5, h6, h7, h8⟩ := h
  refine ⟨by rw [mx_st_ne _ _ (by omega)]; exact h1, by rw [mx_st_ne _ _ (by omega)]; exact h2, fun i hi => by rw [mx_st_ne _ _ (by omega)]; exact h3 i hi, mx_st_eq _ _ _, by rw [List.length_set]; exact h5, h6.out h4 (by omega) (by omega) (by omega) (fun i hi => by have := h7 i hi; omega), h7, h8⟩
/-- a name's array place -/
theorem lb_names {i : Nat} (hi : i < 8) : ((List.range 8).map (fun i => Value.ref (b + 9 + 4 * i)))[i]? = some (.ref (b + 9 + 4 * i)) := by
  rw [List.getElem?_map, List.getElem?_range hi]
  rfl
theorem lb_post.tr {o2 : Nat} {r q : Int64 × lz_W} {hs2 hs3 : mx_H} {L2 : List Int64} (h1 : mx_fr lb_kw hs hs2) (h2 : ∀ i, i < 4 * o → L2[i]? = L[i]?) (h3 : hs2.2.1 = hs.2.1 + 2 * (r.2.2.2.2.2.1 - w.2.2.2.2.1)) (h4 : hs2.2.2 ≤ hs.2.2 + 10 * (r.2.2.2.2.2.1 - w.2.2.2.2.1)) (ho : o ≤ o2) (hm : w.2.2.2.2.1 ≤ r.2.2.2.2.2.1) (hm2 : r.2.2.2.2.2.1 ≤ q.2.2.2.2.2.1) (k : lb_post hs2 b T L2 r.2 o2 q hs3) : lb_post hs b T L w o q hs3 := by
  obtain ⟨A3, wq3, L3, k1, k2, k3, k4, k5⟩ := k
  exact ⟨A3, wq3, L3, k1, h1.tr k2, fun i hi => (k3 i (by omega)).trans (h2 i hi), by omega, by omega⟩
theorem c_combine {c x y : Int32} (k : Q (some (.int (lz_comb c x y))) hs) : mx_C mx_S0 l G (d + 1) mm_LBWorker_combine [.int c, .int x, .int y] hs Q := by
  unfold lz_comb at k
  have hlt : ¬ c = 43 → ¬ c = 45 → ¬ c = 42 → mx_Ok mx_S0 l G (d + 1) mm_LBWorker_combine 44 [(1, .int x), (2, .int y)] [] hs Q := by
    intro c1 c2 c3
    rw [if_neg c1, if_neg c2, if_neg c3] at k
    refine wp_LBWorker_combine_44 _ _ ⟨fun z => ?_, fun z => ?_⟩
    · rw [if_neg (Int32.not_lt.mpr z)] at k
      exact k
    · rw [if_pos (Int32.not_le.mp z)] at k
      exact k
  refine wp_LBWorker_combine_0 _ _ _ ⟨fun z => ?_, fun z => ?_, fun z => hlt (by rw [z]; decide) (by rw [z]; decide) (by rw [z]; decide), fun z => ?_, fun z1 z2 z3 z4 => hlt z2 z4 z1⟩
  · subst z
    exact k
  · subst z
    exact k
  · subst z
    exact k
theorem c_canBeMadeGood {v : Int64} (k : Q (some (.int (lz_b (lz_good v)))) hs) : mx_C mx_S0 l G (d + 1) mm_LBWorker_canBeMadeGood [.long v] hs Q := by
  have hg : lz_good v = true → mx_Ok mx_S0 l G (d + 1) mm_LBWorker_canBeMadeGood 32 [] [] hs Q := fun z => wp_LBWorker_canBeMadeGood_32 (by rw [z] at k; exact k)
  refine wp_LBWorker_canBeMadeGood_0 _ ⟨fun z => hg (by rw [z]; decide), fun z1 => ⟨fun z => hg (by rw [z]; decide), fun z2 => ⟨fun z => hg (by rw [z]; decide), fun z3 => ⟨fun z4 => ?_, fun z => hg (by rw [Decidable.not_not.mp z]; decide)⟩⟩⟩⟩
  have e : lz_good v = false := by unfold lz_good; simp [z1, z2, z3, z4]
  rw [e] at k
  exact k
theorem c_isClosed (h : lb_wk hs b T A wq L w) (hf : w.2.2.1 < 2 ^ 31) (k : Q (some (.int (lz_b (decide (30 ≤ w.2.2.1))))) hs) : mx_C mx_S0 l G (d + 1) mm_LBWorker_isClosed [.ref (b + 7)] hs Q := by
  refine wp_LBWorker_isClosed_0 _ ⟨_, ⟨_, h.at, rfl⟩, fun z => ?_, fun z => ?_⟩
  · have : w.2.2.1 < 30 := (nI_ltI (b := 30) hf (by omega)).mp z
    rw [decide_eq_false (by omega)] at k
    exact k
  · have : ¬ w.2.2.1 < 30 := fun q => z ((nI_ltI (b := 30) hf (by omega)).mpr q)
    rw [decide_eq_true (by omega)] at k
    exact k
theorem c_answerOf (h : lb_wk hs b T A wq L w) {v : Int64} (k0 : lz_bad v = false → Q (some (.int 0)) hs) (k1 : lz_bad v = true → ∀ hs2, lb_wk hs2 b T A wq L (w.1, w.2.1, w.2.2.1 + 1, w.2.2.2) → mx_fr lb_kw hs hs2 → hs2.2 = hs.2 → Q (some (.int (Int64.toInt32 (v - (-1000000000000))))) hs2) : mx_C mx_S0 l G (d + 2) mm_LBWorker_answerOf [.ref (b + 7), .long v] hs Q := by
  refine wp_LBWorker_answerOf_0 _ _ (c_isFailure ⟨_, rfl, fun z => ⟨_, ⟨_, h.at, rfl⟩, _, h.at, fun hs2 e2 => ?_⟩, fun z => k0 (lz_b0.mp (Decidable.not_not.mp z))⟩)
  rw [nI_1] at e2
  refine k1 (lz_b1.mp z) hs2 ?_ ?_ ?_
  · rw [e2]
    exact h.nums w.2.1 (w.2.2.1 + 1)
  · rw [e2]
    exact mx_fr.st h.at rfl
  · rw [e2]
    rfl
end CWK
end
section
/-! THE CLASS works an EXPRESSION out: the kinds of EXPRESSION. -/
section CW2
variable {l : Launch} {G : mx_G} {d b a n o k p e : Nat} {hs : mx_H} {Q : Option Value → mx_H → Prop} {A : Nat → Nat} {wq : Nat → Int32} {L : List Int64} {w : lz_W} {T : Nat → List Int32} {t : List Int32} {f : lz_F}
theorem lb_tg.at (h : lb_tg hs a t) : ∃ fs, hs.1 a = some (1, fs) := by
  obtain ⟨es, dp, bp, h1, -⟩ := h
  exact ⟨_, h1.at⟩
theorem lb_tg.len (h : lb_tg hs a t) : t.length ≤ 24 := by
  obtain ⟨es, dp, bp, h1, -⟩ := h
  exact h1.len.1
theorem c_codeT (h : lb_tg hs a t) (hp : p < 2 ^ 31) (k : Q (some (.int (lz_cd t p))) hs) : mx_C mx_S0 l G (d + 1) mm_LBText_codeAt [.ref a, .int (nI p)] hs Q := by
  obtain ⟨es, dp, bp, h1, -⟩ := h
  exact c_codeAt h1 hp k
theorem c_endT (h : lb_tg hs a t) {q m : Nat} (hk : k ≤ 8) (hr : lz_rd t k q = (true, m)) (hz : q = 0 ∨ lz_cd t (q - 1) ≠ 68) (kk : Q (some (.int (nI m))) hs) : mx_C mx_S0 l G (d + 1) mm_LBText_endOf [.ref a, .int (nI q)] hs Q := by
  obtain ⟨es, dp, bp, h1, h2⟩ := h
  have hb := lz_rd_b _ _ _ hr
  exact c_endOf h1 (by omega) (h2 q (Nat.zero_le _) (by omega) hz m (lz_rd_m hk hr)) kk
theorem lb_pre.child (h : lb_pre hs b T A wq L w a t n (d + 2) o (k + 1)) (hk : k + 1 ≤ 8) : lb_pre hs b T A wq L w a t n d (o + 1) k := by
  obtain ⟨h1, h2, h3, h4, h5, h6, h7⟩ := h
  have := lz_bz_le w
  exact ⟨h1, h2, h3, h4, h5, by omega, by omega⟩
theorem lb_pre.next {c : Nat} {r : Int64 × lz_W} {hs2 : mx_H} {A2 : Nat → Nat} {wq2 : Nat → Int32} {L2 : List Int64} (h : lb_pre hs b T A wq L w a t n d o k) (s : lz_st T c w r) (h2 : lb_wk hs2 b T A2 wq2 L2 r.2) (hf : mx_fr lb_kw hs hs2) : lb_pre hs2 b T A2 wq2 L2 r.2 a t n d o k := by
  obtain ⟨g1, g2, g3, g4, g5, g6, g7⟩ := h
  obtain ⟨s1, s2, s3, s4, s5, s6, s7⟩ := s
  refine ⟨h2, g2.fr hf (fun i _ => (s6 i).1), g3.fr hf, by omega, by omega, ?_, g7⟩
  rw [lz_bz_eq (fun i => (s6 i).2)]
  exact g6
theorem c_workAbort (hF : lb_WF l G b T f n) (hfo : lz_fok T f) (hk : k + 1 ≤ 8) (hr : lz_rd t k (p + 1) = (true, e)) (hc : lz_cd t p ≠ 68) (h : lb_pre hs b T A wq L w a t n (d + 2) o (k + 1)) (kk : ∀ hs2, lb_post hs b T L w o (lz_abort f t p w) hs2 → Q (some (.long (lz_abort f t p w).1)) hs2) : mx_C mx_S0 l G (d + 1) mm_LBWorker_workAbort [.ref (b + 7), .ref a, .int (nI p), .int (nI o)] hs Q := by
  have h1 := h.child hk
  obtain ⟨d, rfl⟩ : ∃ d', d = d' + 45 := ⟨d - 45, by have := h.2.2.2.2.2.2; omega⟩
  have s1 := hfo t (p + 1) k e w (by omega) hr h.1.ok
  refine wp_LBWorker_workAbort_0 _ _ _ _ ⟨⟨_, h.1.at⟩, ?_⟩
  rw [nI_1 p, nI_1 o]
  refine hF _ hs A wq L w a t (p + 1) k e (o + 1) _ (by omega) hr (Or.inr hc) h1 (fun hs2 g => ⟨_, rfl, ?_⟩)
  obtain ⟨A2, wq2, L2, g1, g2, g3, g4, g5⟩ := g
  unfold lz_abort at kk
  simp only at kk
  refine c_isFailure ⟨_, rfl, fun z => ?_, fun z => ?_⟩
  · rw [if_neg (by rw [lz_b0.mp z]; decide)] at kk
    exact kk hs2 ⟨A2, wq2, L2, g1, g2, fun i hi => g3 i (by omega), g4, g5⟩
  · rw [if_pos (lz_b1.mp z)] at kk
    exact kk hs2 ⟨A2, wq2, L2, g1, g2, fun i hi => g3 i (by omega), g4, g5⟩
theorem c_workPair {m : Nat} (hF : lb_WF l G b T f n) (hfo : lz_fok T f) (hk : k + 1 ≤ 8) (hr : lz_rd t k (p + 1) = (true, m)) (hr2 : lz_rd t k m = (true, e)) (hc : lz_cd t p ≠ 68) (hp : p < 2 ^ 30) (h : lb_pre hs b T A wq L w a t n (d + 2) o (k + 1)) (kk : ∀ hs2, lb_post hs b T L w o (lz_pair f t p w) hs2 → Q (some (.long (lz_pair f t p w).1)) hs2) : mx_C mx_S0 l G (d + 1) mm_LBWorker_workPair [.ref (b + 7), .ref a, .int (nI p), .int (nI o)] hs Q := by
  have h1 := h.child hk
  obtain ⟨d, rfl⟩ : ∃ d', d = d' + 45 := ⟨d - 45, by have := h.2.2.2.2.2.2; omega⟩
  have s1 := hfo t (p + 1) k m w (by omega) hr h.1.ok
  refine wp_LBWorker_workPair_0 _ _ _ _ ⟨⟨_, h.1.at⟩, ?_⟩
  rw [nI_1 p, nI_1 o]
  refine hF _ hs A wq L w a t (p + 1) k m (o + 1) _ (by omega) hr (Or.inr hc) h1 (fun hs2 g => ⟨_, rfl, ?_⟩)
  obtain ⟨A2, wq2, L2, g1, g2, g3, g4, g5⟩ := g
  unfold lz_pair at kk
  simp only at kk
  refine c_isFailure ⟨_, rfl, fun z => ?_, fun z => ?_⟩
  · rw [if_neg (by rw [lz_b0.mp z]; decide), lz_nd_eq (by omega) hr] at kk
    have h2 := h1.next s1 g1 g2
    have s2 := hfo t m k e _ (by omega) hr2 s1.1
    refine ⟨h2.2.2.1.at, c_endT h2.2.2.1 (by omega) hr (Or.inr hc) ⟨_, rfl, ⟨_, h2.1.at⟩, ?_⟩⟩
    refine hF _ hs2 A2 wq2 L2 _ a t m k e (o + 1) _ (by omega) hr2 (Or.inr (lz_rd_z _ _ _ hr)) h2 (fun hs3 g' => ⟨_, rfl, ?_⟩)
    have gp := lb_post.tr (o := o) g2 (fun i hi => g3 i (by omega)) g4 g5 (by omega) s1.2.1 s2.2.1 g'
    refine c_isFailure ⟨_, rfl, fun y => ?_, fun y => ?_⟩
    · rw [if_neg (by rw [lz_b0.mp y]; decide)] at kk
      have tg3 : lb_tg hs3 a t := by
        obtain ⟨A3, wq3, L3, k1, k2, -⟩ := g'
        exact h2.2.2.1.fr k2
      refine c_isPlan ⟨_, rfl, fun x => ?_, fun x => c_isPlan ⟨_, rfl, fun u => ⟨tg3.at, c_codeT tg3 (by omega) ⟨_, rfl, c_combine ⟨_, rfl, ?_⟩⟩⟩, fun u => ?_⟩⟩
      · rw [if_pos (by rw [lz_b1.mp x]; rfl)] at kk
        exact kk hs3 gp
      · rw [if_neg (by rw [lz_b0.mp (Decidable.not_not.mp x), lz_b0.mp u]; decide)] at kk
        exact kk hs3 gp
      · rw [if_pos (by rw [lz_b1.mp u]; simp)] at kk
        exact kk hs3 gp
    · rw [if_pos (lz_b1.mp y)] at kk
      exact kk hs3 gp
  · rw [if_pos (lz_b1.mp z)] at kk
    exact kk hs2 ⟨A2, wq2, L2, g1, g2, fun i hi => g3 i (by omega), g4, g5⟩
theorem c_workChoice {m m2 : Nat} (hF : lb_WF l G b T f n) (hfo : lz_fok T f) (hk : k + 1 ≤ 8) (hr : lz_rd t k (p + 1) = (true, m)) (hr2 : lz_rd t k m = (true, m2)) (hr3 : lz_rd t k m2 = (true, e)) (hc : lz_cd t p ≠ 68) (h : lb_pre hs b T A wq L w a t n (d + 2) o (k + 1)) (kk : ∀ hs2, lb_post hs b T L w o (lz_choice f t p w) hs2 → Q (some (.long (lz_choice f t p w).1)) hs2) : mx_C mx_S0 l G (d + 1) mm_LBWorker_workChoice [.ref (b + 7), .ref a, .int (nI p), .int (nI o)] hs Q := by
  have h1 := h.child hk
  obtain ⟨d, rfl⟩ : ∃ d', d = d' + 45 := ⟨d - 45, by have := h.2.2.2.2.2.2; omega⟩
  have s1 := hfo t (p + 1) k m w (by omega) hr h.1.ok
  refine wp_LBWorker_workChoice_0 _ _ _ _ ⟨⟨_, h.1.at⟩, ?_⟩
  rw [nI_1 p, nI_1 o]
  refine hF _ hs A wq L w a t (p + 1) k m (o + 1) _ (by omega) hr (Or.inr hc) h1 (fun hs2 g => ⟨_, rfl, ?_⟩)
  obtain ⟨A2, wq2, L2, g1, g2, g3, g4, g5⟩ := g
  unfold lz_choice at kk
  simp only at kk
  refine c_isFailure ⟨_, rfl, fun z => ?_, fun z => ?_⟩
  · rw [if_neg (by rw [lz_b0.mp z]; decide)] at kk
    have h2 := h1.next s1 g1 g2
    have hlast : ∀ q e', lz_rd t k q = (true, e') → lz_cd t (q - 1) ≠ 68 → (∀ hs3, lb_post hs b T L w o (f t q (f t (p + 1) w).2) hs3 → Q (some (.long (f t q (f t (p + 1) w).2).1)) hs3) → mx_Ok mx_S0 l G (d + 45 + 1) mm_LBWorker_workChoice 65 [(3, .int (nI o))] [.int (nI q), .ref a, .ref (b + 7)] hs2 Q := by
      intro q e' hq hz k3
      have s2 := hfo t q k e' _ (by omega) hq s1.1
      refine wp_LBWorker_workChoice_65 _ _ _ _ ⟨⟨_, h2.1.at⟩, ?_⟩
      rw [nI_1 o]
      exact hF _ hs2 A2 wq2 L2 _ a t q k e' (o + 1) _ (by omega) hq (Or.inr hz) h2 (fun hs3 g' => ⟨_, rfl, k3 hs3 (lb_post.tr (o := o) g2 (fun i hi => g3 i (by omega)) g4 g5 (by omega) s1.2.1 s2.2.1 g')⟩)
    refine c_isPlan ⟨_, rfl, fun x => ?_, fun x => ?_⟩
    · rw [if_neg (by rw [lz_b0.mp x]; decide), lz_nd_eq (by omega) hr, lz_nd_eq (by omega) hr2] at kk
      refine ⟨h2.2.2.1.at, c_endT h2.2.2.1 (by omega) hr (Or.inr hc) ⟨_, rfl, fun y => ⟨h2.2.2.1.at, c_endT h2.2.2.1 (by omega) hr2 (Or.inr (lz_rd_z _ _ _ hr)) ⟨_, rfl, ?_⟩⟩, fun y => ?_⟩⟩
      · rw [if_neg (not_not_intro y)] at kk
        exact hlast m2 e hr3 (lz_rd_z _ _ _ hr2) kk
      · rw [if_pos y] at kk
        exact hlast m m2 hr2 (lz_rd_z _ _ _ hr) kk
    · rw [if_pos (lz_b1.mp x)] at kk
      exact kk hs2 ⟨A2, wq2, L2, g1, g2, fun i hi => g3 i (by omega), g4, g5⟩
  · rw [if_pos (lz_b1.mp z)] at kk
    exact kk hs2 ⟨A2, wq2, L2, g1, g2, fun i hi => g3 i (by omega), g4, g5⟩
theorem c_workTry {m : Nat} (hF : lb_WF l G b T f n) (hfo : lz_fok T f) (hk : k + 1 ≤ 8) (hr : lz_rd t k (p + 1) = (true, m)) (hr2 : lz_rd t k m = (true, e)) (hc : lz_cd t p ≠ 68) (h : lb_pre hs b T A wq L w a t n (d + 2) o (k + 1)) (kk : ∀ hs2, lb_post hs b T L w o (lz_try f t p w) hs2 → Q (some (.long (lz_try f t p w).1)) hs2) : mx_C mx_S0 l G (d + 1) mm_LBWorker_workTry [.ref (b + 7), .ref a, .int (nI p), .int (nI o)] hs Q := by
  have h1 := h.child hk
  obtain ⟨d, rfl⟩ : ∃ d', d = d' + 45 := ⟨d - 45, by have := h.2.2.2.2.2.2; omega⟩
  have s1 := hfo t (p + 1) k m w (by omega) hr h.1.ok
  refine wp_LBWorker_workTry_0 _ _ _ _ ⟨⟨_, h.1.at⟩, ?_⟩
  rw [nI_1 p, nI_1 o]
  refine hF _ hs A wq L w a t (p + 1) k m (o + 1) _ (by omega) hr (Or.inr hc) h1 (fun hs2 g => ⟨_, rfl, ?_⟩)
  obtain ⟨A2, wq2, L2, g1, g2, g3, g4, g5⟩ := g
  unfold lz_try at kk
  simp only at kk
  refine c_canBeMadeGood ⟨_, rfl, fun z => ?_, fun z => ?_⟩
  · rw [if_neg (by rw [lz_b1.mp z]; decide), lz_nd_eq (by omega) hr] at kk
    have h2 := h1.next s1 g1 g2
    have s2 := hfo t m k e ((f t (p + 1) w).2.1, (f t (p + 1) w).2.2.1, (f t (p + 1) w).2.2.2.1 + 1, (f t (p + 1) w).2.2.2.2) (by omega) hr2 s1.1
    refine ⟨_, ⟨_, h2.1.at, rfl⟩, _, h2.1.at, fun hs3 e3 => ?_⟩
    rw [nI_1 (f t (p + 1) w).2.2.2.1] at e3
    have g1' : lb_wk hs3 b T A2 wq2 L2 ((f t (p + 1) w).2.1, (f t (p + 1) w).2.2.1, (f t (p + 1) w).2.2.2.1 + 1, (f t (p + 1) w).2.2.2.2) := by
      rw [e3]
      exact g1.nums _ _
    have fr3 : mx_fr lb_kw hs2 hs3 := by
      rw [e3]
      exact mx_fr.st h2.1.at rfl
    have z3 : hs3.2 = hs2.2 := by
      rw [e3]
      rfl
    have h3 : lb_pre hs3 b T A2 wq2 L2 ((f t (p + 1) w).2.1, (f t (p + 1) w).2.2.1, (f t (p + 1) w).2.2.2.1 + 1, (f t (p + 1) w).2.2.2.2) a t n (d + 45) (o + 1) k := by
      obtain ⟨q1, q2, q3, q4, q5, q6, q7⟩ := h2
      exact ⟨g1', q2.fr fr3 (fun _ _ => rfl), q3.fr fr3, q4, q5, q6, q7⟩
    refine ⟨h3.2.2.1.at, c_endT h3.2.2.1 (by omega) hr (Or.inr hc) ⟨_, rfl, ⟨_, h3.1.at⟩, ?_⟩⟩
    refine hF _ hs3 A2 wq2 L2 _ a t m k e (o + 1) _ (by omega) hr2 (Or.inr (lz_rd_z _ _ _ hr)) h3 (fun hs4 g' => ⟨_, rfl, kk hs4 ?_⟩)
    exact lb_post.tr (r := (0, ((f t (p + 1) w).2.1, (f t (p + 1) w).2.2.1, (f t (p + 1) w).2.2.2.1 + 1, (f t (p + 1) w).2.2.2.2))) (o := o) (g2.tr fr3) (fun i hi => g3 i (by omega)) (by rw [z3]; exact g4) (by rw [z3]; exact g5) (by omega) s1.2.1 s2.2.1 g'
  · rw [if_pos (lz_b0.mp (Decidable.not_not.mp z))] at kk
    exact kk hs2 ⟨A2, wq2, L2, g1, g2, fun i hi => g3 i (by omega), g4, g5⟩
theorem c_workResult (hF : lb_WF l G b T f n) (hfo : lz_fok T f) (hk : k + 1 ≤ 8) (hr : lz_rd t k (p + 1) = (true, e)) (hc : lz_cd t p ≠ 68) (h : lb_pre hs b T A wq L w a t n (d + 2) o (k + 1)) (kk : ∀ hs2, lb_post hs b T L w o (lz_result f t p w) hs2 → Q (some (.long (lz_result f t p w).1)) hs2) : mx_C mx_S0 l G (d + 1) mm_LBWorker_workResult [.ref (b + 7), .ref a, .int (nI p), .int (nI o)] hs Q := by
  have h1 := h.child hk
  obtain ⟨d, rfl⟩ : ∃ d', d = d' + 45 := ⟨d - 45, by have := h.2.2.2.2.2.2; omega⟩
  have s1 := hfo t (p + 1) k e w (by omega) hr h.1.ok
  refine wp_LBWorker_workResult_0 _ _ _ _ ⟨⟨_, h.1.at⟩, ?_⟩
  rw [nI_1 p, nI_1 o]
  refine hF _ hs A wq L w a t (p + 1) k e (o + 1) _ (by omega) hr (Or.inr hc) h1 (fun hs2 g => ⟨_, rfl, ?_⟩)
  obtain ⟨A2, wq2, L2, g1, g2, g3, g4, g5⟩ := g
  unfold lz_result at kk
  simp only at kk
  refine c_isFailure ⟨_, rfl, fun z => ?_, fun z => ?_⟩
  · have hb := lz_b0.mp z
    rw [if_neg (by rw [hb]; decide)] at kk
    refine c_isPlan ⟨_, rfl, fun x => ?_, fun x => ?_⟩
    · rw [if_neg (by rw [lz_b0.mp x]; decide)] at kk
      exact kk hs2 ⟨A2, wq2, L2, g1, g2, fun i hi => g3 i (by omega), g4, g5⟩
    · rw [if_pos (lz_b1.mp x)] at kk
      have hV : lz_V (f t (p + 1) w).2.2.2.2.2.1 (f t (p + 1) w).1 := s1.2.2.1.resolve_left (by rw [hb]; decide)
      refine ⟨_, ⟨_, g1.at, rfl⟩, ⟨_, g1.sto.at⟩, c_resultOf g1.sto hV (by omega) (fun hs3 q1 q2 q3 => ⟨_, rfl, kk hs3 ⟨A2, wq2, L2, ?_, g2.tr (q2.mono ?_), fun i hi => g3 i (by omega), ?_, ?_⟩⟩)⟩
      · have e1 := (lz_pt_sm 30 (f t (p + 1) w).2.2.2.2 (f t (p + 1) w).1).1
        obtain ⟨u1, u2, u3, u4, u5, u6, u7, u8⟩ := g1
        exact ⟨q2.1 _ _ u1 rfl, q2.1 _ _ u2 rfl, fun i hi => q2.1 _ _ (u3 i hi) rfl, q2.1 _ _ u4 rfl, u5, q1, fun i hi => u7 i (by rw [← e1]; exact hi), u8.mono q1.ok (Nat.le_of_eq e1.symm)⟩
      · intro k' hk'
        unfold lb_kw at hk'
        unfold lb_kb
        simp only [Bool.and_eq_true] at hk' ⊢
        exact ⟨hk'.1.1.1.1.2, hk'.1.1.1.2⟩
      · show hs3.2.1 = hs.2.1 + 2 * ((lz_pt 30 (f t (p + 1) w).2.2.2.2 (f t (p + 1) w).1).2.2.1 - w.2.2.2.2.1)
        rw [(lz_pt_sm 30 (f t (p + 1) w).2.2.2.2 (f t (p + 1) w).1).1, q3]
        exact g4
      · show hs3.2.2 ≤ hs.2.2 + 10 * ((lz_pt 30 (f t (p + 1) w).2.2.2.2 (f t (p + 1) w).1).2.2.1 - w.2.2.2.2.1)
        rw [(lz_pt_sm 30 (f t (p + 1) w).2.2.2.2 (f t (p + 1) w).1).1, q3]
        exact g5
  · rw [if_pos (lz_b1.mp z)] at kk
    exact kk hs2 ⟨A2, wq2, L2, g1, g2, fun i hi => g3 i (by omega), g4, g5⟩
/-- the list of a D -/
theorem lb_wp_loop (hF : lb_WF l G b T f n) (hfo : lz_fok T f) (hk : k + 1 ≤ 8) {mk : Nat} (hmk : mk < 10) (hcd : lz_cd t (p + 1) - 48 = nI mk) (hp : p < 2 ^ 20) (ho : o ≤ 72) (hd : 46 ≤ d) : ∀ (m q : Nat) (vs : List Int64) (hs : mx_H) (A : Nat → Nat) (wq : Nat → Int32) (L : List Int64) (w : lz_W), m + vs.length = 4 → lz_ls (lz_rd t k) t m q = (true, e) → lz_cd t (q - 1) ≠ 68 → lb_pre hs b T A wq L w a t n d (o + 1) k → (∀ i, i < vs.length → L[4 * o + i]? = vs[i]?) → (∀ v ∈ vs, lz_V w.2.2.2.2.1 v) →
    (∀ hs2, lb_post hs b T L w o (if lz_bad (lz_list f t m q vs w).1 = true then ((lz_list f t m q vs w).1, (lz_list f t m q vs w).2.2) else ((lz_of (lz_list f t m q vs w).2.2.2.2.2 (nI mk) (lz_list f t m q vs w).2.1).1, ((lz_list f t m q vs w).2.2.1, (lz_list f t m q vs w).2.2.2.1, (lz_list f t m q vs w).2.2.2.2.1, (lz_of (lz_list f t m q vs w).2.2.2.2.2 (nI mk) (lz_list f t m q vs w).2.1).2))) hs2 → Q (some (.long (if lz_bad (lz_list f t m q vs w).1 = true then ((lz_list f t m q vs w).1, (lz_list f t m q vs w).2.2) else ((lz_of (lz_list f t m q vs w).2.2.2.2.2 (nI mk) (lz_list f t m q vs w).2.1).1, ((lz_list f t m q vs w).2.2.1, (lz_list f t m q vs w).2.2.2.1, (lz_list f t m q vs w).2.2.2.2.1, (lz_of (lz_list f t m q vs w).2.2.2.2.2 (nI mk) (lz_list f t m q vs w).2.1).2))).1)) hs2) →
    mx_Ok mx_S0 l G (d + 1) mm_LBWorker_workPlan 13 [(0, .ref (b + 7)), (1, .ref a), (2, .int (nI p)), (3, .int (nI o)), (4, .int (nI (4 * o))), (5, .int (nI vs.length)), (6, .int (nI q))] [] hs Q := by
  have hend : ∀ (vs : List Int64) (hs : mx_H) (A : Nat → Nat) (wq : Nat → Int32) (L : List Int64) (w : lz_W), vs.length ≤ 4 → lb_pre hs b T A wq L w a t n d (o + 1) k → (∀ i, i < vs.length → L[4 * o + i]? = vs[i]?) → (∀ v ∈ vs, lz_V w.2.2.2.2.1 v) → (∀ hs2, lb_post hs b T L w o ((lz_of w.2.2.2 (nI mk) vs).1, (w.1, w.2.1, w.2.2.1, (lz_of w.2.2.2 (nI mk) vs).2)) hs2 → Q (some (.long (lz_of w.2.2.2 (nI mk) vs).1)) hs2) → mx_Ok mx_S0 l G (d + 1) mm_LBWorker_workPlan 79 [(0, .ref (b + 7)), (1, .ref a), (2, .int (nI p)), (4, .int (nI (4 * o))), (5, .int (nI vs.length))] [] hs Q := by
    intro vs hs A wq L w hvl h hL hV kk
    obtain ⟨d, rfl⟩ : ∃ d', d = d' + 2 := ⟨d - 2, by omega⟩
    obtain ⟨u1, u2, u3, u4, u5, u6, u7, u8⟩ := h.1
    have evs : (L.drop (4 * o)).take vs.length = vs := by
      apply List.ext_getElem?
      intro i
      rw [List.getElem?_take]
      by_cases hi : i < vs.length
      · rw [if_pos hi, List.getElem?_drop]
        exact hL i hi
      · rw [if_neg hi, List.getElem?_eq_none (by omega)]
    refine wp_LBWorker_workPlan_79 _ _ _ _ _ ⟨_, ⟨_, u1, rfl⟩, h.2.2.1.at, ?_⟩
    rw [nI_1 p]
    refine c_codeT h.2.2.1 (by omega) ⟨_, rfl, _, ⟨_, u1, rfl⟩, ⟨_, u6.at⟩, ?_⟩
    rw [hcd]
    have z := lz_of_st u6.ok hmk hvl hV
    refine c_planOf u6 u4 (by omega) (by omega) hvl hmk (by rw [evs]; exact hV) ?_
    rw [evs]
    intro hs2 A2 wq2 q1 q2 q3 q4 q5
    refine ⟨_, rfl, kk hs2 ⟨A2, wq2, L, ⟨q2.1 _ _ u1 rfl, q2.1 _ _ u2 rfl, fun i hi => q2.1 _ _ (u3 i hi) rfl, q2.1 _ _ u4 rfl, u5, q1, fun i hi => ?_, u8.mono z.1 z.2.1⟩, q2.mono ?_, fun _ _ => rfl, q3, q4⟩⟩
    · have w41 := u6.wf _ _ u4
      rcases q5 i hi with ⟨x1, x2⟩ | x
      · rw [x2]
        exact u7 i x1
      · omega
    · intro k' hk'
      unfold lb_kw at hk'
      unfold lb_kn
      simp only [Bool.and_eq_true] at hk' ⊢
      exact ⟨hk'.1.1.1.2, hk'.2⟩
  intro m
  induction m with
  | zero =>
    intro q vs hs A wq L w hm hr hz h hL hV kk
    rw [lz_list, if_neg (show ¬ lz_bad 0 = true by decide)] at kk
    refine wp_LBWorker_workPlan_13 _ _ _ _ _ _ _ ⟨fun _ => hend vs hs A wq L w (by omega) h hL hV kk, fun c => absurd (nI_le (a := 4) (by omega) (by omega)) c⟩
  | succ m ih =>
    intro q vs hs A wq L w hm hr hz h hL hV kk
    have htl := h.2.2.1.len
    have hb := lz_ls_b (lz_rd_b k) _ _ _ hr
    obtain ⟨d, rfl⟩ : ∃ d', d = d' + 2 := ⟨d - 2, by omega⟩
    refine wp_LBWorker_workPlan_13 _ _ _ _ _ _ _ ⟨fun c => absurd c (nI_ge (b := 4) (by omega) (by omega)), fun _ => ⟨h.2.2.1.at, c_codeT h.2.2.1 (by omega) ⟨_, rfl, fun c => ?_, fun c => ⟨⟨_, h.1.at⟩, ?_⟩⟩⟩⟩
    · rw [lz_list, if_pos c, if_neg (show ¬ lz_bad 0 = true by decide)] at kk
      exact hend vs hs A wq L w (by omega) h hL hV kk
    rw [nI_1 o]
    obtain ⟨g1, g2⟩ := lz_ls_s hr c
    have s1 := hfo t q k _ w (by omega) g1 h.1.ok
    refine hF _ hs A wq L w a t q k _ (o + 1) _ (by omega) g1 (Or.inr hz) h (fun hs2 g => ⟨_, rfl, ?_⟩)
    obtain ⟨A2, wq2, L2, p1, p2, p3, p4, p5⟩ := g
    rw [lz_list, if_neg c] at kk
    refine c_isFailure ⟨_, rfl, fun z => ?_, fun z => ?_⟩
    · have hbad := lz_b0.mp z
      rw [if_neg (show ¬ lz_bad (f t q w).1 = true by rw [hbad]; decide)] at kk
      have h2 := h.next s1 p1 p2
      have hL2 := p1.2.2.2.2.1
      refine ⟨_, ⟨_, p1.at, rfl⟩, _, p1.2.2.2.1, by rw [nI_add]; exact nI_pos (by omega), by rw [nI_add, nI_clamp (by omega), List.length_map]; omega, fun hs3 e3 => ?_⟩
      rw [nI_add, nI_clamp (by omega), ← List.map_set] at e3
      have p1' : lb_wk hs3 b T A2 wq2 (L2.set (4 * o + vs.length) (f t q w).1) (f t q w).2 := by
        rw [e3]
        exact p1.lset _ _
      have fr3 : mx_fr lb_kw hs2 hs3 := by
        rw [e3]
        exact mx_fr.st p1.2.2.2.1 rfl
      have z3 : hs3.2 = hs2.2 := by
        rw [e3]
        rfl
      have h3 : lb_pre hs3 b T A2 wq2 (L2.set (4 * o + vs.length) (f t q w).1) (f t q w).2 a t n (d + 2) (o + 1) k := by
        obtain ⟨q1, q2, q3, q4, q5, q6, q7⟩ := h2
        exact ⟨p1', q2.fr fr3 (fun _ _ => rfl), q3.fr fr3, q4, q5, q6, q7⟩
      refine ⟨h3.2.2.1.at, c_endT h3.2.2.1 (by omega) g1 (Or.inr hz) ⟨_, rfl, ?_⟩⟩
      rw [nI_1 vs.length, show vs.length + 1 = (vs ++ [(f t q w).1]).length by simp]
      rw [lz_nd_eq (by omega) g1] at kk
      have hbq := lz_rd_b _ _ _ g1
      refine ih (lz_rd t k q).2 (vs ++ [(f t q w).1]) hs3 A2 wq2 _ _ (by simp; omega) g2 (lz_rd_z _ _ _ g1) h3 (fun i hi => ?_) (fun v hv => ?_) (fun hs4 g' => kk hs4 ?_)
      · have hi : i < vs.length + 1 := by simpa using hi
        by_cases hi2 : i = vs.length
        · subst hi2
          rw [List.getElem?_set_self (by omega), List.getElem?_append_right (Nat.le_refl _), Nat.sub_self]
          rfl
        · rw [List.getElem?_set_ne (by omega), List.getElem?_append_left (by omega), p3 _ (by omega)]
          exact hL i (by omega)
      · rcases List.mem_append.mp hv with y | y
        · exact (hV v y).mono s1.2.1
        · rw [List.mem_singleton.mp y]
          exact s1.2.2.1.resolve_left (by rw [hbad]; decide)
      · have gm : (f t q w).2.2.2.2.2.1 ≤ (if lz_bad (lz_list f t m (lz_rd t k q).2 (vs ++ [(f t q w).1]) (f t q w).2).1 = true then ((lz_list f t m (lz_rd t k q).2 (vs ++ [(f t q w).1]) (f t q w).2).1, (lz_list f t m (lz_rd t k q).2 (vs ++ [(f t q w).1]) (f t q w).2).2.2) else ((lz_of (lz_list f t m (lz_rd t k q).2 (vs ++ [(f t q w).1]) (f t q w).2).2.2.2.2.2 (nI mk) (lz_list f t m (lz_rd t k q).2 (vs ++ [(f t q w).1]) (f t q w).2).2.1).1, ((lz_list f t m (lz_rd t k q).2 (vs ++ [(f t q w).1]) (f t q w).2).2.2.1, (lz_list f t m (lz_rd t k q).2 (vs ++ [(f t q w).1]) (f t q w).2).2.2.2.1, (lz_list f t m (lz_rd t k q).2 (vs ++ [(f t q w).1]) (f t q w).2).2.2.2.2.1, (lz_of (lz_list f t m (lz_rd t k q).2 (vs ++ [(f t q w).1]) (f t q w).2).2.2.2.2.2 (nI mk) (lz_list f t m (lz_rd t k q).2 (vs ++ [(f t q w).1]) (f t q w).2).2.1).2))).2.2.2.2.2.1 := by
          obtain ⟨q1, q2, q3⟩ := lz_list_st hfo (t := t) (k := k) (by omega) m (lz_rd t k q).2 e (vs ++ [(f t q w).1]) (f t q w).2 g2 (by simp; omega) (fun v hv => by
            rcases List.mem_append.mp hv with y | y
            · exact (hV v y).mono s1.2.1
            · rw [List.mem_singleton.mp y]
              exact s1.2.2.1.resolve_left (by rw [hbad]; decide)) s1.1
          split
          · exact q1.2.1
          · exact Nat.le_trans q1.2.1 (lz_of_st q1.1.2 hmk q2 q3).2.1
        exact lb_post.tr (r := f t q w) (o := o) (o2 := o) (p2.tr fr3) (fun i hi => by rw [List.getElem?_set_ne (by omega)]; exact p3 i (by omega)) (by rw [z3]; exact p4) (by rw [z3]; exact p5) (Nat.le_refl _) s1.2.1 gm g'
    · have hbad := lz_b1.mp z
      rw [if_pos hbad] at kk
      simp only [if_pos hbad] at kk
      exact kk hs2 ⟨A2, wq2, L2, p1, p2, fun i hi => p3 i (by omega), p4, p5⟩
end CW2
end
section
/-! THE CLASS works an EXPRESSION out: names, and all kinds together. -/
section CW3
variable {l : Launch} {G : mx_G} {d b a n o k p e : Nat} {hs : mx_H} {Q : Option Value → mx_H → Prop} {A : Nat → Nat} {wq : Nat → Int32} {L : List Int64} {w : lz_W} {T : Nat → List Int32} {t : List Int32} {f : lz_F}
theorem c_workPlan (hF : lb_WF l G b T f n) (hfo : lz_fok T f) (hk : k + 1 ≤ 8) (hr : lz_rd t (k + 1) p = (true, e)) (hc : lz_cd t p = 68) (h : lb_pre hs b T A wq L w a t n (d + 2) o (k + 1)) (kk : ∀ hs2, lb_post hs b T L w o (lz_plan f t p w) hs2 → Q (some (.long (lz_plan f t p w).1)) hs2) : mx_C mx_S0 l G (d + 1) mm_LBWorker_workPlan [.ref (b + 7), .ref a, .int (nI p), .int (nI o)] hs Q := by
  have h1 := h.child hk
  obtain ⟨g1, g2, g3⟩ := lz_rd_D hr hc
  obtain ⟨mk, m1, m2, -⟩ := lz_dg_n g1
  have hb := lz_rd_b _ _ _ hr
  have htl := h.2.2.1.len
  have hbz := lz_bz_le w
  have ho := h.2.2.2.2.2.1
  have hd := h.2.2.2.2.2.2
  unfold lz_plan at kk
  simp only at kk
  rw [m2] at kk
  refine wp_LBWorker_workPlan_0 _ _ _ _ ?_
  rw [show nI o * 4 = nI (4 * o) by rw [Nat.mul_comm]; exact pk_mul o 4, show nI p + 3 = nI (p + 3) from nI_add p 3]
  exact lb_wp_loop hF hfo hk m1 m2 (by omega) (by omega) (by omega) 4 (p + 3) [] hs A wq L w rfl g3 (by rw [show p + 3 - 1 = p + 2 by omega, g2]; decide) h1 (fun i hi => absurd hi (Nat.not_lt_zero i)) (fun v hv => by cases hv) kk
theorem c_workName {i : Nat} (hF : lb_WF l G b T f n) (hfo : lz_fok T f) (hi : i < 8) (hw : lb_wk hs b T A wq L w) (hts : lb_ts hs b T w) (hn : 200 ≤ w.2.1 + n) (h200 : w.2.1 ≤ 200) (ho : o ≤ 8 * lz_bz w + 8) (hd : 2 * (73 - o) + 48 ≤ d + 2) (kk : ∀ hs2, lb_post hs b T L w o (lz_name f T i w) hs2 → Q (some (.long (lz_name f T i w).1)) hs2) : mx_C mx_S0 l G (d + 1) mm_LBWorker_workName [.ref (b + 7), .int (nI i), .int (nI o)] hs Q := by
  obtain ⟨d, rfl⟩ : ∃ d', d = d' + 45 := ⟨d - 45, by omega⟩
  have hbz := lz_bz_le w
  have hnm := hw.name hi
  have pz : ∀ v : Int64, lb_post hs b T L w o (v, w) hs := fun v => ⟨A, wq, L, hw, mx_fr.rf, fun _ _ => rfl, by simp, by simp⟩
  unfold lz_name at kk
  refine wp_LBWorker_workName_0 _ _ _ ⟨_, ⟨_, hw.at, rfl⟩, _, _, hw.2.1, nI_pos (by omega), by rw [nI_clamp (by omega)]; exact lb_names hi, _, ⟨_, hnm, rfl⟩, fun z => ⟨_, ⟨_, hnm, rfl⟩, fun y => ⟨_, ⟨_, hnm, rfl⟩, fun x => ⟨_, hnm, fun hs1 e1 => ?_⟩, fun x => ⟨_, ⟨_, hnm, rfl⟩, ?_⟩⟩, fun y => ?_⟩, fun z => ?_⟩
  · have hb := lz_b1.mp z
    have hy := lz_b0.mp y
    rw [if_neg (by rw [hb]; decide), if_neg (by rw [hy]; decide), if_neg (not_not_intro x)] at kk
    have hok := hw.ok.1 i hi
    have hw1 : lb_wk hs1 b T A wq L (lz_setN w i ((w.1 i).1, true, (w.1 i).2.2)) := by
      rw [e1]
      exact hw.nset hi (x := ((w.1 i).1, true, (w.1 i).2.2)) hok
    have fr1 : mx_fr lb_kw hs hs1 := by
      rw [e1]
      exact mx_fr.st hnm rfl
    have z1 : hs1.2 = hs.2 := by
      rw [e1]
      rfl
    obtain ⟨w1, ew1⟩ : ∃ w1, w1 = lz_setN w i ((w.1 i).1, true, (w.1 i).2.2) := ⟨_, rfl⟩
    rw [← ew1] at hw1 kk
    have ew2 : w1.2 = w.2 := by rw [ew1]; rfl
    have ebz : lz_bz w1 = lz_bz w + 1 := by
      rw [ew1]
      exact lz_bz_set hi hy ((w.1 i).1, 0) (true, (w.1 i).2.2)
    have hb1 : ∀ j, j < 8 → (w1.1 j).1 = (w.1 j).1 := fun j hj => by
      rw [ew1]
      by_cases hij : j = i
      · subst hij
        simp [lz_setN]
      · simp [lz_setN, hij]
    have hts1 : lb_ts hs1 b T w1 := hts.fr fr1 hb1
    have hg := hok.1 hb
    have tg1 : lb_tg hs1 (b + 10 + 4 * i) (T i) := by
      obtain ⟨es, dp, bp, u1, u2⟩ := hts1 i hi
      exact ⟨es, dp, bp, u1, u2 (by rw [hb1 i hi]; exact hb)⟩
    refine ⟨_, ⟨_, hw1.name hi, rfl⟩, ⟨_, hw1.at⟩, ?_⟩
    rw [nI_1 o]
    have s1 := hfo (T i) 0 8 _ w1 (Nat.le_refl _) hg hw1.ok
    simp only at kk
    refine hF _ hs1 A wq L w1 (b + 10 + 4 * i) (T i) 0 8 _ (o + 1) _ (Nat.le_refl _) hg (Or.inl rfl) ⟨hw1, hts1, tg1, by rw [ew2]; exact hn, by rw [ew2]; exact h200, by rw [ebz]; omega, by omega⟩ (fun hs2 g => ⟨_, rfl, ?_⟩)
    obtain ⟨A2, wq2, L2, g1, g2, g3, g4, g5⟩ := g
    obtain ⟨r, er⟩ : ∃ r, r = f (T i) 0 w1 := ⟨_, rfl⟩
    rw [← er] at kk g1 g4 g5 s1 ⊢
    have hnm2 := g1.name hi
    refine ⟨_, hnm2, fun hs3 e3 => ?_⟩
    have hok2 := g1.ok.1 i hi
    have hw3 : lb_wk hs3 b T A2 wq2 L2 (lz_setN r.2 i ((r.2.1 i).1, false, (r.2.1 i).2.2)) := by
      rw [e3]
      exact g1.nset hi (x := ((r.2.1 i).1, false, (r.2.1 i).2.2)) hok2
    have fr3 : mx_fr lb_kw hs2 hs3 := by
      rw [e3]
      exact mx_fr.st hnm2 rfl
    have z3 : hs3.2 = hs2.2 := by
      rw [e3]
      rfl
    rw [ew2] at g4 g5
    refine c_isFailure ⟨_, rfl, fun y2 => ?_, fun y2 => ?_⟩
    · have hbad := lz_b1.mp y2
      rw [if_pos hbad] at kk
      exact kk hs3 ⟨A2, wq2, L2, hw3, fr1.tr (g2.tr fr3), fun j hj => g3 j (by omega), by rw [z3, g4, z1]; rfl, by rw [z3]; rw [z1] at g5; exact g5⟩
    · have hbad := lz_b0.mp (Decidable.not_not.mp y2)
      rw [if_neg (by rw [hbad]; decide)] at kk
      have hnm3 := hw3.name hi
      refine ⟨_, hnm3, fun hs4 e4 => ?_⟩
      have hV := s1.2.2.1.resolve_left (by rw [hbad]; decide)
      have hx3 : (lz_setN r.2 i ((r.2.1 i).1, false, (r.2.1 i).2.2)).1 i = ((r.2.1 i).1, false, (r.2.1 i).2.2) := by simp [lz_setN]
      rw [hx3] at e4
      have hw4 : lb_wk hs4 b T A2 wq2 L2 (lz_setN r.2 i ((r.2.1 i).1, false, r.1)) := by
        have := hw3.nset hi (x := ((r.2.1 i).1, false, r.1)) ⟨hok2.1, Or.inr hV⟩
        have e5 : lz_setN (lz_setN r.2 i ((r.2.1 i).1, false, (r.2.1 i).2.2)) i ((r.2.1 i).1, false, r.1) = lz_setN r.2 i ((r.2.1 i).1, false, r.1) := by
          refine Prod.ext (funext fun j => ?_) rfl
          simp only [lz_setN]
          by_cases hij : j = i
          · rw [if_pos hij, if_pos hij]
          · rw [if_neg hij, if_neg hij, if_neg hij]
        rw [e5] at this
        rw [e4]
        exact this
      have fr4 : mx_fr lb_kw hs3 hs4 := by
        rw [e4]
        exact mx_fr.st hnm3 rfl
      have z4 : hs4.2 = hs3.2 := by
        rw [e4]
        rfl
      exact kk hs4 ⟨A2, wq2, L2, hw4, fr1.tr (g2.tr (fr3.tr fr4)), fun j hj => g3 j (by omega), by rw [z4, z3, g4, z1]; rfl, by rw [z4, z3]; rw [z1] at g5; exact g5⟩
  · rw [if_neg (by rw [lz_b1.mp z]; decide), if_neg (by rw [lz_b0.mp y]; decide), if_pos x] at kk
    exact kk hs (pz _)
  · rw [if_neg (by rw [lz_b1.mp z]; decide), if_pos (lz_b1.mp y)] at kk
    exact kk hs (pz _)
  · rw [if_pos (lz_b0.mp (Decidable.not_not.mp z))] at kk
    exact kk hs (pz _)
theorem lb_work0 : lb_WF l G b T (lz_ev T 0) 0 := by
  intro d hs A wq L w a t p k e o Q hk hr hz h kk
  obtain ⟨h1, h2, h3, h4, h5, h6, h7⟩ := h
  obtain ⟨d, rfl⟩ : ∃ d', d = d' + 1 := ⟨d - 1, by omega⟩
  refine wp_LBWorker_work_0 _ _ _ _ ⟨_, ⟨_, h1.at, rfl⟩, fun _ => kk hs ⟨A, wq, L, h1, mx_fr.rf, fun _ _ => rfl, by simp [lz_ev], by simp [lz_ev]⟩, fun c => absurd (nI_le (a := 200) (by omega) (by omega)) c⟩
theorem lb_workS (ih : lb_WF l G b T (lz_ev T n) n) : lb_WF l G b T (lz_ev T (n + 1)) (n + 1) := by
  intro d hs A wq L w a t p k e o Q hk hr hz h kk
  have hd48 := h.2.2.2.2.2.2
  obtain ⟨d, rfl⟩ : ∃ d', d = d' + 2 := ⟨d - 2, by omega⟩
  have hfo := lz_ev_ok (T := T) n
  have hbz := lz_bz_le w
  have ho := h.2.2.2.2.2.1
  have htl := h.2.2.1.len
  have hb := lz_rd_b _ _ _ hr
  obtain ⟨k, rfl⟩ : ∃ k', k = k' + 1 := by
    cases k with
    | zero =>
      simp [lz_rd] at hr
    | succ k => exact ⟨k, rfl⟩
  refine wp_LBWorker_work_0 _ _ _ _ ⟨_, ⟨_, h.1.at, rfl⟩, fun c => ?_, fun c => ⟨fun _ => ⟨_, ⟨_, h.1.at, rfl⟩, _, h.1.at, fun hs1 e1 => ?_⟩, fun c2 => absurd (nI_le (b := 72) (by omega) (by omega)) c2⟩⟩
  · have : 200 ≤ w.2.1 := (nI_leI (a := 200) (by omega) (by have := h.2.2.2.2.1; omega)).mp c
    unfold lz_ev at kk
    rw [if_pos this] at kk
    exact kk hs ⟨A, wq, L, h.1, mx_fr.rf, fun _ _ => rfl, by simp, by simp⟩
  have hlt : ¬ 200 ≤ w.2.1 := fun q => c (nI_le (a := 200) q (by have := h.2.2.2.2.1; omega))
  unfold lz_ev at kk
  rw [if_neg hlt] at kk
  rw [nI_1 w.2.1] at e1
  obtain ⟨w1, ew⟩ : ∃ w1 : lz_W, w1 = (w.1, w.2.1 + 1, w.2.2) := ⟨_, rfl⟩
  rw [← ew] at kk
  have hw1 : lb_wk hs1 b T A wq L w1 := by
    rw [e1, ew]
    exact h.1.nums (w.2.1 + 1) w.2.2.1
  have fr1 : mx_fr lb_kw hs hs1 := by
    rw [e1]
    exact mx_fr.st h.1.at rfl
  have z1 : hs1.2 = hs.2 := by
    rw [e1]
    rfl
  have h1 : lb_pre hs1 b T A wq L w1 a t n (d + 2) o (k + 1) := by
    obtain ⟨q1, q2, q3, q4, q5, q6, q7⟩ := h
    rw [ew] at hw1 ⊢
    exact ⟨hw1, q2.fr fr1 (fun _ _ => rfl), q3.fr fr1, by show 200 ≤ w.2.1 + 1 + n; omega, by show w.2.1 + 1 ≤ 200; omega, q6, q7⟩
  have hst : lz_st T 1 w1 (lz_body (lz_ev T n) T t p w1) := by
    by_cases h84 : lz_cd t p = 84
    · exact lz_body_stT hfo hk hr hw1.ok h84
    · exact (lz_body_st hfo hk hr hw1.ok h84).up
  have kk1 : ∀ hs2, lb_post hs1 b T L w1 o (lz_body (lz_ev T n) T t p w1) hs2 → Q (some (.long (lz_body (lz_ev T n) T t p w1).1)) hs2 := fun hs2 g => kk hs2 (lb_post.tr (r := (0, w1)) (o2 := o) fr1 (fun _ _ => rfl) (by rw [z1, ew]; simp) (by rw [z1, ew]; simp) (Nat.le_refl _) (by rw [ew]; exact Nat.le_refl _) hst.2.1 g)
  clear kk
  unfold lz_body at kk1
  simp only at kk1
  obtain ⟨d, rfl⟩ : ∃ d', d = d' + 46 := ⟨d - 46, by omega⟩
  refine ⟨h1.2.2.1.at, c_codeT h1.2.2.1 (by omega) ⟨_, rfl, c_isDigit ⟨_, rfl, fun y => c_isLetter ⟨_, rfl, fun x => ?_, fun x => ?_⟩, fun y => ?_⟩⟩⟩
  · have y := lz_b0.mp y
    have x := lz_b0.mp x
    rw [if_neg (by rw [y]; decide), if_neg (by rw [x]; decide)] at kk1
    refine ⟨fun c1 => ⟨⟨_, hw1.at⟩, ?_⟩, fun c1 => ⟨⟨_, hw1.at⟩, ?_⟩, fun c1 => ⟨⟨_, hw1.at⟩, ?_⟩, fun c1 => ⟨⟨_, hw1.at⟩, ?_⟩, fun c1 => ⟨⟨_, hw1.at⟩, ?_⟩, fun c1 c2 c3 c4 c5 => ⟨⟨_, hw1.at⟩, ?_⟩⟩
    · obtain ⟨g1, g2, g3⟩ := lz_rd_op hr y x (by rw [c1]; decide)
      rw [c1, show lz_pa 33 = 1 by decide] at g3
      obtain ⟨f1, f2⟩ := lz_ps_s g3
      rw [if_neg (by rw [c1]; decide), if_pos c1] at kk1
      exact c_workAbort ih hfo hk f1 (by rw [c1]; decide) h1 (fun hs2 g => ⟨_, rfl, kk1 hs2 g⟩)
    · obtain ⟨g1, g2, g3⟩ := lz_rd_op hr y x (by rw [c1]; decide)
      rw [c1, show lz_pa 63 = 3 by decide] at g3
      obtain ⟨f1, f2⟩ := lz_ps_s g3
      obtain ⟨f3, f4⟩ := lz_ps_s f2
      obtain ⟨f5, f6⟩ := lz_ps_s f4
      rw [if_pos c1] at kk1
      exact c_workChoice ih hfo hk f1 f3 f5 (by rw [c1]; decide) h1 (fun hs2 g => ⟨_, rfl, kk1 hs2 g⟩)
    · rw [if_neg (by rw [c1]; decide), if_neg (by rw [c1]; decide), if_neg (by rw [c1]; decide), if_pos c1] at kk1
      exact c_workPlan ih hfo hk hr c1 h1 (fun hs2 g => ⟨_, rfl, kk1 hs2 g⟩)
    · obtain ⟨g1, g2, g3⟩ := lz_rd_op hr y x (by rw [c1]; decide)
      rw [c1, show lz_pa 79 = 1 by decide] at g3
      obtain ⟨f1, f2⟩ := lz_ps_s g3
      rw [if_neg (by rw [c1]; decide), if_neg (by rw [c1]; decide), if_neg (by rw [c1]; decide), if_neg (by rw [c1]; decide), if_pos c1] at kk1
      exact c_workResult ih hfo hk f1 (by rw [c1]; decide) h1 (fun hs2 g => ⟨_, rfl, kk1 hs2 g⟩)
    · obtain ⟨g1, g2, g3⟩ := lz_rd_op hr y x (by rw [c1]; decide)
      rw [c1, show lz_pa 84 = 2 by decide] at g3
      obtain ⟨f1, f2⟩ := lz_ps_s g3
      obtain ⟨f3, f4⟩ := lz_ps_s f2
      rw [if_neg (by rw [c1]; decide), if_neg (by rw [c1]; decide), if_pos c1] at kk1
      exact c_workTry ih hfo hk f1 (e := (lz_rd t k (lz_rd t k (p + 1)).2).2) f3 (by rw [c1]; decide) h1 (fun hs2 g => ⟨_, rfl, kk1 hs2 g⟩)
    · obtain ⟨g1, g2, g3⟩ := lz_rd_op hr y x c3
      rw [if_neg c2, if_neg c1, if_neg c5, if_neg c3, if_neg c4] at kk1
      have hpa : lz_pa (lz_cd t p) = 2 := by
        unfold lz_pa at g1 ⊢
        rw [if_neg (by rintro (q | q) <;> contradiction)] at g1 ⊢
        by_cases c6 : lz_cd t p = 43 ∨ lz_cd t p = 45 ∨ lz_cd t p = 42 ∨ lz_cd t p = 60 ∨ lz_cd t p = 84
        · rw [if_pos c6]
        · rw [if_neg c6, if_neg c2] at g1
          exact absurd rfl g1
      rw [hpa] at g3
      obtain ⟨f1, f2⟩ := lz_ps_s g3
      obtain ⟨f3, f4⟩ := lz_ps_s f2
      exact c_workPair ih hfo hk f1 (e := (lz_rd t k (lz_rd t k (p + 1)).2).2) f3 c3 (by omega) h1 (fun hs2 g => ⟨_, rfl, kk1 hs2 g⟩)
  · have y := lz_b0.mp y
    have x := lz_b1.mp x
    rw [if_neg (by rw [y]; decide), if_pos x] at kk1
    obtain ⟨m, m1, m2, -⟩ := lz_lt_n x
    rw [m2, nI_clamp (by omega)] at kk1
    refine ⟨⟨_, hw1.at⟩, ?_⟩
    rw [m2]
    obtain ⟨q1, q2, q3, q4, q5, q6, q7⟩ := h1
    exact c_workName ih hfo m1 q1 q2 q4 q5 (by omega) q7 (fun hs2 g => ⟨_, rfl, kk1 hs2 g⟩)
  · have y := lz_b1.mp y
    rw [if_pos y] at kk1
    exact kk1 hs1 ⟨A, wq, L, hw1, mx_fr.rf, fun _ _ => rfl, by simp, by simp⟩
theorem lb_work (n : Nat) : lb_WF l G b T (lz_ev T n) n := by
  induction n with
  | zero => exact lb_work0
  | succ n ih => exact lb_workS ih
end CW3
end
section
/-! THE CLASS's constructors. -/
section CIN
variable {l : Launch} {G : mx_G} {d : Nat} {hs : mx_H} {Q : Option Value → mx_H → Prop}
theorem c_TextInit {a : Nat} (ha : hs.1 a = some (1, [.null, .null, .int 0, .int 0, .int 0])) (hz : hs.2.1 = a + 1) (hw : mx_wf hs) (k : ∀ hs2, lb_tx hs2 a [] (List.replicate 24 0) 0 0 → (∀ q, q < a → hs2.1 q = hs.1 q) → hs2.2 = (a + 3, hs.2.2 + 48) → mx_wf hs2 → Q none hs2) : mx_C mx_S0 l G (d + 1) mm_LBText_init [.ref a] hs Q := by
  refine wp_LBText_init_0 _ (fun hs1 e1 => ?_)
  have w1 : mx_wf hs1 := by rw [e1]; exact hw.nw
  have a1 : hs1.1 a = some (1, [.null, .null, .int 0, .int 0, .int 0]) := by rw [e1, mx_nw_ne _ _ _ (by omega)]; exact ha
  have b1 : hs1.1 (a + 1) = some (100, List.replicate 24 (Value.int 0)) := by rw [e1, ← hz, mx_nw_eq]
  have z1 : hs1.2 = (a + 2, hs.2.2 + 24) := by rw [e1]; show (hs.2.1 + 1, hs.2.2 + 24) = _; rw [hz]
  refine ⟨_, a1, fun hs2 e2 => ?_⟩
  have w2 : mx_wf hs2 := by rw [e2]; exact w1.st a1
  have a2 : hs2.1 a = some (1, [.ref hs.2.1, .null, .int 0, .int 0, .int 0]) := by rw [e2, mx_st_eq]; rfl
  have b2 : hs2.1 (a + 1) = some (100, List.replicate 24 (Value.int 0)) := by rw [e2, mx_st_ne _ _ (by omega)]; exact b1
  have z2 : hs2.2 = (a + 2, hs.2.2 + 24) := by rw [e2]; exact z1
  have z21 : hs2.2.1 = a + 2 := by rw [z2]
  intro hs3 e3
  have w3 : mx_wf hs3 := by rw [e3]; exact w2.nw
  have a3 : hs3.1 a = some (1, [.ref hs.2.1, .null, .int 0, .int 0, .int 0]) := by rw [e3, mx_nw_ne _ _ _ (by omega)]; exact a2
  have b3 : hs3.1 (a + 1) = some (100, List.replicate 24 (Value.int 0)) := by rw [e3, mx_nw_ne _ _ _ (by omega)]; exact b2
  have c3 : hs3.1 (a + 2) = some (100, List.replicate 24 (Value.int 0)) := by rw [e3, ← z21, mx_nw_eq]
  have z3 : hs3.2 = (a + 3, hs.2.2 + 48) := by rw [e3]; show (hs2.2.1 + 1, hs2.2.2 + 24) = _; rw [z2]
  refine ⟨_, a3, fun hs4 e4 => ?_⟩
  refine k hs4 ⟨List.replicate 24 0, ?_, ?_, ?_, by simp, by simp, by simp, by simp, by omega⟩ (fun q hq => ?_) ?_ ?_
  · rw [e4, mx_st_eq, hz, z21]
    rfl
  · rw [e4, mx_st_ne _ _ (by omega), b3]
    rfl
  · rw [e4, mx_st_ne _ _ (by omega), c3]
    rfl
  · rw [e4, mx_st_ne _ _ (by omega), e3, mx_nw_ne _ _ _ (by omega), e2, mx_st_ne _ _ (by omega), e1, mx_nw_ne _ _ _ (by omega)]
  · rw [e4]
    exact z3
  · rw [e4]
    exact w3.st a3
theorem c_NameInit {a : Nat} (ha : hs.1 a = some (2, [.null, .int 0, .int 0, .long 0])) (hz : hs.2.1 = a + 1) (hw : mx_wf hs) (k : ∀ hs2, lb_tx hs2 (a + 1) [] (List.replicate 24 0) 0 0 → hs2.1 a = some (2, [.ref (a + 1), .int 0, .int 0, .long (-1000000000000)]) → (∀ q, q < a → hs2.1 q = hs.1 q) → hs2.2 = (a + 4, hs.2.2 + 53) → mx_wf hs2 → Q none hs2) : mx_C mx_S0 l G (d + 2) mm_LBName_init [.ref a] hs Q := by
  refine wp_LBName_init_0 _ (fun hs1 e1 => ?_)
  have w1 : mx_wf hs1 := by rw [e1]; exact hw.nw
  have a1 : hs1.1 a = some (2, [.null, .int 0, .int 0, .long 0]) := by rw [e1, mx_nw_ne _ _ _ (by omega)]; exact ha
  have b1 : hs1.1 hs.2.1 = some (1, [.null, .null, .int 0, .int 0, .int 0]) := by rw [e1, mx_nw_eq]
  have z1 : hs1.2 = (a + 2, hs.2.2 + 5) := by rw [e1]; show (hs.2.1 + 1, hs.2.2 + 5) = _; rw [hz]
  rw [hz] at b1 ⊢
  refine c_TextInit b1 (by rw [z1]) w1 (fun hs2 g1 g2 g3 g4 => ⟨rfl, _, (g2 a (by omega)).trans a1, fun hs3 e3 => ?_⟩)
  have a3 : hs3.1 a = some (2, [.ref (a + 1), .int 0, .int 0, .long 0]) := by rw [e3, mx_st_eq]; rfl
  refine ⟨_, a3, fun hs4 e4 => ?_⟩
  have k1 : mx_kp hs2 hs4 a 1 := by
    rw [e4, e3]
    exact (mx_kp.st (b := a) (by omega) (by omega)).tr (mx_kp.st (b := a) (by omega) (by omega))
  refine k hs4 (g1.kp k1 (by omega)) ?_ (fun q hq => ?_) ?_ ?_
  · rw [e4, mx_st_eq]
    rfl
  · rw [k1.1 q (by omega), g2 q (by omega), e1, mx_nw_ne _ _ _ (by omega)]
  · rw [k1.2, g3, z1]
  · rw [e4, e3]
    exact (g4.st ((g2 a (by omega)).trans a1)).st (mx_st_eq _ _ _)
theorem c_StoreInit {a : Nat} (ha : hs.1 a = some (4, [.null, .null, .int 0, .int 0])) (hz : hs.2.1 = a + 1) (hw : mx_wf hs) (k : ∀ hs2, lb_st hs2 a (fun _ => 0) (fun _ => 0) (fun _ => (0, [], false, 0, false), 0, fun _ => 0, 0) → (∀ q, q < a → hs2.1 q = hs.1 q) → hs2.2 = (a + 3, hs.2.2 + 40) → Q none hs2) : mx_C mx_S0 l G (d + 1) mm_LBStore_init [.ref a] hs Q := by
  refine wp_LBStore_init_0 _ (fun hs1 e1 => ?_)
  have w1 : mx_wf hs1 := by rw [e1]; exact hw.nw
  have a1 : hs1.1 a = some (4, [.null, .null, .int 0, .int 0]) := by rw [e1, mx_nw_ne _ _ _ (by omega)]; exact ha
  have b1 : hs1.1 (a + 1) = some (113, List.replicate 30 Value.null) := by rw [e1, ← hz, mx_nw_eq]
  have z1 : hs1.2 = (a + 2, hs.2.2 + 30) := by rw [e1]; show (hs.2.1 + 1, hs.2.2 + 30) = _; rw [hz]
  refine ⟨_, a1, fun hs2 e2 => ?_⟩
  have w2 : mx_wf hs2 := by rw [e2]; exact w1.st a1
  have a2 : hs2.1 a = some (4, [.ref hs.2.1, .null, .int 0, .int 0]) := by rw [e2, mx_st_eq]; rfl
  have b2 : hs2.1 (a + 1) = some (113, List.replicate 30 Value.null) := by rw [e2, mx_st_ne _ _ (by omega)]; exact b1
  have z2 : hs2.2 = (a + 2, hs.2.2 + 30) := by rw [e2]; exact z1
  have z21 : hs2.2.1 = a + 2 := by rw [z2]
  intro hs3 e3
  have w3 : mx_wf hs3 := by rw [e3]; exact w2.nw
  have a3 : hs3.1 a = some (4, [.ref hs.2.1, .null, .int 0, .int 0]) := by rw [e3, mx_nw_ne _ _ _ (by omega)]; exact a2
  have b3 : hs3.1 (a + 1) = some (113, List.replicate 30 Value.null) := by rw [e3, mx_nw_ne _ _ _ (by omega)]; exact b2
  have c3 : hs3.1 (a + 2) = some (100, List.replicate 10 (Value.int 0)) := by rw [e3, ← z21, mx_nw_eq]
  have z3 : hs3.2 = (a + 3, hs.2.2 + 40) := by rw [e3]; show (hs2.2.1 + 1, hs2.2.2 + 10) = _; rw [z2]
  refine ⟨_, a3, fun hs4 e4 => ?_⟩
  refine k hs4 ⟨?_, ⟨List.replicate 30 Value.null, ?_, by simp, fun i hi => absurd hi (Nat.not_lt_zero i)⟩, ⟨List.replicate 10 0, ?_, by simp, fun i hi => ?_⟩, fun i hi => absurd hi (Nat.not_lt_zero i), fun i hi => absurd hi (Nat.not_lt_zero i), fun i j _ hj => absurd hj (Nat.not_lt_zero j), ⟨Nat.zero_le _, fun i hi => absurd hi (Nat.not_lt_zero i), fun b hb => ⟨0, by omega, rfl⟩⟩, ?_⟩ (fun q hq => ?_) ?_
  · rw [e4, mx_st_eq, hz, z21]
    rfl
  · rw [e4, mx_st_ne _ _ (by omega), b3]
  · rw [e4, mx_st_ne _ _ (by omega), c3]
    rfl
  · rw [List.getElem?_replicate, if_pos hi]
  · rw [e4]
    exact w3.st a3
  · rw [e4, mx_st_ne _ _ (by omega), e3, mx_nw_ne _ _ _ (by omega), e2, mx_st_ne _ _ (by omega), e1, mx_nw_ne _ _ _ (by omega)]
  · rw [e4]
    exact z3
theorem c_WorkerInit {a s : Nat} (ha : hs.1 a = some (5, [.null, .null, .null, .int 0, .int 0])) (hz : hs.2.1 = a + 1) (hw : mx_wf hs) (k : ∀ hs2, hs2.1 a = some (5, [.ref (a + 1), .ref s, .ref (a + 34), .int 0, .int 0]) → hs2.1 (a + 1) = some (112, (List.range 8).map (fun i => Value.ref (a + 2 + 4 * i))) → (∀ i, i < 8 → hs2.1 (a + 2 + 4 * i) = some (2, [.ref (a + 3 + 4 * i), .int 0, .int 0, .long (-1000000000000)]) ∧ lb_tx hs2 (a + 3 + 4 * i) [] (List.replicate 24 0) 0 0) → hs2.1 (a + 34) = some (102, (List.replicate 292 (0 : Int64)).map Value.long) → (∀ q, q < a → hs2.1 q = hs.1 q) → hs2.2 = (a + 35, hs.2.2 + 756) → mx_wf hs2 → Q none hs2) : mx_C mx_S0 l G (d + 3) mm_LBWorker_init [.ref a, .ref s] hs Q := by
  refine wp_LBWorker_init_0 _ _ ⟨_, ha, fun hs1 e1 => ?_⟩
  have w1 : mx_wf hs1 := by rw [e1]; exact hw.st ha
  have a1 : hs1.1 a = some (5, [.null, .ref s, .null, .int 0, .int 0]) := by rw [e1, mx_st_eq]; rfl
  have z1 : hs1.2 = hs.2 := by rw [e1]; rfl
  have o1 : ∀ q, q < a → hs1.1 q = hs.1 q := fun q hq => by rw [e1, mx_st_ne _ _ (by omega)]
  intro hs2 e2
  have z11 : hs1.2.1 = a + 1 := by rw [z1, hz]
  have w2 : mx_wf hs2 := by rw [e2]; exact w1.nw
  have a2 : hs2.1 a = some (5, [.null, .ref s, .null, .int 0, .int 0]) := by rw [e2, mx_nw_ne _ _ _ (by omega)]; exact a1
  have b2 : hs2.1 (a + 1) = some (112, List.replicate 8 Value.null) := by rw [e2, ← z11, mx_nw_eq]
  have z2 : hs2.2 = (a + 2, hs.2.2 + 8) := by rw [e2]; show (hs1.2.1 + 1, hs1.2.2 + 8) = _; rw [z1, hz]
  have o2 : ∀ q, q < a → hs2.1 q = hs.1 q := fun q hq => by rw [e2, mx_nw_ne _ _ _ (by omega)]; exact o1 q hq
  refine ⟨_, a2, fun hs3 e3 => ?_⟩
  rw [z11] at e3
  have W : ∀ (n i : Nat) (hs4 : mx_H) (vs : List Value), i + n = 8 → hs4.1 a = some (5, [.ref (a + 1), .ref s, .null, .int 0, .int 0]) → hs4.1 (a + 1) = some (112, vs) → vs.length = 8 → (∀ j, j < i → vs[j]? = some (.ref (a + 2 + 4 * j))) → (∀ j, j < i → hs4.1 (a + 2 + 4 * j) = some (2, [.ref (a + 3 + 4 * j), .int 0, .int 0, .long (-1000000000000)]) ∧ lb_tx hs4 (a + 3 + 4 * j) [] (List.replicate 24 0) 0 0) → (∀ q, q < a → hs4.1 q = hs.1 q) → hs4.2 = (a + 2 + 4 * i, hs.2.2 + 8 + 57 * i) → mx_wf hs4 → mx_Ok mx_S0 l G (d + 3) mm_LBWorker_init 20 [(0, .ref a), (2, .int (nI i))] [] hs4 Q := by
    intro n
    induction n with
    | zero =>
      intro i hs4 vs hi q1 q2 q3 q4 q5 q6 q7 q8
      have hi8 : i = 8 := by omega
      subst hi8
      refine wp_LBWorker_init_20 _ _ ⟨fun _ hs5 e5 => ?_, fun c => absurd (by decide) c⟩
      have z41 : hs4.2.1 = a + 34 := by rw [q7]
      have a5 : hs5.1 a = some (5, [.ref (a + 1), .ref s, .null, .int 0, .int 0]) := by rw [e5, mx_nw_ne _ _ _ (by omega)]; exact q1
      refine ⟨_, a5, fun hs6 e6 => ?_⟩
      have h6 : ∀ q, q ≠ a → q ≠ a + 34 → hs6.1 q = hs4.1 q := fun q x1 x2 => by rw [e6, mx_st_ne _ _ x1, e5, mx_nw_ne _ _ _ (by omega)]
      have evs : vs = (List.range 8).map (fun i => Value.ref (a + 2 + 4 * i)) := by
        apply List.ext_getElem?
        intro j
        rcases Nat.lt_or_ge j 8 with x | x
        · rw [q4 j x, List.getElem?_map, List.getElem?_range x]
          rfl
        · rw [List.getElem?_eq_none (by omega), List.getElem?_eq_none (by simp; omega)]
      refine k hs6 ?_ ?_ (fun j hj => ?_) ?_ (fun q hq => ?_) ?_ ?_
      · rw [e6, mx_st_eq, z41]
        rfl
      · rw [h6 _ (by omega) (by omega), q2, evs]
      · obtain ⟨u1, u2⟩ := q5 j hj
        refine ⟨by rw [h6 _ (by omega) (by omega)]; exact u1, ?_⟩
        obtain ⟨cs, v0, v1, v2, v3⟩ := u2
        exact ⟨cs, by rw [h6 _ (by omega) (by omega)]; exact v0, by rw [h6 _ (by omega) (by omega)]; exact v1, by rw [h6 _ (by omega) (by omega)]; exact v2, v3⟩
      · rw [e6, mx_st_ne _ _ (by omega), e5, ← z41, mx_nw_eq, List.map_replicate]
      · rw [h6 _ (by omega) (by omega)]
        exact q6 q hq
      · rw [e6]
        show hs5.2 = _
        rw [e5]
        show (hs4.2.1 + 1, hs4.2.2 + 292) = _
        rw [q7]
      · rw [e6]
        refine mx_wf.st ?_ a5
        rw [e5]
        exact q8.nw
    | succ n ih =>
      intro i hs4 vs hi q1 q2 q3 q4 q5 q6 q7 q8
      refine wp_LBWorker_init_20 _ _ ⟨fun c => absurd c (nI_ge (b := 8) (by omega) (by omega)), fun _ => ⟨_, ⟨_, q1, rfl⟩, fun hs5 e5 => ?_⟩⟩
      have z41 : hs4.2.1 = a + 2 + 4 * i := by rw [q7]
      have w5 : mx_wf hs5 := by rw [e5]; exact q8.nw
      have a5 : hs5.1 (a + 2 + 4 * i) = some (2, [.null, .int 0, .int 0, .long 0]) := by rw [e5, ← z41, mx_nw_eq]
      have o5 : ∀ q, q < a + 2 + 4 * i → hs5.1 q = hs4.1 q := fun q hq => by rw [e5, mx_nw_ne _ _ _ (by omega)]
      have z5 : hs5.2 = (a + 3 + 4 * i, hs.2.2 + 12 + 57 * i) := by
        rw [e5]
        show (hs4.2.1 + 1, hs4.2.2 + 4) = _
        rw [q7]
        exact Prod.ext (by simp only; omega) (by simp only; omega)
      rw [z41]
      refine c_NameInit a5 (by rw [z5]; simp only; omega) w5 (fun hs6 g1 g2 g3 g4 g5 => ⟨rfl, ?_⟩)
      have o6 : ∀ q, q < a + 2 + 4 * i → hs6.1 q = hs4.1 q := fun q hq => (g3 q hq).trans (o5 q hq)
      refine ⟨_, (o6 _ (by omega)).trans q2, nI_pos (by omega), by rw [nI_clamp (by omega)]; omega, ⟨_, g2⟩, fun hs7 e7 => ?_⟩
      rw [nI_clamp (by omega)] at e7
      rw [nI_1 i]
      have k7 : mx_kp hs6 hs7 (a + 1) 1 := by
        rw [e7]
        exact mx_kp.st (by omega) (by omega)
      refine ih (i + 1) hs7 (vs.set i (.ref (a + 2 + 4 * i))) (by omega) ?_ ?_ (by rw [List.length_set]; exact q3) (fun j hj => ?_) (fun j hj => ?_) (fun q hq => ?_) ?_ ?_
      · rw [k7.1 _ (by omega), o6 _ (by omega)]
        exact q1
      · rw [e7, mx_st_eq]
      · by_cases hj2 : j = i
        · subst hj2
          rw [List.getElem?_set_self (by omega)]
        · rw [List.getElem?_set_ne (by omega)]
          exact q4 j (by omega)
      · by_cases hj2 : j = i
        · subst hj2
          refine ⟨?_, ?_⟩
          · rw [k7.1 _ (by omega), g2, show a + 2 + 4 * j + 1 = a + 3 + 4 * j by omega]
          · have := g1.kp k7 (by omega)
            rw [show a + 2 + 4 * j + 1 = a + 3 + 4 * j by omega] at this
            exact this
        · obtain ⟨u1, u2⟩ := q5 j (by omega)
          refine ⟨by rw [k7.1 _ (by omega), o6 _ (by omega)]; exact u1, ?_⟩
          obtain ⟨cs, v0, v1, v2, v3⟩ := u2
          exact ⟨cs, by rw [k7.1 _ (by omega), o6 _ (by omega)]; exact v0, by rw [k7.1 _ (by omega), o6 _ (by omega)]; exact v1, by rw [k7.1 _ (by omega), o6 _ (by omega)]; exact v2, v3⟩
      · rw [k7.1 _ (by omega), o6 _ (by omega)]
        exact q6 q hq
      · rw [k7.2, g4, z5]
        exact Prod.ext (by simp only; omega) (by simp only; omega)
      · rw [e7]
        exact g5.st ((o6 _ (by omega)).trans q2)
  refine W 8 0 hs3 (List.replicate 8 .null) rfl ?_ ?_ (by simp) (fun j hj => absurd hj (Nat.not_lt_zero j)) (fun j hj => absurd hj (Nat.not_lt_zero j)) (fun q hq => ?_) ?_ ?_
  · rw [e3, mx_st_eq]
    rfl
  · rw [e3, mx_st_ne _ _ (by omega)]
    exact b2
  · rw [e3, mx_st_ne _ _ (by omega)]
    exact o2 q hq
  · rw [e3]
    exact z2
  · rw [e3]
    exact w2.st a2
end CIN
end
section
/-! THE CLASS: names are bound, forgotten, counted. -/
section CNM
variable {l : Launch} {G : mx_G} {d b : Nat} {hs : mx_H} {Q : Option Value → mx_H → Prop} {A : Nat → Nat} {wq : Nat → Int32} {L : List Int64} {w : lz_W} {T : Nat → List Int32} {t : List Int32}
theorem lz_c24 : Int32.toNatClampNeg 24 = 24 := rfl
theorem lz_c0 : Int32.toNatClampNeg 0 = 0 := rfl
theorem lz_cp24 {x y : List Value} (hx : x.length = 24) (hy : y.length = 24) : mx_cpy x y 0 0 24 = x := by
  unfold mx_cpy
  rw [List.take_zero, List.nil_append, List.drop_zero, List.take_of_length_le (by omega), List.drop_eq_nil_of_le (by omega), List.append_nil]
theorem lz_fitI {cs : List Int32} : ∀ v ∈ cs.map Value.int, fits .int v = true ∧ ∀ x, v ≠ .ref x := by
  intro v hv
  obtain ⟨x, -, rfl⟩ := List.mem_map.mp hv
  exact ⟨rfl, fun _ z => by cases z⟩
theorem c_copyFrom {a c : Nat} {t t2 es es2 : List Int32} {dp dp2 : Nat} {bp bp2 : Int32} (h : lb_tx hs a t es dp bp) (h2 : lb_tx hs c t2 es2 dp2 bp2) (hac : a + 3 ≤ c ∨ c + 3 ≤ a) (k : ∀ hs2, lb_tx hs2 a t2 es2 dp2 bp → mx_kp hs hs2 a 3 → Q none hs2) : mx_C mx_S0 l G (d + 1) mm_LBText_copyFrom [.ref a, .ref c] hs Q := by
  obtain ⟨cs, h0, h1, h2', h3, h4, h5, h6, h7⟩ := h
  obtain ⟨cs2, g0, g1, g2, g3, g4, g5, g6, g7⟩ := h2
  refine wp_LBText_copyFrom_0 _ _ ⟨_, ⟨_, g0, rfl⟩, _, ⟨_, h0, rfl⟩, _, _, g1, h1, by decide, by decide, by decide, by rw [lz_c24, lz_c0, List.length_map]; omega, by rw [lz_c24, lz_c0, List.length_map]; omega, lz_fitI, fun hs1 e1 => ?_⟩
  rw [lz_c24, lz_c0, lz_cp24 (by rw [List.length_map]; exact g3) (by rw [List.length_map]; exact h3)] at e1
  have o1 : ∀ q, q ≠ a + 1 → hs1.1 q = hs.1 q := fun q hq => by rw [e1, mx_st_ne _ _ hq]
  refine ⟨_, ⟨_, (o1 _ (by omega)).trans g0, rfl⟩, _, ⟨_, (o1 _ (by omega)).trans h0, rfl⟩, _, _, (o1 _ (by omega)).trans g2, (o1 _ (by omega)).trans h2', by decide, by decide, by decide, by rw [lz_c24, lz_c0, List.length_map]; omega, by rw [lz_c24, lz_c0, List.length_map]; omega, lz_fitI, fun hs2 e2 => ?_⟩
  rw [lz_c24, lz_c0, lz_cp24 (by rw [List.length_map]; exact g4) (by rw [List.length_map]; exact h4)] at e2
  have o2 : ∀ q, q ≠ a + 1 → q ≠ a + 2 → hs2.1 q = hs.1 q := fun q x y => by rw [e2, mx_st_ne _ _ y]; exact o1 q x
  refine ⟨_, ⟨_, (o2 _ (by omega) (by omega)).trans g0, rfl⟩, _, (o2 _ (by omega) (by omega)).trans h0, fun hs3 e3 => ?_⟩
  have o3 : ∀ q, q ≠ a → q ≠ a + 1 → q ≠ a + 2 → hs3.1 q = hs.1 q := fun q z x y => by rw [e3, mx_st_ne _ _ z]; exact o2 q x y
  refine ⟨_, ⟨_, (o3 _ (by omega) (by omega) (by omega)).trans g0, rfl⟩, _, by rw [e3]; exact mx_st_eq _ _ _, fun hs4 e4 => ?_⟩
  have o4 : ∀ q, q ≠ a → q ≠ a + 1 → q ≠ a + 2 → hs4.1 q = hs.1 q := fun q z x y => by rw [e4, mx_st_ne _ _ z]; exact o3 q z x y
  refine k hs4 ⟨cs2, ?_, ?_, ?_, g3, g4, g5, g6, g7⟩ ⟨fun q hq => o4 q (by omega) (by omega) (by omega), ?_⟩
  · rw [e4, mx_st_eq]
    rfl
  · rw [e4, mx_st_ne _ _ (by omega), e3, mx_st_ne _ _ (by omega), e2, mx_st_ne _ _ (by omega), e1, mx_st_eq]
  · rw [e4, mx_st_ne _ _ (by omega), e3, mx_st_ne _ _ (by omega), e2, mx_st_eq]
  · rw [e4, e3, e2, e1]
    rfl
/-- all VALUES kept are forgotten -/
def lz_fg (w : lz_W) : lz_W := (fun i => ((w.1 i).1, (w.1 i).2.1, -1000000000000), w.2)
/-- a Name's cells and those of its Text lie in [b + 9, b + 41): the kinds that a name's change leaves -/
def lb_kk : Nat → Bool := fun k => !(k == 2)
theorem c_forgetValues (h : lb_wk hs b T A wq L w) (k : ∀ hs2, lb_wk hs2 b T A wq L (lz_fg w) → mx_fr lb_kk hs hs2 → hs2.2 = hs.2 → Q none hs2) : mx_C mx_S0 l G (d + 1) mm_LBWorker_forgetValues [.ref (b + 7)] hs Q := by
  have W : ∀ (n i : Nat) (hs1 : mx_H) (u : lz_W), i + n = 8 → lb_wk hs1 b T A wq L u → u.2 = w.2 → (∀ j, u.1 j = if j < i then ((w.1 j).1, (w.1 j).2.1, -1000000000000) else w.1 j) → mx_fr lb_kk hs hs1 → hs1.2 = hs.2 → mx_Ok mx_S0 l G (d + 1) mm_LBWorker_forgetValues 2 [(0, .ref (b + 7)), (1, .int (nI i))] [] hs1 Q := by
    intro n
    induction n with
    | zero =>
      intro i hs1 u hi h1 hu hj hf hz
      have hi8 : i = 8 := by omega
      subst hi8
      refine wp_LBWorker_forgetValues_2 _ _ ⟨fun _ => k hs1 ?_ hf hz, fun c => absurd (by decide) c⟩
      obtain ⟨q1, q2, q3, q4, q5, q6, q7, q8⟩ := h1
      rw [hu] at q1 q6 q7
      refine ⟨q1, q2, fun i hi => ?_, q4, q5, q6, q7, ⟨fun i hi => ?_, ?_⟩⟩
      · rw [q3 i hi, hj i, if_pos hi]
        rfl
      · refine ⟨(h.ok.1 i hi).1, Or.inl rfl⟩
      · exact h.ok.2
    | succ n ih =>
      intro i hs1 u hi h1 hu hj hf hz
      have hi8 : i < 8 := by omega
      have hui : u.1 i = w.1 i := by rw [hj i, if_neg (by omega)]
      refine wp_LBWorker_forgetValues_2 _ _ ⟨fun c => absurd c (nI_ge (b := 8) (by omega) (by omega)), fun _ => ⟨_, ⟨_, h1.at, rfl⟩, _, _, h1.2.1, nI_pos (by omega), by rw [nI_clamp (by omega)]; exact lb_names hi8, _, h1.name hi8, fun hs2 e2 => ?_⟩⟩
      rw [nI_1 i]
      refine ih (i + 1) hs2 (lz_setN u i ((u.1 i).1, (u.1 i).2.1, -1000000000000)) (by omega) ?_ hu (fun j => ?_) ?_ ?_
      · rw [e2]
        exact h1.nset hi8 (x := ((u.1 i).1, (u.1 i).2.1, -1000000000000)) ⟨(h1.ok.1 i hi8).1, Or.inl rfl⟩
      · simp only [lz_setN]
        by_cases hji : j = i
        · rw [if_pos hji, if_pos (by omega), hji, hui]
        · rw [if_neg hji, hj j]
          by_cases hlt : j < i
          · rw [if_pos hlt, if_pos (by omega)]
          · rw [if_neg hlt, if_neg (by omega)]
      · rw [e2]
        exact hf.tr (mx_fr.st (h1.name hi8) rfl)
      · rw [e2]
        exact hz
  exact wp_LBWorker_forgetValues_0 _ (W 8 0 hs w rfl h rfl (fun j => by rw [if_neg (Nat.not_lt_zero j)]) mx_fr.rf rfl)
def lz_cnt (g : Nat → Bool) : Nat → Nat
  | 0 => 0
  | n + 1 => lz_cnt g n + lz_b' (g n)
theorem lz_cnt_le (g : Nat → Bool) : ∀ n, lz_cnt g n ≤ n := by
  intro n
  induction n with
  | zero => exact Nat.le_refl _
  | succ n ih =>
    have : lz_b' (g n) ≤ 1 := by cases g n <;> decide
    unfold lz_cnt
    omega
theorem lz_bn (x : Bool) (n : Nat) : nI n + lz_b x = nI (n + lz_b' x) := by
  cases x
  · exact nI_add n 0
  · exact nI_add n 1
theorem c_namesBound (h : lb_wk hs b T A wq L w) (k : Q (some (.int (nI (lz_cnt (fun i => (w.1 i).1) 8)))) hs) : mx_C mx_S0 l G (d + 1) mm_LBWorker_namesBound [.ref (b + 7)] hs Q := by
  have W : ∀ (n i : Nat), i + n = 8 → mx_Ok mx_S0 l G (d + 1) mm_LBWorker_namesBound 4 [(0, .ref (b + 7)), (1, .int (nI (lz_cnt (fun i => (w.1 i).1) i))), (2, .int (nI i))] [] hs Q := by
    intro n
    induction n with
    | zero =>
      intro i hi
      have hi8 : i = 8 := by omega
      subst hi8
      exact wp_LBWorker_namesBound_4 _ _ _ ⟨fun _ => k, fun c => absurd (by decide) c⟩
    | succ n ih =>
      intro i hi
      have hi8 : i < 8 := by omega
      have hx : ∀ x : Int32, x = lz_b (w.1 i).1 → mx_Ok mx_S0 l G (d + 1) mm_LBWorker_namesBound 28 [(0, .ref (b + 7)), (2, .int (nI i))] [.int x, .int (nI (lz_cnt (fun i => (w.1 i).1) i))] hs Q := by
        intro x ex
        refine wp_LBWorker_namesBound_28 _ _ _ _ ?_
        rw [ex, lz_bn, nI_1]
        exact ih (i + 1) (by omega)
      refine wp_LBWorker_namesBound_4 _ _ _ ⟨fun c => absurd c (nI_ge (b := 8) (by omega) (by omega)), fun _ => ⟨_, ⟨_, h.at, rfl⟩, _, _, h.2.1, nI_pos (by omega), by rw [nI_clamp (by omega)]; exact lb_names hi8, _, ⟨_, h.name hi8, rfl⟩, fun z => hx 0 z.symm, fun z => hx 1 (by rw [lz_b1.mp z]; rfl)⟩⟩
  exact wp_LBWorker_namesBound_0 _ (W 8 0 rfl)
theorem c_namesKept (h : lb_wk hs b T A wq L w) (k : Q (some (.int (nI (lz_cnt (fun i => decide (¬ (w.1 i).2.2 = -1000000000000)) 8)))) hs) : mx_C mx_S0 l G (d + 1) mm_LBWorker_namesKept [.ref (b + 7)] hs Q := by
  have W : ∀ (n i : Nat), i + n = 8 → mx_Ok mx_S0 l G (d + 1) mm_LBWorker_namesKept 4 [(0, .ref (b + 7)), (1, .int (nI (lz_cnt (fun i => decide (¬ (w.1 i).2.2 = -1000000000000)) i))), (2, .int (nI i))] [] hs Q := by
    intro n
    induction n with
    | zero =>
      intro i hi
      have hi8 : i = 8 := by omega
      subst hi8
      exact wp_LBWorker_namesKept_4 _ _ _ ⟨fun _ => k, fun c => absurd (by decide) c⟩
    | succ n ih =>
      intro i hi
      have hi8 : i < 8 := by omega
      have hx : ∀ x : Int32, x = lz_b (decide (¬ (w.1 i).2.2 = -1000000000000)) → mx_Ok mx_S0 l G (d + 1) mm_LBWorker_namesKept 32 [(0, .ref (b + 7)), (2, .int (nI i))] [.int x, .int (nI (lz_cnt (fun i => decide (¬ (w.1 i).2.2 = -1000000000000)) i))] hs Q := by
        intro x ex
        refine wp_LBWorker_namesKept_32 _ _ _ _ ?_
        rw [ex, lz_bn, nI_1]
        exact ih (i + 1) (by omega)
      refine wp_LBWorker_namesKept_4 _ _ _ ⟨fun c => absurd c (nI_ge (b := 8) (by omega) (by omega)), fun _ => ⟨_, ⟨_, h.at, rfl⟩, _, _, h.2.1, nI_pos (by omega), by rw [nI_clamp (by omega)]; exact lb_names hi8, _, ⟨_, h.name hi8, rfl⟩, fun z => hx 0 (by rw [decide_eq_false (not_not_intro z)]; rfl), fun z => hx 1 (by rw [decide_eq_true z]; rfl)⟩⟩
  exact wp_LBWorker_namesKept_0 _ (W 8 0 rfl)
theorem lb_st.kp {s a n : Nat} {S : lz_S} {hs1 : mx_H} (h : lb_st hs s A wq S) (k : mx_kp hs hs1 a n) (h1 : s + 3 ≤ a ∨ a + n ≤ s) (h2 : ∀ i, i < S.2.1 → a + n ≤ A i ∨ A i + 2 ≤ a) (h3 : a + n ≤ hs.2.1) : lb_st hs1 s A wq S := by
  obtain ⟨g1, ⟨ps, g2, g3⟩, ⟨ks, g4, g5⟩, g6, g7, g8, g9, g10⟩ := h
  refine ⟨(k.1 _ (by omega)).trans g1, ⟨ps, (k.1 _ (by omega)).trans g2, g3⟩, ⟨ks, (k.1 _ (by omega)).trans g4, g5⟩, fun i hi => ?_, g7, g8, g9, fun q x hq => ?_⟩
  · have := h2 i hi
    rw [k.1 _ (by omega), k.1 _ (by omega)]
    exact g6 i hi
  · rw [k.2]
    rcases Nat.lt_or_ge q (a + n) with z | z
    · omega
    · rw [k.1 _ (Or.inr z)] at hq
      exact g10 q x hq
theorem lb_wk.kp {a n : Nat} {hs1 : mx_H} (h : lb_wk hs b T A wq L w) (k : mx_kp hs hs1 a n) (h7 : b + 8 < a ∨ a + n ≤ b + 4) (hn : ∀ i, i < 8 → b + 9 + 4 * i < a ∨ a + n ≤ b + 9 + 4 * i) (h41 : a + n ≤ b + 41) : lb_wk hs1 b T A wq L w := by
  have hz := h.sto.wf _ _ h.2.2.2.1
  obtain ⟨q1, q2, q3, q4, q5, q6, q7, q8⟩ := h
  exact ⟨(k.1 _ (by omega)).trans q1, (k.1 _ (by omega)).trans q2, fun i hi => (k.1 _ (by have := hn i hi; omega)).trans (q3 i hi), (k.1 _ (by omega)).trans q4, q5, q6.kp k (by omega) (fun i hi => by have := q7 i hi; omega) (by omega), q7, q8⟩
theorem lb_tx.kpfr {hs hs' : mx_H} {a : Nat} {t es : List Int32} {dp : Nat} {bp : Int32} {P : Nat → Bool} (h : lb_tx hs a t es dp bp) (k : mx_kp hs hs' a 3) (p1 : P 1 = false) (p2 : P 100 = false) : mx_fr P hs hs' := by
  obtain ⟨cs, h0, h1, h2, h3⟩ := h
  refine ⟨fun q x hq hp => ?_, by rw [k.2]; exact Nat.le_refl _⟩
  by_cases c0 : q = a
  · rw [c0, h0] at hq
    cases hq
    rw [p1] at hp
    cases hp
  by_cases c1 : q = a + 1
  · rw [c1, h1] at hq
    cases hq
    rw [p2] at hp
    cases hp
  by_cases c2 : q = a + 2
  · rw [c2, h2] at hq
    cases hq
    rw [p2] at hp
    cases hp
  rw [k.1 q (by omega)]
  exact hq
/-- the kinds that binding leaves -/
def lb_kt : Nat → Bool := fun k => !(k == 1) && !(k == 2) && !(k == 100)
def lz_setT (T : Nat → List Int32) (i : Nat) (t : List Int32) : Nat → List Int32 := fun j => if j = i then t else T j
theorem c_bind {es : List Int32} {dp : Nat} {bq : Int32} {i : Nat} (hi : i < 8) (hw : lb_wk hs b T A wq L w) (hts : lb_ts hs b T w) (hl : lb_tx hs (b + 1) t es dp bq) (hg : lz_rd t 8 0 = (true, t.length)) (he : lz_EO t es 0 t.length)
    (k : ∀ hs2, lb_wk hs2 b (lz_setT T i t) A wq L (lz_fg (lz_setN w i (true, (w.1 i).2.1, (w.1 i).2.2))) → lb_ts hs2 b (lz_setT T i t) (lz_fg (lz_setN w i (true, (w.1 i).2.1, (w.1 i).2.2))) → lb_tx hs2 (b + 1) t es dp bq → mx_fr lb_kt hs hs2 → hs2.2 = hs.2 → Q none hs2) : mx_C mx_S0 l G (d + 2) mm_LBWorker_bind [.ref (b + 7), .int (nI i), .ref (b + 1)] hs Q := by
  have hnm := hw.name hi
  obtain ⟨es0, dp0, bp0, t0, -⟩ := hts i hi
  refine wp_LBWorker_bind_0 _ _ _ ⟨_, ⟨_, hw.at, rfl⟩, _, _, hw.2.1, nI_pos (by omega), by rw [nI_clamp (by omega)]; exact lb_names hi, _, ⟨_, hnm, rfl⟩, ⟨_, t0.at⟩, c_copyFrom t0 hl (by omega) (fun hs1 g1 g2 => ⟨rfl, ?_⟩)⟩
  have hw1 : lb_wk hs1 b T A wq L w := hw.kp g2 (by omega) (fun j hj => by omega) (by omega)
  have hl1 : lb_tx hs1 (b + 1) t es dp bq := hl.kp g2 (by omega)
  refine ⟨_, ⟨_, hw1.at, rfl⟩, _, _, hw1.2.1, nI_pos (by omega), by rw [nI_clamp (by omega)]; exact lb_names hi, _, hw1.name hi, fun hs2 e2 => ?_⟩
  have k2 : mx_kp hs1 hs2 (b + 9 + 4 * i) 1 := by
    rw [e2]
    exact mx_kp.st (by omega) (by omega)
  have hw2 : lb_wk hs2 b (lz_setT T i t) A wq L (lz_setN w i (true, (w.1 i).2.1, (w.1 i).2.2)) := by
    obtain ⟨q1, q2, q3, q4, q5, q6, q7, q8⟩ := hw1
    have hc := q3 i hi
    rw [e2]
    refine ⟨by rw [mx_st_ne _ _ (by omega)]; exact q1, by rw [mx_st_ne _ _ (by omega)]; exact q2, fun j hj => ?_, by rw [mx_st_ne _ _ (by omega)]; exact q4, q5, q6.out hc (by omega) (by omega) (by omega) (fun j hj => by have := q7 j hj; omega), q7, ⟨fun j hj => ?_, q8.2⟩⟩
    · by_cases hij : j = i
      · subst hij
        simp only [lz_setN, if_true]
        exact mx_st_eq _ _ _
      · simp only [lz_setN, if_neg hij]
        rw [mx_st_ne _ _ (by omega)]
        exact q3 j hj
    · by_cases hij : j = i
      · subst hij
        simp only [lz_setN, lz_setT, if_true]
        exact ⟨fun _ => hg, (q8.1 j hj).2⟩
      · simp only [lz_setN, lz_setT, if_neg hij]
        exact q8.1 j hj
  refine ⟨⟨_, hw2.at⟩, c_forgetValues hw2 (fun hs3 f1 f2 f3 => ⟨rfl, ?_⟩)⟩
  have hkeep : mx_fr lb_kt hs hs3 := by
    refine (t0.kpfr g2 rfl rfl).tr (mx_fr.tr ?_ (f2.mono ?_))
    · rw [e2]
      exact mx_fr.st (hw1.name hi) rfl
    · intro k' hk'
      unfold lb_kt at hk'
      unfold lb_kk
      simp only [Bool.and_eq_true] at hk'
      exact hk'.1.2
  refine k hs3 f1 (fun j hj => ?_) ((hl1.kp k2 (by omega)).fr f2 rfl rfl) hkeep (by rw [f3, k2.2, g2.2])
  by_cases hij : j = i
  · subst hij
    refine ⟨es, dp, bp0, ?_, fun _ => ?_⟩
    · simp only [lz_setT, if_true]
      exact (g1.kp k2 (by omega)).fr f2 rfl rfl
    · simp only [lz_setT, if_true]
      exact he
  · obtain ⟨es3, dp3, bp3, u1, u2⟩ := hts j hj
    refine ⟨es3, dp3, bp3, ?_, fun z => ?_⟩
    · simp only [lz_setT, if_neg hij]
      exact (((u1.kp g2 (by omega)).kp k2 (by omega))).fr f2 rfl rfl
    · simp only [lz_setT, if_neg hij]
      simp only [lz_fg, lz_setN, if_neg hij] at z
      exact u2 z
theorem c_unbind {i : Nat} (hi : i < 8) (hw : lb_wk hs b T A wq L w) (hts : lb_ts hs b T w)
    (k : ∀ hs2, lb_wk hs2 b T A wq L (lz_fg (lz_setN w i (false, (w.1 i).2.1, (w.1 i).2.2))) → lb_ts hs2 b T (lz_fg (lz_setN w i (false, (w.1 i).2.1, (w.1 i).2.2))) → mx_fr lb_kk hs hs2 → hs2.2 = hs.2 → Q none hs2) : mx_C mx_S0 l G (d + 2) mm_LBWorker_unbind [.ref (b + 7), .int (nI i)] hs Q := by
  have hnm := hw.name hi
  refine wp_LBWorker_unbind_0 _ _ ⟨_, ⟨_, hw.at, rfl⟩, _, _, hw.2.1, nI_pos (by omega), by rw [nI_clamp (by omega)]; exact lb_names hi, _, hnm, fun hs2 e2 => ?_⟩
  have hw2 : lb_wk hs2 b T A wq L (lz_setN w i (false, (w.1 i).2.1, (w.1 i).2.2)) := by
    rw [e2]
    exact hw.nset hi (x := (false, (w.1 i).2.1, (w.1 i).2.2)) ⟨fun z => (by cases z), (hw.ok.1 i hi).2⟩
  have fr2 : mx_fr lb_kk hs hs2 := by
    rw [e2]
    exact mx_fr.st hnm rfl
  refine ⟨⟨_, hw2.at⟩, c_forgetValues hw2 (fun hs3 f1 f2 f3 => ⟨rfl, k hs3 f1 (fun j hj => ?_) (fr2.tr f2) (by rw [f3, e2]; rfl)⟩)⟩
  obtain ⟨es3, dp3, bp3, u1, u2⟩ := hts j hj
  refine ⟨es3, dp3, bp3, u1.fr (fr2.tr f2) rfl rfl, fun z => ?_⟩
  by_cases hij : j = i
  · subst hij
    simp only [lz_fg, lz_setN, if_true] at z
    cases z
  · simp only [lz_fg, lz_setN, if_neg hij] at z
    exact u2 z
end CNM
end
section
/-! THE CLASS's object: line, latest bad place, what was shown, the names' texts, the working state. -/
abbrev lz_O : Type := List Int32 × Int32 × Int64 × (Nat → List Int32) × lz_W
def lb_ob (hs : mx_H) (b : Nat) (o : lz_O) : Prop := ∃ (A : Nat → Nat) (wq : Nat → Int32) (L : List Int64) (es : List Int32) (dp : Nat) (bq : Int32),
  hs.1 b = some (0, [.ref (b + 1), .ref (b + 4), .ref (b + 7), .long o.2.2.1, .int o.2.1]) ∧ lb_tx hs (b + 1) o.1 es dp bq ∧ lb_wk hs b o.2.2.2.1 A wq L o.2.2.2.2 ∧ lb_ts hs b o.2.2.2.1 o.2.2.2.2 ∧ (∀ i, i < 8 → (o.2.2.2.2.1 i).2.1 = false) ∧ o.2.2.2.2.2.1 ≤ 200 ∧ o.2.2.2.2.2.2.1 ≤ 230
/-- the kinds that are not the class's -/
def lb_k0 : Nat → Bool := fun k => !(Nat.blt k 6) && !(k == 100) && !(k == 102) && !(k == 112) && !(k == 113)
def lz_sz (o : lz_O) : Nat := o.2.2.2.2.2.2.2.2.1
/-- behind a call -/
def lb_R (hs : mx_H) (b : Nat) (o o2 : lz_O) (hs2 : mx_H) : Prop := lb_ob hs2 b o2 ∧ mx_fr lb_k0 hs hs2 ∧ hs2.2.1 = hs.2.1 + 2 * (lz_sz o2 - lz_sz o) ∧ hs2.2.2 ≤ hs.2.2 + 10 * (lz_sz o2 - lz_sz o)
theorem lb_R.rf {hs : mx_H} {b : Nat} {o : lz_O} (h : lb_ob hs b o) : lb_R hs b o o hs := ⟨h, mx_fr.rf, by simp, by simp⟩
def so_type (c : Int32) (o : lz_O) : Int32 × lz_O := if lz_bl c = false then (-1, o) else if 24 ≤ o.1.length then (-2, o) else (nI (o.1.length + 1), (o.1 ++ [c], o.2))
def so_by (e : Int64) (n : Nat) : Int32 := (Int64.toInt32 ((Int64.toUInt64 e >>> ((Int32.toInt64 (nI (8 * n))).toUInt64 &&& Int64.toUInt64 63)).toInt64)) &&& 255
def so_types (e : Int64) : Nat → lz_O → Int32 × lz_O
  | 0, o => (nI o.1.length, o)
  | n + 1, o => if so_by e n = 0 then so_types e n o else if (so_type (so_by e n) o).1 < 0 then so_type (so_by e n) o else so_types e n (so_type (so_by e n) o).2
def so_ans (v : Int64) (w : lz_W) : Int32 × lz_W := if lz_bad v = true then (Int64.toInt32 (v - (-1000000000000)), (w.1, w.2.1, w.2.2.1 + 1, w.2.2.2)) else (0, w)
def so_no (x : Int32) : Bool := decide (x < 0) || decide (8 ≤ x)
def so_define (x : Int32) (o : lz_O) : Int32 × lz_O :=
  if so_no x = true then (-1, o)
  else if (lz_line o.1).1 = false then (-3, ([], nI (lz_line o.1).2, o.2.2))
  else (nI (lz_line o.1).2, ([], o.2.1, o.2.2.1, lz_setT o.2.2.2.1 x.toNatClampNeg o.1, lz_fg (lz_setN o.2.2.2.2 x.toNatClampNeg (true, (o.2.2.2.2.1 x.toNatClampNeg).2.1, (o.2.2.2.2.1 x.toNatClampNeg).2.2))))
def so_undefine (x : Int32) (o : lz_O) : Int32 × lz_O :=
  if so_no x = true then (-1, o)
  else if (o.2.2.2.2.1 x.toNatClampNeg).1 = false then (-1, o)
  else (0, (o.1, o.2.1, o.2.2.1, o.2.2.2.1, lz_fg (lz_setN o.2.2.2.2 x.toNatClampNeg (false, (o.2.2.2.2.1 x.toNatClampNeg).2.1, (o.2.2.2.2.1 x.toNatClampNeg).2.2))))
def so_force (x : Int32) (o : lz_O) : Int32 × lz_O :=
  if so_no x = true then (-1, o)
  else if 30 ≤ o.2.2.2.2.2.2.1 then (-11, o)
  else
    let r := lz_name (lz_ev o.2.2.2.1 200) o.2.2.2.1 x.toNatClampNeg (o.2.2.2.2.1, 1, o.2.2.2.2.2.2)
    ((so_ans r.1 r.2).1, (o.1, o.2.1, o.2.2.1, o.2.2.2.1, (so_ans r.1 r.2).2))
def so_show (o : lz_O) : Int32 × lz_O :=
  if (lz_line o.1).1 = false then (-3, ([], nI (lz_line o.1).2, o.2.2))
  else if 30 ≤ o.2.2.2.2.2.2.1 then (-11, ([], o.2))
  else
    let r := lz_ev o.2.2.2.1 200 o.1 0 (o.2.2.2.2.1, 0, o.2.2.2.2.2.2)
    ((so_ans r.1 r.2).1, ([], o.2.1, (if lz_bad r.1 = true then o.2.2.1 else r.1), o.2.2.2.1, (so_ans r.1 r.2).2))
def so_value (x : Int32) (o : lz_O) : Int64 := if x = 8 then o.2.2.1 else if so_no x = true then -1000000000000 else (o.2.2.2.2.1 x.toNatClampNeg).2.2
section COB
variable {l : Launch} {G : mx_G} {d b : Nat} {hs : mx_H} {Q : Option Value → mx_H → Prop} {o : lz_O}
theorem so_no_f {x : Int32} {j : Nat} (hj : j < 8) (h : x = nI j) : so_no x = false := by
  subst h
  unfold so_no
  rw [decide_eq_false (nI_pos (by omega)), decide_eq_false (show ¬ (8 : Int32) ≤ nI j from fun z => nI_ge (a := j) (b := 8) hj (by omega) z)]
  rfl
theorem so_no_t {x : Int32} (h : x < 0 ∨ 8 ≤ x) : so_no x = true := by
  unfold so_no
  rcases h with h | h
  · rw [decide_eq_true h]
    rfl
  · rw [decide_eq_true h]
    simp
/-- the line's Text is changed -/
theorem lb_ob.line (h : lb_ob hs b o) {hs2 : mx_H} {t es : List Int32} {dp : Nat} {bq : Int32} (k : mx_kp hs hs2 (b + 1) 3) (ht : lb_tx hs2 (b + 1) t es dp bq) : lb_R hs b o (t, o.2) hs2 := by
  obtain ⟨A, wq, L, es0, dp0, bq0, h1, h2, h3, h4, h5, h6, h7⟩ := h
  have fr : mx_fr lb_k0 hs hs2 := h2.kpfr k rfl rfl
  refine ⟨⟨A, wq, L, es, dp, bq, (k.1 _ (by omega)).trans h1, ht, h3.kp k (by omega) (fun i hi => by omega) (by omega), fun i hi => ?_, h5, h6, h7⟩, fr, by rw [k.2]; show _ = hs.2.1 + 2 * (lz_sz o - lz_sz o); omega, by rw [k.2]; exact Nat.le_add_right _ _⟩
  obtain ⟨es3, dp3, bp3, u1, u2⟩ := h4 i hi
  exact ⟨es3, dp3, bp3, u1.kp k (by omega), u2⟩
theorem c_type {c : Int32} (h : lb_ob hs b o) (k : ∀ hs2, lb_R hs b o (so_type c o).2 hs2 → Q (some (.int (so_type c o).1)) hs2) : mx_C mx_S0 l G (d + 4) mm_LB_type [.ref b, .int c] hs Q := by
  have hR := lb_R.rf h
  have hh := h
  obtain ⟨A, wq, L, es, dp, bq, h1, h2, h3⟩ := h
  have hlen := h2.len.1
  unfold so_type at k
  refine wp_LB_type_0 _ _ ⟨_, ⟨_, h1, rfl⟩, ⟨_, h2.at⟩, c_append h2 (fun z => ⟨_, rfl, ?_⟩) (fun z y => ⟨_, rfl, ?_⟩) (fun z y hs2 g1 g2 => ⟨_, rfl, ?_⟩)⟩
  · rw [if_pos z] at k
    exact k hs hR
  · rw [if_neg (by rw [z]; decide), if_pos (by omega)] at k
    exact k hs hR
  · rw [if_neg (by rw [z]; decide), if_neg (by omega)] at k
    exact k hs2 (hh.line g2 g1)
theorem c_value {x : Int32} (h : lb_ob hs b o) (k : Q (some (.long (so_value x o))) hs) : mx_C mx_S0 l G (d + 2) mm_LB_value [.ref b, .int x] hs Q := by
  obtain ⟨A, wq, L, es, dp, bq, h1, h2, h3, -⟩ := h
  unfold so_value at k
  refine wp_LB_value_0 _ _ ⟨fun z => ?_, fun z => ?_⟩
  · rw [if_neg z] at k
    refine c_isNameNumber (fun j hj e => ⟨_, rfl, fun y => absurd y (by decide), fun _ => ?_⟩) (fun y => ⟨_, rfl, fun _ => ?_, fun y2 => absurd rfl y2⟩)
    · subst e
      rw [if_neg (by rw [so_no_f hj rfl]; decide), nI_clamp (by omega)] at k
      exact ⟨_, ⟨_, h1, rfl⟩, _, ⟨_, h3.at, rfl⟩, _, _, h3.2.1, nI_pos (by omega), by rw [nI_clamp (by omega)]; exact lb_names hj, _, ⟨_, h3.name hj, rfl⟩, k⟩
    · rw [if_pos (so_no_t y)] at k
      exact k
  · rw [if_pos (Decidable.not_not.mp z)] at k
    exact ⟨_, ⟨_, h1, rfl⟩, k⟩
/-- the object's own numbers are changed -/
theorem lb_ob.own (h : lb_ob hs b o) {hs2 : mx_H} (v : Int64) (x : Int32) (e : hs2 = mx_st hs b (0, [.ref (b + 1), .ref (b + 4), .ref (b + 7), .long v, .int x])) : lb_R hs b o (o.1, x, v, o.2.2.2) hs2 := by
  obtain ⟨A, wq, L, es0, dp0, bq0, h1, h2, h3, h4, h5, h6, h7⟩ := h
  have k : mx_kp hs hs2 b 1 := by
    rw [e]
    exact mx_kp.st (Nat.le_refl _) (by omega)
  have fr : mx_fr lb_k0 hs hs2 := by
    rw [e]
    exact mx_fr.st h1 rfl
  refine ⟨⟨A, wq, L, es0, dp0, bq0, by rw [e]; exact mx_st_eq _ _ _, h2.kp k (by omega), h3.kp k (by omega) (fun i hi => by omega) (by omega), fun i hi => ?_, h5, h6, h7⟩, fr, by rw [k.2]; show _ = hs.2.1 + 2 * (lz_sz o - lz_sz o); omega, by rw [k.2]; exact Nat.le_add_right _ _⟩
  obtain ⟨es3, dp3, bp3, u1, u2⟩ := h4 i hi
  exact ⟨es3, dp3, bp3, u1.kp k (by omega), u2⟩
theorem lb_R.tr {o1 o2 : lz_O} {hs1 hs2 : mx_H} (h : lb_R hs b o o1 hs1) (k : lb_R hs1 b o1 o2 hs2) (m1 : lz_sz o ≤ lz_sz o1) (m2 : lz_sz o1 ≤ lz_sz o2) : lb_R hs b o o2 hs2 := by
  obtain ⟨-, h2, h3, h4⟩ := h
  obtain ⟨k1, k2, k3, k4⟩ := k
  exact ⟨k1, h2.tr k2, by omega, by omega⟩
theorem lb_ob.at (h : lb_ob hs b o) : hs.1 b = some (0, [.ref (b + 1), .ref (b + 4), .ref (b + 7), .long o.2.2.1, .int o.2.1]) := by
  obtain ⟨A, wq, L, es, dp, bq, h1, -⟩ := h
  exact h1
theorem lb_ob.tx (h : lb_ob hs b o) : ∃ es dp bq, lb_tx hs (b + 1) o.1 es dp bq := by
  obtain ⟨A, wq, L, es, dp, bq, -, h2, -⟩ := h
  exact ⟨es, dp, bq, h2⟩
theorem c_clearL (h : lb_ob hs b o) (k : ∀ hs2, lb_R hs b o ([], o.2) hs2 → Q none hs2) : mx_C mx_S0 l G (d + 1) mm_LBText_clear [.ref (b + 1)] hs Q := by
  obtain ⟨es, dp, bq, h2⟩ := h.tx
  exact c_clear h2 (fun hs2 g1 g2 => k hs2 (h.line g2 g1))
theorem c_types {e : Int64} (h : lb_ob hs b o) (k : ∀ hs2, lb_R hs b o (so_types e 8 o).2 hs2 → Q (some (.int (so_types e 8 o).1)) hs2) : mx_C mx_S0 l G (d + 4) mm_LB_types [.ref b, .long e] hs Q := by
  have W : ∀ (n : Nat) (hs1 : mx_H) (o1 : lz_O), n ≤ 8 → lb_R hs b o o1 hs1 → lz_sz o1 = lz_sz o → so_types e n o1 = so_types e 8 o → mx_Ok mx_S0 l G (d + 4) mm_LB_types 3 [(0, .ref b), (1, .long e), (3, .int (nI (8 * n) - 8))] [] hs1 Q := by
    intro n
    induction n with
    | zero =>
      intro hs1 o1 hn h1 hsz ho
      refine wp_LB_types_3 _ _ _ ⟨fun _ => ?_, fun c => absurd (by decide) c⟩
      obtain ⟨es, dp, bq, h2⟩ := h1.1.tx
      refine ⟨_, ⟨_, h1.1.at, rfl⟩, _, ⟨_, h2.at, rfl⟩, ?_⟩
      rw [← ho] at k
      exact k hs1 h1
    | succ n ih =>
      intro hs1 o1 hn h1 hsz ho
      have e8 : nI (8 * (n + 1)) - 8 = nI (8 * n) := by
        rw [show 8 * (n + 1) = 8 * n + 8 by omega]
        exact pk_sub (a := 8 * n + 8) (b := 8) (by omega)
      rw [e8]
      have em : nI (8 * n) + (-8) = nI (8 * n) - 8 := by
        rw [Int32.sub_eq_add_neg]
      have hnext : ∀ (hs2 : mx_H) (o2 : lz_O), lb_R hs b o o2 hs2 → lz_sz o2 = lz_sz o → so_types e n o2 = so_types e 8 o → mx_Ok mx_S0 l G (d + 4) mm_LB_types 41 [(0, .ref b), (1, .long e), (3, .int (nI (8 * n)))] [] hs2 Q := by
        intro hs2 o2 g1 g2 g3
        refine wp_LB_types_41 _ _ _ ?_
        rw [em]
        exact ih hs2 o2 (by omega) g1 g2 g3
      rw [so_types] at ho
      refine wp_LB_types_3 _ _ _ ⟨fun c => absurd c (nI_pos (by omega)), fun _ => ⟨fun z => ?_, fun z => ?_⟩⟩
      · rw [if_pos (show so_by e n = 0 from z)] at ho
        exact hnext hs1 o1 h1 hsz ho
      · rw [if_neg (show ¬ so_by e n = 0 from z)] at ho
        obtain ⟨es, dp, bq, h2⟩ := h1.1.tx
        have hlen := h2.len.1
        refine ⟨_, ⟨_, h1.1.at, rfl⟩, ⟨_, h2.at⟩, ?_⟩
        have ht : ∀ hs2, lb_R hs1 b o1 (so_type (so_by e n) o1).2 hs2 → lz_sz (so_type (so_by e n) o1).2 = lz_sz o1 → (0 ≤ (so_type (so_by e n) o1).1 → mx_Ok mx_S0 l G (d + 4) mm_LB_types 41 [(0, .ref b), (1, .long e), (3, .int (nI (8 * n)))] [] hs2 Q) ∧ (¬ 0 ≤ (so_type (so_by e n) o1).1 → Q (some (.int (so_type (so_by e n) o1).1)) hs2) := by
          intro hs2 g1 g2
          refine ⟨fun y => ?_, fun y => ?_⟩
          · rw [if_neg (Int32.not_lt.mpr y)] at ho
            exact hnext hs2 _ (h1.tr g1 (Nat.le_of_eq hsz.symm) (Nat.le_of_eq g2.symm)) (g2.trans hsz) ho
          · rw [if_pos (Int32.not_le.mp y)] at ho
            rw [← ho] at k
            exact k hs2 (h1.tr g1 (Nat.le_of_eq hsz.symm) (Nat.le_of_eq g2.symm))
        unfold so_type at ht
        refine c_append h2 (fun x => ⟨_, rfl, ?_⟩) (fun x y => ⟨_, rfl, ?_⟩) (fun x y hs2 g1 g2 => ⟨_, rfl, ?_⟩)
        · rw [if_pos (show lz_bl (so_by e n) = false from x)] at ht
          exact ht hs1 (lb_R.rf h1.1) rfl
        · rw [if_neg (show ¬ lz_bl (so_by e n) = false by rw [show lz_bl (so_by e n) = true from x]; decide), if_pos (by omega)] at ht
          exact ht hs1 (lb_R.rf h1.1) rfl
        · rw [if_neg (show ¬ lz_bl (so_by e n) = false by rw [show lz_bl (so_by e n) = true from x]; decide), if_neg (by omega)] at ht
          exact ht hs2 (h1.1.line g2 g1) rfl
  exact wp_LB_types_0 _ _ (W 8 hs o (Nat.le_refl _) (lb_R.rf h) rfl rfl)
theorem c_readLine (hd : 28 ≤ d) (h : lb_ob hs b o)
    (k1 : ∀ hs2 es dp bq, (lz_line o.1).1 = true → lb_ob hs2 b o → lb_R hs b o o hs2 → lb_tx hs2 (b + 1) o.1 es (lz_line o.1).2 bq → lz_rd o.1 8 0 = (true, o.1.length) → lz_EO o.1 es 0 o.1.length → dp = (lz_line o.1).2 → Q (some (.int 1)) hs2)
    (k0 : ∀ hs2, (lz_line o.1).1 = false → lb_R hs b o ([], nI (lz_line o.1).2, o.2.2) hs2 → Q (some (.int 0)) hs2) : mx_C mx_S0 l G d mm_LB_readLine [.ref b] hs Q := by
  obtain ⟨d, rfl⟩ : ∃ d', d = d' + 28 := ⟨d - 28, by omega⟩
  obtain ⟨es, dp, bq, h2⟩ := h.tx
  refine wp_LB_readLine_0 _ ⟨_, ⟨_, h.at, rfl⟩, ⟨_, h2.at⟩, c_read (d := d + 27) (by omega) h2 (fun hs2 es2 bp2 z g1 g2 g3 g4 => ⟨_, rfl, fun y => absurd y (by decide), fun _ => ?_⟩) (fun hs2 es2 D2 z g1 g2 => ⟨_, rfl, fun _ => ?_, fun y => absurd rfl y⟩)⟩
  · have R := h.line g2 g1
    exact k1 hs2 es2 _ bp2 z R.1 R g1 g3 g4 rfl
  · have R := h.line g2 g1
    refine ⟨_, ⟨_, R.1.at, rfl⟩, _, ⟨_, g1.at, rfl⟩, _, R.1.at, fun hs3 e3 => ?_⟩
    have R3 := R.1.own _ _ e3
    refine ⟨_, ⟨_, R3.1.at, rfl⟩, ?_⟩
    obtain ⟨es3, dp3, bq3, h3⟩ := R3.1.tx
    refine ⟨⟨_, h3.at⟩, c_clearL R3.1 (fun hs4 R4 => ⟨rfl, k0 hs4 z ?_⟩)⟩
    exact (R.tr R3 (Nat.le_refl _) (Nat.le_refl _)).tr R4 (Nat.le_refl _) (Nat.le_refl _)
end COB
end
section
/-! THE CLASS's calls: define, undefine, force, show. -/
section CO2
variable {l : Launch} {G : mx_G} {d b : Nat} {hs : mx_H} {Q : Option Value → mx_H → Prop} {o : lz_O}
theorem lb_k0_w {k : Nat} (h : lb_k0 k = true) : lb_kw k = true := by
  unfold lb_k0 at h
  unfold lb_kw
  simp only [Bool.and_eq_true, Bool.not_eq_true', beq_eq_false_iff_ne, Nat.blt_eq, ne_eq, decide_eq_false_iff_not, Bool.not_eq_eq_eq_not, Bool.not_true] at h ⊢
  have h6 : ¬ k < 6 := by
    intro z
    have := h.1.1.1.1
    rw [Nat.blt_eq.mpr z] at this
    cases this
  refine ⟨⟨⟨⟨⟨?_, ?_⟩, ?_⟩, ?_⟩, ?_⟩, ?_⟩ <;> omega
theorem lb_k0_t {k : Nat} (h : lb_k0 k = true) : lb_kt k = true := by
  unfold lb_k0 at h
  unfold lb_kt
  simp only [Bool.and_eq_true, Bool.not_eq_true', beq_eq_false_iff_ne, ne_eq] at h ⊢
  have h6 : ¬ k < 6 := by
    intro z
    have := h.1.1.1.1
    rw [Nat.blt_eq.mpr z] at this
    cases this
  refine ⟨⟨?_, ?_⟩, ?_⟩ <;> omega
theorem lb_k0_k {k : Nat} (h : lb_k0 k = true) : lb_kk k = true := by
  have := lb_k0_t h
  unfold lb_kt at this
  unfold lb_kk
  simp only [Bool.and_eq_true] at this
  exact this.1.2
theorem c_define {x : Int32} (hd : 29 ≤ d) (h : lb_ob hs b o) (k : ∀ hs2, lb_R hs b o (so_define x o).2 hs2 → Q (some (.int (so_define x o).1)) hs2) : mx_C mx_S0 l G d mm_LB_define [.ref b, .int x] hs Q := by
  obtain ⟨d, rfl⟩ : ∃ d', d = d' + 29 := ⟨d - 29, by omega⟩
  unfold so_define at k
  refine wp_LB_define_0 _ _ (c_isNameNumber (fun j hj e => ⟨_, rfl, fun _ => ⟨⟨_, h.at⟩, ?_⟩, fun y => absurd (by decide) y⟩) (fun y => ⟨_, rfl, fun y2 => absurd rfl y2, fun _ => ?_⟩))
  · subst e
    rw [if_neg (by rw [so_no_f hj rfl]; decide), nI_clamp (by omega)] at k
    refine c_readLine (d := d + 28) (by omega) h (fun hs2 es dp bq z g1 g2 g3 g4 g5 _ => ⟨_, rfl, fun _ => ?_, fun y => absurd (by decide) y⟩) (fun hs2 z g1 => ⟨_, rfl, fun y => absurd rfl y, fun _ => ?_⟩)
    · rw [if_neg (by rw [z]; decide)] at k
      obtain ⟨A, wq, L, es0, dp0, bq0, h1, h2, h3, h4, h5, h6, h7⟩ := g1
      refine ⟨_, ⟨_, h1, rfl⟩, _, ⟨_, g3.at, rfl⟩, _, ⟨_, h1, rfl⟩, _, ⟨_, h1, rfl⟩, ⟨_, h3.at⟩, c_bind hj h3 h4 g3 g4 g5 (fun hs3 q1 q2 q3 q4 q5 => ⟨rfl, ?_⟩)⟩
      have ob3 : lb_ob hs3 b (o.1, o.2.1, o.2.2.1, lz_setT o.2.2.2.1 j o.1, lz_fg (lz_setN o.2.2.2.2 j (true, (o.2.2.2.2.1 j).2.1, (o.2.2.2.2.1 j).2.2))) := by
        refine ⟨A, wq, L, es, _, bq, q4.1 _ _ h1 rfl, q3, q1, q2, fun i hi => ?_, h6, h7⟩
        by_cases hij : i = j
        · subst hij
          simp only [lz_fg, lz_setN, if_true]
          exact h5 i hi
        · simp only [lz_fg, lz_setN, if_neg hij]
          exact h5 i hi
      have R3 : lb_R hs b o (o.1, o.2.1, o.2.2.1, lz_setT o.2.2.2.1 j o.1, lz_fg (lz_setN o.2.2.2.2 j (true, (o.2.2.2.2.1 j).2.1, (o.2.2.2.2.1 j).2.2))) hs3 := ⟨ob3, g2.2.1.tr (q4.mono (fun _ z => lb_k0_t z)), by rw [q5]; exact g2.2.2.1, by rw [q5]; exact g2.2.2.2⟩
      refine ⟨_, ⟨_, ob3.at, rfl⟩, ⟨_, q3.at⟩, c_clearL ob3 (fun hs4 R4 => ⟨rfl, k hs4 (R3.tr R4 (Nat.le_refl _) (Nat.le_refl _))⟩)⟩
    · rw [if_pos z] at k
      exact k hs2 g1
  · rw [if_pos (so_no_t y)] at k
    exact k hs (lb_R.rf h)
theorem c_undefine {x : Int32} (h : lb_ob hs b o) (k : ∀ hs2, lb_R hs b o (so_undefine x o).2 hs2 → Q (some (.int (so_undefine x o).1)) hs2) : mx_C mx_S0 l G (d + 3) mm_LB_undefine [.ref b, .int x] hs Q := by
  unfold so_undefine at k
  have hR := lb_R.rf h
  refine wp_LB_undefine_0 _ _ (c_isNameNumber (fun j hj e => ⟨_, rfl, fun y => absurd y (by decide), fun _ => ?_⟩) (fun y => ⟨_, rfl, fun _ => ?_, fun y2 => absurd rfl y2⟩))
  · subst e
    rw [if_neg (by rw [so_no_f hj rfl]; decide), nI_clamp (by omega)] at k
    obtain ⟨A, wq, L, es0, dp0, bq0, h1, h2, h3, h4, h5, h6, h7⟩ := h
    refine ⟨_, ⟨_, h1, rfl⟩, _, ⟨_, h3.at, rfl⟩, _, _, h3.2.1, nI_pos (by omega), by rw [nI_clamp (by omega)]; exact lb_names hj, _, ⟨_, h3.name hj, rfl⟩, fun z => ⟨_, ⟨_, h1, rfl⟩, ⟨_, h3.at⟩, c_unbind hj h3 h4 (fun hs2 q1 q2 q3 q4 => ⟨rfl, ?_⟩)⟩, fun z => ?_⟩
    · rw [if_neg (by rw [lz_b1.mp z]; decide)] at k
      refine k hs2 ⟨⟨A, wq, L, es0, dp0, bq0, q3.1 _ _ h1 rfl, h2.fr q3 rfl rfl, q1, q2, fun i hi => ?_, h6, h7⟩, q3.mono (fun _ z => lb_k0_k z), by rw [q4]; show _ = hs.2.1 + 2 * (lz_sz o - lz_sz o); omega, by rw [q4]; exact Nat.le_add_right _ _⟩
      by_cases hij : i = j
      · subst hij
        simp only [lz_fg, lz_setN, if_true]
        exact h5 i hi
      · simp only [lz_fg, lz_setN, if_neg hij]
        exact h5 i hi
    · rw [if_pos (lz_b0.mp (Decidable.not_not.mp z))] at k
      exact k hs hR
  · rw [if_pos (so_no_t y)] at k
    exact k hs hR
theorem lz_bz0 {w : lz_W} (h : ∀ i, i < 8 → (w.1 i).2.1 = false) : lz_bz w = 0 := by
  unfold lz_bz
  rw [h 0 (by omega), h 1 (by omega), h 2 (by omega), h 3 (by omega), h 4 (by omega), h 5 (by omega), h 6 (by omega), h 7 (by omega)]
  rfl
/-- the answer of a working out, as the call's -/
theorem lb_answer {v : Int64} {w2 : lz_W} {hs2 : mx_H} {A2 : Nat → Nat} {wq2 : Nat → Int32} {L2 : List Int64} {T : Nat → List Int32} (g1 : lb_wk hs2 b T A2 wq2 L2 w2) (k : ∀ hs3, lb_wk hs3 b T A2 wq2 L2 (so_ans v w2).2 → mx_fr lb_kw hs2 hs3 → hs3.2 = hs2.2 → Q (some (.int (so_ans v w2).1)) hs3) : mx_C mx_S0 l G (d + 2) mm_LBWorker_answerOf [.ref (b + 7), .long v] hs2 Q := by
  unfold so_ans at k
  refine c_answerOf g1 (fun z => ?_) (fun z hs3 q1 q2 q3 => ?_)
  · rw [if_neg (by rw [z]; decide)] at k
    exact k hs2 g1 mx_fr.rf rfl
  · rw [if_pos z] at k
    exact k hs3 q1 q2 q3
theorem so_ans_eq (v : Int64) (w : lz_W) : (so_ans v w).2.1 = w.1 ∧ (so_ans v w).2.2.1 = w.2.1 ∧ (so_ans v w).2.2.2.1 ≤ w.2.2.1 + 1 ∧ (so_ans v w).2.2.2.2 = w.2.2.2 := by
  unfold so_ans
  split
  · exact ⟨rfl, rfl, Nat.le_refl _, rfl⟩
  · exact ⟨rfl, rfl, Nat.le_succ _, rfl⟩
theorem c_force {x : Int32} (hd : 200 ≤ d) (h : lb_ob hs b o) (k : ∀ hs2, lb_R hs b o (so_force x o).2 hs2 → Q (some (.int (so_force x o).1)) hs2) : mx_C mx_S0 l G d mm_LB_force [.ref b, .int x] hs Q := by
  obtain ⟨d, rfl⟩ : ∃ d', d = d' + 200 := ⟨d - 200, by omega⟩
  unfold so_force at k
  have hR := lb_R.rf h
  refine wp_LB_force_0 _ _ (c_isNameNumber (fun j hj e => ⟨_, rfl, fun _ => ?_, fun y => absurd (by decide) y⟩) (fun y => ⟨_, rfl, fun y2 => absurd rfl y2, fun _ => ?_⟩))
  · subst e
    rw [if_neg (by rw [so_no_f hj rfl]; decide), nI_clamp (by omega)] at k
    obtain ⟨A, wq, L, es0, dp0, bq0, h1, h2, h3, h4, h5, h6, h7⟩ := h
    refine ⟨_, ⟨_, h1, rfl⟩, ⟨_, h3.at⟩, c_isClosed h3 (by omega) ⟨_, rfl, fun z => ?_, fun z => ?_⟩⟩
    · have hz : ¬ 30 ≤ o.2.2.2.2.2.2.1 := by
        have := lz_b0.mp z
        simpa using this
      rw [if_neg hz] at k
      refine ⟨_, ⟨_, h1, rfl⟩, _, ⟨_, h1, rfl⟩, ⟨_, h3.at⟩, ?_⟩
      refine wp_LBWorker_workOutName_0 _ _ ⟨_, h3.at, fun hs1 e1 => ?_⟩
      have h31 : lb_wk hs1 b o.2.2.2.1 A wq L (o.2.2.2.2.1, 1, o.2.2.2.2.2.2) := by
        rw [e1]
        exact h3.nums 1 o.2.2.2.2.2.2.1
      have fr1 : mx_fr lb_kw hs hs1 := by
        rw [e1]
        exact mx_fr.st h3.at rfl
      have z1 : hs1.2 = hs.2 := by
        rw [e1]
        rfl
      refine ⟨⟨_, h31.at⟩, ?_⟩
      have st := lz_name_st (lz_ev_ok (T := o.2.2.2.1) 200) hj h31.ok
      simp only at k
      refine c_workName (o := 1) (n := 200) (lb_work 200) (lz_ev_ok 200) hj h31 (h4.fr fr1 (fun _ _ => rfl)) (by simp) (by simp) (by omega) (by omega) (fun hs2 g => ⟨_, rfl, ⟨_, rfl, ?_⟩⟩)
      obtain ⟨A2, wq2, L2, g1, g2, g3, g4, g5⟩ := g
      refine ⟨⟨_, g1.at⟩, lb_answer g1 (fun hs3 q1 q2 q3 => ⟨_, rfl, k hs3 ?_⟩)⟩
      have ea := so_ans_eq (lz_name (lz_ev o.2.2.2.1 200) o.2.2.2.1 j (o.2.2.2.2.1, 1, o.2.2.2.2.2.2)).1 (lz_name (lz_ev o.2.2.2.1 200) o.2.2.2.1 j (o.2.2.2.2.1, 1, o.2.2.2.2.2.2)).2
      obtain ⟨s1, s2, s3, s4, s5, s6, s7⟩ := st
      have fr : mx_fr lb_kw hs hs3 := fr1.tr (g2.tr q2)
      simp only at s2 s4 s5 s6 s7 g4 g5
      refine ⟨⟨A2, wq2, L2, es0, dp0, bq0, fr.1 _ _ h1 rfl, h2.fr fr rfl rfl, q1, h4.fr fr (fun i hi => ?_), fun i hi => ?_, ?_, ?_⟩, fr.mono (fun _ z => lb_k0_w z), ?_, ?_⟩
      · show ((so_ans _ _).2.1 i).1 = _
        rw [ea.1]
        exact (s6 i).1
      · show ((so_ans _ _).2.1 i).2.1 = _
        rw [ea.1]
        exact (s6 i).2.trans (h5 i hi)
      · show (so_ans _ _).2.2.1 ≤ 200
        rw [ea.2.1]
        omega
      · show (so_ans _ _).2.2.2.1 ≤ 230
        have := ea.2.2.1
        omega
      · show hs3.2.1 = hs.2.1 + 2 * ((so_ans _ _).2.2.2.2.2.1 - o.2.2.2.2.2.2.2.2.1)
        rw [ea.2.2.2, q3, ← z1]
        exact g4
      · show hs3.2.2 ≤ hs.2.2 + 10 * ((so_ans _ _).2.2.2.2.2.1 - o.2.2.2.2.2.2.2.2.1)
        rw [ea.2.2.2, q3, ← z1]
        exact g5
    · have hz : 30 ≤ o.2.2.2.2.2.2.1 := by
        have := lz_b1.mp z
        simpa using this
      rw [if_pos hz] at k
      exact k hs hR
  · rw [if_pos (so_no_t y)] at k
    exact k hs hR
end CO2
end
section
/-! THE CLASS's calls: show, builder, build, root, input, plan, count. -/
def so_builder (x y : Int32) (o : lz_O) : Int32 × lz_O :=
  if x < 0 ∨ 10 ≤ x ∨ y < 0 ∨ ¬ y ≤ 4 then (-1, o)
  else (0, (o.1, o.2.1, o.2.2.1, o.2.2.2.1, o.2.2.2.2.1, o.2.2.2.2.2.1, o.2.2.2.2.2.2.1, o.2.2.2.2.2.2.2.1, o.2.2.2.2.2.2.2.2.1, fun i => if i = x.toNatClampNeg then y else o.2.2.2.2.2.2.2.2.2.1 i, o.2.2.2.2.2.2.2.2.2.2))
def lz_sto (o : lz_O) : lz_S := o.2.2.2.2.2.2.2
/-- no PLAN has the number -/
def so_np (x : Int32) (o : lz_O) : Bool := decide (x < 1) || decide (nI (lz_sz o) < x)
def so_build (x : Int32) (o : lz_O) : Int32 × lz_O :=
  if so_np x o = true then (-1, o)
  else if 30 ≤ o.2.2.2.2.2.2.1 then (-11, o)
  else
    let r := lz_pt 30 (lz_sto o) (lz_pv (x.toNatClampNeg - 1))
    ((so_ans r.1 (o.2.2.2.2.1, o.2.2.2.2.2.1, o.2.2.2.2.2.2.1, r.2)).1, (o.1, o.2.1, o.2.2.1, o.2.2.2.1, (so_ans r.1 (o.2.2.2.2.1, o.2.2.2.2.2.1, o.2.2.2.2.2.2.1, r.2)).2))
def so_root (x : Int32) (on : Bool) (o : lz_O) : Int32 × lz_O :=
  if so_np x o = true then (-1, o)
  else
    let p := (lz_sto o).1 (x.toNatClampNeg - 1)
    (0, (o.1, o.2.1, o.2.2.1, o.2.2.2.1, o.2.2.2.2.1, o.2.2.2.2.2.1, o.2.2.2.2.2.2.1, lz_setP (lz_sto o) (x.toNatClampNeg - 1) (p.1, p.2.1, p.2.2.1, p.2.2.2.1, on)))
def so_input (x y : Int32) (o : lz_O) : Int64 :=
  if so_np x o = true then -1000000000000
  else if y < 0 then -1000000000000
  else if y < nI ((lz_sto o).1 (x.toNatClampNeg - 1)).2.1.length then ((lz_sto o).1 (x.toNatClampNeg - 1)).2.1.getD y.toNatClampNeg 0 else -1000000000000
def so_plan (x y : Int32) (o : lz_O) : Int32 :=
  if so_np x o = true then -1
  else
    let p := (lz_sto o).1 (x.toNatClampNeg - 1)
    if y = 0 then p.1 else if y = 1 then nI p.2.1.length else if y = 2 then lz_b p.2.2.1 else if y = 3 then p.2.2.2.1 else if y = 4 then lz_b p.2.2.2.2 else -1
def so_count (x : Int32) (o : lz_O) : Int32 :=
  if x = 0 then nI (lz_sz o) else if x = 1 then nI (lz_sto o).2.2.2 else if x = 2 then nI o.2.2.2.2.2.1 else if x = 3 then nI o.2.2.2.2.2.2.1 else if x = 4 then nI o.1.length else if x = 5 then o.2.1
  else if x = 6 then nI (lz_cnt (fun i => (o.2.2.2.2.1 i).1) 8) else if x = 7 then nI (lz_cnt (fun i => decide (¬ (o.2.2.2.2.1 i).2.2 = -1000000000000)) 8) else -1
section CO3
variable {l : Launch} {G : mx_G} {d b : Nat} {hs : mx_H} {Q : Option Value → mx_H → Prop} {o : lz_O}
theorem lb_ob.size (h : lb_ob hs b o) : lz_sz o ≤ 30 := by
  obtain ⟨A, wq, L, es0, dp0, bq0, h1, h2, h3, -⟩ := h
  exact h3.ok.2.1
theorem so_np_t {x : Int32} (h : x < 1 ∨ nI (lz_sz o) < x) : so_np x o = true := by
  unfold so_np
  rcases h with h | h
  · rw [decide_eq_true h]
    rfl
  · rw [decide_eq_true h]
    simp
theorem so_np_f {j : Nat} (hz : lz_sz o ≤ 30) (hj : j < lz_sz o) : so_np (nI (j + 1)) o = false := by
  unfold so_np
  rw [decide_eq_false (show ¬ nI (j + 1) < 1 from nI_nlt (b := 1) (by omega) (by omega)), decide_eq_false (show ¬ nI (lz_sz o) < nI (j + 1) from nI_nlt (by omega) (by omega))]
  rfl
theorem lz_nI1 {j : Nat} (hj : j < 2 ^ 30) : (nI (j + 1)).toNatClampNeg - 1 = j := by
  rw [nI_clamp (by omega)]
  rfl
theorem c_input {x y : Int32} (h : lb_ob hs b o) (k : Q (some (.long (so_input x y o))) hs) : mx_C mx_S0 l G (d + 2) mm_LB_input [.ref b, .int x, .int y] hs Q := by
  have hz := h.size
  obtain ⟨A, wq, L, es0, dp0, bq0, h1, h2, h3, -⟩ := h
  unfold so_input at k
  refine wp_LB_input_0 _ _ _ ⟨_, ⟨_, h1, rfl⟩, ⟨_, h3.sto.at⟩, c_planAt h3.sto (fun z => ⟨_, rfl, Or.inl rfl, fun _ => ?_, fun _ e => by cases e⟩) (fun j hj e => ⟨_, rfl, Or.inr ⟨_, rfl⟩, fun e => (by cases e), fun a ea => ?_⟩)⟩
  · rw [if_pos (so_np_t z)] at k
    exact k
  · cases ea
    subst e
    have hj : j < lz_sz o := hj
    rw [if_neg (by rw [so_np_f hz hj]; decide), lz_nI1 (by omega)] at k
    obtain ⟨p1, p2⟩ := h3.sto.plan hj
    refine ⟨fun z => ?_, fun z => ⟨_, ⟨_, p1, rfl⟩, _, p2, fun y2 => ?_, fun y2 => ?_⟩⟩
    · rw [if_pos z] at k
      exact k
    · rw [List.length_map] at y2
      rw [if_neg z, if_pos (show y < nI ((lz_sto o).1 j).2.1.length from y2)] at k
      obtain ⟨i, hi, rfl⟩ := nI_of z
      have hl := (h3.sto.ok.2.1 j hj).1
      have hlt : i < ((lz_sto o).1 j).2.1.length := (nI_ltI hi (by show ((lz_sto o).1 j).2.1.length < _; unfold lz_sto; omega)).mp y2
      rw [nI_clamp hi, List.getD_eq_getElem?_getD, List.getElem?_eq_getElem hlt] at k
      exact ⟨_, ⟨_, p1, rfl⟩, _, _, p2, z, by rw [nI_clamp hi]; exact lz_longs (List.getElem?_eq_getElem hlt), k⟩
    · rw [List.length_map] at y2
      rw [if_neg z, if_neg (show ¬ y < nI ((lz_sto o).1 j).2.1.length from y2)] at k
      exact k
theorem c_plan {x y : Int32} (h : lb_ob hs b o) (k : Q (some (.int (so_plan x y o))) hs) : mx_C mx_S0 l G (d + 2) mm_LB_plan [.ref b, .int x, .int y] hs Q := by
  have hz := h.size
  obtain ⟨A, wq, L, es0, dp0, bq0, h1, h2, h3, -⟩ := h
  unfold so_plan at k
  refine wp_LB_plan_0 _ _ _ ⟨_, ⟨_, h1, rfl⟩, ⟨_, h3.sto.at⟩, c_planAt h3.sto (fun z => ⟨_, rfl, Or.inl rfl, fun _ => ?_, fun _ e => by cases e⟩) (fun j hj e => ⟨_, rfl, Or.inr ⟨_, rfl⟩, fun e => (by cases e), fun a ea => ?_⟩)⟩
  · rw [if_pos (so_np_t z)] at k
    exact k
  · cases ea
    subst e
    have hj : j < lz_sz o := hj
    rw [if_neg (by rw [so_np_f hz hj]; decide), lz_nI1 (by omega)] at k
    simp only at k
    obtain ⟨p1, p2⟩ := h3.sto.plan hj
    refine ⟨fun z => ?_, fun z => ?_, fun z => ?_, fun z => ?_, fun z => ?_, fun z0 z1 z2 z3 z4 => ?_⟩
    · rw [if_pos z] at k
      exact ⟨_, ⟨_, p1, rfl⟩, k⟩
    · subst z
      exact ⟨_, ⟨_, p1, rfl⟩, _, p2, by rw [List.length_map]; exact k⟩
    · subst z
      refine ⟨_, ⟨_, p1, rfl⟩, fun q => ?_, fun q => ?_⟩
      · have q : lz_b ((lz_sto o).1 j).2.2.1 = 0 := q
        rw [if_neg (by decide), if_neg (by decide), if_pos rfl, q] at k
        exact k
      · have q : ¬ lz_b ((lz_sto o).1 j).2.2.1 = 0 := q
        rw [if_neg (by decide), if_neg (by decide), if_pos rfl, lz_b1.mp q] at k
        exact k
    · subst z
      exact ⟨_, ⟨_, p1, rfl⟩, k⟩
    · subst z
      refine ⟨_, ⟨_, p1, rfl⟩, fun q => ?_, fun q => ?_⟩
      · have q : lz_b ((lz_sto o).1 j).2.2.2.2 = 0 := q
        rw [if_neg (by decide), if_neg (by decide), if_neg (by decide), if_neg (by decide), if_pos rfl, q] at k
        exact k
      · have q : ¬ lz_b ((lz_sto o).1 j).2.2.2.2 = 0 := q
        rw [if_neg (by decide), if_neg (by decide), if_neg (by decide), if_neg (by decide), if_pos rfl, lz_b1.mp q] at k
        exact k
    · rw [if_neg z0, if_neg z1, if_neg z2, if_neg z3, if_neg z4] at k
      exact k
theorem c_count {x : Int32} (h : lb_ob hs b o) (k : Q (some (.int (so_count x o))) hs) : mx_C mx_S0 l G (d + 2) mm_LB_count [.ref b, .int x] hs Q := by
  obtain ⟨A, wq, L, es0, dp0, bq0, h1, h2, h3, -⟩ := h
  unfold so_count at k
  refine wp_LB_count_0 _ _ ⟨fun z => ?_, fun z => ?_, fun z => ?_, fun z => ?_, fun z => ?_, fun z => ?_, fun z => ?_, fun z => ?_, fun z0 z1 z2 z3 z4 z5 z6 z7 => ?_⟩
  · subst z
    exact ⟨_, ⟨_, h1, rfl⟩, _, ⟨_, h3.sto.at, rfl⟩, k⟩
  · subst z
    exact ⟨_, ⟨_, h1, rfl⟩, _, ⟨_, h3.sto.at, rfl⟩, k⟩
  · subst z
    exact ⟨_, ⟨_, h1, rfl⟩, _, ⟨_, h3.at, rfl⟩, k⟩
  · subst z
    exact ⟨_, ⟨_, h1, rfl⟩, _, ⟨_, h3.at, rfl⟩, k⟩
  · subst z
    exact ⟨_, ⟨_, h1, rfl⟩, _, ⟨_, h2.at, rfl⟩, k⟩
  · subst z
    exact ⟨_, ⟨_, h1, rfl⟩, k⟩
  · subst z
    exact ⟨_, ⟨_, h1, rfl⟩, ⟨_, h3.at⟩, c_namesBound h3 ⟨_, rfl, k⟩⟩
  · subst z
    exact ⟨_, ⟨_, h1, rfl⟩, ⟨_, h3.at⟩, c_namesKept h3 ⟨_, rfl, k⟩⟩
  · rw [if_neg z0, if_neg z1, if_neg z2, if_neg z3, if_neg z4, if_neg z5, if_neg z6, if_neg z7] at k
    exact k
end CO3
end
section
/-! THE CLASS's calls: show, builder, build, root. -/
section CO4
variable {l : Launch} {G : mx_G} {d b : Nat} {hs : mx_H} {Q : Option Value → mx_H → Prop} {o : lz_O}
theorem c_show (hd : 200 ≤ d) (h : lb_ob hs b o) (k : ∀ hs2, lb_R hs b o (so_show o).2 hs2 → Q (some (.int (so_show o).1)) hs2) : mx_C mx_S0 l G d mm_LB_show [.ref b] hs Q := by
  obtain ⟨d, rfl⟩ : ∃ d', d = d' + 200 := ⟨d - 200, by omega⟩
  unfold so_show at k
  have kend : ∀ (hs2 : mx_H) (o2 : lz_O) (x : Int32), lb_R hs b o o2 hs2 → lz_sz o ≤ lz_sz o2 → (∀ hs3, lb_R hs b o ([], o2.2) hs3 → Q (some (.int x)) hs3) → mx_Ok mx_S0 l G (d + 200) mm_LB_show 29 [(0, .ref b)] [.int x] hs2 Q := by
    intro hs2 o2 x R hsz k2
    obtain ⟨es, dp, bq, h2⟩ := R.1.tx
    exact wp_LB_show_29 _ _ ⟨_, ⟨_, R.1.at, rfl⟩, ⟨_, h2.at⟩, c_clearL R.1 (fun hs3 R3 => ⟨rfl, k2 hs3 (R.tr R3 hsz (Nat.le_refl _))⟩)⟩
  refine wp_LB_show_0 _ ⟨⟨_, h.at⟩, c_readLine (d := d + 199) (by omega) h (fun hs2 es dp bq z g1 g2 g3 g4 g5 _ => ⟨_, rfl, fun _ => ?_, fun y => absurd (by decide) y⟩) (fun hs2 z g1 => ⟨_, rfl, fun y => absurd rfl y, fun _ => ?_⟩)⟩
  · rw [if_neg (by rw [z]; decide)] at k
    have ob2 := g1
    obtain ⟨A, wq, L, es0, dp0, bq0, h1, h2, h3, h4, h5, h6, h7⟩ := g1
    refine ⟨_, ⟨_, h1, rfl⟩, ⟨_, h3.at⟩, c_isClosed h3 (by omega) ⟨_, rfl, fun z2 => ⟨⟨_, h1⟩, ?_⟩, fun z2 => ?_⟩⟩
    · have hz : ¬ 30 ≤ o.2.2.2.2.2.2.1 := by
        have := lz_b0.mp z2
        simpa using this
      rw [if_neg hz] at k
      simp only at k
      refine wp_LB_workLineOut_0 _ ⟨_, ⟨_, h1, rfl⟩, _, ⟨_, h1, rfl⟩, ⟨_, h3.at⟩, ?_⟩
      refine wp_LBWorker_workOutText_0 _ _ ⟨_, h3.at, fun hs3 e3 => ?_⟩
      have h31 : lb_wk hs3 b o.2.2.2.1 A wq L (o.2.2.2.2.1, 0, o.2.2.2.2.2.2) := by
        rw [e3]
        exact h3.nums 0 o.2.2.2.2.2.2.1
      have fr1 : mx_fr lb_kw hs2 hs3 := by
        rw [e3]
        exact mx_fr.st h3.at rfl
      have z1 : hs3.2 = hs2.2 := by
        rw [e3]
        rfl
      refine ⟨⟨_, h31.at⟩, ?_⟩
      have st := lz_ev_ok (T := o.2.2.2.1) 200 o.1 0 8 _ (o.2.2.2.2.1, 0, o.2.2.2.2.2.2) (Nat.le_refl _) g4 h31.ok
      refine lb_work (l := l) (G := G) (b := b) (T := o.2.2.2.1) 200 _ hs3 A wq L (o.2.2.2.2.1, 0, o.2.2.2.2.2.2) (b + 1) o.1 0 8 _ 1 _ (Nat.le_refl _) g4 (Or.inl rfl) ⟨h31, h4.fr fr1 (fun _ _ => rfl), ⟨es, _, bq, g3.fr fr1 rfl rfl, g5⟩, by simp, by simp, by omega, by omega⟩ (fun hs4 g => ⟨_, rfl, ⟨_, rfl, ?_⟩⟩)
      obtain ⟨A2, wq2, L2, q1, q2, q3, q4, q5⟩ := g
      obtain ⟨r, er⟩ : ∃ r, r = lz_ev o.2.2.2.1 200 o.1 0 (o.2.2.2.2.1, 0, o.2.2.2.2.2.2) := ⟨_, rfl⟩
      rw [← er] at st q1 q4 q5 k ⊢
      obtain ⟨s1, s2, s3, s4, s5, s6, s7⟩ := st
      simp only at s2 s4 s5 s6 s7 q4 q5
      have fr4 : mx_fr lb_kw hs2 hs4 := fr1.tr q2
      have ob4 : lb_ob hs4 b (o.1, o.2.1, o.2.2.1, o.2.2.2.1, r.2) := ⟨A2, wq2, L2, es, _, bq, fr4.1 _ _ h1 rfl, g3.fr fr4 rfl rfl, q1, h4.fr fr4 (fun i _ => (s6 i).1), fun i hi => (s6 i).2.trans (h5 i hi), by show r.2.2.1 ≤ 200; omega, by show r.2.2.2.1 ≤ 230; omega⟩
      have R4 : lb_R hs2 b o (o.1, o.2.1, o.2.2.1, o.2.2.2.1, r.2) hs4 := ⟨ob4, fr4.mono (fun _ z => lb_k0_w z), by rw [← z1]; exact q4, by rw [← z1]; exact q5⟩
      have kw : ∀ (hs5 : mx_H) (v : Int64), lb_R hs4 b (o.1, o.2.1, o.2.2.1, o.2.2.2.1, r.2) (o.1, o.2.1, v, o.2.2.2.1, r.2) hs5 → v = (if lz_bad r.1 = true then o.2.2.1 else r.1) → mx_Ok mx_S0 l G (d + 199) mm_LB_workLineOut 24 [(0, .ref b), (1, .long r.1)] [] hs5 (fun (r9 : Option Value) (hs10 : mx_H) => ∃ x11 : Int32, r9 = some (.int x11) ∧ mx_Ok mx_S0 l G (d + 200) mm_LB_show 29 [(0, .ref b)] [.int x11] hs10 Q) := by
        intro hs5 v R5 ev
        have ob5 := R5.1
        obtain ⟨A5, wq5, L5, es5, dp5, bq5, u1, u2, u3, u4, u5, u6, u7⟩ := ob5
        have ea := so_ans_eq r.1 r.2
        refine wp_LB_workLineOut_24 _ _ ⟨_, ⟨_, u1, rfl⟩, ⟨_, u3.at⟩, lb_answer u3 (fun hs6 p1 p2 p3 => ⟨_, rfl, _, rfl, ?_⟩)⟩
        have R6 : lb_R hs5 b (o.1, o.2.1, v, o.2.2.2.1, r.2) (o.1, o.2.1, v, o.2.2.2.1, (so_ans r.1 r.2).2) hs6 := by
          refine ⟨⟨A5, wq5, L5, es5, dp5, bq5, p2.1 _ _ u1 rfl, u2.fr p2 rfl rfl, p1, u4.fr p2 (fun i hi => ?_), fun i hi => ?_, ?_, ?_⟩, p2.mono (fun _ z => lb_k0_w z), ?_, ?_⟩
          · show ((so_ans _ _).2.1 i).1 = _
            rw [ea.1]
          · show ((so_ans _ _).2.1 i).2.1 = _
            rw [ea.1]
            exact u5 i hi
          · show (so_ans _ _).2.2.1 ≤ 200
            rw [ea.2.1]
            exact u6
          · show (so_ans _ _).2.2.2.1 ≤ 230
            have := ea.2.2.1
            omega
          · show hs6.2.1 = hs5.2.1 + 2 * ((so_ans _ _).2.2.2.2.2.1 - r.2.2.2.2.2.1)
            rw [ea.2.2.2, p3]
            omega
          · rw [p3]
            exact Nat.le_add_right _ _
        have esz : lz_sz (o.1, o.2.1, v, o.2.2.2.1, (so_ans r.1 r.2).2) = lz_sz (o.1, o.2.1, v, o.2.2.2.1, r.2) := by
          show (so_ans _ _).2.2.2.2.2.1 = r.2.2.2.2.2.1
          rw [ea.2.2.2]
        refine kend hs6 (o.1, o.2.1, v, o.2.2.2.1, (so_ans r.1 r.2).2) _ (g2.tr (R4.tr (R5.tr R6 (Nat.le_refl _) (Nat.le_of_eq esz.symm)) s2 (Nat.le_of_eq esz.symm)) (Nat.le_refl _) (by rw [esz]; exact s2)) (by rw [esz]; exact s2) (fun hs7 R7 => ?_)
        rw [← ev] at k
        exact k hs7 R7
      refine c_isFailure ⟨_, rfl, fun y => ?_, fun y => ⟨_, ob4.at, fun hs5 e5 => ?_⟩⟩
      · exact kw hs4 o.2.2.1 (lb_R.rf ob4) (by rw [if_pos (lz_b1.mp y)])
      · exact kw hs5 r.1 (ob4.own _ _ e5) (by rw [if_neg (by rw [lz_b0.mp (Decidable.not_not.mp y)]; decide)])
    · have hz : 30 ≤ o.2.2.2.2.2.2.1 := by
        have := lz_b1.mp z2
        simpa using this
      rw [if_pos hz] at k
      exact kend hs2 o _ g2 (Nat.le_refl _) k
  · rw [if_pos z] at k
    exact k hs2 g1
theorem c_builder {x y : Int32} (h : lb_ob hs b o) (k : ∀ hs2, lb_R hs b o (so_builder x y o).2 hs2 → Q (some (.int (so_builder x y o).1)) hs2) : mx_C mx_S0 l G (d + 1) mm_LB_builder [.ref b, .int x, .int y] hs Q := by
  have hR := lb_R.rf h
  unfold so_builder at k
  refine wp_LB_builder_0 _ _ _ ⟨fun z => ?_, fun z1 => ⟨fun z => ?_, fun z2 => ⟨fun z => ?_, fun z3 => ⟨fun z4 => ?_, fun z => ?_⟩⟩⟩⟩
  · rw [if_pos (Or.inl z)] at k
    exact k hs hR
  · rw [if_pos (Or.inr (Or.inl z))] at k
    exact k hs hR
  · rw [if_pos (Or.inr (Or.inr (Or.inl z)))] at k
    exact k hs hR
  · rw [if_neg (by rintro (q | q | q | q) <;> contradiction)] at k
    rcases pk_ix x (n := 10) (by decide) with q | q | ⟨j, q1, q2⟩
    · exact absurd q z1
    · exact absurd q z2
    obtain ⟨m, m1, m2⟩ := nI_of2 (x := y) (M := 4) (n := 4) rfl z3 z4
    subst q2
    rw [nI_clamp (by omega)] at k
    obtain ⟨A, wq, L, es0, dp0, bq0, h1, h2, h3, h4, h5, h6, h7⟩ := h
    obtain ⟨u1, u2, u3, u4, u5, u6, u7, u8⟩ := h3
    obtain ⟨g1, ⟨ps, g2, g3⟩, ⟨ks, g4, g5, g6⟩, g7, g8, g9, g10, g11⟩ := u6
    refine ⟨_, ⟨_, h1, rfl⟩, _, ⟨_, g1, rfl⟩, _, g4, nI_pos (by omega), by rw [nI_clamp (by omega), List.length_map]; omega, fun hs2 e2 => ?_⟩
    rw [nI_clamp (by omega), ← List.map_set] at e2
    have kp : mx_kp hs hs2 (b + 6) 1 := by
      rw [e2]
      exact mx_kp.st (by omega) (by omega)
    have fr : mx_fr lb_k0 hs hs2 := by
      rw [e2]
      exact mx_fr.st g4 rfl
    have hS : lb_st hs2 (b + 4) A wq (o.2.2.2.2.2.2.2.1, o.2.2.2.2.2.2.2.2.1, fun i => if i = j then y else o.2.2.2.2.2.2.2.2.2.1 i, o.2.2.2.2.2.2.2.2.2.2) := by
      refine ⟨(kp.1 _ (by omega)).trans g1, ⟨ps, (kp.1 _ (by omega)).trans g2, g3⟩, ⟨ks.set j y, by rw [e2]; exact mx_st_eq _ _ _, by rw [List.length_set]; exact g5, fun i hi => ?_⟩, fun i hi => ?_, g8, g9, ⟨g10.1, g10.2.1, fun i hi => ?_⟩, ?_⟩
      · by_cases hij : i = j
        · subst hij
          rw [List.getElem?_set_self (by omega)]
          simp
        · rw [List.getElem?_set_ne (by omega)]
          simp only [if_neg hij]
          exact g6 i hi
      · have := u7 i hi
        rw [kp.1 _ (by omega), kp.1 _ (by omega)]
        exact g7 i hi
      · by_cases hij : i = j
        · simp only [if_pos hij]
          exact ⟨m, m1, m2⟩
        · simp only [if_neg hij]
          exact g10.2.2 i hi
      · rw [e2]
        exact g11.st g4
    refine k hs2 ⟨⟨A, wq, L, es0, dp0, bq0, (kp.1 _ (by omega)).trans h1, h2.kp kp (by omega), ⟨(kp.1 _ (by omega)).trans u1, (kp.1 _ (by omega)).trans u2, fun i hi => (kp.1 _ (by omega)).trans (u3 i hi), (kp.1 _ (by omega)).trans u4, u5, hS, u7, ⟨u8.1, hS.ok⟩⟩, fun i hi => ?_, h5, h6, h7⟩, fr, by rw [kp.2]; show _ = hs.2.1 + 2 * (lz_sz o - lz_sz o); omega, by rw [kp.2]; exact Nat.le_add_right _ _⟩
    obtain ⟨es3, dp3, bp3, v1, v2⟩ := h4 i hi
    exact ⟨es3, dp3, bp3, v1.kp kp (by omega), v2⟩
  · rw [if_pos (Or.inr (Or.inr (Or.inr z)))] at k
    exact k hs hR
end CO4
end
section
/-! THE CLASS's calls: build, root. -/
section CO5
variable {l : Launch} {G : mx_G} {d b : Nat} {hs : mx_H} {Q : Option Value → mx_H → Prop} {o : lz_O}
/-- the Store is changed, the rest stands -/
theorem lb_ob.sto (hh : lb_ob hs b o) {hs2 : mx_H} {S2 : lz_S} {A : Nat → Nat} {wq wq2 : Nat → Int32} {L : List Int64} (h3 : lb_wk hs b o.2.2.2.1 A wq L o.2.2.2.2) (fr : mx_fr lb_kb hs hs2) (hz : hs2.2 = hs.2) (hS : lb_st hs2 (b + 4) A wq2 S2) (hsz : S2.2.1 = lz_sz o) : lb_R hs b o (o.1, o.2.1, o.2.2.1, o.2.2.2.1, o.2.2.2.2.1, o.2.2.2.2.2.1, o.2.2.2.2.2.2.1, S2) hs2 ∧ lb_wk hs2 b o.2.2.2.1 A wq2 L (o.2.2.2.2.1, o.2.2.2.2.2.1, o.2.2.2.2.2.2.1, S2) := by
  obtain ⟨u1, u2, u3, u4, u5, u6, u7, u8⟩ := h3
  have hw : lb_wk hs2 b o.2.2.2.1 A wq2 L (o.2.2.2.2.1, o.2.2.2.2.2.1, o.2.2.2.2.2.2.1, S2) := ⟨fr.1 _ _ u1 rfl, fr.1 _ _ u2 rfl, fun i hi => fr.1 _ _ (u3 i hi) rfl, fr.1 _ _ u4 rfl, u5, hS, fun i hi => u7 i (by have hi : i < S2.2.1 := hi; rw [hsz] at hi; exact hi), u8.mono hS.ok (Nat.le_of_eq hsz.symm)⟩
  obtain ⟨A0, wq0, L0, es0, dp0, bq0, h1, h2, -, h4, h5, h6, h7⟩ := hh
  refine ⟨⟨⟨A, wq2, L, es0, dp0, bq0, fr.1 _ _ h1 rfl, h2.fr fr rfl rfl, hw, fun i hi => ?_, h5, h6, h7⟩, fr.mono (fun k hk => ?_), ?_, ?_⟩, hw⟩
  · obtain ⟨es3, dp3, bp3, v1, v2⟩ := h4 i hi
    exact ⟨es3, dp3, bp3, v1.fr fr rfl rfl, v2⟩
  · have := lb_k0_w hk
    unfold lb_kw at this
    unfold lb_kb
    simp only [Bool.and_eq_true] at this ⊢
    exact ⟨this.1.1.1.1.2, this.1.1.1.2⟩
  · show hs2.2.1 = hs.2.1 + 2 * (S2.2.1 - lz_sz o)
    rw [hz, hsz]
    omega
  · rw [hz]
    exact Nat.le_add_right _ _
theorem c_build {x : Int32} (hd : 60 ≤ d) (h : lb_ob hs b o) (k : ∀ hs2, lb_R hs b o (so_build x o).2 hs2 → Q (some (.int (so_build x o).1)) hs2) : mx_C mx_S0 l G d mm_LB_build [.ref b, .int x] hs Q := by
  obtain ⟨d, rfl⟩ : ∃ d', d = d' + 60 := ⟨d - 60, by omega⟩
  have hsz := h.size
  have hR := lb_R.rf h
  have hh := h
  obtain ⟨A, wq, L, es0, dp0, bq0, h1, h2, h3, h4, h5, h6, h7⟩ := h
  unfold so_build at k
  refine wp_LB_build_0 _ _ ⟨_, ⟨_, h1, rfl⟩, ⟨_, h3.sto.at⟩, c_planAt h3.sto (fun z => ⟨_, rfl, Or.inl rfl, fun _ => ?_, fun _ e => by cases e⟩) (fun j hj e => ⟨_, rfl, Or.inr ⟨_, rfl⟩, fun e => (by cases e), fun a ea => ?_⟩)⟩
  · rw [if_pos (so_np_t z)] at k
    exact k hs hR
  · cases ea
    subst e
    have hj : j < lz_sz o := hj
    rw [if_neg (by rw [so_np_f hsz hj]; decide), lz_nI1 (by omega)] at k
    refine ⟨_, ⟨_, h1, rfl⟩, ⟨_, h3.at⟩, c_isClosed h3 (by omega) ⟨_, rfl, fun z => ?_, fun z => ?_⟩⟩
    · have hz : ¬ 30 ≤ o.2.2.2.2.2.2.1 := by
        have := lz_b0.mp z
        simpa using this
      rw [if_neg hz] at k
      simp only at k
      refine ⟨_, ⟨_, h1, rfl⟩, _, ⟨_, h1, rfl⟩, ⟨_, h3.sto.at⟩, ?_⟩
      rw [show (1000000000000 : Int64) + (nI (j + 1)).toInt64 = lz_pv j by rw [nI_l (by omega)]; rfl]
      refine c_resultOf h3.sto (Or.inr ⟨j, hj, rfl⟩) (by omega) (fun hs2 g1 g2 g3 => ⟨_, rfl, ?_⟩)
      obtain ⟨R2, w2⟩ := hh.sto h3 g2 g3 g1 (lz_pt_sm 30 _ _).1
      refine ⟨⟨_, w2.at⟩, lb_answer w2 (fun hs3 q1 q2 q3 => ⟨_, rfl, k hs3 ?_⟩)⟩
      have ea := so_ans_eq (lz_pt 30 (lz_sto o) (lz_pv j)).1 (o.2.2.2.2.1, o.2.2.2.2.2.1, o.2.2.2.2.2.2.1, (lz_pt 30 (lz_sto o) (lz_pv j)).2)
      have ez : lz_sz (o.1, o.2.1, o.2.2.1, o.2.2.2.1, (so_ans (lz_pt 30 (lz_sto o) (lz_pv j)).1 (o.2.2.2.2.1, o.2.2.2.2.2.1, o.2.2.2.2.2.2.1, (lz_pt 30 (lz_sto o) (lz_pv j)).2)).2) = lz_sz o := by
        show (so_ans _ _).2.2.2.2.2.1 = _
        rw [ea.2.2.2]
        exact (lz_pt_sm 30 _ _).1
      have fr3 : mx_fr lb_k0 hs hs3 := R2.2.1.tr (q2.mono (fun _ z => lb_k0_w z))
      obtain ⟨A9, wq9, L9, es9, dp9, bq9, v1, v2, v3, v4, v5, v6, v7⟩ := R2.1
      refine ⟨⟨A, wq, L, es9, dp9, bq9, q2.1 _ _ v1 rfl, v2.fr q2 rfl rfl, q1, v4.fr q2 (fun i hi => ?_), fun i hi => ?_, ?_, ?_⟩, fr3, ?_, ?_⟩
      · show ((so_ans _ _).2.1 i).1 = _
        rw [ea.1]
      · show ((so_ans _ _).2.1 i).2.1 = _
        rw [ea.1]
        exact h5 i hi
      · show (so_ans _ _).2.2.1 ≤ 200
        rw [ea.2.1]
        exact h6
      · show (so_ans _ _).2.2.2.1 ≤ 230
        have := ea.2.2.1
        simp only at this
        omega
      · rw [q3, g3, ez]
        omega
      · rw [q3, g3]
        exact Nat.le_add_right _ _
    · have hz : 30 ≤ o.2.2.2.2.2.2.1 := by
        have := lz_b1.mp z
        simpa using this
      rw [if_pos hz] at k
      exact k hs hR
theorem c_root {x : Int32} {on : Bool} (h : lb_ob hs b o) (k : ∀ hs2, lb_R hs b o (so_root x on o).2 hs2 → Q (some (.int (so_root x on o).1)) hs2) : mx_C mx_S0 l G (d + 2) mm_LB_root [.ref b, .int x, .int (lz_b on)] hs Q := by
  have hsz := h.size
  have hR := lb_R.rf h
  have hh := h
  obtain ⟨A, wq, L, es0, dp0, bq0, h1, h2, h3, h4, h5, h6, h7⟩ := h
  unfold so_root at k
  refine wp_LB_root_0 _ _ _ ⟨_, ⟨_, h1, rfl⟩, ⟨_, h3.sto.at⟩, c_planAt h3.sto (fun z => ⟨_, rfl, Or.inl rfl, fun _ => ?_, fun _ e => by cases e⟩) (fun j hj e => ⟨_, rfl, Or.inr ⟨_, rfl⟩, fun e => (by cases e), fun a ea => ⟨lz_b01 on, ?_⟩⟩)⟩
  · rw [if_pos (so_np_t z)] at k
    exact k hs hR
  · cases ea
    subst e
    have hj : j < lz_sz o := hj
    rw [if_neg (by rw [so_np_f hsz hj]; decide), lz_nI1 (by omega)] at k
    simp only at k
    obtain ⟨p1, p2⟩ := h3.sto.plan hj
    refine ⟨_, p1, fun hs2 e2 => ?_⟩
    have ok := h3.sto.ok.2.1 j hj
    have hS := h3.sto.upd hj (p := (((lz_sto o).1 j).1, ((lz_sto o).1 j).2.1, ((lz_sto o).1 j).2.2.1, ((lz_sto o).1 j).2.2.2.1, on)) (w := wq j) rfl ⟨ok.1, ok.2.1, ok.2.2.1, ok.2.2.2⟩
    have e3 : hs2 = mx_st hs (A j + 1) (lb_pc (A j) (((lz_sto o).1 j).1, ((lz_sto o).1 j).2.1, ((lz_sto o).1 j).2.2.1, ((lz_sto o).1 j).2.2.2.1, on) (wq j)) := e2
    rw [← e3] at hS
    exact k hs2 (hh.sto h3 (by rw [e3]; exact mx_fr.st p1 rfl) (by rw [e3]; rfl) hS rfl).1
end CO5
end
section
/-! THE CLASS: collect. -/
def lz_mk1 (W : Nat → Bool) (v : Int64) : Nat → Bool := fun i => if lz_pl v = true ∧ i = lz_ix v then true else W i
def lz_mk (W : Nat → Bool) (vs : List Int64) : Nat → Bool := vs.foldl lz_mk1 W
/-- from the latest down: what is wanted wants its INPUTS, what isn't is BUILT no more -/
def lz_sw : Nat → (Nat → Bool) → lz_S → Nat × lz_S
  | 0, _, S => (0, S)
  | i + 1, W, S =>
    if W i = true then lz_sw i (lz_mk W (S.1 i).2.1) S
    else if (S.1 i).2.2.1 = true then ((lz_sw i W (lz_setP S i ((S.1 i).1, (S.1 i).2.1, false, 0, (S.1 i).2.2.2.2))).1 + 1, (lz_sw i W (lz_setP S i ((S.1 i).1, (S.1 i).2.1, false, 0, (S.1 i).2.2.2.2))).2)
    else lz_sw i W S
def so_collect (o : lz_O) : Int32 × lz_O :=
  (nI (lz_sw (lz_sz o) (fun i => ((lz_sto o).1 i).2.2.2.2) (lz_sto o)).1, (o.1, o.2.1, o.2.2.1, o.2.2.2.1, o.2.2.2.2.1, o.2.2.2.2.2.1, o.2.2.2.2.2.2.1, (lz_sw (lz_sz o) (fun i => ((lz_sto o).1 i).2.2.2.2) (lz_sto o)).2))
section CSW
variable {l : Launch} {G : mx_G} {d s b : Nat} {hs : mx_H} {Q : Option Value → mx_H → Prop} {A : Nat → Nat} {wq : Nat → Int32} {S : lz_S} {o : lz_O}
theorem lz_setP_id (S : lz_S) (i : Nat) : lz_setP S i (S.1 i) = S := by
  refine Prod.ext (funext fun j => ?_) rfl
  simp only [lz_setP]
  by_cases h : j = i
  · rw [if_pos h, h]
  · rw [if_neg h]
theorem c_wantInputs (h : lb_st hs s A wq S) {j : Nat} (hj : j < S.2.1) {W : Nat → Bool} (hW : ∀ i, i < S.2.1 → wq i = lz_b (W i)) (k : ∀ hs2 wq2, lb_st hs2 s A wq2 S → (∀ i, i < S.2.1 → wq2 i = lz_b (lz_mk W (S.1 j).2.1 i)) → mx_fr lb_kb hs hs2 → hs2.2 = hs.2 → Q none hs2) : mx_C mx_S0 l G (d + 3) mm_LBStore_wantInputs [.ref s, .ref (A j + 1)] hs Q := by
  have hn := h.ok.1
  obtain ⟨q1, q2, q3⟩ := h.ok.2.1 j hj
  have Lo : ∀ (n i : Nat) (hs1 : mx_H) (wq1 : Nat → Int32) (W1 : Nat → Bool), i + n = (S.1 j).2.1.length → lb_st hs1 s A wq1 S → (∀ q, q < S.2.1 → wq1 q = lz_b (W1 q)) → ((S.1 j).2.1.drop i).foldl lz_mk1 W1 = lz_mk W (S.1 j).2.1 → mx_fr lb_kb hs hs1 → hs1.2 = hs.2 → mx_Ok mx_S0 l G (d + 3) mm_LBStore_wantInputs 2 [(0, .ref s), (1, .ref (A j + 1)), (2, .int (nI i))] [] hs1 Q := by
    intro n
    induction n with
    | zero =>
      intro i hs1 wq1 W1 hi h1 hW1 hf fr hz
      obtain ⟨p1, p2⟩ := h1.plan hj
      refine wp_LBStore_wantInputs_2 _ _ _ ⟨_, ⟨_, p1, rfl⟩, _, p2, fun _ => ?_, fun c => absurd ?_ c⟩
      · rw [List.drop_eq_nil_of_le (by omega)] at hf
        refine k hs1 wq1 h1 (fun q hq => ?_) fr hz
        rw [← hf]
        exact hW1 q hq
      · rw [List.length_map]
        exact nI_le (by omega) (by omega)
    | succ n ih =>
      intro i hs1 wq1 W1 hi h1 hW1 hf fr hz
      obtain ⟨p1, p2⟩ := h1.plan hj
      have hlt : i < (S.1 j).2.1.length := by omega
      have hv : (S.1 j).2.1[i]? = some ((S.1 j).2.1[i]) := List.getElem?_eq_getElem hlt
      have hvV := q2 _ (List.getElem_mem hlt)
      obtain ⟨v, ev⟩ : ∃ v, v = (S.1 j).2.1[i] := ⟨_, rfl⟩
      rw [← ev] at hv hvV
      rw [lz_drop hv] at hf
      have hnext : ∀ (hs2 : mx_H) (wq2 : Nat → Int32), lb_st hs2 s A wq2 S → (∀ q, q < S.2.1 → wq2 q = lz_b (lz_mk1 W1 v q)) → mx_fr lb_kb hs hs2 → hs2.2 = hs.2 → mx_Ok mx_S0 l G (d + 3) mm_LBStore_wantInputs 31 [(0, .ref s), (1, .ref (A j + 1)), (2, .int (nI i))] [] hs2 Q := by
        intro hs2 wq2 g1 g2 g3 g4
        refine wp_LBStore_wantInputs_31 _ _ _ ?_
        rw [nI_1]
        exact ih (i + 1) hs2 wq2 (lz_mk1 W1 v) (by omega) g1 g2 hf g3 g4
      refine wp_LBStore_wantInputs_2 _ _ _ ⟨_, ⟨_, p1, rfl⟩, _, p2, fun c => absurd c ?_, fun _ => ⟨_, ⟨_, p1, rfl⟩, _, _, p2, nI_pos (by omega), by rw [nI_clamp (by omega)]; exact lz_longs hv, ⟨_, h1.at⟩, c_planIn h1 (hvV.mono (by omega)) (fun x e => ⟨_, rfl, Or.inl rfl, fun _ => ?_, fun _ e => by cases e⟩) (fun m hm e => ⟨_, rfl, Or.inr ⟨_, rfl⟩, fun e => (by cases e), fun a ea => ?_⟩)⟩⟩
      · rw [List.length_map]
        exact nI_ge (by omega) (by omega)
      · refine hnext hs1 wq1 h1 (fun q hq => ?_) fr hz
        rw [hW1 q hq]
        unfold lz_mk1
        rw [if_neg (by rw [e, lz_n_pl]; rintro ⟨z, -⟩; cases z)]
      · cases ea
        obtain ⟨m1, m2⟩ := h1.plan hm
        refine ⟨_, m1, fun hs2 e2 => ?_⟩
        have hS := h1.upd hm (p := S.1 m) (w := 1) rfl (h1.ok.2.1 m hm)
        rw [lz_setP_id] at hS
        have e3 : hs2 = mx_st hs1 (A m + 1) (lb_pc (A m) (S.1 m) 1) := e2
        rw [← e3] at hS
        refine hnext hs2 _ hS (fun q hq => ?_) (fr.tr (by rw [e3]; exact mx_fr.st m1 rfl)) (by rw [e3]; exact hz)
        unfold lz_mk1
        rw [e, lz_pv_pl (by omega), lz_pv_ix (by omega)]
        by_cases hqm : q = m
        · simp [hqm, lz_b]
        · simp [hqm]
          exact hW1 q hq
  exact wp_LBStore_wantInputs_0 _ _ (Lo _ 0 hs wq W (Nat.zero_add _) h hW rfl mx_fr.rf rfl)
theorem lz_sw_le : ∀ (n : Nat) (W : Nat → Bool) (S : lz_S), (lz_sw n W S).1 ≤ n := by
  intro n
  induction n with
  | zero => exact fun _ _ => Nat.le_refl _
  | succ n ih =>
    intro W S
    unfold lz_sw
    split
    · exact Nat.le_succ_of_le (ih _ _)
    split
    · exact Nat.succ_le_succ (ih _ _)
    · exact Nat.le_succ_of_le (ih _ _)
theorem c_sweep (h : lb_st hs s A wq S) (k : ∀ hs2 wq2, lb_st hs2 s A wq2 (lz_sw S.2.1 (fun i => (S.1 i).2.2.2.2) S).2 → (lz_sw S.2.1 (fun i => (S.1 i).2.2.2.2) S).2.2.1 = S.2.1 → mx_fr lb_kb hs hs2 → hs2.2 = hs.2 → Q (some (.int (nI (lz_sw S.2.1 (fun i => (S.1 i).2.2.2.2) S).1))) hs2) : mx_C mx_S0 l G (d + 4) mm_LBStore_sweep [.ref s] hs Q := by
  have hn := h.ok.1
  -- the second loop
  have L2 : ∀ (i : Nat) (c : Nat) (hs1 : mx_H) (wq1 : Nat → Int32) (W1 : Nat → Bool) (S1 : lz_S), i ≤ S.2.1 → S1.2.1 = S.2.1 → c ≤ 60 → lb_st hs1 s A wq1 S1 → (∀ q, q < S.2.1 → wq1 q = lz_b (W1 q)) → (lz_sw S.2.1 (fun i => (S.1 i).2.2.2.2) S).1 = c + (lz_sw i W1 S1).1 → (lz_sw S.2.1 (fun i => (S.1 i).2.2.2.2) S).2 = (lz_sw i W1 S1).2 → mx_fr lb_kb hs hs1 → hs1.2 = hs.2 → mx_Ok mx_S0 l G (d + 4) mm_LBStore_sweep 43 [(0, .ref s), (1, .int (nI c)), (2, .int (nI i - 1))] [] hs1 Q := by
    intro i
    induction i with
    | zero =>
      intro c hs1 wq1 W1 S1 hi e1 hc h1 hW1 f1 f2 fr hz
      refine wp_LBStore_sweep_43 _ _ _ ⟨fun _ => ?_, fun z => absurd (by decide) z⟩
      simp only [lz_sw, Nat.add_zero] at f1 f2
      rw [f1, f2] at k
      exact k hs1 wq1 h1 e1 fr hz
    | succ i ih =>
      intro c hs1 wq1 W1 S1 hi e1 hc h1 hW1 f1 f2 fr hz
      rw [nI_pred]
      have hi1 : i < S1.2.1 := by omega
      obtain ⟨ps, g2, g3, g4⟩ := h1.2.1
      obtain ⟨p1, p2⟩ := h1.plan hi1
      have hnext : ∀ (c' : Nat) (hs2 : mx_H) (wq2 : Nat → Int32) (W2 : Nat → Bool) (S2 : lz_S), S2.2.1 = S.2.1 → c' ≤ 60 → lb_st hs2 s A wq2 S2 → (∀ q, q < S.2.1 → wq2 q = lz_b (W2 q)) → (lz_sw S.2.1 (fun i => (S.1 i).2.2.2.2) S).1 = c' + (lz_sw i W2 S2).1 → (lz_sw S.2.1 (fun i => (S.1 i).2.2.2.2) S).2 = (lz_sw i W2 S2).2 → mx_fr lb_kb hs hs2 → hs2.2 = hs.2 → mx_Ok mx_S0 l G (d + 4) mm_LBStore_sweep 107 [(0, .ref s), (1, .int (nI c')), (2, .int (nI i))] [] hs2 Q := by
        intro c' hs2 wq2 W2 S2 v1 v2 v3 v4 v5 v6 v7 v8
        refine wp_LBStore_sweep_107 _ _ _ ?_
        rw [← Int32.sub_eq_add_neg]
        exact ih c' hs2 wq2 W2 S2 (by omega) v1 v2 v3 v4 v5 v6 v7 v8
      have arr : ∀ {hs9 : mx_H}, hs9.1 (s + 1) = hs1.1 (s + 1) → hs9.1 (s + 1) = some (113, ps) := fun e => e.trans g2
      have gi : ps[Int32.toNatClampNeg (nI i)]? = some (.ref (A i + 1)) := by rw [nI_clamp (by omega)]; exact g4 i hi1
      refine wp_LBStore_sweep_43 _ _ _ ⟨fun z => absurd z (nI_pos (by omega)), fun _ => ⟨_, ⟨_, h1.at, rfl⟩, _, _, g2, nI_pos (by omega), gi, _, ⟨_, p1, rfl⟩, fun z => ⟨_, ⟨_, h1.at, rfl⟩, _, _, g2, nI_pos (by omega), gi, _, ⟨_, p1, rfl⟩, fun y => ?_, fun y => ⟨_, ⟨_, h1.at, rfl⟩, _, _, g2, nI_pos (by omega), gi, _, p1, fun hs2 e2 => ?_⟩⟩, fun z => ⟨_, ⟨_, h1.at, rfl⟩, _, _, g2, nI_pos (by omega), gi, ⟨_, h1.at⟩, ?_⟩⟩⟩
      · rw [hW1 i (by omega)] at z
        rw [lz_sw] at f1 f2
        rw [if_neg (by rw [lz_b0.mp z]; decide), if_neg (by rw [lz_b0.mp y]; decide)] at f1 f2
        exact hnext c hs1 wq1 W1 S1 e1 hc h1 hW1 f1 f2 fr hz
      · rw [hW1 i (by omega)] at z
        rw [lz_sw] at f1 f2
        rw [if_neg (by rw [lz_b0.mp z]; decide), if_pos (lz_b1.mp y)] at f1 f2
        have hA := h1.2.2.2.2.1 i hi1
        have a2 : hs2.1 s = hs1.1 s := by rw [e2, mx_st_ne _ _ (by omega)]
        have b2 : hs2.1 (s + 1) = hs1.1 (s + 1) := by rw [e2, mx_st_ne _ _ (by omega)]
        refine ⟨_, ⟨_, a2.trans h1.at, rfl⟩, _, _, arr b2, nI_pos (by omega), gi, _, by rw [e2]; exact mx_st_eq _ _ _, fun hs3 e3 => ?_⟩
        have e4 : hs3 = mx_st hs1 (A i + 1) (lb_pc (A i) ((S1.1 i).1, (S1.1 i).2.1, false, 0, (S1.1 i).2.2.2.2) (wq1 i)) := by
          rw [e3, e2, mx_st_st]
          rfl
        have ok := h1.ok.2.1 i hi1
        have hS := h1.upd hi1 (p := ((S1.1 i).1, (S1.1 i).2.1, false, 0, (S1.1 i).2.2.2.2)) (w := wq1 i) rfl ⟨ok.1, ok.2.1, ok.2.2.1, fun _ => rfl⟩
        rw [lz_wq, ← e4] at hS
        rw [nI_1]
        exact hnext (c + 1) hs3 wq1 W1 (lz_setP S1 i ((S1.1 i).1, (S1.1 i).2.1, false, 0, (S1.1 i).2.2.2.2)) e1 (by have := lz_sw_le S.2.1 (fun i => (S.1 i).2.2.2.2) S; omega) hS hW1 (by rw [f1]; omega) f2 (fr.tr (by rw [e4]; exact mx_fr.st p1 rfl)) (by rw [e4]; exact hz)
      · rw [hW1 i (by omega)] at z
        rw [lz_sw] at f1 f2
        rw [if_pos (lz_b1.mp z)] at f1 f2
        refine c_wantInputs h1 hi1 (W := W1) (fun q hq => hW1 q (by omega)) (fun hs2 wq2 v1 v2 v3 v4 => ⟨rfl, ?_⟩)
        exact hnext c hs2 wq2 _ S1 e1 hc v1 (fun q hq => v2 q (by omega)) f1 f2 (fr.tr v3) (v4.trans hz)
  -- the first loop
  have L1 : ∀ (n i : Nat) (hs1 : mx_H) (wq1 : Nat → Int32), i + n = S.2.1 → lb_st hs1 s A wq1 S → (∀ q, q < i → wq1 q = lz_b (S.1 q).2.2.2.2) → mx_fr lb_kb hs hs1 → hs1.2 = hs.2 → mx_Ok mx_S0 l G (d + 4) mm_LBStore_sweep 2 [(0, .ref s), (1, .int (nI i))] [] hs1 Q := by
    intro n
    induction n with
    | zero =>
      intro i hs1 wq1 hi h1 hw fr hz
      refine wp_LBStore_sweep_2 _ _ ⟨_, ⟨_, h1.at, rfl⟩, fun _ => ⟨_, ⟨_, h1.at, rfl⟩, ?_⟩, fun c => absurd (nI_le (by omega) (by omega)) c⟩
      exact L2 S.2.1 0 hs1 wq1 (fun i => (S.1 i).2.2.2.2) S (Nat.le_refl _) rfl (by omega) h1 (fun q hq => hw q (by omega)) (by rw [Nat.zero_add]) rfl fr hz
    | succ n ih =>
      intro i hs1 wq1 hi h1 hw fr hz
      have hi1 : i < S.2.1 := by omega
      obtain ⟨ps, g2, g3, g4⟩ := h1.2.1
      obtain ⟨p1, p2⟩ := h1.plan hi1
      have gi : ps[Int32.toNatClampNeg (nI i)]? = some (.ref (A i + 1)) := by rw [nI_clamp (by omega)]; exact g4 i hi1
      refine wp_LBStore_sweep_2 _ _ ⟨_, ⟨_, h1.at, rfl⟩, fun c => absurd c (nI_ge (by omega) (by omega)), fun _ => ⟨_, ⟨_, h1.at, rfl⟩, _, _, g2, nI_pos (by omega), gi, _, ⟨_, h1.at, rfl⟩, _, _, g2, nI_pos (by omega), gi, _, ⟨_, p1, rfl⟩, lz_b01 _, _, p1, fun hs2 e2 => ?_⟩⟩
      have hS := h1.upd hi1 (p := S.1 i) (w := lz_b (S.1 i).2.2.2.2) rfl (h1.ok.2.1 i hi1)
      rw [lz_setP_id] at hS
      have e3 : hs2 = mx_st hs1 (A i + 1) (lb_pc (A i) (S.1 i) (lz_b (S.1 i).2.2.2.2)) := e2
      rw [← e3] at hS
      rw [nI_1]
      refine ih (i + 1) hs2 _ (by omega) hS (fun q hq => ?_) (fr.tr (by rw [e3]; exact mx_fr.st p1 rfl)) (by rw [e3]; exact hz)
      by_cases hqi : q = i
      · simp [hqi]
      · simp [hqi]
        exact hw q (by omega)
  exact wp_LBStore_sweep_0 _ (L1 _ 0 hs wq (Nat.zero_add _) h (fun q hq => absurd hq (Nat.not_lt_zero q)) mx_fr.rf rfl)
theorem c_collect (h : lb_ob hs b o) (k : ∀ hs2, lb_R hs b o (so_collect o).2 hs2 → Q (some (.int (so_collect o).1)) hs2) : mx_C mx_S0 l G (d + 5) mm_LB_collect [.ref b] hs Q := by
  have hh := h
  obtain ⟨A, wq, L, es0, dp0, bq0, h1, h2, h3, h4, h5, h6, h7⟩ := h
  refine wp_LB_collect_0 _ ⟨_, ⟨_, h1, rfl⟩, ⟨_, h3.sto.at⟩, c_sweep h3.sto (fun hs2 wq2 g1 g2 g3 g4 => ⟨_, rfl, k hs2 (hh.sto h3 g3 g4 g1 g2).1⟩)⟩
end CSW
end
