-- ===== PART A: goes FIRST, ahead of the names: the tables' words, and 'selects' of the private methods out of them =====
/-- a private method of a class that the tables say can be made, by its rows of tables_1 -/
def lw_okq (q : MethodName × Nat) : Prop := (q.1.cls ≠ "java/lang/invoke/MethodHandle" ∧ q.1.cls ≠ "java/lang/invoke/VarHandle") ∧ Cond.instantiable q.1.cls q.2 ∈ tables_1 ∧ Cond.privateMethod q.1 ∈ tables_1 ∧ Cond.instanceMethod q.1 ∈ tables_1
theorem lw_p0 : lw_okq (⟨"FactLines", "drawn", "()LFactLines$Lines;"⟩, 15) := ⟨⟨by decide +kernel, by decide +kernel⟩, List.mem_of_getElem? (i := 23) (by decide +kernel), List.mem_of_getElem? (i := 343) (by decide +kernel), List.mem_of_getElem? (i := 344) (by decide +kernel)⟩
theorem lw_p1 : lw_okq (⟨"FactLines$Lines", "cutPieces", "()V"⟩, 11) := ⟨⟨by decide +kernel, by decide +kernel⟩, List.mem_of_getElem? (i := 226) (by decide +kernel), List.mem_of_getElem? (i := 351) (by decide +kernel), List.mem_of_getElem? (i := 352) (by decide +kernel)⟩
theorem lw_p2 : lw_okq (⟨"FactLines$Lines", "layFact", "(I)V"⟩, 11) := ⟨⟨by decide +kernel, by decide +kernel⟩, List.mem_of_getElem? (i := 226) (by decide +kernel), List.mem_of_getElem? (i := 362) (by decide +kernel), List.mem_of_getElem? (i := 363) (by decide +kernel)⟩
theorem lw_p3 : lw_okq (⟨"FactLines$Lines", "makeBy", "(LFactLines$Rule;I)I"⟩, 11) := ⟨⟨by decide +kernel, by decide +kernel⟩, List.mem_of_getElem? (i := 226) (by decide +kernel), List.mem_of_getElem? (i := 370) (by decide +kernel), List.mem_of_getElem? (i := 371) (by decide +kernel)⟩
theorem lw_p4 : lw_okq (⟨"FactLines$Lines", "isIdle", "(I)Z"⟩, 11) := ⟨⟨by decide +kernel, by decide +kernel⟩, List.mem_of_getElem? (i := 226) (by decide +kernel), List.mem_of_getElem? (i := 385) (by decide +kernel), List.mem_of_getElem? (i := 386) (by decide +kernel)⟩
theorem lw_p5 : lw_okq (⟨"FactLines$Lines", "lengthOf", "(I)I"⟩, 11) := ⟨⟨by decide +kernel, by decide +kernel⟩, List.mem_of_getElem? (i := 226) (by decide +kernel), List.mem_of_getElem? (i := 393) (by decide +kernel), List.mem_of_getElem? (i := 394) (by decide +kernel)⟩
theorem lw_p6 : lw_okq (⟨"FactLines$Lines", "beginsRow", "(IIZ)Z"⟩, 11) := ⟨⟨by decide +kernel, by decide +kernel⟩, List.mem_of_getElem? (i := 226) (by decide +kernel), List.mem_of_getElem? (i := 453) (by decide +kernel), List.mem_of_getElem? (i := 454) (by decide +kernel)⟩
theorem lw_p7 : lw_okq (⟨"FactLines$Tape", "isLetter", "(I)Z"⟩, 6) := ⟨⟨by decide +kernel, by decide +kernel⟩, List.mem_of_getElem? (i := 153) (by decide +kernel), List.mem_of_getElem? (i := 473) (by decide +kernel), List.mem_of_getElem? (i := 474) (by decide +kernel)⟩
theorem lw_p8 : lw_okq (⟨"FactLines$Tape", "wordKind", "(II)I"⟩, 6) := ⟨⟨by decide +kernel, by decide +kernel⟩, List.mem_of_getElem? (i := 153) (by decide +kernel), List.mem_of_getElem? (i := 477) (by decide +kernel), List.mem_of_getElem? (i := 478) (by decide +kernel)⟩
theorem lw_p9 : lw_okq (⟨"FactLines$Tape", "actKind", "(II)I"⟩, 6) := ⟨⟨by decide +kernel, by decide +kernel⟩, List.mem_of_getElem? (i := 153) (by decide +kernel), List.mem_of_getElem? (i := 481) (by decide +kernel), List.mem_of_getElem? (i := 482) (by decide +kernel)⟩
theorem lw_p10 : lw_okq (⟨"FactLines$Tape", "spells", "(IILjava/lang/String;)Z"⟩, 6) := ⟨⟨by decide +kernel, by decide +kernel⟩, List.mem_of_getElem? (i := 153) (by decide +kernel), List.mem_of_getElem? (i := 486) (by decide +kernel), List.mem_of_getElem? (i := 487) (by decide +kernel)⟩
theorem lw_p11 : lw_okq (⟨"FactLines$Tape", "innerKind", "(II)I"⟩, 6) := ⟨⟨by decide +kernel, by decide +kernel⟩, List.mem_of_getElem? (i := 153) (by decide +kernel), List.mem_of_getElem? (i := 545) (by decide +kernel), List.mem_of_getElem? (i := 546) (by decide +kernel)⟩
theorem lw_p12 : lw_okq (⟨"FactLines$Tape", "put", "(III)V"⟩, 6) := ⟨⟨by decide +kernel, by decide +kernel⟩, List.mem_of_getElem? (i := 153) (by decide +kernel), List.mem_of_getElem? (i := 558) (by decide +kernel), List.mem_of_getElem? (i := 559) (by decide +kernel)⟩
theorem lw_p13 : lw_okq (⟨"FactLines$Tape", "isDigit", "(I)Z"⟩, 6) := ⟨⟨by decide +kernel, by decide +kernel⟩, List.mem_of_getElem? (i := 153) (by decide +kernel), List.mem_of_getElem? (i := 562) (by decide +kernel), List.mem_of_getElem? (i := 563) (by decide +kernel)⟩
theorem lw_p14 : lw_okq (⟨"FactLines$Tape", "numberOf", "(II)I"⟩, 6) := ⟨⟨by decide +kernel, by decide +kernel⟩, List.mem_of_getElem? (i := 153) (by decide +kernel), List.mem_of_getElem? (i := 566) (by decide +kernel), List.mem_of_getElem? (i := 567) (by decide +kernel)⟩
theorem lw_p15 : lw_okq (⟨"FactLines$Reader", "kind", "()I"⟩, 10) := ⟨⟨by decide +kernel, by decide +kernel⟩, List.mem_of_getElem? (i := 184) (by decide +kernel), List.mem_of_getElem? (i := 573) (by decide +kernel), List.mem_of_getElem? (i := 574) (by decide +kernel)⟩
def lw_privs_1 : List (MethodName × Nat) := [(⟨"FactLines", "drawn", "()LFactLines$Lines;"⟩, 15), (⟨"FactLines$Lines", "cutPieces", "()V"⟩, 11), (⟨"FactLines$Lines", "layFact", "(I)V"⟩, 11), (⟨"FactLines$Lines", "makeBy", "(LFactLines$Rule;I)I"⟩, 11), (⟨"FactLines$Lines", "isIdle", "(I)Z"⟩, 11), (⟨"FactLines$Lines", "lengthOf", "(I)I"⟩, 11), (⟨"FactLines$Lines", "beginsRow", "(IIZ)Z"⟩, 11), (⟨"FactLines$Tape", "isLetter", "(I)Z"⟩, 6), (⟨"FactLines$Tape", "wordKind", "(II)I"⟩, 6), (⟨"FactLines$Tape", "actKind", "(II)I"⟩, 6), (⟨"FactLines$Tape", "spells", "(IILjava/lang/String;)Z"⟩, 6), (⟨"FactLines$Tape", "innerKind", "(II)I"⟩, 6), (⟨"FactLines$Tape", "put", "(III)V"⟩, 6), (⟨"FactLines$Tape", "isDigit", "(I)Z"⟩, 6), (⟨"FactLines$Tape", "numberOf", "(II)I"⟩, 6), (⟨"FactLines$Reader", "kind", "()I"⟩, 10)]
theorem lw_r1 : ∀ q ∈ lw_privs_1, lw_okq q := List.forall_mem_cons.mpr ⟨lw_p0, List.forall_mem_cons.mpr ⟨lw_p1, List.forall_mem_cons.mpr ⟨lw_p2, List.forall_mem_cons.mpr ⟨lw_p3, List.forall_mem_cons.mpr ⟨lw_p4, List.forall_mem_cons.mpr ⟨lw_p5, List.forall_mem_cons.mpr ⟨lw_p6, List.forall_mem_cons.mpr ⟨lw_p7, List.forall_mem_cons.mpr ⟨lw_p8, List.forall_mem_cons.mpr ⟨lw_p9, List.forall_mem_cons.mpr ⟨lw_p10, List.forall_mem_cons.mpr ⟨lw_p11, List.forall_mem_cons.mpr ⟨lw_p12, List.forall_mem_cons.mpr ⟨lw_p13, List.forall_mem_cons.mpr ⟨lw_p14, List.forall_mem_cons.mpr ⟨lw_p15, fun _ h => absurd h List.not_mem_nil⟩⟩⟩⟩⟩⟩⟩⟩⟩⟩⟩⟩⟩⟩⟩⟩
theorem lw_p16 : lw_okq (⟨"FactLines$Reader", "readAct", "()Z"⟩, 10) := ⟨⟨by decide +kernel, by decide +kernel⟩, List.mem_of_getElem? (i := 184) (by decide +kernel), List.mem_of_getElem? (i := 577) (by decide +kernel), List.mem_of_getElem? (i := 578) (by decide +kernel)⟩
theorem lw_p17 : lw_okq (⟨"FactLines$Reader", "number", "(II)Z"⟩, 10) := ⟨⟨by decide +kernel, by decide +kernel⟩, List.mem_of_getElem? (i := 184) (by decide +kernel), List.mem_of_getElem? (i := 585) (by decide +kernel), List.mem_of_getElem? (i := 586) (by decide +kernel)⟩
theorem lw_p18 : lw_okq (⟨"FactLines$Reader", "word", "(I)Z"⟩, 10) := ⟨⟨by decide +kernel, by decide +kernel⟩, List.mem_of_getElem? (i := 184) (by decide +kernel), List.mem_of_getElem? (i := 593) (by decide +kernel), List.mem_of_getElem? (i := 594) (by decide +kernel)⟩
theorem lw_p19 : lw_okq (⟨"FactLines$Reader", "readsOff", "()Z"⟩, 10) := ⟨⟨by decide +kernel, by decide +kernel⟩, List.mem_of_getElem? (i := 184) (by decide +kernel), List.mem_of_getElem? (i := 597) (by decide +kernel), List.mem_of_getElem? (i := 598) (by decide +kernel)⟩
theorem lw_p20 : lw_okq (⟨"FactLines$Reader", "readRule", "(LFactLines$Rule;I)Z"⟩, 10) := ⟨⟨by decide +kernel, by decide +kernel⟩, List.mem_of_getElem? (i := 184) (by decide +kernel), List.mem_of_getElem? (i := 601) (by decide +kernel), List.mem_of_getElem? (i := 602) (by decide +kernel)⟩
theorem lw_p21 : lw_okq (⟨"FactLines$Reader", "waitFor", "(I)V"⟩, 10) := ⟨⟨by decide +kernel, by decide +kernel⟩, List.mem_of_getElem? (i := 184) (by decide +kernel), List.mem_of_getElem? (i := 609) (by decide +kernel), List.mem_of_getElem? (i := 610) (by decide +kernel)⟩
theorem lw_p22 : lw_okq (⟨"FactLines$Reader", "readAtom", "(LFactLines$Rule;I)Z"⟩, 10) := ⟨⟨by decide +kernel, by decide +kernel⟩, List.mem_of_getElem? (i := 184) (by decide +kernel), List.mem_of_getElem? (i := 613) (by decide +kernel), List.mem_of_getElem? (i := 614) (by decide +kernel)⟩
theorem lw_p23 : lw_okq (⟨"FactLines$Reader", "joinWaiting", "(LFactLines$Rule;I)V"⟩, 10) := ⟨⟨by decide +kernel, by decide +kernel⟩, List.mem_of_getElem? (i := 184) (by decide +kernel), List.mem_of_getElem? (i := 631) (by decide +kernel), List.mem_of_getElem? (i := 632) (by decide +kernel)⟩
theorem lw_p24 : lw_okq (⟨"FactLines$Reader", "failAt", "(I)Z"⟩, 10) := ⟨⟨by decide +kernel, by decide +kernel⟩, List.mem_of_getElem? (i := 184) (by decide +kernel), List.mem_of_getElem? (i := 636) (by decide +kernel), List.mem_of_getElem? (i := 637) (by decide +kernel)⟩
theorem lw_p25 : lw_okq (⟨"FactLines$State", "refusalOfFact", "(III)I"⟩, 11) := ⟨⟨by decide +kernel, by decide +kernel⟩, List.mem_of_getElem? (i := 31) (by decide +kernel), List.mem_of_getElem? (i := 644) (by decide +kernel), List.mem_of_getElem? (i := 645) (by decide +kernel)⟩
theorem lw_p26 : lw_okq (⟨"FactLines$State", "refusalOfHush", "(IZ)I"⟩, 11) := ⟨⟨by decide +kernel, by decide +kernel⟩, List.mem_of_getElem? (i := 31) (by decide +kernel), List.mem_of_getElem? (i := 656) (by decide +kernel), List.mem_of_getElem? (i := 657) (by decide +kernel)⟩
theorem lw_p27 : lw_okq (⟨"FactLines$State", "refusalOfCut", "(II)I"⟩, 11) := ⟨⟨by decide +kernel, by decide +kernel⟩, List.mem_of_getElem? (i := 31) (by decide +kernel), List.mem_of_getElem? (i := 660) (by decide +kernel), List.mem_of_getElem? (i := 661) (by decide +kernel)⟩
theorem lw_p28 : lw_okq (⟨"FactLines$State", "isCutBy", "(III)Z"⟩, 11) := ⟨⟨by decide +kernel, by decide +kernel⟩, List.mem_of_getElem? (i := 31) (by decide +kernel), List.mem_of_getElem? (i := 664) (by decide +kernel), List.mem_of_getElem? (i := 665) (by decide +kernel)⟩
theorem lw_p29 : lw_okq (⟨"FactLines$State", "addSource", "(I)V"⟩, 11) := ⟨⟨by decide +kernel, by decide +kernel⟩, List.mem_of_getElem? (i := 31) (by decide +kernel), List.mem_of_getElem? (i := 672) (by decide +kernel), List.mem_of_getElem? (i := 673) (by decide +kernel)⟩
theorem lw_p30 : lw_okq (⟨"FactLines$State", "addFact", "(IIIII)V"⟩, 11) := ⟨⟨by decide +kernel, by decide +kernel⟩, List.mem_of_getElem? (i := 31) (by decide +kernel), List.mem_of_getElem? (i := 676) (by decide +kernel), List.mem_of_getElem? (i := 677) (by decide +kernel)⟩
theorem lw_p31 : lw_okq (⟨"FactLines$State", "cutAll", "(II)V"⟩, 11) := ⟨⟨by decide +kernel, by decide +kernel⟩, List.mem_of_getElem? (i := 31) (by decide +kernel), List.mem_of_getElem? (i := 680) (by decide +kernel), List.mem_of_getElem? (i := 681) (by decide +kernel)⟩
def lw_privs_2 : List (MethodName × Nat) := [(⟨"FactLines$Reader", "readAct", "()Z"⟩, 10), (⟨"FactLines$Reader", "number", "(II)Z"⟩, 10), (⟨"FactLines$Reader", "word", "(I)Z"⟩, 10), (⟨"FactLines$Reader", "readsOff", "()Z"⟩, 10), (⟨"FactLines$Reader", "readRule", "(LFactLines$Rule;I)Z"⟩, 10), (⟨"FactLines$Reader", "waitFor", "(I)V"⟩, 10), (⟨"FactLines$Reader", "readAtom", "(LFactLines$Rule;I)Z"⟩, 10), (⟨"FactLines$Reader", "joinWaiting", "(LFactLines$Rule;I)V"⟩, 10), (⟨"FactLines$Reader", "failAt", "(I)Z"⟩, 10), (⟨"FactLines$State", "refusalOfFact", "(III)I"⟩, 11), (⟨"FactLines$State", "refusalOfHush", "(IZ)I"⟩, 11), (⟨"FactLines$State", "refusalOfCut", "(II)I"⟩, 11), (⟨"FactLines$State", "isCutBy", "(III)Z"⟩, 11), (⟨"FactLines$State", "addSource", "(I)V"⟩, 11), (⟨"FactLines$State", "addFact", "(IIIII)V"⟩, 11), (⟨"FactLines$State", "cutAll", "(II)V"⟩, 11)]
theorem lw_r2 : ∀ q ∈ lw_privs_2, lw_okq q := List.forall_mem_cons.mpr ⟨lw_p16, List.forall_mem_cons.mpr ⟨lw_p17, List.forall_mem_cons.mpr ⟨lw_p18, List.forall_mem_cons.mpr ⟨lw_p19, List.forall_mem_cons.mpr ⟨lw_p20, List.forall_mem_cons.mpr ⟨lw_p21, List.forall_mem_cons.mpr ⟨lw_p22, List.forall_mem_cons.mpr ⟨lw_p23, List.forall_mem_cons.mpr ⟨lw_p24, List.forall_mem_cons.mpr ⟨lw_p25, List.forall_mem_cons.mpr ⟨lw_p26, List.forall_mem_cons.mpr ⟨lw_p27, List.forall_mem_cons.mpr ⟨lw_p28, List.forall_mem_cons.mpr ⟨lw_p29, List.forall_mem_cons.mpr ⟨lw_p30, List.forall_mem_cons.mpr ⟨lw_p31, fun _ h => absurd h List.not_mem_nil⟩⟩⟩⟩⟩⟩⟩⟩⟩⟩⟩⟩⟩⟩⟩⟩
theorem lw_p32 : lw_okq (⟨"java/lang/Throwable", "fillInStackTrace", "(I)Ljava/lang/Throwable;"⟩, 6) := ⟨⟨by decide +kernel, by decide +kernel⟩, List.mem_of_getElem? (i := 724) (by decide +kernel), List.mem_of_getElem? (i := 722) (by decide +kernel), List.mem_of_getElem? (i := 723) (by decide +kernel)⟩
theorem lw_p33 : lw_okq (⟨"FactLines", "tell", "(IIIIII)V"⟩, 15) := ⟨⟨by decide +kernel, by decide +kernel⟩, List.mem_of_getElem? (i := 23) (by decide +kernel), List.mem_of_getElem? (i := 766) (by decide +kernel), List.mem_of_getElem? (i := 767) (by decide +kernel)⟩
theorem lw_p34 : lw_okq (⟨"FactLines$State", "countBetter", "(II)I"⟩, 11) := ⟨⟨by decide +kernel, by decide +kernel⟩, List.mem_of_getElem? (i := 31) (by decide +kernel), List.mem_of_getElem? (i := 936) (by decide +kernel), List.mem_of_getElem? (i := 937) (by decide +kernel)⟩
theorem lw_p35 : lw_okq (⟨"FactLines", "rowAnswer", "(IIIZ)I"⟩, 15) := ⟨⟨by decide +kernel, by decide +kernel⟩, List.mem_of_getElem? (i := 23) (by decide +kernel), List.mem_of_getElem? (i := 948) (by decide +kernel), List.mem_of_getElem? (i := 949) (by decide +kernel)⟩
theorem lw_p36 : lw_okq (⟨"FactLines$Lines", "lackedBy", "(LFactLines$Rule;I)I"⟩, 11) := ⟨⟨by decide +kernel, by decide +kernel⟩, List.mem_of_getElem? (i := 226) (by decide +kernel), List.mem_of_getElem? (i := 979) (by decide +kernel), List.mem_of_getElem? (i := 980) (by decide +kernel)⟩
theorem lw_p37 : lw_okq (⟨"FactLines", "needFact", "(I)V"⟩, 15) := ⟨⟨by decide +kernel, by decide +kernel⟩, List.mem_of_getElem? (i := 23) (by decide +kernel), List.mem_of_getElem? (i := 1024) (by decide +kernel), List.mem_of_getElem? (i := 1025) (by decide +kernel)⟩
theorem lw_p38 : lw_okq (⟨"FactLines", "touchOf", "(I)I"⟩, 15) := ⟨⟨by decide +kernel, by decide +kernel⟩, List.mem_of_getElem? (i := 23) (by decide +kernel), List.mem_of_getElem? (i := 1029) (by decide +kernel), List.mem_of_getElem? (i := 1030) (by decide +kernel)⟩
theorem lw_p39 : lw_okq (⟨"FactLines", "needSource", "(I)V"⟩, 15) := ⟨⟨by decide +kernel, by decide +kernel⟩, List.mem_of_getElem? (i := 23) (by decide +kernel), List.mem_of_getElem? (i := 1058) (by decide +kernel), List.mem_of_getElem? (i := 1059) (by decide +kernel)⟩
theorem lw_p40 : lw_okq (⟨"FactLines$Lines", "countLying", "(IIII)I"⟩, 11) := ⟨⟨by decide +kernel, by decide +kernel⟩, List.mem_of_getElem? (i := 226) (by decide +kernel), List.mem_of_getElem? (i := 1197) (by decide +kernel), List.mem_of_getElem? (i := 1198) (by decide +kernel)⟩
theorem lw_p41 : lw_okq (⟨"FactLinesModel", "begins", "()V"⟩, 30) := ⟨⟨by decide +kernel, by decide +kernel⟩, List.mem_of_getElem? (i := 1209) (by decide +kernel), List.mem_of_getElem? (i := 1215) (by decide +kernel), List.mem_of_getElem? (i := 1216) (by decide +kernel)⟩
theorem lw_p42 : lw_okq (⟨"FactLinesModel", "putsAside", "()V"⟩, 30) := ⟨⟨by decide +kernel, by decide +kernel⟩, List.mem_of_getElem? (i := 1209) (by decide +kernel), List.mem_of_getElem? (i := 1329) (by decide +kernel), List.mem_of_getElem? (i := 1330) (by decide +kernel)⟩
theorem lw_p43 : lw_okq (⟨"FactLinesModel", "here", "()I"⟩, 30) := ⟨⟨by decide +kernel, by decide +kernel⟩, List.mem_of_getElem? (i := 1209) (by decide +kernel), List.mem_of_getElem? (i := 1333) (by decide +kernel), List.mem_of_getElem? (i := 1334) (by decide +kernel)⟩
theorem lw_p44 : lw_okq (⟨"FactLinesModel", "wrong", "(I)V"⟩, 30) := ⟨⟨by decide +kernel, by decide +kernel⟩, List.mem_of_getElem? (i := 1209) (by decide +kernel), List.mem_of_getElem? (i := 1337) (by decide +kernel), List.mem_of_getElem? (i := 1338) (by decide +kernel)⟩
theorem lw_p45 : lw_okq (⟨"FactLinesModel", "act", "()I"⟩, 30) := ⟨⟨by decide +kernel, by decide +kernel⟩, List.mem_of_getElem? (i := 1209) (by decide +kernel), List.mem_of_getElem? (i := 1341) (by decide +kernel), List.mem_of_getElem? (i := 1342) (by decide +kernel)⟩
theorem lw_p46 : lw_okq (⟨"FactLinesModel", "has", "(Ljava/lang/String;)Z"⟩, 30) := ⟨⟨by decide +kernel, by decide +kernel⟩, List.mem_of_getElem? (i := 1209) (by decide +kernel), List.mem_of_getElem? (i := 1346) (by decide +kernel), List.mem_of_getElem? (i := 1347) (by decide +kernel)⟩
theorem lw_p47 : lw_okq (⟨"FactLinesModel", "number", "(II)I"⟩, 30) := ⟨⟨by decide +kernel, by decide +kernel⟩, List.mem_of_getElem? (i := 1209) (by decide +kernel), List.mem_of_getElem? (i := 1352) (by decide +kernel), List.mem_of_getElem? (i := 1353) (by decide +kernel)⟩
def lw_privs_3 : List (MethodName × Nat) := [(⟨"java/lang/Throwable", "fillInStackTrace", "(I)Ljava/lang/Throwable;"⟩, 6), (⟨"FactLines", "tell", "(IIIIII)V"⟩, 15), (⟨"FactLines$State", "countBetter", "(II)I"⟩, 11), (⟨"FactLines", "rowAnswer", "(IIIZ)I"⟩, 15), (⟨"FactLines$Lines", "lackedBy", "(LFactLines$Rule;I)I"⟩, 11), (⟨"FactLines", "needFact", "(I)V"⟩, 15), (⟨"FactLines", "touchOf", "(I)I"⟩, 15), (⟨"FactLines", "needSource", "(I)V"⟩, 15), (⟨"FactLines$Lines", "countLying", "(IIII)I"⟩, 11), (⟨"FactLinesModel", "begins", "()V"⟩, 30), (⟨"FactLinesModel", "putsAside", "()V"⟩, 30), (⟨"FactLinesModel", "here", "()I"⟩, 30), (⟨"FactLinesModel", "wrong", "(I)V"⟩, 30), (⟨"FactLinesModel", "act", "()I"⟩, 30), (⟨"FactLinesModel", "has", "(Ljava/lang/String;)Z"⟩, 30), (⟨"FactLinesModel", "number", "(II)I"⟩, 30)]
theorem lw_r3 : ∀ q ∈ lw_privs_3, lw_okq q := List.forall_mem_cons.mpr ⟨lw_p32, List.forall_mem_cons.mpr ⟨lw_p33, List.forall_mem_cons.mpr ⟨lw_p34, List.forall_mem_cons.mpr ⟨lw_p35, List.forall_mem_cons.mpr ⟨lw_p36, List.forall_mem_cons.mpr ⟨lw_p37, List.forall_mem_cons.mpr ⟨lw_p38, List.forall_mem_cons.mpr ⟨lw_p39, List.forall_mem_cons.mpr ⟨lw_p40, List.forall_mem_cons.mpr ⟨lw_p41, List.forall_mem_cons.mpr ⟨lw_p42, List.forall_mem_cons.mpr ⟨lw_p43, List.forall_mem_cons.mpr ⟨lw_p44, List.forall_mem_cons.mpr ⟨lw_p45, List.forall_mem_cons.mpr ⟨lw_p46, List.forall_mem_cons.mpr ⟨lw_p47, fun _ h => absurd h List.not_mem_nil⟩⟩⟩⟩⟩⟩⟩⟩⟩⟩⟩⟩⟩⟩⟩⟩
theorem lw_p48 : lw_okq (⟨"FactLinesModel", "source0", "(I)I"⟩, 30) := ⟨⟨by decide +kernel, by decide +kernel⟩, List.mem_of_getElem? (i := 1209) (by decide +kernel), List.mem_of_getElem? (i := 1356) (by decide +kernel), List.mem_of_getElem? (i := 1357) (by decide +kernel)⟩
theorem lw_p49 : lw_okq (⟨"FactLinesModel", "factAct", "()I"⟩, 30) := ⟨⟨by decide +kernel, by decide +kernel⟩, List.mem_of_getElem? (i := 1209) (by decide +kernel), List.mem_of_getElem? (i := 1361) (by decide +kernel), List.mem_of_getElem? (i := 1362) (by decide +kernel)⟩
theorem lw_p50 : lw_okq (⟨"FactLinesModel", "fact0", "(IIIII)I"⟩, 30) := ⟨⟨by decide +kernel, by decide +kernel⟩, List.mem_of_getElem? (i := 1209) (by decide +kernel), List.mem_of_getElem? (i := 1365) (by decide +kernel), List.mem_of_getElem? (i := 1366) (by decide +kernel)⟩
theorem lw_p51 : lw_okq (⟨"FactLinesModel", "isSource", "(I)Z"⟩, 30) := ⟨⟨by decide +kernel, by decide +kernel⟩, List.mem_of_getElem? (i := 1209) (by decide +kernel), List.mem_of_getElem? (i := 1369) (by decide +kernel), List.mem_of_getElem? (i := 1370) (by decide +kernel)⟩
theorem lw_p52 : lw_okq (⟨"FactLinesModel", "drop0", "(I)I"⟩, 30) := ⟨⟨by decide +kernel, by decide +kernel⟩, List.mem_of_getElem? (i := 1209) (by decide +kernel), List.mem_of_getElem? (i := 1374) (by decide +kernel), List.mem_of_getElem? (i := 1375) (by decide +kernel)⟩
theorem lw_p53 : lw_okq (⟨"FactLinesModel", "isFact", "(I)Z"⟩, 30) := ⟨⟨by decide +kernel, by decide +kernel⟩, List.mem_of_getElem? (i := 1209) (by decide +kernel), List.mem_of_getElem? (i := 1378) (by decide +kernel), List.mem_of_getElem? (i := 1379) (by decide +kernel)⟩
theorem lw_p54 : lw_okq (⟨"FactLinesModel", "factAt", "(II)I"⟩, 30) := ⟨⟨by decide +kernel, by decide +kernel⟩, List.mem_of_getElem? (i := 1209) (by decide +kernel), List.mem_of_getElem? (i := 1382) (by decide +kernel), List.mem_of_getElem? (i := 1383) (by decide +kernel)⟩
theorem lw_p55 : lw_okq (⟨"FactLinesModel", "hushAct", "(I)I"⟩, 30) := ⟨⟨by decide +kernel, by decide +kernel⟩, List.mem_of_getElem? (i := 1209) (by decide +kernel), List.mem_of_getElem? (i := 1387) (by decide +kernel), List.mem_of_getElem? (i := 1388) (by decide +kernel)⟩
theorem lw_p56 : lw_okq (⟨"FactLinesModel", "hush0", "(II)I"⟩, 30) := ⟨⟨by decide +kernel, by decide +kernel⟩, List.mem_of_getElem? (i := 1209) (by decide +kernel), List.mem_of_getElem? (i := 1391) (by decide +kernel), List.mem_of_getElem? (i := 1392) (by decide +kernel)⟩
theorem lw_p57 : lw_okq (⟨"FactLinesModel", "rankAct", "()I"⟩, 30) := ⟨⟨by decide +kernel, by decide +kernel⟩, List.mem_of_getElem? (i := 1209) (by decide +kernel), List.mem_of_getElem? (i := 1397) (by decide +kernel), List.mem_of_getElem? (i := 1398) (by decide +kernel)⟩
theorem lw_p58 : lw_okq (⟨"FactLinesModel", "rank0", "(II)I"⟩, 30) := ⟨⟨by decide +kernel, by decide +kernel⟩, List.mem_of_getElem? (i := 1209) (by decide +kernel), List.mem_of_getElem? (i := 1401) (by decide +kernel), List.mem_of_getElem? (i := 1402) (by decide +kernel)⟩
theorem lw_p59 : lw_okq (⟨"FactLinesModel", "cutAct", "()I"⟩, 30) := ⟨⟨by decide +kernel, by decide +kernel⟩, List.mem_of_getElem? (i := 1209) (by decide +kernel), List.mem_of_getElem? (i := 1406) (by decide +kernel), List.mem_of_getElem? (i := 1407) (by decide +kernel)⟩
theorem lw_p60 : lw_okq (⟨"FactLinesModel", "expects", "(Ljava/lang/String;)V"⟩, 30) := ⟨⟨by decide +kernel, by decide +kernel⟩, List.mem_of_getElem? (i := 1209) (by decide +kernel), List.mem_of_getElem? (i := 1411) (by decide +kernel), List.mem_of_getElem? (i := 1412) (by decide +kernel)⟩
theorem lw_p61 : lw_okq (⟨"FactLinesModel", "cut0", "(II)I"⟩, 30) := ⟨⟨by decide +kernel, by decide +kernel⟩, List.mem_of_getElem? (i := 1209) (by decide +kernel), List.mem_of_getElem? (i := 1415) (by decide +kernel), List.mem_of_getElem? (i := 1416) (by decide +kernel)⟩
theorem lw_p62 : lw_okq (⟨"FactLinesModel", "isCut", "(III)Z"⟩, 30) := ⟨⟨by decide +kernel, by decide +kernel⟩, List.mem_of_getElem? (i := 1209) (by decide +kernel), List.mem_of_getElem? (i := 1419) (by decide +kernel), List.mem_of_getElem? (i := 1420) (by decide +kernel)⟩
theorem lw_p63 : lw_okq (⟨"FactLinesModel", "ruleAct", "()I"⟩, 30) := ⟨⟨by decide +kernel, by decide +kernel⟩, List.mem_of_getElem? (i := 1209) (by decide +kernel), List.mem_of_getElem? (i := 1424) (by decide +kernel), List.mem_of_getElem? (i := 1425) (by decide +kernel)⟩
def lw_privs_4 : List (MethodName × Nat) := [(⟨"FactLinesModel", "source0", "(I)I"⟩, 30), (⟨"FactLinesModel", "factAct", "()I"⟩, 30), (⟨"FactLinesModel", "fact0", "(IIIII)I"⟩, 30), (⟨"FactLinesModel", "isSource", "(I)Z"⟩, 30), (⟨"FactLinesModel", "drop0", "(I)I"⟩, 30), (⟨"FactLinesModel", "isFact", "(I)Z"⟩, 30), (⟨"FactLinesModel", "factAt", "(II)I"⟩, 30), (⟨"FactLinesModel", "hushAct", "(I)I"⟩, 30), (⟨"FactLinesModel", "hush0", "(II)I"⟩, 30), (⟨"FactLinesModel", "rankAct", "()I"⟩, 30), (⟨"FactLinesModel", "rank0", "(II)I"⟩, 30), (⟨"FactLinesModel", "cutAct", "()I"⟩, 30), (⟨"FactLinesModel", "expects", "(Ljava/lang/String;)V"⟩, 30), (⟨"FactLinesModel", "cut0", "(II)I"⟩, 30), (⟨"FactLinesModel", "isCut", "(III)Z"⟩, 30), (⟨"FactLinesModel", "ruleAct", "()I"⟩, 30)]
theorem lw_r4 : ∀ q ∈ lw_privs_4, lw_okq q := List.forall_mem_cons.mpr ⟨lw_p48, List.forall_mem_cons.mpr ⟨lw_p49, List.forall_mem_cons.mpr ⟨lw_p50, List.forall_mem_cons.mpr ⟨lw_p51, List.forall_mem_cons.mpr ⟨lw_p52, List.forall_mem_cons.mpr ⟨lw_p53, List.forall_mem_cons.mpr ⟨lw_p54, List.forall_mem_cons.mpr ⟨lw_p55, List.forall_mem_cons.mpr ⟨lw_p56, List.forall_mem_cons.mpr ⟨lw_p57, List.forall_mem_cons.mpr ⟨lw_p58, List.forall_mem_cons.mpr ⟨lw_p59, List.forall_mem_cons.mpr ⟨lw_p60, List.forall_mem_cons.mpr ⟨lw_p61, List.forall_mem_cons.mpr ⟨lw_p62, List.forall_mem_cons.mpr ⟨lw_p63, fun _ h => absurd h List.not_mem_nil⟩⟩⟩⟩⟩⟩⟩⟩⟩⟩⟩⟩⟩⟩⟩⟩
theorem lw_p64 : lw_okq (⟨"FactLinesModel", "off0", "(I)I"⟩, 30) := ⟨⟨by decide +kernel, by decide +kernel⟩, List.mem_of_getElem? (i := 1209) (by decide +kernel), List.mem_of_getElem? (i := 1429) (by decide +kernel), List.mem_of_getElem? (i := 1430) (by decide +kernel)⟩
theorem lw_p65 : lw_okq (⟨"FactLinesModel", "hasRule", "(I)Z"⟩, 30) := ⟨⟨by decide +kernel, by decide +kernel⟩, List.mem_of_getElem? (i := 1209) (by decide +kernel), List.mem_of_getElem? (i := 1433) (by decide +kernel), List.mem_of_getElem? (i := 1434) (by decide +kernel)⟩
theorem lw_p66 : lw_okq (⟨"FactLinesModel", "ruleAt", "(II)I"⟩, 30) := ⟨⟨by decide +kernel, by decide +kernel⟩, List.mem_of_getElem? (i := 1209) (by decide +kernel), List.mem_of_getElem? (i := 1437) (by decide +kernel), List.mem_of_getElem? (i := 1438) (by decide +kernel)⟩
theorem lw_p67 : lw_okq (⟨"FactLinesModel", "ruleText", "(I)V"⟩, 30) := ⟨⟨by decide +kernel, by decide +kernel⟩, List.mem_of_getElem? (i := 1209) (by decide +kernel), List.mem_of_getElem? (i := 1442) (by decide +kernel), List.mem_of_getElem? (i := 1443) (by decide +kernel)⟩
theorem lw_p68 : lw_okq (⟨"FactLinesModel", "atom", "(I)V"⟩, 30) := ⟨⟨by decide +kernel, by decide +kernel⟩, List.mem_of_getElem? (i := 1209) (by decide +kernel), List.mem_of_getElem? (i := 1446) (by decide +kernel), List.mem_of_getElem? (i := 1447) (by decide +kernel)⟩
theorem lw_p69 : lw_okq (⟨"FactLinesModel", "isSign", "(I)Z"⟩, 30) := ⟨⟨by decide +kernel, by decide +kernel⟩, List.mem_of_getElem? (i := 1209) (by decide +kernel), List.mem_of_getElem? (i := 1450) (by decide +kernel), List.mem_of_getElem? (i := 1451) (by decide +kernel)⟩
theorem lw_p70 : lw_okq (⟨"FactLinesModel", "opens", "(I)V"⟩, 30) := ⟨⟨by decide +kernel, by decide +kernel⟩, List.mem_of_getElem? (i := 1209) (by decide +kernel), List.mem_of_getElem? (i := 1454) (by decide +kernel), List.mem_of_getElem? (i := 1455) (by decide +kernel)⟩
theorem lw_p71 : lw_okq (⟨"FactLinesModel", "isFigure", "()Z"⟩, 30) := ⟨⟨by decide +kernel, by decide +kernel⟩, List.mem_of_getElem? (i := 1209) (by decide +kernel), List.mem_of_getElem? (i := 1459) (by decide +kernel), List.mem_of_getElem? (i := 1460) (by decide +kernel)⟩
theorem lw_p72 : lw_okq (⟨"FactLinesModel", "knot", "(IIII)V"⟩, 30) := ⟨⟨by decide +kernel, by decide +kernel⟩, List.mem_of_getElem? (i := 1209) (by decide +kernel), List.mem_of_getElem? (i := 1463) (by decide +kernel), List.mem_of_getElem? (i := 1464) (by decide +kernel)⟩
theorem lw_p73 : lw_okq (⟨"FactLinesModel", "closes", "()V"⟩, 30) := ⟨⟨by decide +kernel, by decide +kernel⟩, List.mem_of_getElem? (i := 1209) (by decide +kernel), List.mem_of_getElem? (i := 1467) (by decide +kernel), List.mem_of_getElem? (i := 1468) (by decide +kernel)⟩
theorem lw_p74 : lw_okq (⟨"FactLinesModel", "joins", "()V"⟩, 30) := ⟨⟨by decide +kernel, by decide +kernel⟩, List.mem_of_getElem? (i := 1209) (by decide +kernel), List.mem_of_getElem? (i := 1471) (by decide +kernel), List.mem_of_getElem? (i := 1472) (by decide +kernel)⟩
theorem lw_p75 : lw_okq (⟨"FactLinesModel", "joinHere", "()I"⟩, 30) := ⟨⟨by decide +kernel, by decide +kernel⟩, List.mem_of_getElem? (i := 1209) (by decide +kernel), List.mem_of_getElem? (i := 1475) (by decide +kernel), List.mem_of_getElem? (i := 1476) (by decide +kernel)⟩
theorem lw_p76 : lw_okq (⟨"FactLinesModel", "puts", "(I)V"⟩, 30) := ⟨⟨by decide +kernel, by decide +kernel⟩, List.mem_of_getElem? (i := 1209) (by decide +kernel), List.mem_of_getElem? (i := 1484) (by decide +kernel), List.mem_of_getElem? (i := 1485) (by decide +kernel)⟩
theorem lw_p77 : lw_okq (⟨"FactLinesModel", "isDone", "(II)Z"⟩, 30) := ⟨⟨by decide +kernel, by decide +kernel⟩, List.mem_of_getElem? (i := 1209) (by decide +kernel), List.mem_of_getElem? (i := 1503) (by decide +kernel), List.mem_of_getElem? (i := 1504) (by decide +kernel)⟩
theorem lw_p78 : lw_okq (⟨"FactLinesModel", "remembers", "()V"⟩, 30) := ⟨⟨by decide +kernel, by decide +kernel⟩, List.mem_of_getElem? (i := 1209) (by decide +kernel), List.mem_of_getElem? (i := 1507) (by decide +kernel), List.mem_of_getElem? (i := 1508) (by decide +kernel)⟩
theorem lw_p79 : lw_okq (⟨"FactLinesModel", "reckonsReigns", "()V"⟩, 30) := ⟨⟨by decide +kernel, by decide +kernel⟩, List.mem_of_getElem? (i := 1209) (by decide +kernel), List.mem_of_getElem? (i := 1522) (by decide +kernel), List.mem_of_getElem? (i := 1523) (by decide +kernel)⟩
def lw_privs_5 : List (MethodName × Nat) := [(⟨"FactLinesModel", "off0", "(I)I"⟩, 30), (⟨"FactLinesModel", "hasRule", "(I)Z"⟩, 30), (⟨"FactLinesModel", "ruleAt", "(II)I"⟩, 30), (⟨"FactLinesModel", "ruleText", "(I)V"⟩, 30), (⟨"FactLinesModel", "atom", "(I)V"⟩, 30), (⟨"FactLinesModel", "isSign", "(I)Z"⟩, 30), (⟨"FactLinesModel", "opens", "(I)V"⟩, 30), (⟨"FactLinesModel", "isFigure", "()Z"⟩, 30), (⟨"FactLinesModel", "knot", "(IIII)V"⟩, 30), (⟨"FactLinesModel", "closes", "()V"⟩, 30), (⟨"FactLinesModel", "joins", "()V"⟩, 30), (⟨"FactLinesModel", "joinHere", "()I"⟩, 30), (⟨"FactLinesModel", "puts", "(I)V"⟩, 30), (⟨"FactLinesModel", "isDone", "(II)Z"⟩, 30), (⟨"FactLinesModel", "remembers", "()V"⟩, 30), (⟨"FactLinesModel", "reckonsReigns", "()V"⟩, 30)]
theorem lw_r5 : ∀ q ∈ lw_privs_5, lw_okq q := List.forall_mem_cons.mpr ⟨lw_p64, List.forall_mem_cons.mpr ⟨lw_p65, List.forall_mem_cons.mpr ⟨lw_p66, List.forall_mem_cons.mpr ⟨lw_p67, List.forall_mem_cons.mpr ⟨lw_p68, List.forall_mem_cons.mpr ⟨lw_p69, List.forall_mem_cons.mpr ⟨lw_p70, List.forall_mem_cons.mpr ⟨lw_p71, List.forall_mem_cons.mpr ⟨lw_p72, List.forall_mem_cons.mpr ⟨lw_p73, List.forall_mem_cons.mpr ⟨lw_p74, List.forall_mem_cons.mpr ⟨lw_p75, List.forall_mem_cons.mpr ⟨lw_p76, List.forall_mem_cons.mpr ⟨lw_p77, List.forall_mem_cons.mpr ⟨lw_p78, List.forall_mem_cons.mpr ⟨lw_p79, fun _ h => absurd h List.not_mem_nil⟩⟩⟩⟩⟩⟩⟩⟩⟩⟩⟩⟩⟩⟩⟩⟩
theorem lw_p80 : lw_okq (⟨"FactLinesModel", "bestOf", "(III)I"⟩, 30) := ⟨⟨by decide +kernel, by decide +kernel⟩, List.mem_of_getElem? (i := 1209) (by decide +kernel), List.mem_of_getElem? (i := 1526) (by decide +kernel), List.mem_of_getElem? (i := 1527) (by decide +kernel)⟩
theorem lw_p81 : lw_okq (⟨"FactLinesModel", "holds", "(II)Z"⟩, 30) := ⟨⟨by decide +kernel, by decide +kernel⟩, List.mem_of_getElem? (i := 1209) (by decide +kernel), List.mem_of_getElem? (i := 1530) (by decide +kernel), List.mem_of_getElem? (i := 1531) (by decide +kernel)⟩
theorem lw_p82 : lw_okq (⟨"FactLinesModel", "isBetter", "(II)Z"⟩, 30) := ⟨⟨by decide +kernel, by decide +kernel⟩, List.mem_of_getElem? (i := 1209) (by decide +kernel), List.mem_of_getElem? (i := 1534) (by decide +kernel), List.mem_of_getElem? (i := 1535) (by decide +kernel)⟩
theorem lw_p83 : lw_okq (⟨"FactLinesModel", "timesOf", "(I)I"⟩, 30) := ⟨⟨by decide +kernel, by decide +kernel⟩, List.mem_of_getElem? (i := 1209) (by decide +kernel), List.mem_of_getElem? (i := 1538) (by decide +kernel), List.mem_of_getElem? (i := 1539) (by decide +kernel)⟩
theorem lw_p84 : lw_okq (⟨"FactLinesModel", "factsOf", "(II)I"⟩, 30) := ⟨⟨by decide +kernel, by decide +kernel⟩, List.mem_of_getElem? (i := 1209) (by decide +kernel), List.mem_of_getElem? (i := 1546) (by decide +kernel), List.mem_of_getElem? (i := 1547) (by decide +kernel)⟩
theorem lw_p85 : lw_okq (⟨"FactLinesModel", "looks", "(I)V"⟩, 30) := ⟨⟨by decide +kernel, by decide +kernel⟩, List.mem_of_getElem? (i := 1209) (by decide +kernel), List.mem_of_getElem? (i := 1573) (by decide +kernel), List.mem_of_getElem? (i := 1574) (by decide +kernel)⟩
theorem lw_p86 : lw_okq (⟨"FactLinesModel", "makes", "(I)I"⟩, 30) := ⟨⟨by decide +kernel, by decide +kernel⟩, List.mem_of_getElem? (i := 1209) (by decide +kernel), List.mem_of_getElem? (i := 1577) (by decide +kernel), List.mem_of_getElem? (i := 1578) (by decide +kernel)⟩
theorem lw_p87 : lw_okq (⟨"FactLinesModel", "knotAt", "(III)I"⟩, 30) := ⟨⟨by decide +kernel, by decide +kernel⟩, List.mem_of_getElem? (i := 1209) (by decide +kernel), List.mem_of_getElem? (i := 1581) (by decide +kernel), List.mem_of_getElem? (i := 1582) (by decide +kernel)⟩
theorem lw_p88 : lw_okq (⟨"FactLinesModel", "draws", "(I[I)V"⟩, 30) := ⟨⟨by decide +kernel, by decide +kernel⟩, List.mem_of_getElem? (i := 1209) (by decide +kernel), List.mem_of_getElem? (i := 1600) (by decide +kernel), List.mem_of_getElem? (i := 1601) (by decide +kernel)⟩
theorem lw_p89 : lw_okq (⟨"FactLinesModel", "rowOf", "([IIZ)I"⟩, 30) := ⟨⟨by decide +kernel, by decide +kernel⟩, List.mem_of_getElem? (i := 1209) (by decide +kernel), List.mem_of_getElem? (i := 1604) (by decide +kernel), List.mem_of_getElem? (i := 1605) (by decide +kernel)⟩
theorem lw_p90 : lw_okq (⟨"FactLinesModel", "endOf", "([II)I"⟩, 30) := ⟨⟨by decide +kernel, by decide +kernel⟩, List.mem_of_getElem? (i := 1209) (by decide +kernel), List.mem_of_getElem? (i := 1608) (by decide +kernel), List.mem_of_getElem? (i := 1609) (by decide +kernel)⟩
theorem lw_p91 : lw_okq (⟨"FactLinesModel", "reckonsLack", "(I)V"⟩, 30) := ⟨⟨by decide +kernel, by decide +kernel⟩, List.mem_of_getElem? (i := 1209) (by decide +kernel), List.mem_of_getElem? (i := 1620) (by decide +kernel), List.mem_of_getElem? (i := 1621) (by decide +kernel)⟩
theorem lw_p92 : lw_okq (⟨"FactLinesModel", "lackOf", "(I)I"⟩, 30) := ⟨⟨by decide +kernel, by decide +kernel⟩, List.mem_of_getElem? (i := 1209) (by decide +kernel), List.mem_of_getElem? (i := 1624) (by decide +kernel), List.mem_of_getElem? (i := 1625) (by decide +kernel)⟩
theorem lw_p93 : lw_okq (⟨"FactLinesModel", "beginOf", "(I)I"⟩, 30) := ⟨⟨by decide +kernel, by decide +kernel⟩, List.mem_of_getElem? (i := 1209) (by decide +kernel), List.mem_of_getElem? (i := 1632) (by decide +kernel), List.mem_of_getElem? (i := 1633) (by decide +kernel)⟩
theorem lw_p94 : lw_okq (⟨"FactLinesModel", "touchOf", "(I)I"⟩, 30) := ⟨⟨by decide +kernel, by decide +kernel⟩, List.mem_of_getElem? (i := 1209) (by decide +kernel), List.mem_of_getElem? (i := 1648) (by decide +kernel), List.mem_of_getElem? (i := 1649) (by decide +kernel)⟩
theorem lw_p95 : lw_okq (⟨"FactLinesModel", "voiceOf", "(I)I"⟩, 30) := ⟨⟨by decide +kernel, by decide +kernel⟩, List.mem_of_getElem? (i := 1209) (by decide +kernel), List.mem_of_getElem? (i := 1663) (by decide +kernel), List.mem_of_getElem? (i := 1664) (by decide +kernel)⟩
def lw_privs_6 : List (MethodName × Nat) := [(⟨"FactLinesModel", "bestOf", "(III)I"⟩, 30), (⟨"FactLinesModel", "holds", "(II)Z"⟩, 30), (⟨"FactLinesModel", "isBetter", "(II)Z"⟩, 30), (⟨"FactLinesModel", "timesOf", "(I)I"⟩, 30), (⟨"FactLinesModel", "factsOf", "(II)I"⟩, 30), (⟨"FactLinesModel", "looks", "(I)V"⟩, 30), (⟨"FactLinesModel", "makes", "(I)I"⟩, 30), (⟨"FactLinesModel", "knotAt", "(III)I"⟩, 30), (⟨"FactLinesModel", "draws", "(I[I)V"⟩, 30), (⟨"FactLinesModel", "rowOf", "([IIZ)I"⟩, 30), (⟨"FactLinesModel", "endOf", "([II)I"⟩, 30), (⟨"FactLinesModel", "reckonsLack", "(I)V"⟩, 30), (⟨"FactLinesModel", "lackOf", "(I)I"⟩, 30), (⟨"FactLinesModel", "beginOf", "(I)I"⟩, 30), (⟨"FactLinesModel", "touchOf", "(I)I"⟩, 30), (⟨"FactLinesModel", "voiceOf", "(I)I"⟩, 30)]
theorem lw_r6 : ∀ q ∈ lw_privs_6, lw_okq q := List.forall_mem_cons.mpr ⟨lw_p80, List.forall_mem_cons.mpr ⟨lw_p81, List.forall_mem_cons.mpr ⟨lw_p82, List.forall_mem_cons.mpr ⟨lw_p83, List.forall_mem_cons.mpr ⟨lw_p84, List.forall_mem_cons.mpr ⟨lw_p85, List.forall_mem_cons.mpr ⟨lw_p86, List.forall_mem_cons.mpr ⟨lw_p87, List.forall_mem_cons.mpr ⟨lw_p88, List.forall_mem_cons.mpr ⟨lw_p89, List.forall_mem_cons.mpr ⟨lw_p90, List.forall_mem_cons.mpr ⟨lw_p91, List.forall_mem_cons.mpr ⟨lw_p92, List.forall_mem_cons.mpr ⟨lw_p93, List.forall_mem_cons.mpr ⟨lw_p94, List.forall_mem_cons.mpr ⟨lw_p95, fun _ h => absurd h List.not_mem_nil⟩⟩⟩⟩⟩⟩⟩⟩⟩⟩⟩⟩⟩⟩⟩⟩
theorem lw_p96 : lw_okq (⟨"FactLinesModel", "sumOf", "(IZ)I"⟩, 30) := ⟨⟨by decide +kernel, by decide +kernel⟩, List.mem_of_getElem? (i := 1209) (by decide +kernel), List.mem_of_getElem? (i := 1679) (by decide +kernel), List.mem_of_getElem? (i := 1680) (by decide +kernel)⟩
theorem lw_p97 : lw_okq (⟨"FactLinesModel", "disputeOf", "(I)I"⟩, 30) := ⟨⟨by decide +kernel, by decide +kernel⟩, List.mem_of_getElem? (i := 1209) (by decide +kernel), List.mem_of_getElem? (i := 1683) (by decide +kernel), List.mem_of_getElem? (i := 1684) (by decide +kernel)⟩
theorem lw_p98 : lw_okq (⟨"FactLinesModel", "isDisputed", "(II)Z"⟩, 30) := ⟨⟨by decide +kernel, by decide +kernel⟩, List.mem_of_getElem? (i := 1209) (by decide +kernel), List.mem_of_getElem? (i := 1687) (by decide +kernel), List.mem_of_getElem? (i := 1688) (by decide +kernel)⟩
theorem lw_p99 : lw_okq (⟨"FactLinesModel", "thingsIn", "(I)I"⟩, 30) := ⟨⟨by decide +kernel, by decide +kernel⟩, List.mem_of_getElem? (i := 1209) (by decide +kernel), List.mem_of_getElem? (i := 1691) (by decide +kernel), List.mem_of_getElem? (i := 1692) (by decide +kernel)⟩
theorem lw_p100 : lw_okq (⟨"FactLinesModel", "modeOf", "(I)I"⟩, 30) := ⟨⟨by decide +kernel, by decide +kernel⟩, List.mem_of_getElem? (i := 1209) (by decide +kernel), List.mem_of_getElem? (i := 1695) (by decide +kernel), List.mem_of_getElem? (i := 1696) (by decide +kernel)⟩
theorem lw_p101 : lw_okq (⟨"FactLinesModel", "idleOf", "(I)I"⟩, 30) := ⟨⟨by decide +kernel, by decide +kernel⟩, List.mem_of_getElem? (i := 1209) (by decide +kernel), List.mem_of_getElem? (i := 1739) (by decide +kernel), List.mem_of_getElem? (i := 1740) (by decide +kernel)⟩
theorem lw_p102 : lw_okq (⟨"FactLinesModel", "goneFacts", "()I"⟩, 30) := ⟨⟨by decide +kernel, by decide +kernel⟩, List.mem_of_getElem? (i := 1209) (by decide +kernel), List.mem_of_getElem? (i := 1755) (by decide +kernel), List.mem_of_getElem? (i := 1756) (by decide +kernel)⟩
theorem lw_p103 : lw_okq (⟨"FactLinesModel", "silentOnes", "()I"⟩, 30) := ⟨⟨by decide +kernel, by decide +kernel⟩, List.mem_of_getElem? (i := 1209) (by decide +kernel), List.mem_of_getElem? (i := 1759) (by decide +kernel), List.mem_of_getElem? (i := 1760) (by decide +kernel)⟩
theorem lw_p104 : lw_okq (⟨"FactLinesModel", "ruleMany", "()I"⟩, 30) := ⟨⟨by decide +kernel, by decide +kernel⟩, List.mem_of_getElem? (i := 1209) (by decide +kernel), List.mem_of_getElem? (i := 1763) (by decide +kernel), List.mem_of_getElem? (i := 1764) (by decide +kernel)⟩
theorem lw_p105 : lw_okq (⟨"FactLinesModel", "allSpans", "()I"⟩, 30) := ⟨⟨by decide +kernel, by decide +kernel⟩, List.mem_of_getElem? (i := 1209) (by decide +kernel), List.mem_of_getElem? (i := 1767) (by decide +kernel), List.mem_of_getElem? (i := 1768) (by decide +kernel)⟩
def lw_privs_7 : List (MethodName × Nat) := [(⟨"FactLinesModel", "sumOf", "(IZ)I"⟩, 30), (⟨"FactLinesModel", "disputeOf", "(I)I"⟩, 30), (⟨"FactLinesModel", "isDisputed", "(II)Z"⟩, 30), (⟨"FactLinesModel", "thingsIn", "(I)I"⟩, 30), (⟨"FactLinesModel", "modeOf", "(I)I"⟩, 30), (⟨"FactLinesModel", "idleOf", "(I)I"⟩, 30), (⟨"FactLinesModel", "goneFacts", "()I"⟩, 30), (⟨"FactLinesModel", "silentOnes", "()I"⟩, 30), (⟨"FactLinesModel", "ruleMany", "()I"⟩, 30), (⟨"FactLinesModel", "allSpans", "()I"⟩, 30)]
theorem lw_r7 : ∀ q ∈ lw_privs_7, lw_okq q := List.forall_mem_cons.mpr ⟨lw_p96, List.forall_mem_cons.mpr ⟨lw_p97, List.forall_mem_cons.mpr ⟨lw_p98, List.forall_mem_cons.mpr ⟨lw_p99, List.forall_mem_cons.mpr ⟨lw_p100, List.forall_mem_cons.mpr ⟨lw_p101, List.forall_mem_cons.mpr ⟨lw_p102, List.forall_mem_cons.mpr ⟨lw_p103, List.forall_mem_cons.mpr ⟨lw_p104, List.forall_mem_cons.mpr ⟨lw_p105, fun _ h => absurd h List.not_mem_nil⟩⟩⟩⟩⟩⟩⟩⟩⟩⟩
def lw_privs : List (MethodName × Nat) := lw_privs_1 ++ (lw_privs_2 ++ (lw_privs_3 ++ (lw_privs_4 ++ (lw_privs_5 ++ (lw_privs_6 ++ (lw_privs_7))))))
def lw_tbl : List Cond := k2_sels lw_privs ++ tables_1
theorem lw_privs_ok : ∀ q ∈ lw_privs, lw_okq q := by
  show ∀ q ∈ lw_privs_1 ++ (lw_privs_2 ++ (lw_privs_3 ++ (lw_privs_4 ++ (lw_privs_5 ++ (lw_privs_6 ++ (lw_privs_7)))))), lw_okq q
  exact List.forall_mem_append.mpr ⟨lw_r1, List.forall_mem_append.mpr ⟨lw_r2, List.forall_mem_append.mpr ⟨lw_r3, List.forall_mem_append.mpr ⟨lw_r4, List.forall_mem_append.mpr ⟨lw_r5, List.forall_mem_append.mpr ⟨lw_r6, lw_r7⟩⟩⟩⟩⟩⟩
-- ===== end of PART A; then your names; then what follows =====
def RX0 : String := "FactLines$Act"
def TX0 : u_T := fun k => match k with
  | 0 => ("FactLines$Act", "numbers", "[I", true)
  | 1 => ("FactLines$Act", "rule", "LFactLines$Rule;", true)
  | 2 => ("FactLines$Act", "kind", "I", false)
  | _ => ("FactLines$Act", "given", "I", false)
def tyX0 : Nat → FieldType := fun k => match k with
  | 0 => .array .int
  | 1 => .object "FactLines$Rule"
  | 2 => .int
  | _ => .int
theorem nmX0 : ∀ a, a < 4 → ∀ b, b < 4 → a ≠ b → (TX0 a).2.1 ≠ (TX0 b).2.1 := by decide +kernel
theorem tyX0_ok : ∀ k, k < 4 → parseFieldDescriptor (TX0 k).2.2.1 = some (tyX0 k) := by decide +kernel
def RX1 : String := "FactLines$Lines"
def TX1 : u_T := fun k => match k with
  | 0 => ("FactLines$Lines", "state", "LFactLines$State;", true)
  | 1 => ("FactLines$Lines", "start", "[I", true)
  | 2 => ("FactLines$Lines", "pieceAt", "[I", true)
  | 3 => ("FactLines$Lines", "isMarked", "[Z", true)
  | 4 => ("FactLines$Lines", "best", "[[I", true)
  | 5 => ("FactLines$Lines", "is", "[[I", true)
  | 6 => ("FactLines$Lines", "made", "[I", true)
  | 7 => ("FactLines$Lines", "lackRow", "[I", true)
  | 8 => ("FactLines$Lines", "pieces", "I", false)
  | 9 => ("FactLines$Lines", "lacking", "I", false)
  | _ => ("FactLines$Lines", "lackEnd", "I", false)
def tyX1 : Nat → FieldType := fun k => match k with
  | 0 => .object "FactLines$State"
  | 1 => .array .int
  | 2 => .array .int
  | 3 => .array .boolean
  | 4 => .array (.array .int)
  | 5 => .array (.array .int)
  | 6 => .array .int
  | 7 => .array .int
  | 8 => .int
  | 9 => .int
  | _ => .int
theorem nmX1 : ∀ a, a < 11 → ∀ b, b < 11 → a ≠ b → (TX1 a).2.1 ≠ (TX1 b).2.1 := by decide +kernel
theorem tyX1_ok : ∀ k, k < 11 → parseFieldDescriptor (TX1 k).2.2.1 = some (tyX1 k) := by decide +kernel
def RX2 : String := "FactLines$Reader"
def TX2 : u_T := fun k => match k with
  | 0 => ("FactLines$Reader", "tape", "LFactLines$Tape;", true)
  | 1 => ("FactLines$Reader", "act", "LFactLines$Act;", true)
  | 2 => ("FactLines$Reader", "parts", "[I", true)
  | 3 => ("FactLines$Reader", "signs", "[I", true)
  | 4 => ("FactLines$Reader", "partCount", "I", false)
  | 5 => ("FactLines$Reader", "signCount", "I", false)
  | 6 => ("FactLines$Reader", "token", "I", false)
  | 7 => ("FactLines$Reader", "done", "I", false)
  | 8 => ("FactLines$Reader", "wrongByte", "I", false)
  | _ => ("FactLines$Reader", "refusal", "I", false)
def tyX2 : Nat → FieldType := fun k => match k with
  | 0 => .object "FactLines$Tape"
  | 1 => .object "FactLines$Act"
  | 2 => .array .int
  | 3 => .array .int
  | 4 => .int
  | 5 => .int
  | 6 => .int
  | 7 => .int
  | 8 => .int
  | _ => .int
theorem nmX2 : ∀ a, a < 10 → ∀ b, b < 10 → a ≠ b → (TX2 a).2.1 ≠ (TX2 b).2.1 := by decide +kernel
theorem tyX2_ok : ∀ k, k < 10 → parseFieldDescriptor (TX2 k).2.2.1 = some (tyX2 k) := by decide +kernel
def RX3 : String := "FactLines$Rule"
def TX3 : u_T := fun k => match k with
  | 0 => ("FactLines$Rule", "kinds", "[I", true)
  | 1 => ("FactLines$Rule", "left", "[I", true)
  | 2 => ("FactLines$Rule", "right", "[I", true)
  | 3 => ("FactLines$Rule", "nodes", "I", false)
  | 4 => ("FactLines$Rule", "atoms", "I", false)
  | _ => ("FactLines$Rule", "thingBits", "I", false)
def tyX3 : Nat → FieldType := fun k => match k with
  | 0 => .array .int
  | 1 => .array .int
  | 2 => .array .int
  | 3 => .int
  | 4 => .int
  | _ => .int
theorem nmX3 : ∀ a, a < 6 → ∀ b, b < 6 → a ≠ b → (TX3 a).2.1 ≠ (TX3 b).2.1 := by decide +kernel
theorem tyX3_ok : ∀ k, k < 6 → parseFieldDescriptor (TX3 k).2.2.1 = some (tyX3 k) := by decide +kernel
def RX4 : String := "FactLines$State"
def TX4 : u_T := fun k => match k with
  | 0 => ("FactLines$State", "ranks", "[I", true)
  | 1 => ("FactLines$State", "silent", "[Z", true)
  | 2 => ("FactLines$State", "thingOf", "[I", true)
  | 3 => ("FactLines$State", "sourceOf", "[I", true)
  | 4 => ("FactLines$State", "froms", "[I", true)
  | 5 => ("FactLines$State", "tos", "[I", true)
  | 6 => ("FactLines$State", "values", "[I", true)
  | 7 => ("FactLines$State", "withdrawn", "[Z", true)
  | 8 => ("FactLines$State", "rules", "[LFactLines$Rule;", true)
  | 9 => ("FactLines$State", "sources", "I", false)
  | _ => ("FactLines$State", "facts", "I", false)
def tyX4 : Nat → FieldType := fun k => match k with
  | 0 => .array .int
  | 1 => .array .boolean
  | 2 => .array .int
  | 3 => .array .int
  | 4 => .array .int
  | 5 => .array .int
  | 6 => .array .int
  | 7 => .array .boolean
  | 8 => .array (.object "FactLines$Rule")
  | 9 => .int
  | _ => .int
theorem nmX4 : ∀ a, a < 11 → ∀ b, b < 11 → a ≠ b → (TX4 a).2.1 ≠ (TX4 b).2.1 := by decide +kernel
theorem tyX4_ok : ∀ k, k < 11 → parseFieldDescriptor (TX4 k).2.2.1 = some (tyX4 k) := by decide +kernel
def RX5 : String := "FactLines$Tape"
def TX5 : u_T := fun k => match k with
  | 0 => ("FactLines$Tape", "bytes", "[I", true)
  | 1 => ("FactLines$Tape", "kinds", "[I", true)
  | 2 => ("FactLines$Tape", "begins", "[I", true)
  | 3 => ("FactLines$Tape", "numbers", "[I", true)
  | 4 => ("FactLines$Tape", "size", "I", false)
  | _ => ("FactLines$Tape", "tokens", "I", false)
def tyX5 : Nat → FieldType := fun k => match k with
  | 0 => .array .int
  | 1 => .array .int
  | 2 => .array .int
  | 3 => .array .int
  | 4 => .int
  | _ => .int
theorem nmX5 : ∀ a, a < 6 → ∀ b, b < 6 → a ≠ b → (TX5 a).2.1 ≠ (TX5 b).2.1 := by decide +kernel
theorem tyX5_ok : ∀ k, k < 6 → parseFieldDescriptor (TX5 k).2.2.1 = some (tyX5 k) := by decide +kernel
def RX6 : String := "FactLines"
def TX6 : u_T := fun k => match k with
  | 0 => ("FactLines", "now", "LFactLines$State;", true)
  | 1 => ("FactLines", "ahead", "LFactLines$State;", true)
  | 2 => ("FactLines", "kept", "LFactLines$State;", true)
  | 3 => ("FactLines", "past", "[LFactLines$State;", true)
  | 4 => ("FactLines", "act", "LFactLines$Act;", true)
  | 5 => ("FactLines", "tape", "LFactLines$Tape;", true)
  | 6 => ("FactLines", "reader", "LFactLines$Reader;", true)
  | 7 => ("FactLines", "lines", "LFactLines$Lines;", true)
  | 8 => ("FactLines", "supposed", "LFactLines$Lines;", true)
  | 9 => ("FactLines", "isKept", "Z", false)
  | 10 => ("FactLines", "isDrawn", "Z", false)
  | 11 => ("FactLines", "remembered", "I", false)
  | 12 => ("FactLines", "nextPast", "I", false)
  | 13 => ("FactLines", "refusal", "I", false)
  | _ => ("FactLines", "wrongByte", "I", false)
def tyX6 : Nat → FieldType := fun k => match k with
  | 0 => .object "FactLines$State"
  | 1 => .object "FactLines$State"
  | 2 => .object "FactLines$State"
  | 3 => .array (.object "FactLines$State")
  | 4 => .object "FactLines$Act"
  | 5 => .object "FactLines$Tape"
  | 6 => .object "FactLines$Reader"
  | 7 => .object "FactLines$Lines"
  | 8 => .object "FactLines$Lines"
  | 9 => .boolean
  | 10 => .boolean
  | 11 => .int
  | 12 => .int
  | 13 => .int
  | _ => .int
theorem nmX6 : ∀ a, a < 15 → ∀ b, b < 15 → a ≠ b → (TX6 a).2.1 ≠ (TX6 b).2.1 := by decide +kernel
theorem tyX6_ok : ∀ k, k < 15 → parseFieldDescriptor (TX6 k).2.2.1 = some (tyX6 k) := by decide +kernel
def RX7 : String := "FactLinesModel"
def TX7 : u_T := fun k => match k with
  | 0 => ("FactLinesModel", "thrown", "I", false)
  | 1 => ("FactLinesModel", "m", "[I", true)
  | 2 => ("FactLinesModel", "aside", "[I", true)
  | 3 => ("FactLinesModel", "imageRow", "[I", true)
  | 4 => ("FactLinesModel", "undoRow", "[I", true)
  | 5 => ("FactLinesModel", "undos", "I", false)
  | 6 => ("FactLinesModel", "hasImage", "Z", false)
  | 7 => ("FactLinesModel", "why", "I", false)
  | 8 => ("FactLinesModel", "tape", "[I", true)
  | 9 => ("FactLinesModel", "taped", "I", false)
  | 10 => ("FactLinesModel", "end", "I", false)
  | 11 => ("FactLinesModel", "at", "I", false)
  | 12 => ("FactLinesModel", "fault", "I", false)
  | 13 => ("FactLinesModel", "made", "[I", true)
  | 14 => ("FactLinesModel", "waits", "[I", true)
  | 15 => ("FactLinesModel", "waitMany", "I", false)
  | 16 => ("FactLinesModel", "parts", "[I", true)
  | 17 => ("FactLinesModel", "partMany", "I", false)
  | 18 => ("FactLinesModel", "open", "I", false)
  | 19 => ("FactLinesModel", "is", "[I", true)
  | 20 => ("FactLinesModel", "best", "[I", true)
  | 21 => ("FactLinesModel", "limit", "I", false)
  | 22 => ("FactLinesModel", "knots", "[I", true)
  | 23 => ("FactLinesModel", "reigns", "[I", true)
  | 24 => ("FactLinesModel", "line", "[I", true)
  | 25 => ("FactLinesModel", "other", "[I", true)
  | 26 => ("FactLinesModel", "lacks", "[I", true)
  | 27 => ("FactLinesModel", "lackMany", "I", false)
  | 28 => ("FactLinesModel", "lackEnds", "I", false)
  | _ => ("FactLinesModel", "cutMany", "I", false)
def tyX7 : Nat → FieldType := fun k => match k with
  | 0 => .int
  | 1 => .array .int
  | 2 => .array .int
  | 3 => .array .int
  | 4 => .array .int
  | 5 => .int
  | 6 => .boolean
  | 7 => .int
  | 8 => .array .int
  | 9 => .int
  | 10 => .int
  | 11 => .int
  | 12 => .int
  | 13 => .array .int
  | 14 => .array .int
  | 15 => .int
  | 16 => .array .int
  | 17 => .int
  | 18 => .int
  | 19 => .array .int
  | 20 => .array .int
  | 21 => .int
  | 22 => .array .int
  | 23 => .array .int
  | 24 => .array .int
  | 25 => .array .int
  | 26 => .array .int
  | 27 => .int
  | 28 => .int
  | _ => .int
theorem nmX7 : ∀ a, a < 30 → ∀ b, b < 30 → a ≠ b → (TX7 a).2.1 ≠ (TX7 b).2.1 := by decide +kernel
theorem tyX7_ok : ∀ k, k < 30 → parseFieldDescriptor (TX7 k).2.2.1 = some (tyX7 k) := by decide +kernel
def RJ6 : String := "java/lang/Integer"
def RJ9 : String := "java/lang/Math"
def RJ0 : String := "java/lang/String"
def RJ1 : String := "java/lang/StringLatin1"
def RJ2 : String := "java/lang/StringUTF16"
def RJ3 : String := "jdk/internal/util/Preconditions"
def RL : String := "FactLinesLaw"
abbrev cX0_init : ByteArray := prog_2_method_1_code
def yX0_init : MethodName := ⟨RX0, "<init>", "()V"⟩
abbrev cX0_set : ByteArray := prog_2_method_2_code
def yX0_set : MethodName := ⟨RX0, "set", "(IIIIII)V"⟩
abbrev cX0_begin : ByteArray := prog_2_method_3_code
def yX0_begin : MethodName := ⟨RX0, "begin", "(I)V"⟩
abbrev cX0_give : ByteArray := prog_2_method_4_code
def yX0_give : MethodName := ⟨RX0, "give", "(I)V"⟩
abbrev cX1_init : ByteArray := prog_3_method_1_code
def yX1_init : MethodName := ⟨RX1, "<init>", "(LFactLines$State;)V"⟩
abbrev cX1_draw : ByteArray := prog_3_method_2_code
def yX1_draw : MethodName := ⟨RX1, "draw", "(II)V"⟩
abbrev cX1_cutPieces : ByteArray := prog_3_method_3_code
def yX1_cutPieces : MethodName := ⟨RX1, "cutPieces", "()V"⟩
abbrev cX1_layFact : ByteArray := prog_3_method_4_code
def yX1_layFact : MethodName := ⟨RX1, "layFact", "(I)V"⟩
abbrev cX1_makeBy : ByteArray := prog_3_method_5_code
def yX1_makeBy : MethodName := ⟨RX1, "makeBy", "(LFactLines$Rule;I)I"⟩
abbrev cX1_followLack : ByteArray := prog_3_method_6_code
def yX1_followLack : MethodName := ⟨RX1, "followLack", "(II)V"⟩
abbrev cX1_lackedBy : ByteArray := prog_3_method_7_code
def yX1_lackedBy : MethodName := ⟨RX1, "lackedBy", "(LFactLines$Rule;I)I"⟩
abbrev cX1_valueAt : ByteArray := prog_3_method_8_code
def yX1_valueAt : MethodName := ⟨RX1, "valueAt", "(II)I"⟩
abbrev cX1_bestAt : ByteArray := prog_3_method_9_code
def yX1_bestAt : MethodName := ⟨RX1, "bestAt", "(II)I"⟩
abbrev cX1_lengthOf : ByteArray := prog_3_method_10_code
def yX1_lengthOf : MethodName := ⟨RX1, "lengthOf", "(I)I"⟩
abbrev cX1_rowEnd : ByteArray := prog_3_method_11_code
def yX1_rowEnd : MethodName := ⟨RX1, "rowEnd", "(II)I"⟩
abbrev cX1_rowFrom : ByteArray := prog_3_method_12_code
def yX1_rowFrom : MethodName := ⟨RX1, "rowFrom", "(II)I"⟩
abbrev cX1_rowTo : ByteArray := prog_3_method_13_code
def yX1_rowTo : MethodName := ⟨RX1, "rowTo", "(II)I"⟩
abbrev cX1_beginsRow : ByteArray := prog_3_method_14_code
def yX1_beginsRow : MethodName := ⟨RX1, "beginsRow", "(IIZ)Z"⟩
abbrev cX1_countRows : ByteArray := prog_3_method_15_code
def yX1_countRows : MethodName := ⟨RX1, "countRows", "(IZ)I"⟩
abbrev cX1_countSpans : ByteArray := prog_3_method_16_code
def yX1_countSpans : MethodName := ⟨RX1, "countSpans", "()I"⟩
abbrev cX1_rowPiece : ByteArray := prog_3_method_17_code
def yX1_rowPiece : MethodName := ⟨RX1, "rowPiece", "(IIZ)I"⟩
abbrev cX1_longestRow : ByteArray := prog_3_method_18_code
def yX1_longestRow : MethodName := ⟨RX1, "longestRow", "(IZ)I"⟩
abbrev cX1_firstTime : ByteArray := prog_3_method_19_code
def yX1_firstTime : MethodName := ⟨RX1, "firstTime", "(III)I"⟩
abbrev cX1_nearestTime : ByteArray := prog_3_method_20_code
def yX1_nearestTime : MethodName := ⟨RX1, "nearestTime", "(II)I"⟩
abbrev cX1_nextSpanFrom : ByteArray := prog_3_method_21_code
def yX1_nextSpanFrom : MethodName := ⟨RX1, "nextSpanFrom", "(II)I"⟩
abbrev cX1_countPairs : ByteArray := prog_3_method_22_code
def yX1_countPairs : MethodName := ⟨RX1, "countPairs", "(III)I"⟩
abbrev cX1_countLying : ByteArray := prog_3_method_23_code
def yX1_countLying : MethodName := ⟨RX1, "countLying", "(IIII)I"⟩
abbrev cX1_timesOfBoth : ByteArray := prog_3_method_24_code
def yX1_timesOfBoth : MethodName := ⟨RX1, "timesOfBoth", "(II)I"⟩
abbrev cX1_timesOf : ByteArray := prog_3_method_25_code
def yX1_timesOf : MethodName := ⟨RX1, "timesOf", "(II)I"⟩
abbrev cX1_modeOf : ByteArray := prog_3_method_26_code
def yX1_modeOf : MethodName := ⟨RX1, "modeOf", "(I)I"⟩
abbrev cX1_sumOf : ByteArray := prog_3_method_27_code
def yX1_sumOf : MethodName := ⟨RX1, "sumOf", "(I)I"⟩
abbrev cX1_timesInDispute : ByteArray := prog_3_method_28_code
def yX1_timesInDispute : MethodName := ⟨RX1, "timesInDispute", "(I)I"⟩
abbrev cX1_reignOf : ByteArray := prog_3_method_29_code
def yX1_reignOf : MethodName := ⟨RX1, "reignOf", "(I)I"⟩
abbrev cX1_isIdle : ByteArray := prog_3_method_30_code
def yX1_isIdle : MethodName := ⟨RX1, "isIdle", "(I)Z"⟩
abbrev cX1_countIdle : ByteArray := prog_3_method_31_code
def yX1_countIdle : MethodName := ⟨RX1, "countIdle", "()I"⟩
abbrev cX1_idleFact : ByteArray := prog_3_method_32_code
def yX1_idleFact : MethodName := ⟨RX1, "idleFact", "(I)I"⟩
abbrev cX1_voiceOf : ByteArray := prog_3_method_33_code
def yX1_voiceOf : MethodName := ⟨RX1, "voiceOf", "(I)I"⟩
abbrev cX1_accordOf : ByteArray := prog_3_method_34_code
def yX1_accordOf : MethodName := ⟨RX1, "accordOf", "(II)I"⟩
abbrev cX1_timesUnlike : ByteArray := prog_3_method_35_code
def yX1_timesUnlike : MethodName := ⟨RX1, "timesUnlike", "(LFactLines$Lines;)I"⟩
abbrev cX2_init : ByteArray := prog_4_method_1_code
def yX2_init : MethodName := ⟨RX2, "<init>", "(LFactLines$Tape;)V"⟩
abbrev cX2_readAll : ByteArray := prog_4_method_2_code
def yX2_readAll : MethodName := ⟨RX2, "readAll", "(LFactLines$State;)Z"⟩
abbrev cX2_kind : ByteArray := prog_4_method_3_code
def yX2_kind : MethodName := ⟨RX2, "kind", "()I"⟩
abbrev cX2_failAt : ByteArray := prog_4_method_4_code
def yX2_failAt : MethodName := ⟨RX2, "failAt", "(I)Z"⟩
abbrev cX2_readAct : ByteArray := prog_4_method_5_code
def yX2_readAct : MethodName := ⟨RX2, "readAct", "()Z"⟩
abbrev cX2_word : ByteArray := prog_4_method_6_code
def yX2_word : MethodName := ⟨RX2, "word", "(I)Z"⟩
abbrev cX2_number : ByteArray := prog_4_method_7_code
def yX2_number : MethodName := ⟨RX2, "number", "(II)Z"⟩
abbrev cX2_readsOff : ByteArray := prog_4_method_8_code
def yX2_readsOff : MethodName := ⟨RX2, "readsOff", "()Z"⟩
abbrev cX2_readRule : ByteArray := prog_4_method_9_code
def yX2_readRule : MethodName := ⟨RX2, "readRule", "(LFactLines$Rule;I)Z"⟩
abbrev cX2_waitFor : ByteArray := prog_4_method_10_code
def yX2_waitFor : MethodName := ⟨RX2, "waitFor", "(I)V"⟩
abbrev cX2_isSign : ByteArray := prog_4_method_11_code
def yX2_isSign : MethodName := ⟨RX2, "isSign", "(I)Z"⟩
abbrev cX2_levelOf : ByteArray := prog_4_method_12_code
def yX2_levelOf : MethodName := ⟨RX2, "levelOf", "(I)I"⟩
abbrev cX2_joinWaiting : ByteArray := prog_4_method_13_code
def yX2_joinWaiting : MethodName := ⟨RX2, "joinWaiting", "(LFactLines$Rule;I)V"⟩
abbrev cX2_readAtom : ByteArray := prog_4_method_14_code
def yX2_readAtom : MethodName := ⟨RX2, "readAtom", "(LFactLines$Rule;I)Z"⟩
abbrev cX3_init : ByteArray := prog_5_method_1_code
def yX3_init : MethodName := ⟨RX3, "<init>", "()V"⟩
abbrev cX3_isThere : ByteArray := prog_5_method_2_code
def yX3_isThere : MethodName := ⟨RX3, "isThere", "()Z"⟩
abbrev cX3_clear : ByteArray := prog_5_method_3_code
def yX3_clear : MethodName := ⟨RX3, "clear", "()V"⟩
abbrev cX3_copyOf : ByteArray := prog_5_method_4_code
def yX3_copyOf : MethodName := ⟨RX3, "copyOf", "(LFactLines$Rule;)V"⟩
abbrev cX3_addAtom : ByteArray := prog_5_method_5_code
def yX3_addAtom : MethodName := ⟨RX3, "addAtom", "(II)I"⟩
abbrev cX3_addNode : ByteArray := prog_5_method_6_code
def yX3_addNode : MethodName := ⟨RX3, "addNode", "(III)I"⟩
abbrev cX3_join : ByteArray := prog_5_method_7_code
def yX3_join : MethodName := ⟨RX3, "join", "(III)I"⟩
abbrev cX4_init : ByteArray := prog_6_method_1_code
def yX4_init : MethodName := ⟨RX4, "<init>", "()V"⟩
abbrev cX4_copyOf : ByteArray := prog_6_method_2_code
def yX4_copyOf : MethodName := ⟨RX4, "copyOf", "(LFactLines$State;)V"⟩
abbrev cX4_hasSource : ByteArray := prog_6_method_3_code
def yX4_hasSource : MethodName := ⟨RX4, "hasSource", "(I)Z"⟩
abbrev cX4_hasFact : ByteArray := prog_6_method_4_code
def yX4_hasFact : MethodName := ⟨RX4, "hasFact", "(I)Z"⟩
abbrev cX4_refusalOf : ByteArray := prog_6_method_5_code
def yX4_refusalOf : MethodName := ⟨RX4, "refusalOf", "(LFactLines$Act;)I"⟩
abbrev cX4_refusalOfFact : ByteArray := prog_6_method_6_code
def yX4_refusalOfFact : MethodName := ⟨RX4, "refusalOfFact", "(III)I"⟩
abbrev cX4_refusalOfHush : ByteArray := prog_6_method_7_code
def yX4_refusalOfHush : MethodName := ⟨RX4, "refusalOfHush", "(IZ)I"⟩
abbrev cX4_refusalOfCut : ByteArray := prog_6_method_8_code
def yX4_refusalOfCut : MethodName := ⟨RX4, "refusalOfCut", "(II)I"⟩
abbrev cX4_isCutBy : ByteArray := prog_6_method_9_code
def yX4_isCutBy : MethodName := ⟨RX4, "isCutBy", "(III)Z"⟩
abbrev cX4_carryOut : ByteArray := prog_6_method_10_code
def yX4_carryOut : MethodName := ⟨RX4, "carryOut", "(LFactLines$Act;)V"⟩
abbrev cX4_addSource : ByteArray := prog_6_method_11_code
def yX4_addSource : MethodName := ⟨RX4, "addSource", "(I)V"⟩
abbrev cX4_addFact : ByteArray := prog_6_method_12_code
def yX4_addFact : MethodName := ⟨RX4, "addFact", "(IIIII)V"⟩
abbrev cX4_cutAll : ByteArray := prog_6_method_13_code
def yX4_cutAll : MethodName := ⟨RX4, "cutAll", "(II)V"⟩
abbrev cX4_isHeard : ByteArray := prog_6_method_14_code
def yX4_isHeard : MethodName := ⟨RX4, "isHeard", "(I)Z"⟩
abbrev cX4_isHolding : ByteArray := prog_6_method_15_code
def yX4_isHolding : MethodName := ⟨RX4, "isHolding", "(III)Z"⟩
abbrev cX4_isBetter : ByteArray := prog_6_method_16_code
def yX4_isBetter : MethodName := ⟨RX4, "isBetter", "(II)Z"⟩
abbrev cX4_countHolding : ByteArray := prog_6_method_17_code
def yX4_countHolding : MethodName := ⟨RX4, "countHolding", "(II)I"⟩
abbrev cX4_holdingAt : ByteArray := prog_6_method_18_code
def yX4_holdingAt : MethodName := ⟨RX4, "holdingAt", "(III)I"⟩
abbrev cX4_countBetter : ByteArray := prog_6_method_19_code
def yX4_countBetter : MethodName := ⟨RX4, "countBetter", "(II)I"⟩
abbrev cX4_bestBy : ByteArray := prog_6_method_20_code
def yX4_bestBy : MethodName := ⟨RX4, "bestBy", "(III)I"⟩
abbrev cX4_isDisputed : ByteArray := prog_6_method_21_code
def yX4_isDisputed : MethodName := ⟨RX4, "isDisputed", "(II)Z"⟩
abbrev cX4_factsBy : ByteArray := prog_6_method_22_code
def yX4_factsBy : MethodName := ⟨RX4, "factsBy", "(I)I"⟩
abbrev cX4_factsOf : ByteArray := prog_6_method_23_code
def yX4_factsOf : MethodName := ⟨RX4, "factsOf", "(I)I"⟩
abbrev cX4_sourcesAbove : ByteArray := prog_6_method_24_code
def yX4_sourcesAbove : MethodName := ⟨RX4, "sourcesAbove", "(I)I"⟩
abbrev cX4_countWithdrawn : ByteArray := prog_6_method_25_code
def yX4_countWithdrawn : MethodName := ⟨RX4, "countWithdrawn", "()I"⟩
abbrev cX4_countSilent : ByteArray := prog_6_method_26_code
def yX4_countSilent : MethodName := ⟨RX4, "countSilent", "()I"⟩
abbrev cX4_countRules : ByteArray := prog_6_method_27_code
def yX4_countRules : MethodName := ⟨RX4, "countRules", "()I"⟩
abbrev cX5_init : ByteArray := prog_7_method_1_code
def yX5_init : MethodName := ⟨RX5, "<init>", "()V"⟩
abbrev cX5_append : ByteArray := prog_7_method_2_code
def yX5_append : MethodName := ⟨RX5, "append", "(I)V"⟩
abbrev cX5_split : ByteArray := prog_7_method_3_code
def yX5_split : MethodName := ⟨RX5, "split", "()V"⟩
abbrev cX5_isLetter : ByteArray := prog_7_method_4_code
def yX5_isLetter : MethodName := ⟨RX5, "isLetter", "(I)Z"⟩
abbrev cX5_isDigit : ByteArray := prog_7_method_5_code
def yX5_isDigit : MethodName := ⟨RX5, "isDigit", "(I)Z"⟩
abbrev cX5_numberOf : ByteArray := prog_7_method_6_code
def yX5_numberOf : MethodName := ⟨RX5, "numberOf", "(II)I"⟩
abbrev cX5_put : ByteArray := prog_7_method_7_code
def yX5_put : MethodName := ⟨RX5, "put", "(III)V"⟩
abbrev cX5_signKind : ByteArray := prog_7_method_8_code
def yX5_signKind : MethodName := ⟨RX5, "signKind", "(I)I"⟩
abbrev cX5_wordKind : ByteArray := prog_7_method_9_code
def yX5_wordKind : MethodName := ⟨RX5, "wordKind", "(II)I"⟩
abbrev cX5_actKind : ByteArray := prog_7_method_10_code
def yX5_actKind : MethodName := ⟨RX5, "actKind", "(II)I"⟩
abbrev cX5_innerKind : ByteArray := prog_7_method_11_code
def yX5_innerKind : MethodName := ⟨RX5, "innerKind", "(II)I"⟩
abbrev cX5_spells : ByteArray := prog_7_method_12_code
def yX5_spells : MethodName := ⟨RX5, "spells", "(IILjava/lang/String;)Z"⟩
abbrev cX6_init : ByteArray := prog_1_method_1_code
def yX6_init : MethodName := ⟨RX6, "<init>", "()V"⟩
abbrev cX6_feed : ByteArray := prog_1_method_2_code
def yX6_feed : MethodName := ⟨RX6, "feed", "(IIIII)I"⟩
abbrev cX6_end : ByteArray := prog_1_method_3_code
def yX6_end : MethodName := ⟨RX6, "end", "(I)Z"⟩
abbrev cX6_acts : ByteArray := prog_1_method_4_code
def yX6_acts : MethodName := ⟨RX6, "acts", "()I"⟩
abbrev cX6_fault : ByteArray := prog_1_method_5_code
def yX6_fault : MethodName := ⟨RX6, "fault", "()I"⟩
abbrev cX6_why : ByteArray := prog_1_method_6_code
def yX6_why : MethodName := ⟨RX6, "why", "()I"⟩
abbrev cX6_source : ByteArray := prog_1_method_7_code
def yX6_source : MethodName := ⟨RX6, "source", "(I)I"⟩
abbrev cX6_fact : ByteArray := prog_1_method_8_code
def yX6_fact : MethodName := ⟨RX6, "fact", "(IIIII)I"⟩
abbrev cX6_drop : ByteArray := prog_1_method_9_code
def yX6_drop : MethodName := ⟨RX6, "drop", "(I)I"⟩
abbrev cX6_hush : ByteArray := prog_1_method_10_code
def yX6_hush : MethodName := ⟨RX6, "hush", "(IZ)I"⟩
abbrev cX6_rank : ByteArray := prog_1_method_11_code
def yX6_rank : MethodName := ⟨RX6, "rank", "(II)I"⟩
abbrev cX6_cut : ByteArray := prog_1_method_12_code
def yX6_cut : MethodName := ⟨RX6, "cut", "(II)I"⟩
abbrev cX6_off : ByteArray := prog_1_method_13_code
def yX6_off : MethodName := ⟨RX6, "off", "(I)I"⟩
abbrev cX6_undo : ByteArray := prog_1_method_14_code
def yX6_undo : MethodName := ⟨RX6, "undo", "()I"⟩
abbrev cX6_at : ByteArray := prog_1_method_15_code
def yX6_at : MethodName := ⟨RX6, "at", "(II)I"⟩
abbrev cX6_by : ByteArray := prog_1_method_16_code
def yX6_by : MethodName := ⟨RX6, "by", "(III)I"⟩
abbrev cX6_beneath : ByteArray := prog_1_method_17_code
def yX6_beneath : MethodName := ⟨RX6, "beneath", "(III)I"⟩
abbrev cX6_early : ByteArray := prog_1_method_18_code
def yX6_early : MethodName := ⟨RX6, "early", "(III)I"⟩
abbrev cX6_lack : ByteArray := prog_1_method_19_code
def yX6_lack : MethodName := ⟨RX6, "lack", "(III)I"⟩
abbrev cX6_span : ByteArray := prog_1_method_20_code
def yX6_span : MethodName := ⟨RX6, "span", "(III)I"⟩
abbrev cX6_gap : ByteArray := prog_1_method_21_code
def yX6_gap : MethodName := ⟨RX6, "gap", "(III)I"⟩
abbrev cX6_longest : ByteArray := prog_1_method_22_code
def yX6_longest : MethodName := ⟨RX6, "longest", "(IZ)I"⟩
abbrev cX6_change : ByteArray := prog_1_method_23_code
def yX6_change : MethodName := ⟨RX6, "change", "(IIZ)I"⟩
abbrev cX6_run : ByteArray := prog_1_method_24_code
def yX6_run : MethodName := ⟨RX6, "run", "(II)I"⟩
abbrev cX6_first : ByteArray := prog_1_method_25_code
def yX6_first : MethodName := ⟨RX6, "first", "(III)I"⟩
abbrev cX6_nearest : ByteArray := prog_1_method_26_code
def yX6_nearest : MethodName := ⟨RX6, "nearest", "(II)I"⟩
abbrev cX6_rest : ByteArray := prog_1_method_27_code
def yX6_rest : MethodName := ⟨RX6, "rest", "(II)I"⟩
abbrev cX6_pairs : ByteArray := prog_1_method_28_code
def yX6_pairs : MethodName := ⟨RX6, "pairs", "(III)I"⟩
abbrev cX6_together : ByteArray := prog_1_method_29_code
def yX6_together : MethodName := ⟨RX6, "together", "(II)I"⟩
abbrev cX6_often : ByteArray := prog_1_method_30_code
def yX6_often : MethodName := ⟨RX6, "often", "(II)I"⟩
abbrev cX6_thing : ByteArray := prog_1_method_31_code
def yX6_thing : MethodName := ⟨RX6, "thing", "(II)I"⟩
abbrev cX6_told : ByteArray := prog_1_method_32_code
def yX6_told : MethodName := ⟨RX6, "told", "(II)I"⟩
abbrev cX6_how : ByteArray := prog_1_method_33_code
def yX6_how : MethodName := ⟨RX6, "how", "(II)I"⟩
abbrev cX6_shared : ByteArray := prog_1_method_34_code
def yX6_shared : MethodName := ⟨RX6, "shared", "(II)I"⟩
abbrev cX6_better : ByteArray := prog_1_method_35_code
def yX6_better : MethodName := ⟨RX6, "better", "(II)Z"⟩
abbrev cX6_idle : ByteArray := prog_1_method_36_code
def yX6_idle : MethodName := ⟨RX6, "idle", "(I)I"⟩
abbrev cX6_heard : ByteArray := prog_1_method_37_code
def yX6_heard : MethodName := ⟨RX6, "heard", "(II)I"⟩
abbrev cX6_accord : ByteArray := prog_1_method_38_code
def yX6_accord : MethodName := ⟨RX6, "accord", "(II)I"⟩
abbrev cX6_order : ByteArray := prog_1_method_39_code
def yX6_order : MethodName := ⟨RX6, "order", "(I)I"⟩
abbrev cX6_image : ByteArray := prog_1_method_40_code
def yX6_image : MethodName := ⟨RX6, "image", "()V"⟩
abbrev cX6_back : ByteArray := prog_1_method_41_code
def yX6_back : MethodName := ⟨RX6, "back", "()Z"⟩
abbrev cX6_count : ByteArray := prog_1_method_42_code
def yX6_count : MethodName := ⟨RX6, "count", "(I)I"⟩
abbrev cX6_needThing : ByteArray := prog_1_method_43_code
def yX6_needThing : MethodName := ⟨RX6, "needThing", "(I)V"⟩
abbrev cX6_needPlace : ByteArray := prog_1_method_44_code
def yX6_needPlace : MethodName := ⟨RX6, "needPlace", "(II)V"⟩
abbrev cX6_needSource : ByteArray := prog_1_method_45_code
def yX6_needSource : MethodName := ⟨RX6, "needSource", "(I)V"⟩
abbrev cX6_needFact : ByteArray := prog_1_method_46_code
def yX6_needFact : MethodName := ⟨RX6, "needFact", "(I)V"⟩
abbrev cX6_needNumber : ByteArray := prog_1_method_47_code
def yX6_needNumber : MethodName := ⟨RX6, "needNumber", "(III)V"⟩
abbrev cX6_needWhat : ByteArray := prog_1_method_48_code
def yX6_needWhat : MethodName := ⟨RX6, "needWhat", "(II)V"⟩
abbrev cX6_tell : ByteArray := prog_1_method_49_code
def yX6_tell : MethodName := ⟨RX6, "tell", "(IIIIII)V"⟩
abbrev cX6_drawn : ByteArray := prog_1_method_50_code
def yX6_drawn : MethodName := ⟨RX6, "drawn", "()LFactLines$Lines;"⟩
abbrev cX6_rowAnswer : ByteArray := prog_1_method_51_code
def yX6_rowAnswer : MethodName := ⟨RX6, "rowAnswer", "(IIIZ)I"⟩
abbrev cX6_touchOf : ByteArray := prog_1_method_52_code
def yX6_touchOf : MethodName := ⟨RX6, "touchOf", "(I)I"⟩
abbrev cX6_relation : ByteArray := prog_1_method_53_code
def yX6_relation : MethodName := ⟨RX6, "relation", "(IIII)I"⟩
abbrev cX7_init : ByteArray := prog_9_method_1_code
def yX7_init : MethodName := ⟨RX7, "<init>", "()V"⟩
abbrev cX7_thrown : ByteArray := prog_9_method_2_code
def yX7_thrown : MethodName := ⟨RX7, "thrown", "()I"⟩
abbrev cX7_isIn : ByteArray := prog_9_method_3_code
def yX7_isIn : MethodName := ⟨RX7, "isIn", "(III)Z"⟩
abbrev cX7_begins : ByteArray := prog_9_method_4_code
def yX7_begins : MethodName := ⟨RX7, "begins", "()V"⟩
abbrev cX7_factAt : ByteArray := prog_9_method_5_code
def yX7_factAt : MethodName := ⟨RX7, "factAt", "(II)I"⟩
abbrev cX7_isSource : ByteArray := prog_9_method_6_code
def yX7_isSource : MethodName := ⟨RX7, "isSource", "(I)Z"⟩
abbrev cX7_isFact : ByteArray := prog_9_method_7_code
def yX7_isFact : MethodName := ⟨RX7, "isFact", "(I)Z"⟩
abbrev cX7_isThing : ByteArray := prog_9_method_8_code
def yX7_isThing : MethodName := ⟨RX7, "isThing", "(I)Z"⟩
abbrev cX7_isTime : ByteArray := prog_9_method_9_code
def yX7_isTime : MethodName := ⟨RX7, "isTime", "(I)Z"⟩
abbrev cX7_holds : ByteArray := prog_9_method_10_code
def yX7_holds : MethodName := ⟨RX7, "holds", "(II)Z"⟩
abbrev cX7_timesOf : ByteArray := prog_9_method_11_code
def yX7_timesOf : MethodName := ⟨RX7, "timesOf", "(I)I"⟩
abbrev cX7_isBetter : ByteArray := prog_9_method_12_code
def yX7_isBetter : MethodName := ⟨RX7, "isBetter", "(II)Z"⟩
abbrev cX7_bestOf : ByteArray := prog_9_method_13_code
def yX7_bestOf : MethodName := ⟨RX7, "bestOf", "(III)I"⟩
abbrev cX7_ruleAt : ByteArray := prog_9_method_14_code
def yX7_ruleAt : MethodName := ⟨RX7, "ruleAt", "(II)I"⟩
abbrev cX7_knotAt : ByteArray := prog_9_method_15_code
def yX7_knotAt : MethodName := ⟨RX7, "knotAt", "(III)I"⟩
abbrev cX7_hasRule : ByteArray := prog_9_method_16_code
def yX7_hasRule : MethodName := ⟨RX7, "hasRule", "(I)Z"⟩
abbrev cX7_joined : ByteArray := prog_9_method_17_code
def yX7_joined : MethodName := ⟨RX7, "joined", "(III)I"⟩
abbrev cX7_makes : ByteArray := prog_9_method_18_code
def yX7_makes : MethodName := ⟨RX7, "makes", "(I)I"⟩
abbrev cX7_looks : ByteArray := prog_9_method_19_code
def yX7_looks : MethodName := ⟨RX7, "looks", "(I)V"⟩
abbrev cX7_draws : ByteArray := prog_9_method_20_code
def yX7_draws : MethodName := ⟨RX7, "draws", "(I[I)V"⟩
abbrev cX7_reckonsReigns : ByteArray := prog_9_method_21_code
def yX7_reckonsReigns : MethodName := ⟨RX7, "reckonsReigns", "()V"⟩
abbrev cX7_source0 : ByteArray := prog_9_method_22_code
def yX7_source0 : MethodName := ⟨RX7, "source0", "(I)I"⟩
abbrev cX7_fact0 : ByteArray := prog_9_method_23_code
def yX7_fact0 : MethodName := ⟨RX7, "fact0", "(IIIII)I"⟩
abbrev cX7_drop0 : ByteArray := prog_9_method_24_code
def yX7_drop0 : MethodName := ⟨RX7, "drop0", "(I)I"⟩
abbrev cX7_hush0 : ByteArray := prog_9_method_25_code
def yX7_hush0 : MethodName := ⟨RX7, "hush0", "(II)I"⟩
abbrev cX7_rank0 : ByteArray := prog_9_method_26_code
def yX7_rank0 : MethodName := ⟨RX7, "rank0", "(II)I"⟩
abbrev cX7_isCut : ByteArray := prog_9_method_27_code
def yX7_isCut : MethodName := ⟨RX7, "isCut", "(III)Z"⟩
abbrev cX7_cut0 : ByteArray := prog_9_method_28_code
def yX7_cut0 : MethodName := ⟨RX7, "cut0", "(II)I"⟩
abbrev cX7_off0 : ByteArray := prog_9_method_29_code
def yX7_off0 : MethodName := ⟨RX7, "off0", "(I)I"⟩
abbrev cX7_putsAside : ByteArray := prog_9_method_30_code
def yX7_putsAside : MethodName := ⟨RX7, "putsAside", "()V"⟩
abbrev cX7_remembers : ByteArray := prog_9_method_31_code
def yX7_remembers : MethodName := ⟨RX7, "remembers", "()V"⟩
abbrev cX7_isDone : ByteArray := prog_9_method_32_code
def yX7_isDone : MethodName := ⟨RX7, "isDone", "(II)Z"⟩
abbrev cX7_feed : ByteArray := prog_9_method_33_code
def yX7_feed : MethodName := ⟨RX7, "feed", "(IIIII)I"⟩
abbrev cX7_end : ByteArray := prog_9_method_34_code
def yX7_end : MethodName := ⟨RX7, "end", "(I)Z"⟩
abbrev cX7_here : ByteArray := prog_9_method_35_code
def yX7_here : MethodName := ⟨RX7, "here", "()I"⟩
abbrev cX7_wrong : ByteArray := prog_9_method_36_code
def yX7_wrong : MethodName := ⟨RX7, "wrong", "(I)V"⟩
abbrev cX7_has : ByteArray := prog_9_method_37_code
def yX7_has : MethodName := ⟨RX7, "has", "(Ljava/lang/String;)Z"⟩
abbrev cX7_expects : ByteArray := prog_9_method_38_code
def yX7_expects : MethodName := ⟨RX7, "expects", "(Ljava/lang/String;)V"⟩
abbrev cX7_isSign : ByteArray := prog_9_method_39_code
def yX7_isSign : MethodName := ⟨RX7, "isSign", "(I)Z"⟩
abbrev cX7_isFigure : ByteArray := prog_9_method_40_code
def yX7_isFigure : MethodName := ⟨RX7, "isFigure", "()Z"⟩
abbrev cX7_number : ByteArray := prog_9_method_41_code
def yX7_number : MethodName := ⟨RX7, "number", "(II)I"⟩
abbrev cX7_knot : ByteArray := prog_9_method_42_code
def yX7_knot : MethodName := ⟨RX7, "knot", "(IIII)V"⟩
abbrev cX7_joins : ByteArray := prog_9_method_43_code
def yX7_joins : MethodName := ⟨RX7, "joins", "()V"⟩
abbrev cX7_bindingOf : ByteArray := prog_9_method_44_code
def yX7_bindingOf : MethodName := ⟨RX7, "bindingOf", "(I)I"⟩
abbrev cX7_puts : ByteArray := prog_9_method_45_code
def yX7_puts : MethodName := ⟨RX7, "puts", "(I)V"⟩
abbrev cX7_opens : ByteArray := prog_9_method_46_code
def yX7_opens : MethodName := ⟨RX7, "opens", "(I)V"⟩
abbrev cX7_atom : ByteArray := prog_9_method_47_code
def yX7_atom : MethodName := ⟨RX7, "atom", "(I)V"⟩
abbrev cX7_joinHere : ByteArray := prog_9_method_48_code
def yX7_joinHere : MethodName := ⟨RX7, "joinHere", "()I"⟩
abbrev cX7_closes : ByteArray := prog_9_method_49_code
def yX7_closes : MethodName := ⟨RX7, "closes", "()V"⟩
abbrev cX7_ruleText : ByteArray := prog_9_method_50_code
def yX7_ruleText : MethodName := ⟨RX7, "ruleText", "(I)V"⟩
abbrev cX7_ruleAct : ByteArray := prog_9_method_51_code
def yX7_ruleAct : MethodName := ⟨RX7, "ruleAct", "()I"⟩
abbrev cX7_factAct : ByteArray := prog_9_method_52_code
def yX7_factAct : MethodName := ⟨RX7, "factAct", "()I"⟩
abbrev cX7_cutAct : ByteArray := prog_9_method_53_code
def yX7_cutAct : MethodName := ⟨RX7, "cutAct", "()I"⟩
abbrev cX7_hushAct : ByteArray := prog_9_method_54_code
def yX7_hushAct : MethodName := ⟨RX7, "hushAct", "(I)I"⟩
abbrev cX7_rankAct : ByteArray := prog_9_method_55_code
def yX7_rankAct : MethodName := ⟨RX7, "rankAct", "()I"⟩
abbrev cX7_act : ByteArray := prog_9_method_56_code
def yX7_act : MethodName := ⟨RX7, "act", "()I"⟩
abbrev cX7_acts : ByteArray := prog_9_method_57_code
def yX7_acts : MethodName := ⟨RX7, "acts", "()I"⟩
abbrev cX7_fault : ByteArray := prog_9_method_58_code
def yX7_fault : MethodName := ⟨RX7, "fault", "()I"⟩
abbrev cX7_why : ByteArray := prog_9_method_59_code
def yX7_why : MethodName := ⟨RX7, "why", "()I"⟩
abbrev cX7_source : ByteArray := prog_9_method_60_code
def yX7_source : MethodName := ⟨RX7, "source", "(I)I"⟩
abbrev cX7_fact : ByteArray := prog_9_method_61_code
def yX7_fact : MethodName := ⟨RX7, "fact", "(IIIII)I"⟩
abbrev cX7_drop : ByteArray := prog_9_method_62_code
def yX7_drop : MethodName := ⟨RX7, "drop", "(I)I"⟩
abbrev cX7_factsOf : ByteArray := prog_9_method_63_code
def yX7_factsOf : MethodName := ⟨RX7, "factsOf", "(II)I"⟩
abbrev cX7_hush : ByteArray := prog_9_method_64_code
def yX7_hush : MethodName := ⟨RX7, "hush", "(IZ)I"⟩
abbrev cX7_rank : ByteArray := prog_9_method_65_code
def yX7_rank : MethodName := ⟨RX7, "rank", "(II)I"⟩
abbrev cX7_cut : ByteArray := prog_9_method_66_code
def yX7_cut : MethodName := ⟨RX7, "cut", "(II)I"⟩
abbrev cX7_off : ByteArray := prog_9_method_67_code
def yX7_off : MethodName := ⟨RX7, "off", "(I)I"⟩
abbrev cX7_undo : ByteArray := prog_9_method_68_code
def yX7_undo : MethodName := ⟨RX7, "undo", "()I"⟩
abbrev cX7_at : ByteArray := prog_9_method_69_code
def yX7_at : MethodName := ⟨RX7, "at", "(II)I"⟩
abbrev cX7_by : ByteArray := prog_9_method_70_code
def yX7_by : MethodName := ⟨RX7, "by", "(III)I"⟩
abbrev cX7_beneath : ByteArray := prog_9_method_71_code
def yX7_beneath : MethodName := ⟨RX7, "beneath", "(III)I"⟩
abbrev cX7_endOf : ByteArray := prog_9_method_72_code
def yX7_endOf : MethodName := ⟨RX7, "endOf", "([II)I"⟩
abbrev cX7_rowOf : ByteArray := prog_9_method_73_code
def yX7_rowOf : MethodName := ⟨RX7, "rowOf", "([IIZ)I"⟩
abbrev cX7_span : ByteArray := prog_9_method_74_code
def yX7_span : MethodName := ⟨RX7, "span", "(III)I"⟩
abbrev cX7_gap : ByteArray := prog_9_method_75_code
def yX7_gap : MethodName := ⟨RX7, "gap", "(III)I"⟩
abbrev cX7_lackOf : ByteArray := prog_9_method_76_code
def yX7_lackOf : MethodName := ⟨RX7, "lackOf", "(I)I"⟩
abbrev cX7_reckonsLack : ByteArray := prog_9_method_77_code
def yX7_reckonsLack : MethodName := ⟨RX7, "reckonsLack", "(I)V"⟩
abbrev cX7_lack : ByteArray := prog_9_method_78_code
def yX7_lack : MethodName := ⟨RX7, "lack", "(III)I"⟩
abbrev cX7_beginOf : ByteArray := prog_9_method_79_code
def yX7_beginOf : MethodName := ⟨RX7, "beginOf", "(I)I"⟩
abbrev cX7_change : ByteArray := prog_9_method_80_code
def yX7_change : MethodName := ⟨RX7, "change", "(IIZ)I"⟩
abbrev cX7_run : ByteArray := prog_9_method_81_code
def yX7_run : MethodName := ⟨RX7, "run", "(II)I"⟩
abbrev cX7_first : ByteArray := prog_9_method_82_code
def yX7_first : MethodName := ⟨RX7, "first", "(III)I"⟩
abbrev cX7_touchOf : ByteArray := prog_9_method_83_code
def yX7_touchOf : MethodName := ⟨RX7, "touchOf", "(I)I"⟩
abbrev cX7_told : ByteArray := prog_9_method_84_code
def yX7_told : MethodName := ⟨RX7, "told", "(II)I"⟩
abbrev cX7_howOf : ByteArray := prog_9_method_85_code
def yX7_howOf : MethodName := ⟨RX7, "howOf", "(IIII)I"⟩
abbrev cX7_how : ByteArray := prog_9_method_86_code
def yX7_how : MethodName := ⟨RX7, "how", "(II)I"⟩
abbrev cX7_voiceOf : ByteArray := prog_9_method_87_code
def yX7_voiceOf : MethodName := ⟨RX7, "voiceOf", "(I)I"⟩
abbrev cX7_heard : ByteArray := prog_9_method_88_code
def yX7_heard : MethodName := ⟨RX7, "heard", "(II)I"⟩
abbrev cX7_accord : ByteArray := prog_9_method_89_code
def yX7_accord : MethodName := ⟨RX7, "accord", "(II)I"⟩
abbrev cX7_together : ByteArray := prog_9_method_90_code
def yX7_together : MethodName := ⟨RX7, "together", "(II)I"⟩
abbrev cX7_isDisputed : ByteArray := prog_9_method_91_code
def yX7_isDisputed : MethodName := ⟨RX7, "isDisputed", "(II)Z"⟩
abbrev cX7_disputeOf : ByteArray := prog_9_method_92_code
def yX7_disputeOf : MethodName := ⟨RX7, "disputeOf", "(I)I"⟩
abbrev cX7_sumOf : ByteArray := prog_9_method_93_code
def yX7_sumOf : MethodName := ⟨RX7, "sumOf", "(IZ)I"⟩
abbrev cX7_modeOf : ByteArray := prog_9_method_94_code
def yX7_modeOf : MethodName := ⟨RX7, "modeOf", "(I)I"⟩
abbrev cX7_thingsIn : ByteArray := prog_9_method_95_code
def yX7_thingsIn : MethodName := ⟨RX7, "thingsIn", "(I)I"⟩
abbrev cX7_thing : ByteArray := prog_9_method_96_code
def yX7_thing : MethodName := ⟨RX7, "thing", "(II)I"⟩
abbrev cX7_often : ByteArray := prog_9_method_97_code
def yX7_often : MethodName := ⟨RX7, "often", "(II)I"⟩
abbrev cX7_nearest : ByteArray := prog_9_method_98_code
def yX7_nearest : MethodName := ⟨RX7, "nearest", "(II)I"⟩
abbrev cX7_shared : ByteArray := prog_9_method_99_code
def yX7_shared : MethodName := ⟨RX7, "shared", "(II)I"⟩
abbrev cX7_rest : ByteArray := prog_9_method_100_code
def yX7_rest : MethodName := ⟨RX7, "rest", "(II)I"⟩
abbrev cX7_better : ByteArray := prog_9_method_101_code
def yX7_better : MethodName := ⟨RX7, "better", "(II)Z"⟩
abbrev cX7_longest : ByteArray := prog_9_method_102_code
def yX7_longest : MethodName := ⟨RX7, "longest", "(IZ)I"⟩
abbrev cX7_pairs : ByteArray := prog_9_method_103_code
def yX7_pairs : MethodName := ⟨RX7, "pairs", "(III)I"⟩
abbrev cX7_early : ByteArray := prog_9_method_104_code
def yX7_early : MethodName := ⟨RX7, "early", "(III)I"⟩
abbrev cX7_order : ByteArray := prog_9_method_105_code
def yX7_order : MethodName := ⟨RX7, "order", "(I)I"⟩
abbrev cX7_idleOf : ByteArray := prog_9_method_106_code
def yX7_idleOf : MethodName := ⟨RX7, "idleOf", "(I)I"⟩
abbrev cX7_idle : ByteArray := prog_9_method_107_code
def yX7_idle : MethodName := ⟨RX7, "idle", "(I)I"⟩
abbrev cX7_image : ByteArray := prog_9_method_108_code
def yX7_image : MethodName := ⟨RX7, "image", "()V"⟩
abbrev cX7_back : ByteArray := prog_9_method_109_code
def yX7_back : MethodName := ⟨RX7, "back", "()Z"⟩
abbrev cX7_goneFacts : ByteArray := prog_9_method_110_code
def yX7_goneFacts : MethodName := ⟨RX7, "goneFacts", "()I"⟩
abbrev cX7_silentOnes : ByteArray := prog_9_method_111_code
def yX7_silentOnes : MethodName := ⟨RX7, "silentOnes", "()I"⟩
abbrev cX7_ruleMany : ByteArray := prog_9_method_112_code
def yX7_ruleMany : MethodName := ⟨RX7, "ruleMany", "()I"⟩
abbrev cX7_allSpans : ByteArray := prog_9_method_113_code
def yX7_allSpans : MethodName := ⟨RX7, "allSpans", "()I"⟩
abbrev cX7_count : ByteArray := prog_9_method_114_code
def yX7_count : MethodName := ⟨RX7, "count", "(I)I"⟩
abbrev cJ6_compare_7cf53 : ByteArray := prog_17_method_40_code
def yJ6_compare_7cf53 : MethodName := ⟨RJ6, "compare", "(II)I"⟩
abbrev cJ9_max_7cf53 : ByteArray := prog_18_method_65_code
def yJ9_max_7cf53 : MethodName := ⟨RJ9, "max", "(II)I"⟩
abbrev cJ9_min_7cf53 : ByteArray := prog_18_method_69_code
def yJ9_min_7cf53 : MethodName := ⟨RJ9, "min", "(II)I"⟩
abbrev cJ0_length_8abf5 : ByteArray := prog_20_method_54_code
def yJ0_length_8abf5 : MethodName := ⟨RJ0, "length", "()I"⟩
abbrev cJ0_charAt_5068e : ByteArray := prog_20_method_56_code
def yJ0_charAt_5068e : MethodName := ⟨RJ0, "charAt", "(I)C"⟩
abbrev cJ0_coder_7d493 : ByteArray := prog_20_method_152_code
def yJ0_coder_7d493 : MethodName := ⟨RJ0, "coder", "()B"⟩
abbrev cJ0_isLatin1_aae02 : ByteArray := prog_20_method_154_code
def yJ0_isLatin1_aae02 : MethodName := ⟨RJ0, "isLatin1", "()Z"⟩
abbrev cJ0_checkIndex_df160 : ByteArray := prog_20_method_155_code
def yJ0_checkIndex_df160 : MethodName := ⟨RJ0, "checkIndex", "(II)V"⟩
abbrev cJ1_charAt_3b067 : ByteArray := prog_21_method_2_code
def yJ1_charAt_3b067 : MethodName := ⟨RJ1, "charAt", "([BI)C"⟩
abbrev cJ2_getChar_3b067 : ByteArray := prog_22_method_5_code
def yJ2_getChar_3b067 : MethodName := ⟨RJ2, "getChar", "([BI)C"⟩
abbrev cJ2_length_9d52b : ByteArray := prog_22_method_6_code
def yJ2_length_9d52b : MethodName := ⟨RJ2, "length", "([B)I"⟩
abbrev cJ2_charAt_3b067 : ByteArray := prog_22_method_83_code
def yJ2_charAt_3b067 : MethodName := ⟨RJ2, "charAt", "([BI)C"⟩
abbrev cJ2_checkIndex_2214a : ByteArray := prog_22_method_91_code
def yJ2_checkIndex_2214a : MethodName := ⟨RJ2, "checkIndex", "(I[B)V"⟩
abbrev cJ3_checkIndex_8e157 : ByteArray := prog_27_method_11_code
def yJ3_checkIndex_8e157 : MethodName := ⟨RJ3, "checkIndex", "(IILjava/util/function/BiFunction;)I"⟩
abbrev cL_acts : ByteArray := method_3_code
def yL_acts : MethodName := ⟨RL, "acts", "(LFactLines;[J)I"⟩
abbrev cL_source : ByteArray := method_4_code
def yL_source : MethodName := ⟨RL, "source", "(LFactLines;I[J)I"⟩
abbrev cL_fact : ByteArray := method_5_code
def yL_fact : MethodName := ⟨RL, "fact", "(LFactLines;IIIII[J)I"⟩
abbrev cL_drop : ByteArray := method_6_code
def yL_drop : MethodName := ⟨RL, "drop", "(LFactLines;I[J)I"⟩
abbrev cL_hush : ByteArray := method_7_code
def yL_hush : MethodName := ⟨RL, "hush", "(LFactLines;IZ[J)I"⟩
abbrev cL_rank : ByteArray := method_8_code
def yL_rank : MethodName := ⟨RL, "rank", "(LFactLines;II[J)I"⟩
abbrev cL_cut : ByteArray := method_9_code
def yL_cut : MethodName := ⟨RL, "cut", "(LFactLines;II[J)I"⟩
abbrev cL_off : ByteArray := method_10_code
def yL_off : MethodName := ⟨RL, "off", "(LFactLines;I[J)I"⟩
abbrev cL_undo : ByteArray := method_11_code
def yL_undo : MethodName := ⟨RL, "undo", "(LFactLines;[J)I"⟩
abbrev cL_at : ByteArray := method_12_code
def yL_at : MethodName := ⟨RL, "at", "(LFactLines;II[J)I"⟩
abbrev cL_by : ByteArray := method_13_code
def yL_by : MethodName := ⟨RL, "by", "(LFactLines;III[J)I"⟩
abbrev cL_beneath : ByteArray := method_14_code
def yL_beneath : MethodName := ⟨RL, "beneath", "(LFactLines;III[J)I"⟩
abbrev cL_span : ByteArray := method_15_code
def yL_span : MethodName := ⟨RL, "span", "(LFactLines;III[J)I"⟩
abbrev cL_gap : ByteArray := method_16_code
def yL_gap : MethodName := ⟨RL, "gap", "(LFactLines;III[J)I"⟩
abbrev cL_lack : ByteArray := method_17_code
def yL_lack : MethodName := ⟨RL, "lack", "(LFactLines;III[J)I"⟩
abbrev cL_change : ByteArray := method_18_code
def yL_change : MethodName := ⟨RL, "change", "(LFactLines;IIZ[J)I"⟩
abbrev cL_run : ByteArray := method_19_code
def yL_run : MethodName := ⟨RL, "run", "(LFactLines;II[J)I"⟩
abbrev cL_first : ByteArray := method_20_code
def yL_first : MethodName := ⟨RL, "first", "(LFactLines;III[J)I"⟩
abbrev cL_told : ByteArray := method_21_code
def yL_told : MethodName := ⟨RL, "told", "(LFactLines;II[J)I"⟩
abbrev cL_how : ByteArray := method_22_code
def yL_how : MethodName := ⟨RL, "how", "(LFactLines;II[J)I"⟩
abbrev cL_heard : ByteArray := method_23_code
def yL_heard : MethodName := ⟨RL, "heard", "(LFactLines;II[J)I"⟩
abbrev cL_accord : ByteArray := method_24_code
def yL_accord : MethodName := ⟨RL, "accord", "(LFactLines;II[J)I"⟩
abbrev cL_together : ByteArray := method_25_code
def yL_together : MethodName := ⟨RL, "together", "(LFactLines;II[J)I"⟩
abbrev cL_thing : ByteArray := method_26_code
def yL_thing : MethodName := ⟨RL, "thing", "(LFactLines;II[J)I"⟩
abbrev cL_often : ByteArray := method_27_code
def yL_often : MethodName := ⟨RL, "often", "(LFactLines;II[J)I"⟩
abbrev cL_nearest : ByteArray := method_28_code
def yL_nearest : MethodName := ⟨RL, "nearest", "(LFactLines;II[J)I"⟩
abbrev cL_shared : ByteArray := method_29_code
def yL_shared : MethodName := ⟨RL, "shared", "(LFactLines;II[J)I"⟩
abbrev cL_rest : ByteArray := method_30_code
def yL_rest : MethodName := ⟨RL, "rest", "(LFactLines;II[J)I"⟩
abbrev cL_better : ByteArray := method_31_code
def yL_better : MethodName := ⟨RL, "better", "(LFactLines;II[J)I"⟩
abbrev cL_longest : ByteArray := method_32_code
def yL_longest : MethodName := ⟨RL, "longest", "(LFactLines;IZ[J)I"⟩
abbrev cL_pairs : ByteArray := method_33_code
def yL_pairs : MethodName := ⟨RL, "pairs", "(LFactLines;III[J)I"⟩
abbrev cL_early : ByteArray := method_34_code
def yL_early : MethodName := ⟨RL, "early", "(LFactLines;III[J)I"⟩
abbrev cL_law : ByteArray := code
def yL_law : MethodName := ⟨RL, "law", "([I)Z"⟩
abbrev vwCl : List vw_C := [(RX0, TX0, 4), (RX1, TX1, 11), (RX2, TX2, 10), (RX3, TX3, 6), (RX4, TX4, 11), (RX5, TX5, 6), (RX6, TX6, 15), (RX7, TX7, 30)]
