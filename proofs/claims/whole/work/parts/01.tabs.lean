-- ===== PART A: goes FIRST, ahead of the names: the tables' words, and 'selects' of the private methods out of them =====
/-- a private method of a class that the tables say can be made, by its rows of tables_1 -/
def lw_okq (q : MethodName × Nat) : Prop := (q.1.cls ≠ "java/lang/invoke/MethodHandle" ∧ q.1.cls ≠ "java/lang/invoke/VarHandle") ∧ Cond.instantiable q.1.cls q.2 ∈ tables_1 ∧ Cond.privateMethod q.1 ∈ tables_1 ∧ Cond.instanceMethod q.1 ∈ tables_1
theorem lw_p0 : lw_okq (⟨"RowDrawer$Lexicon", "leadsTo", "(II)Z"⟩, 2) := ⟨⟨by decide +kernel, by decide +kernel⟩, List.mem_of_getElem? (i := 36) (by decide +kernel), List.mem_of_getElem? (i := 402) (by decide +kernel), List.mem_of_getElem? (i := 403) (by decide +kernel)⟩
theorem lw_p1 : lw_okq (⟨"RowDrawer$Tokens", "add", "(II)V"⟩, 4) := ⟨⟨by decide +kernel, by decide +kernel⟩, List.mem_of_getElem? (i := 99) (by decide +kernel), List.mem_of_getElem? (i := 559) (by decide +kernel), List.mem_of_getElem? (i := 560) (by decide +kernel)⟩
theorem lw_p2 : lw_okq (⟨"RowDrawer$Reader", "readRule", "()V"⟩, 4) := ⟨⟨by decide +kernel, by decide +kernel⟩, List.mem_of_getElem? (i := 93) (by decide +kernel), List.mem_of_getElem? (i := 575) (by decide +kernel), List.mem_of_getElem? (i := 576) (by decide +kernel)⟩
theorem lw_p3 : lw_okq (⟨"RowDrawer$Reader", "fail", "(I)Z"⟩, 4) := ⟨⟨by decide +kernel, by decide +kernel⟩, List.mem_of_getElem? (i := 93) (by decide +kernel), List.mem_of_getElem? (i := 583) (by decide +kernel), List.mem_of_getElem? (i := 584) (by decide +kernel)⟩
theorem lw_p4 : lw_okq (⟨"RowDrawer$Reader", "readNumber", "(II)I"⟩, 4) := ⟨⟨by decide +kernel, by decide +kernel⟩, List.mem_of_getElem? (i := 93) (by decide +kernel), List.mem_of_getElem? (i := 595) (by decide +kernel), List.mem_of_getElem? (i := 596) (by decide +kernel)⟩
theorem lw_p5 : lw_okq (⟨"RowDrawer$Reader", "readSign", "(I)Z"⟩, 4) := ⟨⟨by decide +kernel, by decide +kernel⟩, List.mem_of_getElem? (i := 93) (by decide +kernel), List.mem_of_getElem? (i := 599) (by decide +kernel), List.mem_of_getElem? (i := 600) (by decide +kernel)⟩
theorem lw_p6 : lw_okq (⟨"RowDrawer$Reader", "readItem", "(I)Z"⟩, 4) := ⟨⟨by decide +kernel, by decide +kernel⟩, List.mem_of_getElem? (i := 93) (by decide +kernel), List.mem_of_getElem? (i := 607) (by decide +kernel), List.mem_of_getElem? (i := 608) (by decide +kernel)⟩
theorem lw_p7 : lw_okq (⟨"RowDrawer$Reader", "readSpec", "(I)Z"⟩, 4) := ⟨⟨by decide +kernel, by decide +kernel⟩, List.mem_of_getElem? (i := 93) (by decide +kernel), List.mem_of_getElem? (i := 622) (by decide +kernel), List.mem_of_getElem? (i := 623) (by decide +kernel)⟩
theorem lw_p8 : lw_okq (⟨"RowDrawer$Reader", "readBar", "()V"⟩, 4) := ⟨⟨by decide +kernel, by decide +kernel⟩, List.mem_of_getElem? (i := 93) (by decide +kernel), List.mem_of_getElem? (i := 630) (by decide +kernel), List.mem_of_getElem? (i := 631) (by decide +kernel)⟩
theorem lw_p9 : lw_okq (⟨"RowDrawer$Reader", "readChain", "()V"⟩, 4) := ⟨⟨by decide +kernel, by decide +kernel⟩, List.mem_of_getElem? (i := 93) (by decide +kernel), List.mem_of_getElem? (i := 642) (by decide +kernel), List.mem_of_getElem? (i := 643) (by decide +kernel)⟩
theorem lw_p10 : lw_okq (⟨"RowDrawer$Reader", "readSingle", "()V"⟩, 4) := ⟨⟨by decide +kernel, by decide +kernel⟩, List.mem_of_getElem? (i := 93) (by decide +kernel), List.mem_of_getElem? (i := 654) (by decide +kernel), List.mem_of_getElem? (i := 655) (by decide +kernel)⟩
theorem lw_p11 : lw_okq (⟨"RowDrawer$Finder", "drawSentence", "(I)V"⟩, 8) := ⟨⟨by decide +kernel, by decide +kernel⟩, List.mem_of_getElem? (i := 182) (by decide +kernel), List.mem_of_getElem? (i := 687) (by decide +kernel), List.mem_of_getElem? (i := 688) (by decide +kernel)⟩
theorem lw_p12 : lw_okq (⟨"RowDrawer$Finder", "clearSentence", "(I)V"⟩, 8) := ⟨⟨by decide +kernel, by decide +kernel⟩, List.mem_of_getElem? (i := 182) (by decide +kernel), List.mem_of_getElem? (i := 691) (by decide +kernel), List.mem_of_getElem? (i := 692) (by decide +kernel)⟩
theorem lw_p13 : lw_okq (⟨"RowDrawer$Finder", "hasBarredWord", "(I)Z"⟩, 8) := ⟨⟨by decide +kernel, by decide +kernel⟩, List.mem_of_getElem? (i := 182) (by decide +kernel), List.mem_of_getElem? (i := 696) (by decide +kernel), List.mem_of_getElem? (i := 697) (by decide +kernel)⟩
theorem lw_p14 : lw_okq (⟨"RowDrawer$Finder", "drawRule", "(II)V"⟩, 8) := ⟨⟨by decide +kernel, by decide +kernel⟩, List.mem_of_getElem? (i := 182) (by decide +kernel), List.mem_of_getElem? (i := 705) (by decide +kernel), List.mem_of_getElem? (i := 706) (by decide +kernel)⟩
theorem lw_p15 : lw_okq (⟨"RowDrawer$Finder", "fitItems", "(II)V"⟩, 8) := ⟨⟨by decide +kernel, by decide +kernel⟩, List.mem_of_getElem? (i := 182) (by decide +kernel), List.mem_of_getElem? (i := 721) (by decide +kernel), List.mem_of_getElem? (i := 722) (by decide +kernel)⟩
def lw_privs_1 : List (MethodName × Nat) := [(⟨"RowDrawer$Lexicon", "leadsTo", "(II)Z"⟩, 2), (⟨"RowDrawer$Tokens", "add", "(II)V"⟩, 4), (⟨"RowDrawer$Reader", "readRule", "()V"⟩, 4), (⟨"RowDrawer$Reader", "fail", "(I)Z"⟩, 4), (⟨"RowDrawer$Reader", "readNumber", "(II)I"⟩, 4), (⟨"RowDrawer$Reader", "readSign", "(I)Z"⟩, 4), (⟨"RowDrawer$Reader", "readItem", "(I)Z"⟩, 4), (⟨"RowDrawer$Reader", "readSpec", "(I)Z"⟩, 4), (⟨"RowDrawer$Reader", "readBar", "()V"⟩, 4), (⟨"RowDrawer$Reader", "readChain", "()V"⟩, 4), (⟨"RowDrawer$Reader", "readSingle", "()V"⟩, 4), (⟨"RowDrawer$Finder", "drawSentence", "(I)V"⟩, 8), (⟨"RowDrawer$Finder", "clearSentence", "(I)V"⟩, 8), (⟨"RowDrawer$Finder", "hasBarredWord", "(I)Z"⟩, 8), (⟨"RowDrawer$Finder", "drawRule", "(II)V"⟩, 8), (⟨"RowDrawer$Finder", "fitItems", "(II)V"⟩, 8)]
theorem lw_r1 : ∀ q ∈ lw_privs_1, lw_okq q := List.forall_mem_cons.mpr ⟨lw_p0, List.forall_mem_cons.mpr ⟨lw_p1, List.forall_mem_cons.mpr ⟨lw_p2, List.forall_mem_cons.mpr ⟨lw_p3, List.forall_mem_cons.mpr ⟨lw_p4, List.forall_mem_cons.mpr ⟨lw_p5, List.forall_mem_cons.mpr ⟨lw_p6, List.forall_mem_cons.mpr ⟨lw_p7, List.forall_mem_cons.mpr ⟨lw_p8, List.forall_mem_cons.mpr ⟨lw_p9, List.forall_mem_cons.mpr ⟨lw_p10, List.forall_mem_cons.mpr ⟨lw_p11, List.forall_mem_cons.mpr ⟨lw_p12, List.forall_mem_cons.mpr ⟨lw_p13, List.forall_mem_cons.mpr ⟨lw_p14, List.forall_mem_cons.mpr ⟨lw_p15, fun _ h => absurd h List.not_mem_nil⟩⟩⟩⟩⟩⟩⟩⟩⟩⟩⟩⟩⟩⟩⟩⟩
theorem lw_p16 : lw_okq (⟨"RowDrawer$Book", "hasItem", "(II)Z"⟩, 14) := ⟨⟨by decide +kernel, by decide +kernel⟩, List.mem_of_getElem? (i := 118) (by decide +kernel), List.mem_of_getElem? (i := 733) (by decide +kernel), List.mem_of_getElem? (i := 734) (by decide +kernel)⟩
theorem lw_p17 : lw_okq (⟨"RowDrawer$Finder", "placesOf", "(III)I"⟩, 8) := ⟨⟨by decide +kernel, by decide +kernel⟩, List.mem_of_getElem? (i := 182) (by decide +kernel), List.mem_of_getElem? (i := 741) (by decide +kernel), List.mem_of_getElem? (i := 742) (by decide +kernel)⟩
theorem lw_p18 : lw_okq (⟨"RowDrawer$Finder", "forward", "(IIII)I"⟩, 8) := ⟨⟨by decide +kernel, by decide +kernel⟩, List.mem_of_getElem? (i := 182) (by decide +kernel), List.mem_of_getElem? (i := 755) (by decide +kernel), List.mem_of_getElem? (i := 756) (by decide +kernel)⟩
theorem lw_p19 : lw_okq (⟨"RowDrawer$Finder", "backward", "(III)I"⟩, 8) := ⟨⟨by decide +kernel, by decide +kernel⟩, List.mem_of_getElem? (i := 182) (by decide +kernel), List.mem_of_getElem? (i := 759) (by decide +kernel), List.mem_of_getElem? (i := 760) (by decide +kernel)⟩
theorem lw_p20 : lw_okq (⟨"RowDrawer$Finder", "keepPairs", "(IIIZ)V"⟩, 8) := ⟨⟨by decide +kernel, by decide +kernel⟩, List.mem_of_getElem? (i := 182) (by decide +kernel), List.mem_of_getElem? (i := 763) (by decide +kernel), List.mem_of_getElem? (i := 764) (by decide +kernel)⟩
theorem lw_p21 : lw_okq (⟨"RowDrawer$Finder", "countPairs", "(II)I"⟩, 8) := ⟨⟨by decide +kernel, by decide +kernel⟩, List.mem_of_getElem? (i := 182) (by decide +kernel), List.mem_of_getElem? (i := 767) (by decide +kernel), List.mem_of_getElem? (i := 768) (by decide +kernel)⟩
theorem lw_p22 : lw_okq (⟨"RowDrawer$Finder", "tellWithin", "(IIII)I"⟩, 8) := ⟨⟨by decide +kernel, by decide +kernel⟩, List.mem_of_getElem? (i := 182) (by decide +kernel), List.mem_of_getElem? (i := 793) (by decide +kernel), List.mem_of_getElem? (i := 794) (by decide +kernel)⟩
theorem lw_p23 : lw_okq (⟨"RowDrawer$Finder", "part", "(IIIII)I"⟩, 8) := ⟨⟨by decide +kernel, by decide +kernel⟩, List.mem_of_getElem? (i := 182) (by decide +kernel), List.mem_of_getElem? (i := 801) (by decide +kernel), List.mem_of_getElem? (i := 802) (by decide +kernel)⟩
theorem lw_p24 : lw_okq (⟨"RowDrawer$Table", "addFindsOf", "(I)V"⟩, 7) := ⟨⟨by decide +kernel, by decide +kernel⟩, List.mem_of_getElem? (i := 213) (by decide +kernel), List.mem_of_getElem? (i := 827) (by decide +kernel), List.mem_of_getElem? (i := 828) (by decide +kernel)⟩
theorem lw_p25 : lw_okq (⟨"RowDrawer$Table", "nameAt", "(II)I"⟩, 7) := ⟨⟨by decide +kernel, by decide +kernel⟩, List.mem_of_getElem? (i := 213) (by decide +kernel), List.mem_of_getElem? (i := 834) (by decide +kernel), List.mem_of_getElem? (i := 835) (by decide +kernel)⟩
theorem lw_p26 : lw_okq (⟨"RowDrawer$Table", "addRow", "(III)V"⟩, 7) := ⟨⟨by decide +kernel, by decide +kernel⟩, List.mem_of_getElem? (i := 213) (by decide +kernel), List.mem_of_getElem? (i := 843) (by decide +kernel), List.mem_of_getElem? (i := 844) (by decide +kernel)⟩
theorem lw_p27 : lw_okq (⟨"RowDrawer$Table", "followChains", "()V"⟩, 7) := ⟨⟨by decide +kernel, by decide +kernel⟩, List.mem_of_getElem? (i := 213) (by decide +kernel), List.mem_of_getElem? (i := 849) (by decide +kernel), List.mem_of_getElem? (i := 850) (by decide +kernel)⟩
theorem lw_p28 : lw_okq (⟨"RowDrawer$Table", "followChain", "(III)Z"⟩, 7) := ⟨⟨by decide +kernel, by decide +kernel⟩, List.mem_of_getElem? (i := 213) (by decide +kernel), List.mem_of_getElem? (i := 867) (by decide +kernel), List.mem_of_getElem? (i := 868) (by decide +kernel)⟩
theorem lw_p29 : lw_okq (⟨"RowDrawer$Table", "degree", "(II)I"⟩, 7) := ⟨⟨by decide +kernel, by decide +kernel⟩, List.mem_of_getElem? (i := 213) (by decide +kernel), List.mem_of_getElem? (i := 871) (by decide +kernel), List.mem_of_getElem? (i := 872) (by decide +kernel)⟩
theorem lw_p30 : lw_okq (⟨"RowDrawer$Table", "followFrom", "(IIII)Z"⟩, 7) := ⟨⟨by decide +kernel, by decide +kernel⟩, List.mem_of_getElem? (i := 213) (by decide +kernel), List.mem_of_getElem? (i := 881) (by decide +kernel), List.mem_of_getElem? (i := 882) (by decide +kernel)⟩
theorem lw_p31 : lw_okq (⟨"RowDrawer$Table", "hasRow", "(III)Z"⟩, 7) := ⟨⟨by decide +kernel, by decide +kernel⟩, List.mem_of_getElem? (i := 213) (by decide +kernel), List.mem_of_getElem? (i := 885) (by decide +kernel), List.mem_of_getElem? (i := 886) (by decide +kernel)⟩
def lw_privs_2 : List (MethodName × Nat) := [(⟨"RowDrawer$Book", "hasItem", "(II)Z"⟩, 14), (⟨"RowDrawer$Finder", "placesOf", "(III)I"⟩, 8), (⟨"RowDrawer$Finder", "forward", "(IIII)I"⟩, 8), (⟨"RowDrawer$Finder", "backward", "(III)I"⟩, 8), (⟨"RowDrawer$Finder", "keepPairs", "(IIIZ)V"⟩, 8), (⟨"RowDrawer$Finder", "countPairs", "(II)I"⟩, 8), (⟨"RowDrawer$Finder", "tellWithin", "(IIII)I"⟩, 8), (⟨"RowDrawer$Finder", "part", "(IIIII)I"⟩, 8), (⟨"RowDrawer$Table", "addFindsOf", "(I)V"⟩, 7), (⟨"RowDrawer$Table", "nameAt", "(II)I"⟩, 7), (⟨"RowDrawer$Table", "addRow", "(III)V"⟩, 7), (⟨"RowDrawer$Table", "followChains", "()V"⟩, 7), (⟨"RowDrawer$Table", "followChain", "(III)Z"⟩, 7), (⟨"RowDrawer$Table", "degree", "(II)I"⟩, 7), (⟨"RowDrawer$Table", "followFrom", "(IIII)Z"⟩, 7), (⟨"RowDrawer$Table", "hasRow", "(III)Z"⟩, 7)]
theorem lw_r2 : ∀ q ∈ lw_privs_2, lw_okq q := List.forall_mem_cons.mpr ⟨lw_p16, List.forall_mem_cons.mpr ⟨lw_p17, List.forall_mem_cons.mpr ⟨lw_p18, List.forall_mem_cons.mpr ⟨lw_p19, List.forall_mem_cons.mpr ⟨lw_p20, List.forall_mem_cons.mpr ⟨lw_p21, List.forall_mem_cons.mpr ⟨lw_p22, List.forall_mem_cons.mpr ⟨lw_p23, List.forall_mem_cons.mpr ⟨lw_p24, List.forall_mem_cons.mpr ⟨lw_p25, List.forall_mem_cons.mpr ⟨lw_p26, List.forall_mem_cons.mpr ⟨lw_p27, List.forall_mem_cons.mpr ⟨lw_p28, List.forall_mem_cons.mpr ⟨lw_p29, List.forall_mem_cons.mpr ⟨lw_p30, List.forall_mem_cons.mpr ⟨lw_p31, fun _ h => absurd h List.not_mem_nil⟩⟩⟩⟩⟩⟩⟩⟩⟩⟩⟩⟩⟩⟩⟩⟩
theorem lw_p32 : lw_okq (⟨"RowDrawer$Table", "secondName", "(III)I"⟩, 7) := ⟨⟨by decide +kernel, by decide +kernel⟩, List.mem_of_getElem? (i := 213) (by decide +kernel), List.mem_of_getElem? (i := 902) (by decide +kernel), List.mem_of_getElem? (i := 903) (by decide +kernel)⟩
theorem lw_p33 : lw_okq (⟨"RowDrawer$Marks", "indexOf", "(IIII)I"⟩, 9) := ⟨⟨by decide +kernel, by decide +kernel⟩, List.mem_of_getElem? (i := 242) (by decide +kernel), List.mem_of_getElem? (i := 928) (by decide +kernel), List.mem_of_getElem? (i := 929) (by decide +kernel)⟩
theorem lw_p34 : lw_okq (⟨"RowDrawer$BestSet", "tryFrom", "(IIJJ)V"⟩, 6) := ⟨⟨by decide +kernel, by decide +kernel⟩, List.mem_of_getElem? (i := 276) (by decide +kernel), List.mem_of_getElem? (i := 957) (by decide +kernel), List.mem_of_getElem? (i := 958) (by decide +kernel)⟩
theorem lw_p35 : lw_okq (⟨"RowDrawer$BestSet", "weigh", "(II)V"⟩, 6) := ⟨⟨by decide +kernel, by decide +kernel⟩, List.mem_of_getElem? (i := 276) (by decide +kernel), List.mem_of_getElem? (i := 962) (by decide +kernel), List.mem_of_getElem? (i := 963) (by decide +kernel)⟩
theorem lw_p36 : lw_okq (⟨"RowDrawer$Lesson", "begin", "(II)V"⟩, 8) := ⟨⟨by decide +kernel, by decide +kernel⟩, List.mem_of_getElem? (i := 301) (by decide +kernel), List.mem_of_getElem? (i := 981) (by decide +kernel), List.mem_of_getElem? (i := 982) (by decide +kernel)⟩
theorem lw_p37 : lw_okq (⟨"RowDrawer$Lesson", "wordAt", "(II)I"⟩, 8) := ⟨⟨by decide +kernel, by decide +kernel⟩, List.mem_of_getElem? (i := 301) (by decide +kernel), List.mem_of_getElem? (i := 997) (by decide +kernel), List.mem_of_getElem? (i := 998) (by decide +kernel)⟩
theorem lw_p38 : lw_okq (⟨"RowDrawer$Lesson", "isLike", "(I)Z"⟩, 8) := ⟨⟨by decide +kernel, by decide +kernel⟩, List.mem_of_getElem? (i := 301) (by decide +kernel), List.mem_of_getElem? (i := 1006) (by decide +kernel), List.mem_of_getElem? (i := 1007) (by decide +kernel)⟩
theorem lw_p39 : lw_okq (⟨"RowDrawer$Lesson", "widen", "(I)V"⟩, 8) := ⟨⟨by decide +kernel, by decide +kernel⟩, List.mem_of_getElem? (i := 301) (by decide +kernel), List.mem_of_getElem? (i := 1010) (by decide +kernel), List.mem_of_getElem? (i := 1011) (by decide +kernel)⟩
theorem lw_p40 : lw_okq (⟨"RowDrawer$Lesson", "roleOf", "(I)I"⟩, 8) := ⟨⟨by decide +kernel, by decide +kernel⟩, List.mem_of_getElem? (i := 301) (by decide +kernel), List.mem_of_getElem? (i := 1027) (by decide +kernel), List.mem_of_getElem? (i := 1028) (by decide +kernel)⟩
theorem lw_p41 : lw_okq (⟨"RowDrawer$Lesson", "standsAt", "(I)Z"⟩, 8) := ⟨⟨by decide +kernel, by decide +kernel⟩, List.mem_of_getElem? (i := 301) (by decide +kernel), List.mem_of_getElem? (i := 1039) (by decide +kernel), List.mem_of_getElem? (i := 1040) (by decide +kernel)⟩
theorem lw_p42 : lw_okq (⟨"java/lang/Throwable", "fillInStackTrace", "(I)Ljava/lang/Throwable;"⟩, 6) := ⟨⟨by decide +kernel, by decide +kernel⟩, List.mem_of_getElem? (i := 1109) (by decide +kernel), List.mem_of_getElem? (i := 1107) (by decide +kernel), List.mem_of_getElem? (i := 1108) (by decide +kernel)⟩
theorem lw_p43 : lw_okq (⟨"RowDrawerModel", "lay", "(J)V"⟩, 52) := ⟨⟨by decide +kernel, by decide +kernel⟩, List.mem_of_getElem? (i := 1161) (by decide +kernel), List.mem_of_getElem? (i := 1159) (by decide +kernel), List.mem_of_getElem? (i := 1160) (by decide +kernel)⟩
theorem lw_p44 : lw_okq (⟨"RowDrawerModel", "cutAll", "()V"⟩, 52) := ⟨⟨by decide +kernel, by decide +kernel⟩, List.mem_of_getElem? (i := 1161) (by decide +kernel), List.mem_of_getElem? (i := 1342) (by decide +kernel), List.mem_of_getElem? (i := 1343) (by decide +kernel)⟩
theorem lw_p45 : lw_okq (⟨"RowDrawerModel", "statement", "()V"⟩, 52) := ⟨⟨by decide +kernel, by decide +kernel⟩, List.mem_of_getElem? (i := 1161) (by decide +kernel), List.mem_of_getElem? (i := 1361) (by decide +kernel), List.mem_of_getElem? (i := 1362) (by decide +kernel)⟩
theorem lw_p46 : lw_okq (⟨"RowDrawerModel", "isWord", "(I)Z"⟩, 52) := ⟨⟨by decide +kernel, by decide +kernel⟩, List.mem_of_getElem? (i := 1161) (by decide +kernel), List.mem_of_getElem? (i := 1365) (by decide +kernel), List.mem_of_getElem? (i := 1366) (by decide +kernel)⟩
theorem lw_p47 : lw_okq (⟨"RowDrawerModel", "readRule", "()V"⟩, 52) := ⟨⟨by decide +kernel, by decide +kernel⟩, List.mem_of_getElem? (i := 1161) (by decide +kernel), List.mem_of_getElem? (i := 1369) (by decide +kernel), List.mem_of_getElem? (i := 1370) (by decide +kernel)⟩
def lw_privs_3 : List (MethodName × Nat) := [(⟨"RowDrawer$Table", "secondName", "(III)I"⟩, 7), (⟨"RowDrawer$Marks", "indexOf", "(IIII)I"⟩, 9), (⟨"RowDrawer$BestSet", "tryFrom", "(IIJJ)V"⟩, 6), (⟨"RowDrawer$BestSet", "weigh", "(II)V"⟩, 6), (⟨"RowDrawer$Lesson", "begin", "(II)V"⟩, 8), (⟨"RowDrawer$Lesson", "wordAt", "(II)I"⟩, 8), (⟨"RowDrawer$Lesson", "isLike", "(I)Z"⟩, 8), (⟨"RowDrawer$Lesson", "widen", "(I)V"⟩, 8), (⟨"RowDrawer$Lesson", "roleOf", "(I)I"⟩, 8), (⟨"RowDrawer$Lesson", "standsAt", "(I)Z"⟩, 8), (⟨"java/lang/Throwable", "fillInStackTrace", "(I)Ljava/lang/Throwable;"⟩, 6), (⟨"RowDrawerModel", "lay", "(J)V"⟩, 52), (⟨"RowDrawerModel", "cutAll", "()V"⟩, 52), (⟨"RowDrawerModel", "statement", "()V"⟩, 52), (⟨"RowDrawerModel", "isWord", "(I)Z"⟩, 52), (⟨"RowDrawerModel", "readRule", "()V"⟩, 52)]
theorem lw_r3 : ∀ q ∈ lw_privs_3, lw_okq q := List.forall_mem_cons.mpr ⟨lw_p32, List.forall_mem_cons.mpr ⟨lw_p33, List.forall_mem_cons.mpr ⟨lw_p34, List.forall_mem_cons.mpr ⟨lw_p35, List.forall_mem_cons.mpr ⟨lw_p36, List.forall_mem_cons.mpr ⟨lw_p37, List.forall_mem_cons.mpr ⟨lw_p38, List.forall_mem_cons.mpr ⟨lw_p39, List.forall_mem_cons.mpr ⟨lw_p40, List.forall_mem_cons.mpr ⟨lw_p41, List.forall_mem_cons.mpr ⟨lw_p42, List.forall_mem_cons.mpr ⟨lw_p43, List.forall_mem_cons.mpr ⟨lw_p44, List.forall_mem_cons.mpr ⟨lw_p45, List.forall_mem_cons.mpr ⟨lw_p46, List.forall_mem_cons.mpr ⟨lw_p47, fun _ h => absurd h List.not_mem_nil⟩⟩⟩⟩⟩⟩⟩⟩⟩⟩⟩⟩⟩⟩⟩⟩
theorem lw_p48 : lw_okq (⟨"RowDrawerModel", "wrong", "(I)V"⟩, 52) := ⟨⟨by decide +kernel, by decide +kernel⟩, List.mem_of_getElem? (i := 1161) (by decide +kernel), List.mem_of_getElem? (i := 1373) (by decide +kernel), List.mem_of_getElem? (i := 1374) (by decide +kernel)⟩
theorem lw_p49 : lw_okq (⟨"RowDrawerModel", "takeNumber", "(II)I"⟩, 52) := ⟨⟨by decide +kernel, by decide +kernel⟩, List.mem_of_getElem? (i := 1161) (by decide +kernel), List.mem_of_getElem? (i := 1377) (by decide +kernel), List.mem_of_getElem? (i := 1378) (by decide +kernel)⟩
theorem lw_p50 : lw_okq (⟨"RowDrawerModel", "takeSign", "(I)V"⟩, 52) := ⟨⟨by decide +kernel, by decide +kernel⟩, List.mem_of_getElem? (i := 1161) (by decide +kernel), List.mem_of_getElem? (i := 1381) (by decide +kernel), List.mem_of_getElem? (i := 1382) (by decide +kernel)⟩
theorem lw_p51 : lw_okq (⟨"RowDrawerModel", "isSign", "(I)Z"⟩, 52) := ⟨⟨by decide +kernel, by decide +kernel⟩, List.mem_of_getElem? (i := 1161) (by decide +kernel), List.mem_of_getElem? (i := 1385) (by decide +kernel), List.mem_of_getElem? (i := 1386) (by decide +kernel)⟩
theorem lw_p52 : lw_okq (⟨"RowDrawerModel", "item", "(I)V"⟩, 52) := ⟨⟨by decide +kernel, by decide +kernel⟩, List.mem_of_getElem? (i := 1161) (by decide +kernel), List.mem_of_getElem? (i := 1389) (by decide +kernel), List.mem_of_getElem? (i := 1390) (by decide +kernel)⟩
theorem lw_p53 : lw_okq (⟨"RowDrawerModel", "isItem", "()Z"⟩, 52) := ⟨⟨by decide +kernel, by decide +kernel⟩, List.mem_of_getElem? (i := 1161) (by decide +kernel), List.mem_of_getElem? (i := 1393) (by decide +kernel), List.mem_of_getElem? (i := 1394) (by decide +kernel)⟩
theorem lw_p54 : lw_okq (⟨"RowDrawerModel", "spec", "(I)V"⟩, 52) := ⟨⟨by decide +kernel, by decide +kernel⟩, List.mem_of_getElem? (i := 1161) (by decide +kernel), List.mem_of_getElem? (i := 1397) (by decide +kernel), List.mem_of_getElem? (i := 1398) (by decide +kernel)⟩
theorem lw_p55 : lw_okq (⟨"RowDrawerModel", "hasWord", "(I)Z"⟩, 52) := ⟨⟨by decide +kernel, by decide +kernel⟩, List.mem_of_getElem? (i := 1161) (by decide +kernel), List.mem_of_getElem? (i := 1401) (by decide +kernel), List.mem_of_getElem? (i := 1402) (by decide +kernel)⟩
theorem lw_p56 : lw_okq (⟨"RowDrawerModel", "takeWord", "(I)V"⟩, 52) := ⟨⟨by decide +kernel, by decide +kernel⟩, List.mem_of_getElem? (i := 1161) (by decide +kernel), List.mem_of_getElem? (i := 1405) (by decide +kernel), List.mem_of_getElem? (i := 1406) (by decide +kernel)⟩
theorem lw_p57 : lw_okq (⟨"RowDrawerModel", "readChain", "()V"⟩, 52) := ⟨⟨by decide +kernel, by decide +kernel⟩, List.mem_of_getElem? (i := 1161) (by decide +kernel), List.mem_of_getElem? (i := 1409) (by decide +kernel), List.mem_of_getElem? (i := 1410) (by decide +kernel)⟩
theorem lw_p58 : lw_okq (⟨"RowDrawerModel", "nameOf", "(I)I"⟩, 52) := ⟨⟨by decide +kernel, by decide +kernel⟩, List.mem_of_getElem? (i := 1161) (by decide +kernel), List.mem_of_getElem? (i := 1428) (by decide +kernel), List.mem_of_getElem? (i := 1429) (by decide +kernel)⟩
theorem lw_p59 : lw_okq (⟨"RowDrawerModel", "isThere", "(I)Z"⟩, 52) := ⟨⟨by decide +kernel, by decide +kernel⟩, List.mem_of_getElem? (i := 1161) (by decide +kernel), List.mem_of_getElem? (i := 1444) (by decide +kernel), List.mem_of_getElem? (i := 1445) (by decide +kernel)⟩
theorem lw_p60 : lw_okq (⟨"RowDrawerModel", "findAll", "()V"⟩, 52) := ⟨⟨by decide +kernel, by decide +kernel⟩, List.mem_of_getElem? (i := 1161) (by decide +kernel), List.mem_of_getElem? (i := 1452) (by decide +kernel), List.mem_of_getElem? (i := 1453) (by decide +kernel)⟩
theorem lw_p61 : lw_okq (⟨"RowDrawerModel", "matches", "(II)V"⟩, 52) := ⟨⟨by decide +kernel, by decide +kernel⟩, List.mem_of_getElem? (i := 1161) (by decide +kernel), List.mem_of_getElem? (i := 1456) (by decide +kernel), List.mem_of_getElem? (i := 1457) (by decide +kernel)⟩
theorem lw_p62 : lw_okq (⟨"RowDrawerModel", "goes", "(IIII)V"⟩, 52) := ⟨⟨by decide +kernel, by decide +kernel⟩, List.mem_of_getElem? (i := 1161) (by decide +kernel), List.mem_of_getElem? (i := 1460) (by decide +kernel), List.mem_of_getElem? (i := 1461) (by decide +kernel)⟩
theorem lw_p63 : lw_okq (⟨"RowDrawerModel", "fits", "(III)Z"⟩, 52) := ⟨⟨by decide +kernel, by decide +kernel⟩, List.mem_of_getElem? (i := 1161) (by decide +kernel), List.mem_of_getElem? (i := 1464) (by decide +kernel), List.mem_of_getElem? (i := 1465) (by decide +kernel)⟩
def lw_privs_4 : List (MethodName × Nat) := [(⟨"RowDrawerModel", "wrong", "(I)V"⟩, 52), (⟨"RowDrawerModel", "takeNumber", "(II)I"⟩, 52), (⟨"RowDrawerModel", "takeSign", "(I)V"⟩, 52), (⟨"RowDrawerModel", "isSign", "(I)Z"⟩, 52), (⟨"RowDrawerModel", "item", "(I)V"⟩, 52), (⟨"RowDrawerModel", "isItem", "()Z"⟩, 52), (⟨"RowDrawerModel", "spec", "(I)V"⟩, 52), (⟨"RowDrawerModel", "hasWord", "(I)Z"⟩, 52), (⟨"RowDrawerModel", "takeWord", "(I)V"⟩, 52), (⟨"RowDrawerModel", "readChain", "()V"⟩, 52), (⟨"RowDrawerModel", "nameOf", "(I)I"⟩, 52), (⟨"RowDrawerModel", "isThere", "(I)Z"⟩, 52), (⟨"RowDrawerModel", "findAll", "()V"⟩, 52), (⟨"RowDrawerModel", "matches", "(II)V"⟩, 52), (⟨"RowDrawerModel", "goes", "(IIII)V"⟩, 52), (⟨"RowDrawerModel", "fits", "(III)Z"⟩, 52)]
theorem lw_r4 : ∀ q ∈ lw_privs_4, lw_okq q := List.forall_mem_cons.mpr ⟨lw_p48, List.forall_mem_cons.mpr ⟨lw_p49, List.forall_mem_cons.mpr ⟨lw_p50, List.forall_mem_cons.mpr ⟨lw_p51, List.forall_mem_cons.mpr ⟨lw_p52, List.forall_mem_cons.mpr ⟨lw_p53, List.forall_mem_cons.mpr ⟨lw_p54, List.forall_mem_cons.mpr ⟨lw_p55, List.forall_mem_cons.mpr ⟨lw_p56, List.forall_mem_cons.mpr ⟨lw_p57, List.forall_mem_cons.mpr ⟨lw_p58, List.forall_mem_cons.mpr ⟨lw_p59, List.forall_mem_cons.mpr ⟨lw_p60, List.forall_mem_cons.mpr ⟨lw_p61, List.forall_mem_cons.mpr ⟨lw_p62, List.forall_mem_cons.mpr ⟨lw_p63, fun _ h => absurd h List.not_mem_nil⟩⟩⟩⟩⟩⟩⟩⟩⟩⟩⟩⟩⟩⟩⟩⟩
theorem lw_p64 : lw_okq (⟨"RowDrawerModel", "isBarred", "(I)Z"⟩, 52) := ⟨⟨by decide +kernel, by decide +kernel⟩, List.mem_of_getElem? (i := 1161) (by decide +kernel), List.mem_of_getElem? (i := 1475) (by decide +kernel), List.mem_of_getElem? (i := 1476) (by decide +kernel)⟩
theorem lw_p65 : lw_okq (⟨"RowDrawerModel", "findRows", "()V"⟩, 52) := ⟨⟨by decide +kernel, by decide +kernel⟩, List.mem_of_getElem? (i := 1161) (by decide +kernel), List.mem_of_getElem? (i := 1486) (by decide +kernel), List.mem_of_getElem? (i := 1487) (by decide +kernel)⟩
theorem lw_p66 : lw_okq (⟨"RowDrawerModel", "joins", "(III)Z"⟩, 52) := ⟨⟨by decide +kernel, by decide +kernel⟩, List.mem_of_getElem? (i := 1161) (by decide +kernel), List.mem_of_getElem? (i := 1490) (by decide +kernel), List.mem_of_getElem? (i := 1491) (by decide +kernel)⟩
theorem lw_p67 : lw_okq (⟨"RowDrawerModel", "caught", "(IZ)I"⟩, 52) := ⟨⟨by decide +kernel, by decide +kernel⟩, List.mem_of_getElem? (i := 1161) (by decide +kernel), List.mem_of_getElem? (i := 1510) (by decide +kernel), List.mem_of_getElem? (i := 1511) (by decide +kernel)⟩
theorem lw_p68 : lw_okq (⟨"RowDrawerModel", "catchesMark", "(II)Z"⟩, 52) := ⟨⟨by decide +kernel, by decide +kernel⟩, List.mem_of_getElem? (i := 1161) (by decide +kernel), List.mem_of_getElem? (i := 1514) (by decide +kernel), List.mem_of_getElem? (i := 1515) (by decide +kernel)⟩
theorem lw_p69 : lw_okq (⟨"RowDrawerModel", "wordAt", "(II)I"⟩, 52) := ⟨⟨by decide +kernel, by decide +kernel⟩, List.mem_of_getElem? (i := 1161) (by decide +kernel), List.mem_of_getElem? (i := 1529) (by decide +kernel), List.mem_of_getElem? (i := 1530) (by decide +kernel)⟩
theorem lw_p70 : lw_okq (⟨"RowDrawerModel", "isLike", "(III)Z"⟩, 52) := ⟨⟨by decide +kernel, by decide +kernel⟩, List.mem_of_getElem? (i := 1161) (by decide +kernel), List.mem_of_getElem? (i := 1536) (by decide +kernel), List.mem_of_getElem? (i := 1537) (by decide +kernel)⟩
theorem lw_p71 : lw_okq (⟨"RowDrawerModel", "barredFinds", "()I"⟩, 52) := ⟨⟨by decide +kernel, by decide +kernel⟩, List.mem_of_getElem? (i := 1161) (by decide +kernel), List.mem_of_getElem? (i := 1552) (by decide +kernel), List.mem_of_getElem? (i := 1553) (by decide +kernel)⟩
def lw_privs_5 : List (MethodName × Nat) := [(⟨"RowDrawerModel", "isBarred", "(I)Z"⟩, 52), (⟨"RowDrawerModel", "findRows", "()V"⟩, 52), (⟨"RowDrawerModel", "joins", "(III)Z"⟩, 52), (⟨"RowDrawerModel", "caught", "(IZ)I"⟩, 52), (⟨"RowDrawerModel", "catchesMark", "(II)Z"⟩, 52), (⟨"RowDrawerModel", "wordAt", "(II)I"⟩, 52), (⟨"RowDrawerModel", "isLike", "(III)Z"⟩, 52), (⟨"RowDrawerModel", "barredFinds", "()I"⟩, 52)]
theorem lw_r5 : ∀ q ∈ lw_privs_5, lw_okq q := List.forall_mem_cons.mpr ⟨lw_p64, List.forall_mem_cons.mpr ⟨lw_p65, List.forall_mem_cons.mpr ⟨lw_p66, List.forall_mem_cons.mpr ⟨lw_p67, List.forall_mem_cons.mpr ⟨lw_p68, List.forall_mem_cons.mpr ⟨lw_p69, List.forall_mem_cons.mpr ⟨lw_p70, List.forall_mem_cons.mpr ⟨lw_p71, fun _ h => absurd h List.not_mem_nil⟩⟩⟩⟩⟩⟩⟩⟩
def lw_privs : List (MethodName × Nat) := lw_privs_1 ++ (lw_privs_2 ++ (lw_privs_3 ++ (lw_privs_4 ++ (lw_privs_5))))
def lw_tbl : List Cond := k2_sels lw_privs ++ tables_1
theorem lw_privs_ok : ∀ q ∈ lw_privs, lw_okq q := by
  show ∀ q ∈ lw_privs_1 ++ (lw_privs_2 ++ (lw_privs_3 ++ (lw_privs_4 ++ (lw_privs_5)))), lw_okq q
  exact List.forall_mem_append.mpr ⟨lw_r1, List.forall_mem_append.mpr ⟨lw_r2, List.forall_mem_append.mpr ⟨lw_r3, List.forall_mem_append.mpr ⟨lw_r4, lw_r5⟩⟩⟩⟩
def RX0 : String := "RowDrawer$BestSet"
def TX0 : u_T := fun k => match k with
  | 0 => ("RowDrawer$BestSet", "rightCaught", "[J", true)
  | 1 => ("RowDrawer$BestSet", "wrongCaught", "[J", true)
  | 2 => ("RowDrawer$BestSet", "rules", "I", false)
  | 3 => ("RowDrawer$BestSet", "wrongAtMost", "I", false)
  | 4 => ("RowDrawer$BestSet", "bestSet", "I", false)
  | _ => ("RowDrawer$BestSet", "bestCaught", "I", false)
def tyX0 : Nat → FieldType := fun k => match k with
  | 0 => .array .long
  | 1 => .array .long
  | 2 => .int
  | 3 => .int
  | 4 => .int
  | _ => .int
abbrev wsX00 : List Cond := u_ws RX0 TX0 6
theorem nmX0 : ∀ a, a < 6 → ∀ b, b < 6 → a ≠ b → (TX0 a).2.1 ≠ (TX0 b).2.1 := by decide +kernel
theorem tyX0_ok : ∀ k, k < 6 → parseFieldDescriptor (TX0 k).2.2.1 = some (tyX0 k) := by decide +kernel
def RX1 : String := "RowDrawer$Book"
def TX1 : u_T := fun k => match k with
  | 0 => ("RowDrawer$Book", "rules", "I", false)
  | 1 => ("RowDrawer$Book", "relations", "[I", true)
  | 2 => ("RowDrawer$Book", "items", "[I", true)
  | 3 => ("RowDrawer$Book", "lefts", "[I", true)
  | 4 => ("RowDrawer$Book", "rights", "[I", true)
  | 5 => ("RowDrawer$Book", "kinds", "[I", true)
  | 6 => ("RowDrawer$Book", "numbers", "[I", true)
  | 7 => ("RowDrawer$Book", "bars", "I", false)
  | 8 => ("RowDrawer$Book", "barWords", "[I", true)
  | 9 => ("RowDrawer$Book", "chains", "I", false)
  | 10 => ("RowDrawer$Book", "chainGoals", "[I", true)
  | 11 => ("RowDrawer$Book", "chainFirsts", "[I", true)
  | 12 => ("RowDrawer$Book", "chainSeconds", "[I", true)
  | _ => ("RowDrawer$Book", "singles", "I", false)
def tyX1 : Nat → FieldType := fun k => match k with
  | 0 => .int
  | 1 => .array .int
  | 2 => .array .int
  | 3 => .array .int
  | 4 => .array .int
  | 5 => .array .int
  | 6 => .array .int
  | 7 => .int
  | 8 => .array .int
  | 9 => .int
  | 10 => .array .int
  | 11 => .array .int
  | 12 => .array .int
  | _ => .int
abbrev wsX10 : List Cond := u_ws RX1 TX1 14
theorem nmX1 : ∀ a, a < 14 → ∀ b, b < 14 → a ≠ b → (TX1 a).2.1 ≠ (TX1 b).2.1 := by decide +kernel
theorem tyX1_ok : ∀ k, k < 14 → parseFieldDescriptor (TX1 k).2.2.1 = some (tyX1 k) := by decide +kernel
def RX2 : String := "RowDrawer$Finder"
def TX2 : u_T := fun k => match k with
  | 0 => ("RowDrawer$Finder", "lexicon", "LRowDrawer$Lexicon;", true)
  | 1 => ("RowDrawer$Finder", "sentences", "LRowDrawer$Sentences;", true)
  | 2 => ("RowDrawer$Finder", "book", "LRowDrawer$Book;", true)
  | 3 => ("RowDrawer$Finder", "rights", "[I", true)
  | 4 => ("RowDrawer$Finder", "counts", "[I", true)
  | 5 => ("RowDrawer$Finder", "barred", "[Z", true)
  | 6 => ("RowDrawer$Finder", "stale", "[Z", true)
  | _ => ("RowDrawer$Finder", "fitting", "[I", true)
def tyX2 : Nat → FieldType := fun k => match k with
  | 0 => .object "RowDrawer$Lexicon"
  | 1 => .object "RowDrawer$Sentences"
  | 2 => .object "RowDrawer$Book"
  | 3 => .array .int
  | 4 => .array .int
  | 5 => .array .boolean
  | 6 => .array .boolean
  | _ => .array .int
abbrev wsX20 : List Cond := u_ws RX2 TX2 8
theorem nmX2 : ∀ a, a < 8 → ∀ b, b < 8 → a ≠ b → (TX2 a).2.1 ≠ (TX2 b).2.1 := by decide +kernel
theorem tyX2_ok : ∀ k, k < 8 → parseFieldDescriptor (TX2 k).2.2.1 = some (tyX2 k) := by decide +kernel
def RX3 : String := "RowDrawer$Lesson"
def TX3 : u_T := fun k => match k with
  | 0 => ("RowDrawer$Lesson", "lexicon", "LRowDrawer$Lexicon;", true)
  | 1 => ("RowDrawer$Lesson", "sentences", "LRowDrawer$Sentences;", true)
  | 2 => ("RowDrawer$Lesson", "marks", "LRowDrawer$Marks;", true)
  | 3 => ("RowDrawer$Lesson", "kinds", "[I", true)
  | 4 => ("RowDrawer$Lesson", "numbers", "[I", true)
  | 5 => ("RowDrawer$Lesson", "specs", "I", false)
  | 6 => ("RowDrawer$Lesson", "relation", "I", false)
  | _ => ("RowDrawer$Lesson", "leftFirst", "Z", false)
def tyX3 : Nat → FieldType := fun k => match k with
  | 0 => .object "RowDrawer$Lexicon"
  | 1 => .object "RowDrawer$Sentences"
  | 2 => .object "RowDrawer$Marks"
  | 3 => .array .int
  | 4 => .array .int
  | 5 => .int
  | 6 => .int
  | _ => .boolean
abbrev wsX30 : List Cond := u_ws RX3 TX3 8
theorem nmX3 : ∀ a, a < 8 → ∀ b, b < 8 → a ≠ b → (TX3 a).2.1 ≠ (TX3 b).2.1 := by decide +kernel
theorem tyX3_ok : ∀ k, k < 8 → parseFieldDescriptor (TX3 k).2.2.1 = some (tyX3 k) := by decide +kernel
def RX4 : String := "RowDrawer$Lexicon"
def TX4 : u_T := fun k => match k with
  | 0 => ("RowDrawer$Lexicon", "sorts", "[I", true)
  | _ => ("RowDrawer$Lexicon", "joinedTo", "[I", true)
def tyX4 : Nat → FieldType := fun k => match k with
  | 0 => .array .int
  | _ => .array .int
abbrev wsX40 : List Cond := u_ws RX4 TX4 2
theorem nmX4 : ∀ a, a < 2 → ∀ b, b < 2 → a ≠ b → (TX4 a).2.1 ≠ (TX4 b).2.1 := by decide +kernel
theorem tyX4_ok : ∀ k, k < 2 → parseFieldDescriptor (TX4 k).2.2.1 = some (tyX4 k) := by decide +kernel
def RX5 : String := "RowDrawer$Marks"
def TX5 : u_T := fun k => match k with
  | 0 => ("RowDrawer$Marks", "sentences", "LRowDrawer$Sentences;", true)
  | 1 => ("RowDrawer$Marks", "book", "LRowDrawer$Book;", true)
  | 2 => ("RowDrawer$Marks", "finder", "LRowDrawer$Finder;", true)
  | 3 => ("RowDrawer$Marks", "markSentences", "[I", true)
  | 4 => ("RowDrawer$Marks", "lefts", "[I", true)
  | 5 => ("RowDrawer$Marks", "rights", "[I", true)
  | 6 => ("RowDrawer$Marks", "relations", "[I", true)
  | 7 => ("RowDrawer$Marks", "isRight", "[Z", true)
  | _ => ("RowDrawer$Marks", "size", "I", false)
def tyX5 : Nat → FieldType := fun k => match k with
  | 0 => .object "RowDrawer$Sentences"
  | 1 => .object "RowDrawer$Book"
  | 2 => .object "RowDrawer$Finder"
  | 3 => .array .int
  | 4 => .array .int
  | 5 => .array .int
  | 6 => .array .int
  | 7 => .array .boolean
  | _ => .int
abbrev wsX50 : List Cond := u_ws RX5 TX5 9
theorem nmX5 : ∀ a, a < 9 → ∀ b, b < 9 → a ≠ b → (TX5 a).2.1 ≠ (TX5 b).2.1 := by decide +kernel
theorem tyX5_ok : ∀ k, k < 9 → parseFieldDescriptor (TX5 k).2.2.1 = some (tyX5 k) := by decide +kernel
def RX6 : String := "RowDrawer$Reader"
def TX6 : u_T := fun k => match k with
  | 0 => ("RowDrawer$Reader", "tape", "LRowDrawer$Tape;", true)
  | 1 => ("RowDrawer$Reader", "tokens", "LRowDrawer$Tokens;", true)
  | 2 => ("RowDrawer$Reader", "draft", "LRowDrawer$Book;", true)
  | _ => ("RowDrawer$Reader", "fault", "I", false)
def tyX6 : Nat → FieldType := fun k => match k with
  | 0 => .object "RowDrawer$Tape"
  | 1 => .object "RowDrawer$Tokens"
  | 2 => .object "RowDrawer$Book"
  | _ => .int
abbrev wsX60 : List Cond := u_ws RX6 TX6 4
theorem nmX6 : ∀ a, a < 4 → ∀ b, b < 4 → a ≠ b → (TX6 a).2.1 ≠ (TX6 b).2.1 := by decide +kernel
theorem tyX6_ok : ∀ k, k < 4 → parseFieldDescriptor (TX6 k).2.2.1 = some (tyX6 k) := by decide +kernel
def RX7 : String := "RowDrawer$Sentences"
def TX7 : u_T := fun k => match k with
  | 0 => ("RowDrawer$Sentences", "words", "[I", true)
  | 1 => ("RowDrawer$Sentences", "lengths", "[I", true)
  | 2 => ("RowDrawer$Sentences", "there", "[Z", true)
  | 3 => ("RowDrawer$Sentences", "toldWords", "[I", true)
  | 4 => ("RowDrawer$Sentences", "told", "I", false)
  | 5 => ("RowDrawer$Sentences", "came", "I", false)
  | _ => ("RowDrawer$Sentences", "present", "I", false)
def tyX7 : Nat → FieldType := fun k => match k with
  | 0 => .array .int
  | 1 => .array .int
  | 2 => .array .boolean
  | 3 => .array .int
  | 4 => .int
  | 5 => .int
  | _ => .int
abbrev wsX70 : List Cond := u_ws RX7 TX7 7
theorem nmX7 : ∀ a, a < 7 → ∀ b, b < 7 → a ≠ b → (TX7 a).2.1 ≠ (TX7 b).2.1 := by decide +kernel
theorem tyX7_ok : ∀ k, k < 7 → parseFieldDescriptor (TX7 k).2.2.1 = some (tyX7 k) := by decide +kernel
def RX8 : String := "RowDrawer$Table"
def TX8 : u_T := fun k => match k with
  | 0 => ("RowDrawer$Table", "lexicon", "LRowDrawer$Lexicon;", true)
  | 1 => ("RowDrawer$Table", "sentences", "LRowDrawer$Sentences;", true)
  | 2 => ("RowDrawer$Table", "book", "LRowDrawer$Book;", true)
  | 3 => ("RowDrawer$Table", "finder", "LRowDrawer$Finder;", true)
  | 4 => ("RowDrawer$Table", "low", "[J", true)
  | 5 => ("RowDrawer$Table", "high", "[J", true)
  | _ => ("RowDrawer$Table", "stale", "Z", false)
def tyX8 : Nat → FieldType := fun k => match k with
  | 0 => .object "RowDrawer$Lexicon"
  | 1 => .object "RowDrawer$Sentences"
  | 2 => .object "RowDrawer$Book"
  | 3 => .object "RowDrawer$Finder"
  | 4 => .array .long
  | 5 => .array .long
  | _ => .boolean
abbrev wsX80 : List Cond := u_ws RX8 TX8 7
theorem nmX8 : ∀ a, a < 7 → ∀ b, b < 7 → a ≠ b → (TX8 a).2.1 ≠ (TX8 b).2.1 := by decide +kernel
theorem tyX8_ok : ∀ k, k < 7 → parseFieldDescriptor (TX8 k).2.2.1 = some (tyX8 k) := by decide +kernel
def RX9 : String := "RowDrawer$Tape"
def TX9 : u_T := fun k => match k with
  | 0 => ("RowDrawer$Tape", "signs", "[C", true)
  | _ => ("RowDrawer$Tape", "length", "I", false)
def tyX9 : Nat → FieldType := fun k => match k with
  | 0 => .array .char
  | _ => .int
abbrev wsX90 : List Cond := u_ws RX9 TX9 2
theorem nmX9 : ∀ a, a < 2 → ∀ b, b < 2 → a ≠ b → (TX9 a).2.1 ≠ (TX9 b).2.1 := by decide +kernel
theorem tyX9_ok : ∀ k, k < 2 → parseFieldDescriptor (TX9 k).2.2.1 = some (tyX9 k) := by decide +kernel
def RX10 : String := "RowDrawer$Tokens"
def TX10 : u_T := fun k => match k with
  | 0 => ("RowDrawer$Tokens", "codes", "[I", true)
  | 1 => ("RowDrawer$Tokens", "places", "[I", true)
  | 2 => ("RowDrawer$Tokens", "size", "I", false)
  | _ => ("RowDrawer$Tokens", "current", "I", false)
def tyX10 : Nat → FieldType := fun k => match k with
  | 0 => .array .int
  | 1 => .array .int
  | 2 => .int
  | _ => .int
abbrev wsX100 : List Cond := u_ws RX10 TX10 4
theorem nmX10 : ∀ a, a < 4 → ∀ b, b < 4 → a ≠ b → (TX10 a).2.1 ≠ (TX10 b).2.1 := by decide +kernel
theorem tyX10_ok : ∀ k, k < 4 → parseFieldDescriptor (TX10 k).2.2.1 = some (tyX10 k) := by decide +kernel
def RX11 : String := "RowDrawer"
def TX11 : u_T := fun k => match k with
  | 0 => ("RowDrawer", "lexicon", "LRowDrawer$Lexicon;", true)
  | 1 => ("RowDrawer", "sentences", "LRowDrawer$Sentences;", true)
  | 2 => ("RowDrawer", "tape", "LRowDrawer$Tape;", true)
  | 3 => ("RowDrawer", "reader", "LRowDrawer$Reader;", true)
  | 4 => ("RowDrawer", "book", "LRowDrawer$Book;", true)
  | 5 => ("RowDrawer", "finder", "LRowDrawer$Finder;", true)
  | 6 => ("RowDrawer", "table", "LRowDrawer$Table;", true)
  | 7 => ("RowDrawer", "marks", "LRowDrawer$Marks;", true)
  | 8 => ("RowDrawer", "chooser", "LRowDrawer$BestSet;", true)
  | _ => ("RowDrawer", "lesson", "LRowDrawer$Lesson;", true)
def tyX11 : Nat → FieldType := fun k => match k with
  | 0 => .object "RowDrawer$Lexicon"
  | 1 => .object "RowDrawer$Sentences"
  | 2 => .object "RowDrawer$Tape"
  | 3 => .object "RowDrawer$Reader"
  | 4 => .object "RowDrawer$Book"
  | 5 => .object "RowDrawer$Finder"
  | 6 => .object "RowDrawer$Table"
  | 7 => .object "RowDrawer$Marks"
  | 8 => .object "RowDrawer$BestSet"
  | _ => .object "RowDrawer$Lesson"
abbrev wsX110 : List Cond := u_ws RX11 TX11 10
theorem nmX11 : ∀ a, a < 10 → ∀ b, b < 10 → a ≠ b → (TX11 a).2.1 ≠ (TX11 b).2.1 := by decide +kernel
theorem tyX11_ok : ∀ k, k < 10 → parseFieldDescriptor (TX11 k).2.2.1 = some (tyX11 k) := by decide +kernel
def RX12 : String := "RowDrawerModel"
def TX12 : u_T := fun k => match k with
  | 0 => ("RowDrawerModel", "thrown", "I", false)
  | 1 => ("RowDrawerModel", "tape", "[I", true)
  | 2 => ("RowDrawerModel", "taped", "I", false)
  | 3 => ("RowDrawerModel", "size", "I", false)
  | 4 => ("RowDrawerModel", "sort", "[I", true)
  | 5 => ("RowDrawerModel", "place", "[I", true)
  | 6 => ("RowDrawerModel", "value", "[J", true)
  | 7 => ("RowDrawerModel", "at", "I", false)
  | 8 => ("RowDrawerModel", "fault", "I", false)
  | 9 => ("RowDrawerModel", "words", "[J", true)
  | 10 => ("RowDrawerModel", "holds", "I", false)
  | 11 => ("RowDrawerModel", "next", "I", false)
  | 12 => ("RowDrawerModel", "rules", "[I", true)
  | 13 => ("RowDrawerModel", "ruleOf", "[I", true)
  | 14 => ("RowDrawerModel", "items", "[I", true)
  | 15 => ("RowDrawerModel", "isSome", "[Z", true)
  | 16 => ("RowDrawerModel", "side", "[I", true)
  | 17 => ("RowDrawerModel", "kind", "[I", true)
  | 18 => ("RowDrawerModel", "number", "[I", true)
  | 19 => ("RowDrawerModel", "bars", "[I", true)
  | 20 => ("RowDrawerModel", "bar", "[I", true)
  | 21 => ("RowDrawerModel", "chains", "[I", true)
  | 22 => ("RowDrawerModel", "chain", "[I", true)
  | 23 => ("RowDrawerModel", "isSingle", "[Z", true)
  | 24 => ("RowDrawerModel", "hasLeft", "Z", false)
  | 25 => ("RowDrawerModel", "hasRight", "Z", false)
  | 26 => ("RowDrawerModel", "sorts", "[I", true)
  | 27 => ("RowDrawerModel", "joined", "[I", true)
  | 28 => ("RowDrawerModel", "waiting", "I", false)
  | 29 => ("RowDrawerModel", "draft", "[I", true)
  | 30 => ("RowDrawerModel", "sentences", "I", false)
  | 31 => ("RowDrawerModel", "length", "[I", true)
  | 32 => ("RowDrawerModel", "row", "[I", true)
  | 33 => ("RowDrawerModel", "isGone", "[Z", true)
  | 34 => ("RowDrawerModel", "isOld", "Z", false)
  | 35 => ("RowDrawerModel", "isFind", "[Z", true)
  | 36 => ("RowDrawerModel", "now", "[Z", true)
  | 37 => ("RowDrawerModel", "then", "[Z", true)
  | 38 => ("RowDrawerModel", "isRow", "[Z", true)
  | 39 => ("RowDrawerModel", "marks", "I", false)
  | 40 => ("RowDrawerModel", "markIn", "[I", true)
  | 41 => ("RowDrawerModel", "markLeft", "[I", true)
  | 42 => ("RowDrawerModel", "markRight", "[I", true)
  | 43 => ("RowDrawerModel", "markOf", "[I", true)
  | 44 => ("RowDrawerModel", "isGood", "[Z", true)
  | 45 => ("RowDrawerModel", "good", "[J", true)
  | 46 => ("RowDrawerModel", "bad", "[J", true)
  | 47 => ("RowDrawerModel", "specs", "I", false)
  | 48 => ("RowDrawerModel", "learntOf", "I", false)
  | 49 => ("RowDrawerModel", "learntFar", "I", false)
  | 50 => ("RowDrawerModel", "specKind", "[I", true)
  | _ => ("RowDrawerModel", "specNumber", "[I", true)
def tyX12 : Nat → FieldType := fun k => match k with
  | 0 => .int
  | 1 => .array .int
  | 2 => .int
  | 3 => .int
  | 4 => .array .int
  | 5 => .array .int
  | 6 => .array .long
  | 7 => .int
  | 8 => .int
  | 9 => .array .long
  | 10 => .int
  | 11 => .int
  | 12 => .array .int
  | 13 => .array .int
  | 14 => .array .int
  | 15 => .array .boolean
  | 16 => .array .int
  | 17 => .array .int
  | 18 => .array .int
  | 19 => .array .int
  | 20 => .array .int
  | 21 => .array .int
  | 22 => .array .int
  | 23 => .array .boolean
  | 24 => .boolean
  | 25 => .boolean
  | 26 => .array .int
  | 27 => .array .int
  | 28 => .int
  | 29 => .array .int
  | 30 => .int
  | 31 => .array .int
  | 32 => .array .int
  | 33 => .array .boolean
  | 34 => .boolean
  | 35 => .array .boolean
  | 36 => .array .boolean
  | 37 => .array .boolean
  | 38 => .array .boolean
  | 39 => .int
  | 40 => .array .int
  | 41 => .array .int
  | 42 => .array .int
  | 43 => .array .int
  | 44 => .array .boolean
  | 45 => .array .long
  | 46 => .array .long
  | 47 => .int
  | 48 => .int
  | 49 => .int
  | 50 => .array .int
  | _ => .array .int
abbrev wsX120 : List Cond := u_ws RX12 TX12 52
theorem nmX12 : ∀ a, a < 52 → ∀ b, b < 52 → a ≠ b → (TX12 a).2.1 ≠ (TX12 b).2.1 := by decide +kernel
theorem tyX12_ok : ∀ k, k < 52 → parseFieldDescriptor (TX12 k).2.2.1 = some (tyX12 k) := by decide +kernel
abbrev vwCl : List vw_C := [(RX0, TX0, 6), (RX1, TX1, 14), (RX2, TX2, 8), (RX3, TX3, 8), (RX4, TX4, 2), (RX5, TX5, 9), (RX6, TX6, 4), (RX7, TX7, 7), (RX8, TX8, 7), (RX9, TX9, 2), (RX10, TX10, 4), (RX11, TX11, 10), (RX12, TX12, 52)]
def TT : List Cond := lw_tbl.filter goodWord
theorem tt_at (i : Nat) {w : Cond} (h : lw_tbl[i]? = some w) (g : goodWord w = true) : w ∈ TT := List.mem_filter.mpr ⟨List.mem_of_getElem? h, g⟩
theorem tt_good {w : Cond} (h : w ∈ TT) : (w.onTables && w.keeps) = true ∨ ∃ ty, w = .arrayClass ty := good_of_word (List.mem_filter.mp h).2
set_option maxRecDepth 100000 in
theorem inX0 : ∀ w ∈ u_ws RX0 TX0 6, w ∈ TT := List.forall_mem_cons.mpr ⟨tt_at 359 rfl rfl, List.forall_mem_cons.mpr ⟨tt_at 361 rfl rfl, List.forall_mem_cons.mpr ⟨tt_at 363 rfl rfl, List.forall_mem_cons.mpr ⟨tt_at 365 rfl rfl, List.forall_mem_cons.mpr ⟨tt_at 367 rfl rfl, List.forall_mem_cons.mpr ⟨tt_at 369 rfl rfl, fun _ h => absurd h List.not_mem_nil⟩⟩⟩⟩⟩⟩
set_option maxRecDepth 100000 in
theorem inX1 : ∀ w ∈ u_ws RX1 TX1 14, w ∈ TT := List.forall_mem_cons.mpr ⟨tt_at 209 rfl rfl, List.forall_mem_cons.mpr ⟨tt_at 211 rfl rfl, List.forall_mem_cons.mpr ⟨tt_at 213 rfl rfl, List.forall_mem_cons.mpr ⟨tt_at 215 rfl rfl, List.forall_mem_cons.mpr ⟨tt_at 217 rfl rfl, List.forall_mem_cons.mpr ⟨tt_at 219 rfl rfl, List.forall_mem_cons.mpr ⟨tt_at 221 rfl rfl, List.forall_mem_cons.mpr ⟨tt_at 223 rfl rfl, List.forall_mem_cons.mpr ⟨tt_at 225 rfl rfl, List.forall_mem_cons.mpr ⟨tt_at 227 rfl rfl, List.forall_mem_cons.mpr ⟨tt_at 229 rfl rfl, List.forall_mem_cons.mpr ⟨tt_at 231 rfl rfl, List.forall_mem_cons.mpr ⟨tt_at 233 rfl rfl, List.forall_mem_cons.mpr ⟨tt_at 235 rfl rfl, fun _ h => absurd h List.not_mem_nil⟩⟩⟩⟩⟩⟩⟩⟩⟩⟩⟩⟩⟩⟩
set_option maxRecDepth 100000 in
theorem inX2 : ∀ w ∈ u_ws RX2 TX2 8, w ∈ TT := List.forall_mem_cons.mpr ⟨tt_at 267 rfl rfl, List.forall_mem_cons.mpr ⟨tt_at 269 rfl rfl, List.forall_mem_cons.mpr ⟨tt_at 271 rfl rfl, List.forall_mem_cons.mpr ⟨tt_at 273 rfl rfl, List.forall_mem_cons.mpr ⟨tt_at 275 rfl rfl, List.forall_mem_cons.mpr ⟨tt_at 277 rfl rfl, List.forall_mem_cons.mpr ⟨tt_at 279 rfl rfl, List.forall_mem_cons.mpr ⟨tt_at 281 rfl rfl, fun _ h => absurd h List.not_mem_nil⟩⟩⟩⟩⟩⟩⟩⟩
set_option maxRecDepth 100000 in
theorem inX3 : ∀ w ∈ u_ws RX3 TX3 8, w ∈ TT := List.forall_mem_cons.mpr ⟨tt_at 386 rfl rfl, List.forall_mem_cons.mpr ⟨tt_at 388 rfl rfl, List.forall_mem_cons.mpr ⟨tt_at 390 rfl rfl, List.forall_mem_cons.mpr ⟨tt_at 392 rfl rfl, List.forall_mem_cons.mpr ⟨tt_at 394 rfl rfl, List.forall_mem_cons.mpr ⟨tt_at 396 rfl rfl, List.forall_mem_cons.mpr ⟨tt_at 398 rfl rfl, List.forall_mem_cons.mpr ⟨tt_at 400 rfl rfl, fun _ h => absurd h List.not_mem_nil⟩⟩⟩⟩⟩⟩⟩⟩
set_option maxRecDepth 100000 in
theorem inX4 : ∀ w ∈ u_ws RX4 TX4 2, w ∈ TT := List.forall_mem_cons.mpr ⟨tt_at 115 rfl rfl, List.forall_mem_cons.mpr ⟨tt_at 117 rfl rfl, fun _ h => absurd h List.not_mem_nil⟩⟩
set_option maxRecDepth 100000 in
theorem inX5 : ∀ w ∈ u_ws RX5 TX5 9, w ∈ TT := List.forall_mem_cons.mpr ⟨tt_at 328 rfl rfl, List.forall_mem_cons.mpr ⟨tt_at 330 rfl rfl, List.forall_mem_cons.mpr ⟨tt_at 332 rfl rfl, List.forall_mem_cons.mpr ⟨tt_at 334 rfl rfl, List.forall_mem_cons.mpr ⟨tt_at 336 rfl rfl, List.forall_mem_cons.mpr ⟨tt_at 338 rfl rfl, List.forall_mem_cons.mpr ⟨tt_at 340 rfl rfl, List.forall_mem_cons.mpr ⟨tt_at 342 rfl rfl, List.forall_mem_cons.mpr ⟨tt_at 344 rfl rfl, fun _ h => absurd h List.not_mem_nil⟩⟩⟩⟩⟩⟩⟩⟩⟩
set_option maxRecDepth 100000 in
theorem inX6 : ∀ w ∈ u_ws RX6 TX6 4, w ∈ TT := List.forall_mem_cons.mpr ⟨tt_at 242 rfl rfl, List.forall_mem_cons.mpr ⟨tt_at 244 rfl rfl, List.forall_mem_cons.mpr ⟨tt_at 246 rfl rfl, List.forall_mem_cons.mpr ⟨tt_at 248 rfl rfl, fun _ h => absurd h List.not_mem_nil⟩⟩⟩⟩
set_option maxRecDepth 100000 in
theorem inX7 : ∀ w ∈ u_ws RX7 TX7 7, w ∈ TT := List.forall_mem_cons.mpr ⟨tt_at 134 rfl rfl, List.forall_mem_cons.mpr ⟨tt_at 136 rfl rfl, List.forall_mem_cons.mpr ⟨tt_at 138 rfl rfl, List.forall_mem_cons.mpr ⟨tt_at 140 rfl rfl, List.forall_mem_cons.mpr ⟨tt_at 142 rfl rfl, List.forall_mem_cons.mpr ⟨tt_at 144 rfl rfl, List.forall_mem_cons.mpr ⟨tt_at 146 rfl rfl, fun _ h => absurd h List.not_mem_nil⟩⟩⟩⟩⟩⟩⟩
set_option maxRecDepth 100000 in
theorem inX8 : ∀ w ∈ u_ws RX8 TX8 7, w ∈ TT := List.forall_mem_cons.mpr ⟨tt_at 297 rfl rfl, List.forall_mem_cons.mpr ⟨tt_at 299 rfl rfl, List.forall_mem_cons.mpr ⟨tt_at 301 rfl rfl, List.forall_mem_cons.mpr ⟨tt_at 303 rfl rfl, List.forall_mem_cons.mpr ⟨tt_at 305 rfl rfl, List.forall_mem_cons.mpr ⟨tt_at 307 rfl rfl, List.forall_mem_cons.mpr ⟨tt_at 309 rfl rfl, fun _ h => absurd h List.not_mem_nil⟩⟩⟩⟩⟩⟩⟩
set_option maxRecDepth 100000 in
theorem inX9 : ∀ w ∈ u_ws RX9 TX9 2, w ∈ TT := List.forall_mem_cons.mpr ⟨tt_at 158 rfl rfl, List.forall_mem_cons.mpr ⟨tt_at 160 rfl rfl, fun _ h => absurd h List.not_mem_nil⟩⟩
set_option maxRecDepth 100000 in
theorem inX10 : ∀ w ∈ u_ws RX10 TX10 4, w ∈ TT := List.forall_mem_cons.mpr ⟨tt_at 180 rfl rfl, List.forall_mem_cons.mpr ⟨tt_at 182 rfl rfl, List.forall_mem_cons.mpr ⟨tt_at 184 rfl rfl, List.forall_mem_cons.mpr ⟨tt_at 186 rfl rfl, fun _ h => absurd h List.not_mem_nil⟩⟩⟩⟩
set_option maxRecDepth 100000 in
theorem inX11 : ∀ w ∈ u_ws RX11 TX11 10, w ∈ TT := List.forall_mem_cons.mpr ⟨tt_at 413 rfl rfl, List.forall_mem_cons.mpr ⟨tt_at 415 rfl rfl, List.forall_mem_cons.mpr ⟨tt_at 417 rfl rfl, List.forall_mem_cons.mpr ⟨tt_at 419 rfl rfl, List.forall_mem_cons.mpr ⟨tt_at 421 rfl rfl, List.forall_mem_cons.mpr ⟨tt_at 423 rfl rfl, List.forall_mem_cons.mpr ⟨tt_at 425 rfl rfl, List.forall_mem_cons.mpr ⟨tt_at 427 rfl rfl, List.forall_mem_cons.mpr ⟨tt_at 429 rfl rfl, List.forall_mem_cons.mpr ⟨tt_at 431 rfl rfl, fun _ h => absurd h List.not_mem_nil⟩⟩⟩⟩⟩⟩⟩⟩⟩⟩
set_option maxRecDepth 100000 in
theorem inX12 : ∀ w ∈ u_ws RX12 TX12 52, w ∈ TT := List.forall_mem_cons.mpr ⟨tt_at 1304 rfl rfl, List.forall_mem_cons.mpr ⟨tt_at 1306 rfl rfl, List.forall_mem_cons.mpr ⟨tt_at 1308 rfl rfl, List.forall_mem_cons.mpr ⟨tt_at 1310 rfl rfl, List.forall_mem_cons.mpr ⟨tt_at 1312 rfl rfl, List.forall_mem_cons.mpr ⟨tt_at 1314 rfl rfl, List.forall_mem_cons.mpr ⟨tt_at 1316 rfl rfl, List.forall_mem_cons.mpr ⟨tt_at 1318 rfl rfl, List.forall_mem_cons.mpr ⟨tt_at 1320 rfl rfl, List.forall_mem_cons.mpr ⟨tt_at 1322 rfl rfl, List.forall_mem_cons.mpr ⟨tt_at 1324 rfl rfl, List.forall_mem_cons.mpr ⟨tt_at 1326 rfl rfl, List.forall_mem_cons.mpr ⟨tt_at 1328 rfl rfl, List.forall_mem_cons.mpr ⟨tt_at 1330 rfl rfl, List.forall_mem_cons.mpr ⟨tt_at 1332 rfl rfl, List.forall_mem_cons.mpr ⟨tt_at 1334 rfl rfl, List.forall_mem_cons.mpr ⟨tt_at 1336 rfl rfl, List.forall_mem_cons.mpr ⟨tt_at 1338 rfl rfl, List.forall_mem_cons.mpr ⟨tt_at 1340 rfl rfl, List.forall_mem_cons.mpr ⟨tt_at 1342 rfl rfl, List.forall_mem_cons.mpr ⟨tt_at 1344 rfl rfl, List.forall_mem_cons.mpr ⟨tt_at 1346 rfl rfl, List.forall_mem_cons.mpr ⟨tt_at 1348 rfl rfl, List.forall_mem_cons.mpr ⟨tt_at 1350 rfl rfl, List.forall_mem_cons.mpr ⟨tt_at 1352 rfl rfl, List.forall_mem_cons.mpr ⟨tt_at 1354 rfl rfl, List.forall_mem_cons.mpr ⟨tt_at 1356 rfl rfl, List.forall_mem_cons.mpr ⟨tt_at 1358 rfl rfl, List.forall_mem_cons.mpr ⟨tt_at 1360 rfl rfl, List.forall_mem_cons.mpr ⟨tt_at 1362 rfl rfl, List.forall_mem_cons.mpr ⟨tt_at 1364 rfl rfl, List.forall_mem_cons.mpr ⟨tt_at 1366 rfl rfl, List.forall_mem_cons.mpr ⟨tt_at 1368 rfl rfl, List.forall_mem_cons.mpr ⟨tt_at 1370 rfl rfl, List.forall_mem_cons.mpr ⟨tt_at 1372 rfl rfl, List.forall_mem_cons.mpr ⟨tt_at 1374 rfl rfl, List.forall_mem_cons.mpr ⟨tt_at 1376 rfl rfl, List.forall_mem_cons.mpr ⟨tt_at 1378 rfl rfl, List.forall_mem_cons.mpr ⟨tt_at 1380 rfl rfl, List.forall_mem_cons.mpr ⟨tt_at 1382 rfl rfl, List.forall_mem_cons.mpr ⟨tt_at 1384 rfl rfl, List.forall_mem_cons.mpr ⟨tt_at 1386 rfl rfl, List.forall_mem_cons.mpr ⟨tt_at 1388 rfl rfl, List.forall_mem_cons.mpr ⟨tt_at 1390 rfl rfl, List.forall_mem_cons.mpr ⟨tt_at 1392 rfl rfl, List.forall_mem_cons.mpr ⟨tt_at 1394 rfl rfl, List.forall_mem_cons.mpr ⟨tt_at 1396 rfl rfl, List.forall_mem_cons.mpr ⟨tt_at 1398 rfl rfl, List.forall_mem_cons.mpr ⟨tt_at 1400 rfl rfl, List.forall_mem_cons.mpr ⟨tt_at 1402 rfl rfl, List.forall_mem_cons.mpr ⟨tt_at 1404 rfl rfl, List.forall_mem_cons.mpr ⟨tt_at 1406 rfl rfl, fun _ h => absurd h List.not_mem_nil⟩⟩⟩⟩⟩⟩⟩⟩⟩⟩⟩⟩⟩⟩⟩⟩⟩⟩⟩⟩⟩⟩⟩⟩⟩⟩⟩⟩⟩⟩⟩⟩⟩⟩⟩⟩⟩⟩⟩⟩⟩⟩⟩⟩⟩⟩⟩⟩⟩⟩⟩⟩
