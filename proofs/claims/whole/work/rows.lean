section
-- ===== PART A: goes FIRST, ahead of the names: the tables' words, and 'selects' of the private methods out of them =====
/-- a private method of a class that the tables say can be made, by its rows of tables_1 -/
def lw_okq (q : MethodName × Nat) : Prop := (q.1.cls ≠ "java/lang/invoke/MethodHandle" ∧ q.1.cls ≠ "java/lang/invoke/VarHandle") ∧ Cond.instantiable q.1.cls q.2 ∈ tables_1 ∧ Cond.privateMethod q.1 ∈ tables_1 ∧ Cond.instanceMethod q.1 ∈ tables_1
theorem lw_p0 : lw_okq (⟨"RowDrawer$Lexicon", "leadsTo", "(II)Z"⟩, 2) := ⟨⟨by decide +kernel, by decide +kernel⟩, List.mem_of_getElem? (i := 36) (by decide +kernel), List.mem_of_getElem? (i := 402) (by decide +kernel), List.mem_of_getElem? (i := 403) (by decide +kernel)⟩
theorem lw_p1 : lw_okq (⟨"RowDrawer$Tokens", "add", "(II)V"⟩, 4) := ⟨⟨by decide +kernel, by decide +kernel⟩, List.mem_of_getElem? (i := 99) (by decide +kernel), List.mem_of_getElem? (i := 559) (by decide +kernel), List.mem_of_getElem? (i := 560) (by decide +kernel)⟩
theorem lw_p2 : lw_okq (⟨"RowDrawer$Reader", "readRule", "()V"⟩, 4) := ⟨⟨by decide +kernel, by decide +kernel⟩, List.mem_of_getElem? (i := 93) (by decide +kernel), List.mem_of_getElem? (i := 575) (by decide +kernel), List.mem_of_getElem? (i := 576) (by decide +kernel)⟩
theorem lw_p3 : lw_okq (⟨"RowDrawer$Reader", "fail", "(I)Z"⟩, 4) := ⟨⟨by decide +kernel, by decide +kernel⟩, List.mem_of_getElem? (i := 93) (by decide +kernel), List.mem_of_getElem? (i := 583) (by decide +kernel), List.mem_of_getElem? (i := 584) (by decide +kernel)⟩
theorem lw_p4 : lw_okq (⟨"RowDrawer$Reader", "readNumber", "(II)I"⟩, 4) := ⟨⟨by decide +kernel, by decide +kernel⟩, List.mem_of_getElem? (i := 93) (by decide +kernel), List.mem_of_getElem? (i := 595) (by decide +kernel), List.mem_of_getElem? (i := 596) (by decide +kernel)⟩
theorem lw_p5 : lw_okq (⟨"RowDrawer$Reader", "readSign", "(I)Z"⟩, 4) := ⟨⟨by decide +kernel, by decide +kernel⟩, List.mem_of_getElem? (i := 93) (by decide +kernel), List.mem_of_getElem? (i := 599) (by decide +kernel), List.mem_of_getElem? (i := 600) (by decide +kernel)⟩
theorem lw_p6 : lw_okq (⟨"RowDrawer$Reader", "readItem", "(I)Z"⟩, 4) := ⟨⟨by decide +kernel, by decide +kernel⟩, List.mem_of_getElem? (i := 93) (by decide +kernel), List.mem_of_getElem? (i := 607) (by decide +kernel), List.mem_of_getElem? (i := 608) (by decide +kernel)⟩
theorem lw_p7 : lw_okq (⟨"RowDrawer$Reader", "readSpec", "(I)Z"⟩, 4) := ⟨⟨by decide +kernel, by decide +kernel⟩, List.mem_of_getElem? (i := 93) (by decide +kernel), List.mem_of_getElem? (i := 622) (by decide +kernel), List.mem_of_getElem? (i := 623) (by decide +kernel)⟩
theorem lw_p8 : lw_okq (⟨"RowDrawer$Reader", "readBar", "()V"⟩, 4) := ⟨⟨by decide +kernel, by decide +kernel⟩, List.mem_of_getElem? (i := 93) (by decide +kernel), List.mem_of_getElem? (i := 630) (by decide +kernel), List.mem_of_getElem? (i := 631) (by decide +kernel)⟩
theorem lw_p9 : lw_okq (⟨"RowDrawer$Reader", "readChain", "()V"⟩, 4) := ⟨⟨by decide +kernel, by decide +kernel⟩, List.mem_of_getElem? (i := 93) (by decide +kernel), List.mem_of_getElem? (i := 642) (by decide +kernel), List.mem_of_getElem? (i := 643) (by decide +kernel)⟩
theorem lw_p10 : lw_okq (⟨"RowDrawer$Reader", "readSingle", "()V"⟩, 4) := ⟨⟨by decide +kernel, by decide +kernel⟩, List.mem_of_getElem? (i := 93) (by decide +kernel), List.mem_of_getElem? (i := 654) (by decide +kernel), List.mem_of_getElem? (i := 655) (by decide +kernel)⟩
theorem lw_p11 : lw_okq (⟨"RowDrawer$Finder", "drawSentence", "(I)V"⟩, 8) := ⟨⟨by decide +kernel, by decide +kernel⟩, List.mem_of_getElem? (i := 182) (by decide +kernel), List.mem_of_getElem? (i := 687) (by decide +kernel), List.mem_of_getElem? (i := 688) (by decide +kernel)⟩
theorem lw_p12 : lw_okq (⟨"RowDrawer$Finder", "clearSentence", "(I)V"⟩, 8) := ⟨⟨by decide +kernel, by decide +kernel⟩, List.mem_of_getElem? (i := 182) (by decide +kernel), List.mem_of_getElem? (i := 691) (by decide +kernel), List.mem_of_getElem? (i := 692) (by decide +kernel)⟩
theorem lw_p13 : lw_okq (⟨"RowDrawer$Finder", "hasBarredWord", "(I)Z"⟩, 8) := ⟨⟨by decide +kernel, by decide +kernel⟩, List.mem_of_getElem? (i := 182) (by decide +kernel), List.mem_of_getElem? (i := 696) (by decide +kernel), List.mem_of_getElem? (i := 697) (by decide +kernel)⟩
theorem lw_p14 : lw_okq (⟨"RowDrawer$Finder", "drawRule", "(II)V"⟩, 8) := ⟨⟨by decide +kernel, by decide +kernel⟩, List.mem_of_getElem? (i := 182) (by decide +kernel), List.mem_of_getElem? (i := 705) (by decide +kernel), List.mem_of_getElem? (i := 706) (by decide +kernel)⟩
theorem lw_p15 : lw_okq (⟨"RowDrawer$Finder", "fitItems", "(II)V"⟩, 8) := ⟨⟨by decide +kernel, by decide +kernel⟩, List.mem_of_getElem? (i := 182) (by decide +kernel), List.mem_of_getElem? (i := 721) (by decide +kernel), List.mem_of_getElem? (i := 722) (by decide +kernel)⟩
def lw_privs_1 : List (MethodName × Nat) := [(⟨"RowDrawer$Lexicon", "leadsTo", "(II)Z"⟩, 2), (⟨"RowDrawer$Tokens", "add", "(II)V"⟩, 4), (⟨"RowDrawer$Reader", "readRule", "()V"⟩, 4), (⟨"RowDrawer$Reader", "fail", "(I)Z"⟩, 4), (⟨"RowDrawer$Reader", "readNumber", "(II)I"⟩, 4), (⟨"RowDrawer$Reader", "readSign", "(I)Z"⟩, 4), (⟨"RowDrawer$Reader", "readItem", "(I)Z"⟩, 4), (⟨"RowDrawer$Reader", "readSpec", "(I)Z"⟩, 4), (⟨"RowDrawer$Reader", "readBar", "()V"⟩, 4), (⟨"RowDrawer$Reader", "readChain", "()V"⟩, 4), (⟨"RowDrawer$Reader", "readSingle", "()V"⟩, 4), (⟨"RowDrawer$Finder", "drawSentence", "(I)V"⟩, 8), (⟨"RowDrawer$Finder", "clearSentence", "(I)V"⟩, 8), (⟨"RowDrawer$Finder", "hasBarredWord", "(I)Z"⟩, 8), (⟨"RowDrawer$Finder", "drawRule", "(II)V"⟩, 8), (⟨"RowDrawer$Finder", "fitItems", "(II)V"⟩, 8)]
theorem lw_r1 : ∀ q ∈ lw_privs_1, lw_okq q := List.forall_mem_cons.mpr ⟨lw_p0, List.forall_mem_cons.mpr ⟨lw_p1, List.forall_mem_cons.mpr ⟨lw_p2, List.forall_mem_cons.mpr ⟨lw_p3, List.forall_mem_cons.mpr ⟨lw_p4, List.forall_mem_cons.mpr ⟨lw_p5, List.forall_mem_cons.mpr ⟨lw_p6, List.forall_mem_cons.mpr ⟨lw_p7, List.forall_mem_cons.mpr ⟨lw_p8, List.forall_mem_cons.mpr ⟨lw_p9, List.forall_mem_cons.mpr ⟨lw_p10, List.forall_mem_cons.mpr ⟨lw_p11, List.forall_mem_cons.mpr ⟨lw_p12, List.forall_mem_cons.mpr ⟨lw_p13, List.forall_mem_cons.mpr ⟨lw_p14, List.forall_mem_cons.mpr ⟨lw_p15, fun _ h => absurd h List.not_mem_nil⟩⟩⟩⟩⟩⟩⟩⟩⟩⟩⟩⟩⟩⟩⟩⟩
theorem lw_p16 : lw_okq (⟨"RowDrawer$Book", "hasItem", "(II)Z"⟩, 14) := ⟨⟨by decide +kernel, by decide +kernel⟩, List.mem_of_getElem? (i := 118) (by decide +kernel), List.mem_of_getElem? (i := 733) (by decide +kernel), List.mem_of_getElem? (i := 734) (by decide +kernel)⟩
theorem lw_p17 : lw_okq (⟨"RowDrawer$Finder", "placesOf", "(III)I"⟩, 8) := ⟨⟨by decide +kernel, by decide +kernel⟩, List.mem_of_getElem? (i := 182) (by decide +kernel), List.mem_of_getElem? (i := 741) (by decide +kernel), List.mem_of_getElem? (i := 742) (by decide +kernel)⟩
theorem lw_p18 : lw_okq (⟨"RowDrawer$Finder", "forward", "(IIII)I"⟩, 8) := ⟨⟨by decide +kernel, by decide +kernel⟩, List.mem_of_getElem? (i := 182) (by decide +kernel), List.mem_of_getElem? (i := 755) (by decide +kernel), List.mem_of_getElem? (i := 756) (by decide +kernel)⟩
theorem lw_p19 : lw_okq (⟨"RowDrawer$Finder", "backward", "(III)I"⟩, 8) := ⟨⟨by decide +kernel, by decide +kernel⟩, List.mem_of_getElem? (i := 182) (by decide +kernel), List.mem_of_getElem? (i := 759) (by decide +kernel), List.mem_of_getElem? (i := 760) (by decide +kernel)⟩
theorem lw_p20 : lw_okq (⟨"RowDrawer$Finder", "keepPairs", "(IIIZ)V"⟩, 8) := ⟨⟨by decide +kernel, by decide +kernel⟩, List.mem_of_getElem? (i := 182) (by decide +kernel), List.mem_of_getElem? (i := 763) (by decide +kernel), List.mem_of_getElem? (i := 764) (by decide +kernel)⟩
theorem lw_p21 : lw_okq (⟨"RowDrawer$Finder", "countPairs", "(II)I"⟩, 8) := ⟨⟨by decide +kernel, by decide +kernel⟩, List.mem_of_getElem? (i := 182) (by decide +kernel), List.mem_of_getElem? (i := 767) (by decide +kernel), List.mem_of_getElem? (i := 768) (by decide +kernel)⟩
theorem lw_p22 : lw_okq (⟨"RowDrawer$Finder", "tellWithin", "(IIII)I"⟩, 8) := ⟨⟨by decide +kernel, by decide +kernel⟩, List.mem_of_getElem? (i := 182) (by decide +kernel), List.mem_of_getElem? (i := 793) (by decide +kernel), List.mem_of_getElem? (i := 794) (by decide +kernel)⟩
theorem lw_p23 : lw_okq (⟨"RowDrawer$Finder", "part", "(IIIII)I"⟩, 8) := ⟨⟨by decide +kernel, by decide +kernel⟩, List.mem_of_getElem? (i := 182) (by decide +kernel), List.mem_of_getElem? (i := 801) (by decide +kernel), List.mem_of_getElem? (i := 802) (by decide +kernel)⟩
theorem lw_p24 : lw_okq (⟨"RowDrawer$Table", "addFindsOf", "(I)V"⟩, 7) := ⟨⟨by decide +kernel, by decide +kernel⟩, List.mem_of_getElem? (i := 213) (by decide +kernel), List.mem_of_getElem? (i := 827) (by decide +kernel), List.mem_of_getElem? (i := 828) (by decide +kernel)⟩
theorem lw_p25 : lw_okq (⟨"RowDrawer$Table", "nameAt", "(II)I"⟩, 7) := ⟨⟨by decide +kernel, by decide +kernel⟩, List.mem_of_getElem? (i := 213) (by decide +kernel), List.mem_of_getElem? (i := 834) (by decide +kernel), List.mem_of_getElem? (i := 835) (by decide +kernel)⟩
theorem lw_p26 : lw_okq (⟨"RowDrawer$Table", "addRow", "(III)V"⟩, 7) := ⟨⟨by decide +kernel, by decide +kernel⟩, List.mem_of_getElem? (i := 213) (by decide +kernel), List.mem_of_getElem? (i := 843) (by decide +kernel), List.mem_of_getElem? (i := 844) (by decide +kernel)⟩
theorem lw_p27 : lw_okq (⟨"RowDrawer$Table", "followChains", "()V"⟩, 7) := ⟨⟨by decide +kernel, by decide +kernel⟩, List.mem_of_getElem? (i := 213) (by decide +kernel), List.mem_of_getElem? (i := 849) (by decide +kernel), List.mem_of_getElem? (i := 850) (by decide +kernel)⟩
theorem lw_p28 : lw_okq (⟨"RowDrawer$Table", "followChain", "(III)Z"⟩, 7) := ⟨⟨by decide +kernel, by decide +kernel⟩, List.mem_of_getElem? (i := 213) (by decide +kernel), List.mem_of_getElem? (i := 867) (by decide +kernel), List.mem_of_getElem? (i := 868) (by decide +kernel)⟩
theorem lw_p29 : lw_okq (⟨"RowDrawer$Table", "degree", "(II)I"⟩, 7) := ⟨⟨by decide +kernel, by decide +kernel⟩, List.mem_of_getElem? (i := 213) (by decide +kernel), List.mem_of_getElem? (i := 871) (by decide +kernel), List.mem_of_getElem? (i := 872) (by decide +kernel)⟩
theorem lw_p30 : lw_okq (⟨"RowDrawer$Table", "followFrom", "(IIII)Z"⟩, 7) := ⟨⟨by decide +kernel, by decide +kernel⟩, List.mem_of_getElem? (i := 213) (by decide +kernel), List.mem_of_getElem? (i := 881) (by decide +kernel), List.mem_of_getElem? (i := 882) (by decide +kernel)⟩
theorem lw_p31 : lw_okq (⟨"RowDrawer$Table", "hasRow", "(III)Z"⟩, 7) := ⟨⟨by decide +kernel, by decide +kernel⟩, List.mem_of_getElem? (i := 213) (by decide +kernel), List.mem_of_getElem? (i := 885) (by decide +kernel), List.mem_of_getElem? (i := 886) (by decide +kernel)⟩
def lw_privs_2 : List (MethodName × Nat) := [(⟨"RowDrawer$Book", "hasItem", "(II)Z"⟩, 14), (⟨"RowDrawer$Finder", "placesOf", "(III)I"⟩, 8), (⟨"RowDrawer$Finder", "forward", "(IIII)I"⟩, 8), (⟨"RowDrawer$Finder", "backward", "(III)I"⟩, 8), (⟨"RowDrawer$Finder", "keepPairs", "(IIIZ)V"⟩, 8), (⟨"RowDrawer$Finder", "countPairs", "(II)I"⟩, 8), (⟨"RowDrawer$Finder", "tellWithin", "(IIII)I"⟩, 8), (⟨"RowDrawer$Finder", "part", "(IIIII)I"⟩, 8), (⟨"RowDrawer$Table", "addFindsOf", "(I)V"⟩, 7), (⟨"RowDrawer$Table", "nameAt", "(II)I"⟩, 7), (⟨"RowDrawer$Table", "addRow", "(III)V"⟩, 7), (⟨"RowDrawer$Table", "followChains", "()V"⟩, 7), (⟨"RowDrawer$Table", "followChain", "(III)Z"⟩, 7), (⟨"RowDrawer$Table", "degree", "(II)I"⟩, 7), (⟨"RowDrawer$Table", "followFrom", "(IIII)Z"⟩, 7), (⟨"RowDrawer$Table", "hasRow", "(III)Z"⟩, 7)]
theorem lw_r2 : ∀ q ∈ lw_privs_2, lw_okq q := List.forall_mem_cons.mpr ⟨lw_p16, List.forall_mem_cons.mpr ⟨lw_p17, List.forall_mem_cons.mpr ⟨lw_p18, List.forall_mem_cons.mpr ⟨lw_p19, List.forall_mem_cons.mpr ⟨lw_p20, List.forall_mem_cons.mpr ⟨lw_p21, List.forall_mem_cons.mpr ⟨lw_p22, List.forall_mem_cons.mpr ⟨lw_p23, List.forall_mem_cons.mpr ⟨lw_p24, List.forall_mem_cons.mpr ⟨lw_p25, List.forall_mem_cons.mpr ⟨lw_p26, List.forall_mem_cons.mpr ⟨lw_p27, List.forall_mem_cons.mpr ⟨lw_p28, List.forall_mem_cons.mpr ⟨lw_p29, List.forall_mem_cons.mpr ⟨lw_p30, List.forall_mem_cons.mpr ⟨lw_p31, fun _ h => absurd h List.not_mem_nil⟩⟩⟩⟩⟩⟩⟩⟩⟩⟩⟩⟩⟩⟩⟩⟩
theorem lw_p32 : lw_okq (⟨"RowDrawer$Table", "secondName", "(III)I"⟩, 7) := ⟨⟨by decide +kernel, by decide +kernel⟩, List.mem_of_getElem? (i := 213) (by decide +kernel), List.mem_of_getElem? (i := 902) (by decide +kernel), List.mem_of_getElem? (i := 903) (by decide +kernel)⟩
theorem lw_p33 : lw_okq (⟨"RowDrawer$Marks", "indexOf", "(IIII)I"⟩, 9) := ⟨⟨by decide +kernel, by decide +kernel⟩, List.mem_of_getElem? (i := 242) (by decide +kernel), List.mem_of_getElem? (i := 928) (by decide +kernel), List.mem_of_getElem? (i := 929) (by decide +kernel)⟩
theorem lw_p34 : lw_okq (⟨"RowDrawer$BestSet", "tryFrom", "(IIJJ)V"⟩, 6) := ⟨⟨by decide +kernel, by decide +kernel⟩, List.mem_of_getElem? (i := 276) (by decide +kernel), List.mem_of_getElem? (i := 957) (by decide +kernel), List.mem_of_getElem? (i := 958) (by decide +kernel)⟩
theorem lw_p35 : lw_okq (⟨"RowDrawer$BestSet", "weigh", "(II)V"⟩, 6) := ⟨⟨by decide +kernel, by decide +kernel⟩, List.mem_of_getElem? (i := 276) (by decide +kernel), List.mem_of_getElem? (i := 962) (by decide +kernel), List.mem_of_getElem? (i := 963) (by decide +kernel)⟩
theorem lw_p36 : lw_okq (⟨"RowDrawer$Lesson", "begin", "(II)V"⟩, 8) := ⟨⟨by decide +kernel, by decide +kernel⟩, List.mem_of_getElem? (i := 301) (by decide +kernel), List.mem_of_getElem? (i := 981) (by decide +kernel), List.mem_of_getElem? (i := 982) (by decide +kernel)⟩
theorem lw_p37 : lw_okq (⟨"RowDrawer$Lesson", "wordAt", "(II)I"⟩, 8) := ⟨⟨by decide +kernel, by decide +kernel⟩, List.mem_of_getElem? (i := 301) (by decide +kernel), List.mem_of_getElem? (i := 997) (by decide +kernel), List.mem_of_getElem? (i := 998) (by decide +kernel)⟩
theorem lw_p38 : lw_okq (⟨"RowDrawer$Lesson", "isLike", "(I)Z"⟩, 8) := ⟨⟨by decide +kernel, by decide +kernel⟩, List.mem_of_getElem? (i := 301) (by decide +kernel), List.mem_of_getElem? (i := 1006) (by decide +kernel), List.mem_of_getElem? (i := 1007) (by decide +kernel)⟩
theorem lw_p39 : lw_okq (⟨"RowDrawer$Lesson", "widen", "(I)V"⟩, 8) := ⟨⟨by decide +kernel, by decide +kernel⟩, List.mem_of_getElem? (i := 301) (by decide +kernel), List.mem_of_getElem? (i := 1010) (by decide +kernel), List.mem_of_getElem? (i := 1011) (by decide +kernel)⟩
theorem lw_p40 : lw_okq (⟨"RowDrawer$Lesson", "roleOf", "(I)I"⟩, 8) := ⟨⟨by decide +kernel, by decide +kernel⟩, List.mem_of_getElem? (i := 301) (by decide +kernel), List.mem_of_getElem? (i := 1027) (by decide +kernel), List.mem_of_getElem? (i := 1028) (by decide +kernel)⟩
theorem lw_p41 : lw_okq (⟨"RowDrawer$Lesson", "standsAt", "(I)Z"⟩, 8) := ⟨⟨by decide +kernel, by decide +kernel⟩, List.mem_of_getElem? (i := 301) (by decide +kernel), List.mem_of_getElem? (i := 1039) (by decide +kernel), List.mem_of_getElem? (i := 1040) (by decide +kernel)⟩
theorem lw_p42 : lw_okq (⟨"java/lang/Throwable", "fillInStackTrace", "(I)Ljava/lang/Throwable;"⟩, 6) := ⟨⟨by decide +kernel, by decide +kernel⟩, List.mem_of_getElem? (i := 1109) (by decide +kernel), List.mem_of_getElem? (i := 1107) (by decide +kernel), List.mem_of_getElem? (i := 1108) (by decide +kernel)⟩
theorem lw_p43 : lw_okq (⟨"RowDrawerModel", "lay", "(J)V"⟩, 52) := ⟨⟨by decide +kernel, by decide +kernel⟩, List.mem_of_getElem? (i := 1161) (by decide +kernel), List.mem_of_getElem? (i := 1159) (by decide +kernel), List.mem_of_getElem? (i := 1160) (by decide +kernel)⟩
theorem lw_p44 : lw_okq (⟨"RowDrawerModel", "cutAll", "()V"⟩, 52) := ⟨⟨by decide +kernel, by decide +kernel⟩, List.mem_of_getElem? (i := 1161) (by decide +kernel), List.mem_of_getElem? (i := 1342) (by decide +kernel), List.mem_of_getElem? (i := 1343) (by decide +kernel)⟩
theorem lw_p45 : lw_okq (⟨"RowDrawerModel", "statement", "()V"⟩, 52) := ⟨⟨by decide +kernel, by decide +kernel⟩, List.mem_of_getElem? (i := 1161) (by decide +kernel), List.mem_of_getElem? (i := 1361) (by decide +kernel), List.mem_of_getElem? (i := 1362) (by decide +kernel)⟩
theorem lw_p46 : lw_okq (⟨"RowDrawerModel", "isWord", "(I)Z"⟩, 52) := ⟨⟨by decide +kernel, by decide +kernel⟩, List.mem_of_getElem? (i := 1161) (by decide +kernel), List.mem_of_getElem? (i := 1365) (by decide +kernel), List.mem_of_getElem? (i := 1366) (by decide +kernel)⟩
theorem lw_p47 : lw_okq (⟨"RowDrawerModel", "readRule", "()V"⟩, 52) := ⟨⟨by decide +kernel, by decide +kernel⟩, List.mem_of_getElem? (i := 1161) (by decide +kernel), List.mem_of_getElem? (i := 1369) (by decide +kernel), List.mem_of_getElem? (i := 1370) (by decide +kernel)⟩
def lw_privs_3 : List (MethodName × Nat) := [(⟨"RowDrawer$Table", "secondName", "(III)I"⟩, 7), (⟨"RowDrawer$Marks", "indexOf", "(IIII)I"⟩, 9), (⟨"RowDrawer$BestSet", "tryFrom", "(IIJJ)V"⟩, 6), (⟨"RowDrawer$BestSet", "weigh", "(II)V"⟩, 6), (⟨"RowDrawer$Lesson", "begin", "(II)V"⟩, 8), (⟨"RowDrawer$Lesson", "wordAt", "(II)I"⟩, 8), (⟨"RowDrawer$Lesson", "isLike", "(I)Z"⟩, 8), (⟨"RowDrawer$Lesson", "widen", "(I)V"⟩, 8), (⟨"RowDrawer$Lesson", "roleOf", "(I)I"⟩, 8), (⟨"RowDrawer$Lesson", "standsAt", "(I)Z"⟩, 8), (⟨"java/lang/Throwable", "fillInStackTrace", "(I)Ljava/lang/Throwable;"⟩, 6), (⟨"RowDrawerModel", "lay", "(J)V"⟩, 52), (⟨"RowDrawerModel", "cutAll", "()V"⟩, 52), (⟨"RowDrawerModel", "statement", "()V"⟩, 52), (⟨"RowDrawerModel", "isWord", "(I)Z"⟩, 52), (⟨"RowDrawerModel", "readRule", "()V"⟩, 52)]
theorem lw_r3 : ∀ q ∈ lw_privs_3, lw_okq q := List.forall_mem_cons.mpr ⟨lw_p32, List.forall_mem_cons.mpr ⟨lw_p33, List.forall_mem_cons.mpr ⟨lw_p34, List.forall_mem_cons.mpr ⟨lw_p35, List.forall_mem_cons.mpr ⟨lw_p36, List.forall_mem_cons.mpr ⟨lw_p37, List.forall_mem_cons.mpr ⟨lw_p38, List.forall_mem_cons.mpr ⟨lw_p39, List.forall_mem_cons.mpr ⟨lw_p40, List.forall_mem_cons.mpr ⟨lw_p41, List.forall_mem_cons.mpr ⟨lw_p42, List.forall_mem_cons.mpr ⟨lw_p43, List.forall_mem_cons.mpr ⟨lw_p44, List.forall_mem_cons.mpr ⟨lw_p45, List.forall_mem_cons.mpr ⟨lw_p46, List.forall_mem_cons.mpr ⟨lw_p47, fun _ h => absurd h List.not_mem_nil⟩⟩⟩⟩⟩⟩⟩⟩⟩⟩⟩⟩⟩⟩⟩⟩
theorem lw_p48 : lw_okq (⟨"RowDrawerModel", "wrong", "(I)V"⟩, 52) := ⟨⟨by decide +kernel, by decide +kernel⟩, List.mem_of_getElem? (i := 1161) (by decide +kernel), List.mem_of_getElem? (i := 1373) (by decide +kernel), List.mem_of_getElem? (i := 1374) (by decide +kernel)⟩
theorem lw_p49 : lw_okq (⟨"RowDrawerModel", "takeNumber", "(II)I"⟩, 52) := ⟨⟨by decide +kernel, by decide +kernel⟩, List.mem_of_getElem? (i := 1161) (by decide +kernel), List.mem_of_getElem? (i := 1377) (by decide +kernel), List.mem_of_getElem? (i := 1378) (by decide +kernel)⟩
theorem lw_p50 : lw_okq (⟨"RowDrawerModel", "takeSign", "(I)V"⟩, 52) := ⟨⟨by decide +kernel, by decide +kernel⟩, List.mem_of_getElem? (i := 1161) (by decide +kernel), List.mem_of_getElem? (i := 1381) (by decide +kernel), List.mem_of_getElem? (i := 1382) (by decide +kernel)⟩
theorem lw_p51 : lw_okq (⟨"RowDrawerModel", "isSign", "(I)Z"⟩, 52) := ⟨⟨by decide +kernel, by decide +kernel⟩, List.mem_of_getElem? (i := 1161) (by decide +kernel), List.mem_of_getElem? (i := 1385) (by decide +kernel), List.mem_of_getElem? (i := 1386) (by decide +kernel)⟩
theorem lw_p52 : lw_okq (⟨"RowDrawerModel", "item", "(I)V"⟩, 52) := ⟨⟨by decide +kernel, by decide +kernel⟩, List.mem_of_getElem? (i := 1161) (by decide +kernel), List.mem_of_getElem? (i := 1389) (by decide +kernel), List.mem_of_getElem? (i := 1390) (by decide +kernel)⟩
theorem lw_p53 : lw_okq (⟨"RowDrawerModel", "isItem", "()Z"⟩, 52) := ⟨⟨by decide +kernel, by decide +kernel⟩, List.mem_of_getElem? (i := 1161) (by decide +kernel), List.mem_of_getElem? (i := 1393) (by decide +kernel), List.mem_of_getElem? (i := 1394) (by decide +kernel)⟩
theorem lw_p54 : lw_okq (⟨"RowDrawerModel", "spec", "(I)V"⟩, 52) := ⟨⟨by decide +kernel, by decide +kernel⟩, List.mem_of_getElem? (i := 1161) (by decide +kernel), List.mem_of_getElem? (i := 1397) (by decide +kernel), List.mem_of_getElem? (i := 1398) (by decide +kernel)⟩
theorem lw_p55 : lw_okq (⟨"RowDrawerModel", "hasWord", "(I)Z"⟩, 52) := ⟨⟨by decide +kernel, by decide +kernel⟩, List.mem_of_getElem? (i := 1161) (by decide +kernel), List.mem_of_getElem? (i := 1401) (by decide +kernel), List.mem_of_getElem? (i := 1402) (by decide +kernel)⟩
theorem lw_p56 : lw_okq (⟨"RowDrawerModel", "takeWord", "(I)V"⟩, 52) := ⟨⟨by decide +kernel, by decide +kernel⟩, List.mem_of_getElem? (i := 1161) (by decide +kernel), List.mem_of_getElem? (i := 1405) (by decide +kernel), List.mem_of_getElem? (i := 1406) (by decide +kernel)⟩
theorem lw_p57 : lw_okq (⟨"RowDrawerModel", "readChain", "()V"⟩, 52) := ⟨⟨by decide +kernel, by decide +kernel⟩, List.mem_of_getElem? (i := 1161) (by decide +kernel), List.mem_of_getElem? (i := 1409) (by decide +kernel), List.mem_of_getElem? (i := 1410) (by decide +kernel)⟩
theorem lw_p58 : lw_okq (⟨"RowDrawerModel", "nameOf", "(I)I"⟩, 52) := ⟨⟨by decide +kernel, by decide +kernel⟩, List.mem_of_getElem? (i := 1161) (by decide +kernel), List.mem_of_getElem? (i := 1428) (by decide +kernel), List.mem_of_getElem? (i := 1429) (by decide +kernel)⟩
theorem lw_p59 : lw_okq (⟨"RowDrawerModel", "isThere", "(I)Z"⟩, 52) := ⟨⟨by decide +kernel, by decide +kernel⟩, List.mem_of_getElem? (i := 1161) (by decide +kernel), List.mem_of_getElem? (i := 1444) (by decide +kernel), List.mem_of_getElem? (i := 1445) (by decide +kernel)⟩
theorem lw_p60 : lw_okq (⟨"RowDrawerModel", "findAll", "()V"⟩, 52) := ⟨⟨by decide +kernel, by decide +kernel⟩, List.mem_of_getElem? (i := 1161) (by decide +kernel), List.mem_of_getElem? (i := 1452) (by decide +kernel), List.mem_of_getElem? (i := 1453) (by decide +kernel)⟩
theorem lw_p61 : lw_okq (⟨"RowDrawerModel", "matches", "(II)V"⟩, 52) := ⟨⟨by decide +kernel, by decide +kernel⟩, List.mem_of_getElem? (i := 1161) (by decide +kernel), List.mem_of_getElem? (i := 1456) (by decide +kernel), List.mem_of_getElem? (i := 1457) (by decide +kernel)⟩
theorem lw_p62 : lw_okq (⟨"RowDrawerModel", "goes", "(IIII)V"⟩, 52) := ⟨⟨by decide +kernel, by decide +kernel⟩, List.mem_of_getElem? (i := 1161) (by decide +kernel), List.mem_of_getElem? (i := 1460) (by decide +kernel), List.mem_of_getElem? (i := 1461) (by decide +kernel)⟩
theorem lw_p63 : lw_okq (⟨"RowDrawerModel", "fits", "(III)Z"⟩, 52) := ⟨⟨by decide +kernel, by decide +kernel⟩, List.mem_of_getElem? (i := 1161) (by decide +kernel), List.mem_of_getElem? (i := 1464) (by decide +kernel), List.mem_of_getElem? (i := 1465) (by decide +kernel)⟩
def lw_privs_4 : List (MethodName × Nat) := [(⟨"RowDrawerModel", "wrong", "(I)V"⟩, 52), (⟨"RowDrawerModel", "takeNumber", "(II)I"⟩, 52), (⟨"RowDrawerModel", "takeSign", "(I)V"⟩, 52), (⟨"RowDrawerModel", "isSign", "(I)Z"⟩, 52), (⟨"RowDrawerModel", "item", "(I)V"⟩, 52), (⟨"RowDrawerModel", "isItem", "()Z"⟩, 52), (⟨"RowDrawerModel", "spec", "(I)V"⟩, 52), (⟨"RowDrawerModel", "hasWord", "(I)Z"⟩, 52), (⟨"RowDrawerModel", "takeWord", "(I)V"⟩, 52), (⟨"RowDrawerModel", "readChain", "()V"⟩, 52), (⟨"RowDrawerModel", "nameOf", "(I)I"⟩, 52), (⟨"RowDrawerModel", "isThere", "(I)Z"⟩, 52), (⟨"RowDrawerModel", "findAll", "()V"⟩, 52), (⟨"RowDrawerModel", "matches", "(II)V"⟩, 52), (⟨"RowDrawerModel", "goes", "(IIII)V"⟩, 52), (⟨"RowDrawerModel", "fits", "(III)Z"⟩, 52)]
theorem lw_r4 : ∀ q ∈ lw_privs_4, lw_okq q := List.forall_mem_cons.mpr ⟨lw_p48, List.forall_mem_cons.mpr ⟨lw_p49, List.forall_mem_cons.mpr ⟨lw_p50, List.forall_mem_cons.mpr ⟨lw_p51, List.forall_mem_cons.mpr ⟨lw_p52, List.forall_mem_cons.mpr ⟨lw_p53, List.forall_mem_cons.mpr ⟨lw_p54, List.forall_mem_cons.mpr ⟨lw_p55, List.forall_mem_cons.mpr ⟨lw_p56, List.forall_mem_cons.mpr ⟨lw_p57, List.forall_mem_cons.mpr ⟨lw_p58, List.forall_mem_cons.mpr ⟨lw_p59, List.forall_mem_cons.mpr ⟨lw_p60, List.forall_mem_cons.mpr ⟨lw_p61, List.forall_mem_cons.mpr ⟨lw_p62, List.forall_mem_cons.mpr ⟨lw_p63, fun _ h => absurd h List.not_mem_nil⟩⟩⟩⟩⟩⟩⟩⟩⟩⟩⟩⟩⟩⟩⟩⟩
theorem lw_p64 : lw_okq (⟨"RowDrawerModel", "isBarred", "(I)Z"⟩, 52) := ⟨⟨by decide +kernel, by decide +kernel⟩, List.mem_of_getElem? (i := 1161) (by decide +kernel), List.mem_of_getElem? (i := 1475) (by decide +kernel), List.mem_of_getElem? (i := 1476) (by decide +kernel)⟩
theorem lw_p65 : lw_okq (⟨"RowDrawerModel", "findRows", "()V"⟩, 52) := ⟨⟨by decide +kernel, by decide +kernel⟩, List.mem_of_getElem? (i := 1161) (by decide +kernel), List.mem_of_getElem? (i := 1486) (by decide +kernel), List.mem_of_getElem? (i := 1487) (by decide +kernel)⟩
theorem lw_p66 : lw_okq (⟨"RowDrawerModel", "joins", "(III)Z"⟩, 52) := ⟨⟨by decide +kernel, by decide +kernel⟩, List.mem_of_getElem? (i := 1161) (by decide +kernel), List.mem_of_getElem? (i := 1490) (by decide +kernel), List.mem_of_getElem? (i := 1491) (by decide +kernel)⟩
theorem lw_p67 : lw_okq (⟨"RowDrawerModel", "caught", "(IZ)I"⟩, 52) := ⟨⟨by decide +kernel, by decide +kernel⟩, List.mem_of_getElem? (i := 1161) (by decide +kernel), List.mem_of_getElem? (i := 1510) (by decide +kernel), List.mem_of_getElem? (i := 1511) (by decide +kernel)⟩
theorem lw_p68 : lw_okq (⟨"RowDrawerModel", "catchesMark", "(II)Z"⟩, 52) := ⟨⟨by decide +kernel, by decide +kernel⟩, List.mem_of_getElem? (i := 1161) (by decide +kernel), List.mem_of_getElem? (i := 1514) (by decide +kernel), List.mem_of_getElem? (i := 1515) (by decide +kernel)⟩
theorem lw_p69 : lw_okq (⟨"RowDrawerModel", "wordAt", "(II)I"⟩, 52) := ⟨⟨by decide +kernel, by decide +kernel⟩, List.mem_of_getElem? (i := 1161) (by decide +kernel), List.mem_of_getElem? (i := 1529) (by decide +kernel), List.mem_of_getElem? (i := 1530) (by decide +kernel)⟩
theorem lw_p70 : lw_okq (⟨"RowDrawerModel", "isLike", "(III)Z"⟩, 52) := ⟨⟨by decide +kernel, by decide +kernel⟩, List.mem_of_getElem? (i := 1161) (by decide +kernel), List.mem_of_getElem? (i := 1536) (by decide +kernel), List.mem_of_getElem? (i := 1537) (by decide +kernel)⟩
theorem lw_p71 : lw_okq (⟨"RowDrawerModel", "barredFinds", "()I"⟩, 52) := ⟨⟨by decide +kernel, by decide +kernel⟩, List.mem_of_getElem? (i := 1161) (by decide +kernel), List.mem_of_getElem? (i := 1552) (by decide +kernel), List.mem_of_getElem? (i := 1553) (by decide +kernel)⟩
def lw_privs_5 : List (MethodName × Nat) := [(⟨"RowDrawerModel", "isBarred", "(I)Z"⟩, 52), (⟨"RowDrawerModel", "findRows", "()V"⟩, 52), (⟨"RowDrawerModel", "joins", "(III)Z"⟩, 52), (⟨"RowDrawerModel", "caught", "(IZ)I"⟩, 52), (⟨"RowDrawerModel", "catchesMark", "(II)Z"⟩, 52), (⟨"RowDrawerModel", "wordAt", "(II)I"⟩, 52), (⟨"RowDrawerModel", "isLike", "(III)Z"⟩, 52), (⟨"RowDrawerModel", "barredFinds", "()I"⟩, 52)]
theorem lw_r5 : ∀ q ∈ lw_privs_5, lw_okq q := List.forall_mem_cons.mpr ⟨lw_p64, List.forall_mem_cons.mpr ⟨lw_p65, List.forall_mem_cons.mpr ⟨lw_p66, List.forall_mem_cons.mpr ⟨lw_p67, List.forall_mem_cons.mpr ⟨lw_p68, List.forall_mem_cons.mpr ⟨lw_p69, List.forall_mem_cons.mpr ⟨lw_p70, List.forall_mem_cons.mpr ⟨lw_p71, fun _ h => absurd h List.not_mem_nil⟩⟩⟩⟩⟩⟩⟩⟩
def lw_privs : List (MethodName × Nat) := lw_privs_1 ++ (lw_privs_2 ++ (lw_privs_3 ++ (lw_privs_4 ++ (lw_privs_5))))
def lw_tbl : List Cond := k2_sels lw_privs ++ tables_1
theorem lw_privs_ok : ∀ q ∈ lw_privs, lw_okq q := by
  show ∀ q ∈ lw_privs_1 ++ (lw_privs_2 ++ (lw_privs_3 ++ (lw_privs_4 ++ (lw_privs_5)))), lw_okq q
  exact List.forall_mem_append.mpr ⟨lw_r1, List.forall_mem_append.mpr ⟨lw_r2, List.forall_mem_append.mpr ⟨lw_r3, List.forall_mem_append.mpr ⟨lw_r4, lw_r5⟩⟩⟩⟩
def RX0 : String := "RowDrawer$BestSet"
def TX0 : u_T := fun k => match k with
  | 0 => ("RowDrawer$BestSet", "rightCaught", "[J", true)
  | 1 => ("RowDrawer$BestSet", "wrongCaught", "[J", true)
  | 2 => ("RowDrawer$BestSet", "rules", "I", false)
  | 3 => ("RowDrawer$BestSet", "wrongAtMost", "I", false)
  | 4 => ("RowDrawer$BestSet", "bestSet", "I", false)
  | _ => ("RowDrawer$BestSet", "bestCaught", "I", false)
def tyX0 : Nat → FieldType := fun k => match k with
  | 0 => .array .long
  | 1 => .array .long
  | 2 => .int
  | 3 => .int
  | 4 => .int
  | _ => .int
abbrev wsX00 : List Cond := u_ws RX0 TX0 6
theorem nmX0 : ∀ a, a < 6 → ∀ b, b < 6 → a ≠ b → (TX0 a).2.1 ≠ (TX0 b).2.1 := by decide +kernel
theorem tyX0_ok : ∀ k, k < 6 → parseFieldDescriptor (TX0 k).2.2.1 = some (tyX0 k) := by decide +kernel
def RX1 : String := "RowDrawer$Book"
def TX1 : u_T := fun k => match k with
  | 0 => ("RowDrawer$Book", "rules", "I", false)
  | 1 => ("RowDrawer$Book", "relations", "[I", true)
  | 2 => ("RowDrawer$Book", "items", "[I", true)
  | 3 => ("RowDrawer$Book", "lefts", "[I", true)
  | 4 => ("RowDrawer$Book", "rights", "[I", true)
  | 5 => ("RowDrawer$Book", "kinds", "[I", true)
  | 6 => ("RowDrawer$Book", "numbers", "[I", true)
  | 7 => ("RowDrawer$Book", "bars", "I", false)
  | 8 => ("RowDrawer$Book", "barWords", "[I", true)
  | 9 => ("RowDrawer$Book", "chains", "I", false)
  | 10 => ("RowDrawer$Book", "chainGoals", "[I", true)
  | 11 => ("RowDrawer$Book", "chainFirsts", "[I", true)
  | 12 => ("RowDrawer$Book", "chainSeconds", "[I", true)
  | _ => ("RowDrawer$Book", "singles", "I", false)
def tyX1 : Nat → FieldType := fun k => match k with
  | 0 => .int
  | 1 => .array .int
  | 2 => .array .int
  | 3 => .array .int
  | 4 => .array .int
  | 5 => .array .int
  | 6 => .array .int
  | 7 => .int
  | 8 => .array .int
  | 9 => .int
  | 10 => .array .int
  | 11 => .array .int
  | 12 => .array .int
  | _ => .int
abbrev wsX10 : List Cond := u_ws RX1 TX1 14
theorem nmX1 : ∀ a, a < 14 → ∀ b, b < 14 → a ≠ b → (TX1 a).2.1 ≠ (TX1 b).2.1 := by decide +kernel
theorem tyX1_ok : ∀ k, k < 14 → parseFieldDescriptor (TX1 k).2.2.1 = some (tyX1 k) := by decide +kernel
def RX2 : String := "RowDrawer$Finder"
def TX2 : u_T := fun k => match k with
  | 0 => ("RowDrawer$Finder", "lexicon", "LRowDrawer$Lexicon;", true)
  | 1 => ("RowDrawer$Finder", "sentences", "LRowDrawer$Sentences;", true)
  | 2 => ("RowDrawer$Finder", "book", "LRowDrawer$Book;", true)
  | 3 => ("RowDrawer$Finder", "rights", "[I", true)
  | 4 => ("RowDrawer$Finder", "counts", "[I", true)
  | 5 => ("RowDrawer$Finder", "barred", "[Z", true)
  | 6 => ("RowDrawer$Finder", "stale", "[Z", true)
  | _ => ("RowDrawer$Finder", "fitting", "[I", true)
def tyX2 : Nat → FieldType := fun k => match k with
  | 0 => .object "RowDrawer$Lexicon"
  | 1 => .object "RowDrawer$Sentences"
  | 2 => .object "RowDrawer$Book"
  | 3 => .array .int
  | 4 => .array .int
  | 5 => .array .boolean
  | 6 => .array .boolean
  | _ => .array .int
abbrev wsX20 : List Cond := u_ws RX2 TX2 8
theorem nmX2 : ∀ a, a < 8 → ∀ b, b < 8 → a ≠ b → (TX2 a).2.1 ≠ (TX2 b).2.1 := by decide +kernel
theorem tyX2_ok : ∀ k, k < 8 → parseFieldDescriptor (TX2 k).2.2.1 = some (tyX2 k) := by decide +kernel
def RX3 : String := "RowDrawer$Lesson"
def TX3 : u_T := fun k => match k with
  | 0 => ("RowDrawer$Lesson", "lexicon", "LRowDrawer$Lexicon;", true)
  | 1 => ("RowDrawer$Lesson", "sentences", "LRowDrawer$Sentences;", true)
  | 2 => ("RowDrawer$Lesson", "marks", "LRowDrawer$Marks;", true)
  | 3 => ("RowDrawer$Lesson", "kinds", "[I", true)
  | 4 => ("RowDrawer$Lesson", "numbers", "[I", true)
  | 5 => ("RowDrawer$Lesson", "specs", "I", false)
  | 6 => ("RowDrawer$Lesson", "relation", "I", false)
  | _ => ("RowDrawer$Lesson", "leftFirst", "Z", false)
def tyX3 : Nat → FieldType := fun k => match k with
  | 0 => .object "RowDrawer$Lexicon"
  | 1 => .object "RowDrawer$Sentences"
  | 2 => .object "RowDrawer$Marks"
  | 3 => .array .int
  | 4 => .array .int
  | 5 => .int
  | 6 => .int
  | _ => .boolean
abbrev wsX30 : List Cond := u_ws RX3 TX3 8
theorem nmX3 : ∀ a, a < 8 → ∀ b, b < 8 → a ≠ b → (TX3 a).2.1 ≠ (TX3 b).2.1 := by decide +kernel
theorem tyX3_ok : ∀ k, k < 8 → parseFieldDescriptor (TX3 k).2.2.1 = some (tyX3 k) := by decide +kernel
def RX4 : String := "RowDrawer$Lexicon"
def TX4 : u_T := fun k => match k with
  | 0 => ("RowDrawer$Lexicon", "sorts", "[I", true)
  | _ => ("RowDrawer$Lexicon", "joinedTo", "[I", true)
def tyX4 : Nat → FieldType := fun k => match k with
  | 0 => .array .int
  | _ => .array .int
abbrev wsX40 : List Cond := u_ws RX4 TX4 2
theorem nmX4 : ∀ a, a < 2 → ∀ b, b < 2 → a ≠ b → (TX4 a).2.1 ≠ (TX4 b).2.1 := by decide +kernel
theorem tyX4_ok : ∀ k, k < 2 → parseFieldDescriptor (TX4 k).2.2.1 = some (tyX4 k) := by decide +kernel
def RX5 : String := "RowDrawer$Marks"
def TX5 : u_T := fun k => match k with
  | 0 => ("RowDrawer$Marks", "sentences", "LRowDrawer$Sentences;", true)
  | 1 => ("RowDrawer$Marks", "book", "LRowDrawer$Book;", true)
  | 2 => ("RowDrawer$Marks", "finder", "LRowDrawer$Finder;", true)
  | 3 => ("RowDrawer$Marks", "markSentences", "[I", true)
  | 4 => ("RowDrawer$Marks", "lefts", "[I", true)
  | 5 => ("RowDrawer$Marks", "rights", "[I", true)
  | 6 => ("RowDrawer$Marks", "relations", "[I", true)
  | 7 => ("RowDrawer$Marks", "isRight", "[Z", true)
  | _ => ("RowDrawer$Marks", "size", "I", false)
def tyX5 : Nat → FieldType := fun k => match k with
  | 0 => .object "RowDrawer$Sentences"
  | 1 => .object "RowDrawer$Book"
  | 2 => .object "RowDrawer$Finder"
  | 3 => .array .int
  | 4 => .array .int
  | 5 => .array .int
  | 6 => .array .int
  | 7 => .array .boolean
  | _ => .int
abbrev wsX50 : List Cond := u_ws RX5 TX5 9
theorem nmX5 : ∀ a, a < 9 → ∀ b, b < 9 → a ≠ b → (TX5 a).2.1 ≠ (TX5 b).2.1 := by decide +kernel
theorem tyX5_ok : ∀ k, k < 9 → parseFieldDescriptor (TX5 k).2.2.1 = some (tyX5 k) := by decide +kernel
def RX6 : String := "RowDrawer$Reader"
def TX6 : u_T := fun k => match k with
  | 0 => ("RowDrawer$Reader", "tape", "LRowDrawer$Tape;", true)
  | 1 => ("RowDrawer$Reader", "tokens", "LRowDrawer$Tokens;", true)
  | 2 => ("RowDrawer$Reader", "draft", "LRowDrawer$Book;", true)
  | _ => ("RowDrawer$Reader", "fault", "I", false)
def tyX6 : Nat → FieldType := fun k => match k with
  | 0 => .object "RowDrawer$Tape"
  | 1 => .object "RowDrawer$Tokens"
  | 2 => .object "RowDrawer$Book"
  | _ => .int
abbrev wsX60 : List Cond := u_ws RX6 TX6 4
theorem nmX6 : ∀ a, a < 4 → ∀ b, b < 4 → a ≠ b → (TX6 a).2.1 ≠ (TX6 b).2.1 := by decide +kernel
theorem tyX6_ok : ∀ k, k < 4 → parseFieldDescriptor (TX6 k).2.2.1 = some (tyX6 k) := by decide +kernel
def RX7 : String := "RowDrawer$Sentences"
def TX7 : u_T := fun k => match k with
  | 0 => ("RowDrawer$Sentences", "words", "[I", true)
  | 1 => ("RowDrawer$Sentences", "lengths", "[I", true)
  | 2 => ("RowDrawer$Sentences", "there", "[Z", true)
  | 3 => ("RowDrawer$Sentences", "toldWords", "[I", true)
  | 4 => ("RowDrawer$Sentences", "told", "I", false)
  | 5 => ("RowDrawer$Sentences", "came", "I", false)
  | _ => ("RowDrawer$Sentences", "present", "I", false)
def tyX7 : Nat → FieldType := fun k => match k with
  | 0 => .array .int
  | 1 => .array .int
  | 2 => .array .boolean
  | 3 => .array .int
  | 4 => .int
  | 5 => .int
  | _ => .int
abbrev wsX70 : List Cond := u_ws RX7 TX7 7
theorem nmX7 : ∀ a, a < 7 → ∀ b, b < 7 → a ≠ b → (TX7 a).2.1 ≠ (TX7 b).2.1 := by decide +kernel
theorem tyX7_ok : ∀ k, k < 7 → parseFieldDescriptor (TX7 k).2.2.1 = some (tyX7 k) := by decide +kernel
def RX8 : String := "RowDrawer$Table"
def TX8 : u_T := fun k => match k with
  | 0 => ("RowDrawer$Table", "lexicon", "LRowDrawer$Lexicon;", true)
  | 1 => ("RowDrawer$Table", "sentences", "LRowDrawer$Sentences;", true)
  | 2 => ("RowDrawer$Table", "book", "LRowDrawer$Book;", true)
  | 3 => ("RowDrawer$Table", "finder", "LRowDrawer$Finder;", true)
  | 4 => ("RowDrawer$Table", "low", "[J", true)
  | 5 => ("RowDrawer$Table", "high", "[J", true)
  | _ => ("RowDrawer$Table", "stale", "Z", false)
def tyX8 : Nat → FieldType := fun k => match k with
  | 0 => .object "RowDrawer$Lexicon"
  | 1 => .object "RowDrawer$Sentences"
  | 2 => .object "RowDrawer$Book"
  | 3 => .object "RowDrawer$Finder"
  | 4 => .array .long
  | 5 => .array .long
  | _ => .boolean
abbrev wsX80 : List Cond := u_ws RX8 TX8 7
theorem nmX8 : ∀ a, a < 7 → ∀ b, b < 7 → a ≠ b → (TX8 a).2.1 ≠ (TX8 b).2.1 := by decide +kernel
theorem tyX8_ok : ∀ k, k < 7 → parseFieldDescriptor (TX8 k).2.2.1 = some (tyX8 k) := by decide +kernel
def RX9 : String := "RowDrawer$Tape"
def TX9 : u_T := fun k => match k with
  | 0 => ("RowDrawer$Tape", "signs", "[C", true)
  | _ => ("RowDrawer$Tape", "length", "I", false)
def tyX9 : Nat → FieldType := fun k => match k with
  | 0 => .array .char
  | _ => .int
abbrev wsX90 : List Cond := u_ws RX9 TX9 2
theorem nmX9 : ∀ a, a < 2 → ∀ b, b < 2 → a ≠ b → (TX9 a).2.1 ≠ (TX9 b).2.1 := by decide +kernel
theorem tyX9_ok : ∀ k, k < 2 → parseFieldDescriptor (TX9 k).2.2.1 = some (tyX9 k) := by decide +kernel
def RX10 : String := "RowDrawer$Tokens"
def TX10 : u_T := fun k => match k with
  | 0 => ("RowDrawer$Tokens", "codes", "[I", true)
  | 1 => ("RowDrawer$Tokens", "places", "[I", true)
  | 2 => ("RowDrawer$Tokens", "size", "I", false)
  | _ => ("RowDrawer$Tokens", "current", "I", false)
def tyX10 : Nat → FieldType := fun k => match k with
  | 0 => .array .int
  | 1 => .array .int
  | 2 => .int
  | _ => .int
abbrev wsX100 : List Cond := u_ws RX10 TX10 4
theorem nmX10 : ∀ a, a < 4 → ∀ b, b < 4 → a ≠ b → (TX10 a).2.1 ≠ (TX10 b).2.1 := by decide +kernel
theorem tyX10_ok : ∀ k, k < 4 → parseFieldDescriptor (TX10 k).2.2.1 = some (tyX10 k) := by decide +kernel
def RX11 : String := "RowDrawer"
def TX11 : u_T := fun k => match k with
  | 0 => ("RowDrawer", "lexicon", "LRowDrawer$Lexicon;", true)
  | 1 => ("RowDrawer", "sentences", "LRowDrawer$Sentences;", true)
  | 2 => ("RowDrawer", "tape", "LRowDrawer$Tape;", true)
  | 3 => ("RowDrawer", "reader", "LRowDrawer$Reader;", true)
  | 4 => ("RowDrawer", "book", "LRowDrawer$Book;", true)
  | 5 => ("RowDrawer", "finder", "LRowDrawer$Finder;", true)
  | 6 => ("RowDrawer", "table", "LRowDrawer$Table;", true)
  | 7 => ("RowDrawer", "marks", "LRowDrawer$Marks;", true)
  | 8 => ("RowDrawer", "chooser", "LRowDrawer$BestSet;", true)
  | _ => ("RowDrawer", "lesson", "LRowDrawer$Lesson;", true)
def tyX11 : Nat → FieldType := fun k => match k with
  | 0 => .object "RowDrawer$Lexicon"
  | 1 => .object "RowDrawer$Sentences"
  | 2 => .object "RowDrawer$Tape"
  | 3 => .object "RowDrawer$Reader"
  | 4 => .object "RowDrawer$Book"
  | 5 => .object "RowDrawer$Finder"
  | 6 => .object "RowDrawer$Table"
  | 7 => .object "RowDrawer$Marks"
  | 8 => .object "RowDrawer$BestSet"
  | _ => .object "RowDrawer$Lesson"
abbrev wsX110 : List Cond := u_ws RX11 TX11 10
theorem nmX11 : ∀ a, a < 10 → ∀ b, b < 10 → a ≠ b → (TX11 a).2.1 ≠ (TX11 b).2.1 := by decide +kernel
theorem tyX11_ok : ∀ k, k < 10 → parseFieldDescriptor (TX11 k).2.2.1 = some (tyX11 k) := by decide +kernel
def RX12 : String := "RowDrawerModel"
def TX12 : u_T := fun k => match k with
  | 0 => ("RowDrawerModel", "thrown", "I", false)
  | 1 => ("RowDrawerModel", "tape", "[I", true)
  | 2 => ("RowDrawerModel", "taped", "I", false)
  | 3 => ("RowDrawerModel", "size", "I", false)
  | 4 => ("RowDrawerModel", "sort", "[I", true)
  | 5 => ("RowDrawerModel", "place", "[I", true)
  | 6 => ("RowDrawerModel", "value", "[J", true)
  | 7 => ("RowDrawerModel", "at", "I", false)
  | 8 => ("RowDrawerModel", "fault", "I", false)
  | 9 => ("RowDrawerModel", "words", "[J", true)
  | 10 => ("RowDrawerModel", "holds", "I", false)
  | 11 => ("RowDrawerModel", "next", "I", false)
  | 12 => ("RowDrawerModel", "rules", "[I", true)
  | 13 => ("RowDrawerModel", "ruleOf", "[I", true)
  | 14 => ("RowDrawerModel", "items", "[I", true)
  | 15 => ("RowDrawerModel", "isSome", "[Z", true)
  | 16 => ("RowDrawerModel", "side", "[I", true)
  | 17 => ("RowDrawerModel", "kind", "[I", true)
  | 18 => ("RowDrawerModel", "number", "[I", true)
  | 19 => ("RowDrawerModel", "bars", "[I", true)
  | 20 => ("RowDrawerModel", "bar", "[I", true)
  | 21 => ("RowDrawerModel", "chains", "[I", true)
  | 22 => ("RowDrawerModel", "chain", "[I", true)
  | 23 => ("RowDrawerModel", "isSingle", "[Z", true)
  | 24 => ("RowDrawerModel", "hasLeft", "Z", false)
  | 25 => ("RowDrawerModel", "hasRight", "Z", false)
  | 26 => ("RowDrawerModel", "sorts", "[I", true)
  | 27 => ("RowDrawerModel", "joined", "[I", true)
  | 28 => ("RowDrawerModel", "waiting", "I", false)
  | 29 => ("RowDrawerModel", "draft", "[I", true)
  | 30 => ("RowDrawerModel", "sentences", "I", false)
  | 31 => ("RowDrawerModel", "length", "[I", true)
  | 32 => ("RowDrawerModel", "row", "[I", true)
  | 33 => ("RowDrawerModel", "isGone", "[Z", true)
  | 34 => ("RowDrawerModel", "isOld", "Z", false)
  | 35 => ("RowDrawerModel", "isFind", "[Z", true)
  | 36 => ("RowDrawerModel", "now", "[Z", true)
  | 37 => ("RowDrawerModel", "then", "[Z", true)
  | 38 => ("RowDrawerModel", "isRow", "[Z", true)
  | 39 => ("RowDrawerModel", "marks", "I", false)
  | 40 => ("RowDrawerModel", "markIn", "[I", true)
  | 41 => ("RowDrawerModel", "markLeft", "[I", true)
  | 42 => ("RowDrawerModel", "markRight", "[I", true)
  | 43 => ("RowDrawerModel", "markOf", "[I", true)
  | 44 => ("RowDrawerModel", "isGood", "[Z", true)
  | 45 => ("RowDrawerModel", "good", "[J", true)
  | 46 => ("RowDrawerModel", "bad", "[J", true)
  | 47 => ("RowDrawerModel", "specs", "I", false)
  | 48 => ("RowDrawerModel", "learntOf", "I", false)
  | 49 => ("RowDrawerModel", "learntFar", "I", false)
  | 50 => ("RowDrawerModel", "specKind", "[I", true)
  | _ => ("RowDrawerModel", "specNumber", "[I", true)
def tyX12 : Nat → FieldType := fun k => match k with
  | 0 => .int
  | 1 => .array .int
  | 2 => .int
  | 3 => .int
  | 4 => .array .int
  | 5 => .array .int
  | 6 => .array .long
  | 7 => .int
  | 8 => .int
  | 9 => .array .long
  | 10 => .int
  | 11 => .int
  | 12 => .array .int
  | 13 => .array .int
  | 14 => .array .int
  | 15 => .array .boolean
  | 16 => .array .int
  | 17 => .array .int
  | 18 => .array .int
  | 19 => .array .int
  | 20 => .array .int
  | 21 => .array .int
  | 22 => .array .int
  | 23 => .array .boolean
  | 24 => .boolean
  | 25 => .boolean
  | 26 => .array .int
  | 27 => .array .int
  | 28 => .int
  | 29 => .array .int
  | 30 => .int
  | 31 => .array .int
  | 32 => .array .int
  | 33 => .array .boolean
  | 34 => .boolean
  | 35 => .array .boolean
  | 36 => .array .boolean
  | 37 => .array .boolean
  | 38 => .array .boolean
  | 39 => .int
  | 40 => .array .int
  | 41 => .array .int
  | 42 => .array .int
  | 43 => .array .int
  | 44 => .array .boolean
  | 45 => .array .long
  | 46 => .array .long
  | 47 => .int
  | 48 => .int
  | 49 => .int
  | 50 => .array .int
  | _ => .array .int
abbrev wsX120 : List Cond := u_ws RX12 TX12 52
theorem nmX12 : ∀ a, a < 52 → ∀ b, b < 52 → a ≠ b → (TX12 a).2.1 ≠ (TX12 b).2.1 := by decide +kernel
theorem tyX12_ok : ∀ k, k < 52 → parseFieldDescriptor (TX12 k).2.2.1 = some (tyX12 k) := by decide +kernel
abbrev vwCl : List vw_C := [(RX0, TX0, 6), (RX1, TX1, 14), (RX2, TX2, 8), (RX3, TX3, 8), (RX4, TX4, 2), (RX5, TX5, 9), (RX6, TX6, 4), (RX7, TX7, 7), (RX8, TX8, 7), (RX9, TX9, 2), (RX10, TX10, 4), (RX11, TX11, 10), (RX12, TX12, 52)]
def TT : List Cond := lw_tbl.filter goodWord
theorem tt_at (i : Nat) {w : Cond} (h : lw_tbl[i]? = some w) (g : goodWord w = true) : w ∈ TT := List.mem_filter.mpr ⟨List.mem_of_getElem? h, g⟩
theorem tt_good {w : Cond} (h : w ∈ TT) : (w.onTables && w.keeps) = true ∨ ∃ ty, w = .arrayClass ty := good_of_word (List.mem_filter.mp h).2
set_option maxRecDepth 100000 in
theorem inX0 : ∀ w ∈ u_ws RX0 TX0 6, w ∈ TT := List.forall_mem_cons.mpr ⟨tt_at 359 rfl rfl, List.forall_mem_cons.mpr ⟨tt_at 361 rfl rfl, List.forall_mem_cons.mpr ⟨tt_at 363 rfl rfl, List.forall_mem_cons.mpr ⟨tt_at 365 rfl rfl, List.forall_mem_cons.mpr ⟨tt_at 367 rfl rfl, List.forall_mem_cons.mpr ⟨tt_at 369 rfl rfl, fun _ h => absurd h List.not_mem_nil⟩⟩⟩⟩⟩⟩
set_option maxRecDepth 100000 in
theorem inX1 : ∀ w ∈ u_ws RX1 TX1 14, w ∈ TT := List.forall_mem_cons.mpr ⟨tt_at 209 rfl rfl, List.forall_mem_cons.mpr ⟨tt_at 211 rfl rfl, List.forall_mem_cons.mpr ⟨tt_at 213 rfl rfl, List.forall_mem_cons.mpr ⟨tt_at 215 rfl rfl, List.forall_mem_cons.mpr ⟨tt_at 217 rfl rfl, List.forall_mem_cons.mpr ⟨tt_at 219 rfl rfl, List.forall_mem_cons.mpr ⟨tt_at 221 rfl rfl, List.forall_mem_cons.mpr ⟨tt_at 223 rfl rfl, List.forall_mem_cons.mpr ⟨tt_at 225 rfl rfl, List.forall_mem_cons.mpr ⟨tt_at 227 rfl rfl, List.forall_mem_cons.mpr ⟨tt_at 229 rfl rfl, List.forall_mem_cons.mpr ⟨tt_at 231 rfl rfl, List.forall_mem_cons.mpr ⟨tt_at 233 rfl rfl, List.forall_mem_cons.mpr ⟨tt_at 235 rfl rfl, fun _ h => absurd h List.not_mem_nil⟩⟩⟩⟩⟩⟩⟩⟩⟩⟩⟩⟩⟩⟩
set_option maxRecDepth 100000 in
theorem inX2 : ∀ w ∈ u_ws RX2 TX2 8, w ∈ TT := List.forall_mem_cons.mpr ⟨tt_at 267 rfl rfl, List.forall_mem_cons.mpr ⟨tt_at 269 rfl rfl, List.forall_mem_cons.mpr ⟨tt_at 271 rfl rfl, List.forall_mem_cons.mpr ⟨tt_at 273 rfl rfl, List.forall_mem_cons.mpr ⟨tt_at 275 rfl rfl, List.forall_mem_cons.mpr ⟨tt_at 277 rfl rfl, List.forall_mem_cons.mpr ⟨tt_at 279 rfl rfl, List.forall_mem_cons.mpr ⟨tt_at 281 rfl rfl, fun _ h => absurd h List.not_mem_nil⟩⟩⟩⟩⟩⟩⟩⟩
set_option maxRecDepth 100000 in
theorem inX3 : ∀ w ∈ u_ws RX3 TX3 8, w ∈ TT := List.forall_mem_cons.mpr ⟨tt_at 386 rfl rfl, List.forall_mem_cons.mpr ⟨tt_at 388 rfl rfl, List.forall_mem_cons.mpr ⟨tt_at 390 rfl rfl, List.forall_mem_cons.mpr ⟨tt_at 392 rfl rfl, List.forall_mem_cons.mpr ⟨tt_at 394 rfl rfl, List.forall_mem_cons.mpr ⟨tt_at 396 rfl rfl, List.forall_mem_cons.mpr ⟨tt_at 398 rfl rfl, List.forall_mem_cons.mpr ⟨tt_at 400 rfl rfl, fun _ h => absurd h List.not_mem_nil⟩⟩⟩⟩⟩⟩⟩⟩
set_option maxRecDepth 100000 in
theorem inX4 : ∀ w ∈ u_ws RX4 TX4 2, w ∈ TT := List.forall_mem_cons.mpr ⟨tt_at 115 rfl rfl, List.forall_mem_cons.mpr ⟨tt_at 117 rfl rfl, fun _ h => absurd h List.not_mem_nil⟩⟩
set_option maxRecDepth 100000 in
theorem inX5 : ∀ w ∈ u_ws RX5 TX5 9, w ∈ TT := List.forall_mem_cons.mpr ⟨tt_at 328 rfl rfl, List.forall_mem_cons.mpr ⟨tt_at 330 rfl rfl, List.forall_mem_cons.mpr ⟨tt_at 332 rfl rfl, List.forall_mem_cons.mpr ⟨tt_at 334 rfl rfl, List.forall_mem_cons.mpr ⟨tt_at 336 rfl rfl, List.forall_mem_cons.mpr ⟨tt_at 338 rfl rfl, List.forall_mem_cons.mpr ⟨tt_at 340 rfl rfl, List.forall_mem_cons.mpr ⟨tt_at 342 rfl rfl, List.forall_mem_cons.mpr ⟨tt_at 344 rfl rfl, fun _ h => absurd h List.not_mem_nil⟩⟩⟩⟩⟩⟩⟩⟩⟩
set_option maxRecDepth 100000 in
theorem inX6 : ∀ w ∈ u_ws RX6 TX6 4, w ∈ TT := List.forall_mem_cons.mpr ⟨tt_at 242 rfl rfl, List.forall_mem_cons.mpr ⟨tt_at 244 rfl rfl, List.forall_mem_cons.mpr ⟨tt_at 246 rfl rfl, List.forall_mem_cons.mpr ⟨tt_at 248 rfl rfl, fun _ h => absurd h List.not_mem_nil⟩⟩⟩⟩
set_option maxRecDepth 100000 in
theorem inX7 : ∀ w ∈ u_ws RX7 TX7 7, w ∈ TT := List.forall_mem_cons.mpr ⟨tt_at 134 rfl rfl, List.forall_mem_cons.mpr ⟨tt_at 136 rfl rfl, List.forall_mem_cons.mpr ⟨tt_at 138 rfl rfl, List.forall_mem_cons.mpr ⟨tt_at 140 rfl rfl, List.forall_mem_cons.mpr ⟨tt_at 142 rfl rfl, List.forall_mem_cons.mpr ⟨tt_at 144 rfl rfl, List.forall_mem_cons.mpr ⟨tt_at 146 rfl rfl, fun _ h => absurd h List.not_mem_nil⟩⟩⟩⟩⟩⟩⟩
set_option maxRecDepth 100000 in
theorem inX8 : ∀ w ∈ u_ws RX8 TX8 7, w ∈ TT := List.forall_mem_cons.mpr ⟨tt_at 297 rfl rfl, List.forall_mem_cons.mpr ⟨tt_at 299 rfl rfl, List.forall_mem_cons.mpr ⟨tt_at 301 rfl rfl, List.forall_mem_cons.mpr ⟨tt_at 303 rfl rfl, List.forall_mem_cons.mpr ⟨tt_at 305 rfl rfl, List.forall_mem_cons.mpr ⟨tt_at 307 rfl rfl, List.forall_mem_cons.mpr ⟨tt_at 309 rfl rfl, fun _ h => absurd h List.not_mem_nil⟩⟩⟩⟩⟩⟩⟩
set_option maxRecDepth 100000 in
theorem inX9 : ∀ w ∈ u_ws RX9 TX9 2, w ∈ TT := List.forall_mem_cons.mpr ⟨tt_at 158 rfl rfl, List.forall_mem_cons.mpr ⟨tt_at 160 rfl rfl, fun _ h => absurd h List.not_mem_nil⟩⟩
set_option maxRecDepth 100000 in
theorem inX10 : ∀ w ∈ u_ws RX10 TX10 4, w ∈ TT := List.forall_mem_cons.mpr ⟨tt_at 180 rfl rfl, List.forall_mem_cons.mpr ⟨tt_at 182 rfl rfl, List.forall_mem_cons.mpr ⟨tt_at 184 rfl rfl, List.forall_mem_cons.mpr ⟨tt_at 186 rfl rfl, fun _ h => absurd h List.not_mem_nil⟩⟩⟩⟩
set_option maxRecDepth 100000 in
theorem inX11 : ∀ w ∈ u_ws RX11 TX11 10, w ∈ TT := List.forall_mem_cons.mpr ⟨tt_at 413 rfl rfl, List.forall_mem_cons.mpr ⟨tt_at 415 rfl rfl, List.forall_mem_cons.mpr ⟨tt_at 417 rfl rfl, List.forall_mem_cons.mpr ⟨tt_at 419 rfl rfl, List.forall_mem_cons.mpr ⟨tt_at 421 rfl rfl, List.forall_mem_cons.mpr ⟨tt_at 423 rfl rfl, List.forall_mem_cons.mpr ⟨tt_at 425 rfl rfl, List.forall_mem_cons.mpr ⟨tt_at 427 rfl rfl, List.forall_mem_cons.mpr ⟨tt_at 429 rfl rfl, List.forall_mem_cons.mpr ⟨tt_at 431 rfl rfl, fun _ h => absurd h List.not_mem_nil⟩⟩⟩⟩⟩⟩⟩⟩⟩⟩
set_option maxRecDepth 100000 in
theorem inX12 : ∀ w ∈ u_ws RX12 TX12 52, w ∈ TT := List.forall_mem_cons.mpr ⟨tt_at 1304 rfl rfl, List.forall_mem_cons.mpr ⟨tt_at 1306 rfl rfl, List.forall_mem_cons.mpr ⟨tt_at 1308 rfl rfl, List.forall_mem_cons.mpr ⟨tt_at 1310 rfl rfl, List.forall_mem_cons.mpr ⟨tt_at 1312 rfl rfl, List.forall_mem_cons.mpr ⟨tt_at 1314 rfl rfl, List.forall_mem_cons.mpr ⟨tt_at 1316 rfl rfl, List.forall_mem_cons.mpr ⟨tt_at 1318 rfl rfl, List.forall_mem_cons.mpr ⟨tt_at 1320 rfl rfl, List.forall_mem_cons.mpr ⟨tt_at 1322 rfl rfl, List.forall_mem_cons.mpr ⟨tt_at 1324 rfl rfl, List.forall_mem_cons.mpr ⟨tt_at 1326 rfl rfl, List.forall_mem_cons.mpr ⟨tt_at 1328 rfl rfl, List.forall_mem_cons.mpr ⟨tt_at 1330 rfl rfl, List.forall_mem_cons.mpr ⟨tt_at 1332 rfl rfl, List.forall_mem_cons.mpr ⟨tt_at 1334 rfl rfl, List.forall_mem_cons.mpr ⟨tt_at 1336 rfl rfl, List.forall_mem_cons.mpr ⟨tt_at 1338 rfl rfl, List.forall_mem_cons.mpr ⟨tt_at 1340 rfl rfl, List.forall_mem_cons.mpr ⟨tt_at 1342 rfl rfl, List.forall_mem_cons.mpr ⟨tt_at 1344 rfl rfl, List.forall_mem_cons.mpr ⟨tt_at 1346 rfl rfl, List.forall_mem_cons.mpr ⟨tt_at 1348 rfl rfl, List.forall_mem_cons.mpr ⟨tt_at 1350 rfl rfl, List.forall_mem_cons.mpr ⟨tt_at 1352 rfl rfl, List.forall_mem_cons.mpr ⟨tt_at 1354 rfl rfl, List.forall_mem_cons.mpr ⟨tt_at 1356 rfl rfl, List.forall_mem_cons.mpr ⟨tt_at 1358 rfl rfl, List.forall_mem_cons.mpr ⟨tt_at 1360 rfl rfl, List.forall_mem_cons.mpr ⟨tt_at 1362 rfl rfl, List.forall_mem_cons.mpr ⟨tt_at 1364 rfl rfl, List.forall_mem_cons.mpr ⟨tt_at 1366 rfl rfl, List.forall_mem_cons.mpr ⟨tt_at 1368 rfl rfl, List.forall_mem_cons.mpr ⟨tt_at 1370 rfl rfl, List.forall_mem_cons.mpr ⟨tt_at 1372 rfl rfl, List.forall_mem_cons.mpr ⟨tt_at 1374 rfl rfl, List.forall_mem_cons.mpr ⟨tt_at 1376 rfl rfl, List.forall_mem_cons.mpr ⟨tt_at 1378 rfl rfl, List.forall_mem_cons.mpr ⟨tt_at 1380 rfl rfl, List.forall_mem_cons.mpr ⟨tt_at 1382 rfl rfl, List.forall_mem_cons.mpr ⟨tt_at 1384 rfl rfl, List.forall_mem_cons.mpr ⟨tt_at 1386 rfl rfl, List.forall_mem_cons.mpr ⟨tt_at 1388 rfl rfl, List.forall_mem_cons.mpr ⟨tt_at 1390 rfl rfl, List.forall_mem_cons.mpr ⟨tt_at 1392 rfl rfl, List.forall_mem_cons.mpr ⟨tt_at 1394 rfl rfl, List.forall_mem_cons.mpr ⟨tt_at 1396 rfl rfl, List.forall_mem_cons.mpr ⟨tt_at 1398 rfl rfl, List.forall_mem_cons.mpr ⟨tt_at 1400 rfl rfl, List.forall_mem_cons.mpr ⟨tt_at 1402 rfl rfl, List.forall_mem_cons.mpr ⟨tt_at 1404 rfl rfl, List.forall_mem_cons.mpr ⟨tt_at 1406 rfl rfl, fun _ h => absurd h List.not_mem_nil⟩⟩⟩⟩⟩⟩⟩⟩⟩⟩⟩⟩⟩⟩⟩⟩⟩⟩⟩⟩⟩⟩⟩⟩⟩⟩⟩⟩⟩⟩⟩⟩⟩⟩⟩⟩⟩⟩⟩⟩⟩⟩⟩⟩⟩⟩⟩⟩⟩⟩⟩⟩
end
section
/-! shapes: every cell of the class and of the reference behind their constructors, by its number -/
abbrev Shp : Type := (Nat × List (Option Nat)) ⊕ (FieldType × Nat)
def shp : List Shp := [
  .inl (4, [some 1, some 2]),
  .inr (.int, 101),
  .inr (.int, 101),
  .inl (7, [some 4, some 5, some 6, some 7, none, none, none]),
  .inr (.int, 640),
  .inr (.int, 40),
  .inr (.boolean, 40),
  .inr (.int, 16),
  .inl (9, [some 9, none]),
  .inr (.char, 1200),
  .inl (10, [some 11, some 12, none, none]),
  .inr (.int, 1201),
  .inr (.int, 1201),
  .inl (1, [none, some 14, some 15, some 16, some 17, some 18, some 19, none, some 20, none, some 21, some 22, some 23, none]),
  .inr (.int, 12),
  .inr (.int, 12),
  .inr (.int, 12),
  .inr (.int, 12),
  .inr (.int, 120),
  .inr (.int, 120),
  .inr (.int, 10),
  .inr (.int, 6),
  .inr (.int, 6),
  .inr (.int, 6),
  .inl (6, [some 8, some 10, some 13, none]),
  .inl (1, [none, some 26, some 27, some 28, some 29, some 30, some 31, none, some 32, none, some 33, some 34, some 35, none]),
  .inr (.int, 12),
  .inr (.int, 12),
  .inr (.int, 12),
  .inr (.int, 12),
  .inr (.int, 120),
  .inr (.int, 120),
  .inr (.int, 10),
  .inr (.int, 6),
  .inr (.int, 6),
  .inr (.int, 6),
  .inl (2, [some 0, some 3, some 25, some 37, some 38, some 39, some 40, some 41]),
  .inr (.int, 7680),
  .inr (.int, 480),
  .inr (.boolean, 40),
  .inr (.boolean, 40),
  .inr (.int, 10),
  .inl (8, [some 0, some 3, some 25, some 36, some 43, some 44, none]),
  .inr (.long, 1010),
  .inr (.long, 1010),
  .inl (5, [some 3, some 25, some 36, some 46, some 47, some 48, some 49, some 50, none]),
  .inr (.int, 60),
  .inr (.int, 60),
  .inr (.int, 60),
  .inr (.int, 60),
  .inr (.boolean, 60),
  .inl (0, [some 52, some 53, none, none, none, none]),
  .inr (.long, 12),
  .inr (.long, 12),
  .inl (3, [some 0, some 3, some 45, some 55, some 56, none, none, none]),
  .inr (.int, 16),
  .inr (.int, 16),
  .inl (11, [some 0, some 3, some 8, some 24, some 25, some 36, some 42, some 45, some 51, some 54]),
  .inl (12, [none, some 59, none, none, some 60, some 61, some 62, none, none, some 63, none, none, some 64, some 65, some 66, some 67, some 68, some 69, some 70, some 71, some 72, some 73, some 74, some 75, none, none, some 76, some 77, none, some 78, none, some 79, some 80, some 81, none, some 82, some 83, some 84, some 85, none, some 86, some 87, some 88, some 89, some 90, some 91, some 92, none, none, none, some 93, some 94]),
  .inr (.int, 1200),
  .inr (.int, 1202),
  .inr (.int, 1202),
  .inr (.long, 1202),
  .inr (.long, 10),
  .inr (.int, 2),
  .inr (.int, 24),
  .inr (.int, 24),
  .inr (.boolean, 240),
  .inr (.int, 240),
  .inr (.int, 240),
  .inr (.int, 240),
  .inr (.int, 2),
  .inr (.int, 20),
  .inr (.int, 2),
  .inr (.int, 36),
  .inr (.boolean, 20),
  .inr (.int, 101),
  .inr (.int, 101),
  .inr (.int, 16),
  .inr (.int, 40),
  .inr (.int, 640),
  .inr (.boolean, 40),
  .inr (.boolean, 122880),
  .inr (.boolean, 4913),
  .inr (.boolean, 4913),
  .inr (.boolean, 102010),
  .inr (.int, 60),
  .inr (.int, 60),
  .inr (.int, 60),
  .inr (.int, 60),
  .inr (.boolean, 60),
  .inr (.long, 12),
  .inr (.long, 12),
  .inr (.int, 16),
  .inr (.int, 16)]
abbrev NS : Nat := 95
theorem shp_len : shp.length = NS := rfl
theorem shp_small : (shp.all fun x => match x with | .inr (_, n) => Nat.ble n 200000 | _ => true) = true := by decide +kernel
def clN : List String := ["RowDrawer$BestSet", "RowDrawer$Book", "RowDrawer$Finder", "RowDrawer$Lesson", "RowDrawer$Lexicon", "RowDrawer$Marks", "RowDrawer$Reader", "RowDrawer$Sentences", "RowDrawer$Table", "RowDrawer$Tape", "RowDrawer$Tokens", "RowDrawer", "RowDrawerModel", "java/lang/Integer", "java/lang/Long", "java/lang/Math", "java/util/Arrays", "java/lang/String"]
abbrev MI : Type := Nat × MethodName × ByteArray × Nat × Option FieldType
def mK (μ : MI) : Nat := μ.1
def mY (μ : MI) : MethodName := μ.2.1
def mB (μ : MI) : ByteArray := μ.2.2.1
def mL (μ : MI) : Nat := μ.2.2.2.1
def mR (μ : MI) : Option FieldType := μ.2.2.2.2
def FL (own : String) (q : Nat × Nat × Nat) : Prop := ∃ (C : String) (Tb : u_T) (N : Nat), vwCl[q.2.1]? = some (C, Tb, N) ∧ q.2.2 < N ∧ Cond.fieldLink own q.1 (Tb q.2.2).1 (Tb q.2.2).2.1 (Tb q.2.2).2.2.1 ∈ TT ∧ (∀ w ∈ u_ws C Tb N, w ∈ TT)
def PL (own : String) (q : Nat × Nat × Nat × Nat) : Prop := ∃ (C : String) (Tb : u_T) (N : Nat) (ty0 : Nat → FieldType), vwCl[q.2.1]? = some (C, Tb, N) ∧ q.2.2.1 < N ∧ Cond.fieldLink own q.1 (Tb q.2.2.1).1 (Tb q.2.2.1).2.1 (Tb q.2.2.1).2.2.1 ∈ TT ∧ (∀ w ∈ u_ws C Tb N, w ∈ TT) ∧ (∀ k, k < N → parseFieldDescriptor (Tb k).2.2.1 = some (ty0 k)) ∧ (∀ a, a < N → ∀ b, b < N → a ≠ b → (Tb a).2.1 ≠ (Tb b).2.1) ∧ (Tb q.2.2.1).2.2.2 = false ∧ parseFieldDescriptor (Tb q.2.2.1).2.2.1 = some (if q.2.2.2 = 0 then .int else .boolean)
def MOK (q : MI × Nat × Bool) : Prop := Cond.code (mY q.1) (mB q.1) (mL q.1) (mR q.1) ∈ TT ∧ Cond.initialized (mY q.1).cls ∈ TT ∧ (mY q.1).cls ≠ "java/lang/invoke/MethodHandle" ∧ (mY q.1).cls ≠ "java/lang/invoke/VarHandle" ∧ (parseMethodDescriptor (mY q.1).desc).map (fun d => d.parameters.length) = some q.2.1 ∧ (if q.2.2 = true then Cond.static (mY q.1) ∈ TT else Cond.instanceMethod (mY q.1) ∈ TT ∧ Cond.selects (mY q.1).cls (mY q.1) (mY q.1) ∈ TT) ∧ plainName (mY q.1).cls = true ∧ mL q.1 ≤ 21 ∧ (mY q.1).cls = clN.getD (mK q.1) ""
def nestL : List (String × Nat × MethodName × String) := [("RowDrawer$Book", 61, ⟨"RowDrawer", "isRelation", "(I)Z"⟩, "RowDrawer"), ("RowDrawer$Table", 92, ⟨"RowDrawer", "isRelation", "(I)Z"⟩, "RowDrawer")]
def m_BestSet_setCaught : MI := (0, ⟨"RowDrawer$BestSet", "setCaught", "(IJJ)V"⟩, prog_2_method_2_code, 6, none)
def m_BestSet_choose : MI := (0, ⟨"RowDrawer$BestSet", "choose", "(II)I"⟩, prog_2_method_3_code, 3, (some .int))
def m_BestSet_tryFrom : MI := (0, ⟨"RowDrawer$BestSet", "tryFrom", "(IIJJ)V"⟩, prog_2_method_4_code, 7, none)
def m_BestSet_weigh : MI := (0, ⟨"RowDrawer$BestSet", "weigh", "(II)V"⟩, prog_2_method_5_code, 4, none)
def m_Book_clear : MI := (1, ⟨"RowDrawer$Book", "clear", "()V"⟩, prog_3_method_2_code, 1, none)
def m_Book_become : MI := (1, ⟨"RowDrawer$Book", "become", "(LRowDrawer$Book;)V"⟩, prog_3_method_3_code, 2, none)
def m_Book_openRule : MI := (1, ⟨"RowDrawer$Book", "openRule", "(I)V"⟩, prog_3_method_4_code, 2, none)
def m_Book_openRuleHas : MI := (1, ⟨"RowDrawer$Book", "openRuleHas", "(I)Z"⟩, prog_3_method_5_code, 2, (some .boolean))
def m_Book_addItem : MI := (1, ⟨"RowDrawer$Book", "addItem", "(III)V"⟩, prog_3_method_6_code, 5, none)
def m_Book_closeRule : MI := (1, ⟨"RowDrawer$Book", "closeRule", "()V"⟩, prog_3_method_7_code, 1, none)
def m_Book_addBar : MI := (1, ⟨"RowDrawer$Book", "addBar", "(I)V"⟩, prog_3_method_8_code, 2, none)
def m_Book_addChain : MI := (1, ⟨"RowDrawer$Book", "addChain", "(III)V"⟩, prog_3_method_9_code, 4, none)
def m_Book_addSingle : MI := (1, ⟨"RowDrawer$Book", "addSingle", "(I)V"⟩, prog_3_method_10_code, 2, none)
def m_Book_rules : MI := (1, ⟨"RowDrawer$Book", "rules", "()I"⟩, prog_3_method_11_code, 1, (some .int))
def m_Book_bars : MI := (1, ⟨"RowDrawer$Book", "bars", "()I"⟩, prog_3_method_12_code, 1, (some .int))
def m_Book_chains : MI := (1, ⟨"RowDrawer$Book", "chains", "()I"⟩, prog_3_method_13_code, 1, (some .int))
def m_Book_hasRule : MI := (1, ⟨"RowDrawer$Book", "hasRule", "(I)Z"⟩, prog_3_method_14_code, 2, (some .boolean))
def m_Book_relationOf : MI := (1, ⟨"RowDrawer$Book", "relationOf", "(I)I"⟩, prog_3_method_15_code, 2, (some .int))
def m_Book_itemsOf : MI := (1, ⟨"RowDrawer$Book", "itemsOf", "(I)I"⟩, prog_3_method_16_code, 2, (some .int))
def m_Book_leftItem : MI := (1, ⟨"RowDrawer$Book", "leftItem", "(I)I"⟩, prog_3_method_17_code, 2, (some .int))
def m_Book_rightItem : MI := (1, ⟨"RowDrawer$Book", "rightItem", "(I)I"⟩, prog_3_method_18_code, 2, (some .int))
def m_Book_kindOf : MI := (1, ⟨"RowDrawer$Book", "kindOf", "(II)I"⟩, prog_3_method_19_code, 3, (some .int))
def m_Book_numberOf : MI := (1, ⟨"RowDrawer$Book", "numberOf", "(II)I"⟩, prog_3_method_20_code, 3, (some .int))
def m_Book_hasItem : MI := (1, ⟨"RowDrawer$Book", "hasItem", "(II)Z"⟩, prog_3_method_21_code, 3, (some .boolean))
def m_Book_isBarred : MI := (1, ⟨"RowDrawer$Book", "isBarred", "(I)Z"⟩, prog_3_method_22_code, 3, (some .boolean))
def m_Book_chainGoal : MI := (1, ⟨"RowDrawer$Book", "chainGoal", "(I)I"⟩, prog_3_method_23_code, 2, (some .int))
def m_Book_chainFirst : MI := (1, ⟨"RowDrawer$Book", "chainFirst", "(I)I"⟩, prog_3_method_24_code, 2, (some .int))
def m_Book_chainSecond : MI := (1, ⟨"RowDrawer$Book", "chainSecond", "(I)I"⟩, prog_3_method_25_code, 2, (some .int))
def m_Book_isSingle : MI := (1, ⟨"RowDrawer$Book", "isSingle", "(I)Z"⟩, prog_3_method_26_code, 2, (some .boolean))
def m_Finder_forget : MI := (2, ⟨"RowDrawer$Finder", "forget", "(I)V"⟩, prog_4_method_2_code, 2, none)
def m_Finder_forgetThoseWith : MI := (2, ⟨"RowDrawer$Finder", "forgetThoseWith", "(I)V"⟩, prog_4_method_3_code, 4, none)
def m_Finder_forgetAll : MI := (2, ⟨"RowDrawer$Finder", "forgetAll", "()V"⟩, prog_4_method_4_code, 2, none)
def m_Finder_refresh : MI := (2, ⟨"RowDrawer$Finder", "refresh", "()V"⟩, prog_4_method_5_code, 2, none)
def m_Finder_drawSentence : MI := (2, ⟨"RowDrawer$Finder", "drawSentence", "(I)V"⟩, prog_4_method_6_code, 3, none)
def m_Finder_clearSentence : MI := (2, ⟨"RowDrawer$Finder", "clearSentence", "(I)V"⟩, prog_4_method_7_code, 4, none)
def m_Finder_hasBarredWord : MI := (2, ⟨"RowDrawer$Finder", "hasBarredWord", "(I)Z"⟩, prog_4_method_8_code, 3, (some .boolean))
def m_Finder_drawRule : MI := (2, ⟨"RowDrawer$Finder", "drawRule", "(II)V"⟩, prog_4_method_9_code, 13, none)
def m_Finder_fitItems : MI := (2, ⟨"RowDrawer$Finder", "fitItems", "(II)V"⟩, prog_4_method_10_code, 5, none)
def m_Finder_placesOf : MI := (2, ⟨"RowDrawer$Finder", "placesOf", "(III)I"⟩, prog_4_method_11_code, 6, (some .int))
def m_Finder_forward : MI := (2, ⟨"RowDrawer$Finder", "forward", "(IIII)I"⟩, prog_4_method_12_code, 7, (some .int))
def m_Finder_backward : MI := (2, ⟨"RowDrawer$Finder", "backward", "(III)I"⟩, prog_4_method_13_code, 6, (some .int))
def m_Finder_keepPairs : MI := (2, ⟨"RowDrawer$Finder", "keepPairs", "(IIIZ)V"⟩, prog_4_method_14_code, 6, none)
def m_Finder_countPairs : MI := (2, ⟨"RowDrawer$Finder", "countPairs", "(II)I"⟩, prog_4_method_15_code, 5, (some .int))
def m_Finder_rightPlaces : MI := (2, ⟨"RowDrawer$Finder", "rightPlaces", "(III)I"⟩, prog_4_method_16_code, 4, (some .int))
def m_Finder_isBarred : MI := (2, ⟨"RowDrawer$Finder", "isBarred", "(I)Z"⟩, prog_4_method_17_code, 2, (some .boolean))
def m_Finder_has : MI := (2, ⟨"RowDrawer$Finder", "has", "(IIII)Z"⟩, prog_4_method_18_code, 5, (some .boolean))
def m_Finder_total : MI := (2, ⟨"RowDrawer$Finder", "total", "(Z)I"⟩, prog_4_method_19_code, 5, (some .int))
def m_Finder_totalOfRule : MI := (2, ⟨"RowDrawer$Finder", "totalOfRule", "(I)I"⟩, prog_4_method_20_code, 4, (some .int))
def m_Finder_tellOf : MI := (2, ⟨"RowDrawer$Finder", "tellOf", "(II)I"⟩, prog_4_method_21_code, 7, (some .int))
def m_Finder_tellWithin : MI := (2, ⟨"RowDrawer$Finder", "tellWithin", "(IIII)I"⟩, prog_4_method_22_code, 8, (some .int))
def m_Finder_part : MI := (2, ⟨"RowDrawer$Finder", "part", "(IIIII)I"⟩, prog_4_method_23_code, 6, (some .int))
def m_Lesson_study : MI := (3, ⟨"RowDrawer$Lesson", "study", "(I)I"⟩, prog_5_method_2_code, 4, (some .int))
def m_Lesson_begin : MI := (3, ⟨"RowDrawer$Lesson", "begin", "(II)V"⟩, prog_5_method_3_code, 5, none)
def m_Lesson_isLike : MI := (3, ⟨"RowDrawer$Lesson", "isLike", "(I)Z"⟩, prog_5_method_4_code, 3, (some .boolean))
def m_Lesson_wordAt : MI := (3, ⟨"RowDrawer$Lesson", "wordAt", "(II)I"⟩, prog_5_method_5_code, 4, (some .int))
def m_Lesson_widen : MI := (3, ⟨"RowDrawer$Lesson", "widen", "(I)V"⟩, prog_5_method_6_code, 4, none)
def m_Lesson_tellOf : MI := (3, ⟨"RowDrawer$Lesson", "tellOf", "(II)I"⟩, prog_5_method_7_code, 3, (some .int))
def m_Lesson_roleOf : MI := (3, ⟨"RowDrawer$Lesson", "roleOf", "(I)I"⟩, prog_5_method_8_code, 2, (some .int))
def m_Lesson_caught : MI := (3, ⟨"RowDrawer$Lesson", "caught", "(Z)I"⟩, prog_5_method_9_code, 4, (some .int))
def m_Lesson_standsAt : MI := (3, ⟨"RowDrawer$Lesson", "standsAt", "(I)Z"⟩, prog_5_method_10_code, 3, (some .boolean))
def m_Lexicon_has : MI := (4, ⟨"RowDrawer$Lexicon", "has", "(I)Z"⟩, prog_6_method_2_code, 1, (some .boolean))
def m_Lexicon_setSort : MI := (4, ⟨"RowDrawer$Lexicon", "setSort", "(II)Z"⟩, prog_6_method_3_code, 3, (some .boolean))
def m_Lexicon_sortOf : MI := (4, ⟨"RowDrawer$Lexicon", "sortOf", "(I)I"⟩, prog_6_method_4_code, 2, (some .int))
def m_Lexicon_link : MI := (4, ⟨"RowDrawer$Lexicon", "link", "(II)Z"⟩, prog_6_method_5_code, 3, (some .boolean))
def m_Lexicon_leadsTo : MI := (4, ⟨"RowDrawer$Lexicon", "leadsTo", "(II)Z"⟩, prog_6_method_6_code, 5, (some .boolean))
def m_Lexicon_nameOf : MI := (4, ⟨"RowDrawer$Lexicon", "nameOf", "(I)I"⟩, prog_6_method_7_code, 4, (some .int))
def m_Lexicon_fits : MI := (4, ⟨"RowDrawer$Lexicon", "fits", "(III)Z"⟩, prog_6_method_8_code, 4, (some .boolean))
def m_Marks_put : MI := (5, ⟨"RowDrawer$Marks", "put", "(IIIIZ)I"⟩, prog_7_method_2_code, 7, (some .int))
def m_Marks_indexOf : MI := (5, ⟨"RowDrawer$Marks", "indexOf", "(IIII)I"⟩, prog_7_method_3_code, 6, (some .int))
def m_Marks_size : MI := (5, ⟨"RowDrawer$Marks", "size", "()I"⟩, prog_7_method_4_code, 1, (some .int))
def m_Marks_isUsable : MI := (5, ⟨"RowDrawer$Marks", "isUsable", "(IIZ)Z"⟩, prog_7_method_5_code, 4, (some .boolean))
def m_Marks_sentenceOf : MI := (5, ⟨"RowDrawer$Marks", "sentenceOf", "(I)I"⟩, prog_7_method_6_code, 2, (some .int))
def m_Marks_leftOf : MI := (5, ⟨"RowDrawer$Marks", "leftOf", "(I)I"⟩, prog_7_method_7_code, 2, (some .int))
def m_Marks_rightOf : MI := (5, ⟨"RowDrawer$Marks", "rightOf", "(I)I"⟩, prog_7_method_8_code, 2, (some .int))
def m_Marks_caughtBy : MI := (5, ⟨"RowDrawer$Marks", "caughtBy", "(IZ)J"⟩, prog_7_method_9_code, 7, (some .long))
def m_Marks_shareOf : MI := (5, ⟨"RowDrawer$Marks", "shareOf", "(I)I"⟩, prog_7_method_10_code, 4, (some .int))
def m_Reader_draft : MI := (6, ⟨"RowDrawer$Reader", "draft", "()LRowDrawer$Book;"⟩, prog_8_method_2_code, 1, (some (.object "RowDrawer$Book")))
def m_Reader_read : MI := (6, ⟨"RowDrawer$Reader", "read", "()I"⟩, prog_8_method_3_code, 2, (some .int))
def m_Reader_readRule : MI := (6, ⟨"RowDrawer$Reader", "readRule", "()V"⟩, prog_8_method_4_code, 3, none)
def m_Reader_readItem : MI := (6, ⟨"RowDrawer$Reader", "readItem", "(I)Z"⟩, prog_8_method_5_code, 4, (some .boolean))
def m_Reader_isSpec : MI := (6, ⟨"RowDrawer$Reader", "isSpec", "(I)Z"⟩, prog_8_method_6_code, 1, (some .boolean))
def m_Reader_readSpec : MI := (6, ⟨"RowDrawer$Reader", "readSpec", "(I)Z"⟩, prog_8_method_7_code, 5, (some .boolean))
def m_Reader_readBar : MI := (6, ⟨"RowDrawer$Reader", "readBar", "()V"⟩, prog_8_method_8_code, 2, none)
def m_Reader_readChain : MI := (6, ⟨"RowDrawer$Reader", "readChain", "()V"⟩, prog_8_method_9_code, 4, none)
def m_Reader_readSingle : MI := (6, ⟨"RowDrawer$Reader", "readSingle", "()V"⟩, prog_8_method_10_code, 2, none)
def m_Reader_readNumber : MI := (6, ⟨"RowDrawer$Reader", "readNumber", "(II)I"⟩, prog_8_method_11_code, 4, (some .int))
def m_Reader_readSign : MI := (6, ⟨"RowDrawer$Reader", "readSign", "(I)Z"⟩, prog_8_method_12_code, 2, (some .boolean))
def m_Reader_fail : MI := (6, ⟨"RowDrawer$Reader", "fail", "(I)Z"⟩, prog_8_method_13_code, 2, (some .boolean))
def m_Sentences_tell : MI := (7, ⟨"RowDrawer$Sentences", "tell", "(I)I"⟩, prog_9_method_2_code, 2, (some .int))
def m_Sentences_close : MI := (7, ⟨"RowDrawer$Sentences", "close", "()I"⟩, prog_9_method_3_code, 2, (some .int))
def m_Sentences_remove : MI := (7, ⟨"RowDrawer$Sentences", "remove", "(I)Z"⟩, prog_9_method_4_code, 2, (some .boolean))
def m_Sentences_isThere : MI := (7, ⟨"RowDrawer$Sentences", "isThere", "(I)Z"⟩, prog_9_method_5_code, 2, (some .boolean))
def m_Sentences_lengthOf : MI := (7, ⟨"RowDrawer$Sentences", "lengthOf", "(I)I"⟩, prog_9_method_6_code, 2, (some .int))
def m_Sentences_wordAt : MI := (7, ⟨"RowDrawer$Sentences", "wordAt", "(II)I"⟩, prog_9_method_7_code, 4, (some .int))
def m_Sentences_told : MI := (7, ⟨"RowDrawer$Sentences", "told", "()I"⟩, prog_9_method_8_code, 1, (some .int))
def m_Sentences_came : MI := (7, ⟨"RowDrawer$Sentences", "came", "()I"⟩, prog_9_method_9_code, 1, (some .int))
def m_Sentences_present : MI := (7, ⟨"RowDrawer$Sentences", "present", "()I"⟩, prog_9_method_10_code, 1, (some .int))
def m_Table_forget : MI := (8, ⟨"RowDrawer$Table", "forget", "()V"⟩, prog_10_method_2_code, 1, none)
def m_Table_refresh : MI := (8, ⟨"RowDrawer$Table", "refresh", "()V"⟩, prog_10_method_3_code, 2, none)
def m_Table_addFindsOf : MI := (8, ⟨"RowDrawer$Table", "addFindsOf", "(I)V"⟩, prog_10_method_4_code, 6, none)
def m_Table_nameAt : MI := (8, ⟨"RowDrawer$Table", "nameAt", "(II)I"⟩, prog_10_method_5_code, 3, (some .int))
def m_Table_addRow : MI := (8, ⟨"RowDrawer$Table", "addRow", "(III)V"⟩, prog_10_method_6_code, 4, none)
def m_Table_followChains : MI := (8, ⟨"RowDrawer$Table", "followChains", "()V"⟩, prog_10_method_7_code, 4, none)
def m_Table_followChain : MI := (8, ⟨"RowDrawer$Table", "followChain", "(III)Z"⟩, prog_10_method_8_code, 6, (some .boolean))
def m_Table_followFrom : MI := (8, ⟨"RowDrawer$Table", "followFrom", "(IIII)Z"⟩, prog_10_method_9_code, 11, (some .boolean))
def m_Table_hasRow : MI := (8, ⟨"RowDrawer$Table", "hasRow", "(III)Z"⟩, prog_10_method_10_code, 5, (some .boolean))
def m_Table_degree : MI := (8, ⟨"RowDrawer$Table", "degree", "(II)I"⟩, prog_10_method_11_code, 4, (some .int))
def m_Table_size : MI := (8, ⟨"RowDrawer$Table", "size", "(I)I"⟩, prog_10_method_12_code, 4, (some .int))
def m_Table_name : MI := (8, ⟨"RowDrawer$Table", "name", "(IIZ)I"⟩, prog_10_method_13_code, 7, (some .int))
def m_Table_secondName : MI := (8, ⟨"RowDrawer$Table", "secondName", "(III)I"⟩, prog_10_method_14_code, 6, (some .int))
def m_Table_quarrelling : MI := (8, ⟨"RowDrawer$Table", "quarrelling", "(II)I"⟩, prog_10_method_15_code, 5, (some .int))
def m_Tape_put : MI := (9, ⟨"RowDrawer$Tape", "put", "(J)V"⟩, prog_11_method_2_code, 5, none)
def m_Tape_isKnown : MI := (9, ⟨"RowDrawer$Tape", "isKnown", "(I)Z"⟩, prog_11_method_3_code, 1, (some .boolean))
def m_Tape_length : MI := (9, ⟨"RowDrawer$Tape", "length", "()I"⟩, prog_11_method_4_code, 1, (some .int))
def m_Tape_at : MI := (9, ⟨"RowDrawer$Tape", "at", "(I)C"⟩, prog_11_method_5_code, 2, (some .char))
def m_Tape_clear : MI := (9, ⟨"RowDrawer$Tape", "clear", "()V"⟩, prog_11_method_6_code, 1, none)
def m_Tokens_scan : MI := (10, ⟨"RowDrawer$Tokens", "scan", "(LRowDrawer$Tape;)V"⟩, prog_12_method_2_code, 3, none)
def m_Tokens_add : MI := (10, ⟨"RowDrawer$Tokens", "add", "(II)V"⟩, prog_12_method_3_code, 3, none)
def m_Tokens_code : MI := (10, ⟨"RowDrawer$Tokens", "code", "()I"⟩, prog_12_method_4_code, 1, (some .int))
def m_Tokens_place : MI := (10, ⟨"RowDrawer$Tokens", "place", "()I"⟩, prog_12_method_5_code, 1, (some .int))
def m_Tokens_advance : MI := (10, ⟨"RowDrawer$Tokens", "advance", "()V"⟩, prog_12_method_6_code, 1, none)
def m_Tokens_goesOn : MI := (10, ⟨"RowDrawer$Tokens", "goesOn", "(LRowDrawer$Tape;I)Z"⟩, prog_12_method_7_code, 4, (some .boolean))
def m_Tokens_codeAt : MI := (10, ⟨"RowDrawer$Tokens", "codeAt", "(LRowDrawer$Tape;I)I"⟩, prog_12_method_8_code, 3, (some .int))
def m_Tokens_numberCode : MI := (10, ⟨"RowDrawer$Tokens", "numberCode", "(LRowDrawer$Tape;I)I"⟩, prog_12_method_9_code, 5, (some .int))
def m_Tokens_wordCode : MI := (10, ⟨"RowDrawer$Tokens", "wordCode", "(LRowDrawer$Tape;I)I"⟩, prog_12_method_10_code, 3, (some .int))
def m_Tokens_sWordCode : MI := (10, ⟨"RowDrawer$Tokens", "sWordCode", "(LRowDrawer$Tape;I)I"⟩, prog_12_method_11_code, 2, (some .int))
def m_Tokens_stands : MI := (10, ⟨"RowDrawer$Tokens", "stands", "(LRowDrawer$Tape;ILjava/lang/String;)Z"⟩, prog_12_method_12_code, 4, (some .boolean))
def m_Tokens_isBlank : MI := (10, ⟨"RowDrawer$Tokens", "isBlank", "(C)Z"⟩, prog_12_method_13_code, 1, (some .boolean))
def m_Tokens_isLetter : MI := (10, ⟨"RowDrawer$Tokens", "isLetter", "(C)Z"⟩, prog_12_method_14_code, 1, (some .boolean))
def m_Tokens_isDigit : MI := (10, ⟨"RowDrawer$Tokens", "isDigit", "(C)Z"⟩, prog_12_method_15_code, 1, (some .boolean))
def m_D_sort : MI := (11, ⟨"RowDrawer", "sort", "(II)Z"⟩, prog_1_method_2_code, 3, (some .boolean))
def m_D_join : MI := (11, ⟨"RowDrawer", "join", "(II)Z"⟩, prog_1_method_3_code, 3, (some .boolean))
def m_D_word : MI := (11, ⟨"RowDrawer", "word", "(I)I"⟩, prog_1_method_4_code, 2, (some .int))
def m_D_sentence : MI := (11, ⟨"RowDrawer", "sentence", "()I"⟩, prog_1_method_5_code, 2, (some .int))
def m_D_take : MI := (11, ⟨"RowDrawer", "take", "(I)Z"⟩, prog_1_method_6_code, 2, (some .boolean))
def m_D_feed : MI := (11, ⟨"RowDrawer", "feed", "(JJJ)I"⟩, prog_1_method_7_code, 7, (some .int))
def m_D_text : MI := (11, ⟨"RowDrawer", "text", "()I"⟩, prog_1_method_8_code, 2, (some .int))
def m_D_finds : MI := (11, ⟨"RowDrawer", "finds", "()I"⟩, prog_1_method_9_code, 1, (some .int))
def m_D_find : MI := (11, ⟨"RowDrawer", "find", "(II)I"⟩, prog_1_method_10_code, 3, (some .int))
def m_D_rows : MI := (11, ⟨"RowDrawer", "rows", "(I)I"⟩, prog_1_method_11_code, 2, (some .int))
def m_D_row : MI := (11, ⟨"RowDrawer", "row", "(III)I"⟩, prog_1_method_12_code, 4, (some .int))
def m_D_quarrel : MI := (11, ⟨"RowDrawer", "quarrel", "(II)I"⟩, prog_1_method_13_code, 3, (some .int))
def m_D_mark : MI := (11, ⟨"RowDrawer", "mark", "(IIIIZ)I"⟩, prog_1_method_14_code, 7, (some .int))
def m_D_best : MI := (11, ⟨"RowDrawer", "best", "(I)I"⟩, prog_1_method_16_code, 4, (some .int))
def m_D_learn : MI := (11, ⟨"RowDrawer", "learn", "(I)I"⟩, prog_1_method_17_code, 2, (some .int))
def m_D_learnt : MI := (11, ⟨"RowDrawer", "learnt", "(II)I"⟩, prog_1_method_18_code, 3, (some .int))
def m_D_catches : MI := (11, ⟨"RowDrawer", "catches", "(Z)I"⟩, prog_1_method_19_code, 2, (some .int))
def m_D_named : MI := (11, ⟨"RowDrawer", "named", "(I)I"⟩, prog_1_method_20_code, 2, (some .int))
def m_D_count : MI := (11, ⟨"RowDrawer", "count", "(I)I"⟩, prog_1_method_21_code, 2, (some .int))
def m_D_isRelation : MI := (11, ⟨"RowDrawer", "isRelation", "(I)Z"⟩, prog_1_method_22_code, 1, (some .boolean))
def m_M_thrown : MI := (12, ⟨"RowDrawerModel", "thrown", "()I"⟩, prog_14_method_1_code, 1, (some .int))
def m_M_feed : MI := (12, ⟨"RowDrawerModel", "feed", "(JJJ)I"⟩, prog_14_method_2_code, 7, (some .int))
def m_M_lay : MI := (12, ⟨"RowDrawerModel", "lay", "(J)V"⟩, prog_14_method_3_code, 5, none)
def m_M_isLetter : MI := (12, ⟨"RowDrawerModel", "isLetter", "(I)Z"⟩, prog_14_method_5_code, 1, (some .boolean))
def m_M_isDigit : MI := (12, ⟨"RowDrawerModel", "isDigit", "(I)Z"⟩, prog_14_method_6_code, 1, (some .boolean))
def m_M_rank : MI := (12, ⟨"RowDrawerModel", "rank", "(I)I"⟩, prog_14_method_7_code, 1, (some .int))
def m_M_isSignOf : MI := (12, ⟨"RowDrawerModel", "isSignOf", "(I)Z"⟩, prog_14_method_8_code, 1, (some .boolean))
def m_M_cutAll : MI := (12, ⟨"RowDrawerModel", "cutAll", "()V"⟩, prog_14_method_9_code, 7, none)
def m_M_wrong : MI := (12, ⟨"RowDrawerModel", "wrong", "(I)V"⟩, prog_14_method_10_code, 2, none)
def m_M_isSign : MI := (12, ⟨"RowDrawerModel", "isSign", "(I)Z"⟩, prog_14_method_11_code, 2, (some .boolean))
def m_M_isWord : MI := (12, ⟨"RowDrawerModel", "isWord", "(I)Z"⟩, prog_14_method_12_code, 2, (some .boolean))
def m_M_takeSign : MI := (12, ⟨"RowDrawerModel", "takeSign", "(I)V"⟩, prog_14_method_13_code, 2, none)
def m_M_hasWord : MI := (12, ⟨"RowDrawerModel", "hasWord", "(I)Z"⟩, prog_14_method_15_code, 3, (some .boolean))
def m_M_takeWord : MI := (12, ⟨"RowDrawerModel", "takeWord", "(I)V"⟩, prog_14_method_16_code, 2, none)
def m_M_takeNumber : MI := (12, ⟨"RowDrawerModel", "takeNumber", "(II)I"⟩, prog_14_method_17_code, 3, (some .int))
def m_M_text : MI := (12, ⟨"RowDrawerModel", "text", "()I"⟩, prog_14_method_18_code, 2, (some .int))
def m_M_statement : MI := (12, ⟨"RowDrawerModel", "statement", "()V"⟩, prog_14_method_19_code, 2, none)
def m_M_readChain : MI := (12, ⟨"RowDrawerModel", "readChain", "()V"⟩, prog_14_method_20_code, 2, none)
def m_M_readRule : MI := (12, ⟨"RowDrawerModel", "readRule", "()V"⟩, prog_14_method_21_code, 3, none)
def m_M_isItem : MI := (12, ⟨"RowDrawerModel", "isItem", "()Z"⟩, prog_14_method_22_code, 1, (some .boolean))
def m_M_item : MI := (12, ⟨"RowDrawerModel", "item", "(I)V"⟩, prog_14_method_23_code, 3, none)
def m_M_spec : MI := (12, ⟨"RowDrawerModel", "spec", "(I)V"⟩, prog_14_method_24_code, 2, none)
def m_M_isOne : MI := (12, ⟨"RowDrawerModel", "isOne", "(I)Z"⟩, prog_14_method_25_code, 1, (some .boolean))
def m_M_sort : MI := (12, ⟨"RowDrawerModel", "sort", "(II)Z"⟩, prog_14_method_26_code, 3, (some .boolean))
def m_M_nameOf : MI := (12, ⟨"RowDrawerModel", "nameOf", "(I)I"⟩, prog_14_method_27_code, 3, (some .int))
def m_M_join : MI := (12, ⟨"RowDrawerModel", "join", "(II)Z"⟩, prog_14_method_28_code, 4, (some .boolean))
def m_M_named : MI := (12, ⟨"RowDrawerModel", "named", "(I)I"⟩, prog_14_method_29_code, 2, (some .int))
def m_M_word : MI := (12, ⟨"RowDrawerModel", "word", "(I)I"⟩, prog_14_method_30_code, 2, (some .int))
def m_M_sentence : MI := (12, ⟨"RowDrawerModel", "sentence", "()I"⟩, prog_14_method_31_code, 2, (some .int))
def m_M_isThere : MI := (12, ⟨"RowDrawerModel", "isThere", "(I)Z"⟩, prog_14_method_32_code, 2, (some .boolean))
def m_M_take : MI := (12, ⟨"RowDrawerModel", "take", "(I)Z"⟩, prog_14_method_33_code, 2, (some .boolean))
def m_M_fits : MI := (12, ⟨"RowDrawerModel", "fits", "(III)Z"⟩, prog_14_method_34_code, 4, (some .boolean))
def m_M_findOf : MI := (12, ⟨"RowDrawerModel", "findOf", "(IIII)I"⟩, prog_14_method_35_code, 4, (some .int))
def m_M_findAll : MI := (12, ⟨"RowDrawerModel", "findAll", "()V"⟩, prog_14_method_36_code, 3, none)
def m_M_matches : MI := (12, ⟨"RowDrawerModel", "matches", "(II)V"⟩, prog_14_method_37_code, 8, none)
def m_M_goes : MI := (12, ⟨"RowDrawerModel", "goes", "(IIII)V"⟩, prog_14_method_38_code, 7, none)
def m_M_isBarred : MI := (12, ⟨"RowDrawerModel", "isBarred", "(I)Z"⟩, prog_14_method_39_code, 5, (some .boolean))
def m_M_finds : MI := (12, ⟨"RowDrawerModel", "finds", "()I"⟩, prog_14_method_40_code, 3, (some .int))
def m_M_find : MI := (12, ⟨"RowDrawerModel", "find", "(II)I"⟩, prog_14_method_41_code, 7, (some .int))
def m_M_findRows : MI := (12, ⟨"RowDrawerModel", "findRows", "()V"⟩, prog_14_method_42_code, 5, none)
def m_M_joins : MI := (12, ⟨"RowDrawerModel", "joins", "(III)Z"⟩, prog_14_method_43_code, 8, (some .boolean))
def m_M_isR : MI := (12, ⟨"RowDrawerModel", "isR", "(I)Z"⟩, prog_14_method_44_code, 1, (some .boolean))
def m_M_rows : MI := (12, ⟨"RowDrawerModel", "rows", "(I)I"⟩, prog_14_method_45_code, 4, (some .int))
def m_M_row : MI := (12, ⟨"RowDrawerModel", "row", "(III)I"⟩, prog_14_method_46_code, 6, (some .int))
def m_M_quarrel : MI := (12, ⟨"RowDrawerModel", "quarrel", "(II)I"⟩, prog_14_method_47_code, 7, (some .int))
def m_M_mark : MI := (12, ⟨"RowDrawerModel", "mark", "(IIIIZ)I"⟩, prog_14_method_48_code, 7, (some .int))
def m_M_catchesMark : MI := (12, ⟨"RowDrawerModel", "catchesMark", "(II)Z"⟩, prog_14_method_49_code, 3, (some .boolean))
def m_M_caught : MI := (12, ⟨"RowDrawerModel", "caught", "(IZ)I"⟩, prog_14_method_50_code, 5, (some .int))
def m_M_rule : MI := (12, ⟨"RowDrawerModel", "rule", "(II)I"⟩, prog_14_method_51_code, 8, (some .int))
def m_M_bits : MI := (12, ⟨"RowDrawerModel", "bits", "(J)I"⟩, prog_14_method_52_code, 4, (some .int))
def m_M_best : MI := (12, ⟨"RowDrawerModel", "best", "(I)I"⟩, prog_14_method_53_code, 10, (some .int))
def m_M_isLike : MI := (12, ⟨"RowDrawerModel", "isLike", "(III)Z"⟩, prog_14_method_54_code, 4, (some .boolean))
def m_M_least : MI := (12, ⟨"RowDrawerModel", "least", "(II)I"⟩, prog_14_method_55_code, 2, (some .int))
def m_M_wordAt : MI := (12, ⟨"RowDrawerModel", "wordAt", "(II)I"⟩, prog_14_method_56_code, 3, (some .int))
def m_M_learn : MI := (12, ⟨"RowDrawerModel", "learn", "(I)I"⟩, prog_14_method_57_code, 8, (some .int))
def m_M_learnt : MI := (12, ⟨"RowDrawerModel", "learnt", "(II)I"⟩, prog_14_method_58_code, 4, (some .int))
def m_M_catches : MI := (12, ⟨"RowDrawerModel", "catches", "(Z)I"⟩, prog_14_method_59_code, 6, (some .int))
def m_M_count : MI := (12, ⟨"RowDrawerModel", "count", "(I)I"⟩, prog_14_method_60_code, 4, (some .int))
def m_M_barredFinds : MI := (12, ⟨"RowDrawerModel", "barredFinds", "()I"⟩, prog_14_method_61_code, 3, (some .int))
def m_Integer_bitCount : MI := (13, ⟨"java/lang/Integer", "bitCount", "(I)I"⟩, prog_16_method_49_code, 1, (some .int))
def m_Long_bitCount : MI := (14, ⟨"java/lang/Long", "bitCount", "(J)I"⟩, prog_17_method_50_code, 2, (some .int))
def m_Arrays_fill : MI := (16, ⟨"java/util/Arrays", "fill", "([JJ)V"⟩, prog_25_method_101_code, 5, none)
def m_String_length : MI := (17, ⟨"java/lang/String", "length", "()I"⟩, prog_20_method_54_code, 1, (some .int))
def m_String_charAt : MI := (17, ⟨"java/lang/String", "charAt", "(I)C"⟩, prog_20_method_56_code, 2, (some .char))
def MT : List (MI × Nat × Bool) := [(m_BestSet_setCaught, 3, false), (m_BestSet_choose, 2, false), (m_BestSet_tryFrom, 4, false), (m_BestSet_weigh, 2, false), (m_Book_clear, 0, false), (m_Book_become, 1, false), (m_Book_openRule, 1, false), (m_Book_openRuleHas, 1, false), (m_Book_addItem, 3, false), (m_Book_closeRule, 0, false), (m_Book_addBar, 1, false), (m_Book_addChain, 3, false), (m_Book_addSingle, 1, false), (m_Book_rules, 0, false), (m_Book_bars, 0, false), (m_Book_chains, 0, false), (m_Book_hasRule, 1, false), (m_Book_relationOf, 1, false), (m_Book_itemsOf, 1, false), (m_Book_leftItem, 1, false), (m_Book_rightItem, 1, false), (m_Book_kindOf, 2, false), (m_Book_numberOf, 2, false), (m_Book_hasItem, 2, false), (m_Book_isBarred, 1, false), (m_Book_chainGoal, 1, false), (m_Book_chainFirst, 1, false), (m_Book_chainSecond, 1, false), (m_Book_isSingle, 1, false), (m_Finder_forget, 1, false), (m_Finder_forgetThoseWith, 1, false), (m_Finder_forgetAll, 0, false), (m_Finder_refresh, 0, false), (m_Finder_drawSentence, 1, false), (m_Finder_clearSentence, 1, false), (m_Finder_hasBarredWord, 1, false), (m_Finder_drawRule, 2, false), (m_Finder_fitItems, 2, false), (m_Finder_placesOf, 3, false), (m_Finder_forward, 4, false), (m_Finder_backward, 3, false), (m_Finder_keepPairs, 4, false), (m_Finder_countPairs, 2, false), (m_Finder_rightPlaces, 3, false), (m_Finder_isBarred, 1, false), (m_Finder_has, 4, false), (m_Finder_total, 1, false), (m_Finder_totalOfRule, 1, false), (m_Finder_tellOf, 2, false), (m_Finder_tellWithin, 4, false), (m_Finder_part, 5, false), (m_Lesson_study, 1, false), (m_Lesson_begin, 2, false), (m_Lesson_isLike, 1, false), (m_Lesson_wordAt, 2, false), (m_Lesson_widen, 1, false), (m_Lesson_tellOf, 2, false), (m_Lesson_roleOf, 1, false), (m_Lesson_caught, 1, false), (m_Lesson_standsAt, 1, false), (m_Lexicon_has, 1, true), (m_Lexicon_setSort, 2, false), (m_Lexicon_sortOf, 1, false), (m_Lexicon_link, 2, false), (m_Lexicon_leadsTo, 2, false), (m_Lexicon_nameOf, 1, false), (m_Lexicon_fits, 3, false), (m_Marks_put, 5, false), (m_Marks_indexOf, 4, false), (m_Marks_size, 0, false), (m_Marks_isUsable, 3, false), (m_Marks_sentenceOf, 1, false), (m_Marks_leftOf, 1, false), (m_Marks_rightOf, 1, false), (m_Marks_caughtBy, 2, false), (m_Marks_shareOf, 1, false), (m_Reader_draft, 0, false), (m_Reader_read, 0, false), (m_Reader_readRule, 0, false), (m_Reader_readItem, 1, false), (m_Reader_isSpec, 1, true), (m_Reader_readSpec, 1, false), (m_Reader_readBar, 0, false), (m_Reader_readChain, 0, false), (m_Reader_readSingle, 0, false), (m_Reader_readNumber, 2, false), (m_Reader_readSign, 1, false), (m_Reader_fail, 1, false), (m_Sentences_tell, 1, false), (m_Sentences_close, 0, false), (m_Sentences_remove, 1, false), (m_Sentences_isThere, 1, false), (m_Sentences_lengthOf, 1, false), (m_Sentences_wordAt, 2, false), (m_Sentences_told, 0, false), (m_Sentences_came, 0, false), (m_Sentences_present, 0, false), (m_Table_forget, 0, false), (m_Table_refresh, 0, false), (m_Table_addFindsOf, 1, false), (m_Table_nameAt, 2, false), (m_Table_addRow, 3, false), (m_Table_followChains, 0, false), (m_Table_followChain, 3, false), (m_Table_followFrom, 4, false), (m_Table_hasRow, 3, false), (m_Table_degree, 2, false), (m_Table_size, 1, false), (m_Table_name, 3, false), (m_Table_secondName, 3, false), (m_Table_quarrelling, 2, false), (m_Tape_put, 1, false), (m_Tape_isKnown, 1, true), (m_Tape_length, 0, false), (m_Tape_at, 1, false), (m_Tape_clear, 0, false), (m_Tokens_scan, 1, false), (m_Tokens_add, 2, false), (m_Tokens_code, 0, false), (m_Tokens_place, 0, false), (m_Tokens_advance, 0, false), (m_Tokens_goesOn, 2, true), (m_Tokens_codeAt, 2, true), (m_Tokens_numberCode, 2, true), (m_Tokens_wordCode, 2, true), (m_Tokens_sWordCode, 2, true), (m_Tokens_stands, 3, true), (m_Tokens_isBlank, 1, true), (m_Tokens_isLetter, 1, true), (m_Tokens_isDigit, 1, true), (m_D_sort, 2, false), (m_D_join, 2, false), (m_D_word, 1, false), (m_D_sentence, 0, false), (m_D_take, 1, false), (m_D_feed, 3, false), (m_D_text, 0, false), (m_D_finds, 0, false), (m_D_find, 2, false), (m_D_rows, 1, false), (m_D_row, 3, false), (m_D_quarrel, 2, false), (m_D_mark, 5, false), (m_D_best, 1, false), (m_D_learn, 1, false), (m_D_learnt, 2, false), (m_D_catches, 1, false), (m_D_named, 1, false), (m_D_count, 1, false), (m_D_isRelation, 1, true), (m_M_thrown, 0, false), (m_M_feed, 3, false), (m_M_lay, 1, false), (m_M_isLetter, 1, true), (m_M_isDigit, 1, true), (m_M_rank, 1, true), (m_M_isSignOf, 1, true), (m_M_cutAll, 0, false), (m_M_wrong, 1, false), (m_M_isSign, 1, false), (m_M_isWord, 1, false), (m_M_takeSign, 1, false), (m_M_hasWord, 1, false), (m_M_takeWord, 1, false), (m_M_takeNumber, 2, false), (m_M_text, 0, false), (m_M_statement, 0, false), (m_M_readChain, 0, false), (m_M_readRule, 0, false), (m_M_isItem, 0, false), (m_M_item, 1, false), (m_M_spec, 1, false), (m_M_isOne, 1, true), (m_M_sort, 2, false), (m_M_nameOf, 1, false), (m_M_join, 2, false), (m_M_named, 1, false), (m_M_word, 1, false), (m_M_sentence, 0, false), (m_M_isThere, 1, false), (m_M_take, 1, false), (m_M_fits, 3, false), (m_M_findOf, 4, true), (m_M_findAll, 0, false), (m_M_matches, 2, false), (m_M_goes, 4, false), (m_M_isBarred, 1, false), (m_M_finds, 0, false), (m_M_find, 2, false), (m_M_findRows, 0, false), (m_M_joins, 3, false), (m_M_isR, 1, true), (m_M_rows, 1, false), (m_M_row, 3, false), (m_M_quarrel, 2, false), (m_M_mark, 5, false), (m_M_catchesMark, 2, false), (m_M_caught, 2, false), (m_M_rule, 2, false), (m_M_bits, 1, true), (m_M_best, 1, false), (m_M_isLike, 3, false), (m_M_least, 2, true), (m_M_wordAt, 2, false), (m_M_learn, 1, false), (m_M_learnt, 2, false), (m_M_catches, 1, false), (m_M_count, 1, false), (m_M_barredFinds, 0, false), (m_Integer_bitCount, 1, true), (m_Long_bitCount, 1, true), (m_Arrays_fill, 2, true), (m_String_length, 0, false), (m_String_charAt, 1, false)]
def FR_0 : List (Nat × Nat × Nat) := [(9, 0, 0), (15, 0, 1), (24, 0, 2), (28, 0, 3), (31, 0, 4), (34, 0, 5)]
set_option maxRecDepth 100000 in
theorem FR_0_ok : ∀ q ∈ FR_0, FL "RowDrawer$BestSet" q := List.forall_mem_cons.mpr ⟨⟨_, _, _, rfl, by decide, tt_at 353 rfl rfl, inX0⟩, List.forall_mem_cons.mpr ⟨⟨_, _, _, rfl, by decide, tt_at 354 rfl rfl, inX0⟩, List.forall_mem_cons.mpr ⟨⟨_, _, _, rfl, by decide, tt_at 355 rfl rfl, inX0⟩, List.forall_mem_cons.mpr ⟨⟨_, _, _, rfl, by decide, tt_at 356 rfl rfl, inX0⟩, List.forall_mem_cons.mpr ⟨⟨_, _, _, rfl, by decide, tt_at 357 rfl rfl, inX0⟩, List.forall_mem_cons.mpr ⟨⟨_, _, _, rfl, by decide, tt_at 358 rfl rfl, inX0⟩, fun _ h => absurd h List.not_mem_nil⟩⟩⟩⟩⟩⟩
def PR_0 : List (Nat × Nat × Nat × Nat) := [(24, 0, 2, 0), (28, 0, 3, 0), (31, 0, 4, 0), (34, 0, 5, 0)]
set_option maxRecDepth 100000 in
theorem PR_0_ok : ∀ q ∈ PR_0, PL "RowDrawer$BestSet" q := List.forall_mem_cons.mpr ⟨⟨_, _, _, tyX0, rfl, by decide, tt_at 355 rfl rfl, inX0, tyX0_ok, nmX0, rfl, by decide +kernel⟩, List.forall_mem_cons.mpr ⟨⟨_, _, _, tyX0, rfl, by decide, tt_at 356 rfl rfl, inX0, tyX0_ok, nmX0, rfl, by decide +kernel⟩, List.forall_mem_cons.mpr ⟨⟨_, _, _, tyX0, rfl, by decide, tt_at 357 rfl rfl, inX0, tyX0_ok, nmX0, rfl, by decide +kernel⟩, List.forall_mem_cons.mpr ⟨⟨_, _, _, tyX0, rfl, by decide, tt_at 358 rfl rfl, inX0, tyX0_ok, nmX0, rfl, by decide +kernel⟩, fun _ h => absurd h List.not_mem_nil⟩⟩⟩⟩
def MR_0 : List (Nat × Nat × Nat) := [(18, 0, 5), (37, 2, 0), (41, 210, 1), (47, 3, 0), (53, 209, 1)]
def LI_0 : List (Nat × Int32) := []
set_option maxRecDepth 100000 in
theorem LI_0_ok : ∀ q ∈ LI_0, Cond.constant "RowDrawer$BestSet" q.1 q.2 ∈ TT := fun _ h => absurd h List.not_mem_nil
def LL_0 : List (Nat × Int64) := [(51, -1)]
set_option maxRecDepth 100000 in
theorem LL_0_ok : ∀ q ∈ LL_0, Cond.constantLong "RowDrawer$BestSet" q.1 q.2 ∈ TT := List.forall_mem_cons.mpr ⟨tt_at 1038 rfl rfl, fun _ h => absurd h List.not_mem_nil⟩
def FR_1 : List (Nat × Nat × Nat) := [(42, 1, 0), (9, 1, 1), (15, 1, 2), (18, 1, 3), (21, 1, 4), (24, 1, 5), (27, 1, 6), (46, 1, 7), (30, 1, 8), (49, 1, 9), (33, 1, 10), (36, 1, 11), (39, 1, 12), (52, 1, 13)]
set_option maxRecDepth 100000 in
theorem FR_1_ok : ∀ q ∈ FR_1, FL "RowDrawer$Book" q := List.forall_mem_cons.mpr ⟨⟨_, _, _, rfl, by decide, tt_at 195 rfl rfl, inX1⟩, List.forall_mem_cons.mpr ⟨⟨_, _, _, rfl, by decide, tt_at 196 rfl rfl, inX1⟩, List.forall_mem_cons.mpr ⟨⟨_, _, _, rfl, by decide, tt_at 197 rfl rfl, inX1⟩, List.forall_mem_cons.mpr ⟨⟨_, _, _, rfl, by decide, tt_at 198 rfl rfl, inX1⟩, List.forall_mem_cons.mpr ⟨⟨_, _, _, rfl, by decide, tt_at 199 rfl rfl, inX1⟩, List.forall_mem_cons.mpr ⟨⟨_, _, _, rfl, by decide, tt_at 200 rfl rfl, inX1⟩, List.forall_mem_cons.mpr ⟨⟨_, _, _, rfl, by decide, tt_at 201 rfl rfl, inX1⟩, List.forall_mem_cons.mpr ⟨⟨_, _, _, rfl, by decide, tt_at 202 rfl rfl, inX1⟩, List.forall_mem_cons.mpr ⟨⟨_, _, _, rfl, by decide, tt_at 203 rfl rfl, inX1⟩, List.forall_mem_cons.mpr ⟨⟨_, _, _, rfl, by decide, tt_at 204 rfl rfl, inX1⟩, List.forall_mem_cons.mpr ⟨⟨_, _, _, rfl, by decide, tt_at 205 rfl rfl, inX1⟩, List.forall_mem_cons.mpr ⟨⟨_, _, _, rfl, by decide, tt_at 206 rfl rfl, inX1⟩, List.forall_mem_cons.mpr ⟨⟨_, _, _, rfl, by decide, tt_at 207 rfl rfl, inX1⟩, List.forall_mem_cons.mpr ⟨⟨_, _, _, rfl, by decide, tt_at 208 rfl rfl, inX1⟩, fun _ h => absurd h List.not_mem_nil⟩⟩⟩⟩⟩⟩⟩⟩⟩⟩⟩⟩⟩⟩
def PR_1 : List (Nat × Nat × Nat × Nat) := [(42, 1, 0, 0), (46, 1, 7, 0), (49, 1, 9, 0), (52, 1, 13, 0)]
set_option maxRecDepth 100000 in
theorem PR_1_ok : ∀ q ∈ PR_1, PL "RowDrawer$Book" q := List.forall_mem_cons.mpr ⟨⟨_, _, _, tyX1, rfl, by decide, tt_at 195 rfl rfl, inX1, tyX1_ok, nmX1, rfl, by decide +kernel⟩, List.forall_mem_cons.mpr ⟨⟨_, _, _, tyX1, rfl, by decide, tt_at 202 rfl rfl, inX1, tyX1_ok, nmX1, rfl, by decide +kernel⟩, List.forall_mem_cons.mpr ⟨⟨_, _, _, tyX1, rfl, by decide, tt_at 204 rfl rfl, inX1, tyX1_ok, nmX1, rfl, by decide +kernel⟩, List.forall_mem_cons.mpr ⟨⟨_, _, _, tyX1, rfl, by decide, tt_at 208 rfl rfl, inX1, tyX1_ok, nmX1, rfl, by decide +kernel⟩, fun _ h => absurd h List.not_mem_nil⟩⟩⟩⟩
def MR_1 : List (Nat × Nat × Nat) := [(55, 0, 3), (65, 16, 0), (68, 23, 0), (61, 149, 2)]
def LI_1 : List (Nat × Int32) := []
set_option maxRecDepth 100000 in
theorem LI_1_ok : ∀ q ∈ LI_1, Cond.constant "RowDrawer$Book" q.1 q.2 ∈ TT := fun _ h => absurd h List.not_mem_nil
def LL_1 : List (Nat × Int64) := []
set_option maxRecDepth 100000 in
theorem LL_1_ok : ∀ q ∈ LL_1, Cond.constantLong "RowDrawer$Book" q.1 q.2 ∈ TT := fun _ h => absurd h List.not_mem_nil
def FR_2 : List (Nat × Nat × Nat) := [(28, 2, 0), (32, 2, 1), (36, 2, 2), (9, 2, 3), (15, 2, 4), (18, 2, 5), (22, 2, 6), (25, 2, 7)]
set_option maxRecDepth 100000 in
theorem FR_2_ok : ∀ q ∈ FR_2, FL "RowDrawer$Finder" q := List.forall_mem_cons.mpr ⟨⟨_, _, _, rfl, by decide, tt_at 259 rfl rfl, inX2⟩, List.forall_mem_cons.mpr ⟨⟨_, _, _, rfl, by decide, tt_at 260 rfl rfl, inX2⟩, List.forall_mem_cons.mpr ⟨⟨_, _, _, rfl, by decide, tt_at 261 rfl rfl, inX2⟩, List.forall_mem_cons.mpr ⟨⟨_, _, _, rfl, by decide, tt_at 262 rfl rfl, inX2⟩, List.forall_mem_cons.mpr ⟨⟨_, _, _, rfl, by decide, tt_at 263 rfl rfl, inX2⟩, List.forall_mem_cons.mpr ⟨⟨_, _, _, rfl, by decide, tt_at 264 rfl rfl, inX2⟩, List.forall_mem_cons.mpr ⟨⟨_, _, _, rfl, by decide, tt_at 265 rfl rfl, inX2⟩, List.forall_mem_cons.mpr ⟨⟨_, _, _, rfl, by decide, tt_at 266 rfl rfl, inX2⟩, fun _ h => absurd h List.not_mem_nil⟩⟩⟩⟩⟩⟩⟩⟩
def PR_2 : List (Nat × Nat × Nat × Nat) := []
set_option maxRecDepth 100000 in
theorem PR_2_ok : ∀ q ∈ PR_2, PL "RowDrawer$Finder" q := fun _ h => absurd h List.not_mem_nil
def MR_2 : List (Nat × Nat × Nat) := [(40, 95, 0), (46, 92, 0), (50, 93, 0), (54, 33, 0), (58, 34, 0), (61, 91, 0), (65, 35, 0), (80, 24, 0), (68, 13, 0), (73, 36, 0), (83, 19, 0), (86, 20, 0), (89, 37, 0), (104, 18, 0), (115, 21, 0), (118, 22, 0), (121, 38, 0), (124, 66, 0), (92, 0, 5), (97, 0, 6), (100, 39, 0), (107, 40, 0), (111, 41, 0), (77, 42, 0), (130, 43, 0), (133, 209, 1), (138, 49, 0), (141, 45, 0), (145, 50, 0), (149, 44, 0), (150, 17, 0)]
def LI_2 : List (Nat × Int32) := []
set_option maxRecDepth 100000 in
theorem LI_2_ok : ∀ q ∈ LI_2, Cond.constant "RowDrawer$Finder" q.1 q.2 ∈ TT := fun _ h => absurd h List.not_mem_nil
def LL_2 : List (Nat × Int64) := []
set_option maxRecDepth 100000 in
theorem LL_2_ok : ∀ q ∈ LL_2, Cond.constantLong "RowDrawer$Finder" q.1 q.2 ∈ TT := fun _ h => absurd h List.not_mem_nil
def FR_3 : List (Nat × Nat × Nat) := [(18, 3, 0), (22, 3, 1), (26, 3, 2), (9, 3, 3), (15, 3, 4), (52, 3, 5), (63, 3, 6), (66, 3, 7)]
set_option maxRecDepth 100000 in
theorem FR_3_ok : ∀ q ∈ FR_3, FL "RowDrawer$Lesson" q := List.forall_mem_cons.mpr ⟨⟨_, _, _, rfl, by decide, tt_at 378 rfl rfl, inX3⟩, List.forall_mem_cons.mpr ⟨⟨_, _, _, rfl, by decide, tt_at 379 rfl rfl, inX3⟩, List.forall_mem_cons.mpr ⟨⟨_, _, _, rfl, by decide, tt_at 380 rfl rfl, inX3⟩, List.forall_mem_cons.mpr ⟨⟨_, _, _, rfl, by decide, tt_at 381 rfl rfl, inX3⟩, List.forall_mem_cons.mpr ⟨⟨_, _, _, rfl, by decide, tt_at 382 rfl rfl, inX3⟩, List.forall_mem_cons.mpr ⟨⟨_, _, _, rfl, by decide, tt_at 383 rfl rfl, inX3⟩, List.forall_mem_cons.mpr ⟨⟨_, _, _, rfl, by decide, tt_at 384 rfl rfl, inX3⟩, List.forall_mem_cons.mpr ⟨⟨_, _, _, rfl, by decide, tt_at 385 rfl rfl, inX3⟩, fun _ h => absurd h List.not_mem_nil⟩⟩⟩⟩⟩⟩⟩⟩
def PR_3 : List (Nat × Nat × Nat × Nat) := [(52, 3, 5, 0), (63, 3, 6, 0), (66, 3, 7, 1)]
set_option maxRecDepth 100000 in
theorem PR_3_ok : ∀ q ∈ PR_3, PL "RowDrawer$Lesson" q := List.forall_mem_cons.mpr ⟨⟨_, _, _, tyX3, rfl, by decide, tt_at 383 rfl rfl, inX3, tyX3_ok, nmX3, rfl, by decide +kernel⟩, List.forall_mem_cons.mpr ⟨⟨_, _, _, tyX3, rfl, by decide, tt_at 384 rfl rfl, inX3, tyX3_ok, nmX3, rfl, by decide +kernel⟩, List.forall_mem_cons.mpr ⟨⟨_, _, _, tyX3, rfl, by decide, tt_at 385 rfl rfl, inX3, tyX3_ok, nmX3, rfl, by decide +kernel⟩, fun _ h => absurd h List.not_mem_nil⟩⟩⟩
def MR_3 : List (Nat × Nat × Nat) := [(30, 69, 0), (36, 70, 0), (40, 52, 0), (56, 73, 0), (60, 72, 0), (70, 0, 7), (75, 0, 5), (79, 54, 0), (82, 71, 0), (85, 93, 0), (44, 53, 0), (48, 55, 0), (88, 66, 0), (94, 62, 0), (97, 57, 0), (100, 59, 0)]
def LI_3 : List (Nat × Int32) := []
set_option maxRecDepth 100000 in
theorem LI_3_ok : ∀ q ∈ LI_3, Cond.constant "RowDrawer$Lesson" q.1 q.2 ∈ TT := fun _ h => absurd h List.not_mem_nil
def LL_3 : List (Nat × Int64) := []
set_option maxRecDepth 100000 in
theorem LL_3_ok : ∀ q ∈ LL_3, Cond.constantLong "RowDrawer$Lesson" q.1 q.2 ∈ TT := fun _ h => absurd h List.not_mem_nil
def FR_4 : List (Nat × Nat × Nat) := [(9, 4, 0), (15, 4, 1)]
set_option maxRecDepth 100000 in
theorem FR_4_ok : ∀ q ∈ FR_4, FL "RowDrawer$Lexicon" q := List.forall_mem_cons.mpr ⟨⟨_, _, _, rfl, by decide, tt_at 113 rfl rfl, inX4⟩, List.forall_mem_cons.mpr ⟨⟨_, _, _, rfl, by decide, tt_at 114 rfl rfl, inX4⟩, fun _ h => absurd h List.not_mem_nil⟩⟩
def PR_4 : List (Nat × Nat × Nat × Nat) := []
set_option maxRecDepth 100000 in
theorem PR_4_ok : ∀ q ∈ PR_4, PL "RowDrawer$Lexicon" q := fun _ h => absurd h List.not_mem_nil
def MR_4 : List (Nat × Nat × Nat) := [(18, 60, 1), (22, 64, 0)]
def LI_4 : List (Nat × Int32) := []
set_option maxRecDepth 100000 in
theorem LI_4_ok : ∀ q ∈ LI_4, Cond.constant "RowDrawer$Lexicon" q.1 q.2 ∈ TT := fun _ h => absurd h List.not_mem_nil
def LL_4 : List (Nat × Int64) := []
set_option maxRecDepth 100000 in
theorem LL_4_ok : ∀ q ∈ LL_4, Cond.constantLong "RowDrawer$Lexicon" q.1 q.2 ∈ TT := fun _ h => absurd h List.not_mem_nil
def FR_5 : List (Nat × Nat × Nat) := [(28, 5, 0), (32, 5, 1), (36, 5, 2), (9, 5, 3), (15, 5, 4), (18, 5, 5), (21, 5, 6), (24, 5, 7), (44, 5, 8)]
set_option maxRecDepth 100000 in
theorem FR_5_ok : ∀ q ∈ FR_5, FL "RowDrawer$Marks" q := List.forall_mem_cons.mpr ⟨⟨_, _, _, rfl, by decide, tt_at 319 rfl rfl, inX5⟩, List.forall_mem_cons.mpr ⟨⟨_, _, _, rfl, by decide, tt_at 320 rfl rfl, inX5⟩, List.forall_mem_cons.mpr ⟨⟨_, _, _, rfl, by decide, tt_at 321 rfl rfl, inX5⟩, List.forall_mem_cons.mpr ⟨⟨_, _, _, rfl, by decide, tt_at 322 rfl rfl, inX5⟩, List.forall_mem_cons.mpr ⟨⟨_, _, _, rfl, by decide, tt_at 323 rfl rfl, inX5⟩, List.forall_mem_cons.mpr ⟨⟨_, _, _, rfl, by decide, tt_at 324 rfl rfl, inX5⟩, List.forall_mem_cons.mpr ⟨⟨_, _, _, rfl, by decide, tt_at 325 rfl rfl, inX5⟩, List.forall_mem_cons.mpr ⟨⟨_, _, _, rfl, by decide, tt_at 326 rfl rfl, inX5⟩, List.forall_mem_cons.mpr ⟨⟨_, _, _, rfl, by decide, tt_at 327 rfl rfl, inX5⟩, fun _ h => absurd h List.not_mem_nil⟩⟩⟩⟩⟩⟩⟩⟩⟩
def PR_5 : List (Nat × Nat × Nat × Nat) := [(44, 5, 8, 0)]
set_option maxRecDepth 100000 in
theorem PR_5_ok : ∀ q ∈ PR_5, PL "RowDrawer$Marks" q := List.forall_mem_cons.mpr ⟨⟨_, _, _, tyX5, rfl, by decide, tt_at 327 rfl rfl, inX5, tyX5_ok, nmX5, rfl, by decide +kernel⟩, fun _ h => absurd h List.not_mem_nil⟩
def MR_5 : List (Nat × Nat × Nat) := [(40, 68, 0), (54, 17, 0), (60, 70, 0), (48, 91, 0), (64, 45, 0), (70, 74, 0), (74, 210, 1)]
def LI_5 : List (Nat × Int32) := []
set_option maxRecDepth 100000 in
theorem LI_5_ok : ∀ q ∈ LI_5, Cond.constant "RowDrawer$Marks" q.1 q.2 ∈ TT := fun _ h => absurd h List.not_mem_nil
def LL_5 : List (Nat × Int64) := []
set_option maxRecDepth 100000 in
theorem LL_5_ok : ∀ q ∈ LL_5, Cond.constantLong "RowDrawer$Marks" q.1 q.2 ∈ TT := fun _ h => absurd h List.not_mem_nil
def FR_6 : List (Nat × Nat × Nat) := [(25, 6, 0), (12, 6, 1), (21, 6, 2), (39, 6, 3)]
set_option maxRecDepth 100000 in
theorem FR_6_ok : ∀ q ∈ FR_6, FL "RowDrawer$Reader" q := List.forall_mem_cons.mpr ⟨⟨_, _, _, rfl, by decide, tt_at 238 rfl rfl, inX6⟩, List.forall_mem_cons.mpr ⟨⟨_, _, _, rfl, by decide, tt_at 239 rfl rfl, inX6⟩, List.forall_mem_cons.mpr ⟨⟨_, _, _, rfl, by decide, tt_at 240 rfl rfl, inX6⟩, List.forall_mem_cons.mpr ⟨⟨_, _, _, rfl, by decide, tt_at 241 rfl rfl, inX6⟩, fun _ h => absurd h List.not_mem_nil⟩⟩⟩⟩
def PR_6 : List (Nat × Nat × Nat × Nat) := [(39, 6, 3, 0)]
set_option maxRecDepth 100000 in
theorem PR_6_ok : ∀ q ∈ PR_6, PL "RowDrawer$Reader" q := List.forall_mem_cons.mpr ⟨⟨_, _, _, tyX6, rfl, by decide, tt_at 241 rfl rfl, inX6, tyX6_ok, nmX6, rfl, by decide +kernel⟩, fun _ h => absurd h List.not_mem_nil⟩
def MR_6 : List (Nat × Nat × Nat) := [(29, 116, 0), (33, 115, 0), (38, 4, 0), (43, 118, 0), (47, 78, 0), (63, 13, 0), (59, 87, 0), (114, 119, 0), (66, 120, 0), (69, 85, 0), (73, 86, 0), (76, 6, 0), (80, 79, 0), (83, 7, 0), (89, 80, 1), (92, 8, 0), (96, 81, 0), (86, 9, 0), (50, 82, 0), (99, 14, 0), (102, 10, 0), (53, 83, 0), (105, 15, 0), (108, 11, 0), (56, 84, 0), (111, 12, 0)]
def LI_6 : List (Nat × Int32) := []
set_option maxRecDepth 100000 in
theorem LI_6_ok : ∀ q ∈ LI_6, Cond.constant "RowDrawer$Reader" q.1 q.2 ∈ TT := fun _ h => absurd h List.not_mem_nil
def LL_6 : List (Nat × Int64) := []
set_option maxRecDepth 100000 in
theorem LL_6_ok : ∀ q ∈ LL_6, Cond.constantLong "RowDrawer$Reader" q.1 q.2 ∈ TT := fun _ h => absurd h List.not_mem_nil
def FR_7 : List (Nat × Nat × Nat) := [(9, 7, 0), (15, 7, 1), (18, 7, 2), (22, 7, 3), (25, 7, 4), (29, 7, 5), (38, 7, 6)]
set_option maxRecDepth 100000 in
theorem FR_7_ok : ∀ q ∈ FR_7, FL "RowDrawer$Sentences" q := List.forall_mem_cons.mpr ⟨⟨_, _, _, rfl, by decide, tt_at 127 rfl rfl, inX7⟩, List.forall_mem_cons.mpr ⟨⟨_, _, _, rfl, by decide, tt_at 128 rfl rfl, inX7⟩, List.forall_mem_cons.mpr ⟨⟨_, _, _, rfl, by decide, tt_at 129 rfl rfl, inX7⟩, List.forall_mem_cons.mpr ⟨⟨_, _, _, rfl, by decide, tt_at 130 rfl rfl, inX7⟩, List.forall_mem_cons.mpr ⟨⟨_, _, _, rfl, by decide, tt_at 131 rfl rfl, inX7⟩, List.forall_mem_cons.mpr ⟨⟨_, _, _, rfl, by decide, tt_at 132 rfl rfl, inX7⟩, List.forall_mem_cons.mpr ⟨⟨_, _, _, rfl, by decide, tt_at 133 rfl rfl, inX7⟩, fun _ h => absurd h List.not_mem_nil⟩⟩⟩⟩⟩⟩⟩
def PR_7 : List (Nat × Nat × Nat × Nat) := [(25, 7, 4, 0), (29, 7, 5, 0), (38, 7, 6, 0)]
set_option maxRecDepth 100000 in
theorem PR_7_ok : ∀ q ∈ PR_7, PL "RowDrawer$Sentences" q := List.forall_mem_cons.mpr ⟨⟨_, _, _, tyX7, rfl, by decide, tt_at 131 rfl rfl, inX7, tyX7_ok, nmX7, rfl, by decide +kernel⟩, List.forall_mem_cons.mpr ⟨⟨_, _, _, tyX7, rfl, by decide, tt_at 132 rfl rfl, inX7, tyX7_ok, nmX7, rfl, by decide +kernel⟩, List.forall_mem_cons.mpr ⟨⟨_, _, _, tyX7, rfl, by decide, tt_at 133 rfl rfl, inX7, tyX7_ok, nmX7, rfl, by decide +kernel⟩, fun _ h => absurd h List.not_mem_nil⟩⟩⟩
def MR_7 : List (Nat × Nat × Nat) := [(32, 0, 3), (41, 91, 0)]
def LI_7 : List (Nat × Int32) := []
set_option maxRecDepth 100000 in
theorem LI_7_ok : ∀ q ∈ LI_7, Cond.constant "RowDrawer$Sentences" q.1 q.2 ∈ TT := fun _ h => absurd h List.not_mem_nil
def LL_7 : List (Nat × Int64) := []
set_option maxRecDepth 100000 in
theorem LL_7_ok : ∀ q ∈ LL_7, Cond.constantLong "RowDrawer$Sentences" q.1 q.2 ∈ TT := fun _ h => absurd h List.not_mem_nil
def FR_8 : List (Nat × Nat × Nat) := [(18, 8, 0), (22, 8, 1), (26, 8, 2), (30, 8, 3), (11, 8, 4), (15, 8, 5), (34, 8, 6)]
set_option maxRecDepth 100000 in
theorem FR_8_ok : ∀ q ∈ FR_8, FL "RowDrawer$Table" q := List.forall_mem_cons.mpr ⟨⟨_, _, _, rfl, by decide, tt_at 290 rfl rfl, inX8⟩, List.forall_mem_cons.mpr ⟨⟨_, _, _, rfl, by decide, tt_at 291 rfl rfl, inX8⟩, List.forall_mem_cons.mpr ⟨⟨_, _, _, rfl, by decide, tt_at 292 rfl rfl, inX8⟩, List.forall_mem_cons.mpr ⟨⟨_, _, _, rfl, by decide, tt_at 293 rfl rfl, inX8⟩, List.forall_mem_cons.mpr ⟨⟨_, _, _, rfl, by decide, tt_at 294 rfl rfl, inX8⟩, List.forall_mem_cons.mpr ⟨⟨_, _, _, rfl, by decide, tt_at 295 rfl rfl, inX8⟩, List.forall_mem_cons.mpr ⟨⟨_, _, _, rfl, by decide, tt_at 296 rfl rfl, inX8⟩, fun _ h => absurd h List.not_mem_nil⟩⟩⟩⟩⟩⟩⟩
def PR_8 : List (Nat × Nat × Nat × Nat) := [(34, 8, 6, 1)]
set_option maxRecDepth 100000 in
theorem PR_8_ok : ∀ q ∈ PR_8, PL "RowDrawer$Table" q := List.forall_mem_cons.mpr ⟨⟨_, _, _, tyX8, rfl, by decide, tt_at 296 rfl rfl, inX8, tyX8_ok, nmX8, rfl, by decide +kernel⟩, fun _ h => absurd h List.not_mem_nil⟩
def MR_8 : List (Nat × Nat × Nat) := [(38, 211, 1), (44, 95, 0), (50, 44, 0), (56, 99, 0), (63, 13, 0), (68, 43, 0), (72, 17, 0), (76, 100, 0), (84, 93, 0), (87, 65, 0), (80, 101, 0), (95, 60, 1), (60, 102, 0), (99, 15, 0), (102, 25, 0), (105, 26, 0), (108, 27, 0), (111, 103, 0), (115, 106, 0), (127, 210, 1), (118, 104, 0), (122, 105, 0), (133, 109, 0), (92, 149, 2)]
def LI_8 : List (Nat × Int32) := [(98, 100001)]
set_option maxRecDepth 100000 in
theorem LI_8_ok : ∀ q ∈ LI_8, Cond.constant "RowDrawer$Table" q.1 q.2 ∈ TT := List.forall_mem_cons.mpr ⟨tt_at 924 rfl rfl, fun _ h => absurd h List.not_mem_nil⟩
def LL_8 : List (Nat × Int64) := [(125, -1)]
set_option maxRecDepth 100000 in
theorem LL_8_ok : ∀ q ∈ LL_8, Cond.constantLong "RowDrawer$Table" q.1 q.2 ∈ TT := List.forall_mem_cons.mpr ⟨tt_at 960 rfl rfl, fun _ h => absurd h List.not_mem_nil⟩
def FR_9 : List (Nat × Nat × Nat) := [(9, 9, 0), (19, 9, 1)]
set_option maxRecDepth 100000 in
theorem FR_9_ok : ∀ q ∈ FR_9, FL "RowDrawer$Tape" q := List.forall_mem_cons.mpr ⟨⟨_, _, _, rfl, by decide, tt_at 156 rfl rfl, inX9⟩, List.forall_mem_cons.mpr ⟨⟨_, _, _, rfl, by decide, tt_at 157 rfl rfl, inX9⟩, fun _ h => absurd h List.not_mem_nil⟩⟩
def PR_9 : List (Nat × Nat × Nat × Nat) := [(19, 9, 1, 0)]
set_option maxRecDepth 100000 in
theorem PR_9_ok : ∀ q ∈ PR_9, PL "RowDrawer$Tape" q := List.forall_mem_cons.mpr ⟨⟨_, _, _, tyX9, rfl, by decide, tt_at 157 rfl rfl, inX9, tyX9_ok, nmX9, rfl, by decide +kernel⟩, fun _ h => absurd h List.not_mem_nil⟩
def MR_9 : List (Nat × Nat × Nat) := [(15, 112, 1)]
def LI_9 : List (Nat × Int32) := []
set_option maxRecDepth 100000 in
theorem LI_9_ok : ∀ q ∈ LI_9, Cond.constant "RowDrawer$Tape" q.1 q.2 ∈ TT := fun _ h => absurd h List.not_mem_nil
def LL_9 : List (Nat × Int64) := []
set_option maxRecDepth 100000 in
theorem LL_9_ok : ∀ q ∈ LL_9, Cond.constantLong "RowDrawer$Tape" q.1 q.2 ∈ TT := fun _ h => absurd h List.not_mem_nil
def FR_10 : List (Nat × Nat × Nat) := [(9, 10, 0), (15, 10, 1), (18, 10, 2), (22, 10, 3)]
set_option maxRecDepth 100000 in
theorem FR_10_ok : ∀ q ∈ FR_10, FL "RowDrawer$Tokens" q := List.forall_mem_cons.mpr ⟨⟨_, _, _, rfl, by decide, tt_at 176 rfl rfl, inX10⟩, List.forall_mem_cons.mpr ⟨⟨_, _, _, rfl, by decide, tt_at 177 rfl rfl, inX10⟩, List.forall_mem_cons.mpr ⟨⟨_, _, _, rfl, by decide, tt_at 178 rfl rfl, inX10⟩, List.forall_mem_cons.mpr ⟨⟨_, _, _, rfl, by decide, tt_at 179 rfl rfl, inX10⟩, fun _ h => absurd h List.not_mem_nil⟩⟩⟩⟩
def PR_10 : List (Nat × Nat × Nat × Nat) := [(18, 10, 2, 0), (22, 10, 3, 0)]
set_option maxRecDepth 100000 in
theorem PR_10_ok : ∀ q ∈ PR_10, PL "RowDrawer$Tokens" q := List.forall_mem_cons.mpr ⟨⟨_, _, _, tyX10, rfl, by decide, tt_at 178 rfl rfl, inX10, tyX10_ok, nmX10, rfl, by decide +kernel⟩, List.forall_mem_cons.mpr ⟨⟨_, _, _, tyX10, rfl, by decide, tt_at 179 rfl rfl, inX10, tyX10_ok, nmX10, rfl, by decide +kernel⟩, fun _ h => absurd h List.not_mem_nil⟩⟩
def MR_10 : List (Nat × Nat × Nat) := [(25, 113, 0), (31, 114, 0), (35, 127, 1), (39, 121, 1), (51, 128, 1), (54, 129, 1), (43, 122, 1), (57, 123, 1), (60, 124, 1), (65, 126, 1), (90, 212, 4), (93, 213, 4), (79, 125, 1), (47, 117, 0)]
def LI_10 : List (Nat × Int32) := []
set_option maxRecDepth 100000 in
theorem LI_10_ok : ∀ q ∈ LI_10, Cond.constant "RowDrawer$Tokens" q.1 q.2 ∈ TT := fun _ h => absurd h List.not_mem_nil
def LL_10 : List (Nat × Int64) := []
set_option maxRecDepth 100000 in
theorem LL_10_ok : ∀ q ∈ LL_10, Cond.constantLong "RowDrawer$Tokens" q.1 q.2 ∈ TT := fun _ h => absurd h List.not_mem_nil
def FR_11 : List (Nat × Nat × Nat) := [(10, 11, 0), (19, 11, 1), (26, 11, 2), (35, 11, 3), (42, 11, 4), (51, 11, 5), (60, 11, 6), (69, 11, 7), (76, 11, 8), (85, 11, 9)]
set_option maxRecDepth 100000 in
theorem FR_11_ok : ∀ q ∈ FR_11, FL "RowDrawer" q := List.forall_mem_cons.mpr ⟨⟨_, _, _, rfl, by decide, tt_at 403 rfl rfl, inX11⟩, List.forall_mem_cons.mpr ⟨⟨_, _, _, rfl, by decide, tt_at 404 rfl rfl, inX11⟩, List.forall_mem_cons.mpr ⟨⟨_, _, _, rfl, by decide, tt_at 405 rfl rfl, inX11⟩, List.forall_mem_cons.mpr ⟨⟨_, _, _, rfl, by decide, tt_at 406 rfl rfl, inX11⟩, List.forall_mem_cons.mpr ⟨⟨_, _, _, rfl, by decide, tt_at 407 rfl rfl, inX11⟩, List.forall_mem_cons.mpr ⟨⟨_, _, _, rfl, by decide, tt_at 408 rfl rfl, inX11⟩, List.forall_mem_cons.mpr ⟨⟨_, _, _, rfl, by decide, tt_at 409 rfl rfl, inX11⟩, List.forall_mem_cons.mpr ⟨⟨_, _, _, rfl, by decide, tt_at 410 rfl rfl, inX11⟩, List.forall_mem_cons.mpr ⟨⟨_, _, _, rfl, by decide, tt_at 411 rfl rfl, inX11⟩, List.forall_mem_cons.mpr ⟨⟨_, _, _, rfl, by decide, tt_at 412 rfl rfl, inX11⟩, fun _ h => absurd h List.not_mem_nil⟩⟩⟩⟩⟩⟩⟩⟩⟩⟩
def PR_11 : List (Nat × Nat × Nat × Nat) := []
set_option maxRecDepth 100000 in
theorem PR_11_ok : ∀ q ∈ PR_11, PL "RowDrawer" q := fun _ h => absurd h List.not_mem_nil
def MR_11 : List (Nat × Nat × Nat) := [(89, 61, 0), (93, 30, 0), (97, 97, 0), (100, 63, 0), (103, 60, 1), (107, 88, 0), (111, 89, 0), (115, 29, 0), (117, 90, 0), (120, 111, 0), (124, 113, 0), (127, 77, 0), (130, 76, 0), (134, 5, 0), (138, 31, 0), (141, 32, 0), (144, 46, 0), (148, 48, 0), (152, 149, 1), (155, 98, 0), (156, 107, 0), (159, 108, 0), (163, 28, 0), (166, 110, 0), (169, 91, 0), (172, 92, 0), (175, 67, 0), (210, 13, 0), (191, 74, 0), (213, 0, 0), (217, 1, 0), (220, 51, 0), (223, 56, 0), (224, 58, 0), (227, 65, 0), (230, 95, 0), (233, 96, 0), (236, 14, 0), (239, 15, 0), (242, 69, 0), (244, 94, 0), (178, 16, 0), (188, 17, 0), (195, 210, 1), (201, 75, 0), (204, 18, 0), (207, 47, 0)]
def LI_11 : List (Nat × Int32) := []
set_option maxRecDepth 100000 in
theorem LI_11_ok : ∀ q ∈ LI_11, Cond.constant "RowDrawer" q.1 q.2 ∈ TT := fun _ h => absurd h List.not_mem_nil
def LL_11 : List (Nat × Int64) := []
set_option maxRecDepth 100000 in
theorem LL_11_ok : ∀ q ∈ LL_11, Cond.constantLong "RowDrawer" q.1 q.2 ∈ TT := fun _ h => absurd h List.not_mem_nil
def FR_12 : List (Nat × Nat × Nat) := [(1, 12, 0), (14, 12, 1), (11, 12, 2), (161, 12, 3), (24, 12, 4), (27, 12, 5), (30, 12, 6), (180, 12, 7), (183, 12, 8), (54, 12, 9), (202, 12, 10), (205, 12, 11), (57, 12, 12), (60, 12, 13), (63, 12, 14), (66, 12, 15), (70, 12, 16), (73, 12, 17), (76, 12, 18), (79, 12, 19), (82, 12, 20), (85, 12, 21), (88, 12, 22), (91, 12, 23), (224, 12, 24), (227, 12, 25), (94, 12, 26), (97, 12, 27), (249, 12, 28), (100, 12, 29), (252, 12, 30), (103, 12, 31), (106, 12, 32), (109, 12, 33), (112, 12, 34), (117, 12, 35), (120, 12, 36), (123, 12, 37), (127, 12, 38), (289, 12, 39), (130, 12, 40), (133, 12, 41), (136, 12, 42), (139, 12, 43), (142, 12, 44), (145, 12, 45), (148, 12, 46), (313, 12, 47), (307, 12, 48), (310, 12, 49), (151, 12, 50), (154, 12, 51)]
set_option maxRecDepth 100000 in
theorem FR_12_ok : ∀ q ∈ FR_12, FL "RowDrawerModel" q := List.forall_mem_cons.mpr ⟨⟨_, _, _, rfl, by decide, tt_at 1252 rfl rfl, inX12⟩, List.forall_mem_cons.mpr ⟨⟨_, _, _, rfl, by decide, tt_at 1253 rfl rfl, inX12⟩, List.forall_mem_cons.mpr ⟨⟨_, _, _, rfl, by decide, tt_at 1254 rfl rfl, inX12⟩, List.forall_mem_cons.mpr ⟨⟨_, _, _, rfl, by decide, tt_at 1255 rfl rfl, inX12⟩, List.forall_mem_cons.mpr ⟨⟨_, _, _, rfl, by decide, tt_at 1256 rfl rfl, inX12⟩, List.forall_mem_cons.mpr ⟨⟨_, _, _, rfl, by decide, tt_at 1257 rfl rfl, inX12⟩, List.forall_mem_cons.mpr ⟨⟨_, _, _, rfl, by decide, tt_at 1258 rfl rfl, inX12⟩, List.forall_mem_cons.mpr ⟨⟨_, _, _, rfl, by decide, tt_at 1259 rfl rfl, inX12⟩, List.forall_mem_cons.mpr ⟨⟨_, _, _, rfl, by decide, tt_at 1260 rfl rfl, inX12⟩, List.forall_mem_cons.mpr ⟨⟨_, _, _, rfl, by decide, tt_at 1261 rfl rfl, inX12⟩, List.forall_mem_cons.mpr ⟨⟨_, _, _, rfl, by decide, tt_at 1262 rfl rfl, inX12⟩, List.forall_mem_cons.mpr ⟨⟨_, _, _, rfl, by decide, tt_at 1263 rfl rfl, inX12⟩, List.forall_mem_cons.mpr ⟨⟨_, _, _, rfl, by decide, tt_at 1264 rfl rfl, inX12⟩, List.forall_mem_cons.mpr ⟨⟨_, _, _, rfl, by decide, tt_at 1265 rfl rfl, inX12⟩, List.forall_mem_cons.mpr ⟨⟨_, _, _, rfl, by decide, tt_at 1266 rfl rfl, inX12⟩, List.forall_mem_cons.mpr ⟨⟨_, _, _, rfl, by decide, tt_at 1267 rfl rfl, inX12⟩, List.forall_mem_cons.mpr ⟨⟨_, _, _, rfl, by decide, tt_at 1268 rfl rfl, inX12⟩, List.forall_mem_cons.mpr ⟨⟨_, _, _, rfl, by decide, tt_at 1269 rfl rfl, inX12⟩, List.forall_mem_cons.mpr ⟨⟨_, _, _, rfl, by decide, tt_at 1270 rfl rfl, inX12⟩, List.forall_mem_cons.mpr ⟨⟨_, _, _, rfl, by decide, tt_at 1271 rfl rfl, inX12⟩, List.forall_mem_cons.mpr ⟨⟨_, _, _, rfl, by decide, tt_at 1272 rfl rfl, inX12⟩, List.forall_mem_cons.mpr ⟨⟨_, _, _, rfl, by decide, tt_at 1273 rfl rfl, inX12⟩, List.forall_mem_cons.mpr ⟨⟨_, _, _, rfl, by decide, tt_at 1274 rfl rfl, inX12⟩, List.forall_mem_cons.mpr ⟨⟨_, _, _, rfl, by decide, tt_at 1275 rfl rfl, inX12⟩, List.forall_mem_cons.mpr ⟨⟨_, _, _, rfl, by decide, tt_at 1276 rfl rfl, inX12⟩, List.forall_mem_cons.mpr ⟨⟨_, _, _, rfl, by decide, tt_at 1277 rfl rfl, inX12⟩, List.forall_mem_cons.mpr ⟨⟨_, _, _, rfl, by decide, tt_at 1278 rfl rfl, inX12⟩, List.forall_mem_cons.mpr ⟨⟨_, _, _, rfl, by decide, tt_at 1279 rfl rfl, inX12⟩, List.forall_mem_cons.mpr ⟨⟨_, _, _, rfl, by decide, tt_at 1280 rfl rfl, inX12⟩, List.forall_mem_cons.mpr ⟨⟨_, _, _, rfl, by decide, tt_at 1281 rfl rfl, inX12⟩, List.forall_mem_cons.mpr ⟨⟨_, _, _, rfl, by decide, tt_at 1282 rfl rfl, inX12⟩, List.forall_mem_cons.mpr ⟨⟨_, _, _, rfl, by decide, tt_at 1283 rfl rfl, inX12⟩, List.forall_mem_cons.mpr ⟨⟨_, _, _, rfl, by decide, tt_at 1284 rfl rfl, inX12⟩, List.forall_mem_cons.mpr ⟨⟨_, _, _, rfl, by decide, tt_at 1285 rfl rfl, inX12⟩, List.forall_mem_cons.mpr ⟨⟨_, _, _, rfl, by decide, tt_at 1286 rfl rfl, inX12⟩, List.forall_mem_cons.mpr ⟨⟨_, _, _, rfl, by decide, tt_at 1287 rfl rfl, inX12⟩, List.forall_mem_cons.mpr ⟨⟨_, _, _, rfl, by decide, tt_at 1288 rfl rfl, inX12⟩, List.forall_mem_cons.mpr ⟨⟨_, _, _, rfl, by decide, tt_at 1289 rfl rfl, inX12⟩, List.forall_mem_cons.mpr ⟨⟨_, _, _, rfl, by decide, tt_at 1290 rfl rfl, inX12⟩, List.forall_mem_cons.mpr ⟨⟨_, _, _, rfl, by decide, tt_at 1291 rfl rfl, inX12⟩, List.forall_mem_cons.mpr ⟨⟨_, _, _, rfl, by decide, tt_at 1292 rfl rfl, inX12⟩, List.forall_mem_cons.mpr ⟨⟨_, _, _, rfl, by decide, tt_at 1293 rfl rfl, inX12⟩, List.forall_mem_cons.mpr ⟨⟨_, _, _, rfl, by decide, tt_at 1294 rfl rfl, inX12⟩, List.forall_mem_cons.mpr ⟨⟨_, _, _, rfl, by decide, tt_at 1295 rfl rfl, inX12⟩, List.forall_mem_cons.mpr ⟨⟨_, _, _, rfl, by decide, tt_at 1296 rfl rfl, inX12⟩, List.forall_mem_cons.mpr ⟨⟨_, _, _, rfl, by decide, tt_at 1297 rfl rfl, inX12⟩, List.forall_mem_cons.mpr ⟨⟨_, _, _, rfl, by decide, tt_at 1298 rfl rfl, inX12⟩, List.forall_mem_cons.mpr ⟨⟨_, _, _, rfl, by decide, tt_at 1299 rfl rfl, inX12⟩, List.forall_mem_cons.mpr ⟨⟨_, _, _, rfl, by decide, tt_at 1300 rfl rfl, inX12⟩, List.forall_mem_cons.mpr ⟨⟨_, _, _, rfl, by decide, tt_at 1301 rfl rfl, inX12⟩, List.forall_mem_cons.mpr ⟨⟨_, _, _, rfl, by decide, tt_at 1302 rfl rfl, inX12⟩, List.forall_mem_cons.mpr ⟨⟨_, _, _, rfl, by decide, tt_at 1303 rfl rfl, inX12⟩, fun _ h => absurd h List.not_mem_nil⟩⟩⟩⟩⟩⟩⟩⟩⟩⟩⟩⟩⟩⟩⟩⟩⟩⟩⟩⟩⟩⟩⟩⟩⟩⟩⟩⟩⟩⟩⟩⟩⟩⟩⟩⟩⟩⟩⟩⟩⟩⟩⟩⟩⟩⟩⟩⟩⟩⟩⟩⟩
def PR_12 : List (Nat × Nat × Nat × Nat) := [(1, 12, 0, 0), (11, 12, 2, 0), (161, 12, 3, 0), (180, 12, 7, 0), (183, 12, 8, 0), (202, 12, 10, 0), (205, 12, 11, 0), (224, 12, 24, 1), (227, 12, 25, 1), (249, 12, 28, 0), (252, 12, 30, 0), (112, 12, 34, 1), (289, 12, 39, 0), (313, 12, 47, 0), (307, 12, 48, 0), (310, 12, 49, 0)]
set_option maxRecDepth 100000 in
theorem PR_12_ok : ∀ q ∈ PR_12, PL "RowDrawerModel" q := List.forall_mem_cons.mpr ⟨⟨_, _, _, tyX12, rfl, by decide, tt_at 1252 rfl rfl, inX12, tyX12_ok, nmX12, rfl, by decide +kernel⟩, List.forall_mem_cons.mpr ⟨⟨_, _, _, tyX12, rfl, by decide, tt_at 1254 rfl rfl, inX12, tyX12_ok, nmX12, rfl, by decide +kernel⟩, List.forall_mem_cons.mpr ⟨⟨_, _, _, tyX12, rfl, by decide, tt_at 1255 rfl rfl, inX12, tyX12_ok, nmX12, rfl, by decide +kernel⟩, List.forall_mem_cons.mpr ⟨⟨_, _, _, tyX12, rfl, by decide, tt_at 1259 rfl rfl, inX12, tyX12_ok, nmX12, rfl, by decide +kernel⟩, List.forall_mem_cons.mpr ⟨⟨_, _, _, tyX12, rfl, by decide, tt_at 1260 rfl rfl, inX12, tyX12_ok, nmX12, rfl, by decide +kernel⟩, List.forall_mem_cons.mpr ⟨⟨_, _, _, tyX12, rfl, by decide, tt_at 1262 rfl rfl, inX12, tyX12_ok, nmX12, rfl, by decide +kernel⟩, List.forall_mem_cons.mpr ⟨⟨_, _, _, tyX12, rfl, by decide, tt_at 1263 rfl rfl, inX12, tyX12_ok, nmX12, rfl, by decide +kernel⟩, List.forall_mem_cons.mpr ⟨⟨_, _, _, tyX12, rfl, by decide, tt_at 1276 rfl rfl, inX12, tyX12_ok, nmX12, rfl, by decide +kernel⟩, List.forall_mem_cons.mpr ⟨⟨_, _, _, tyX12, rfl, by decide, tt_at 1277 rfl rfl, inX12, tyX12_ok, nmX12, rfl, by decide +kernel⟩, List.forall_mem_cons.mpr ⟨⟨_, _, _, tyX12, rfl, by decide, tt_at 1280 rfl rfl, inX12, tyX12_ok, nmX12, rfl, by decide +kernel⟩, List.forall_mem_cons.mpr ⟨⟨_, _, _, tyX12, rfl, by decide, tt_at 1282 rfl rfl, inX12, tyX12_ok, nmX12, rfl, by decide +kernel⟩, List.forall_mem_cons.mpr ⟨⟨_, _, _, tyX12, rfl, by decide, tt_at 1286 rfl rfl, inX12, tyX12_ok, nmX12, rfl, by decide +kernel⟩, List.forall_mem_cons.mpr ⟨⟨_, _, _, tyX12, rfl, by decide, tt_at 1291 rfl rfl, inX12, tyX12_ok, nmX12, rfl, by decide +kernel⟩, List.forall_mem_cons.mpr ⟨⟨_, _, _, tyX12, rfl, by decide, tt_at 1299 rfl rfl, inX12, tyX12_ok, nmX12, rfl, by decide +kernel⟩, List.forall_mem_cons.mpr ⟨⟨_, _, _, tyX12, rfl, by decide, tt_at 1300 rfl rfl, inX12, tyX12_ok, nmX12, rfl, by decide +kernel⟩, List.forall_mem_cons.mpr ⟨⟨_, _, _, tyX12, rfl, by decide, tt_at 1301 rfl rfl, inX12, tyX12_ok, nmX12, rfl, by decide +kernel⟩, fun _ h => absurd h List.not_mem_nil⟩⟩⟩⟩⟩⟩⟩⟩⟩⟩⟩⟩⟩⟩⟩⟩
def MR_12 : List (Nat × Nat × Nat) := [(7, 152, 0), (199, 157, 0), (157, 153, 1), (166, 155, 1), (170, 154, 1), (177, 156, 1), (208, 166, 0), (193, 160, 0), (211, 168, 0), (189, 158, 0), (214, 164, 0), (218, 161, 0), (186, 159, 0), (230, 170, 0), (233, 169, 0), (237, 171, 0), (196, 162, 0), (240, 163, 0), (221, 167, 0), (243, 172, 1), (246, 174, 0), (255, 179, 0), (274, 183, 0), (258, 184, 0), (262, 185, 0), (270, 181, 0), (266, 182, 1), (277, 186, 0), (283, 191, 1), (286, 189, 0), (280, 190, 0), (296, 197, 0), (292, 196, 0), (300, 199, 1), (316, 203, 0), (304, 202, 1), (319, 201, 0), (322, 208, 0)]
def LI_12 : List (Nat × Int32) := [(116, 122880), (126, 102010)]
set_option maxRecDepth 100000 in
theorem LI_12_ok : ∀ q ∈ LI_12, Cond.constant "RowDrawerModel" q.1 q.2 ∈ TT := List.forall_mem_cons.mpr ⟨tt_at 1250 rfl rfl, List.forall_mem_cons.mpr ⟨tt_at 1251 rfl rfl, fun _ h => absurd h List.not_mem_nil⟩⟩
def LL_12 : List (Nat × Int64) := [(34, 940952), (36, 2793), (38, 6029423), (40, 1335121806), (42, 983428), (44, 614923), (46, 34200674), (48, 1186224), (50, 983628), (52, 1912), (164, 37), (173, 10), (175, 48)]
set_option maxRecDepth 100000 in
theorem LL_12_ok : ∀ q ∈ LL_12, Cond.constantLong "RowDrawerModel" q.1 q.2 ∈ TT := List.forall_mem_cons.mpr ⟨tt_at 1240 rfl rfl, List.forall_mem_cons.mpr ⟨tt_at 1241 rfl rfl, List.forall_mem_cons.mpr ⟨tt_at 1242 rfl rfl, List.forall_mem_cons.mpr ⟨tt_at 1243 rfl rfl, List.forall_mem_cons.mpr ⟨tt_at 1244 rfl rfl, List.forall_mem_cons.mpr ⟨tt_at 1245 rfl rfl, List.forall_mem_cons.mpr ⟨tt_at 1246 rfl rfl, List.forall_mem_cons.mpr ⟨tt_at 1247 rfl rfl, List.forall_mem_cons.mpr ⟨tt_at 1248 rfl rfl, List.forall_mem_cons.mpr ⟨tt_at 1249 rfl rfl, List.forall_mem_cons.mpr ⟨tt_at 1420 rfl rfl, List.forall_mem_cons.mpr ⟨tt_at 1427 rfl rfl, List.forall_mem_cons.mpr ⟨tt_at 1428 rfl rfl, fun _ h => absurd h List.not_mem_nil⟩⟩⟩⟩⟩⟩⟩⟩⟩⟩⟩⟩⟩
def FR_13 : List (Nat × Nat × Nat) := []
set_option maxRecDepth 100000 in
theorem FR_13_ok : ∀ q ∈ FR_13, FL "java/lang/Integer" q := fun _ h => absurd h List.not_mem_nil
def PR_13 : List (Nat × Nat × Nat × Nat) := []
set_option maxRecDepth 100000 in
theorem PR_13_ok : ∀ q ∈ PR_13, PL "java/lang/Integer" q := fun _ h => absurd h List.not_mem_nil
def MR_13 : List (Nat × Nat × Nat) := []
def LI_13 : List (Nat × Int32) := [(265, 1431655765), (266, 858993459), (267, 252645135)]
set_option maxRecDepth 100000 in
theorem LI_13_ok : ∀ q ∈ LI_13, Cond.constant "java/lang/Integer" q.1 q.2 ∈ TT := List.forall_mem_cons.mpr ⟨tt_at 849 rfl rfl, List.forall_mem_cons.mpr ⟨tt_at 850 rfl rfl, List.forall_mem_cons.mpr ⟨tt_at 851 rfl rfl, fun _ h => absurd h List.not_mem_nil⟩⟩⟩
def LL_13 : List (Nat × Int64) := []
set_option maxRecDepth 100000 in
theorem LL_13_ok : ∀ q ∈ LL_13, Cond.constantLong "java/lang/Integer" q.1 q.2 ∈ TT := fun _ h => absurd h List.not_mem_nil
def FR_14 : List (Nat × Nat × Nat) := []
set_option maxRecDepth 100000 in
theorem FR_14_ok : ∀ q ∈ FR_14, FL "java/lang/Long" q := fun _ h => absurd h List.not_mem_nil
def PR_14 : List (Nat × Nat × Nat × Nat) := []
set_option maxRecDepth 100000 in
theorem PR_14_ok : ∀ q ∈ PR_14, PL "java/lang/Long" q := fun _ h => absurd h List.not_mem_nil
def MR_14 : List (Nat × Nat × Nat) := []
def LI_14 : List (Nat × Int32) := []
set_option maxRecDepth 100000 in
theorem LI_14_ok : ∀ q ∈ LI_14, Cond.constant "java/lang/Long" q.1 q.2 ∈ TT := fun _ h => absurd h List.not_mem_nil
def LL_14 : List (Nat × Int64) := [(314, 6148914691236517205), (316, 3689348814741910323), (318, 1085102592571150095)]
set_option maxRecDepth 100000 in
theorem LL_14_ok : ∀ q ∈ LL_14, Cond.constantLong "java/lang/Long" q.1 q.2 ∈ TT := List.forall_mem_cons.mpr ⟨tt_at 949 rfl rfl, List.forall_mem_cons.mpr ⟨tt_at 950 rfl rfl, List.forall_mem_cons.mpr ⟨tt_at 951 rfl rfl, fun _ h => absurd h List.not_mem_nil⟩⟩⟩
def FR_15 : List (Nat × Nat × Nat) := []
set_option maxRecDepth 100000 in
theorem FR_15_ok : ∀ q ∈ FR_15, FL "java/lang/Math" q := fun _ h => absurd h List.not_mem_nil
def PR_15 : List (Nat × Nat × Nat × Nat) := []
set_option maxRecDepth 100000 in
theorem PR_15_ok : ∀ q ∈ PR_15, PL "java/lang/Math" q := fun _ h => absurd h List.not_mem_nil
def MR_15 : List (Nat × Nat × Nat) := []
def LI_15 : List (Nat × Int32) := []
set_option maxRecDepth 100000 in
theorem LI_15_ok : ∀ q ∈ LI_15, Cond.constant "java/lang/Math" q.1 q.2 ∈ TT := fun _ h => absurd h List.not_mem_nil
def LL_15 : List (Nat × Int64) := []
set_option maxRecDepth 100000 in
theorem LL_15_ok : ∀ q ∈ LL_15, Cond.constantLong "java/lang/Math" q.1 q.2 ∈ TT := fun _ h => absurd h List.not_mem_nil
def FR_16 : List (Nat × Nat × Nat) := []
set_option maxRecDepth 100000 in
theorem FR_16_ok : ∀ q ∈ FR_16, FL "java/util/Arrays" q := fun _ h => absurd h List.not_mem_nil
def PR_16 : List (Nat × Nat × Nat × Nat) := []
set_option maxRecDepth 100000 in
theorem PR_16_ok : ∀ q ∈ PR_16, PL "java/util/Arrays" q := fun _ h => absurd h List.not_mem_nil
def MR_16 : List (Nat × Nat × Nat) := []
def LI_16 : List (Nat × Int32) := []
set_option maxRecDepth 100000 in
theorem LI_16_ok : ∀ q ∈ LI_16, Cond.constant "java/util/Arrays" q.1 q.2 ∈ TT := fun _ h => absurd h List.not_mem_nil
def LL_16 : List (Nat × Int64) := []
set_option maxRecDepth 100000 in
theorem LL_16_ok : ∀ q ∈ LL_16, Cond.constantLong "java/util/Arrays" q.1 q.2 ∈ TT := fun _ h => absurd h List.not_mem_nil
def FR_17 : List (Nat × Nat × Nat) := []
set_option maxRecDepth 100000 in
theorem FR_17_ok : ∀ q ∈ FR_17, FL "java/lang/String" q := fun _ h => absurd h List.not_mem_nil
def PR_17 : List (Nat × Nat × Nat × Nat) := []
set_option maxRecDepth 100000 in
theorem PR_17_ok : ∀ q ∈ PR_17, PL "java/lang/String" q := fun _ h => absurd h List.not_mem_nil
def MR_17 : List (Nat × Nat × Nat) := []
def LI_17 : List (Nat × Int32) := []
set_option maxRecDepth 100000 in
theorem LI_17_ok : ∀ q ∈ LI_17, Cond.constant "java/lang/String" q.1 q.2 ∈ TT := fun _ h => absurd h List.not_mem_nil
def LL_17 : List (Nat × Int64) := []
set_option maxRecDepth 100000 in
theorem LL_17_ok : ∀ q ∈ LL_17, Cond.constantLong "java/lang/String" q.1 q.2 ∈ TT := fun _ h => absurd h List.not_mem_nil
def ML (own : String) (q : Nat × Nat × Nat) : Prop := match q.2.2 with
  | 3 => Cond.methodLink own q.1 arraycopyName ∈ TT
  | 5 => Cond.methodLink own q.1 Lib.Math.min.name ∈ TT
  | 6 => Cond.methodLink own q.1 Lib.Math.max.name ∈ TT
  | 7 => Cond.methodLink own q.1 Lib.Math.abs.name ∈ TT
  | 2 => ∃ x, MT[q.2.1]? = some x ∧ ∃ host, (own, q.1, mY x.1, host) ∈ nestL
  | _ => ∃ x, MT[q.2.1]? = some x ∧ Cond.methodLink own q.1 (mY x.1) ∈ TT
set_option maxRecDepth 100000 in
theorem MR_0_ok : ∀ q ∈ MR_0, ML "RowDrawer$BestSet" q := List.forall_mem_cons.mpr ⟨tt_at 1027 rfl rfl, List.forall_mem_cons.mpr ⟨⟨_, rfl, tt_at 1028 rfl rfl⟩, List.forall_mem_cons.mpr ⟨⟨_, rfl, tt_at 1032 rfl rfl⟩, List.forall_mem_cons.mpr ⟨⟨_, rfl, tt_at 1033 rfl rfl⟩, List.forall_mem_cons.mpr ⟨⟨_, rfl, tt_at 1037 rfl rfl⟩, fun _ h => absurd h List.not_mem_nil⟩⟩⟩⟩⟩
set_option maxRecDepth 100000 in
theorem MR_1_ok : ∀ q ∈ MR_1, ML "RowDrawer$Book" q := List.forall_mem_cons.mpr ⟨tt_at 744 rfl rfl, List.forall_mem_cons.mpr ⟨⟨_, rfl, tt_at 784 rfl rfl⟩, List.forall_mem_cons.mpr ⟨⟨_, rfl, tt_at 804 rfl rfl⟩, List.forall_mem_cons.mpr ⟨⟨_, rfl, ⟨_, List.mem_of_getElem? (i := 0) rfl⟩⟩, fun _ h => absurd h List.not_mem_nil⟩⟩⟩⟩
set_option maxRecDepth 100000 in
theorem MR_2_ok : ∀ q ∈ MR_2, ML "RowDrawer$Finder" q := List.forall_mem_cons.mpr ⟨⟨_, rfl, tt_at 449 rfl rfl⟩, List.forall_mem_cons.mpr ⟨⟨_, rfl, tt_at 453 rfl rfl⟩, List.forall_mem_cons.mpr ⟨⟨_, rfl, tt_at 457 rfl rfl⟩, List.forall_mem_cons.mpr ⟨⟨_, rfl, tt_at 758 rfl rfl⟩, List.forall_mem_cons.mpr ⟨⟨_, rfl, tt_at 762 rfl rfl⟩, List.forall_mem_cons.mpr ⟨⟨_, rfl, tt_at 766 rfl rfl⟩, List.forall_mem_cons.mpr ⟨⟨_, rfl, tt_at 767 rfl rfl⟩, List.forall_mem_cons.mpr ⟨⟨_, rfl, tt_at 771 rfl rfl⟩, List.forall_mem_cons.mpr ⟨⟨_, rfl, tt_at 775 rfl rfl⟩, List.forall_mem_cons.mpr ⟨⟨_, rfl, tt_at 776 rfl rfl⟩, List.forall_mem_cons.mpr ⟨⟨_, rfl, tt_at 780 rfl rfl⟩, List.forall_mem_cons.mpr ⟨⟨_, rfl, tt_at 788 rfl rfl⟩, List.forall_mem_cons.mpr ⟨⟨_, rfl, tt_at 792 rfl rfl⟩, List.forall_mem_cons.mpr ⟨⟨_, rfl, tt_at 796 rfl rfl⟩, List.forall_mem_cons.mpr ⟨⟨_, rfl, tt_at 800 rfl rfl⟩, List.forall_mem_cons.mpr ⟨⟨_, rfl, tt_at 808 rfl rfl⟩, List.forall_mem_cons.mpr ⟨⟨_, rfl, tt_at 812 rfl rfl⟩, List.forall_mem_cons.mpr ⟨⟨_, rfl, tt_at 816 rfl rfl⟩, List.forall_mem_cons.mpr ⟨tt_at 820 rfl rfl, List.forall_mem_cons.mpr ⟨tt_at 823 rfl rfl, List.forall_mem_cons.mpr ⟨⟨_, rfl, tt_at 826 rfl rfl⟩, List.forall_mem_cons.mpr ⟨⟨_, rfl, tt_at 830 rfl rfl⟩, List.forall_mem_cons.mpr ⟨⟨_, rfl, tt_at 834 rfl rfl⟩, List.forall_mem_cons.mpr ⟨⟨_, rfl, tt_at 838 rfl rfl⟩, List.forall_mem_cons.mpr ⟨⟨_, rfl, tt_at 842 rfl rfl⟩, List.forall_mem_cons.mpr ⟨⟨_, rfl, tt_at 846 rfl rfl⟩, List.forall_mem_cons.mpr ⟨⟨_, rfl, tt_at 864 rfl rfl⟩, List.forall_mem_cons.mpr ⟨⟨_, rfl, tt_at 868 rfl rfl⟩, List.forall_mem_cons.mpr ⟨⟨_, rfl, tt_at 872 rfl rfl⟩, List.forall_mem_cons.mpr ⟨⟨_, rfl, tt_at 876 rfl rfl⟩, List.forall_mem_cons.mpr ⟨⟨_, rfl, tt_at 880 rfl rfl⟩, fun _ h => absurd h List.not_mem_nil⟩⟩⟩⟩⟩⟩⟩⟩⟩⟩⟩⟩⟩⟩⟩⟩⟩⟩⟩⟩⟩⟩⟩⟩⟩⟩⟩⟩⟩⟩⟩
set_option maxRecDepth 100000 in
theorem MR_3_ok : ∀ q ∈ MR_3, ML "RowDrawer$Lesson" q := List.forall_mem_cons.mpr ⟨⟨_, rfl, tt_at 1047 rfl rfl⟩, List.forall_mem_cons.mpr ⟨⟨_, rfl, tt_at 1051 rfl rfl⟩, List.forall_mem_cons.mpr ⟨⟨_, rfl, tt_at 1052 rfl rfl⟩, List.forall_mem_cons.mpr ⟨⟨_, rfl, tt_at 1056 rfl rfl⟩, List.forall_mem_cons.mpr ⟨⟨_, rfl, tt_at 1060 rfl rfl⟩, List.forall_mem_cons.mpr ⟨tt_at 1064 rfl rfl, List.forall_mem_cons.mpr ⟨tt_at 1067 rfl rfl, List.forall_mem_cons.mpr ⟨⟨_, rfl, tt_at 1068 rfl rfl⟩, List.forall_mem_cons.mpr ⟨⟨_, rfl, tt_at 1072 rfl rfl⟩, List.forall_mem_cons.mpr ⟨⟨_, rfl, tt_at 1076 rfl rfl⟩, List.forall_mem_cons.mpr ⟨⟨_, rfl, tt_at 1077 rfl rfl⟩, List.forall_mem_cons.mpr ⟨⟨_, rfl, tt_at 1081 rfl rfl⟩, List.forall_mem_cons.mpr ⟨⟨_, rfl, tt_at 1085 rfl rfl⟩, List.forall_mem_cons.mpr ⟨⟨_, rfl, tt_at 1086 rfl rfl⟩, List.forall_mem_cons.mpr ⟨⟨_, rfl, tt_at 1098 rfl rfl⟩, List.forall_mem_cons.mpr ⟨⟨_, rfl, tt_at 1110 rfl rfl⟩, fun _ h => absurd h List.not_mem_nil⟩⟩⟩⟩⟩⟩⟩⟩⟩⟩⟩⟩⟩⟩⟩⟩
set_option maxRecDepth 100000 in
theorem MR_4_ok : ∀ q ∈ MR_4, ML "RowDrawer$Lexicon" q := List.forall_mem_cons.mpr ⟨⟨_, rfl, tt_at 442 rfl rfl⟩, List.forall_mem_cons.mpr ⟨⟨_, rfl, tt_at 473 rfl rfl⟩, fun _ h => absurd h List.not_mem_nil⟩⟩
set_option maxRecDepth 100000 in
theorem MR_5_ok : ∀ q ∈ MR_5, ML "RowDrawer$Marks" q := List.forall_mem_cons.mpr ⟨⟨_, rfl, tt_at 999 rfl rfl⟩, List.forall_mem_cons.mpr ⟨⟨_, rfl, tt_at 1012 rfl rfl⟩, List.forall_mem_cons.mpr ⟨⟨_, rfl, tt_at 1013 rfl rfl⟩, List.forall_mem_cons.mpr ⟨⟨_, rfl, tt_at 1017 rfl rfl⟩, List.forall_mem_cons.mpr ⟨⟨_, rfl, tt_at 1018 rfl rfl⟩, List.forall_mem_cons.mpr ⟨⟨_, rfl, tt_at 1215 rfl rfl⟩, List.forall_mem_cons.mpr ⟨⟨_, rfl, tt_at 1216 rfl rfl⟩, fun _ h => absurd h List.not_mem_nil⟩⟩⟩⟩⟩⟩⟩
set_option maxRecDepth 100000 in
theorem MR_6_ok : ∀ q ∈ MR_6, ML "RowDrawer$Reader" q := List.forall_mem_cons.mpr ⟨⟨_, rfl, tt_at 536 rfl rfl⟩, List.forall_mem_cons.mpr ⟨⟨_, rfl, tt_at 634 rfl rfl⟩, List.forall_mem_cons.mpr ⟨⟨_, rfl, tt_at 638 rfl rfl⟩, List.forall_mem_cons.mpr ⟨⟨_, rfl, tt_at 642 rfl rfl⟩, List.forall_mem_cons.mpr ⟨⟨_, rfl, tt_at 646 rfl rfl⟩, List.forall_mem_cons.mpr ⟨⟨_, rfl, tt_at 650 rfl rfl⟩, List.forall_mem_cons.mpr ⟨⟨_, rfl, tt_at 654 rfl rfl⟩, List.forall_mem_cons.mpr ⟨⟨_, rfl, tt_at 658 rfl rfl⟩, List.forall_mem_cons.mpr ⟨⟨_, rfl, tt_at 662 rfl rfl⟩, List.forall_mem_cons.mpr ⟨⟨_, rfl, tt_at 666 rfl rfl⟩, List.forall_mem_cons.mpr ⟨⟨_, rfl, tt_at 670 rfl rfl⟩, List.forall_mem_cons.mpr ⟨⟨_, rfl, tt_at 674 rfl rfl⟩, List.forall_mem_cons.mpr ⟨⟨_, rfl, tt_at 678 rfl rfl⟩, List.forall_mem_cons.mpr ⟨⟨_, rfl, tt_at 682 rfl rfl⟩, List.forall_mem_cons.mpr ⟨⟨_, rfl, tt_at 686 rfl rfl⟩, List.forall_mem_cons.mpr ⟨⟨_, rfl, tt_at 689 rfl rfl⟩, List.forall_mem_cons.mpr ⟨⟨_, rfl, tt_at 693 rfl rfl⟩, List.forall_mem_cons.mpr ⟨⟨_, rfl, tt_at 697 rfl rfl⟩, List.forall_mem_cons.mpr ⟨⟨_, rfl, tt_at 701 rfl rfl⟩, List.forall_mem_cons.mpr ⟨⟨_, rfl, tt_at 705 rfl rfl⟩, List.forall_mem_cons.mpr ⟨⟨_, rfl, tt_at 709 rfl rfl⟩, List.forall_mem_cons.mpr ⟨⟨_, rfl, tt_at 713 rfl rfl⟩, List.forall_mem_cons.mpr ⟨⟨_, rfl, tt_at 717 rfl rfl⟩, List.forall_mem_cons.mpr ⟨⟨_, rfl, tt_at 721 rfl rfl⟩, List.forall_mem_cons.mpr ⟨⟨_, rfl, tt_at 725 rfl rfl⟩, List.forall_mem_cons.mpr ⟨⟨_, rfl, tt_at 729 rfl rfl⟩, fun _ h => absurd h List.not_mem_nil⟩⟩⟩⟩⟩⟩⟩⟩⟩⟩⟩⟩⟩⟩⟩⟩⟩⟩⟩⟩⟩⟩⟩⟩⟩⟩
set_option maxRecDepth 100000 in
theorem MR_7_ok : ∀ q ∈ MR_7, ML "RowDrawer$Sentences" q := List.forall_mem_cons.mpr ⟨tt_at 494 rfl rfl, List.forall_mem_cons.mpr ⟨⟨_, rfl, tt_at 509 rfl rfl⟩, fun _ h => absurd h List.not_mem_nil⟩⟩
set_option maxRecDepth 100000 in
theorem MR_8_ok : ∀ q ∈ MR_8, ML "RowDrawer$Table" q := List.forall_mem_cons.mpr ⟨⟨_, rfl, tt_at 893 rfl rfl⟩, List.forall_mem_cons.mpr ⟨⟨_, rfl, tt_at 896 rfl rfl⟩, List.forall_mem_cons.mpr ⟨⟨_, rfl, tt_at 897 rfl rfl⟩, List.forall_mem_cons.mpr ⟨⟨_, rfl, tt_at 898 rfl rfl⟩, List.forall_mem_cons.mpr ⟨⟨_, rfl, tt_at 902 rfl rfl⟩, List.forall_mem_cons.mpr ⟨⟨_, rfl, tt_at 903 rfl rfl⟩, List.forall_mem_cons.mpr ⟨⟨_, rfl, tt_at 904 rfl rfl⟩, List.forall_mem_cons.mpr ⟨⟨_, rfl, tt_at 905 rfl rfl⟩, List.forall_mem_cons.mpr ⟨⟨_, rfl, tt_at 909 rfl rfl⟩, List.forall_mem_cons.mpr ⟨⟨_, rfl, tt_at 910 rfl rfl⟩, List.forall_mem_cons.mpr ⟨⟨_, rfl, tt_at 914 rfl rfl⟩, List.forall_mem_cons.mpr ⟨⟨_, rfl, tt_at 919 rfl rfl⟩, List.forall_mem_cons.mpr ⟨⟨_, rfl, tt_at 920 rfl rfl⟩, List.forall_mem_cons.mpr ⟨⟨_, rfl, tt_at 925 rfl rfl⟩, List.forall_mem_cons.mpr ⟨⟨_, rfl, tt_at 926 rfl rfl⟩, List.forall_mem_cons.mpr ⟨⟨_, rfl, tt_at 930 rfl rfl⟩, List.forall_mem_cons.mpr ⟨⟨_, rfl, tt_at 934 rfl rfl⟩, List.forall_mem_cons.mpr ⟨⟨_, rfl, tt_at 938 rfl rfl⟩, List.forall_mem_cons.mpr ⟨⟨_, rfl, tt_at 942 rfl rfl⟩, List.forall_mem_cons.mpr ⟨⟨_, rfl, tt_at 946 rfl rfl⟩, List.forall_mem_cons.mpr ⟨⟨_, rfl, tt_at 952 rfl rfl⟩, List.forall_mem_cons.mpr ⟨⟨_, rfl, tt_at 956 rfl rfl⟩, List.forall_mem_cons.mpr ⟨⟨_, rfl, tt_at 973 rfl rfl⟩, List.forall_mem_cons.mpr ⟨⟨_, rfl, ⟨_, List.mem_of_getElem? (i := 1) rfl⟩⟩, fun _ h => absurd h List.not_mem_nil⟩⟩⟩⟩⟩⟩⟩⟩⟩⟩⟩⟩⟩⟩⟩⟩⟩⟩⟩⟩⟩⟩⟩⟩
set_option maxRecDepth 100000 in
theorem MR_9_ok : ∀ q ∈ MR_9, ML "RowDrawer$Tape" q := List.forall_mem_cons.mpr ⟨⟨_, rfl, tt_at 521 rfl rfl⟩, fun _ h => absurd h List.not_mem_nil⟩
set_option maxRecDepth 100000 in
theorem MR_10_ok : ∀ q ∈ MR_10, ML "RowDrawer$Tokens" q := List.forall_mem_cons.mpr ⟨⟨_, rfl, tt_at 540 rfl rfl⟩, List.forall_mem_cons.mpr ⟨⟨_, rfl, tt_at 541 rfl rfl⟩, List.forall_mem_cons.mpr ⟨⟨_, rfl, tt_at 545 rfl rfl⟩, List.forall_mem_cons.mpr ⟨⟨_, rfl, tt_at 548 rfl rfl⟩, List.forall_mem_cons.mpr ⟨⟨_, rfl, tt_at 551 rfl rfl⟩, List.forall_mem_cons.mpr ⟨⟨_, rfl, tt_at 554 rfl rfl⟩, List.forall_mem_cons.mpr ⟨⟨_, rfl, tt_at 557 rfl rfl⟩, List.forall_mem_cons.mpr ⟨⟨_, rfl, tt_at 560 rfl rfl⟩, List.forall_mem_cons.mpr ⟨⟨_, rfl, tt_at 563 rfl rfl⟩, List.forall_mem_cons.mpr ⟨⟨_, rfl, tt_at 567 rfl rfl⟩, List.forall_mem_cons.mpr ⟨⟨_, rfl, tt_at 570 rfl rfl⟩, List.forall_mem_cons.mpr ⟨⟨_, rfl, tt_at 580 rfl rfl⟩, List.forall_mem_cons.mpr ⟨⟨_, rfl, tt_at 623 rfl rfl⟩, List.forall_mem_cons.mpr ⟨⟨_, rfl, tt_at 630 rfl rfl⟩, fun _ h => absurd h List.not_mem_nil⟩⟩⟩⟩⟩⟩⟩⟩⟩⟩⟩⟩⟩⟩
set_option maxRecDepth 100000 in
theorem MR_11_ok : ∀ q ∈ MR_11, ML "RowDrawer" q := List.forall_mem_cons.mpr ⟨⟨_, rfl, tt_at 438 rfl rfl⟩, List.forall_mem_cons.mpr ⟨⟨_, rfl, tt_at 445 rfl rfl⟩, List.forall_mem_cons.mpr ⟨⟨_, rfl, tt_at 461 rfl rfl⟩, List.forall_mem_cons.mpr ⟨⟨_, rfl, tt_at 469 rfl rfl⟩, List.forall_mem_cons.mpr ⟨⟨_, rfl, tt_at 481 rfl rfl⟩, List.forall_mem_cons.mpr ⟨⟨_, rfl, tt_at 482 rfl rfl⟩, List.forall_mem_cons.mpr ⟨⟨_, rfl, tt_at 490 rfl rfl⟩, List.forall_mem_cons.mpr ⟨⟨_, rfl, tt_at 497 rfl rfl⟩, List.forall_mem_cons.mpr ⟨⟨_, rfl, tt_at 505 rfl rfl⟩, List.forall_mem_cons.mpr ⟨⟨_, rfl, tt_at 517 rfl rfl⟩, List.forall_mem_cons.mpr ⟨⟨_, rfl, tt_at 524 rfl rfl⟩, List.forall_mem_cons.mpr ⟨⟨_, rfl, tt_at 532 rfl rfl⟩, List.forall_mem_cons.mpr ⟨⟨_, rfl, tt_at 736 rfl rfl⟩, List.forall_mem_cons.mpr ⟨⟨_, rfl, tt_at 740 rfl rfl⟩, List.forall_mem_cons.mpr ⟨⟨_, rfl, tt_at 745 rfl rfl⟩, List.forall_mem_cons.mpr ⟨⟨_, rfl, tt_at 754 rfl rfl⟩, List.forall_mem_cons.mpr ⟨⟨_, rfl, tt_at 852 rfl rfl⟩, List.forall_mem_cons.mpr ⟨⟨_, rfl, tt_at 860 rfl rfl⟩, List.forall_mem_cons.mpr ⟨⟨_, rfl, tt_at 888 rfl rfl⟩, List.forall_mem_cons.mpr ⟨⟨_, rfl, tt_at 889 rfl rfl⟩, List.forall_mem_cons.mpr ⟨⟨_, rfl, tt_at 961 rfl rfl⟩, List.forall_mem_cons.mpr ⟨⟨_, rfl, tt_at 969 rfl rfl⟩, List.forall_mem_cons.mpr ⟨⟨_, rfl, tt_at 981 rfl rfl⟩, List.forall_mem_cons.mpr ⟨⟨_, rfl, tt_at 985 rfl rfl⟩, List.forall_mem_cons.mpr ⟨⟨_, rfl, tt_at 993 rfl rfl⟩, List.forall_mem_cons.mpr ⟨⟨_, rfl, tt_at 994 rfl rfl⟩, List.forall_mem_cons.mpr ⟨⟨_, rfl, tt_at 995 rfl rfl⟩, List.forall_mem_cons.mpr ⟨⟨_, rfl, tt_at 1007 rfl rfl⟩, List.forall_mem_cons.mpr ⟨⟨_, rfl, tt_at 1008 rfl rfl⟩, List.forall_mem_cons.mpr ⟨⟨_, rfl, tt_at 1019 rfl rfl⟩, List.forall_mem_cons.mpr ⟨⟨_, rfl, tt_at 1023 rfl rfl⟩, List.forall_mem_cons.mpr ⟨⟨_, rfl, tt_at 1043 rfl rfl⟩, List.forall_mem_cons.mpr ⟨⟨_, rfl, tt_at 1094 rfl rfl⟩, List.forall_mem_cons.mpr ⟨⟨_, rfl, tt_at 1106 rfl rfl⟩, List.forall_mem_cons.mpr ⟨⟨_, rfl, tt_at 1118 rfl rfl⟩, List.forall_mem_cons.mpr ⟨⟨_, rfl, tt_at 1123 rfl rfl⟩, List.forall_mem_cons.mpr ⟨⟨_, rfl, tt_at 1124 rfl rfl⟩, List.forall_mem_cons.mpr ⟨⟨_, rfl, tt_at 1128 rfl rfl⟩, List.forall_mem_cons.mpr ⟨⟨_, rfl, tt_at 1129 rfl rfl⟩, List.forall_mem_cons.mpr ⟨⟨_, rfl, tt_at 1130 rfl rfl⟩, List.forall_mem_cons.mpr ⟨⟨_, rfl, tt_at 1131 rfl rfl⟩, List.forall_mem_cons.mpr ⟨⟨_, rfl, tt_at 1143 rfl rfl⟩, List.forall_mem_cons.mpr ⟨⟨_, rfl, tt_at 1209 rfl rfl⟩, List.forall_mem_cons.mpr ⟨⟨_, rfl, tt_at 1210 rfl rfl⟩, List.forall_mem_cons.mpr ⟨⟨_, rfl, tt_at 1211 rfl rfl⟩, List.forall_mem_cons.mpr ⟨⟨_, rfl, tt_at 1217 rfl rfl⟩, List.forall_mem_cons.mpr ⟨⟨_, rfl, tt_at 1218 rfl rfl⟩, fun _ h => absurd h List.not_mem_nil⟩⟩⟩⟩⟩⟩⟩⟩⟩⟩⟩⟩⟩⟩⟩⟩⟩⟩⟩⟩⟩⟩⟩⟩⟩⟩⟩⟩⟩⟩⟩⟩⟩⟩⟩⟩⟩⟩⟩⟩⟩⟩⟩⟩⟩⟩⟩
set_option maxRecDepth 100000 in
theorem MR_12_ok : ∀ q ∈ MR_12, ML "RowDrawerModel" q := List.forall_mem_cons.mpr ⟨⟨_, rfl, tt_at 1230 rfl rfl⟩, List.forall_mem_cons.mpr ⟨⟨_, rfl, tt_at 1413 rfl rfl⟩, List.forall_mem_cons.mpr ⟨⟨_, rfl, tt_at 1417 rfl rfl⟩, List.forall_mem_cons.mpr ⟨⟨_, rfl, tt_at 1421 rfl rfl⟩, List.forall_mem_cons.mpr ⟨⟨_, rfl, tt_at 1424 rfl rfl⟩, List.forall_mem_cons.mpr ⟨⟨_, rfl, tt_at 1429 rfl rfl⟩, List.forall_mem_cons.mpr ⟨⟨_, rfl, tt_at 1432 rfl rfl⟩, List.forall_mem_cons.mpr ⟨⟨_, rfl, tt_at 1436 rfl rfl⟩, List.forall_mem_cons.mpr ⟨⟨_, rfl, tt_at 1440 rfl rfl⟩, List.forall_mem_cons.mpr ⟨⟨_, rfl, tt_at 1444 rfl rfl⟩, List.forall_mem_cons.mpr ⟨⟨_, rfl, tt_at 1448 rfl rfl⟩, List.forall_mem_cons.mpr ⟨⟨_, rfl, tt_at 1452 rfl rfl⟩, List.forall_mem_cons.mpr ⟨⟨_, rfl, tt_at 1456 rfl rfl⟩, List.forall_mem_cons.mpr ⟨⟨_, rfl, tt_at 1460 rfl rfl⟩, List.forall_mem_cons.mpr ⟨⟨_, rfl, tt_at 1464 rfl rfl⟩, List.forall_mem_cons.mpr ⟨⟨_, rfl, tt_at 1468 rfl rfl⟩, List.forall_mem_cons.mpr ⟨⟨_, rfl, tt_at 1472 rfl rfl⟩, List.forall_mem_cons.mpr ⟨⟨_, rfl, tt_at 1476 rfl rfl⟩, List.forall_mem_cons.mpr ⟨⟨_, rfl, tt_at 1480 rfl rfl⟩, List.forall_mem_cons.mpr ⟨⟨_, rfl, tt_at 1488 rfl rfl⟩, List.forall_mem_cons.mpr ⟨⟨_, rfl, tt_at 1499 rfl rfl⟩, List.forall_mem_cons.mpr ⟨⟨_, rfl, tt_at 1515 rfl rfl⟩, List.forall_mem_cons.mpr ⟨⟨_, rfl, tt_at 1523 rfl rfl⟩, List.forall_mem_cons.mpr ⟨⟨_, rfl, tt_at 1527 rfl rfl⟩, List.forall_mem_cons.mpr ⟨⟨_, rfl, tt_at 1531 rfl rfl⟩, List.forall_mem_cons.mpr ⟨⟨_, rfl, tt_at 1535 rfl rfl⟩, List.forall_mem_cons.mpr ⟨⟨_, rfl, tt_at 1539 rfl rfl⟩, List.forall_mem_cons.mpr ⟨⟨_, rfl, tt_at 1546 rfl rfl⟩, List.forall_mem_cons.mpr ⟨⟨_, rfl, tt_at 1554 rfl rfl⟩, List.forall_mem_cons.mpr ⟨⟨_, rfl, tt_at 1557 rfl rfl⟩, List.forall_mem_cons.mpr ⟨⟨_, rfl, tt_at 1561 rfl rfl⟩, List.forall_mem_cons.mpr ⟨⟨_, rfl, tt_at 1581 rfl rfl⟩, List.forall_mem_cons.mpr ⟨⟨_, rfl, tt_at 1585 rfl rfl⟩, List.forall_mem_cons.mpr ⟨⟨_, rfl, tt_at 1593 rfl rfl⟩, List.forall_mem_cons.mpr ⟨⟨_, rfl, tt_at 1600 rfl rfl⟩, List.forall_mem_cons.mpr ⟨⟨_, rfl, tt_at 1604 rfl rfl⟩, List.forall_mem_cons.mpr ⟨⟨_, rfl, tt_at 1607 rfl rfl⟩, List.forall_mem_cons.mpr ⟨⟨_, rfl, tt_at 1623 rfl rfl⟩, fun _ h => absurd h List.not_mem_nil⟩⟩⟩⟩⟩⟩⟩⟩⟩⟩⟩⟩⟩⟩⟩⟩⟩⟩⟩⟩⟩⟩⟩⟩⟩⟩⟩⟩⟩⟩⟩⟩⟩⟩⟩⟩⟩⟩
set_option maxRecDepth 100000 in
theorem MR_13_ok : ∀ q ∈ MR_13, ML "java/lang/Integer" q := fun _ h => absurd h List.not_mem_nil
set_option maxRecDepth 100000 in
theorem MR_14_ok : ∀ q ∈ MR_14, ML "java/lang/Long" q := fun _ h => absurd h List.not_mem_nil
set_option maxRecDepth 100000 in
theorem MR_15_ok : ∀ q ∈ MR_15, ML "java/lang/Math" q := fun _ h => absurd h List.not_mem_nil
set_option maxRecDepth 100000 in
theorem MR_16_ok : ∀ q ∈ MR_16, ML "java/util/Arrays" q := fun _ h => absurd h List.not_mem_nil
set_option maxRecDepth 100000 in
theorem MR_17_ok : ∀ q ∈ MR_17, ML "java/lang/String" q := fun _ h => absurd h List.not_mem_nil
def FR : Nat → List (Nat × Nat × Nat)
  | 0 => FR_0
  | 1 => FR_1
  | 2 => FR_2
  | 3 => FR_3
  | 4 => FR_4
  | 5 => FR_5
  | 6 => FR_6
  | 7 => FR_7
  | 8 => FR_8
  | 9 => FR_9
  | 10 => FR_10
  | 11 => FR_11
  | 12 => FR_12
  | 13 => FR_13
  | 14 => FR_14
  | 15 => FR_15
  | 16 => FR_16
  | 17 => FR_17
  | _ => []
def PR : Nat → List (Nat × Nat × Nat × Nat)
  | 0 => PR_0
  | 1 => PR_1
  | 2 => PR_2
  | 3 => PR_3
  | 4 => PR_4
  | 5 => PR_5
  | 6 => PR_6
  | 7 => PR_7
  | 8 => PR_8
  | 9 => PR_9
  | 10 => PR_10
  | 11 => PR_11
  | 12 => PR_12
  | 13 => PR_13
  | 14 => PR_14
  | 15 => PR_15
  | 16 => PR_16
  | 17 => PR_17
  | _ => []
def MR : Nat → List (Nat × Nat × Nat)
  | 0 => MR_0
  | 1 => MR_1
  | 2 => MR_2
  | 3 => MR_3
  | 4 => MR_4
  | 5 => MR_5
  | 6 => MR_6
  | 7 => MR_7
  | 8 => MR_8
  | 9 => MR_9
  | 10 => MR_10
  | 11 => MR_11
  | 12 => MR_12
  | 13 => MR_13
  | 14 => MR_14
  | 15 => MR_15
  | 16 => MR_16
  | 17 => MR_17
  | _ => []
def LI : Nat → List (Nat × Int32)
  | 0 => LI_0
  | 1 => LI_1
  | 2 => LI_2
  | 3 => LI_3
  | 4 => LI_4
  | 5 => LI_5
  | 6 => LI_6
  | 7 => LI_7
  | 8 => LI_8
  | 9 => LI_9
  | 10 => LI_10
  | 11 => LI_11
  | 12 => LI_12
  | 13 => LI_13
  | 14 => LI_14
  | 15 => LI_15
  | 16 => LI_16
  | 17 => LI_17
  | _ => []
def LL : Nat → List (Nat × Int64)
  | 0 => LL_0
  | 1 => LL_1
  | 2 => LL_2
  | 3 => LL_3
  | 4 => LL_4
  | 5 => LL_5
  | 6 => LL_6
  | 7 => LL_7
  | 8 => LL_8
  | 9 => LL_9
  | 10 => LL_10
  | 11 => LL_11
  | 12 => LL_12
  | 13 => LL_13
  | 14 => LL_14
  | 15 => LL_15
  | 16 => LL_16
  | 17 => LL_17
  | _ => []
theorem FR_ok : ∀ k, ∀ q ∈ FR k, FL (clN.getD k "") q
  | 0 => FR_0_ok
  | 1 => FR_1_ok
  | 2 => FR_2_ok
  | 3 => FR_3_ok
  | 4 => FR_4_ok
  | 5 => FR_5_ok
  | 6 => FR_6_ok
  | 7 => FR_7_ok
  | 8 => FR_8_ok
  | 9 => FR_9_ok
  | 10 => FR_10_ok
  | 11 => FR_11_ok
  | 12 => FR_12_ok
  | 13 => FR_13_ok
  | 14 => FR_14_ok
  | 15 => FR_15_ok
  | 16 => FR_16_ok
  | 17 => FR_17_ok
  | _ + 18 => fun _ h => absurd h List.not_mem_nil
theorem PR_ok : ∀ k, ∀ q ∈ PR k, PL (clN.getD k "") q
  | 0 => PR_0_ok
  | 1 => PR_1_ok
  | 2 => PR_2_ok
  | 3 => PR_3_ok
  | 4 => PR_4_ok
  | 5 => PR_5_ok
  | 6 => PR_6_ok
  | 7 => PR_7_ok
  | 8 => PR_8_ok
  | 9 => PR_9_ok
  | 10 => PR_10_ok
  | 11 => PR_11_ok
  | 12 => PR_12_ok
  | 13 => PR_13_ok
  | 14 => PR_14_ok
  | 15 => PR_15_ok
  | 16 => PR_16_ok
  | 17 => PR_17_ok
  | _ + 18 => fun _ h => absurd h List.not_mem_nil
theorem MR_ok : ∀ k, ∀ q ∈ MR k, ML (clN.getD k "") q
  | 0 => MR_0_ok
  | 1 => MR_1_ok
  | 2 => MR_2_ok
  | 3 => MR_3_ok
  | 4 => MR_4_ok
  | 5 => MR_5_ok
  | 6 => MR_6_ok
  | 7 => MR_7_ok
  | 8 => MR_8_ok
  | 9 => MR_9_ok
  | 10 => MR_10_ok
  | 11 => MR_11_ok
  | 12 => MR_12_ok
  | 13 => MR_13_ok
  | 14 => MR_14_ok
  | 15 => MR_15_ok
  | 16 => MR_16_ok
  | 17 => MR_17_ok
  | _ + 18 => fun _ h => absurd h List.not_mem_nil
theorem LI_ok : ∀ k, ∀ q ∈ LI k, Cond.constant (clN.getD k "") q.1 q.2 ∈ TT
  | 0 => LI_0_ok
  | 1 => LI_1_ok
  | 2 => LI_2_ok
  | 3 => LI_3_ok
  | 4 => LI_4_ok
  | 5 => LI_5_ok
  | 6 => LI_6_ok
  | 7 => LI_7_ok
  | 8 => LI_8_ok
  | 9 => LI_9_ok
  | 10 => LI_10_ok
  | 11 => LI_11_ok
  | 12 => LI_12_ok
  | 13 => LI_13_ok
  | 14 => LI_14_ok
  | 15 => LI_15_ok
  | 16 => LI_16_ok
  | 17 => LI_17_ok
  | _ + 18 => fun _ h => absurd h List.not_mem_nil
theorem LL_ok : ∀ k, ∀ q ∈ LL k, Cond.constantLong (clN.getD k "") q.1 q.2 ∈ TT
  | 0 => LL_0_ok
  | 1 => LL_1_ok
  | 2 => LL_2_ok
  | 3 => LL_3_ok
  | 4 => LL_4_ok
  | 5 => LL_5_ok
  | 6 => LL_6_ok
  | 7 => LL_7_ok
  | 8 => LL_8_ok
  | 9 => LL_9_ok
  | 10 => LL_10_ok
  | 11 => LL_11_ok
  | 12 => LL_12_ok
  | 13 => LL_13_ok
  | 14 => LL_14_ok
  | 15 => LL_15_ok
  | 16 => LL_16_ok
  | 17 => LL_17_ok
  | _ + 18 => fun _ h => absurd h List.not_mem_nil
set_option maxRecDepth 100000 in
theorem tt_ac_n : Cond.native arraycopyName ∈ TT := tt_at 496 rfl rfl
set_option maxRecDepth 100000 in
theorem tt_ac_s : Cond.static arraycopyName ∈ TT := tt_at 495 rfl rfl
set_option maxRecDepth 100000 in
theorem tt_sys : Cond.initialized "java/lang/System" ∈ TT := tt_at 86 rfl rfl
set_option maxRecDepth 100000 in
theorem tt_math : Cond.initialized "java/lang/Math" ∈ TT := tt_at 91 rfl rfl
set_option maxRecDepth 100000 in
theorem tt_min_s : Cond.static Lib.Math.min.name ∈ TT := tt_at 821 rfl rfl
set_option maxRecDepth 100000 in
theorem tt_min_c : Cond.code Lib.Math.min.name Lib.Math.min.code 2 (some .int) ∈ TT := tt_at 822 rfl rfl
set_option maxRecDepth 100000 in
theorem tt_max_s : Cond.static Lib.Math.max.name ∈ TT := tt_at 824 rfl rfl
set_option maxRecDepth 100000 in
theorem tt_max_c : Cond.code Lib.Math.max.name Lib.Math.max.code 2 (some .int) ∈ TT := tt_at 825 rfl rfl
set_option maxRecDepth 100000 in
theorem tt_abs_s : Cond.static Lib.Math.abs.name ∈ TT := tt_at 1065 rfl rfl
set_option maxRecDepth 100000 in
theorem tt_abs_c : Cond.code Lib.Math.abs.name Lib.Math.abs.code 1 (some .int) ∈ TT := tt_at 1066 rfl rfl
set_option maxRecDepth 100000 in
theorem m_BestSet_setCaught_ok : MOK (m_BestSet_setCaught, 3, false) := ⟨tt_at 1022 rfl rfl, tt_at 83 rfl rfl, by decide +kernel, by decide +kernel, by decide +kernel, ⟨tt_at 1020 rfl rfl, tt_at 1021 rfl rfl⟩, by decide +kernel, by decide, rfl⟩
set_option maxRecDepth 100000 in
theorem m_BestSet_choose_ok : MOK (m_BestSet_choose, 2, false) := ⟨tt_at 1026 rfl rfl, tt_at 83 rfl rfl, by decide +kernel, by decide +kernel, by decide +kernel, ⟨tt_at 1024 rfl rfl, tt_at 1025 rfl rfl⟩, by decide +kernel, by decide, rfl⟩
set_option maxRecDepth 100000 in
theorem m_BestSet_tryFrom_ok : MOK (m_BestSet_tryFrom, 4, false) := ⟨tt_at 1031 rfl rfl, tt_at 83 rfl rfl, by decide +kernel, by decide +kernel, by decide +kernel, ⟨tt_at 1030 rfl rfl, tt_at 34 rfl rfl⟩, by decide +kernel, by decide, rfl⟩
set_option maxRecDepth 100000 in
theorem m_BestSet_weigh_ok : MOK (m_BestSet_weigh, 2, false) := ⟨tt_at 1036 rfl rfl, tt_at 83 rfl rfl, by decide +kernel, by decide +kernel, by decide +kernel, ⟨tt_at 1035 rfl rfl, tt_at 35 rfl rfl⟩, by decide +kernel, by decide, rfl⟩
set_option maxRecDepth 100000 in
theorem m_Book_clear_ok : MOK (m_Book_clear, 0, false) := ⟨tt_at 641 rfl rfl, tt_at 79 rfl rfl, by decide +kernel, by decide +kernel, by decide +kernel, ⟨tt_at 639 rfl rfl, tt_at 640 rfl rfl⟩, by decide +kernel, by decide, rfl⟩
set_option maxRecDepth 100000 in
theorem m_Book_become_ok : MOK (m_Book_become, 1, false) := ⟨tt_at 743 rfl rfl, tt_at 79 rfl rfl, by decide +kernel, by decide +kernel, by decide +kernel, ⟨tt_at 741 rfl rfl, tt_at 742 rfl rfl⟩, by decide +kernel, by decide, rfl⟩
set_option maxRecDepth 100000 in
theorem m_Book_openRule_ok : MOK (m_Book_openRule, 1, false) := ⟨tt_at 677 rfl rfl, tt_at 79 rfl rfl, by decide +kernel, by decide +kernel, by decide +kernel, ⟨tt_at 675 rfl rfl, tt_at 676 rfl rfl⟩, by decide +kernel, by decide, rfl⟩
set_option maxRecDepth 100000 in
theorem m_Book_openRuleHas_ok : MOK (m_Book_openRuleHas, 1, false) := ⟨tt_at 685 rfl rfl, tt_at 79 rfl rfl, by decide +kernel, by decide +kernel, by decide +kernel, ⟨tt_at 683 rfl rfl, tt_at 684 rfl rfl⟩, by decide +kernel, by decide, rfl⟩
set_option maxRecDepth 100000 in
theorem m_Book_addItem_ok : MOK (m_Book_addItem, 3, false) := ⟨tt_at 692 rfl rfl, tt_at 79 rfl rfl, by decide +kernel, by decide +kernel, by decide +kernel, ⟨tt_at 690 rfl rfl, tt_at 691 rfl rfl⟩, by decide +kernel, by decide, rfl⟩
set_option maxRecDepth 100000 in
theorem m_Book_closeRule_ok : MOK (m_Book_closeRule, 0, false) := ⟨tt_at 700 rfl rfl, tt_at 79 rfl rfl, by decide +kernel, by decide +kernel, by decide +kernel, ⟨tt_at 698 rfl rfl, tt_at 699 rfl rfl⟩, by decide +kernel, by decide, rfl⟩
set_option maxRecDepth 100000 in
theorem m_Book_addBar_ok : MOK (m_Book_addBar, 1, false) := ⟨tt_at 712 rfl rfl, tt_at 79 rfl rfl, by decide +kernel, by decide +kernel, by decide +kernel, ⟨tt_at 710 rfl rfl, tt_at 711 rfl rfl⟩, by decide +kernel, by decide, rfl⟩
set_option maxRecDepth 100000 in
theorem m_Book_addChain_ok : MOK (m_Book_addChain, 3, false) := ⟨tt_at 724 rfl rfl, tt_at 79 rfl rfl, by decide +kernel, by decide +kernel, by decide +kernel, ⟨tt_at 722 rfl rfl, tt_at 723 rfl rfl⟩, by decide +kernel, by decide, rfl⟩
set_option maxRecDepth 100000 in
theorem m_Book_addSingle_ok : MOK (m_Book_addSingle, 1, false) := ⟨tt_at 732 rfl rfl, tt_at 79 rfl rfl, by decide +kernel, by decide +kernel, by decide +kernel, ⟨tt_at 730 rfl rfl, tt_at 731 rfl rfl⟩, by decide +kernel, by decide, rfl⟩
set_option maxRecDepth 100000 in
theorem m_Book_rules_ok : MOK (m_Book_rules, 0, false) := ⟨tt_at 653 rfl rfl, tt_at 79 rfl rfl, by decide +kernel, by decide +kernel, by decide +kernel, ⟨tt_at 651 rfl rfl, tt_at 652 rfl rfl⟩, by decide +kernel, by decide, rfl⟩
set_option maxRecDepth 100000 in
theorem m_Book_bars_ok : MOK (m_Book_bars, 0, false) := ⟨tt_at 708 rfl rfl, tt_at 79 rfl rfl, by decide +kernel, by decide +kernel, by decide +kernel, ⟨tt_at 706 rfl rfl, tt_at 707 rfl rfl⟩, by decide +kernel, by decide, rfl⟩
set_option maxRecDepth 100000 in
theorem m_Book_chains_ok : MOK (m_Book_chains, 0, false) := ⟨tt_at 720 rfl rfl, tt_at 79 rfl rfl, by decide +kernel, by decide +kernel, by decide +kernel, ⟨tt_at 718 rfl rfl, tt_at 719 rfl rfl⟩, by decide +kernel, by decide, rfl⟩
set_option maxRecDepth 100000 in
theorem m_Book_hasRule_ok : MOK (m_Book_hasRule, 1, false) := ⟨tt_at 787 rfl rfl, tt_at 79 rfl rfl, by decide +kernel, by decide +kernel, by decide +kernel, ⟨tt_at 785 rfl rfl, tt_at 786 rfl rfl⟩, by decide +kernel, by decide, rfl⟩
set_option maxRecDepth 100000 in
theorem m_Book_relationOf_ok : MOK (m_Book_relationOf, 1, false) := ⟨tt_at 883 rfl rfl, tt_at 79 rfl rfl, by decide +kernel, by decide +kernel, by decide +kernel, ⟨tt_at 881 rfl rfl, tt_at 882 rfl rfl⟩, by decide +kernel, by decide, rfl⟩
set_option maxRecDepth 100000 in
theorem m_Book_itemsOf_ok : MOK (m_Book_itemsOf, 1, false) := ⟨tt_at 799 rfl rfl, tt_at 79 rfl rfl, by decide +kernel, by decide +kernel, by decide +kernel, ⟨tt_at 797 rfl rfl, tt_at 798 rfl rfl⟩, by decide +kernel, by decide, rfl⟩
set_option maxRecDepth 100000 in
theorem m_Book_leftItem_ok : MOK (m_Book_leftItem, 1, false) := ⟨tt_at 783 rfl rfl, tt_at 79 rfl rfl, by decide +kernel, by decide +kernel, by decide +kernel, ⟨tt_at 781 rfl rfl, tt_at 782 rfl rfl⟩, by decide +kernel, by decide, rfl⟩
set_option maxRecDepth 100000 in
theorem m_Book_rightItem_ok : MOK (m_Book_rightItem, 1, false) := ⟨tt_at 791 rfl rfl, tt_at 79 rfl rfl, by decide +kernel, by decide +kernel, by decide +kernel, ⟨tt_at 789 rfl rfl, tt_at 790 rfl rfl⟩, by decide +kernel, by decide, rfl⟩
set_option maxRecDepth 100000 in
theorem m_Book_kindOf_ok : MOK (m_Book_kindOf, 2, false) := ⟨tt_at 803 rfl rfl, tt_at 79 rfl rfl, by decide +kernel, by decide +kernel, by decide +kernel, ⟨tt_at 801 rfl rfl, tt_at 802 rfl rfl⟩, by decide +kernel, by decide, rfl⟩
set_option maxRecDepth 100000 in
theorem m_Book_numberOf_ok : MOK (m_Book_numberOf, 2, false) := ⟨tt_at 811 rfl rfl, tt_at 79 rfl rfl, by decide +kernel, by decide +kernel, by decide +kernel, ⟨tt_at 809 rfl rfl, tt_at 810 rfl rfl⟩, by decide +kernel, by decide, rfl⟩
set_option maxRecDepth 100000 in
theorem m_Book_hasItem_ok : MOK (m_Book_hasItem, 2, false) := ⟨tt_at 807 rfl rfl, tt_at 79 rfl rfl, by decide +kernel, by decide +kernel, by decide +kernel, ⟨tt_at 806 rfl rfl, tt_at 16 rfl rfl⟩, by decide +kernel, by decide, rfl⟩
set_option maxRecDepth 100000 in
theorem m_Book_isBarred_ok : MOK (m_Book_isBarred, 1, false) := ⟨tt_at 774 rfl rfl, tt_at 79 rfl rfl, by decide +kernel, by decide +kernel, by decide +kernel, ⟨tt_at 772 rfl rfl, tt_at 773 rfl rfl⟩, by decide +kernel, by decide, rfl⟩
set_option maxRecDepth 100000 in
theorem m_Book_chainGoal_ok : MOK (m_Book_chainGoal, 1, false) := ⟨tt_at 929 rfl rfl, tt_at 79 rfl rfl, by decide +kernel, by decide +kernel, by decide +kernel, ⟨tt_at 927 rfl rfl, tt_at 928 rfl rfl⟩, by decide +kernel, by decide, rfl⟩
set_option maxRecDepth 100000 in
theorem m_Book_chainFirst_ok : MOK (m_Book_chainFirst, 1, false) := ⟨tt_at 933 rfl rfl, tt_at 79 rfl rfl, by decide +kernel, by decide +kernel, by decide +kernel, ⟨tt_at 931 rfl rfl, tt_at 932 rfl rfl⟩, by decide +kernel, by decide, rfl⟩
set_option maxRecDepth 100000 in
theorem m_Book_chainSecond_ok : MOK (m_Book_chainSecond, 1, false) := ⟨tt_at 937 rfl rfl, tt_at 79 rfl rfl, by decide +kernel, by decide +kernel, by decide +kernel, ⟨tt_at 935 rfl rfl, tt_at 936 rfl rfl⟩, by decide +kernel, by decide, rfl⟩
set_option maxRecDepth 100000 in
theorem m_Book_isSingle_ok : MOK (m_Book_isSingle, 1, false) := ⟨tt_at 984 rfl rfl, tt_at 79 rfl rfl, by decide +kernel, by decide +kernel, by decide +kernel, ⟨tt_at 982 rfl rfl, tt_at 983 rfl rfl⟩, by decide +kernel, by decide, rfl⟩
set_option maxRecDepth 100000 in
theorem m_Finder_forget_ok : MOK (m_Finder_forget, 1, false) := ⟨tt_at 500 rfl rfl, tt_at 80 rfl rfl, by decide +kernel, by decide +kernel, by decide +kernel, ⟨tt_at 498 rfl rfl, tt_at 499 rfl rfl⟩, by decide +kernel, by decide, rfl⟩
set_option maxRecDepth 100000 in
theorem m_Finder_forgetThoseWith_ok : MOK (m_Finder_forgetThoseWith, 1, false) := ⟨tt_at 448 rfl rfl, tt_at 80 rfl rfl, by decide +kernel, by decide +kernel, by decide +kernel, ⟨tt_at 446 rfl rfl, tt_at 447 rfl rfl⟩, by decide +kernel, by decide, rfl⟩
set_option maxRecDepth 100000 in
theorem m_Finder_forgetAll_ok : MOK (m_Finder_forgetAll, 0, false) := ⟨tt_at 748 rfl rfl, tt_at 80 rfl rfl, by decide +kernel, by decide +kernel, by decide +kernel, ⟨tt_at 746 rfl rfl, tt_at 747 rfl rfl⟩, by decide +kernel, by decide, rfl⟩
set_option maxRecDepth 100000 in
theorem m_Finder_refresh_ok : MOK (m_Finder_refresh, 0, false) := ⟨tt_at 757 rfl rfl, tt_at 80 rfl rfl, by decide +kernel, by decide +kernel, by decide +kernel, ⟨tt_at 755 rfl rfl, tt_at 756 rfl rfl⟩, by decide +kernel, by decide, rfl⟩
set_option maxRecDepth 100000 in
theorem m_Finder_drawSentence_ok : MOK (m_Finder_drawSentence, 1, false) := ⟨tt_at 761 rfl rfl, tt_at 80 rfl rfl, by decide +kernel, by decide +kernel, by decide +kernel, ⟨tt_at 760 rfl rfl, tt_at 11 rfl rfl⟩, by decide +kernel, by decide, rfl⟩
set_option maxRecDepth 100000 in
theorem m_Finder_clearSentence_ok : MOK (m_Finder_clearSentence, 1, false) := ⟨tt_at 765 rfl rfl, tt_at 80 rfl rfl, by decide +kernel, by decide +kernel, by decide +kernel, ⟨tt_at 764 rfl rfl, tt_at 12 rfl rfl⟩, by decide +kernel, by decide, rfl⟩
set_option maxRecDepth 100000 in
theorem m_Finder_hasBarredWord_ok : MOK (m_Finder_hasBarredWord, 1, false) := ⟨tt_at 770 rfl rfl, tt_at 80 rfl rfl, by decide +kernel, by decide +kernel, by decide +kernel, ⟨tt_at 769 rfl rfl, tt_at 13 rfl rfl⟩, by decide +kernel, by decide, rfl⟩
set_option maxRecDepth 100000 in
theorem m_Finder_drawRule_ok : MOK (m_Finder_drawRule, 2, false) := ⟨tt_at 779 rfl rfl, tt_at 80 rfl rfl, by decide +kernel, by decide +kernel, by decide +kernel, ⟨tt_at 778 rfl rfl, tt_at 14 rfl rfl⟩, by decide +kernel, by decide, rfl⟩
set_option maxRecDepth 100000 in
theorem m_Finder_fitItems_ok : MOK (m_Finder_fitItems, 2, false) := ⟨tt_at 795 rfl rfl, tt_at 80 rfl rfl, by decide +kernel, by decide +kernel, by decide +kernel, ⟨tt_at 794 rfl rfl, tt_at 15 rfl rfl⟩, by decide +kernel, by decide, rfl⟩
set_option maxRecDepth 100000 in
theorem m_Finder_placesOf_ok : MOK (m_Finder_placesOf, 3, false) := ⟨tt_at 815 rfl rfl, tt_at 80 rfl rfl, by decide +kernel, by decide +kernel, by decide +kernel, ⟨tt_at 814 rfl rfl, tt_at 17 rfl rfl⟩, by decide +kernel, by decide, rfl⟩
set_option maxRecDepth 100000 in
theorem m_Finder_forward_ok : MOK (m_Finder_forward, 4, false) := ⟨tt_at 829 rfl rfl, tt_at 80 rfl rfl, by decide +kernel, by decide +kernel, by decide +kernel, ⟨tt_at 828 rfl rfl, tt_at 18 rfl rfl⟩, by decide +kernel, by decide, rfl⟩
set_option maxRecDepth 100000 in
theorem m_Finder_backward_ok : MOK (m_Finder_backward, 3, false) := ⟨tt_at 833 rfl rfl, tt_at 80 rfl rfl, by decide +kernel, by decide +kernel, by decide +kernel, ⟨tt_at 832 rfl rfl, tt_at 19 rfl rfl⟩, by decide +kernel, by decide, rfl⟩
set_option maxRecDepth 100000 in
theorem m_Finder_keepPairs_ok : MOK (m_Finder_keepPairs, 4, false) := ⟨tt_at 837 rfl rfl, tt_at 80 rfl rfl, by decide +kernel, by decide +kernel, by decide +kernel, ⟨tt_at 836 rfl rfl, tt_at 20 rfl rfl⟩, by decide +kernel, by decide, rfl⟩
set_option maxRecDepth 100000 in
theorem m_Finder_countPairs_ok : MOK (m_Finder_countPairs, 2, false) := ⟨tt_at 841 rfl rfl, tt_at 80 rfl rfl, by decide +kernel, by decide +kernel, by decide +kernel, ⟨tt_at 840 rfl rfl, tt_at 21 rfl rfl⟩, by decide +kernel, by decide, rfl⟩
set_option maxRecDepth 100000 in
theorem m_Finder_rightPlaces_ok : MOK (m_Finder_rightPlaces, 3, false) := ⟨tt_at 845 rfl rfl, tt_at 80 rfl rfl, by decide +kernel, by decide +kernel, by decide +kernel, ⟨tt_at 843 rfl rfl, tt_at 844 rfl rfl⟩, by decide +kernel, by decide, rfl⟩
set_option maxRecDepth 100000 in
theorem m_Finder_isBarred_ok : MOK (m_Finder_isBarred, 1, false) := ⟨tt_at 879 rfl rfl, tt_at 80 rfl rfl, by decide +kernel, by decide +kernel, by decide +kernel, ⟨tt_at 877 rfl rfl, tt_at 878 rfl rfl⟩, by decide +kernel, by decide, rfl⟩
set_option maxRecDepth 100000 in
theorem m_Finder_has_ok : MOK (m_Finder_has, 4, false) := ⟨tt_at 871 rfl rfl, tt_at 80 rfl rfl, by decide +kernel, by decide +kernel, by decide +kernel, ⟨tt_at 869 rfl rfl, tt_at 870 rfl rfl⟩, by decide +kernel, by decide, rfl⟩
set_option maxRecDepth 100000 in
theorem m_Finder_total_ok : MOK (m_Finder_total, 1, false) := ⟨tt_at 855 rfl rfl, tt_at 80 rfl rfl, by decide +kernel, by decide +kernel, by decide +kernel, ⟨tt_at 853 rfl rfl, tt_at 854 rfl rfl⟩, by decide +kernel, by decide, rfl⟩
set_option maxRecDepth 100000 in
theorem m_Finder_totalOfRule_ok : MOK (m_Finder_totalOfRule, 1, false) := ⟨tt_at 1221 rfl rfl, tt_at 80 rfl rfl, by decide +kernel, by decide +kernel, by decide +kernel, ⟨tt_at 1219 rfl rfl, tt_at 1220 rfl rfl⟩, by decide +kernel, by decide, rfl⟩
set_option maxRecDepth 100000 in
theorem m_Finder_tellOf_ok : MOK (m_Finder_tellOf, 2, false) := ⟨tt_at 863 rfl rfl, tt_at 80 rfl rfl, by decide +kernel, by decide +kernel, by decide +kernel, ⟨tt_at 861 rfl rfl, tt_at 862 rfl rfl⟩, by decide +kernel, by decide, rfl⟩
set_option maxRecDepth 100000 in
theorem m_Finder_tellWithin_ok : MOK (m_Finder_tellWithin, 4, false) := ⟨tt_at 867 rfl rfl, tt_at 80 rfl rfl, by decide +kernel, by decide +kernel, by decide +kernel, ⟨tt_at 866 rfl rfl, tt_at 22 rfl rfl⟩, by decide +kernel, by decide, rfl⟩
set_option maxRecDepth 100000 in
theorem m_Finder_part_ok : MOK (m_Finder_part, 5, false) := ⟨tt_at 875 rfl rfl, tt_at 80 rfl rfl, by decide +kernel, by decide +kernel, by decide +kernel, ⟨tt_at 874 rfl rfl, tt_at 23 rfl rfl⟩, by decide +kernel, by decide, rfl⟩
set_option maxRecDepth 100000 in
theorem m_Lesson_study_ok : MOK (m_Lesson_study, 1, false) := ⟨tt_at 1046 rfl rfl, tt_at 84 rfl rfl, by decide +kernel, by decide +kernel, by decide +kernel, ⟨tt_at 1044 rfl rfl, tt_at 1045 rfl rfl⟩, by decide +kernel, by decide, rfl⟩
set_option maxRecDepth 100000 in
theorem m_Lesson_begin_ok : MOK (m_Lesson_begin, 2, false) := ⟨tt_at 1055 rfl rfl, tt_at 84 rfl rfl, by decide +kernel, by decide +kernel, by decide +kernel, ⟨tt_at 1054 rfl rfl, tt_at 36 rfl rfl⟩, by decide +kernel, by decide, rfl⟩
set_option maxRecDepth 100000 in
theorem m_Lesson_isLike_ok : MOK (m_Lesson_isLike, 1, false) := ⟨tt_at 1080 rfl rfl, tt_at 84 rfl rfl, by decide +kernel, by decide +kernel, by decide +kernel, ⟨tt_at 1079 rfl rfl, tt_at 38 rfl rfl⟩, by decide +kernel, by decide, rfl⟩
set_option maxRecDepth 100000 in
theorem m_Lesson_wordAt_ok : MOK (m_Lesson_wordAt, 2, false) := ⟨tt_at 1071 rfl rfl, tt_at 84 rfl rfl, by decide +kernel, by decide +kernel, by decide +kernel, ⟨tt_at 1070 rfl rfl, tt_at 37 rfl rfl⟩, by decide +kernel, by decide, rfl⟩
set_option maxRecDepth 100000 in
theorem m_Lesson_widen_ok : MOK (m_Lesson_widen, 1, false) := ⟨tt_at 1084 rfl rfl, tt_at 84 rfl rfl, by decide +kernel, by decide +kernel, by decide +kernel, ⟨tt_at 1083 rfl rfl, tt_at 39 rfl rfl⟩, by decide +kernel, by decide, rfl⟩
set_option maxRecDepth 100000 in
theorem m_Lesson_tellOf_ok : MOK (m_Lesson_tellOf, 2, false) := ⟨tt_at 1097 rfl rfl, tt_at 84 rfl rfl, by decide +kernel, by decide +kernel, by decide +kernel, ⟨tt_at 1095 rfl rfl, tt_at 1096 rfl rfl⟩, by decide +kernel, by decide, rfl⟩
set_option maxRecDepth 100000 in
theorem m_Lesson_roleOf_ok : MOK (m_Lesson_roleOf, 1, false) := ⟨tt_at 1101 rfl rfl, tt_at 84 rfl rfl, by decide +kernel, by decide +kernel, by decide +kernel, ⟨tt_at 1100 rfl rfl, tt_at 40 rfl rfl⟩, by decide +kernel, by decide, rfl⟩
set_option maxRecDepth 100000 in
theorem m_Lesson_caught_ok : MOK (m_Lesson_caught, 1, false) := ⟨tt_at 1109 rfl rfl, tt_at 84 rfl rfl, by decide +kernel, by decide +kernel, by decide +kernel, ⟨tt_at 1107 rfl rfl, tt_at 1108 rfl rfl⟩, by decide +kernel, by decide, rfl⟩
set_option maxRecDepth 100000 in
theorem m_Lesson_standsAt_ok : MOK (m_Lesson_standsAt, 1, false) := ⟨tt_at 1113 rfl rfl, tt_at 84 rfl rfl, by decide +kernel, by decide +kernel, by decide +kernel, ⟨tt_at 1112 rfl rfl, tt_at 41 rfl rfl⟩, by decide +kernel, by decide, rfl⟩
set_option maxRecDepth 100000 in
theorem m_Lexicon_has_ok : MOK (m_Lexicon_has, 1, true) := ⟨tt_at 444 rfl rfl, tt_at 74 rfl rfl, by decide +kernel, by decide +kernel, by decide +kernel, tt_at 443 rfl rfl, by decide +kernel, by decide, rfl⟩
set_option maxRecDepth 100000 in
theorem m_Lexicon_setSort_ok : MOK (m_Lexicon_setSort, 2, false) := ⟨tt_at 441 rfl rfl, tt_at 74 rfl rfl, by decide +kernel, by decide +kernel, by decide +kernel, ⟨tt_at 439 rfl rfl, tt_at 440 rfl rfl⟩, by decide +kernel, by decide, rfl⟩
set_option maxRecDepth 100000 in
theorem m_Lexicon_sortOf_ok : MOK (m_Lexicon_sortOf, 1, false) := ⟨tt_at 1089 rfl rfl, tt_at 74 rfl rfl, by decide +kernel, by decide +kernel, by decide +kernel, ⟨tt_at 1087 rfl rfl, tt_at 1088 rfl rfl⟩, by decide +kernel, by decide, rfl⟩
set_option maxRecDepth 100000 in
theorem m_Lexicon_link_ok : MOK (m_Lexicon_link, 2, false) := ⟨tt_at 472 rfl rfl, tt_at 74 rfl rfl, by decide +kernel, by decide +kernel, by decide +kernel, ⟨tt_at 470 rfl rfl, tt_at 471 rfl rfl⟩, by decide +kernel, by decide, rfl⟩
set_option maxRecDepth 100000 in
theorem m_Lexicon_leadsTo_ok : MOK (m_Lexicon_leadsTo, 2, false) := ⟨tt_at 476 rfl rfl, tt_at 74 rfl rfl, by decide +kernel, by decide +kernel, by decide +kernel, ⟨tt_at 475 rfl rfl, tt_at 0 rfl rfl⟩, by decide +kernel, by decide, rfl⟩
set_option maxRecDepth 100000 in
theorem m_Lexicon_nameOf_ok : MOK (m_Lexicon_nameOf, 1, false) := ⟨tt_at 913 rfl rfl, tt_at 74 rfl rfl, by decide +kernel, by decide +kernel, by decide +kernel, ⟨tt_at 911 rfl rfl, tt_at 912 rfl rfl⟩, by decide +kernel, by decide, rfl⟩
set_option maxRecDepth 100000 in
theorem m_Lexicon_fits_ok : MOK (m_Lexicon_fits, 3, false) := ⟨tt_at 819 rfl rfl, tt_at 74 rfl rfl, by decide +kernel, by decide +kernel, by decide +kernel, ⟨tt_at 817 rfl rfl, tt_at 818 rfl rfl⟩, by decide +kernel, by decide, rfl⟩
set_option maxRecDepth 100000 in
theorem m_Marks_put_ok : MOK (m_Marks_put, 5, false) := ⟨tt_at 998 rfl rfl, tt_at 82 rfl rfl, by decide +kernel, by decide +kernel, by decide +kernel, ⟨tt_at 996 rfl rfl, tt_at 997 rfl rfl⟩, by decide +kernel, by decide, rfl⟩
set_option maxRecDepth 100000 in
theorem m_Marks_indexOf_ok : MOK (m_Marks_indexOf, 4, false) := ⟨tt_at 1002 rfl rfl, tt_at 82 rfl rfl, by decide +kernel, by decide +kernel, by decide +kernel, ⟨tt_at 1001 rfl rfl, tt_at 33 rfl rfl⟩, by decide +kernel, by decide, rfl⟩
set_option maxRecDepth 100000 in
theorem m_Marks_size_ok : MOK (m_Marks_size, 0, false) := ⟨tt_at 1050 rfl rfl, tt_at 82 rfl rfl, by decide +kernel, by decide +kernel, by decide +kernel, ⟨tt_at 1048 rfl rfl, tt_at 1049 rfl rfl⟩, by decide +kernel, by decide, rfl⟩
set_option maxRecDepth 100000 in
theorem m_Marks_isUsable_ok : MOK (m_Marks_isUsable, 3, false) := ⟨tt_at 1016 rfl rfl, tt_at 82 rfl rfl, by decide +kernel, by decide +kernel, by decide +kernel, ⟨tt_at 1014 rfl rfl, tt_at 1015 rfl rfl⟩, by decide +kernel, by decide, rfl⟩
set_option maxRecDepth 100000 in
theorem m_Marks_sentenceOf_ok : MOK (m_Marks_sentenceOf, 1, false) := ⟨tt_at 1075 rfl rfl, tt_at 82 rfl rfl, by decide +kernel, by decide +kernel, by decide +kernel, ⟨tt_at 1073 rfl rfl, tt_at 1074 rfl rfl⟩, by decide +kernel, by decide, rfl⟩
set_option maxRecDepth 100000 in
theorem m_Marks_leftOf_ok : MOK (m_Marks_leftOf, 1, false) := ⟨tt_at 1063 rfl rfl, tt_at 82 rfl rfl, by decide +kernel, by decide +kernel, by decide +kernel, ⟨tt_at 1061 rfl rfl, tt_at 1062 rfl rfl⟩, by decide +kernel, by decide, rfl⟩
set_option maxRecDepth 100000 in
theorem m_Marks_rightOf_ok : MOK (m_Marks_rightOf, 1, false) := ⟨tt_at 1059 rfl rfl, tt_at 82 rfl rfl, by decide +kernel, by decide +kernel, by decide +kernel, ⟨tt_at 1057 rfl rfl, tt_at 1058 rfl rfl⟩, by decide +kernel, by decide, rfl⟩
set_option maxRecDepth 100000 in
theorem m_Marks_caughtBy_ok : MOK (m_Marks_caughtBy, 2, false) := ⟨tt_at 1011 rfl rfl, tt_at 82 rfl rfl, by decide +kernel, by decide +kernel, by decide +kernel, ⟨tt_at 1009 rfl rfl, tt_at 1010 rfl rfl⟩, by decide +kernel, by decide, rfl⟩
set_option maxRecDepth 100000 in
theorem m_Marks_shareOf_ok : MOK (m_Marks_shareOf, 1, false) := ⟨tt_at 1214 rfl rfl, tt_at 82 rfl rfl, by decide +kernel, by decide +kernel, by decide +kernel, ⟨tt_at 1212 rfl rfl, tt_at 1213 rfl rfl⟩, by decide +kernel, by decide, rfl⟩
set_option maxRecDepth 100000 in
theorem m_Reader_draft_ok : MOK (m_Reader_draft, 0, false) := ⟨tt_at 739 rfl rfl, tt_at 77 rfl rfl, by decide +kernel, by decide +kernel, by decide +kernel, ⟨tt_at 737 rfl rfl, tt_at 738 rfl rfl⟩, by decide +kernel, by decide, rfl⟩
set_option maxRecDepth 100000 in
theorem m_Reader_read_ok : MOK (m_Reader_read, 0, false) := ⟨tt_at 535 rfl rfl, tt_at 77 rfl rfl, by decide +kernel, by decide +kernel, by decide +kernel, ⟨tt_at 533 rfl rfl, tt_at 534 rfl rfl⟩, by decide +kernel, by decide, rfl⟩
set_option maxRecDepth 100000 in
theorem m_Reader_readRule_ok : MOK (m_Reader_readRule, 0, false) := ⟨tt_at 649 rfl rfl, tt_at 77 rfl rfl, by decide +kernel, by decide +kernel, by decide +kernel, ⟨tt_at 648 rfl rfl, tt_at 2 rfl rfl⟩, by decide +kernel, by decide, rfl⟩
set_option maxRecDepth 100000 in
theorem m_Reader_readItem_ok : MOK (m_Reader_readItem, 1, false) := ⟨tt_at 681 rfl rfl, tt_at 77 rfl rfl, by decide +kernel, by decide +kernel, by decide +kernel, ⟨tt_at 680 rfl rfl, tt_at 6 rfl rfl⟩, by decide +kernel, by decide, rfl⟩
set_option maxRecDepth 100000 in
theorem m_Reader_isSpec_ok : MOK (m_Reader_isSpec, 1, true) := ⟨tt_at 688 rfl rfl, tt_at 77 rfl rfl, by decide +kernel, by decide +kernel, by decide +kernel, tt_at 687 rfl rfl, by decide +kernel, by decide, rfl⟩
set_option maxRecDepth 100000 in
theorem m_Reader_readSpec_ok : MOK (m_Reader_readSpec, 1, false) := ⟨tt_at 696 rfl rfl, tt_at 77 rfl rfl, by decide +kernel, by decide +kernel, by decide +kernel, ⟨tt_at 695 rfl rfl, tt_at 7 rfl rfl⟩, by decide +kernel, by decide, rfl⟩
set_option maxRecDepth 100000 in
theorem m_Reader_readBar_ok : MOK (m_Reader_readBar, 0, false) := ⟨tt_at 704 rfl rfl, tt_at 77 rfl rfl, by decide +kernel, by decide +kernel, by decide +kernel, ⟨tt_at 703 rfl rfl, tt_at 8 rfl rfl⟩, by decide +kernel, by decide, rfl⟩
set_option maxRecDepth 100000 in
theorem m_Reader_readChain_ok : MOK (m_Reader_readChain, 0, false) := ⟨tt_at 716 rfl rfl, tt_at 77 rfl rfl, by decide +kernel, by decide +kernel, by decide +kernel, ⟨tt_at 715 rfl rfl, tt_at 9 rfl rfl⟩, by decide +kernel, by decide, rfl⟩
set_option maxRecDepth 100000 in
theorem m_Reader_readSingle_ok : MOK (m_Reader_readSingle, 0, false) := ⟨tt_at 728 rfl rfl, tt_at 77 rfl rfl, by decide +kernel, by decide +kernel, by decide +kernel, ⟨tt_at 727 rfl rfl, tt_at 10 rfl rfl⟩, by decide +kernel, by decide, rfl⟩
set_option maxRecDepth 100000 in
theorem m_Reader_readNumber_ok : MOK (m_Reader_readNumber, 2, false) := ⟨tt_at 669 rfl rfl, tt_at 77 rfl rfl, by decide +kernel, by decide +kernel, by decide +kernel, ⟨tt_at 668 rfl rfl, tt_at 4 rfl rfl⟩, by decide +kernel, by decide, rfl⟩
set_option maxRecDepth 100000 in
theorem m_Reader_readSign_ok : MOK (m_Reader_readSign, 1, false) := ⟨tt_at 673 rfl rfl, tt_at 77 rfl rfl, by decide +kernel, by decide +kernel, by decide +kernel, ⟨tt_at 672 rfl rfl, tt_at 5 rfl rfl⟩, by decide +kernel, by decide, rfl⟩
set_option maxRecDepth 100000 in
theorem m_Reader_fail_ok : MOK (m_Reader_fail, 1, false) := ⟨tt_at 657 rfl rfl, tt_at 77 rfl rfl, by decide +kernel, by decide +kernel, by decide +kernel, ⟨tt_at 656 rfl rfl, tt_at 3 rfl rfl⟩, by decide +kernel, by decide, rfl⟩
set_option maxRecDepth 100000 in
theorem m_Sentences_tell_ok : MOK (m_Sentences_tell, 1, false) := ⟨tt_at 485 rfl rfl, tt_at 75 rfl rfl, by decide +kernel, by decide +kernel, by decide +kernel, ⟨tt_at 483 rfl rfl, tt_at 484 rfl rfl⟩, by decide +kernel, by decide, rfl⟩
set_option maxRecDepth 100000 in
theorem m_Sentences_close_ok : MOK (m_Sentences_close, 0, false) := ⟨tt_at 493 rfl rfl, tt_at 75 rfl rfl, by decide +kernel, by decide +kernel, by decide +kernel, ⟨tt_at 491 rfl rfl, tt_at 492 rfl rfl⟩, by decide +kernel, by decide, rfl⟩
set_option maxRecDepth 100000 in
theorem m_Sentences_remove_ok : MOK (m_Sentences_remove, 1, false) := ⟨tt_at 508 rfl rfl, tt_at 75 rfl rfl, by decide +kernel, by decide +kernel, by decide +kernel, ⟨tt_at 506 rfl rfl, tt_at 507 rfl rfl⟩, by decide +kernel, by decide, rfl⟩
set_option maxRecDepth 100000 in
theorem m_Sentences_isThere_ok : MOK (m_Sentences_isThere, 1, false) := ⟨tt_at 512 rfl rfl, tt_at 75 rfl rfl, by decide +kernel, by decide +kernel, by decide +kernel, ⟨tt_at 510 rfl rfl, tt_at 511 rfl rfl⟩, by decide +kernel, by decide, rfl⟩
set_option maxRecDepth 100000 in
theorem m_Sentences_lengthOf_ok : MOK (m_Sentences_lengthOf, 1, false) := ⟨tt_at 456 rfl rfl, tt_at 75 rfl rfl, by decide +kernel, by decide +kernel, by decide +kernel, ⟨tt_at 454 rfl rfl, tt_at 455 rfl rfl⟩, by decide +kernel, by decide, rfl⟩
set_option maxRecDepth 100000 in
theorem m_Sentences_wordAt_ok : MOK (m_Sentences_wordAt, 2, false) := ⟨tt_at 460 rfl rfl, tt_at 75 rfl rfl, by decide +kernel, by decide +kernel, by decide +kernel, ⟨tt_at 458 rfl rfl, tt_at 459 rfl rfl⟩, by decide +kernel, by decide, rfl⟩
set_option maxRecDepth 100000 in
theorem m_Sentences_told_ok : MOK (m_Sentences_told, 0, false) := ⟨tt_at 1134 rfl rfl, tt_at 75 rfl rfl, by decide +kernel, by decide +kernel, by decide +kernel, ⟨tt_at 1132 rfl rfl, tt_at 1133 rfl rfl⟩, by decide +kernel, by decide, rfl⟩
set_option maxRecDepth 100000 in
theorem m_Sentences_came_ok : MOK (m_Sentences_came, 0, false) := ⟨tt_at 452 rfl rfl, tt_at 75 rfl rfl, by decide +kernel, by decide +kernel, by decide +kernel, ⟨tt_at 450 rfl rfl, tt_at 451 rfl rfl⟩, by decide +kernel, by decide, rfl⟩
set_option maxRecDepth 100000 in
theorem m_Sentences_present_ok : MOK (m_Sentences_present, 0, false) := ⟨tt_at 1127 rfl rfl, tt_at 75 rfl rfl, by decide +kernel, by decide +kernel, by decide +kernel, ⟨tt_at 1125 rfl rfl, tt_at 1126 rfl rfl⟩, by decide +kernel, by decide, rfl⟩
set_option maxRecDepth 100000 in
theorem m_Table_forget_ok : MOK (m_Table_forget, 0, false) := ⟨tt_at 464 rfl rfl, tt_at 81 rfl rfl, by decide +kernel, by decide +kernel, by decide +kernel, ⟨tt_at 462 rfl rfl, tt_at 463 rfl rfl⟩, by decide +kernel, by decide, rfl⟩
set_option maxRecDepth 100000 in
theorem m_Table_refresh_ok : MOK (m_Table_refresh, 0, false) := ⟨tt_at 892 rfl rfl, tt_at 81 rfl rfl, by decide +kernel, by decide +kernel, by decide +kernel, ⟨tt_at 890 rfl rfl, tt_at 891 rfl rfl⟩, by decide +kernel, by decide, rfl⟩
set_option maxRecDepth 100000 in
theorem m_Table_addFindsOf_ok : MOK (m_Table_addFindsOf, 1, false) := ⟨tt_at 901 rfl rfl, tt_at 81 rfl rfl, by decide +kernel, by decide +kernel, by decide +kernel, ⟨tt_at 900 rfl rfl, tt_at 24 rfl rfl⟩, by decide +kernel, by decide, rfl⟩
set_option maxRecDepth 100000 in
theorem m_Table_nameAt_ok : MOK (m_Table_nameAt, 2, false) := ⟨tt_at 908 rfl rfl, tt_at 81 rfl rfl, by decide +kernel, by decide +kernel, by decide +kernel, ⟨tt_at 907 rfl rfl, tt_at 25 rfl rfl⟩, by decide +kernel, by decide, rfl⟩
set_option maxRecDepth 100000 in
theorem m_Table_addRow_ok : MOK (m_Table_addRow, 3, false) := ⟨tt_at 917 rfl rfl, tt_at 81 rfl rfl, by decide +kernel, by decide +kernel, by decide +kernel, ⟨tt_at 916 rfl rfl, tt_at 26 rfl rfl⟩, by decide +kernel, by decide, rfl⟩
set_option maxRecDepth 100000 in
theorem m_Table_followChains_ok : MOK (m_Table_followChains, 0, false) := ⟨tt_at 923 rfl rfl, tt_at 81 rfl rfl, by decide +kernel, by decide +kernel, by decide +kernel, ⟨tt_at 922 rfl rfl, tt_at 27 rfl rfl⟩, by decide +kernel, by decide, rfl⟩
set_option maxRecDepth 100000 in
theorem m_Table_followChain_ok : MOK (m_Table_followChain, 3, false) := ⟨tt_at 941 rfl rfl, tt_at 81 rfl rfl, by decide +kernel, by decide +kernel, by decide +kernel, ⟨tt_at 940 rfl rfl, tt_at 28 rfl rfl⟩, by decide +kernel, by decide, rfl⟩
set_option maxRecDepth 100000 in
theorem m_Table_followFrom_ok : MOK (m_Table_followFrom, 4, false) := ⟨tt_at 955 rfl rfl, tt_at 81 rfl rfl, by decide +kernel, by decide +kernel, by decide +kernel, ⟨tt_at 954 rfl rfl, tt_at 30 rfl rfl⟩, by decide +kernel, by decide, rfl⟩
set_option maxRecDepth 100000 in
theorem m_Table_hasRow_ok : MOK (m_Table_hasRow, 3, false) := ⟨tt_at 959 rfl rfl, tt_at 81 rfl rfl, by decide +kernel, by decide +kernel, by decide +kernel, ⟨tt_at 958 rfl rfl, tt_at 31 rfl rfl⟩, by decide +kernel, by decide, rfl⟩
set_option maxRecDepth 100000 in
theorem m_Table_degree_ok : MOK (m_Table_degree, 2, false) := ⟨tt_at 945 rfl rfl, tt_at 81 rfl rfl, by decide +kernel, by decide +kernel, by decide +kernel, ⟨tt_at 944 rfl rfl, tt_at 29 rfl rfl⟩, by decide +kernel, by decide, rfl⟩
set_option maxRecDepth 100000 in
theorem m_Table_size_ok : MOK (m_Table_size, 1, false) := ⟨tt_at 964 rfl rfl, tt_at 81 rfl rfl, by decide +kernel, by decide +kernel, by decide +kernel, ⟨tt_at 962 rfl rfl, tt_at 963 rfl rfl⟩, by decide +kernel, by decide, rfl⟩
set_option maxRecDepth 100000 in
theorem m_Table_name_ok : MOK (m_Table_name, 3, false) := ⟨tt_at 972 rfl rfl, tt_at 81 rfl rfl, by decide +kernel, by decide +kernel, by decide +kernel, ⟨tt_at 970 rfl rfl, tt_at 971 rfl rfl⟩, by decide +kernel, by decide, rfl⟩
set_option maxRecDepth 100000 in
theorem m_Table_secondName_ok : MOK (m_Table_secondName, 3, false) := ⟨tt_at 976 rfl rfl, tt_at 81 rfl rfl, by decide +kernel, by decide +kernel, by decide +kernel, ⟨tt_at 975 rfl rfl, tt_at 32 rfl rfl⟩, by decide +kernel, by decide, rfl⟩
set_option maxRecDepth 100000 in
theorem m_Table_quarrelling_ok : MOK (m_Table_quarrelling, 2, false) := ⟨tt_at 988 rfl rfl, tt_at 81 rfl rfl, by decide +kernel, by decide +kernel, by decide +kernel, ⟨tt_at 986 rfl rfl, tt_at 987 rfl rfl⟩, by decide +kernel, by decide, rfl⟩
set_option maxRecDepth 100000 in
theorem m_Tape_put_ok : MOK (m_Tape_put, 1, false) := ⟨tt_at 520 rfl rfl, tt_at 76 rfl rfl, by decide +kernel, by decide +kernel, by decide +kernel, ⟨tt_at 518 rfl rfl, tt_at 519 rfl rfl⟩, by decide +kernel, by decide, rfl⟩
set_option maxRecDepth 100000 in
theorem m_Tape_isKnown_ok : MOK (m_Tape_isKnown, 1, true) := ⟨tt_at 523 rfl rfl, tt_at 76 rfl rfl, by decide +kernel, by decide +kernel, by decide +kernel, tt_at 522 rfl rfl, by decide +kernel, by decide, rfl⟩
set_option maxRecDepth 100000 in
theorem m_Tape_length_ok : MOK (m_Tape_length, 0, false) := ⟨tt_at 527 rfl rfl, tt_at 76 rfl rfl, by decide +kernel, by decide +kernel, by decide +kernel, ⟨tt_at 525 rfl rfl, tt_at 526 rfl rfl⟩, by decide +kernel, by decide, rfl⟩
set_option maxRecDepth 100000 in
theorem m_Tape_at_ok : MOK (m_Tape_at, 1, false) := ⟨tt_at 544 rfl rfl, tt_at 76 rfl rfl, by decide +kernel, by decide +kernel, by decide +kernel, ⟨tt_at 542 rfl rfl, tt_at 543 rfl rfl⟩, by decide +kernel, by decide, rfl⟩
set_option maxRecDepth 100000 in
theorem m_Tape_clear_ok : MOK (m_Tape_clear, 0, false) := ⟨tt_at 637 rfl rfl, tt_at 76 rfl rfl, by decide +kernel, by decide +kernel, by decide +kernel, ⟨tt_at 635 rfl rfl, tt_at 636 rfl rfl⟩, by decide +kernel, by decide, rfl⟩
set_option maxRecDepth 100000 in
theorem m_Tokens_scan_ok : MOK (m_Tokens_scan, 1, false) := ⟨tt_at 539 rfl rfl, tt_at 78 rfl rfl, by decide +kernel, by decide +kernel, by decide +kernel, ⟨tt_at 537 rfl rfl, tt_at 538 rfl rfl⟩, by decide +kernel, by decide, rfl⟩
set_option maxRecDepth 100000 in
theorem m_Tokens_add_ok : MOK (m_Tokens_add, 2, false) := ⟨tt_at 633 rfl rfl, tt_at 78 rfl rfl, by decide +kernel, by decide +kernel, by decide +kernel, ⟨tt_at 632 rfl rfl, tt_at 1 rfl rfl⟩, by decide +kernel, by decide, rfl⟩
set_option maxRecDepth 100000 in
theorem m_Tokens_code_ok : MOK (m_Tokens_code, 0, false) := ⟨tt_at 645 rfl rfl, tt_at 78 rfl rfl, by decide +kernel, by decide +kernel, by decide +kernel, ⟨tt_at 643 rfl rfl, tt_at 644 rfl rfl⟩, by decide +kernel, by decide, rfl⟩
set_option maxRecDepth 100000 in
theorem m_Tokens_place_ok : MOK (m_Tokens_place, 0, false) := ⟨tt_at 661 rfl rfl, tt_at 78 rfl rfl, by decide +kernel, by decide +kernel, by decide +kernel, ⟨tt_at 659 rfl rfl, tt_at 660 rfl rfl⟩, by decide +kernel, by decide, rfl⟩
set_option maxRecDepth 100000 in
theorem m_Tokens_advance_ok : MOK (m_Tokens_advance, 0, false) := ⟨tt_at 665 rfl rfl, tt_at 78 rfl rfl, by decide +kernel, by decide +kernel, by decide +kernel, ⟨tt_at 663 rfl rfl, tt_at 664 rfl rfl⟩, by decide +kernel, by decide, rfl⟩
set_option maxRecDepth 100000 in
theorem m_Tokens_goesOn_ok : MOK (m_Tokens_goesOn, 2, true) := ⟨tt_at 550 rfl rfl, tt_at 78 rfl rfl, by decide +kernel, by decide +kernel, by decide +kernel, tt_at 549 rfl rfl, by decide +kernel, by decide, rfl⟩
set_option maxRecDepth 100000 in
theorem m_Tokens_codeAt_ok : MOK (m_Tokens_codeAt, 2, true) := ⟨tt_at 559 rfl rfl, tt_at 78 rfl rfl, by decide +kernel, by decide +kernel, by decide +kernel, tt_at 558 rfl rfl, by decide +kernel, by decide, rfl⟩
set_option maxRecDepth 100000 in
theorem m_Tokens_numberCode_ok : MOK (m_Tokens_numberCode, 2, true) := ⟨tt_at 562 rfl rfl, tt_at 78 rfl rfl, by decide +kernel, by decide +kernel, by decide +kernel, tt_at 561 rfl rfl, by decide +kernel, by decide, rfl⟩
set_option maxRecDepth 100000 in
theorem m_Tokens_wordCode_ok : MOK (m_Tokens_wordCode, 2, true) := ⟨tt_at 565 rfl rfl, tt_at 78 rfl rfl, by decide +kernel, by decide +kernel, by decide +kernel, tt_at 564 rfl rfl, by decide +kernel, by decide, rfl⟩
set_option maxRecDepth 100000 in
theorem m_Tokens_sWordCode_ok : MOK (m_Tokens_sWordCode, 2, true) := ⟨tt_at 625 rfl rfl, tt_at 78 rfl rfl, by decide +kernel, by decide +kernel, by decide +kernel, tt_at 624 rfl rfl, by decide +kernel, by decide, rfl⟩
set_option maxRecDepth 100000 in
theorem m_Tokens_stands_ok : MOK (m_Tokens_stands, 3, true) := ⟨tt_at 569 rfl rfl, tt_at 78 rfl rfl, by decide +kernel, by decide +kernel, by decide +kernel, tt_at 568 rfl rfl, by decide +kernel, by decide, rfl⟩
set_option maxRecDepth 100000 in
theorem m_Tokens_isBlank_ok : MOK (m_Tokens_isBlank, 1, true) := ⟨tt_at 547 rfl rfl, tt_at 78 rfl rfl, by decide +kernel, by decide +kernel, by decide +kernel, tt_at 546 rfl rfl, by decide +kernel, by decide, rfl⟩
set_option maxRecDepth 100000 in
theorem m_Tokens_isLetter_ok : MOK (m_Tokens_isLetter, 1, true) := ⟨tt_at 553 rfl rfl, tt_at 78 rfl rfl, by decide +kernel, by decide +kernel, by decide +kernel, tt_at 552 rfl rfl, by decide +kernel, by decide, rfl⟩
set_option maxRecDepth 100000 in
theorem m_Tokens_isDigit_ok : MOK (m_Tokens_isDigit, 1, true) := ⟨tt_at 556 rfl rfl, tt_at 78 rfl rfl, by decide +kernel, by decide +kernel, by decide +kernel, tt_at 555 rfl rfl, by decide +kernel, by decide, rfl⟩
set_option maxRecDepth 100000 in
theorem m_D_sort_ok : MOK (m_D_sort, 2, false) := ⟨tt_at 437 rfl rfl, tt_at 73 rfl rfl, by decide +kernel, by decide +kernel, by decide +kernel, ⟨tt_at 435 rfl rfl, tt_at 436 rfl rfl⟩, by decide +kernel, by decide, rfl⟩
set_option maxRecDepth 100000 in
theorem m_D_join_ok : MOK (m_D_join, 2, false) := ⟨tt_at 468 rfl rfl, tt_at 73 rfl rfl, by decide +kernel, by decide +kernel, by decide +kernel, ⟨tt_at 466 rfl rfl, tt_at 467 rfl rfl⟩, by decide +kernel, by decide, rfl⟩
set_option maxRecDepth 100000 in
theorem m_D_word_ok : MOK (m_D_word, 1, false) := ⟨tt_at 480 rfl rfl, tt_at 73 rfl rfl, by decide +kernel, by decide +kernel, by decide +kernel, ⟨tt_at 478 rfl rfl, tt_at 479 rfl rfl⟩, by decide +kernel, by decide, rfl⟩
set_option maxRecDepth 100000 in
theorem m_D_sentence_ok : MOK (m_D_sentence, 0, false) := ⟨tt_at 489 rfl rfl, tt_at 73 rfl rfl, by decide +kernel, by decide +kernel, by decide +kernel, ⟨tt_at 487 rfl rfl, tt_at 488 rfl rfl⟩, by decide +kernel, by decide, rfl⟩
set_option maxRecDepth 100000 in
theorem m_D_take_ok : MOK (m_D_take, 1, false) := ⟨tt_at 504 rfl rfl, tt_at 73 rfl rfl, by decide +kernel, by decide +kernel, by decide +kernel, ⟨tt_at 502 rfl rfl, tt_at 503 rfl rfl⟩, by decide +kernel, by decide, rfl⟩
set_option maxRecDepth 100000 in
theorem m_D_feed_ok : MOK (m_D_feed, 3, false) := ⟨tt_at 516 rfl rfl, tt_at 73 rfl rfl, by decide +kernel, by decide +kernel, by decide +kernel, ⟨tt_at 514 rfl rfl, tt_at 515 rfl rfl⟩, by decide +kernel, by decide, rfl⟩
set_option maxRecDepth 100000 in
theorem m_D_text_ok : MOK (m_D_text, 0, false) := ⟨tt_at 531 rfl rfl, tt_at 73 rfl rfl, by decide +kernel, by decide +kernel, by decide +kernel, ⟨tt_at 529 rfl rfl, tt_at 530 rfl rfl⟩, by decide +kernel, by decide, rfl⟩
set_option maxRecDepth 100000 in
theorem m_D_finds_ok : MOK (m_D_finds, 0, false) := ⟨tt_at 753 rfl rfl, tt_at 73 rfl rfl, by decide +kernel, by decide +kernel, by decide +kernel, ⟨tt_at 751 rfl rfl, tt_at 752 rfl rfl⟩, by decide +kernel, by decide, rfl⟩
set_option maxRecDepth 100000 in
theorem m_D_find_ok : MOK (m_D_find, 2, false) := ⟨tt_at 859 rfl rfl, tt_at 73 rfl rfl, by decide +kernel, by decide +kernel, by decide +kernel, ⟨tt_at 857 rfl rfl, tt_at 858 rfl rfl⟩, by decide +kernel, by decide, rfl⟩
set_option maxRecDepth 100000 in
theorem m_D_rows_ok : MOK (m_D_rows, 1, false) := ⟨tt_at 887 rfl rfl, tt_at 73 rfl rfl, by decide +kernel, by decide +kernel, by decide +kernel, ⟨tt_at 885 rfl rfl, tt_at 886 rfl rfl⟩, by decide +kernel, by decide, rfl⟩
set_option maxRecDepth 100000 in
theorem m_D_row_ok : MOK (m_D_row, 3, false) := ⟨tt_at 968 rfl rfl, tt_at 73 rfl rfl, by decide +kernel, by decide +kernel, by decide +kernel, ⟨tt_at 966 rfl rfl, tt_at 967 rfl rfl⟩, by decide +kernel, by decide, rfl⟩
set_option maxRecDepth 100000 in
theorem m_D_quarrel_ok : MOK (m_D_quarrel, 2, false) := ⟨tt_at 980 rfl rfl, tt_at 73 rfl rfl, by decide +kernel, by decide +kernel, by decide +kernel, ⟨tt_at 978 rfl rfl, tt_at 979 rfl rfl⟩, by decide +kernel, by decide, rfl⟩
set_option maxRecDepth 100000 in
theorem m_D_mark_ok : MOK (m_D_mark, 5, false) := ⟨tt_at 992 rfl rfl, tt_at 73 rfl rfl, by decide +kernel, by decide +kernel, by decide +kernel, ⟨tt_at 990 rfl rfl, tt_at 991 rfl rfl⟩, by decide +kernel, by decide, rfl⟩
set_option maxRecDepth 100000 in
theorem m_D_best_ok : MOK (m_D_best, 1, false) := ⟨tt_at 1006 rfl rfl, tt_at 73 rfl rfl, by decide +kernel, by decide +kernel, by decide +kernel, ⟨tt_at 1004 rfl rfl, tt_at 1005 rfl rfl⟩, by decide +kernel, by decide, rfl⟩
set_option maxRecDepth 100000 in
theorem m_D_learn_ok : MOK (m_D_learn, 1, false) := ⟨tt_at 1042 rfl rfl, tt_at 73 rfl rfl, by decide +kernel, by decide +kernel, by decide +kernel, ⟨tt_at 1040 rfl rfl, tt_at 1041 rfl rfl⟩, by decide +kernel, by decide, rfl⟩
set_option maxRecDepth 100000 in
theorem m_D_learnt_ok : MOK (m_D_learnt, 2, false) := ⟨tt_at 1093 rfl rfl, tt_at 73 rfl rfl, by decide +kernel, by decide +kernel, by decide +kernel, ⟨tt_at 1091 rfl rfl, tt_at 1092 rfl rfl⟩, by decide +kernel, by decide, rfl⟩
set_option maxRecDepth 100000 in
theorem m_D_catches_ok : MOK (m_D_catches, 1, false) := ⟨tt_at 1105 rfl rfl, tt_at 73 rfl rfl, by decide +kernel, by decide +kernel, by decide +kernel, ⟨tt_at 1103 rfl rfl, tt_at 1104 rfl rfl⟩, by decide +kernel, by decide, rfl⟩
set_option maxRecDepth 100000 in
theorem m_D_named_ok : MOK (m_D_named, 1, false) := ⟨tt_at 1117 rfl rfl, tt_at 73 rfl rfl, by decide +kernel, by decide +kernel, by decide +kernel, ⟨tt_at 1115 rfl rfl, tt_at 1116 rfl rfl⟩, by decide +kernel, by decide, rfl⟩
set_option maxRecDepth 100000 in
theorem m_D_count_ok : MOK (m_D_count, 1, false) := ⟨tt_at 1122 rfl rfl, tt_at 73 rfl rfl, by decide +kernel, by decide +kernel, by decide +kernel, ⟨tt_at 1120 rfl rfl, tt_at 1121 rfl rfl⟩, by decide +kernel, by decide, rfl⟩
set_option maxRecDepth 100000 in
theorem m_D_isRelation_ok : MOK (m_D_isRelation, 1, true) := ⟨tt_at 735 rfl rfl, tt_at 73 rfl rfl, by decide +kernel, by decide +kernel, by decide +kernel, tt_at 734 rfl rfl, by decide +kernel, by decide, rfl⟩
set_option maxRecDepth 100000 in
theorem m_M_thrown_ok : MOK (m_M_thrown, 0, false) := ⟨tt_at 1225 rfl rfl, tt_at 85 rfl rfl, by decide +kernel, by decide +kernel, by decide +kernel, ⟨tt_at 1223 rfl rfl, tt_at 1224 rfl rfl⟩, by decide +kernel, by decide, rfl⟩
set_option maxRecDepth 100000 in
theorem m_M_feed_ok : MOK (m_M_feed, 3, false) := ⟨tt_at 1229 rfl rfl, tt_at 85 rfl rfl, by decide +kernel, by decide +kernel, by decide +kernel, ⟨tt_at 1227 rfl rfl, tt_at 1228 rfl rfl⟩, by decide +kernel, by decide, rfl⟩
set_option maxRecDepth 100000 in
theorem m_M_lay_ok : MOK (m_M_lay, 1, false) := ⟨tt_at 1234 rfl rfl, tt_at 85 rfl rfl, by decide +kernel, by decide +kernel, by decide +kernel, ⟨tt_at 1232 rfl rfl, tt_at 43 rfl rfl⟩, by decide +kernel, by decide, rfl⟩
set_option maxRecDepth 100000 in
theorem m_M_isLetter_ok : MOK (m_M_isLetter, 1, true) := ⟨tt_at 1419 rfl rfl, tt_at 85 rfl rfl, by decide +kernel, by decide +kernel, by decide +kernel, tt_at 1418 rfl rfl, by decide +kernel, by decide, rfl⟩
set_option maxRecDepth 100000 in
theorem m_M_isDigit_ok : MOK (m_M_isDigit, 1, true) := ⟨tt_at 1426 rfl rfl, tt_at 85 rfl rfl, by decide +kernel, by decide +kernel, by decide +kernel, tt_at 1425 rfl rfl, by decide +kernel, by decide, rfl⟩
set_option maxRecDepth 100000 in
theorem m_M_rank_ok : MOK (m_M_rank, 1, true) := ⟨tt_at 1423 rfl rfl, tt_at 85 rfl rfl, by decide +kernel, by decide +kernel, by decide +kernel, tt_at 1422 rfl rfl, by decide +kernel, by decide, rfl⟩
set_option maxRecDepth 100000 in
theorem m_M_isSignOf_ok : MOK (m_M_isSignOf, 1, true) := ⟨tt_at 1431 rfl rfl, tt_at 85 rfl rfl, by decide +kernel, by decide +kernel, by decide +kernel, tt_at 1430 rfl rfl, by decide +kernel, by decide, rfl⟩
set_option maxRecDepth 100000 in
theorem m_M_cutAll_ok : MOK (m_M_cutAll, 0, false) := ⟨tt_at 1416 rfl rfl, tt_at 85 rfl rfl, by decide +kernel, by decide +kernel, by decide +kernel, ⟨tt_at 1415 rfl rfl, tt_at 44 rfl rfl⟩, by decide +kernel, by decide, rfl⟩
set_option maxRecDepth 100000 in
theorem m_M_wrong_ok : MOK (m_M_wrong, 1, false) := ⟨tt_at 1447 rfl rfl, tt_at 85 rfl rfl, by decide +kernel, by decide +kernel, by decide +kernel, ⟨tt_at 1446 rfl rfl, tt_at 48 rfl rfl⟩, by decide +kernel, by decide, rfl⟩
set_option maxRecDepth 100000 in
theorem m_M_isSign_ok : MOK (m_M_isSign, 1, false) := ⟨tt_at 1459 rfl rfl, tt_at 85 rfl rfl, by decide +kernel, by decide +kernel, by decide +kernel, ⟨tt_at 1458 rfl rfl, tt_at 51 rfl rfl⟩, by decide +kernel, by decide, rfl⟩
set_option maxRecDepth 100000 in
theorem m_M_isWord_ok : MOK (m_M_isWord, 1, false) := ⟨tt_at 1439 rfl rfl, tt_at 85 rfl rfl, by decide +kernel, by decide +kernel, by decide +kernel, ⟨tt_at 1438 rfl rfl, tt_at 46 rfl rfl⟩, by decide +kernel, by decide, rfl⟩
set_option maxRecDepth 100000 in
theorem m_M_takeSign_ok : MOK (m_M_takeSign, 1, false) := ⟨tt_at 1455 rfl rfl, tt_at 85 rfl rfl, by decide +kernel, by decide +kernel, by decide +kernel, ⟨tt_at 1454 rfl rfl, tt_at 50 rfl rfl⟩, by decide +kernel, by decide, rfl⟩
set_option maxRecDepth 100000 in
theorem m_M_hasWord_ok : MOK (m_M_hasWord, 1, false) := ⟨tt_at 1475 rfl rfl, tt_at 85 rfl rfl, by decide +kernel, by decide +kernel, by decide +kernel, ⟨tt_at 1474 rfl rfl, tt_at 55 rfl rfl⟩, by decide +kernel, by decide, rfl⟩
set_option maxRecDepth 100000 in
theorem m_M_takeWord_ok : MOK (m_M_takeWord, 1, false) := ⟨tt_at 1479 rfl rfl, tt_at 85 rfl rfl, by decide +kernel, by decide +kernel, by decide +kernel, ⟨tt_at 1478 rfl rfl, tt_at 56 rfl rfl⟩, by decide +kernel, by decide, rfl⟩
set_option maxRecDepth 100000 in
theorem m_M_takeNumber_ok : MOK (m_M_takeNumber, 2, false) := ⟨tt_at 1451 rfl rfl, tt_at 85 rfl rfl, by decide +kernel, by decide +kernel, by decide +kernel, ⟨tt_at 1450 rfl rfl, tt_at 49 rfl rfl⟩, by decide +kernel, by decide, rfl⟩
set_option maxRecDepth 100000 in
theorem m_M_text_ok : MOK (m_M_text, 0, false) := ⟨tt_at 1412 rfl rfl, tt_at 85 rfl rfl, by decide +kernel, by decide +kernel, by decide +kernel, ⟨tt_at 1410 rfl rfl, tt_at 1411 rfl rfl⟩, by decide +kernel, by decide, rfl⟩
set_option maxRecDepth 100000 in
theorem m_M_statement_ok : MOK (m_M_statement, 0, false) := ⟨tt_at 1435 rfl rfl, tt_at 85 rfl rfl, by decide +kernel, by decide +kernel, by decide +kernel, ⟨tt_at 1434 rfl rfl, tt_at 45 rfl rfl⟩, by decide +kernel, by decide, rfl⟩
set_option maxRecDepth 100000 in
theorem m_M_readChain_ok : MOK (m_M_readChain, 0, false) := ⟨tt_at 1483 rfl rfl, tt_at 85 rfl rfl, by decide +kernel, by decide +kernel, by decide +kernel, ⟨tt_at 1482 rfl rfl, tt_at 57 rfl rfl⟩, by decide +kernel, by decide, rfl⟩
set_option maxRecDepth 100000 in
theorem m_M_readRule_ok : MOK (m_M_readRule, 0, false) := ⟨tt_at 1443 rfl rfl, tt_at 85 rfl rfl, by decide +kernel, by decide +kernel, by decide +kernel, ⟨tt_at 1442 rfl rfl, tt_at 47 rfl rfl⟩, by decide +kernel, by decide, rfl⟩
set_option maxRecDepth 100000 in
theorem m_M_isItem_ok : MOK (m_M_isItem, 0, false) := ⟨tt_at 1467 rfl rfl, tt_at 85 rfl rfl, by decide +kernel, by decide +kernel, by decide +kernel, ⟨tt_at 1466 rfl rfl, tt_at 53 rfl rfl⟩, by decide +kernel, by decide, rfl⟩
set_option maxRecDepth 100000 in
theorem m_M_item_ok : MOK (m_M_item, 1, false) := ⟨tt_at 1463 rfl rfl, tt_at 85 rfl rfl, by decide +kernel, by decide +kernel, by decide +kernel, ⟨tt_at 1462 rfl rfl, tt_at 52 rfl rfl⟩, by decide +kernel, by decide, rfl⟩
set_option maxRecDepth 100000 in
theorem m_M_spec_ok : MOK (m_M_spec, 1, false) := ⟨tt_at 1471 rfl rfl, tt_at 85 rfl rfl, by decide +kernel, by decide +kernel, by decide +kernel, ⟨tt_at 1470 rfl rfl, tt_at 54 rfl rfl⟩, by decide +kernel, by decide, rfl⟩
set_option maxRecDepth 100000 in
theorem m_M_isOne_ok : MOK (m_M_isOne, 1, true) := ⟨tt_at 1490 rfl rfl, tt_at 85 rfl rfl, by decide +kernel, by decide +kernel, by decide +kernel, tt_at 1489 rfl rfl, by decide +kernel, by decide, rfl⟩
set_option maxRecDepth 100000 in
theorem m_M_sort_ok : MOK (m_M_sort, 2, false) := ⟨tt_at 1487 rfl rfl, tt_at 85 rfl rfl, by decide +kernel, by decide +kernel, by decide +kernel, ⟨tt_at 1485 rfl rfl, tt_at 1486 rfl rfl⟩, by decide +kernel, by decide, rfl⟩
set_option maxRecDepth 100000 in
theorem m_M_nameOf_ok : MOK (m_M_nameOf, 1, false) := ⟨tt_at 1502 rfl rfl, tt_at 85 rfl rfl, by decide +kernel, by decide +kernel, by decide +kernel, ⟨tt_at 1501 rfl rfl, tt_at 58 rfl rfl⟩, by decide +kernel, by decide, rfl⟩
set_option maxRecDepth 100000 in
theorem m_M_join_ok : MOK (m_M_join, 2, false) := ⟨tt_at 1494 rfl rfl, tt_at 85 rfl rfl, by decide +kernel, by decide +kernel, by decide +kernel, ⟨tt_at 1492 rfl rfl, tt_at 1493 rfl rfl⟩, by decide +kernel, by decide, rfl⟩
set_option maxRecDepth 100000 in
theorem m_M_named_ok : MOK (m_M_named, 1, false) := ⟨tt_at 1498 rfl rfl, tt_at 85 rfl rfl, by decide +kernel, by decide +kernel, by decide +kernel, ⟨tt_at 1496 rfl rfl, tt_at 1497 rfl rfl⟩, by decide +kernel, by decide, rfl⟩
set_option maxRecDepth 100000 in
theorem m_M_word_ok : MOK (m_M_word, 1, false) := ⟨tt_at 1506 rfl rfl, tt_at 85 rfl rfl, by decide +kernel, by decide +kernel, by decide +kernel, ⟨tt_at 1504 rfl rfl, tt_at 1505 rfl rfl⟩, by decide +kernel, by decide, rfl⟩
set_option maxRecDepth 100000 in
theorem m_M_sentence_ok : MOK (m_M_sentence, 0, false) := ⟨tt_at 1510 rfl rfl, tt_at 85 rfl rfl, by decide +kernel, by decide +kernel, by decide +kernel, ⟨tt_at 1508 rfl rfl, tt_at 1509 rfl rfl⟩, by decide +kernel, by decide, rfl⟩
set_option maxRecDepth 100000 in
theorem m_M_isThere_ok : MOK (m_M_isThere, 1, false) := ⟨tt_at 1518 rfl rfl, tt_at 85 rfl rfl, by decide +kernel, by decide +kernel, by decide +kernel, ⟨tt_at 1517 rfl rfl, tt_at 59 rfl rfl⟩, by decide +kernel, by decide, rfl⟩
set_option maxRecDepth 100000 in
theorem m_M_take_ok : MOK (m_M_take, 1, false) := ⟨tt_at 1514 rfl rfl, tt_at 85 rfl rfl, by decide +kernel, by decide +kernel, by decide +kernel, ⟨tt_at 1512 rfl rfl, tt_at 1513 rfl rfl⟩, by decide +kernel, by decide, rfl⟩
set_option maxRecDepth 100000 in
theorem m_M_fits_ok : MOK (m_M_fits, 3, false) := ⟨tt_at 1538 rfl rfl, tt_at 85 rfl rfl, by decide +kernel, by decide +kernel, by decide +kernel, ⟨tt_at 1537 rfl rfl, tt_at 63 rfl rfl⟩, by decide +kernel, by decide, rfl⟩
set_option maxRecDepth 100000 in
theorem m_M_findOf_ok : MOK (m_M_findOf, 4, true) := ⟨tt_at 1541 rfl rfl, tt_at 85 rfl rfl, by decide +kernel, by decide +kernel, by decide +kernel, tt_at 1540 rfl rfl, by decide +kernel, by decide, rfl⟩
set_option maxRecDepth 100000 in
theorem m_M_findAll_ok : MOK (m_M_findAll, 0, false) := ⟨tt_at 1526 rfl rfl, tt_at 85 rfl rfl, by decide +kernel, by decide +kernel, by decide +kernel, ⟨tt_at 1525 rfl rfl, tt_at 60 rfl rfl⟩, by decide +kernel, by decide, rfl⟩
set_option maxRecDepth 100000 in
theorem m_M_matches_ok : MOK (m_M_matches, 2, false) := ⟨tt_at 1530 rfl rfl, tt_at 85 rfl rfl, by decide +kernel, by decide +kernel, by decide +kernel, ⟨tt_at 1529 rfl rfl, tt_at 61 rfl rfl⟩, by decide +kernel, by decide, rfl⟩
set_option maxRecDepth 100000 in
theorem m_M_goes_ok : MOK (m_M_goes, 4, false) := ⟨tt_at 1534 rfl rfl, tt_at 85 rfl rfl, by decide +kernel, by decide +kernel, by decide +kernel, ⟨tt_at 1533 rfl rfl, tt_at 62 rfl rfl⟩, by decide +kernel, by decide, rfl⟩
set_option maxRecDepth 100000 in
theorem m_M_isBarred_ok : MOK (m_M_isBarred, 1, false) := ⟨tt_at 1549 rfl rfl, tt_at 85 rfl rfl, by decide +kernel, by decide +kernel, by decide +kernel, ⟨tt_at 1548 rfl rfl, tt_at 64 rfl rfl⟩, by decide +kernel, by decide, rfl⟩
set_option maxRecDepth 100000 in
theorem m_M_finds_ok : MOK (m_M_finds, 0, false) := ⟨tt_at 1522 rfl rfl, tt_at 85 rfl rfl, by decide +kernel, by decide +kernel, by decide +kernel, ⟨tt_at 1520 rfl rfl, tt_at 1521 rfl rfl⟩, by decide +kernel, by decide, rfl⟩
set_option maxRecDepth 100000 in
theorem m_M_find_ok : MOK (m_M_find, 2, false) := ⟨tt_at 1545 rfl rfl, tt_at 85 rfl rfl, by decide +kernel, by decide +kernel, by decide +kernel, ⟨tt_at 1543 rfl rfl, tt_at 1544 rfl rfl⟩, by decide +kernel, by decide, rfl⟩
set_option maxRecDepth 100000 in
theorem m_M_findRows_ok : MOK (m_M_findRows, 0, false) := ⟨tt_at 1560 rfl rfl, tt_at 85 rfl rfl, by decide +kernel, by decide +kernel, by decide +kernel, ⟨tt_at 1559 rfl rfl, tt_at 65 rfl rfl⟩, by decide +kernel, by decide, rfl⟩
set_option maxRecDepth 100000 in
theorem m_M_joins_ok : MOK (m_M_joins, 3, false) := ⟨tt_at 1564 rfl rfl, tt_at 85 rfl rfl, by decide +kernel, by decide +kernel, by decide +kernel, ⟨tt_at 1563 rfl rfl, tt_at 66 rfl rfl⟩, by decide +kernel, by decide, rfl⟩
set_option maxRecDepth 100000 in
theorem m_M_isR_ok : MOK (m_M_isR, 1, true) := ⟨tt_at 1556 rfl rfl, tt_at 85 rfl rfl, by decide +kernel, by decide +kernel, by decide +kernel, tt_at 1555 rfl rfl, by decide +kernel, by decide, rfl⟩
set_option maxRecDepth 100000 in
theorem m_M_rows_ok : MOK (m_M_rows, 1, false) := ⟨tt_at 1553 rfl rfl, tt_at 85 rfl rfl, by decide +kernel, by decide +kernel, by decide +kernel, ⟨tt_at 1551 rfl rfl, tt_at 1552 rfl rfl⟩, by decide +kernel, by decide, rfl⟩
set_option maxRecDepth 100000 in
theorem m_M_row_ok : MOK (m_M_row, 3, false) := ⟨tt_at 1568 rfl rfl, tt_at 85 rfl rfl, by decide +kernel, by decide +kernel, by decide +kernel, ⟨tt_at 1566 rfl rfl, tt_at 1567 rfl rfl⟩, by decide +kernel, by decide, rfl⟩
set_option maxRecDepth 100000 in
theorem m_M_quarrel_ok : MOK (m_M_quarrel, 2, false) := ⟨tt_at 1572 rfl rfl, tt_at 85 rfl rfl, by decide +kernel, by decide +kernel, by decide +kernel, ⟨tt_at 1570 rfl rfl, tt_at 1571 rfl rfl⟩, by decide +kernel, by decide, rfl⟩
set_option maxRecDepth 100000 in
theorem m_M_mark_ok : MOK (m_M_mark, 5, false) := ⟨tt_at 1576 rfl rfl, tt_at 85 rfl rfl, by decide +kernel, by decide +kernel, by decide +kernel, ⟨tt_at 1574 rfl rfl, tt_at 1575 rfl rfl⟩, by decide +kernel, by decide, rfl⟩
set_option maxRecDepth 100000 in
theorem m_M_catchesMark_ok : MOK (m_M_catchesMark, 2, false) := ⟨tt_at 1588 rfl rfl, tt_at 85 rfl rfl, by decide +kernel, by decide +kernel, by decide +kernel, ⟨tt_at 1587 rfl rfl, tt_at 68 rfl rfl⟩, by decide +kernel, by decide, rfl⟩
set_option maxRecDepth 100000 in
theorem m_M_caught_ok : MOK (m_M_caught, 2, false) := ⟨tt_at 1584 rfl rfl, tt_at 85 rfl rfl, by decide +kernel, by decide +kernel, by decide +kernel, ⟨tt_at 1583 rfl rfl, tt_at 67 rfl rfl⟩, by decide +kernel, by decide, rfl⟩
set_option maxRecDepth 100000 in
theorem m_M_rule_ok : MOK (m_M_rule, 2, false) := ⟨tt_at 1580 rfl rfl, tt_at 85 rfl rfl, by decide +kernel, by decide +kernel, by decide +kernel, ⟨tt_at 1578 rfl rfl, tt_at 1579 rfl rfl⟩, by decide +kernel, by decide, rfl⟩
set_option maxRecDepth 100000 in
theorem m_M_bits_ok : MOK (m_M_bits, 1, true) := ⟨tt_at 1595 rfl rfl, tt_at 85 rfl rfl, by decide +kernel, by decide +kernel, by decide +kernel, tt_at 1594 rfl rfl, by decide +kernel, by decide, rfl⟩
set_option maxRecDepth 100000 in
theorem m_M_best_ok : MOK (m_M_best, 1, false) := ⟨tt_at 1592 rfl rfl, tt_at 85 rfl rfl, by decide +kernel, by decide +kernel, by decide +kernel, ⟨tt_at 1590 rfl rfl, tt_at 1591 rfl rfl⟩, by decide +kernel, by decide, rfl⟩
set_option maxRecDepth 100000 in
theorem m_M_isLike_ok : MOK (m_M_isLike, 3, false) := ⟨tt_at 1610 rfl rfl, tt_at 85 rfl rfl, by decide +kernel, by decide +kernel, by decide +kernel, ⟨tt_at 1609 rfl rfl, tt_at 70 rfl rfl⟩, by decide +kernel, by decide, rfl⟩
set_option maxRecDepth 100000 in
theorem m_M_least_ok : MOK (m_M_least, 2, true) := ⟨tt_at 1606 rfl rfl, tt_at 85 rfl rfl, by decide +kernel, by decide +kernel, by decide +kernel, tt_at 1605 rfl rfl, by decide +kernel, by decide, rfl⟩
set_option maxRecDepth 100000 in
theorem m_M_wordAt_ok : MOK (m_M_wordAt, 2, false) := ⟨tt_at 1603 rfl rfl, tt_at 85 rfl rfl, by decide +kernel, by decide +kernel, by decide +kernel, ⟨tt_at 1602 rfl rfl, tt_at 69 rfl rfl⟩, by decide +kernel, by decide, rfl⟩
set_option maxRecDepth 100000 in
theorem m_M_learn_ok : MOK (m_M_learn, 1, false) := ⟨tt_at 1599 rfl rfl, tt_at 85 rfl rfl, by decide +kernel, by decide +kernel, by decide +kernel, ⟨tt_at 1597 rfl rfl, tt_at 1598 rfl rfl⟩, by decide +kernel, by decide, rfl⟩
set_option maxRecDepth 100000 in
theorem m_M_learnt_ok : MOK (m_M_learnt, 2, false) := ⟨tt_at 1614 rfl rfl, tt_at 85 rfl rfl, by decide +kernel, by decide +kernel, by decide +kernel, ⟨tt_at 1612 rfl rfl, tt_at 1613 rfl rfl⟩, by decide +kernel, by decide, rfl⟩
set_option maxRecDepth 100000 in
theorem m_M_catches_ok : MOK (m_M_catches, 1, false) := ⟨tt_at 1618 rfl rfl, tt_at 85 rfl rfl, by decide +kernel, by decide +kernel, by decide +kernel, ⟨tt_at 1616 rfl rfl, tt_at 1617 rfl rfl⟩, by decide +kernel, by decide, rfl⟩
set_option maxRecDepth 100000 in
theorem m_M_count_ok : MOK (m_M_count, 1, false) := ⟨tt_at 1622 rfl rfl, tt_at 85 rfl rfl, by decide +kernel, by decide +kernel, by decide +kernel, ⟨tt_at 1620 rfl rfl, tt_at 1621 rfl rfl⟩, by decide +kernel, by decide, rfl⟩
set_option maxRecDepth 100000 in
theorem m_M_barredFinds_ok : MOK (m_M_barredFinds, 0, false) := ⟨tt_at 1626 rfl rfl, tt_at 85 rfl rfl, by decide +kernel, by decide +kernel, by decide +kernel, ⟨tt_at 1625 rfl rfl, tt_at 71 rfl rfl⟩, by decide +kernel, by decide, rfl⟩
set_option maxRecDepth 100000 in
theorem m_Integer_bitCount_ok : MOK (m_Integer_bitCount, 1, true) := ⟨tt_at 848 rfl rfl, tt_at 92 rfl rfl, by decide +kernel, by decide +kernel, by decide +kernel, tt_at 847 rfl rfl, by decide +kernel, by decide, rfl⟩
set_option maxRecDepth 100000 in
theorem m_Long_bitCount_ok : MOK (m_Long_bitCount, 1, true) := ⟨tt_at 948 rfl rfl, tt_at 94 rfl rfl, by decide +kernel, by decide +kernel, by decide +kernel, tt_at 947 rfl rfl, by decide +kernel, by decide, rfl⟩
set_option maxRecDepth 100000 in
theorem m_Arrays_fill_ok : MOK (m_Arrays_fill, 2, true) := ⟨tt_at 895 rfl rfl, tt_at 93 rfl rfl, by decide +kernel, by decide +kernel, by decide +kernel, tt_at 894 rfl rfl, by decide +kernel, by decide, rfl⟩
set_option maxRecDepth 100000 in
theorem m_String_length_ok : MOK (m_String_length, 0, false) := ⟨tt_at 573 rfl rfl, tt_at 87 rfl rfl, by decide +kernel, by decide +kernel, by decide +kernel, ⟨tt_at 571 rfl rfl, tt_at 572 rfl rfl⟩, by decide +kernel, by decide, rfl⟩
set_option maxRecDepth 100000 in
theorem m_String_charAt_ok : MOK (m_String_charAt, 1, false) := ⟨tt_at 583 rfl rfl, tt_at 87 rfl rfl, by decide +kernel, by decide +kernel, by decide +kernel, ⟨tt_at 581 rfl rfl, tt_at 582 rfl rfl⟩, by decide +kernel, by decide, rfl⟩
set_option maxRecDepth 100000 in
theorem MT_ok : ∀ q ∈ MT, MOK q := List.forall_mem_cons.mpr ⟨m_BestSet_setCaught_ok, List.forall_mem_cons.mpr ⟨m_BestSet_choose_ok, List.forall_mem_cons.mpr ⟨m_BestSet_tryFrom_ok, List.forall_mem_cons.mpr ⟨m_BestSet_weigh_ok, List.forall_mem_cons.mpr ⟨m_Book_clear_ok, List.forall_mem_cons.mpr ⟨m_Book_become_ok, List.forall_mem_cons.mpr ⟨m_Book_openRule_ok, List.forall_mem_cons.mpr ⟨m_Book_openRuleHas_ok, List.forall_mem_cons.mpr ⟨m_Book_addItem_ok, List.forall_mem_cons.mpr ⟨m_Book_closeRule_ok, List.forall_mem_cons.mpr ⟨m_Book_addBar_ok, List.forall_mem_cons.mpr ⟨m_Book_addChain_ok, List.forall_mem_cons.mpr ⟨m_Book_addSingle_ok, List.forall_mem_cons.mpr ⟨m_Book_rules_ok, List.forall_mem_cons.mpr ⟨m_Book_bars_ok, List.forall_mem_cons.mpr ⟨m_Book_chains_ok, List.forall_mem_cons.mpr ⟨m_Book_hasRule_ok, List.forall_mem_cons.mpr ⟨m_Book_relationOf_ok, List.forall_mem_cons.mpr ⟨m_Book_itemsOf_ok, List.forall_mem_cons.mpr ⟨m_Book_leftItem_ok, List.forall_mem_cons.mpr ⟨m_Book_rightItem_ok, List.forall_mem_cons.mpr ⟨m_Book_kindOf_ok, List.forall_mem_cons.mpr ⟨m_Book_numberOf_ok, List.forall_mem_cons.mpr ⟨m_Book_hasItem_ok, List.forall_mem_cons.mpr ⟨m_Book_isBarred_ok, List.forall_mem_cons.mpr ⟨m_Book_chainGoal_ok, List.forall_mem_cons.mpr ⟨m_Book_chainFirst_ok, List.forall_mem_cons.mpr ⟨m_Book_chainSecond_ok, List.forall_mem_cons.mpr ⟨m_Book_isSingle_ok, List.forall_mem_cons.mpr ⟨m_Finder_forget_ok, List.forall_mem_cons.mpr ⟨m_Finder_forgetThoseWith_ok, List.forall_mem_cons.mpr ⟨m_Finder_forgetAll_ok, List.forall_mem_cons.mpr ⟨m_Finder_refresh_ok, List.forall_mem_cons.mpr ⟨m_Finder_drawSentence_ok, List.forall_mem_cons.mpr ⟨m_Finder_clearSentence_ok, List.forall_mem_cons.mpr ⟨m_Finder_hasBarredWord_ok, List.forall_mem_cons.mpr ⟨m_Finder_drawRule_ok, List.forall_mem_cons.mpr ⟨m_Finder_fitItems_ok, List.forall_mem_cons.mpr ⟨m_Finder_placesOf_ok, List.forall_mem_cons.mpr ⟨m_Finder_forward_ok, List.forall_mem_cons.mpr ⟨m_Finder_backward_ok, List.forall_mem_cons.mpr ⟨m_Finder_keepPairs_ok, List.forall_mem_cons.mpr ⟨m_Finder_countPairs_ok, List.forall_mem_cons.mpr ⟨m_Finder_rightPlaces_ok, List.forall_mem_cons.mpr ⟨m_Finder_isBarred_ok, List.forall_mem_cons.mpr ⟨m_Finder_has_ok, List.forall_mem_cons.mpr ⟨m_Finder_total_ok, List.forall_mem_cons.mpr ⟨m_Finder_totalOfRule_ok, List.forall_mem_cons.mpr ⟨m_Finder_tellOf_ok, List.forall_mem_cons.mpr ⟨m_Finder_tellWithin_ok, List.forall_mem_cons.mpr ⟨m_Finder_part_ok, List.forall_mem_cons.mpr ⟨m_Lesson_study_ok, List.forall_mem_cons.mpr ⟨m_Lesson_begin_ok, List.forall_mem_cons.mpr ⟨m_Lesson_isLike_ok, List.forall_mem_cons.mpr ⟨m_Lesson_wordAt_ok, List.forall_mem_cons.mpr ⟨m_Lesson_widen_ok, List.forall_mem_cons.mpr ⟨m_Lesson_tellOf_ok, List.forall_mem_cons.mpr ⟨m_Lesson_roleOf_ok, List.forall_mem_cons.mpr ⟨m_Lesson_caught_ok, List.forall_mem_cons.mpr ⟨m_Lesson_standsAt_ok, List.forall_mem_cons.mpr ⟨m_Lexicon_has_ok, List.forall_mem_cons.mpr ⟨m_Lexicon_setSort_ok, List.forall_mem_cons.mpr ⟨m_Lexicon_sortOf_ok, List.forall_mem_cons.mpr ⟨m_Lexicon_link_ok, List.forall_mem_cons.mpr ⟨m_Lexicon_leadsTo_ok, List.forall_mem_cons.mpr ⟨m_Lexicon_nameOf_ok, List.forall_mem_cons.mpr ⟨m_Lexicon_fits_ok, List.forall_mem_cons.mpr ⟨m_Marks_put_ok, List.forall_mem_cons.mpr ⟨m_Marks_indexOf_ok, List.forall_mem_cons.mpr ⟨m_Marks_size_ok, List.forall_mem_cons.mpr ⟨m_Marks_isUsable_ok, List.forall_mem_cons.mpr ⟨m_Marks_sentenceOf_ok, List.forall_mem_cons.mpr ⟨m_Marks_leftOf_ok, List.forall_mem_cons.mpr ⟨m_Marks_rightOf_ok, List.forall_mem_cons.mpr ⟨m_Marks_caughtBy_ok, List.forall_mem_cons.mpr ⟨m_Marks_shareOf_ok, List.forall_mem_cons.mpr ⟨m_Reader_draft_ok, List.forall_mem_cons.mpr ⟨m_Reader_read_ok, List.forall_mem_cons.mpr ⟨m_Reader_readRule_ok, List.forall_mem_cons.mpr ⟨m_Reader_readItem_ok, List.forall_mem_cons.mpr ⟨m_Reader_isSpec_ok, List.forall_mem_cons.mpr ⟨m_Reader_readSpec_ok, List.forall_mem_cons.mpr ⟨m_Reader_readBar_ok, List.forall_mem_cons.mpr ⟨m_Reader_readChain_ok, List.forall_mem_cons.mpr ⟨m_Reader_readSingle_ok, List.forall_mem_cons.mpr ⟨m_Reader_readNumber_ok, List.forall_mem_cons.mpr ⟨m_Reader_readSign_ok, List.forall_mem_cons.mpr ⟨m_Reader_fail_ok, List.forall_mem_cons.mpr ⟨m_Sentences_tell_ok, List.forall_mem_cons.mpr ⟨m_Sentences_close_ok, List.forall_mem_cons.mpr ⟨m_Sentences_remove_ok, List.forall_mem_cons.mpr ⟨m_Sentences_isThere_ok, List.forall_mem_cons.mpr ⟨m_Sentences_lengthOf_ok, List.forall_mem_cons.mpr ⟨m_Sentences_wordAt_ok, List.forall_mem_cons.mpr ⟨m_Sentences_told_ok, List.forall_mem_cons.mpr ⟨m_Sentences_came_ok, List.forall_mem_cons.mpr ⟨m_Sentences_present_ok, List.forall_mem_cons.mpr ⟨m_Table_forget_ok, List.forall_mem_cons.mpr ⟨m_Table_refresh_ok, List.forall_mem_cons.mpr ⟨m_Table_addFindsOf_ok, List.forall_mem_cons.mpr ⟨m_Table_nameAt_ok, List.forall_mem_cons.mpr ⟨m_Table_addRow_ok, List.forall_mem_cons.mpr ⟨m_Table_followChains_ok, List.forall_mem_cons.mpr ⟨m_Table_followChain_ok, List.forall_mem_cons.mpr ⟨m_Table_followFrom_ok, List.forall_mem_cons.mpr ⟨m_Table_hasRow_ok, List.forall_mem_cons.mpr ⟨m_Table_degree_ok, List.forall_mem_cons.mpr ⟨m_Table_size_ok, List.forall_mem_cons.mpr ⟨m_Table_name_ok, List.forall_mem_cons.mpr ⟨m_Table_secondName_ok, List.forall_mem_cons.mpr ⟨m_Table_quarrelling_ok, List.forall_mem_cons.mpr ⟨m_Tape_put_ok, List.forall_mem_cons.mpr ⟨m_Tape_isKnown_ok, List.forall_mem_cons.mpr ⟨m_Tape_length_ok, List.forall_mem_cons.mpr ⟨m_Tape_at_ok, List.forall_mem_cons.mpr ⟨m_Tape_clear_ok, List.forall_mem_cons.mpr ⟨m_Tokens_scan_ok, List.forall_mem_cons.mpr ⟨m_Tokens_add_ok, List.forall_mem_cons.mpr ⟨m_Tokens_code_ok, List.forall_mem_cons.mpr ⟨m_Tokens_place_ok, List.forall_mem_cons.mpr ⟨m_Tokens_advance_ok, List.forall_mem_cons.mpr ⟨m_Tokens_goesOn_ok, List.forall_mem_cons.mpr ⟨m_Tokens_codeAt_ok, List.forall_mem_cons.mpr ⟨m_Tokens_numberCode_ok, List.forall_mem_cons.mpr ⟨m_Tokens_wordCode_ok, List.forall_mem_cons.mpr ⟨m_Tokens_sWordCode_ok, List.forall_mem_cons.mpr ⟨m_Tokens_stands_ok, List.forall_mem_cons.mpr ⟨m_Tokens_isBlank_ok, List.forall_mem_cons.mpr ⟨m_Tokens_isLetter_ok, List.forall_mem_cons.mpr ⟨m_Tokens_isDigit_ok, List.forall_mem_cons.mpr ⟨m_D_sort_ok, List.forall_mem_cons.mpr ⟨m_D_join_ok, List.forall_mem_cons.mpr ⟨m_D_word_ok, List.forall_mem_cons.mpr ⟨m_D_sentence_ok, List.forall_mem_cons.mpr ⟨m_D_take_ok, List.forall_mem_cons.mpr ⟨m_D_feed_ok, List.forall_mem_cons.mpr ⟨m_D_text_ok, List.forall_mem_cons.mpr ⟨m_D_finds_ok, List.forall_mem_cons.mpr ⟨m_D_find_ok, List.forall_mem_cons.mpr ⟨m_D_rows_ok, List.forall_mem_cons.mpr ⟨m_D_row_ok, List.forall_mem_cons.mpr ⟨m_D_quarrel_ok, List.forall_mem_cons.mpr ⟨m_D_mark_ok, List.forall_mem_cons.mpr ⟨m_D_best_ok, List.forall_mem_cons.mpr ⟨m_D_learn_ok, List.forall_mem_cons.mpr ⟨m_D_learnt_ok, List.forall_mem_cons.mpr ⟨m_D_catches_ok, List.forall_mem_cons.mpr ⟨m_D_named_ok, List.forall_mem_cons.mpr ⟨m_D_count_ok, List.forall_mem_cons.mpr ⟨m_D_isRelation_ok, List.forall_mem_cons.mpr ⟨m_M_thrown_ok, List.forall_mem_cons.mpr ⟨m_M_feed_ok, List.forall_mem_cons.mpr ⟨m_M_lay_ok, List.forall_mem_cons.mpr ⟨m_M_isLetter_ok, List.forall_mem_cons.mpr ⟨m_M_isDigit_ok, List.forall_mem_cons.mpr ⟨m_M_rank_ok, List.forall_mem_cons.mpr ⟨m_M_isSignOf_ok, List.forall_mem_cons.mpr ⟨m_M_cutAll_ok, List.forall_mem_cons.mpr ⟨m_M_wrong_ok, List.forall_mem_cons.mpr ⟨m_M_isSign_ok, List.forall_mem_cons.mpr ⟨m_M_isWord_ok, List.forall_mem_cons.mpr ⟨m_M_takeSign_ok, List.forall_mem_cons.mpr ⟨m_M_hasWord_ok, List.forall_mem_cons.mpr ⟨m_M_takeWord_ok, List.forall_mem_cons.mpr ⟨m_M_takeNumber_ok, List.forall_mem_cons.mpr ⟨m_M_text_ok, List.forall_mem_cons.mpr ⟨m_M_statement_ok, List.forall_mem_cons.mpr ⟨m_M_readChain_ok, List.forall_mem_cons.mpr ⟨m_M_readRule_ok, List.forall_mem_cons.mpr ⟨m_M_isItem_ok, List.forall_mem_cons.mpr ⟨m_M_item_ok, List.forall_mem_cons.mpr ⟨m_M_spec_ok, List.forall_mem_cons.mpr ⟨m_M_isOne_ok, List.forall_mem_cons.mpr ⟨m_M_sort_ok, List.forall_mem_cons.mpr ⟨m_M_nameOf_ok, List.forall_mem_cons.mpr ⟨m_M_join_ok, List.forall_mem_cons.mpr ⟨m_M_named_ok, List.forall_mem_cons.mpr ⟨m_M_word_ok, List.forall_mem_cons.mpr ⟨m_M_sentence_ok, List.forall_mem_cons.mpr ⟨m_M_isThere_ok, List.forall_mem_cons.mpr ⟨m_M_take_ok, List.forall_mem_cons.mpr ⟨m_M_fits_ok, List.forall_mem_cons.mpr ⟨m_M_findOf_ok, List.forall_mem_cons.mpr ⟨m_M_findAll_ok, List.forall_mem_cons.mpr ⟨m_M_matches_ok, List.forall_mem_cons.mpr ⟨m_M_goes_ok, List.forall_mem_cons.mpr ⟨m_M_isBarred_ok, List.forall_mem_cons.mpr ⟨m_M_finds_ok, List.forall_mem_cons.mpr ⟨m_M_find_ok, List.forall_mem_cons.mpr ⟨m_M_findRows_ok, List.forall_mem_cons.mpr ⟨m_M_joins_ok, List.forall_mem_cons.mpr ⟨m_M_isR_ok, List.forall_mem_cons.mpr ⟨m_M_rows_ok, List.forall_mem_cons.mpr ⟨m_M_row_ok, List.forall_mem_cons.mpr ⟨m_M_quarrel_ok, List.forall_mem_cons.mpr ⟨m_M_mark_ok, List.forall_mem_cons.mpr ⟨m_M_catchesMark_ok, List.forall_mem_cons.mpr ⟨m_M_caught_ok, List.forall_mem_cons.mpr ⟨m_M_rule_ok, List.forall_mem_cons.mpr ⟨m_M_bits_ok, List.forall_mem_cons.mpr ⟨m_M_best_ok, List.forall_mem_cons.mpr ⟨m_M_isLike_ok, List.forall_mem_cons.mpr ⟨m_M_least_ok, List.forall_mem_cons.mpr ⟨m_M_wordAt_ok, List.forall_mem_cons.mpr ⟨m_M_learn_ok, List.forall_mem_cons.mpr ⟨m_M_learnt_ok, List.forall_mem_cons.mpr ⟨m_M_catches_ok, List.forall_mem_cons.mpr ⟨m_M_count_ok, List.forall_mem_cons.mpr ⟨m_M_barredFinds_ok, List.forall_mem_cons.mpr ⟨m_Integer_bitCount_ok, List.forall_mem_cons.mpr ⟨m_Long_bitCount_ok, List.forall_mem_cons.mpr ⟨m_Arrays_fill_ok, List.forall_mem_cons.mpr ⟨m_String_length_ok, List.forall_mem_cons.mpr ⟨m_String_charAt_ok, fun _ h => absurd h List.not_mem_nil⟩⟩⟩⟩⟩⟩⟩⟩⟩⟩⟩⟩⟩⟩⟩⟩⟩⟩⟩⟩⟩⟩⟩⟩⟩⟩⟩⟩⟩⟩⟩⟩⟩⟩⟩⟩⟩⟩⟩⟩⟩⟩⟩⟩⟩⟩⟩⟩⟩⟩⟩⟩⟩⟩⟩⟩⟩⟩⟩⟩⟩⟩⟩⟩⟩⟩⟩⟩⟩⟩⟩⟩⟩⟩⟩⟩⟩⟩⟩⟩⟩⟩⟩⟩⟩⟩⟩⟩⟩⟩⟩⟩⟩⟩⟩⟩⟩⟩⟩⟩⟩⟩⟩⟩⟩⟩⟩⟩⟩⟩⟩⟩⟩⟩⟩⟩⟩⟩⟩⟩⟩⟩⟩⟩⟩⟩⟩⟩⟩⟩⟩⟩⟩⟩⟩⟩⟩⟩⟩⟩⟩⟩⟩⟩⟩⟩⟩⟩⟩⟩⟩⟩⟩⟩⟩⟩⟩⟩⟩⟩⟩⟩⟩⟩⟩⟩⟩⟩⟩⟩⟩⟩⟩⟩⟩⟩⟩⟩⟩⟩⟩⟩⟩⟩⟩⟩⟩⟩⟩⟩⟩⟩⟩⟩⟩⟩⟩⟩⟩⟩⟩⟩⟩⟩⟩⟩⟩⟩⟩⟩⟩⟩⟩⟩
end
section
/-! THE MACHINE OVER NUMBERED CELLS. World: what the cells hold (ints by cell and place; longs by cell and place). -/
abbrev Wd : Type := (Nat → Nat → Int32) × (Nat → Nat → Int64)
def cv (ad : Nat → Nat) : Value → Value
  | .ref i => .ref (ad i)
  | v => v
theorem cv_cat (ad : Nat → Nat) (v : Value) : (cv ad v).category = v.category := by cases v <;> rfl
def lvc (ad : Nat → Nat) (lv : List (Nat × Value)) : List (Nat × Value) := lv.map (fun q => (q.1, cv ad q.2))
def fv (ad : Nat → Nat) (w : Wd) (a : Nat) (k : Nat) (o : Option Nat) : Value := match o with
  | some r => .ref (ad r)
  | none => .int (w.1 a k)
def cont (ad : Nat → Nat) (cA : FieldType → ClassId) (w : Wd) (a : Nat) (x : Shp) : va_E := match x with
  | .inl (ci, fs) => .inr (ci, fs.mapIdx (fv ad w a))
  | .inr (.long, n) => .inl (cA .long, n, .inr (.inl (w.2 a)))
  | .inr (ty, n) => .inl (cA ty, n, .inl (w.1 a))
def wsl (ad : Nat → Nat) (cA : FieldType → ClassId) (w : Wd) : va_W := shp.mapIdx (fun a x => (ad a, cont ad cA w a x))
theorem wsl_at {ad : Nat → Nat} {cA : FieldType → ClassId} {w : Wd} {a : Nat} {x : Shp} (h : shp[a]? = some x) : (wsl ad cA w)[a]? = some (ad a, cont ad cA w a x) := by
  simp [wsl, List.getElem?_mapIdx, h]
def up1 (w : Wd) (a k : Nat) (v : Int32) : Wd := (fun b j => if b = a ∧ j = k then v else w.1 b j, w.2)
def up2 (w : Wd) (a k : Nat) (v : Int64) : Wd := (w.1, fun b j => if b = a ∧ j = k then v else w.2 b j)
def upA (w : Wd) (a : Nat) (f : Nat → Int32) : Wd := (fun b j => if b = a then f j else w.1 b j, w.2)
theorem cont_congr {ad : Nat → Nat} {cA : FieldType → ClassId} {w w' : Wd} {a : Nat} (h1 : w'.1 a = w.1 a) (h2 : w'.2 a = w.2 a) (x : Shp) : cont ad cA w' a x = cont ad cA w a x := by
  have h3 : fv ad w' a = fv ad w a := by
    funext k o
    cases o with
    | none => simp [fv, h1]
    | some r => rfl
  rcases x with ⟨ci, fs⟩ | ⟨ty, n⟩
  · simp [cont, h3]
  · cases ty <;> simp [cont, h1, h2]
theorem wsl_set {ad : Nat → Nat} {cA : FieldType → ClassId} {w w' : Wd} {a : Nat} {x : Shp} {y : va_E} (h : shp[a]? = some x) (hy : y = cont ad cA w' a x) (h1 : ∀ b, b ≠ a → w'.1 b = w.1 b) (h2 : ∀ b, b ≠ a → w'.2 b = w.2 b) : (wsl ad cA w).set a (ad a, y) = wsl ad cA w' := by
  subst hy
  have hl : a < shp.length := (List.getElem?_eq_some_iff.mp h).1
  apply List.ext_getElem?
  intro b
  by_cases hb : b = a
  · subst hb
    rw [List.getElem?_set_self (by simpa [wsl] using hl), wsl_at h]
  · rw [List.getElem?_set_ne (Ne.symm hb)]
    cases hx : shp[b]? with
    | none => simp [wsl, List.getElem?_mapIdx, hx]
    | some z => rw [wsl_at hx, wsl_at hx, cont_congr (h1 b hb) (h2 b hb)]
theorem up1_off {w : Wd} {a k : Nat} {v : Int32} : ∀ b, b ≠ a → (up1 w a k v).1 b = w.1 b := by
  intro b hb
  funext j
  simp [up1, hb]
theorem up2_off {w : Wd} {a k : Nat} {v : Int64} : ∀ b, b ≠ a → (up2 w a k v).2 b = w.2 b := by
  intro b hb
  funext j
  simp [up2, hb]
theorem up1_on {w : Wd} {a k : Nat} {v : Int32} : (up1 w a k v).1 a = upd (w.1 a) k v := by
  funext j
  simp [up1, upd]
theorem up2_on {w : Wd} {a k : Nat} {v : Int64} : (up2 w a k v).2 a = vp_updL (w.2 a) k v := by
  funext j
  simp [up2, vp_updL]
theorem set_fld {ad : Nat → Nat} {w : Wd} {a k : Nat} {fs : List (Option Nat)} (h : fs[k]? = some none) (v : Int32) : (fs.mapIdx (fv ad w a)).set k (.int v) = fs.mapIdx (fv ad (up1 w a k v) a) := by
  have hl : k < fs.length := (List.getElem?_eq_some_iff.mp h).1
  apply List.ext_getElem?
  intro b
  by_cases hb : b = k
  · subst hb
    rw [List.getElem?_set_self (by simpa using hl), List.getElem?_mapIdx, h]
    simp [fv, up1]
  · rw [List.getElem?_set_ne (Ne.symm hb), List.getElem?_mapIdx, List.getElem?_mapIdx]
    cases hx : fs[b]? with
    | none => rfl
    | some o =>
      cases o with
      | none => simp [fv, up1, hb]
      | some r => rfl
def AA (ad : Nat → Nat) (sz : Nat) : Nat → Prop := fun q => (∃ i, i < NS ∧ q = ad i) ∨ sz ≤ q
def Inj (ad : Nat → Nat) : Prop := ∀ i j, i < NS → j < NS → ad i = ad j → i = j
theorem wsl_lt {ad : Nat → Nat} {cA : FieldType → ClassId} {w : Wd} {i : Nat} {q : Nat × va_E} (h : (wsl ad cA w)[i]? = some q) : i < NS ∧ q.1 = ad i := by
  have hl : i < (wsl ad cA w).length := (List.getElem?_eq_some_iff.mp h).1
  have hl2 : i < shp.length := by simpa [wsl] using hl
  refine ⟨by rw [← shp_len]; exact hl2, ?_⟩
  have hx : shp[i]? = some shp[i] := List.getElem?_eq_getElem hl2
  rw [wsl_at hx] at h
  cases h
  rfl
theorem wsl_D {ad : Nat → Nat} {cA : FieldType → ClassId} {w : Wd} {sz : Nat} (h : Inj ad) : va_D (AA ad sz) (wsl ad cA w) := by
  refine ⟨fun i j x y hi hj e => ?_, fun k q hk => ?_⟩
  · obtain ⟨a1, a2⟩ := wsl_lt hi
    obtain ⟨b1, b2⟩ := wsl_lt hj
    exact h i j a1 b1 (by rw [← a2, ← b2]; exact e)
  · obtain ⟨a1, a2⟩ := wsl_lt hk
    exact Or.inl ⟨k, a1, a2⟩
/-- the types of arrays, with their classes -/
def tysA (cA : FieldType → ClassId) : List (ClassId × FieldType) := [(cA .int, .int), (cA .boolean, .boolean), (cA .char, .char), (cA .long, .long)]
def sIdx : Nat → Nat := fun k => [63, 69, 71, 73, 75, 77, 84, 86, 88, 82].getD k 0
def sTxt : Nat → String := fun k => ["any", "bar", "chain", "left", "rule", "right", "some", "sort", "single", "word"].getD k ""
def sLen : List Nat := [3, 3, 5, 4, 4, 5, 4, 4, 6, 4]
def sByt : List (List Int32) := [[97, 110, 121], [98, 97, 114], [99, 104, 97, 105, 110], [108, 101, 102, 116], [114, 117, 108, 101], [114, 105, 103, 104, 116], [115, 111, 109, 101], [115, 111, 114, 116], [115, 105, 110, 103, 108, 101], [119, 111, 114, 100]]
/-- what stays: the classes, the nest's links, the ten words as String constants, the static that String reads -/
def Fx (G : va_G) (cA : FieldType → ClassId) (ad : Nat → Nat) (sz : Nat) (U : State) : Prop :=
  va_K G vwCl (tysA cA) U ∧ (∀ q ∈ nestL, va_Nw (.methodLinkNest q.1 q.2.1 q.2.2.1 q.2.2.2) U) ∧ (∀ k, k < 10 → vk_R "RowDrawer$Tokens" (sIdx k) (sTxt k) (ad (200 + k)) U) ∧
  vk_S 10 sLen sByt (fun k => ad (200 + k)) (fun k => ad (300 + k)) (AA ad sz) U U.heap ∧ va_Z "java/lang/String" "COMPACT_STRINGS" "Z" (.int 1) (AA ad sz) U U.heap
theorem Fx.go {G : va_G} {cA : FieldType → ClassId} {ad : Nat → Nat} {s U : State} {H : Heap} {locs : List Loc} (h : Fx G cA ad s.heap.size s) (hS : va_S (AA ad s.heap.size) s.heap H locs) (hU : U.heap = H) (hW : s.WarmedH U.vm) : Fx G cA ad H.size U := by
  obtain ⟨h1, h2, h3, h4, h5⟩ := h
  have hn : ∀ q, AA ad H.size q → AA ad s.heap.size q := fun q hq => hq.elim Or.inl (fun z => Or.inr (Nat.le_trans hS.1 z))
  refine ⟨va_K.moved hW.alike h1, fun q hq => va_Nw.warmM hW (h2 q hq), fun k hk => (h3 k hk).warm hW, ?_, ?_⟩
  · rw [hU]
    exact ((h4.kept hS.2.1).moved hW.alike).narrow hn
  · rw [hU]
    exact ((va_Z.kept h5 hS.2.1).moved hW.alike).narrow hn
theorem Fx.calling {G : va_G} {cA : FieldType → ClassId} {ad : Nat → Nat} {sz : Nat} {U : State} (g : JFrame) (mk : MethodId) (a : Array Value) (h : Fx G cA ad sz U) : Fx G cA ad sz (U.calling g mk a) := by
  obtain ⟨h1, h2, h3, h4, h5⟩ := h
  refine ⟨va_K.moved (u := U) (U := U.calling g mk a) (Vm.Alike.refl U.vm) h1, fun q hq => va_Nw.same (u := U) (U := U.calling g mk a) rfl rfl (h2 q hq), fun k hk => vk_R.same (u := U) (U := U.calling g mk a) rfl (h3 k hk), ?_, ?_⟩
  · exact vk_S.moved (u := U) (U := U.calling g mk a) (Vm.Alike.refl U.vm) h4
  · exact va_Z.moved (u := U) (U := U.calling g mk a) (Vm.Alike.refl U.vm) h5
def wsM (μ : MI) : List Cond := Cond.code (mY μ) (mB μ) (mL μ) (mR μ) :: TT
def rmD (d : Nat) : Room := { frames := d, cells := 0, slots := 0, locals := 40 * d }
def Pw (G : va_G) (cA : FieldType → ClassId) (ad : Nat → Nat) (sz : Nat) (as : List Value) (w : Wd) : Array Value → State → Prop :=
  va_Pc (as.map (cv ad)) (fun U => U.heap.size = sz ∧ va_P G vwCl (wsl ad cA w) U.heap ∧ Fx G cA ad sz U ∧ Inj ad)
def Qw (G : va_G) (cA : FieldType → ClassId) (ad : Nat → Nat) (sz : Nat) (Q : Option Value → Wd → Prop) : Array Value → State → Outcome → State → Prop :=
  fun _ st oc t => (∃ (r : Option Value) (w' : Wd), oc = .returned (r.map (cv ad)) ∧ Q r w' ∧ va_P G vwCl (wsl ad cA w') t.heap) ∧ va_F (AA ad sz) st t
/-- THE CONTRACT of a method at a world: it returns, and 'Q answer world' -/
def Ev (μ : MI) (d : Nat) (as : List Value) (w : Wd) (Q : Option Value → Wd → Prop) : Prop :=
  ∀ (l : Launch) (G : va_G) (cA : FieldType → ClassId) (ad : Nat → Nat) (sz : Nat), Met l (mY μ) (wsM μ) (rmD d) (Pw G cA ad sz as w) (Qw G cA ad sz Q) 0 0 (AA ad sz)
def Cx (μ : MI) (p : Program) (s : State) (m : MethodId) (args : Array Value) (meth : Method) (c : Code) : Prop :=
  p.tables.exec = Jvm.exec ∧ c.code = mB μ ∧ meth.sig.returnType = mR μ ∧ c.maxLocals = mL μ ∧ s.vm.findClass (mY μ).cls = some m.cls ∧ (∀ w ∈ wsM μ, w.before args s = true) ∧ meth.locks = false
/-- the method goes on from here, and ends with Q -/
def Z (μ : MI) (d : Nat) (Q : Option Value → Wd → Prop) (pc : Nat) (lv : List (Nat × Value)) (st : List Value) (w : Wd) : Prop :=
  ∀ (p : Program) (l : Launch) (e : Env) (s : State) (m : MethodId) (args : Array Value) (below : List Frame) (meth : Method) (c : Code) (G : va_G) (cA : FieldType → ClassId) (ad : Nat → Nat),
    Cx μ p s m args meth c → Fx G cA ad s.heap.size s → Inj ad → ∀ (H : Heap) (locs : List Loc) (ls : Array Slot), va_P G vwCl (wsl ad cA w) H → va_S (AA ad s.heap.size) s.heap H locs → lv_has ls (mL μ) (lvc ad lv) →
    W p l e (rmD d) s m args below meth c H locs 0 0 (MQ below (Qw G cA ad s.heap.size Q) args s 0 0 (AA ad s.heap.size)) (F0 m pc ls (st.map (cv ad)))
theorem sl_len (ad : Nat → Nat) : ∀ as : List Value, (lg_sl (as.map (cv ad))).length = (lg_sl as).length
  | [] => rfl
  | v :: t => by
    have ih := sl_len ad t
    simp only [lg_sl] at ih ⊢
    simp only [List.map_cons, List.flatMap_cons, List.length_append, cv_cat, ih]
    split <;> rfl
/-- a method's contract out of the walk from its entry -/
theorem Ev.ofZ {μ : MI} {d : Nat} {as : List Value} {w : Wd} {Q : Option Value → Wd → Prop} (hy : plainName (mY μ).cls = true) (hn : (lg_sl as).length ≤ mL μ) (h : Z μ d Q 0 (lv_args 0 as) [] w) : Ev μ d as w Q := by
  intro l G cA ad sz
  refine Met.ofW (cc := mB μ) (maxL := mL μ) (ret := mR μ) hy rfl ?_
  intro p e s m args below meth c s₁ B hml hv
  obtain ⟨rfl, hsz, hP, hF, hI⟩ := hv
  subst hsz
  have hts := atoms_spec (ws := wsM μ) B.pre
  have hown : s.vm.findClass (mY μ).cls = some m.cls := findClass_of_methodNamed B.named
  have hsl := sl_len ad as
  have hla : ∀ (i : Nat) (l : List Value), lv_args i (l.map (cv ad)) = lvc ad (lv_args i l) := by
    intro i l
    induction l generalizing i with
    | nil => rfl
    | cons v t ih => simp only [List.map_cons, lv_args, lvc, cv_cat, ih]
  have hl := lv_entry (as.map (cv ad)) (n := mL μ) (by rw [hsl]; exact hn)
  rw [lg_entry_eq]
  rw [hla] at hl
  exact h p l e s m _ below meth c G cA ad ⟨B.exec, B.bytes, B.returns, hml, hown, hts, B.notSynchronized⟩ hF hI _ _ _ hP va_S.rf hl
end
section
/-! ONE STEP, AS A CONDITION: 'stp .. K': the instruction at pc may be taken, and K holds where it leads -/
def lget : List (Nat × Value) → Nat → Option Value
  | [], _ => none
  | q :: t, k => bif Nat.beq q.1 k then some q.2 else lget t k
theorem lget_mem {k : Nat} {v : Value} : ∀ {lv : List (Nat × Value)}, lget lv k = some v → (k, v) ∈ lv
  | [], h => by cases h
  | q :: t, h => by
    unfold lget at h
    cases hb : Nat.beq q.1 k with
    | true =>
      rw [hb] at h
      have e : q.1 = k := Nat.eq_of_beq_eq_true hb
      obtain ⟨a, b⟩ := q
      cases h
      cases e
      exact List.mem_cons_self
    | false =>
      rw [hb] at h
      exact List.mem_cons_of_mem _ (lget_mem h)
def lput1 (lv : List (Nat × Value)) (i : Nat) (v : Value) : List (Nat × Value) := (i, v) :: lv.filter (fun q => !(q.1 == i) && !(q.1 + 1 == i && q.2.category == 2))
def lput2 (lv : List (Nat × Value)) (i : Nat) (v : Value) : List (Nat × Value) := (i, v) :: lv.filter (fun q => !(q.1 == i) && (!(q.1 == i + 1) && !(q.1 + 1 == i && q.2.category == 2)))
def lpick (lv : List (Nat × Value)) (ks : List Nat) : List (Nat × Value) := ks.filterMap (fun k => (lget lv k).map (fun v => (k, v)))
theorem lvc_get {ad : Nat → Nat} {ls : Array Slot} {n k : Nat} {lv : List (Nat × Value)} {v : Value} (h : lv_has ls n (lvc ad lv)) (hg : lget lv k = some v) : ls[k]? = some (.val (cv ad v)) :=
  h.2.2 (k, cv ad v) (List.mem_map.mpr ⟨(k, v), lget_mem hg, rfl⟩)
theorem lvc_filter (ad : Nat → Nat) (f : Nat → Nat → Bool) (lv : List (Nat × Value)) : (lvc ad lv).filter (fun q => f q.1 q.2.category) = lvc ad (lv.filter (fun q => f q.1 q.2.category)) := by
  induction lv with
  | nil => rfl
  | cons q t ih =>
    simp only [lvc, List.map_cons] at ih ⊢
    by_cases hf : f q.1 q.2.category = true
    · rw [List.filter_cons_of_pos (by simpa [cv_cat] using hf), List.filter_cons_of_pos (by simpa using hf), ih]; rfl
    · rw [List.filter_cons_of_neg (by simpa [cv_cat] using hf), List.filter_cons_of_neg (by simpa using hf), ih]
theorem lvc_put1 (ad : Nat → Nat) (lv : List (Nat × Value)) (i : Nat) (v : Value) : (i, cv ad v) :: (lvc ad lv).filter (fun q => !(q.1 == i) && !(q.1 + 1 == i && q.2.category == 2)) = lvc ad (lput1 lv i v) := by
  rw [lvc_filter ad (fun a b => !(a == i) && !(a + 1 == i && b == 2)) lv]; rfl
theorem lvc_put2 (ad : Nat → Nat) (lv : List (Nat × Value)) (i : Nat) (v : Value) : (i, cv ad v) :: (lvc ad lv).filter (fun q => !(q.1 == i) && (!(q.1 == i + 1) && !(q.1 + 1 == i && q.2.category == 2))) = lvc ad (lput2 lv i v) := by
  rw [lvc_filter ad (fun a b => !(a == i) && (!(a == i + 1) && !(a + 1 == i && b == 2))) lv]; rfl
theorem lvc_pick {ad : Nat → Nat} {ls : Array Slot} {n : Nat} {lv : List (Nat × Value)} (ks : List Nat) (h : lv_has ls n (lvc ad lv)) : lv_has ls n (lvc ad (lpick lv ks)) := by
  refine ⟨h.1, h.2.1, fun q hq => ?_⟩
  obtain ⟨q0, h0, rfl⟩ := List.mem_map.mp hq
  obtain ⟨k, -, hk⟩ := List.mem_filterMap.mp h0
  cases hg : lget lv k with
  | none => rw [hg] at hk; cases hk
  | some v =>
    rw [hg] at hk
    cases hk
    exact lvc_get h hg
def iI : Int → Int32
  | .ofNat k => nI k
  | .negSucc k => -nI (k + 1)
theorem iI_eq (n : Int) : Int32.ofInt n = iI n := by
  cases n with
  | ofNat k => exact Int32.toBitVec_inj.mp (by simp [iI, nI, Int32.toBitVec_ofInt])
  | negSucc k => exact Int32.toBitVec_inj.mp (by simp [iI, nI, Int32.toBitVec_ofInt, Int.negSucc_eq, BitVec.ofInt_neg])
theorem iI_toInt {n : Int} (h1 : -2147483648 ≤ n) (h2 : n < 2147483648) : (iI n).toInt = n := by
  rw [← iI_eq, Int32.toInt_ofInt]
  exact Int.bmod_eq_of_le (m := 4294967296) (by omega) (by omega)
theorem iI_b {n : Int} (h1 : -128 ≤ n) (h2 : n < 128) : (Int8.ofInt n).toInt32 = iI n := by
  apply Int32.toInt_inj.mp
  rw [iI_toInt (by omega) (by omega), Int8.toInt_toInt32, Int8.toInt_ofInt]
  exact Int.bmod_eq_of_le (m := 256) (by omega) (by omega)
theorem iI_s {n : Int} (h1 : -32768 ≤ n) (h2 : n < 32768) : (Int16.ofInt n).toInt32 = iI n := by
  apply Int32.toInt_inj.mp
  rw [iI_toInt (by omega) (by omega), Int16.toInt_toInt32, Int16.toInt_ofInt]
  exact Int.bmod_eq_of_le (m := 65536) (by omega) (by omega)
def ldI (lv : List (Nat × Value)) (k : Nat) (f : Int32 → Prop) : Prop := match lget lv k with | some (.int v) => f v | _ => False
def ldL (lv : List (Nat × Value)) (k : Nat) (f : Int64 → Prop) : Prop := match lget lv k with | some (.long v) => f v | _ => False
def ldR (lv : List (Nat × Value)) (k : Nat) (f : Nat → Prop) : Prop := match lget lv k with | some (.ref v) => f v | _ => False
def pI (st : List Value) (f : Int32 → List Value → Prop) : Prop := match st with | .int v :: t => f v t | _ => False
def pL (st : List Value) (f : Int64 → List Value → Prop) : Prop := match st with | .long v :: t => f v t | _ => False
def pR (st : List Value) (f : Nat → List Value → Prop) : Prop := match st with | .ref v :: t => f v t | _ => False
def pIs (st : List Value) (f : Int32 → Prop) : Prop := match st with | [.int v] => f v | _ => False
def ot {α : Type} (o : Option α) (f : α → Prop) : Prop := match o with | some x => f x | none => False
def jp (pc : Nat) (off : Int) (f : Nat → Prop) : Prop := match (pc : Int) + off with | .ofNat t => f t | .negSucc _ => False
def bo (b : Bool) (P : Prop) : Prop := match b with | true => P | false => False
def tget {α : Type} : List (Nat × α) → Nat → Option α
  | [], _ => none
  | q :: t, k => bif Nat.beq q.1 k then some q.2 else tget t k
theorem tget_mem {α : Type} {k : Nat} {v : α} : ∀ {l : List (Nat × α)}, tget l k = some v → (k, v) ∈ l
  | [], h => by cases h
  | q :: t, h => by
    unfold tget at h
    cases hb : Nat.beq q.1 k with
    | true =>
      rw [hb] at h
      have e : q.1 = k := Nat.eq_of_beq_eq_true hb
      obtain ⟨a, b⟩ := q
      cases h
      cases e
      exact List.mem_cons_self
    | false =>
      rw [hb] at h
      exact List.mem_cons_of_mem _ (tget_mem h)
/-- field k of cell a, if that is an object of class ci -/
def gv (w : Wd) (a ci k : Nat) : Option Value := match shp[a]? with
  | some (.inl (c2, fs)) => bif Nat.beq c2 ci then (match fs[k]? with | some (some r) => some (.ref r) | some none => some (.int (w.1 a k)) | none => none) else none
  | _ => none
def gp (a ci k : Nat) : Bool := match shp[a]? with
  | some (.inl (c2, fs)) => Nat.beq c2 ci && (match fs[k]? with | some none => true | _ => false)
  | _ => false
/-- the array a: its type and length -/
def ga (a : Nat) : Option (FieldType × Nat) := match shp[a]? with
  | some (.inr q) => some q
  | _ => none
def isC (a ci : Nat) : Bool := match shp[a]? with
  | some (.inl (c2, _)) => Nat.beq c2 ci
  | _ => false
def cT (c : ClassFile.Cond) (x y : Int32) : Prop := match c with
  | .eq => x = y | .ne => ¬ x = y | .lt => x < y | .ge => y ≤ x | .gt => y < x | .le => x ≤ y
def cF (c : ClassFile.Cond) (x y : Int32) : Prop := match c with
  | .eq => ¬ x = y | .ne => x = y | .lt => ¬ x < y | .ge => ¬ y ≤ x | .gt => ¬ y < x | .le => ¬ x ≤ y
def tkA : Nat → List Value → List Value → Option (List Value × List Value)
  | 0, st, acc => some (acc, st)
  | n + 1, v :: st, acc => tkA n st (v :: acc)
  | _ + 1, [], _ => none
theorem tkA_spec : ∀ (n : Nat) (st acc as rest : List Value), tkA n st acc = some (as, rest) → ∃ bs, as = bs ++ acc ∧ st = bs.reverse ++ rest ∧ bs.length = n
  | 0, st, acc, as, rest, h => by
    cases h
    exact ⟨[], rfl, rfl, rfl⟩
  | n + 1, [], acc, as, rest, h => by cases h
  | n + 1, v :: st, acc, as, rest, h => by
    obtain ⟨bs, h1, h2, h3⟩ := tkA_spec n st (v :: acc) as rest h
    exact ⟨bs ++ [v], by rw [h1]; simp, by rw [h2]; simp, by simp [h3]⟩
def qI (Q : Int32 → Wd → Prop) : Option Value → Wd → Prop := fun r w => match r with | some (.int x) => Q x w | _ => False
def qL (Q : Int64 → Wd → Prop) : Option Value → Wd → Prop := fun r w => match r with | some (.long x) => Q x w | _ => False
def qR (Q : Nat → Wd → Prop) : Option Value → Wd → Prop := fun r w => match r with | some (.ref x) => Q x w | _ => False
def qV (Q : Wd → Prop) : Option Value → Wd → Prop := fun r w => match r with | none => Q w | _ => False
abbrev EvI (μ : MI) (d : Nat) (as : List Value) (w : Wd) (Q : Int32 → Wd → Prop) : Prop := Ev μ d as w (qI Q)
abbrev EvL (μ : MI) (d : Nat) (as : List Value) (w : Wd) (Q : Int64 → Wd → Prop) : Prop := Ev μ d as w (qL Q)
abbrev EvR (μ : MI) (d : Nat) (as : List Value) (w : Wd) (Q : Nat → Wd → Prop) : Prop := Ev μ d as w (qR Q)
abbrev EvV (μ : MI) (d : Nat) (as : List Value) (w : Wd) (Q : Wd → Prop) : Prop := Ev μ d as w (qV Q)
/-- a call, by the type of its answer -/
def cal (μ : MI) (d : Nat) (as : List Value) (w : Wd) (K : List Value → Wd → Prop) : Prop := match d with
  | 0 => False
  | d + 1 => match mR μ with
    | none => ∃ Q, EvV μ d as w Q ∧ ∀ w', Q w' → K [] w'
    | some .long => ∃ Q, EvL μ d as w Q ∧ ∀ r w', Q r w' → K [.long r] w'
    | some (.object _) => ∃ Q, EvR μ d as w Q ∧ ∀ r w', Q r w' → K [.ref r] w'
    | some _ => ∃ Q, EvI μ d as w Q ∧ ∀ r w', Q r w' → K [.int r] w'
def stW (st : List Value) : Bool := Nat.ble ((st.map fun v => v.category).sum) 8
/-- a switch, case by case -/
def swc (x : Int32) (dflt : Int) (pc : Nat) (K : Nat → Prop) : List (Int × Int) → Prop
  | [] => jp pc dflt K
  | q :: t => jp pc q.2 fun tg => (x = iI q.1 → K tg) ∧ (¬ x = iI q.1 → swc x dflt pc K t)
def tab (lo : Int) : List Int → List (Int × Int)
  | [] => []
  | o :: t => (lo, o) :: tab (lo + 1) t
/-- an array's place: a number -/
def plc (i : Int32) (n : Nat) (f : Nat → Prop) : Prop := ∃ j : Nat, i = nI j ∧ j < n ∧ f j
def rok (ty : FieldType) (v : Int32) (P : Prop) : Prop := match ty with
  | .int => P
  | .boolean => (v = 0 ∨ v = 1) ∧ P
  | .char => (∃ j : Nat, j < 65536 ∧ v = nI j) ∧ P
  | _ => False
def aok (ty ty2 : FieldType) (P : Prop) : Prop := match ty, ty2 with
  | .int, .int => P
  | .boolean, .boolean => P
  | .char, .char => P
  | .long, .long => P
  | _, _ => False
def stp (μ : MI) (d : Nat) (Q : Option Value → Wd → Prop) (i : Instr) (pc : Nat) (lv : List (Nat × Value)) (st : List Value) (w : Wd) (K : Nat → List (Nat × Value) → List Value → Wd → Prop) : Prop := match i with
  | .aload_n k => ldR lv k fun v => K (pc + 1) lv (.ref v :: st) w
  | .aload k => ldR lv k fun v => K (pc + 2) lv (.ref v :: st) w
  | .iload_n k => ldI lv k fun v => K (pc + 1) lv (.int v :: st) w
  | .iload k => ldI lv k fun v => K (pc + 2) lv (.int v :: st) w
  | .lload_n k => ldL lv k fun v => K (pc + 1) lv (.long v :: st) w
  | .lload k => ldL lv k fun v => K (pc + 2) lv (.long v :: st) w
  | .istore_n k => pI st fun v st => bo (Nat.blt k (mL μ)) (K (pc + 1) (lput1 lv k (.int v)) st w)
  | .istore k => pI st fun v st => bo (Nat.blt k (mL μ)) (K (pc + 2) (lput1 lv k (.int v)) st w)
  | .lstore_n k => pL st fun v st => bo (Nat.blt (k + 1) (mL μ)) (K (pc + 1) (lput2 lv k (.long v)) st w)
  | .lstore k => pL st fun v st => bo (Nat.blt (k + 1) (mL μ)) (K (pc + 2) (lput2 lv k (.long v)) st w)
  | .iinc k n => ldI lv k fun v => bo (Nat.blt k (mL μ)) (K (pc + 3) (lput1 lv k (.int (v + iI n))) st w)
  | .iconst n => K (pc + 1) lv (.int (iI n) :: st) w
  | .bipush n => bo (decide (-129 < n) && decide (n < 128)) (K (pc + 2) lv (.int (iI n) :: st) w)
  | .sipush n => bo (decide (-32769 < n) && decide (n < 32768)) (K (pc + 3) lv (.int (iI n) :: st) w)
  | .lconst n => K (pc + 1) lv (.long (lN n) :: st) w
  | .ldc x => ot (tget (LI (mK μ)) x) fun v => K (pc + 2) lv (.int v :: st) w
  | .ldc_w x => ot (tget (LI (mK μ)) x) fun v => K (pc + 3) lv (.int v :: st) w
  | .ldc2_w x => ot (tget (LL (mK μ)) x) fun v => K (pc + 3) lv (.long v :: st) w
  | .iadd => pI st fun y st => pI st fun x st => K (pc + 1) lv (.int (x + y) :: st) w
  | .isub => pI st fun y st => pI st fun x st => K (pc + 1) lv (.int (x - y) :: st) w
  | .imul => pI st fun y st => pI st fun x st => K (pc + 1) lv (.int (x * y) :: st) w
  | .idiv => pI st fun y st => pI st fun x st => ¬ y = 0 ∧ K (pc + 1) lv (.int (x / y) :: st) w
  | .irem => pI st fun y st => pI st fun x st => ¬ y = 0 ∧ K (pc + 1) lv (.int (x - x / y * y) :: st) w
  | .ineg => pI st fun x st => K (pc + 1) lv (.int (-x) :: st) w
  | .iand => pI st fun y st => pI st fun x st => K (pc + 1) lv (.int (x &&& y) :: st) w
  | .ior => pI st fun y st => pI st fun x st => K (pc + 1) lv (.int (x ||| y) :: st) w
  | .ishl => pI st fun y st => pI st fun x st => K (pc + 1) lv (.int (x <<< (y &&& 31)) :: st) w
  | .ishr => pI st fun y st => pI st fun x st => K (pc + 1) lv (.int (x >>> (y &&& 31)) :: st) w
  | .iushr => pI st fun y st => pI st fun x st => K (pc + 1) lv (.int ((x.toUInt32 >>> (y.toUInt32 &&& Int32.toUInt32 31)).toInt32) :: st) w
  | .ladd => pL st fun y st => pL st fun x st => K (pc + 1) lv (.long (x + y) :: st) w
  | .lsub => pL st fun y st => pL st fun x st => K (pc + 1) lv (.long (x - y) :: st) w
  | .lmul => pL st fun y st => pL st fun x st => K (pc + 1) lv (.long (x * y) :: st) w
  | .land => pL st fun y st => pL st fun x st => K (pc + 1) lv (.long (x &&& y) :: st) w
  | .lor => pL st fun y st => pL st fun x st => K (pc + 1) lv (.long (x ||| y) :: st) w
  | .lxor => pL st fun y st => pL st fun x st => K (pc + 1) lv (.long (x ^^^ y) :: st) w
  | .lshl => pI st fun y st => pL st fun x st => K (pc + 1) lv (.long (x <<< (y.toInt64 &&& 63)) :: st) w
  | .lshr => pI st fun y st => pL st fun x st => K (pc + 1) lv (.long (x >>> (y.toInt64 &&& 63)) :: st) w
  | .lushr => pI st fun y st => pL st fun x st => K (pc + 1) lv (.long ((x.toUInt64 >>> (y.toInt64.toUInt64 &&& Int64.toUInt64 63)).toInt64) :: st) w
  | .lcmp => pL st fun y st => pL st fun x st => K (pc + 1) lv (.int (lg_cmp x y) :: st) w
  | .i2l => pI st fun x st => K (pc + 1) lv (.long x.toInt64 :: st) w
  | .l2i => pL st fun x st => K (pc + 1) lv (.int x.toInt32 :: st) w
  | .i2c => pI st fun x st => K (pc + 1) lv (.int ((x.toUInt32 % 65536).toInt32) :: st) w
  | .dup => match st with | v :: t => bo (Nat.beq v.category 1) (K (pc + 1) lv (v :: v :: t) w) | _ => False
  | .pop => match st with | v :: t => bo (Nat.beq v.category 1) (K (pc + 1) lv t w) | _ => False
  | .dup2 => match st with | v :: u :: t => bo (Nat.beq v.category 1 && Nat.beq u.category 1) (K (pc + 1) lv (v :: u :: v :: u :: t) w) | _ => False
  | .ifCond c o => pI st fun x st => jp pc o fun t => (cT c x 0 → K t lv st w) ∧ (cF c x 0 → K (pc + 3) lv st w)
  | .if_icmp c o => pI st fun y st => pI st fun x st => jp pc o fun t => (cT c x y → K t lv st w) ∧ (cF c x y → K (pc + 3) lv st w)
  | .goto o => jp pc o fun t => K t lv st w
  | .tableswitch df lo hi os => pI st fun x st => bo (decide (lo + (os.size : Int) = hi + 1) && decide (-2147483649 < lo) && decide (hi < 2147483648)) (swc x df pc (fun t => K t lv st w) (tab lo os.toList))
  | .lookupswitch df ps => pI st fun x st => bo ((ps.toList.zip (ps.toList.drop 1)).all (fun (a, next) => a.1 < next.1) && ps.toList.all (fun q => decide (-2147483649 < q.1) && decide (q.1 < 2147483648))) (swc x df pc (fun t => K t lv st w) ps.toList)
  | .getfield x => pR st fun a st => ot (tget (FR (mK μ)) x) fun q => ot (gv w a q.1 q.2) fun v => K (pc + 3) lv (v :: st) w
  | .putfield x => pI st fun v st => pR st fun a st => ot (tget (PR (mK μ)) x) fun q => bo (gp a q.1 q.2.1) (rok (if q.2.2 = 0 then .int else .boolean) v (K (pc + 3) lv st (up1 w a q.2.1 v)))
  | .iaload => pI st fun i st => pR st fun a st => ot (ga a) fun q => aok q.1 .int (plc i q.2 fun j => K (pc + 1) lv (.int (w.1 a j) :: st) w)
  | .baload => pI st fun i st => pR st fun a st => ot (ga a) fun q => aok q.1 .boolean (plc i q.2 fun j => K (pc + 1) lv (.int (w.1 a j) :: st) w)
  | .caload => pI st fun i st => pR st fun a st => ot (ga a) fun q => aok q.1 .char (plc i q.2 fun j => K (pc + 1) lv (.int (w.1 a j) :: st) w)
  | .laload => pI st fun i st => pR st fun a st => ot (ga a) fun q => aok q.1 .long (plc i q.2 fun j => K (pc + 1) lv (.long (w.2 a j) :: st) w)
  | .iastore => pI st fun v st => pI st fun i st => pR st fun a st => ot (ga a) fun q => aok q.1 .int (plc i q.2 fun j => K (pc + 1) lv st (up1 w a j v))
  | .bastore => pI st fun v st => pI st fun i st => pR st fun a st => ot (ga a) fun q => aok q.1 .boolean (plc i q.2 fun j => rok .boolean v (K (pc + 1) lv st (up1 w a j v)))
  | .castore => pI st fun v st => pI st fun i st => pR st fun a st => ot (ga a) fun q => aok q.1 .char (plc i q.2 fun j => rok .char v (K (pc + 1) lv st (up1 w a j v)))
  | .lastore => pL st fun v st => pI st fun i st => pR st fun a st => ot (ga a) fun q => aok q.1 .long (plc i q.2 fun j => K (pc + 1) lv st (up2 w a j v))
  | .arraylength => pR st fun a st => ot (ga a) fun q => K (pc + 1) lv (.int (nI q.2) :: st) w
  | .invokevirtual x => ot (tget (MR (mK μ)) x) fun q => match q.2 with
    | 0 => ot (MT[q.1]?) fun z => ot (tkA z.2.1 st []) fun u => pR u.2 fun b st => bo (!z.2.2 && isC b (mK z.1) && stW st) (cal z.1 d (.ref b :: u.1) w fun r w' => K (pc + 3) lv (r ++ st) w')
    | 4 => ot (MT[q.1]?) fun z => ot (tkA z.2.1 st []) fun u => pR u.2 fun b st => (∃ k, k < 10 ∧ b = 200 + k) ∧ bo (!z.2.2 && Nat.beq (mK z.1) 17 && stW st) (cal z.1 d (.ref b :: u.1) w fun r w' => K (pc + 3) lv (r ++ st) w')
    | _ => False
  | .invokestatic x => ot (tget (MR (mK μ)) x) fun q => match q.2 with
    | 1 => ot (MT[q.1]?) fun z => ot (tkA z.2.1 st []) fun u => bo (z.2.2 && stW u.2) (cal z.1 d u.1 w fun r w' => K (pc + 3) lv (r ++ u.2) w')
    | 2 => ot (MT[q.1]?) fun z => ot (tkA z.2.1 st []) fun u => bo (z.2.2 && stW u.2) (cal z.1 d u.1 w fun r w' => K (pc + 3) lv (r ++ u.2) w')
    | 3 => pI st fun n st => pI st fun dp st => pR st fun b st => pI st fun sp st => pR st fun a st => ot (ga a) fun qa => ot (ga b) fun qb => aok qa.1 .int (aok qb.1 .int (bo (Nat.blt 0 d && stW st) (∃ j0 j1 m : Nat, sp = nI j0 ∧ dp = nI j1 ∧ n = nI m ∧ j0 + m ≤ qa.2 ∧ j1 + m ≤ qb.2 ∧ K (pc + 3) lv st (upA w b (va_cpy (w.1 a) (w.1 b) j0 j1 m)))))
    | 5 => pI st fun y st => pI st fun x st => bo (Nat.blt 0 d && stW st) (K (pc + 3) lv (.int (if y < x then y else x) :: st) w)
    | 6 => pI st fun y st => pI st fun x st => bo (Nat.blt 0 d && stW st) (K (pc + 3) lv (.int (if x < y then y else x) :: st) w)
    | 7 => pI st fun x st => bo (Nat.blt 0 d && stW st) (K (pc + 3) lv (.int (if 0 ≤ x then x else 0 - x) :: st) w)
    | _ => False
  | .ireturn => pIs st fun v => ot (mR μ) fun ty => rok ty v (Q (some (.int v)) w)
  | .lreturn => match st, mR μ with | [.long v], some .long => Q (some (.long v)) w | _, _ => False
  | .areturn => match st, mR μ with | [.ref v], some (.object _) => Q (some (.ref v)) w | _, _ => False
  | .return_ => match st, mR μ with | [], none => Q none w | _, _ => False
  | _ => False
end
section
theorem pI_inv {st : List Value} {f : Int32 → List Value → Prop} (h : pI st f) : ∃ v t, st = .int v :: t ∧ f v t := by
  unfold pI at h
  split at h
  · exact ⟨_, _, rfl, h⟩
  · exact h.elim
theorem pL_inv {st : List Value} {f : Int64 → List Value → Prop} (h : pL st f) : ∃ v t, st = .long v :: t ∧ f v t := by
  unfold pL at h
  split at h
  · exact ⟨_, _, rfl, h⟩
  · exact h.elim
theorem pR_inv {st : List Value} {f : Nat → List Value → Prop} (h : pR st f) : ∃ v t, st = .ref v :: t ∧ f v t := by
  unfold pR at h
  split at h
  · exact ⟨_, _, rfl, h⟩
  · exact h.elim
theorem pIs_inv {st : List Value} {f : Int32 → Prop} (h : pIs st f) : ∃ v, st = [.int v] ∧ f v := by
  unfold pIs at h
  split at h
  · exact ⟨_, rfl, h⟩
  · exact h.elim
theorem ldI_inv {lv : List (Nat × Value)} {k : Nat} {f : Int32 → Prop} (h : ldI lv k f) : ∃ v, lget lv k = some (.int v) ∧ f v := by
  unfold ldI at h
  split at h
  · exact ⟨_, by assumption, h⟩
  · exact h.elim
theorem ldL_inv {lv : List (Nat × Value)} {k : Nat} {f : Int64 → Prop} (h : ldL lv k f) : ∃ v, lget lv k = some (.long v) ∧ f v := by
  unfold ldL at h
  split at h
  · exact ⟨_, by assumption, h⟩
  · exact h.elim
theorem ldR_inv {lv : List (Nat × Value)} {k : Nat} {f : Nat → Prop} (h : ldR lv k f) : ∃ v, lget lv k = some (.ref v) ∧ f v := by
  unfold ldR at h
  split at h
  · exact ⟨_, by assumption, h⟩
  · exact h.elim
theorem ot_inv {α : Type} {o : Option α} {f : α → Prop} (h : ot o f) : ∃ x, o = some x ∧ f x := by
  unfold ot at h
  split at h
  · exact ⟨_, rfl, h⟩
  · exact h.elim
theorem bo_inv {b : Bool} {P : Prop} (h : bo b P) : b = true ∧ P := by
  cases b
  · exact h.elim
  · exact ⟨rfl, h⟩
theorem jp_inv {pc : Nat} {off : Int} {f : Nat → Prop} (h : jp pc off f) : ∃ t : Nat, (pc : Int) + off = (t : Int) ∧ f t := by
  unfold jp at h
  split at h
  · exact ⟨_, by assumption, h⟩
  · exact h.elim
theorem aok_inv {ty ty2 : FieldType} {P : Prop} (h : aok ty ty2 P) : ty = ty2 ∧ P ∧ (ty = .int ∨ ty = .boolean ∨ ty = .char ∨ ty = .long) := by
  unfold aok at h
  split at h
  · exact ⟨rfl, h, Or.inl rfl⟩
  · exact ⟨rfl, h, Or.inr (Or.inl rfl)⟩
  · exact ⟨rfl, h, Or.inr (Or.inr (Or.inl rfl))⟩
  · exact ⟨rfl, h, Or.inr (Or.inr (Or.inr rfl))⟩
  · exact h.elim
theorem ga_inv {a : Nat} {q : FieldType × Nat} (h : ga a = some q) : shp[a]? = some (.inr q) ∧ q.2 < 2 ^ 31 := by
  unfold ga at h
  cases hx : shp[a]? with
  | none => rw [hx] at h; cases h
  | some z =>
    rw [hx] at h
    cases z with
    | inl z => cases h
    | inr z =>
      cases h
      refine ⟨rfl, ?_⟩
      have h1 := List.all_eq_true.mp shp_small _ (List.mem_of_getElem? hx)
      have h2 : Nat.ble q.2 200000 = true := h1
      have h3 := Nat.le_of_ble_eq_true h2
      omega
theorem shp_id {a : Nat} {x : Shp} (h : shp[a]? = some x) : a < NS := by
  have h1 : a < shp.length := (List.getElem?_eq_some_iff.mp h).1
  rw [shp_len] at h1
  exact h1
theorem isC_inv {a ci : Nat} (h : isC a ci = true) : ∃ fs, shp[a]? = some (.inl (ci, fs)) := by
  unfold isC at h
  split at h
  · rename_i c2 fs hx
    have e := Nat.eq_of_beq_eq_true h
    subst e
    exact ⟨fs, hx⟩
  · cases h
theorem gv_inv {w : Wd} {a ci k : Nat} {v : Value} (h : gv w a ci k = some v) : ∃ fs o, shp[a]? = some (.inl (ci, fs)) ∧ fs[k]? = some o ∧ (∀ ad, cv ad v = fv ad w a k o) := by
  unfold gv at h
  split at h
  · rename_i c2 fs hx
    cases hb : Nat.beq c2 ci with
    | false => rw [hb] at h; cases h
    | true =>
      rw [hb] at h
      have e := Nat.eq_of_beq_eq_true hb
      subst e
      simp only [cond_true] at h
      split at h
      · cases h; exact ⟨fs, _, hx, by assumption, fun _ => rfl⟩
      · cases h; exact ⟨fs, _, hx, by assumption, fun _ => rfl⟩
      · cases h
  · cases h
theorem gp_inv {a ci k : Nat} (h : gp a ci k = true) : ∃ fs, shp[a]? = some (.inl (ci, fs)) ∧ fs[k]? = some none := by
  unfold gp at h
  split at h
  · rename_i c2 fs hx
    rw [Bool.and_eq_true] at h
    have e := Nat.eq_of_beq_eq_true h.1
    subst e
    refine ⟨fs, hx, ?_⟩
    have h2 := h.2
    split at h2
    · assumption
    · cases h2
  · cases h
theorem in_ws {μ : MI} {w : Cond} (h : w ∈ TT) : w ∈ wsM μ := List.mem_cons_of_mem _ h
theorem z_iload_n {μ : MI} {d : Nat} {Q : Option Value → Wd → Prop} {pc : Nat} {lv : List (Nat × Value)} {st : List Value} {w : Wd} {k : Fin 4} {x : Int32} (hd : decode (mB μ) pc = .ok (.iload_n k, 1)) (hg : lget lv k = some (.int x)) (k : Z μ d Q (pc + 1) lv (.int x :: st) w) : Z μ d Q pc lv st w := fun p l e s m args below meth c G cA ad hC hF hI H locs ls hP hS hl => lv_iload_n hC.1 hC.2.1 hd rfl (lvc_get hl hg) (k p l e s m args below meth c G cA ad hC hF hI H locs ls hP hS hl)
theorem z_iload {μ : MI} {d : Nat} {Q : Option Value → Wd → Prop} {pc : Nat} {lv : List (Nat × Value)} {st : List Value} {w : Wd} {k : Nat} {x : Int32} (hd : decode (mB μ) pc = .ok (.iload k, 2)) (hg : lget lv k = some (.int x)) (k : Z μ d Q (pc + 2) lv (.int x :: st) w) : Z μ d Q pc lv st w := fun p l e s m args below meth c G cA ad hC hF hI H locs ls hP hS hl => lv_iload hC.1 hC.2.1 hd (lvc_get hl hg) (k p l e s m args below meth c G cA ad hC hF hI H locs ls hP hS hl)
theorem z_lload_n {μ : MI} {d : Nat} {Q : Option Value → Wd → Prop} {pc : Nat} {lv : List (Nat × Value)} {st : List Value} {w : Wd} {k : Fin 4} {x : Int64} (hd : decode (mB μ) pc = .ok (.lload_n k, 1)) (hg : lget lv k = some (.long x)) (k : Z μ d Q (pc + 1) lv (.long x :: st) w) : Z μ d Q pc lv st w := fun p l e s m args below meth c G cA ad hC hF hI H locs ls hP hS hl => lv_lload_n hC.1 hC.2.1 hd rfl (lvc_get hl hg) (k p l e s m args below meth c G cA ad hC hF hI H locs ls hP hS hl)
theorem z_lload {μ : MI} {d : Nat} {Q : Option Value → Wd → Prop} {pc : Nat} {lv : List (Nat × Value)} {st : List Value} {w : Wd} {k : Nat} {x : Int64} (hd : decode (mB μ) pc = .ok (.lload k, 2)) (hg : lget lv k = some (.long x)) (k : Z μ d Q (pc + 2) lv (.long x :: st) w) : Z μ d Q pc lv st w := fun p l e s m args below meth c G cA ad hC hF hI H locs ls hP hS hl => lv_lload hC.1 hC.2.1 hd (lvc_get hl hg) (k p l e s m args below meth c G cA ad hC hF hI H locs ls hP hS hl)
theorem z_aload_n {μ : MI} {d : Nat} {Q : Option Value → Wd → Prop} {pc : Nat} {lv : List (Nat × Value)} {st : List Value} {w : Wd} {k : Fin 4} {x : Nat} (hd : decode (mB μ) pc = .ok (.aload_n k, 1)) (hg : lget lv k = some (.ref x)) (k : Z μ d Q (pc + 1) lv (.ref x :: st) w) : Z μ d Q pc lv st w := fun p l e s m args below meth c G cA ad hC hF hI H locs ls hP hS hl => lv_aload_n hC.1 hC.2.1 hd rfl (lvc_get hl hg) (k p l e s m args below meth c G cA ad hC hF hI H locs ls hP hS hl)
theorem z_aload {μ : MI} {d : Nat} {Q : Option Value → Wd → Prop} {pc : Nat} {lv : List (Nat × Value)} {st : List Value} {w : Wd} {k : Nat} {x : Nat} (hd : decode (mB μ) pc = .ok (.aload k, 2)) (hg : lget lv k = some (.ref x)) (k : Z μ d Q (pc + 2) lv (.ref x :: st) w) : Z μ d Q pc lv st w := fun p l e s m args below meth c G cA ad hC hF hI H locs ls hP hS hl => lv_aload hC.1 hC.2.1 hd (lvc_get hl hg) (k p l e s m args below meth c G cA ad hC hF hI H locs ls hP hS hl)
theorem z_istore_n {μ : MI} {d : Nat} {Q : Option Value → Wd → Prop} {pc : Nat} {lv : List (Nat × Value)} {st : List Value} {w : Wd} {k : Fin 4} {x : Int32} (hd : decode (mB μ) pc = .ok (.istore_n k, 1)) (hb : (k : Nat) < mL μ) (kk : Z μ d Q (pc + 1) (lput1 lv k (.int x)) st w) : Z μ d Q pc lv (.int x :: st) w := fun p l e s m args below meth c G cA ad hC hF hI H locs ls hP hS hl => lv_istore_n (lv' := lvc ad (lput1 lv k (.int x))) hC.1 hC.2.1 hd rfl hl hb (lvc_put1 ad lv k (.int x)) (fun ls hl => kk p l e s m args below meth c G cA ad hC hF hI H locs ls hP hS hl)
theorem z_istore {μ : MI} {d : Nat} {Q : Option Value → Wd → Prop} {pc : Nat} {lv : List (Nat × Value)} {st : List Value} {w : Wd} {k : Nat} {x : Int32} (hd : decode (mB μ) pc = .ok (.istore k, 2)) (hb : (k : Nat) < mL μ) (kk : Z μ d Q (pc + 2) (lput1 lv k (.int x)) st w) : Z μ d Q pc lv (.int x :: st) w := fun p l e s m args below meth c G cA ad hC hF hI H locs ls hP hS hl => lv_istore (lv' := lvc ad (lput1 lv k (.int x))) hC.1 hC.2.1 hd hl hb (lvc_put1 ad lv k (.int x)) (fun ls hl => kk p l e s m args below meth c G cA ad hC hF hI H locs ls hP hS hl)
theorem z_lstore_n {μ : MI} {d : Nat} {Q : Option Value → Wd → Prop} {pc : Nat} {lv : List (Nat × Value)} {st : List Value} {w : Wd} {k : Fin 4} {x : Int64} (hd : decode (mB μ) pc = .ok (.lstore_n k, 1)) (hb : (k : Nat) + 1 < mL μ) (kk : Z μ d Q (pc + 1) (lput2 lv k (.long x)) st w) : Z μ d Q pc lv (.long x :: st) w := fun p l e s m args below meth c G cA ad hC hF hI H locs ls hP hS hl => lv_lstore_n (lv' := lvc ad (lput2 lv k (.long x))) hC.1 hC.2.1 hd rfl hl hb (lvc_put2 ad lv k (.long x)) (fun ls hl => kk p l e s m args below meth c G cA ad hC hF hI H locs ls hP hS hl)
theorem z_lstore {μ : MI} {d : Nat} {Q : Option Value → Wd → Prop} {pc : Nat} {lv : List (Nat × Value)} {st : List Value} {w : Wd} {k : Nat} {x : Int64} (hd : decode (mB μ) pc = .ok (.lstore k, 2)) (hb : (k : Nat) + 1 < mL μ) (kk : Z μ d Q (pc + 2) (lput2 lv k (.long x)) st w) : Z μ d Q pc lv (.long x :: st) w := fun p l e s m args below meth c G cA ad hC hF hI H locs ls hP hS hl => lv_lstore (lv' := lvc ad (lput2 lv k (.long x))) hC.1 hC.2.1 hd hl hb (lvc_put2 ad lv k (.long x)) (fun ls hl => kk p l e s m args below meth c G cA ad hC hF hI H locs ls hP hS hl)
theorem lv_pos {ad : Nat → Nat} {lv : List (Nat × Value)} {k : Nat} {x : Int32} (hg : lget lv k = some (.int x)) : ∃ j : Nat, (lvc ad lv)[j]? = some (k, .int x) := by
  have h : (k, cv ad (.int x)) ∈ lvc ad lv := List.mem_map.mpr ⟨(k, .int x), lget_mem hg, rfl⟩
  exact List.getElem?_of_mem h
theorem z_iinc {μ : MI} {d : Nat} {Q : Option Value → Wd → Prop} {pc : Nat} {lv : List (Nat × Value)} {st : List Value} {w : Wd} {k : Nat} {n : Int} {x : Int32} (hd : decode (mB μ) pc = .ok (.iinc k n, 3)) (hg : lget lv k = some (.int x)) (hb : k < mL μ) (kk : Z μ d Q (pc + 3) (lput1 lv k (.int (x + iI n))) st w) : Z μ d Q pc lv st w := by
  intro p l e s m args below meth c G cA ad hC hF hI H locs ls hP hS hl
  obtain ⟨j, hj⟩ := lv_pos (ad := ad) hg
  exact lv_iinc (v := x + iI n) (lv' := lvc ad (lput1 lv k (.int (x + iI n)))) hC.1 hC.2.1 hd hl hj (by rw [iI_eq]) hb (lvc_put1 ad lv k (.int (x + iI n))) (fun ls hl => kk p l e s m args below meth c G cA ad hC hF hI H locs ls hP hS hl)
theorem z_iconst {μ : MI} {d : Nat} {Q : Option Value → Wd → Prop} {pc : Nat} {lv : List (Nat × Value)} {st : List Value} {w : Wd} {n : Int} (hd : decode (mB μ) pc = .ok (.iconst n, 1)) (k : Z μ d Q (pc + 1) lv (.int (iI n) :: st) w) : Z μ d Q pc lv (st) w := fun p l e s m args below meth c G cA ad hC hF hI H locs ls hP hS hl => lv_iconst hC.1 hC.2.1 hd (iI_eq n) (k p l e s m args below meth c G cA ad hC hF hI H locs ls hP hS hl)
theorem z_bipush {μ : MI} {d : Nat} {Q : Option Value → Wd → Prop} {pc : Nat} {lv : List (Nat × Value)} {st : List Value} {w : Wd} {n : Int} (h1 : -129 < n) (h2 : n < 128) (hd : decode (mB μ) pc = .ok (.bipush n, 2)) (k : Z μ d Q (pc + 2) lv (.int (iI n) :: st) w) : Z μ d Q pc lv (st) w := fun p l e s m args below meth c G cA ad hC hF hI H locs ls hP hS hl => lv_bipush hC.1 hC.2.1 hd (iI_b (by omega) h2) (k p l e s m args below meth c G cA ad hC hF hI H locs ls hP hS hl)
theorem z_sipush {μ : MI} {d : Nat} {Q : Option Value → Wd → Prop} {pc : Nat} {lv : List (Nat × Value)} {st : List Value} {w : Wd} {n : Int} (h1 : -32769 < n) (h2 : n < 32768) (hd : decode (mB μ) pc = .ok (.sipush n, 3)) (k : Z μ d Q (pc + 3) lv (.int (iI n) :: st) w) : Z μ d Q pc lv (st) w := fun p l e s m args below meth c G cA ad hC hF hI H locs ls hP hS hl => lv_sipush hC.1 hC.2.1 hd (iI_s (by omega) h2) (k p l e s m args below meth c G cA ad hC hF hI H locs ls hP hS hl)
theorem z_lconst {μ : MI} {d : Nat} {Q : Option Value → Wd → Prop} {pc : Nat} {lv : List (Nat × Value)} {st : List Value} {w : Wd} {n : Fin 2} (hd : decode (mB μ) pc = .ok (.lconst n, 1)) (k : Z μ d Q (pc + 1) lv (.long (lN n) :: st) w) : Z μ d Q pc lv (st) w := fun p l e s m args below meth c G cA ad hC hF hI H locs ls hP hS hl => lv_lconst hC.1 hC.2.1 hd rfl (k p l e s m args below meth c G cA ad hC hF hI H locs ls hP hS hl)
theorem z_ldc {μ : MI} {d : Nat} {Q : Option Value → Wd → Prop} {pc : Nat} {lv : List (Nat × Value)} {st : List Value} {w : Wd} {x : Nat} {v : Int32} (ho : (mY μ).cls = clN.getD (mK μ) "") (hd : decode (mB μ) pc = .ok (.ldc x, 2)) (hx : tget (LI (mK μ)) x = some v) (k : Z μ d Q (pc + 2) lv (.int v :: st) w) : Z μ d Q pc lv st w := fun p l e s m args below meth c G cA ad hC hF hI H locs ls hP hS hl => lv_ldc hC.1 hC.2.1 hC.2.2.2.2.1 (hC.2.2.2.2.2.1 _ (in_ws (by rw [ho]; exact LI_ok _ _ (tget_mem hx)))) hd (k p l e s m args below meth c G cA ad hC hF hI H locs ls hP hS hl)
theorem z_ldc_w {μ : MI} {d : Nat} {Q : Option Value → Wd → Prop} {pc : Nat} {lv : List (Nat × Value)} {st : List Value} {w : Wd} {x : Nat} {v : Int32} (ho : (mY μ).cls = clN.getD (mK μ) "") (hd : decode (mB μ) pc = .ok (.ldc_w x, 3)) (hx : tget (LI (mK μ)) x = some v) (k : Z μ d Q (pc + 3) lv (.int v :: st) w) : Z μ d Q pc lv st w := fun p l e s m args below meth c G cA ad hC hF hI H locs ls hP hS hl => lv_ldcw hC.1 hC.2.1 hC.2.2.2.2.1 (hC.2.2.2.2.2.1 _ (in_ws (by rw [ho]; exact LI_ok _ _ (tget_mem hx)))) hd (k p l e s m args below meth c G cA ad hC hF hI H locs ls hP hS hl)
theorem z_ldc2 {μ : MI} {d : Nat} {Q : Option Value → Wd → Prop} {pc : Nat} {lv : List (Nat × Value)} {st : List Value} {w : Wd} {x : Nat} {v : Int64} (ho : (mY μ).cls = clN.getD (mK μ) "") (hd : decode (mB μ) pc = .ok (.ldc2_w x, 3)) (hx : tget (LL (mK μ)) x = some v) (k : Z μ d Q (pc + 3) lv (.long v :: st) w) : Z μ d Q pc lv st w := fun p l e s m args below meth c G cA ad hC hF hI H locs ls hP hS hl => lv_ldc2 hC.1 hC.2.1 hC.2.2.2.2.1 (hC.2.2.2.2.2.1 _ (in_ws (by rw [ho]; exact LL_ok _ _ (tget_mem hx)))) hd (k p l e s m args below meth c G cA ad hC hF hI H locs ls hP hS hl)
theorem z_iadd {μ : MI} {d : Nat} {Q : Option Value → Wd → Prop} {pc : Nat} {lv : List (Nat × Value)} {st : List Value} {w : Wd} {x y : Int32} (hd : decode (mB μ) pc = .ok (.iadd, 1)) (k : Z μ d Q (pc + 1) lv (.int (x + y) :: st) w) : Z μ d Q pc lv (.int y :: .int x :: st) w := fun p l e s m args below meth c G cA ad hC hF hI H locs ls hP hS hl => lv_iadd hC.1 hC.2.1 hd  (k p l e s m args below meth c G cA ad hC hF hI H locs ls hP hS hl)
theorem z_isub {μ : MI} {d : Nat} {Q : Option Value → Wd → Prop} {pc : Nat} {lv : List (Nat × Value)} {st : List Value} {w : Wd} {x y : Int32} (hd : decode (mB μ) pc = .ok (.isub, 1)) (k : Z μ d Q (pc + 1) lv (.int (x - y) :: st) w) : Z μ d Q pc lv (.int y :: .int x :: st) w := fun p l e s m args below meth c G cA ad hC hF hI H locs ls hP hS hl => lv_isub hC.1 hC.2.1 hd  (k p l e s m args below meth c G cA ad hC hF hI H locs ls hP hS hl)
theorem z_imul {μ : MI} {d : Nat} {Q : Option Value → Wd → Prop} {pc : Nat} {lv : List (Nat × Value)} {st : List Value} {w : Wd} {x y : Int32} (hd : decode (mB μ) pc = .ok (.imul, 1)) (k : Z μ d Q (pc + 1) lv (.int (x * y) :: st) w) : Z μ d Q pc lv (.int y :: .int x :: st) w := fun p l e s m args below meth c G cA ad hC hF hI H locs ls hP hS hl => lv_imul hC.1 hC.2.1 hd  (k p l e s m args below meth c G cA ad hC hF hI H locs ls hP hS hl)
theorem z_iand {μ : MI} {d : Nat} {Q : Option Value → Wd → Prop} {pc : Nat} {lv : List (Nat × Value)} {st : List Value} {w : Wd} {x y : Int32} (hd : decode (mB μ) pc = .ok (.iand, 1)) (k : Z μ d Q (pc + 1) lv (.int (x &&& y) :: st) w) : Z μ d Q pc lv (.int y :: .int x :: st) w := fun p l e s m args below meth c G cA ad hC hF hI H locs ls hP hS hl => lv_iand hC.1 hC.2.1 hd  (k p l e s m args below meth c G cA ad hC hF hI H locs ls hP hS hl)
theorem z_ior {μ : MI} {d : Nat} {Q : Option Value → Wd → Prop} {pc : Nat} {lv : List (Nat × Value)} {st : List Value} {w : Wd} {x y : Int32} (hd : decode (mB μ) pc = .ok (.ior, 1)) (k : Z μ d Q (pc + 1) lv (.int (x ||| y) :: st) w) : Z μ d Q pc lv (.int y :: .int x :: st) w := fun p l e s m args below meth c G cA ad hC hF hI H locs ls hP hS hl => lv_ior hC.1 hC.2.1 hd  (k p l e s m args below meth c G cA ad hC hF hI H locs ls hP hS hl)
theorem z_ishl {μ : MI} {d : Nat} {Q : Option Value → Wd → Prop} {pc : Nat} {lv : List (Nat × Value)} {st : List Value} {w : Wd} {x y : Int32} (hd : decode (mB μ) pc = .ok (.ishl, 1)) (k : Z μ d Q (pc + 1) lv (.int (x <<< (y &&& 31)) :: st) w) : Z μ d Q pc lv (.int y :: .int x :: st) w := fun p l e s m args below meth c G cA ad hC hF hI H locs ls hP hS hl => lv_ishl hC.1 hC.2.1 hd  (k p l e s m args below meth c G cA ad hC hF hI H locs ls hP hS hl)
theorem z_ishr {μ : MI} {d : Nat} {Q : Option Value → Wd → Prop} {pc : Nat} {lv : List (Nat × Value)} {st : List Value} {w : Wd} {x y : Int32} (hd : decode (mB μ) pc = .ok (.ishr, 1)) (k : Z μ d Q (pc + 1) lv (.int (x >>> (y &&& 31)) :: st) w) : Z μ d Q pc lv (.int y :: .int x :: st) w := fun p l e s m args below meth c G cA ad hC hF hI H locs ls hP hS hl => lv_ishr hC.1 hC.2.1 hd  (k p l e s m args below meth c G cA ad hC hF hI H locs ls hP hS hl)
theorem z_iushr {μ : MI} {d : Nat} {Q : Option Value → Wd → Prop} {pc : Nat} {lv : List (Nat × Value)} {st : List Value} {w : Wd} {x y : Int32} (hd : decode (mB μ) pc = .ok (.iushr, 1)) (k : Z μ d Q (pc + 1) lv (.int ((x.toUInt32 >>> (y.toUInt32 &&& Int32.toUInt32 31)).toInt32) :: st) w) : Z μ d Q pc lv (.int y :: .int x :: st) w := fun p l e s m args below meth c G cA ad hC hF hI H locs ls hP hS hl => lv_iushr hC.1 hC.2.1 hd rfl (k p l e s m args below meth c G cA ad hC hF hI H locs ls hP hS hl)
theorem z_idiv {μ : MI} {d : Nat} {Q : Option Value → Wd → Prop} {pc : Nat} {lv : List (Nat × Value)} {st : List Value} {w : Wd} {x y : Int32} (hne : ¬ y = 0) (hd : decode (mB μ) pc = .ok (.idiv, 1)) (k : Z μ d Q (pc + 1) lv (.int (x / y) :: st) w) : Z μ d Q pc lv (.int y :: .int x :: st) w := fun p l e s m args below meth c G cA ad hC hF hI H locs ls hP hS hl => lv_idiv hC.1 hC.2.1 hd hne (k p l e s m args below meth c G cA ad hC hF hI H locs ls hP hS hl)
theorem z_irem {μ : MI} {d : Nat} {Q : Option Value → Wd → Prop} {pc : Nat} {lv : List (Nat × Value)} {st : List Value} {w : Wd} {x y : Int32} (hne : ¬ y = 0) (hd : decode (mB μ) pc = .ok (.irem, 1)) (k : Z μ d Q (pc + 1) lv (.int (x - x / y * y) :: st) w) : Z μ d Q pc lv (.int y :: .int x :: st) w := fun p l e s m args below meth c G cA ad hC hF hI H locs ls hP hS hl => lv_irem hC.1 hC.2.1 hd hne (k p l e s m args below meth c G cA ad hC hF hI H locs ls hP hS hl)
theorem z_ineg {μ : MI} {d : Nat} {Q : Option Value → Wd → Prop} {pc : Nat} {lv : List (Nat × Value)} {st : List Value} {w : Wd} {x : Int32} (hd : decode (mB μ) pc = .ok (.ineg, 1)) (k : Z μ d Q (pc + 1) lv (.int (-x) :: st) w) : Z μ d Q pc lv (.int x :: st) w := fun p l e s m args below meth c G cA ad hC hF hI H locs ls hP hS hl => lv_ineg hC.1 hC.2.1 hd  (k p l e s m args below meth c G cA ad hC hF hI H locs ls hP hS hl)
theorem z_ladd {μ : MI} {d : Nat} {Q : Option Value → Wd → Prop} {pc : Nat} {lv : List (Nat × Value)} {st : List Value} {w : Wd} {x y : Int64} (hd : decode (mB μ) pc = .ok (.ladd, 1)) (k : Z μ d Q (pc + 1) lv (.long (x + y) :: st) w) : Z μ d Q pc lv (.long y :: .long x :: st) w := fun p l e s m args below meth c G cA ad hC hF hI H locs ls hP hS hl => lv_ladd hC.1 hC.2.1 hd  (k p l e s m args below meth c G cA ad hC hF hI H locs ls hP hS hl)
theorem z_lsub {μ : MI} {d : Nat} {Q : Option Value → Wd → Prop} {pc : Nat} {lv : List (Nat × Value)} {st : List Value} {w : Wd} {x y : Int64} (hd : decode (mB μ) pc = .ok (.lsub, 1)) (k : Z μ d Q (pc + 1) lv (.long (x - y) :: st) w) : Z μ d Q pc lv (.long y :: .long x :: st) w := fun p l e s m args below meth c G cA ad hC hF hI H locs ls hP hS hl => lv_lsub hC.1 hC.2.1 hd  (k p l e s m args below meth c G cA ad hC hF hI H locs ls hP hS hl)
theorem z_lmul {μ : MI} {d : Nat} {Q : Option Value → Wd → Prop} {pc : Nat} {lv : List (Nat × Value)} {st : List Value} {w : Wd} {x y : Int64} (hd : decode (mB μ) pc = .ok (.lmul, 1)) (k : Z μ d Q (pc + 1) lv (.long (x * y) :: st) w) : Z μ d Q pc lv (.long y :: .long x :: st) w := fun p l e s m args below meth c G cA ad hC hF hI H locs ls hP hS hl => lv_lmul hC.1 hC.2.1 hd  (k p l e s m args below meth c G cA ad hC hF hI H locs ls hP hS hl)
theorem z_land {μ : MI} {d : Nat} {Q : Option Value → Wd → Prop} {pc : Nat} {lv : List (Nat × Value)} {st : List Value} {w : Wd} {x y : Int64} (hd : decode (mB μ) pc = .ok (.land, 1)) (k : Z μ d Q (pc + 1) lv (.long (x &&& y) :: st) w) : Z μ d Q pc lv (.long y :: .long x :: st) w := fun p l e s m args below meth c G cA ad hC hF hI H locs ls hP hS hl => lv_land hC.1 hC.2.1 hd  (k p l e s m args below meth c G cA ad hC hF hI H locs ls hP hS hl)
theorem z_lor {μ : MI} {d : Nat} {Q : Option Value → Wd → Prop} {pc : Nat} {lv : List (Nat × Value)} {st : List Value} {w : Wd} {x y : Int64} (hd : decode (mB μ) pc = .ok (.lor, 1)) (k : Z μ d Q (pc + 1) lv (.long (x ||| y) :: st) w) : Z μ d Q pc lv (.long y :: .long x :: st) w := fun p l e s m args below meth c G cA ad hC hF hI H locs ls hP hS hl => lv_lor hC.1 hC.2.1 hd  (k p l e s m args below meth c G cA ad hC hF hI H locs ls hP hS hl)
theorem z_lxor {μ : MI} {d : Nat} {Q : Option Value → Wd → Prop} {pc : Nat} {lv : List (Nat × Value)} {st : List Value} {w : Wd} {x y : Int64} (hd : decode (mB μ) pc = .ok (.lxor, 1)) (k : Z μ d Q (pc + 1) lv (.long (x ^^^ y) :: st) w) : Z μ d Q pc lv (.long y :: .long x :: st) w := fun p l e s m args below meth c G cA ad hC hF hI H locs ls hP hS hl => lv_lxor hC.1 hC.2.1 hd  (k p l e s m args below meth c G cA ad hC hF hI H locs ls hP hS hl)
theorem z_lshl {μ : MI} {d : Nat} {Q : Option Value → Wd → Prop} {pc : Nat} {lv : List (Nat × Value)} {st : List Value} {w : Wd} {x : Int64} {y : Int32} (hd : decode (mB μ) pc = .ok (.lshl, 1)) (k : Z μ d Q (pc + 1) lv (.long (x <<< (y.toInt64 &&& 63)) :: st) w) : Z μ d Q pc lv (.int y :: .long x :: st) w := fun p l e s m args below meth c G cA ad hC hF hI H locs ls hP hS hl => lv_lshl hC.1 hC.2.1 hd rfl (k p l e s m args below meth c G cA ad hC hF hI H locs ls hP hS hl)
theorem z_lshr {μ : MI} {d : Nat} {Q : Option Value → Wd → Prop} {pc : Nat} {lv : List (Nat × Value)} {st : List Value} {w : Wd} {x : Int64} {y : Int32} (hd : decode (mB μ) pc = .ok (.lshr, 1)) (k : Z μ d Q (pc + 1) lv (.long (x >>> (y.toInt64 &&& 63)) :: st) w) : Z μ d Q pc lv (.int y :: .long x :: st) w := fun p l e s m args below meth c G cA ad hC hF hI H locs ls hP hS hl => lv_lshr hC.1 hC.2.1 hd rfl (k p l e s m args below meth c G cA ad hC hF hI H locs ls hP hS hl)
theorem z_lushr {μ : MI} {d : Nat} {Q : Option Value → Wd → Prop} {pc : Nat} {lv : List (Nat × Value)} {st : List Value} {w : Wd} {x : Int64} {y : Int32} (hd : decode (mB μ) pc = .ok (.lushr, 1)) (k : Z μ d Q (pc + 1) lv (.long ((x.toUInt64 >>> (y.toInt64.toUInt64 &&& Int64.toUInt64 63)).toInt64) :: st) w) : Z μ d Q pc lv (.int y :: .long x :: st) w := fun p l e s m args below meth c G cA ad hC hF hI H locs ls hP hS hl => lv_lushr hC.1 hC.2.1 hd rfl (k p l e s m args below meth c G cA ad hC hF hI H locs ls hP hS hl)
theorem z_lcmp {μ : MI} {d : Nat} {Q : Option Value → Wd → Prop} {pc : Nat} {lv : List (Nat × Value)} {st : List Value} {w : Wd} {x y : Int64} (hd : decode (mB μ) pc = .ok (.lcmp, 1)) (k : Z μ d Q (pc + 1) lv (.int (lg_cmp x y) :: st) w) : Z μ d Q pc lv (.long y :: .long x :: st) w := fun p l e s m args below meth c G cA ad hC hF hI H locs ls hP hS hl => W.lcmp hC.1 hC.2.1 hd  (k p l e s m args below meth c G cA ad hC hF hI H locs ls hP hS hl)
theorem z_i2l {μ : MI} {d : Nat} {Q : Option Value → Wd → Prop} {pc : Nat} {lv : List (Nat × Value)} {st : List Value} {w : Wd} {x : Int32} (hd : decode (mB μ) pc = .ok (.i2l, 1)) (k : Z μ d Q (pc + 1) lv (.long x.toInt64 :: st) w) : Z μ d Q pc lv (.int x :: st) w := fun p l e s m args below meth c G cA ad hC hF hI H locs ls hP hS hl => lv_i2l hC.1 hC.2.1 hd rfl (k p l e s m args below meth c G cA ad hC hF hI H locs ls hP hS hl)
theorem z_l2i {μ : MI} {d : Nat} {Q : Option Value → Wd → Prop} {pc : Nat} {lv : List (Nat × Value)} {st : List Value} {w : Wd} {x : Int64} (hd : decode (mB μ) pc = .ok (.l2i, 1)) (k : Z μ d Q (pc + 1) lv (.int x.toInt32 :: st) w) : Z μ d Q pc lv (.long x :: st) w := fun p l e s m args below meth c G cA ad hC hF hI H locs ls hP hS hl => lv_l2i hC.1 hC.2.1 hd rfl (k p l e s m args below meth c G cA ad hC hF hI H locs ls hP hS hl)
theorem z_i2c {μ : MI} {d : Nat} {Q : Option Value → Wd → Prop} {pc : Nat} {lv : List (Nat × Value)} {st : List Value} {w : Wd} {x : Int32} (hd : decode (mB μ) pc = .ok (.i2c, 1)) (k : Z μ d Q (pc + 1) lv (.int ((x.toUInt32 % 65536).toInt32) :: st) w) : Z μ d Q pc lv (.int x :: st) w := fun p l e s m args below meth c G cA ad hC hF hI H locs ls hP hS hl => lv_i2c hC.1 hC.2.1 hd rfl (k p l e s m args below meth c G cA ad hC hF hI H locs ls hP hS hl)
theorem z_dup {μ : MI} {d : Nat} {Q : Option Value → Wd → Prop} {pc : Nat} {lv : List (Nat × Value)} {st : List Value} {w : Wd} {v : Value} (hc : v.category = 1) (hd : decode (mB μ) pc = .ok (.dup, 1)) (k : Z μ d Q (pc + 1) lv (v :: v :: st) w) : Z μ d Q pc lv (v :: st) w := fun p l e s m args below meth c G cA ad hC hF hI H locs ls hP hS hl => lv_dup hC.1 hC.2.1 hd ((cv_cat ad v).trans hc) (k p l e s m args below meth c G cA ad hC hF hI H locs ls hP hS hl)
theorem z_pop {μ : MI} {d : Nat} {Q : Option Value → Wd → Prop} {pc : Nat} {lv : List (Nat × Value)} {st : List Value} {w : Wd} {v : Value} (hc : v.category = 1) (hd : decode (mB μ) pc = .ok (.pop, 1)) (k : Z μ d Q (pc + 1) lv (st) w) : Z μ d Q pc lv (v :: st) w := fun p l e s m args below meth c G cA ad hC hF hI H locs ls hP hS hl => lv_pop hC.1 hC.2.1 hd ((cv_cat ad v).trans hc) (k p l e s m args below meth c G cA ad hC hF hI H locs ls hP hS hl)
theorem z_dup2 {μ : MI} {d : Nat} {Q : Option Value → Wd → Prop} {pc : Nat} {lv : List (Nat × Value)} {st : List Value} {w : Wd} {v u : Value} (hc : v.category = 1) (hc2 : u.category = 1) (hd : decode (mB μ) pc = .ok (.dup2, 1)) (k : Z μ d Q (pc + 1) lv (v :: u :: v :: u :: st) w) : Z μ d Q pc lv (v :: u :: st) w := fun p l e s m args below meth c G cA ad hC hF hI H locs ls hP hS hl => lv_dup2_11 hC.1 hC.2.1 hd ((cv_cat ad v).trans hc) ((cv_cat ad u).trans hc2) (k p l e s m args below meth c G cA ad hC hF hI H locs ls hP hS hl)
theorem z_if {μ : MI} {d : Nat} {Q : Option Value → Wd → Prop} {pc : Nat} {lv : List (Nat × Value)} {st : List Value} {w : Wd} {x : Int32} {cd : ClassFile.Cond} {off : Int} {tgt : Nat} (hd : decode (mB μ) pc = .ok (.ifCond cd off, 3)) (ht : (pc : Int) + off = (tgt : Int)) (kt : cT cd x 0 → Z μ d Q tgt lv st w) (kf : cF cd x 0 → Z μ d Q (pc + 3) lv st w) : Z μ d Q pc lv (.int x :: st) w := by
  intro p l e s m args below meth c G cA ad hC hF hI H locs ls hP hS hl
  cases cd with
  | eq => exact lv_if_eq hC.1 hC.2.1 hd ht (fun h => kt h p l e s m args below meth c G cA ad hC hF hI H locs ls hP hS hl) (fun h => kf h p l e s m args below meth c G cA ad hC hF hI H locs ls hP hS hl)
  | ne => exact lv_if_ne hC.1 hC.2.1 hd ht (fun h => kt h p l e s m args below meth c G cA ad hC hF hI H locs ls hP hS hl) (fun h => kf h p l e s m args below meth c G cA ad hC hF hI H locs ls hP hS hl)
  | lt => exact lv_if_lt hC.1 hC.2.1 hd ht (fun h => kt h p l e s m args below meth c G cA ad hC hF hI H locs ls hP hS hl) (fun h => kf h p l e s m args below meth c G cA ad hC hF hI H locs ls hP hS hl)
  | ge => exact lv_if_ge hC.1 hC.2.1 hd ht (fun h => kt h p l e s m args below meth c G cA ad hC hF hI H locs ls hP hS hl) (fun h => kf h p l e s m args below meth c G cA ad hC hF hI H locs ls hP hS hl)
  | gt => exact lv_if_gt hC.1 hC.2.1 hd ht (fun h => kt h p l e s m args below meth c G cA ad hC hF hI H locs ls hP hS hl) (fun h => kf h p l e s m args below meth c G cA ad hC hF hI H locs ls hP hS hl)
  | le => exact lv_if_le hC.1 hC.2.1 hd ht (fun h => kt h p l e s m args below meth c G cA ad hC hF hI H locs ls hP hS hl) (fun h => kf h p l e s m args below meth c G cA ad hC hF hI H locs ls hP hS hl)
theorem z_icmp {μ : MI} {d : Nat} {Q : Option Value → Wd → Prop} {pc : Nat} {lv : List (Nat × Value)} {st : List Value} {w : Wd} {x y : Int32} {cd : ClassFile.Cond} {off : Int} {tgt : Nat} (hd : decode (mB μ) pc = .ok (.if_icmp cd off, 3)) (ht : (pc : Int) + off = (tgt : Int)) (kt : cT cd x y → Z μ d Q tgt lv st w) (kf : cF cd x y → Z μ d Q (pc + 3) lv st w) : Z μ d Q pc lv (.int y :: .int x :: st) w := by
  intro p l e s m args below meth c G cA ad hC hF hI H locs ls hP hS hl
  cases cd with
  | eq => exact lv_icmp_eq hC.1 hC.2.1 hd ht (fun h => kt h p l e s m args below meth c G cA ad hC hF hI H locs ls hP hS hl) (fun h => kf h p l e s m args below meth c G cA ad hC hF hI H locs ls hP hS hl)
  | ne => exact lv_icmp_ne hC.1 hC.2.1 hd ht (fun h => kt h p l e s m args below meth c G cA ad hC hF hI H locs ls hP hS hl) (fun h => kf h p l e s m args below meth c G cA ad hC hF hI H locs ls hP hS hl)
  | lt => exact lv_icmp_lt hC.1 hC.2.1 hd ht (fun h => kt h p l e s m args below meth c G cA ad hC hF hI H locs ls hP hS hl) (fun h => kf h p l e s m args below meth c G cA ad hC hF hI H locs ls hP hS hl)
  | ge => exact lv_icmp_ge hC.1 hC.2.1 hd ht (fun h => kt h p l e s m args below meth c G cA ad hC hF hI H locs ls hP hS hl) (fun h => kf h p l e s m args below meth c G cA ad hC hF hI H locs ls hP hS hl)
  | gt => exact lv_icmp_gt hC.1 hC.2.1 hd ht (fun h => kt h p l e s m args below meth c G cA ad hC hF hI H locs ls hP hS hl) (fun h => kf h p l e s m args below meth c G cA ad hC hF hI H locs ls hP hS hl)
  | le => exact lv_icmp_le hC.1 hC.2.1 hd ht (fun h => kt h p l e s m args below meth c G cA ad hC hF hI H locs ls hP hS hl) (fun h => kf h p l e s m args below meth c G cA ad hC hF hI H locs ls hP hS hl)
theorem z_goto {μ : MI} {d : Nat} {Q : Option Value → Wd → Prop} {pc : Nat} {lv : List (Nat × Value)} {st : List Value} {w : Wd} {off : Int} {tgt : Nat} (hd : decode (mB μ) pc = .ok (.goto off, 3)) (ht : (pc : Int) + off = (tgt : Int)) (k : Z μ d Q tgt lv st w) : Z μ d Q pc lv st w := fun p l e s m args below meth c G cA ad hC hF hI H locs ls hP hS hl => lv_goto hC.1 hC.2.1 hd ht (k p l e s m args below meth c G cA ad hC hF hI H locs ls hP hS hl)
theorem iI_of {x : Int32} {v : Int} (h : x.toInt = v) : x = iI v := by
  rw [← iI_eq, ← h, Int32.ofInt_toInt]
theorem iI_ne {x : Int32} {v : Int} (h1 : -2147483648 ≤ v) (h2 : v < 2147483648) (h : ¬ x.toInt = v) : ¬ x = iI v := fun e => h (by rw [e]; exact iI_toInt h1 h2)
theorem sw_key {μ : MI} {d : Nat} {Q : Option Value → Wd → Prop} {pc : Nat} {lv : List (Nat × Value)} {st : List Value} {w : Wd} {x : Int32} {df : Int} : ∀ (l : List Int) (v : Int), -2147483648 ≤ v → v + (l.length : Int) ≤ 2147483648 → swc x df pc (fun t => Z μ d Q t lv st w) (tab v l) → (∃ (j : Nat) (off : Int) (tg : Nat), l[j]? = some off ∧ x.toInt = v + (j : Int) ∧ (pc : Int) + off = (tg : Int) ∧ Z μ d Q tg lv st w) ∨ ((∀ j : Nat, j < l.length → ¬ x.toInt = v + (j : Int)) ∧ ∃ tg : Nat, (pc : Int) + df = (tg : Int) ∧ Z μ d Q tg lv st w) := by
  intro l
  induction l with
  | nil =>
    intro v _ _ h
    obtain ⟨tg, a, b⟩ := jp_inv h
    exact Or.inr ⟨fun j hj => absurd hj (Nat.not_lt_zero j), tg, a, b⟩
  | cons a t ih =>
    intro v r1 r2 h
    obtain ⟨tg, hj, h1, h2⟩ := jp_inv h
    simp only [List.length_cons] at r2
    by_cases hx : x.toInt = v
    · exact Or.inl ⟨0, a, tg, rfl, by simpa using hx, hj, h1 (iI_of hx)⟩
    · rcases ih (v + 1) (by omega) (by omega) (h2 (iI_ne r1 (by omega) hx)) with ⟨j, off, tg2, q1, q2, q3, q4⟩ | ⟨q1, tg2, q3, q4⟩
      · exact Or.inl ⟨j + 1, off, tg2, by simpa using q1, by omega, q3, q4⟩
      · refine Or.inr ⟨fun j hj => ?_, tg2, q3, q4⟩
        cases j with
        | zero => simpa using hx
        | succ j =>
          have h9 := q1 j (by simpa using hj)
          omega
theorem z_table {μ : MI} {d : Nat} {Q : Option Value → Wd → Prop} {pc : Nat} {lv : List (Nat × Value)} {st : List Value} {w : Wd} {x : Int32} {df lo hi : Int} {os : Array Int} {len : Nat} (hd : decode (mB μ) pc = .ok (.tableswitch df lo hi os, len)) (h1 : lo + (os.size : Int) = hi + 1) (h2 : -2147483649 < lo) (h3 : hi < 2147483648) (h : swc x df pc (fun t => Z μ d Q t lv st w) (tab lo os.toList)) : Z μ d Q pc lv (.int x :: st) w := by
  have hl : (os.toList.length : Int) = (os.size : Int) := by rw [Array.length_toList]
  rcases sw_key os.toList lo (by omega) (by omega) h with ⟨j, off, tg, q1, q2, q3, q4⟩ | ⟨q1, tg, q3, q4⟩
  · have hj : j < os.toList.length := (List.getElem?_eq_some_iff.mp q1).1
    intro p l e s m args below meth c G cA ad hC hF hI H locs ls hP hS hl
    refine lv_tableIn (off := off) hC.1 hC.2.1 hd (by omega) (by omega) ?_ q3 (q4 p l e s m args below meth c G cA ad hC hF hI H locs ls hP hS hl)
    have e1 : (x.toInt - lo).toNat = j := by omega
    rw [e1, ← Array.getElem?_toList]
    exact q1
  · intro p l e s m args below meth c G cA ad hC hF hI H locs ls hP hS hl2
    refine lv_tableOut hC.1 hC.2.1 hd ?_ q3 (q4 p l e s m args below meth c G cA ad hC hF hI H locs ls hP hS hl2)
    by_cases hz : x.toInt < lo
    · exact Or.inl hz
    · refine Or.inr ?_
      by_cases hy : hi < x.toInt
      · exact hy
      · exact absurd (by omega) (q1 (x.toInt - lo).toNat (by omega))
theorem sl_key {μ : MI} {d : Nat} {Q : Option Value → Wd → Prop} {pc : Nat} {lv : List (Nat × Value)} {st : List Value} {w : Wd} {x : Int32} {df : Int} : ∀ (l : List (Int × Int)), (∀ q ∈ l, -2147483649 < q.1 ∧ q.1 < 2147483648) → swc x df pc (fun t => Z μ d Q t lv st w) l → ∃ tg : Nat, (pc : Int) + Op.lookupswitch.offset l df x.toInt = (tg : Int) ∧ Z μ d Q tg lv st w := by
  intro l
  induction l with
  | nil =>
    intro _ h
    obtain ⟨tg, a, b⟩ := jp_inv h
    exact ⟨tg, a, b⟩
  | cons a t ih =>
    intro r h
    obtain ⟨tg, hj, h1, h2⟩ := jp_inv h
    obtain ⟨k, off⟩ := a
    have hr := r (k, off) List.mem_cons_self
    dsimp only at hr h1 h2 hj
    by_cases hx : k = x.toInt
    · exact ⟨tg, by rw [Op.lookupswitch.offset_cons, if_pos hx]; exact hj, h1 (iI_of hx.symm)⟩
    · obtain ⟨t2, a1, a2⟩ := ih (fun q hq => r q (List.mem_cons_of_mem _ hq)) (h2 (iI_ne (by omega) hr.2 (fun e => hx e.symm)))
      exact ⟨t2, by rw [Op.lookupswitch.offset_cons, if_neg hx]; exact a1, a2⟩
theorem z_lookup {μ : MI} {d : Nat} {Q : Option Value → Wd → Prop} {pc : Nat} {lv : List (Nat × Value)} {st : List Value} {w : Wd} {x : Int32} {df : Int} {ps : Array (Int × Int)} {len : Nat} (hd : decode (mB μ) pc = .ok (.lookupswitch df ps, len)) (h1 : (ps.toList.zip (ps.toList.drop 1)).all (fun (a, next) => a.1 < next.1) = true) (h2 : ∀ q ∈ ps.toList, -2147483649 < q.1 ∧ q.1 < 2147483648) (h : swc x df pc (fun t => Z μ d Q t lv st w) ps.toList) : Z μ d Q pc lv (.int x :: st) w := by
  obtain ⟨tg, a1, a2⟩ := sl_key ps.toList h2 h
  intro p l e s m args below meth c G cA ad hC hF hI H locs ls hP hS hl
  exact lv_lookup hC.1 hC.2.1 hd h1 rfl a1 (a2 p l e s m args below meth c G cA ad hC hF hI H locs ls hP hS hl)
theorem swc_mono {x : Int32} {df : Int} {pc : Nat} {K K' : Nat → Prop} (hk : ∀ t, K t → K' t) : ∀ l : List (Int × Int), swc x df pc K l → swc x df pc K' l := by
  intro l
  induction l with
  | nil =>
    intro h
    obtain ⟨tg, a, b⟩ := jp_inv h
    unfold swc jp
    rw [a]
    exact hk _ b
  | cons a t ih =>
    intro h
    obtain ⟨tg, hj, h1, h2⟩ := jp_inv h
    unfold swc jp
    rw [hj]
    exact ⟨fun e => hk _ (h1 e), fun e => ih (h2 e)⟩
theorem z_get {μ : MI} {d : Nat} {Q : Option Value → Wd → Prop} {pc : Nat} {lv : List (Nat × Value)} {st : List Value} {w : Wd} {x a : Nat} {q : Nat × Nat} {v : Value} (ho : (mY μ).cls = clN.getD (mK μ) "") (hd : decode (mB μ) pc = .ok (.getfield x, 3)) (hx : tget (FR (mK μ)) x = some q) (hg : gv w a q.1 q.2 = some v) (k : Z μ d Q (pc + 3) lv (v :: st) w) : Z μ d Q pc lv (.ref a :: st) w := by
  intro p l e s m args below meth c G cA ad hC hF hI H locs ls hP hS hl
  obtain ⟨C, Tb, N, h1, h2, h3, h4⟩ := FR_ok _ _ (tget_mem hx)
  obtain ⟨fs, o, g1, g2, g3⟩ := gv_inv hg
  have he := wsl_at (ad := ad) (cA := cA) (w := w) g1
  refine va_get (D := G) (cl := vwCl) (C := C) (T := Tb) (N := N) (ci := q.1) (v := cv ad v) (fs := fs.mapIdx (fv ad w a)) hC.1 hC.2.1 hC.2.2.2.2.2.1 (fun z hz => in_ws (h4 z hz)) hC.2.2.2.2.1 hF.1 hP a he h1 q.2 h2 (hC.2.2.2.2.2.1 _ (in_ws (by rw [ho]; exact h3))) (fun _ h9 => h9) ?_ hd (k p l e s m args below meth c G cA ad hC hF hI H locs ls hP hS hl)
  rw [List.getElem?_mapIdx, g2, g3]
  rfl
theorem z_put {μ : MI} {d : Nat} {Q : Option Value → Wd → Prop} {pc : Nat} {lv : List (Nat × Value)} {st : List Value} {w : Wd} {x a : Nat} {q : Nat × Nat × Nat} {v : Int32} (ho : (mY μ).cls = clN.getD (mK μ) "") (hd : decode (mB μ) pc = .ok (.putfield x, 3)) (hx : tget (PR (mK μ)) x = some q) (hg : gp a q.1 q.2.1 = true) (hv : q.2.2 = 0 ∨ v = 0 ∨ v = 1) (k : Z μ d Q (pc + 3) lv st (up1 w a q.2.1 v)) : Z μ d Q pc lv (.int v :: .ref a :: st) w := by
  intro p l e s m args below meth c G cA ad hC hF hI H locs ls hP hS hl
  obtain ⟨C, Tb, N, ty0, h1, h2, h3, h4, h5, h6, h7, h8⟩ := PR_ok _ _ (tget_mem hx)
  obtain ⟨fs, g1, g2⟩ := gp_inv hg
  have he := wsl_at (ad := ad) (cA := cA) (w := w) g1
  have hD := wsl_D (cA := cA) (w := w) (sz := s.heap.size) hI
  have hfl : q.2.1 < fs.length := (List.getElem?_eq_some_iff.mp g2).1
  refine va_put (D := G) (cl := vwCl) (C := C) (T := Tb) (N := N) (ci := q.1) (v := .int v) (fs := fs.mapIdx (fv ad w a)) hC.1 hC.2.1 hC.2.2.2.2.2.1 (fun z hz => in_ws (h4 z hz)) ty0 h5 h6 hC.2.2.2.2.1 hF.1 hP hD hS a he h1 q.2.1 h2 (hC.2.2.2.2.2.1 _ (in_ws (by rw [ho]; exact h3))) (fun _ h9 => h9) h7 h8 ?_ ?_ (by simpa using hfl) hd (fun H1 locs1 hP1 hD1 hS1 => ?_)
  · rcases hv with hv | rfl | rfl
    · dsimp only at hv ⊢
      rw [if_pos hv]; rfl
    · dsimp only
      split <;> rfl
    · dsimp only
      split <;> rfl
  · rcases hv with hv | rfl | rfl
    · dsimp only at hv ⊢
      rw [if_pos hv]; rfl
    · dsimp only
      split <;> rfl
    · dsimp only
      split <;> rfl
  · have e9 : (wsl ad cA w).set a (ad a, .inr (q.1, (fs.mapIdx (fv ad w a)).set q.2.1 (.int v))) = wsl ad cA (up1 w a q.2.1 v) := wsl_set g1 (by rw [set_fld g2]; rfl) up1_off (fun _ _ => rfl)
    rw [e9] at hP1
    exact k p l e s m args below meth c G cA ad hC hF hI H1 locs1 ls hP1 hS1 hl
theorem nI_vp {j n : Nat} (h : j < n) (hn : n < 2 ^ 31) : vp_in (nI j) n ∧ (nI j).toNatClampNeg = j := ⟨vp_in_nI h hn, nI_clamp (by omega)⟩
theorem z_ret {μ : MI} {d : Nat} {Q : Option Value → Wd → Prop} {pc : Nat} {lv : List (Nat × Value)} {st : List Value} {w : Wd} {v : Int32} {ty : FieldType} (hd : decode (mB μ) pc = .ok (.ireturn, 1)) (hr : mR μ = some ty) (hn : narrow ty (.int v) = .int v) (h : Q (some (.int v)) w) : Z μ d Q pc lv [.int v] w := by
  intro p l e s m args below meth c G cA ad hC hF hI H locs ls hP hS hl
  have hlocks := hC.2.2.2.2.2.2
  exact W.zret (Qc := Qw G cA ad s.heap.size Q) hC.1 hC.2.1 (hC.2.2.1.trans hr) hn (fun t ht hW => ⟨⟨some (.int v), w, rfl, h, by rw [ht]; exact hP⟩, hS.F ht⟩) hS.2.2 hd
theorem z_lret {μ : MI} {d : Nat} {Q : Option Value → Wd → Prop} {pc : Nat} {lv : List (Nat × Value)} {st : List Value} {w : Wd} {v : Int64} (hd : decode (mB μ) pc = .ok (.lreturn, 1)) (hr : mR μ = some .long) (h : Q (some (.long v)) w) : Z μ d Q pc lv [.long v] w := by
  intro p l e s m args below meth c G cA ad hC hF hI H locs ls hP hS hl
  have hlocks := hC.2.2.2.2.2.2
  exact W.lret (Qc := Qw G cA ad s.heap.size Q) hC.1 hC.2.1 (hC.2.2.1.trans hr) (fun t ht hW => ⟨⟨some (.long v), w, rfl, h, by rw [ht]; exact hP⟩, hS.F ht⟩) hS.2.2 hd
theorem z_aret {μ : MI} {d : Nat} {Q : Option Value → Wd → Prop} {pc : Nat} {lv : List (Nat × Value)} {st : List Value} {w : Wd} {v : Nat} {n : String} (hd : decode (mB μ) pc = .ok (.areturn, 1)) (hr : mR μ = some (.object n)) (h : Q (some (.ref v)) w) : Z μ d Q pc lv [.ref v] w := by
  intro p l e s m args below meth c G cA ad hC hF hI H locs ls hP hS hl
  have hlocks := hC.2.2.2.2.2.2
  exact W.aret (Qc := Qw G cA ad s.heap.size Q) (v := .ref (ad v)) hC.1 hC.2.1 (hC.2.2.1.trans hr) (Or.inl ⟨n, rfl⟩) (Or.inr ⟨_, rfl⟩) (fun t ht hW => ⟨⟨some (.ref v), w, rfl, h, by rw [ht]; exact hP⟩, hS.F ht⟩) hS.2.2 hd
theorem z_vret {μ : MI} {d : Nat} {Q : Option Value → Wd → Prop} {pc : Nat} {lv : List (Nat × Value)} {st : List Value} {w : Wd} (hd : decode (mB μ) pc = .ok (.return_, 1)) (hr : mR μ = none) (h : Q none w) : Z μ d Q pc lv [] w := by
  intro p l e s m args below meth c G cA ad hC hF hI H locs ls hP hS hl
  have hlocks := hC.2.2.2.2.2.2
  exact W.vret (Qc := Qw G cA ad s.heap.size Q) hC.1 hC.2.1 (hC.2.2.1.trans hr) (fun t ht hW => ⟨⟨none, w, rfl, h, by rw [ht]; exact hP⟩, hS.F ht⟩) hS.2.2 hd
theorem z_iaload {μ : MI} {d : Nat} {Q : Option Value → Wd → Prop} {pc : Nat} {lv : List (Nat × Value)} {st : List Value} {w : Wd} {i : Int32} {a n j : Nat} (hd : decode (mB μ) pc = .ok (.iaload, 1)) (hg : ga a = some (.int, n)) (hi : i = nI j) (hj : j < n) (k : Z μ d Q (pc + 1) lv (.int (w.1 a j) :: st) w) : Z μ d Q pc lv (.int i :: .ref a :: st) w := by
  subst hi
  intro p l e s m args below meth c G cA ad hC hF hI H locs ls hP hS hl
  obtain ⟨g1, g2⟩ := ga_inv hg
  obtain ⟨v1, v2⟩ := nI_vp hj g2
  have he : (wsl ad cA w)[a]? = some (ad a, .inl (cA .int, n, .inl (w.1 a))) := wsl_at g1
  refine va_iald (D := G) (cl := vwCl) hC.1 hC.2.1 hF.1 hP a 0 he rfl v1 hd ?_
  rw [v2]
  exact k p l e s m args below meth c G cA ad hC hF hI H locs ls hP hS hl
theorem z_iastore {μ : MI} {d : Nat} {Q : Option Value → Wd → Prop} {pc : Nat} {lv : List (Nat × Value)} {st : List Value} {w : Wd} {i : Int32} {v : Int32} {a n j : Nat} (hd : decode (mB μ) pc = .ok (.iastore, 1)) (hg : ga a = some (.int, n)) (hi : i = nI j) (hj : j < n) (k : Z μ d Q (pc + 1) lv st (up1 w a j v)) : Z μ d Q pc lv (.int v :: .int i :: .ref a :: st) w := by
  subst hi
  intro p l e s m args below meth c G cA ad hC hF hI H locs ls hP hS hl
  obtain ⟨g1, g2⟩ := ga_inv hg
  obtain ⟨v1, v2⟩ := nI_vp hj g2
  have he : (wsl ad cA w)[a]? = some (ad a, .inl (cA .int, n, .inl (w.1 a))) := wsl_at g1
  have hD := wsl_D (cA := cA) (w := w) (sz := s.heap.size) hI
  refine va_iast (D := G) (cl := vwCl) hC.1 hC.2.1 hF.1 hP hD hS a 0 he rfl v1 hd (fun H1 locs1 hP1 hD1 hS1 => ?_)
  rw [v2] at hP1
  have e9 : (wsl ad cA w).set a (ad a, .inl (cA .int, n, .inl (upd (w.1 a) j v))) = wsl ad cA (up1 w a j v) := wsl_set g1 (by simp only [cont, up1_on]) up1_off (fun _ _ => rfl)
  rw [e9] at hP1
  exact k p l e s m args below meth c G cA ad hC hF hI H1 locs1 ls hP1 hS1 hl
theorem z_baload {μ : MI} {d : Nat} {Q : Option Value → Wd → Prop} {pc : Nat} {lv : List (Nat × Value)} {st : List Value} {w : Wd} {i : Int32} {a n j : Nat} (hd : decode (mB μ) pc = .ok (.baload, 1)) (hg : ga a = some (.boolean, n)) (hi : i = nI j) (hj : j < n) (k : Z μ d Q (pc + 1) lv (.int (w.1 a j) :: st) w) : Z μ d Q pc lv (.int i :: .ref a :: st) w := by
  subst hi
  intro p l e s m args below meth c G cA ad hC hF hI H locs ls hP hS hl
  obtain ⟨g1, g2⟩ := ga_inv hg
  obtain ⟨v1, v2⟩ := nI_vp hj g2
  have he : (wsl ad cA w)[a]? = some (ad a, .inl (cA .boolean, n, .inl (w.1 a))) := wsl_at g1
  refine va_zald (D := G) (cl := vwCl) hC.1 hC.2.1 hF.1 hP a 1 he rfl v1 hd ?_
  rw [v2]
  exact k p l e s m args below meth c G cA ad hC hF hI H locs ls hP hS hl
theorem z_bastore {μ : MI} {d : Nat} {Q : Option Value → Wd → Prop} {pc : Nat} {lv : List (Nat × Value)} {st : List Value} {w : Wd} {i : Int32} {v : Int32} {a n j : Nat} (hd : decode (mB μ) pc = .ok (.bastore, 1)) (hg : ga a = some (.boolean, n)) (hi : i = nI j) (hj : j < n) (hv : v = 0 ∨ v = 1) (k : Z μ d Q (pc + 1) lv st (up1 w a j v)) : Z μ d Q pc lv (.int v :: .int i :: .ref a :: st) w := by
  subst hi
  intro p l e s m args below meth c G cA ad hC hF hI H locs ls hP hS hl
  obtain ⟨g1, g2⟩ := ga_inv hg
  obtain ⟨v1, v2⟩ := nI_vp hj g2
  have he : (wsl ad cA w)[a]? = some (ad a, .inl (cA .boolean, n, .inl (w.1 a))) := wsl_at g1
  have hD := wsl_D (cA := cA) (w := w) (sz := s.heap.size) hI
  have hn : vp_nar .boolean v = v := by rcases hv with rfl | rfl <;> rfl
  refine va_zast (D := G) (cl := vwCl) hC.1 hC.2.1 hF.1 hP hD hS a 1 he rfl v1 hd (fun H1 locs1 hP1 hD1 hS1 => ?_)
  rw [v2, hn] at hP1
  have e9 : (wsl ad cA w).set a (ad a, .inl (cA .boolean, n, .inl (upd (w.1 a) j v))) = wsl ad cA (up1 w a j v) := wsl_set g1 (by simp only [cont, up1_on]) up1_off (fun _ _ => rfl)
  rw [e9] at hP1
  exact k p l e s m args below meth c G cA ad hC hF hI H1 locs1 ls hP1 hS1 hl
theorem z_caload {μ : MI} {d : Nat} {Q : Option Value → Wd → Prop} {pc : Nat} {lv : List (Nat × Value)} {st : List Value} {w : Wd} {i : Int32} {a n j : Nat} (hd : decode (mB μ) pc = .ok (.caload, 1)) (hg : ga a = some (.char, n)) (hi : i = nI j) (hj : j < n) (k : Z μ d Q (pc + 1) lv (.int (w.1 a j) :: st) w) : Z μ d Q pc lv (.int i :: .ref a :: st) w := by
  subst hi
  intro p l e s m args below meth c G cA ad hC hF hI H locs ls hP hS hl
  obtain ⟨g1, g2⟩ := ga_inv hg
  obtain ⟨v1, v2⟩ := nI_vp hj g2
  have he : (wsl ad cA w)[a]? = some (ad a, .inl (cA .char, n, .inl (w.1 a))) := wsl_at g1
  refine va_cald (D := G) (cl := vwCl) hC.1 hC.2.1 hF.1 hP a 2 he rfl v1 hd ?_
  rw [v2]
  exact k p l e s m args below meth c G cA ad hC hF hI H locs ls hP hS hl
theorem z_castore {μ : MI} {d : Nat} {Q : Option Value → Wd → Prop} {pc : Nat} {lv : List (Nat × Value)} {st : List Value} {w : Wd} {i : Int32} {v : Int32} {a n j : Nat} (hd : decode (mB μ) pc = .ok (.castore, 1)) (hg : ga a = some (.char, n)) (hi : i = nI j) (hj : j < n) (hv : ∃ j : Nat, j < 65536 ∧ v = nI j) (k : Z μ d Q (pc + 1) lv st (up1 w a j v)) : Z μ d Q pc lv (.int v :: .int i :: .ref a :: st) w := by
  subst hi
  intro p l e s m args below meth c G cA ad hC hF hI H locs ls hP hS hl
  obtain ⟨g1, g2⟩ := ga_inv hg
  obtain ⟨v1, v2⟩ := nI_vp hj g2
  have he : (wsl ad cA w)[a]? = some (ad a, .inl (cA .char, n, .inl (w.1 a))) := wsl_at g1
  have hD := wsl_D (cA := cA) (w := w) (sz := s.heap.size) hI
  have hn : vp_nar .char v = v := by
    obtain ⟨z, hz, rfl⟩ := hv
    have h9 := (pk_charN hz).1
    unfold vp_nar
    rw [h9]
  refine va_cast (D := G) (cl := vwCl) hC.1 hC.2.1 hF.1 hP hD hS a 2 he rfl v1 hd (fun H1 locs1 hP1 hD1 hS1 => ?_)
  rw [v2, hn] at hP1
  have e9 : (wsl ad cA w).set a (ad a, .inl (cA .char, n, .inl (upd (w.1 a) j v))) = wsl ad cA (up1 w a j v) := wsl_set g1 (by simp only [cont, up1_on]) up1_off (fun _ _ => rfl)
  rw [e9] at hP1
  exact k p l e s m args below meth c G cA ad hC hF hI H1 locs1 ls hP1 hS1 hl
theorem z_laload {μ : MI} {d : Nat} {Q : Option Value → Wd → Prop} {pc : Nat} {lv : List (Nat × Value)} {st : List Value} {w : Wd} {i : Int32} {a n j : Nat} (hd : decode (mB μ) pc = .ok (.laload, 1)) (hg : ga a = some (.long, n)) (hi : i = nI j) (hj : j < n) (k : Z μ d Q (pc + 1) lv (.long (w.2 a j) :: st) w) : Z μ d Q pc lv (.int i :: .ref a :: st) w := by
  subst hi
  intro p l e s m args below meth c G cA ad hC hF hI H locs ls hP hS hl
  obtain ⟨g1, g2⟩ := ga_inv hg
  obtain ⟨v1, v2⟩ := nI_vp hj g2
  have he : (wsl ad cA w)[a]? = some (ad a, .inl (cA .long, n, .inr (.inl (w.2 a)))) := wsl_at g1
  refine va_lald (D := G) (cl := vwCl) hC.1 hC.2.1 hF.1 hP a 3 he rfl v1 hd ?_
  rw [v2]
  exact k p l e s m args below meth c G cA ad hC hF hI H locs ls hP hS hl
theorem z_lastore {μ : MI} {d : Nat} {Q : Option Value → Wd → Prop} {pc : Nat} {lv : List (Nat × Value)} {st : List Value} {w : Wd} {i : Int32} {v : Int64} {a n j : Nat} (hd : decode (mB μ) pc = .ok (.lastore, 1)) (hg : ga a = some (.long, n)) (hi : i = nI j) (hj : j < n) (k : Z μ d Q (pc + 1) lv st (up2 w a j v)) : Z μ d Q pc lv (.long v :: .int i :: .ref a :: st) w := by
  subst hi
  intro p l e s m args below meth c G cA ad hC hF hI H locs ls hP hS hl
  obtain ⟨g1, g2⟩ := ga_inv hg
  obtain ⟨v1, v2⟩ := nI_vp hj g2
  have he : (wsl ad cA w)[a]? = some (ad a, .inl (cA .long, n, .inr (.inl (w.2 a)))) := wsl_at g1
  have hD := wsl_D (cA := cA) (w := w) (sz := s.heap.size) hI
  refine va_last (D := G) (cl := vwCl) hC.1 hC.2.1 hF.1 hP hD hS a 3 he rfl v1 hd (fun H1 locs1 hP1 hD1 hS1 => ?_)
  rw [v2] at hP1
  have e9 : (wsl ad cA w).set a (ad a, .inl (cA .long, n, .inr (.inl (vp_updL (w.2 a) j v)))) = wsl ad cA (up2 w a j v) := wsl_set g1 (by simp only [cont, up2_on]) (fun _ _ => rfl) up2_off
  rw [e9] at hP1
  exact k p l e s m args below meth c G cA ad hC hF hI H1 locs1 ls hP1 hS1 hl
theorem z_alen {μ : MI} {d : Nat} {Q : Option Value → Wd → Prop} {pc : Nat} {lv : List (Nat × Value)} {st : List Value} {w : Wd} {a : Nat} {q : FieldType × Nat} (hd : decode (mB μ) pc = .ok (.arraylength, 1)) (hg : ga a = some q) (hq : q.1 = .int ∨ q.1 = .boolean ∨ q.1 = .char ∨ q.1 = .long) (k : Z μ d Q (pc + 1) lv (.int (nI q.2) :: st) w) : Z μ d Q pc lv (.ref a :: st) w := by
  intro p l e s m args below meth c G cA ad hC hF hI H locs ls hP hS hl
  obtain ⟨g1, g2⟩ := ga_inv hg
  obtain ⟨ty, n⟩ := q
  have he := wsl_at (ad := ad) (cA := cA) (w := w) g1
  rcases hq with hq | hq | hq | hq <;> cases hq
  · exact va_alen (D := G) (cl := vwCl) hC.1 hC.2.1 hF.1 hP a 0 he rfl rfl hd (k p l e s m args below meth c G cA ad hC hF hI H locs ls hP hS hl)
  · exact va_alen (D := G) (cl := vwCl) hC.1 hC.2.1 hF.1 hP a 1 he rfl rfl hd (k p l e s m args below meth c G cA ad hC hF hI H locs ls hP hS hl)
  · exact va_alen (D := G) (cl := vwCl) hC.1 hC.2.1 hF.1 hP a 2 he rfl rfl hd (k p l e s m args below meth c G cA ad hC hF hI H locs ls hP hS hl)
  · exact va_alen (D := G) (cl := vwCl) hC.1 hC.2.1 hF.1 hP a 3 he rfl rfl hd (k p l e s m args below meth c G cA ad hC hF hI H locs ls hP hS hl)
theorem shp_tys : (shp.all fun x => match x with | .inr (.int, _) => true | .inr (.boolean, _) => true | .inr (.char, _) => true | .inr (.long, _) => true | .inr _ => false | _ => true) = true := by decide +kernel
theorem shp_ty {a : Nat} {q : FieldType × Nat} (h : ga a = some q) : q.1 = .int ∨ q.1 = .boolean ∨ q.1 = .char ∨ q.1 = .long := by
  obtain ⟨h1, -⟩ := ga_inv h
  have h3 := List.all_eq_true.mp shp_tys _ (List.mem_of_getElem? h1)
  obtain ⟨ty, n⟩ := q
  cases ty <;> first | exact Or.inl rfl | exact Or.inr (Or.inl rfl) | exact Or.inr (Or.inr (Or.inl rfl)) | exact Or.inr (Or.inr (Or.inr rfl)) | (cases h3)
theorem cl_name {k : Nat} {q : vw_C} (h : vwCl[k]? = some q) : q.1 = clN.getD k "" := by
  match k, h with
  | 0, h => cases h; rfl
  | 1, h => cases h; rfl
  | 2, h => cases h; rfl
  | 3, h => cases h; rfl
  | 4, h => cases h; rfl
  | 5, h => cases h; rfl
  | 6, h => cases h; rfl
  | 7, h => cases h; rfl
  | 8, h => cases h; rfl
  | 9, h => cases h; rfl
  | 10, h => cases h; rfl
  | 11, h => cases h; rfl
  | 12, h => cases h; rfl
  | k + 13, h => simp [vwCl] at h
theorem stW_le {st : List Value} (ad : Nat → Nat) (h : stW st = true) : ((st.map (cv ad)).map fun v => v.category).sum ≤ 8 := by
  have h9 := Nat.le_of_ble_eq_true h
  rw [List.map_map, show ((fun v : Value => v.category) ∘ cv ad) = (fun v => v.category) from funext (cv_cat ad)]
  exact h9
theorem z_copy {μ : MI} {d : Nat} {Q : Option Value → Wd → Prop} {pc : Nat} {lv : List (Nat × Value)} {st : List Value} {w : Wd} {x a b n0 n1 j0 j1 k : Nat} (ho : (mY μ).cls = clN.getD (mK μ) "") {i : Nat} (hd : decode (mB μ) pc = .ok (.invokestatic x, 3)) (hx : tget (MR (mK μ)) x = some (i, 3)) (ha : ga a = some (.int, n0)) (hb : ga b = some (.int, n1)) (h4 : j0 + k ≤ n0) (h5 : j1 + k ≤ n1) (hd0 : 0 < d) (hst : stW st = true) (kk : Z μ d Q (pc + 3) lv st (upA w b (va_cpy (w.1 a) (w.1 b) j0 j1 k))) : Z μ d Q pc lv (.int (nI k) :: .int (nI j1) :: .ref b :: .int (nI j0) :: .ref a :: st) w := by
  intro p l e s m args below meth c G cA ad hC hF hI H locs ls hP hS hl
  obtain ⟨g1, g2⟩ := ga_inv ha
  obtain ⟨g3, g4⟩ := ga_inv hb
  have hea : (wsl ad cA w)[a]? = some (ad a, .inl (cA .int, n0, .inl (w.1 a))) := wsl_at g1
  have heb : (wsl ad cA w)[b]? = some (ad b, .inl (cA .int, n1, .inl (w.1 b))) := wsl_at g3
  have hD := wsl_D (cA := cA) (w := w) (sz := s.heap.size) hI
  have hlk : Cond.methodLink (clN.getD (mK μ) "") x arraycopyName ∈ TT := MR_ok _ _ (tget_mem hx)
  have hts := hC.2.2.2.2.2.1
  dsimp only at g2 g4
  have c0 : (nI j0).toNatClampNeg = j0 := nI_clamp (by omega)
  have c1 : (nI j1).toNatClampNeg = j1 := nI_clamp (by omega)
  have c2 : (nI k).toNatClampNeg = k := nI_clamp (by omega)
  have hw := stW_le ad hst
  refine va_copyi (D := G) (cl := vwCl) (ty := .int) hC.1 hC.2.1 (hC.2.2.2.1.trans hl.1.symm) hC.2.2.2.2.1 (hts _ (in_ws (by rw [ho]; exact hlk))) (hts _ (in_ws tt_ac_n)) (hts _ (in_ws tt_ac_s)) (hts _ (in_ws tt_sys)) hF.1 hP hD hS a b 0 0 hea heb rfl rfl rfl (nI_pos (by omega)) (nI_pos (by omega)) (nI_pos (by omega)) (by rw [c0, c2]; exact h4) (by rw [c1, c2]; exact h5) (fun _ _ => rfl) (show 1 ≤ (rmD d).frames from hd0) ?_ hd (fun H1 locs1 hP1 hD1 hS1 => ?_)
  · have e1 : nativeFrameWords "java/lang/System" "arraycopy" 5 = 7 := by decide +kernel
    rw [e1]
    show _ ≤ 40 * d
    omega
  · rw [c0, c1, c2] at hP1
    have e9 : (wsl ad cA w).set b (ad b, .inl (cA .int, n1, .inl (va_cpy (w.1 a) (w.1 b) j0 j1 k))) = wsl ad cA (upA w b (va_cpy (w.1 a) (w.1 b) j0 j1 k)) := wsl_set g3 (by simp [cont, upA]) (fun z hz => by funext j; simp [upA, hz]) (fun _ _ => rfl)
    rw [e9] at hP1
    exact kk p l e s m args below meth c G cA ad hC hF hI H1 locs1 ls hP1 hS1 hl
theorem z_min {μ : MI} {d : Nat} {Q : Option Value → Wd → Prop} {pc : Nat} {lv : List (Nat × Value)} {st : List Value} {w : Wd} {x i : Nat} {u v : Int32} (ho : (mY μ).cls = clN.getD (mK μ) "") (hd : decode (mB μ) pc = .ok (.invokestatic x, 3)) (hx : tget (MR (mK μ)) x = some (i, 5)) (hd0 : 0 < d) (hst : stW st = true) (kk : Z μ d Q (pc + 3) lv (.int (if v < u then v else u) :: st) w) : Z μ d Q pc lv (.int v :: .int u :: st) w := by
  intro p l e s m args below meth c G cA ad hC hF hI H locs ls hP hS hl
  have hlk : Cond.methodLink (clN.getD (mK μ) "") x Lib.Math.min.name ∈ TT := MR_ok _ _ (tget_mem hx)
  have hts := hC.2.2.2.2.2.1
  have hw := stW_le ad hst
  exact va_mmin hC.1 hC.2.1 (hC.2.2.2.1.trans hl.1.symm) hC.2.2.2.2.1 (hts _ (in_ws (by rw [ho]; exact hlk))) (hts _ (in_ws tt_min_s)) (hts _ (in_ws tt_math)) (hts _ (in_ws tt_min_c)) (show 1 ≤ (rmD d).frames from hd0) (by show _ ≤ 40 * d; omega) (Nat.zero_le _) (Nat.zero_le _) hd (kk p l e s m args below meth c G cA ad hC hF hI H locs ls hP hS hl)
theorem z_max {μ : MI} {d : Nat} {Q : Option Value → Wd → Prop} {pc : Nat} {lv : List (Nat × Value)} {st : List Value} {w : Wd} {x i : Nat} {u v : Int32} (ho : (mY μ).cls = clN.getD (mK μ) "") (hd : decode (mB μ) pc = .ok (.invokestatic x, 3)) (hx : tget (MR (mK μ)) x = some (i, 6)) (hd0 : 0 < d) (hst : stW st = true) (kk : Z μ d Q (pc + 3) lv (.int (if u < v then v else u) :: st) w) : Z μ d Q pc lv (.int v :: .int u :: st) w := by
  intro p l e s m args below meth c G cA ad hC hF hI H locs ls hP hS hl
  have hlk : Cond.methodLink (clN.getD (mK μ) "") x Lib.Math.max.name ∈ TT := MR_ok _ _ (tget_mem hx)
  have hts := hC.2.2.2.2.2.1
  have hw := stW_le ad hst
  exact va_mmax hC.1 hC.2.1 (hC.2.2.2.1.trans hl.1.symm) hC.2.2.2.2.1 (hts _ (in_ws (by rw [ho]; exact hlk))) (hts _ (in_ws tt_max_s)) (hts _ (in_ws tt_math)) (hts _ (in_ws tt_max_c)) (show 1 ≤ (rmD d).frames from hd0) (by show _ ≤ 40 * d; omega) (Nat.zero_le _) (Nat.zero_le _) hd (kk p l e s m args below meth c G cA ad hC hF hI H locs ls hP hS hl)
theorem z_abs {μ : MI} {d : Nat} {Q : Option Value → Wd → Prop} {pc : Nat} {lv : List (Nat × Value)} {st : List Value} {w : Wd} {x i : Nat} {u : Int32} (ho : (mY μ).cls = clN.getD (mK μ) "") (hd : decode (mB μ) pc = .ok (.invokestatic x, 3)) (hx : tget (MR (mK μ)) x = some (i, 7)) (hd0 : 0 < d) (hst : stW st = true) (kk : Z μ d Q (pc + 3) lv (.int (if 0 ≤ u then u else 0 - u) :: st) w) : Z μ d Q pc lv (.int u :: st) w := by
  intro p l e s m args below meth c G cA ad hC hF hI H locs ls hP hS hl
  have hlk : Cond.methodLink (clN.getD (mK μ) "") x Lib.Math.abs.name ∈ TT := MR_ok _ _ (tget_mem hx)
  have hts := hC.2.2.2.2.2.1
  have hw := stW_le ad hst
  exact va_mabs hC.1 hC.2.1 (hC.2.2.2.1.trans hl.1.symm) hC.2.2.2.2.1 (hts _ (in_ws (by rw [ho]; exact hlk))) (hts _ (in_ws tt_abs_s)) (hts _ (in_ws tt_math)) (hts _ (in_ws tt_abs_c)) (show 1 ≤ (rmD d).frames from hd0) (by show _ ≤ 40 * d; omega) (Nat.zero_le _) (Nat.zero_le _) hd (kk p l e s m args below meth c G cA ad hC hF hI H locs ls hP hS hl)
/-- behind a call -/
theorem z_back {μ : MI} {d : Nat} {Q : Option Value → Wd → Prop} {pc : Nat} {lv : List (Nat × Value)} {st : List Value} {w : Wd} {as : List Value} {Q' : Option Value → Wd → Prop} {st0 : List Value}
    (hr : ∀ (p : Program) (l : Launch) (e : Env) (s : State) (m : MethodId) (args : Array Value) (below : List Frame) (meth : Method) (c : Code) (G : va_G) (cA : FieldType → ClassId) (ad : Nat → Nat), Cx μ p s m args meth c → Fx G cA ad s.heap.size s → Inj ad → ∀ (H : Heap) (locs : List Loc) (ls : Array Slot), va_P G vwCl (wsl ad cA w) H → va_S (AA ad s.heap.size) s.heap H locs → lv_has ls (mL μ) (lvc ad lv) →
      va_Run p l e (rmD d) s m args below meth c H locs 0 0 0 0 (F0 m pc ls (st0.map (cv ad))) (st.map (cv ad)) (Qw G cA ad H.size Q' (as.map (cv ad)).toArray) (AA ad H.size))
    (kk : ∀ (r : Option Value) (w' : Wd), Q' r w' → Z μ d Q (pc + 3) lv (r.toList ++ st) w') : Z μ d Q pc lv st0 w := by
  intro p l e s m args below meth c G cA ad hC hF hI H locs ls hP hS hl T hT X
  obtain ⟨v, st₀, t, T', L, h0, X', hL, e1, e2, ⟨⟨r, w', hv, hq, hP'⟩, hz, hk⟩, sg⟩ := hr p l e s m args below meth c G cA ad hC hF hI H locs ls hP hS hl T hT X
  have hv' : v = r.map (cv ad) := by cases hv; rfl
  subst hv'
  rw [h0] at hz hk
  have hn : ∀ q, AA ad H.size q → AA ad s.heap.size q := fun q hq => hq.elim Or.inl (fun z => Or.inr (Nat.le_trans hS.1 z))
  have hS' : va_S (AA ad s.heap.size) s.heap T'.heap (locs ++ L) := ⟨Nat.le_trans hS.1 (by rw [e1]; exact hz), fun q h1 h2 => by rw [e1, hk q (Nat.lt_of_lt_of_le h1 hS.1) (fun z => h2 (hn q z))]; exact hS.2.1 q h1 h2, fun q hq => by
      rcases List.mem_append.mp hq with h | h
      · exact hS.2.2 q h
      · exact hn _ (hL q h)⟩
  have hst : (r.map (cv ad)).toList ++ st.map (cv ad) = (r.toList ++ st).map (cv ad) := by cases r <;> rfl
  obtain ⟨t2, a1, b1⟩ := kk r w' hq p l e s m args below meth c G cA ad hC hF hI T'.heap (locs ++ L) ls (by rw [e1]; exact hP') hS' hl T' rfl X'
  rw [← hst] at a1
  exact ⟨t2, sg t2 a1, b1⟩
theorem Pw_blind {G : va_G} {cA : FieldType → ClassId} {ad : Nat → Nat} {sz : Nat} {as : List Value} {w : Wd} : FrameBlind (Pw G cA ad sz as w) := fun a U g mk h => by
  obtain ⟨h1, h2, h3, h4, h5⟩ := h
  exact ⟨h1, h2, h3, h4.calling g mk a, h5⟩
theorem good_ws {μ μ' : MI} (h : Cond.code (mY μ') (mB μ') (mL μ') (mR μ') ∈ TT) : GoodIn (wsM μ) (wsM μ') := by
  intro z hz
  rcases List.mem_cons.mp hz with e | hz
  · subst e
    exact ⟨in_ws h, tt_good h⟩
  · exact ⟨in_ws hz, tt_good hz⟩
theorem rm_fit {d L : Nat} (h : L ≤ 21) : (rmD d).frames + 1 ≤ (rmD (d + 1)).frames ∧ 8 + (L + 11) + (rmD d).locals ≤ (rmD (d + 1)).locals := by
  refine ⟨Nat.le_refl _, ?_⟩
  show 8 + (L + 11) + 40 * d ≤ 40 * (d + 1)
  omega
theorem cw_V {μ μ' : MI} {d x n : Nat} {s : State} {args : Array Value} (ho : (mY μ).cls = clN.getD (mK μ) "") (hts : ∀ w ∈ wsM μ, w.before args s = true) (hlk : Cond.methodLink (clN.getD (mK μ) "") x (mY μ') ∈ TT) (hM : MOK (μ', n, false)) : CallW (rmD (d + 1)) s args (mY μ).cls (mY μ').cls x (mY μ') (mB μ') (mL μ') (mR μ') (wsM μ') (rmD d) 0 0 n := by
  obtain ⟨m1, m2, m3, m4, m5, m67, m8, m9, m10⟩ := hM
  dsimp only at m1 m2 m3 m4 m5 m67 m8 m9 m10
  rw [if_neg (by decide)] at m67
  obtain ⟨m6, m7⟩ := m67
  refine cwV (Ts := wsM μ) n hts ?_ rfl rfl rfl ⟨rfl, m3, m4, m5⟩ (rm_fit m9)
  intro z hz
  rcases List.mem_append.mp hz with hz | hz
  · simp only [List.mem_cons, List.not_mem_nil, or_false] at hz
    rcases hz with e | e | e | e <;> subst e
    · rw [ho]; exact ⟨in_ws hlk, tt_good hlk⟩
    · exact ⟨in_ws m6, tt_good m6⟩
    · exact ⟨in_ws m7, tt_good m7⟩
    · exact ⟨in_ws m2, tt_good m2⟩
  · exact good_ws m1 z hz
theorem z_callV {μ : MI} {d : Nat} {Q : Option Value → Wd → Prop} {pc : Nat} {lv : List (Nat × Value)} {st : List Value} {w : Wd} {x b i n : Nat} {μ' : MI} {as : List Value} {Q' : Option Value → Wd → Prop} (ho : (mY μ).cls = clN.getD (mK μ) "") (hd : decode (mB μ) pc = .ok (.invokevirtual x, 3)) (hx : tget (MR (mK μ)) x = some (i, 0)) (hm : MT[i]? = some (μ', n, false)) (has : as.length = n) (hc : isC b (mK μ') = true) (hst : stW st = true) (hE : Ev μ' d (.ref b :: as) w Q')
    (kk : ∀ (r : Option Value) (w' : Wd), Q' r w' → Z μ (d + 1) Q (pc + 3) lv (r.toList ++ st) w') : Z μ (d + 1) Q pc lv (as.reverse ++ .ref b :: st) w := by
  refine z_back (as := .ref b :: as) (Q' := Q') ?_ kk
  intro p l e s m args below meth c G cA ad hC hF hI H locs ls hP hS hl
  have hM := MT_ok _ (List.mem_of_getElem? hm)
  obtain ⟨y, hy, hlk⟩ := MR_ok _ _ (tget_mem hx)
  cases hm.symm.trans hy
  obtain ⟨fs, g1⟩ := isC_inv hc
  have he : (wsl ad cA w)[b]? = some (ad b, .inr (mK μ', fs.mapIdx (fv ad w b))) := wsl_at g1
  obtain ⟨r0, h1, -⟩ := id (hP b _ he)
  have hq1 : r0.1 = (mY μ').cls := (cl_name h1).trans hM.2.2.2.2.2.2.2.2.symm
  refine va_runV (As := as.map (cv ad)) (b := ad b) (n := n) (nL := mL μ) (Ts := wsM μ) ⟨hC.1, hC.2.1, hC.2.2.2.1, hC.2.2.2.2.1, hC.2.2.2.2.2.1⟩ (hE l G cA ad H.size) (cw_V ho hC.2.2.2.2.2.1 hlk hM) ⟨Pw_blind, ?_, fun U hU hW => ⟨rfl, by rw [hU], by rw [hU]; exact hP, hF.go hS hU hW, hI⟩⟩ rfl (by simpa using has) hl.1 (by simp [List.map_reverse, cv]) (lv_room (stW_le ad hst)) hd ⟨Nat.zero_le _, Nat.zero_le _⟩
  rw [← hq1]
  exact va_recv hF.1 hP h1 he
theorem z_callS {μ : MI} {d : Nat} {Q : Option Value → Wd → Prop} {pc : Nat} {lv : List (Nat × Value)} {st : List Value} {w : Wd} {x i n kd : Nat} {μ' : MI} {as : List Value} {Q' : Option Value → Wd → Prop} (ho : (mY μ).cls = clN.getD (mK μ) "") (hd : decode (mB μ) pc = .ok (.invokestatic x, 3)) (hx : tget (MR (mK μ)) x = some (i, kd)) (hkd : kd = 1 ∨ kd = 2) (hm : MT[i]? = some (μ', n, true)) (has : as.length = n) (hst : stW st = true) (hE : Ev μ' d as w Q')
    (kk : ∀ (r : Option Value) (w' : Wd), Q' r w' → Z μ (d + 1) Q (pc + 3) lv (r.toList ++ st) w') : Z μ (d + 1) Q pc lv (as.reverse ++ st) w := by
  refine z_back (as := as) (Q' := Q') ?_ kk
  intro p l e s m args below meth c G cA ad hC hF hI H locs ls hP hS hl
  obtain ⟨m1, m2, m3, m4, m5, m6, m8, m9, m10⟩ := MT_ok _ (List.mem_of_getElem? hm)
  dsimp only at m1 m2 m3 m4 m5 m6 m8 m9 m10
  rw [if_pos rfl] at m6
  rcases hkd with rfl | rfl
  · obtain ⟨y, hy, hlk⟩ := MR_ok _ _ (tget_mem hx)
    cases hm.symm.trans hy
    have hcw : CallB (rmD (d + 1)) s args (mY μ).cls x (mY μ') (mB μ') (mL μ') (mR μ') (wsM μ') (rmD d) 0 0 n ∧ (Cond.static (mY μ')).before args s = true := by
      refine va_cwS (Ts := wsM μ) n hC.2.2.2.2.2.1 ?_ rfl rfl rfl ⟨m3, m4, m5⟩ (rm_fit m9)
      intro z hz
      rcases List.mem_append.mp hz with hz | hz
      · simp only [List.mem_cons, List.not_mem_nil, or_false] at hz
        rcases hz with e | e | e <;> subst e
        · rw [ho]; exact ⟨in_ws hlk, tt_good hlk⟩
        · exact ⟨in_ws m6, tt_good m6⟩
        · exact ⟨in_ws m2, tt_good m2⟩
      · exact good_ws m1 z hz
    exact va_runS (As := as.map (cv ad)) (n := n) (nL := mL μ) (Ts := wsM μ) ⟨hC.1, hC.2.1, hC.2.2.2.1, hC.2.2.2.2.1, hC.2.2.2.2.2.1⟩ (hE l G cA ad H.size) hcw ⟨Pw_blind, fun U hU hW => ⟨rfl, by rw [hU], by rw [hU]; exact hP, hF.go hS hU hW, hI⟩⟩ rfl (by simpa using has) hl.1 (by simp [List.map_reverse]) (lv_room (stW_le ad hst)) hd ⟨Nat.zero_le _, Nat.zero_le _⟩
  · obtain ⟨y, hy, host, hlk⟩ := MR_ok _ _ (tget_mem hx)
    cases hm.symm.trans hy
    have hN := hF.2.1 _ hlk
    dsimp only at hN
    rw [← ho] at hN
    have hcw : va_CN (rmD (d + 1)) s args (mY μ).cls x (mY μ') host (mB μ') (mL μ') (mR μ') (wsM μ') (rmD d) 0 0 n := va_cnB (Ts := wsM μ) n hC.2.2.2.2.2.1 (good_ws m1) rfl rfl rfl hN (hC.2.2.2.2.2.1 _ (in_ws m2)) ⟨m3, m4, m5⟩ (rm_fit m9)
    exact va_runSN (As := as.map (cv ad)) (n := n) (nL := mL μ) (Ts := wsM μ) ⟨hC.1, hC.2.1, hC.2.2.2.1, hC.2.2.2.2.1, hC.2.2.2.2.2.1⟩ (hE l G cA ad H.size) ⟨hcw, hC.2.2.2.2.2.1 _ (in_ws m6), trivial⟩ ⟨Pw_blind, fun U hU hW => ⟨rfl, by rw [hU], by rw [hU]; exact hP, hF.go hS hU hW, hI⟩⟩ rfl (by simpa using has) hl.1 (by simp [List.map_reverse]) (lv_room (stW_le ad hst)) hd ⟨Nat.zero_le _, Nat.zero_le _⟩
theorem z_callT {μ : MI} {d : Nat} {Q : Option Value → Wd → Prop} {pc : Nat} {lv : List (Nat × Value)} {st : List Value} {w : Wd} {x i n k : Nat} {μ' : MI} {as : List Value} {Q' : Option Value → Wd → Prop} (ho : (mY μ).cls = clN.getD (mK μ) "") (hd : decode (mB μ) pc = .ok (.invokevirtual x, 3)) (hx : tget (MR (mK μ)) x = some (i, 4)) (hm : MT[i]? = some (μ', n, false)) (has : as.length = n) (hk : k < 10) (hc : mK μ' = 17) (hst : stW st = true) (hE : Ev μ' d (.ref (200 + k) :: as) w Q')
    (kk : ∀ (r : Option Value) (w' : Wd), Q' r w' → Z μ (d + 1) Q (pc + 3) lv (r.toList ++ st) w') : Z μ (d + 1) Q pc lv (as.reverse ++ .ref (200 + k) :: st) w := by
  refine z_back (as := .ref (200 + k) :: as) (Q' := Q') ?_ kk
  intro p l e s m args below meth c G cA ad hC hF hI H locs ls hP hS hl
  have hM := MT_ok _ (List.mem_of_getElem? hm)
  obtain ⟨y, hy, hlk⟩ := MR_ok _ _ (tget_mem hx)
  cases hm.symm.trans hy
  have hcl : (mY μ').cls = "java/lang/String" := hM.2.2.2.2.2.2.2.2.trans (by dsimp only; rw [hc]; rfl)
  refine va_runV (As := as.map (cv ad)) (b := ad (200 + k)) (n := n) (nL := mL μ) (Ts := wsM μ) ⟨hC.1, hC.2.1, hC.2.2.2.1, hC.2.2.2.2.1, hC.2.2.2.2.2.1⟩ (hE l G cA ad H.size) (cw_V ho hC.2.2.2.2.2.1 hlk hM) ⟨Pw_blind, ?_, fun U hU hW => ⟨rfl, by rw [hU], by rw [hU]; exact hP, hF.go hS hU hW, hI⟩⟩ rfl (by simpa using has) hl.1 (by simp [List.map_reverse, cv]) (lv_room (stW_le ad hst)) hd ⟨Nat.zero_le _, Nat.zero_le _⟩
  rw [hcl]
  exact vk_recv (adK := fun k => ad (200 + k)) hF.2.2.2.1 hk hS
/-- a call by the type of its answer -/
theorem cal_inv {μ' : MI} {d : Nat} {as : List Value} {w : Wd} {K : List Value → Wd → Prop} (h : cal μ' d as w K) : ∃ (d' : Nat) (Q' : Option Value → Wd → Prop), d = d' + 1 ∧ Ev μ' d' as w Q' ∧ ∀ (r : Option Value) (w' : Wd), Q' r w' → K r.toList w' := by
  cases d with
  | zero => exact h.elim
  | succ d =>
    unfold cal at h
    dsimp only at h
    split at h
    · obtain ⟨Q, h1, h2⟩ := h
      exact ⟨d, _, rfl, h1, fun r w' hq => by
        cases r with
        | none => exact h2 w' hq
        | some v => exact hq.elim⟩
    · obtain ⟨Q, h1, h2⟩ := h
      exact ⟨d, _, rfl, h1, fun r w' hq => by
        cases r with
        | none => exact hq.elim
        | some v => cases v <;> first | exact h2 _ w' hq | exact hq.elim⟩
    · obtain ⟨Q, h1, h2⟩ := h
      exact ⟨d, _, rfl, h1, fun r w' hq => by
        cases r with
        | none => exact hq.elim
        | some v => cases v <;> first | exact h2 _ w' hq | exact hq.elim⟩
    · obtain ⟨Q, h1, h2⟩ := h
      exact ⟨d, _, rfl, h1, fun r w' hq => by
        cases r with
        | none => exact hq.elim
        | some v => cases v <;> first | exact h2 _ w' hq | exact hq.elim⟩
theorem rok_inv {ty : FieldType} {v : Int32} {P : Prop} (h : rok ty v P) : narrow ty (.int v) = .int v ∧ P := by
  unfold rok at h
  split at h
  · exact ⟨rfl, h⟩
  · refine ⟨?_, h.2⟩
    rcases h.1 with e | e <;> subst e <;> rfl
  · obtain ⟨⟨j, hj, rfl⟩, h⟩ := h
    exact ⟨(pk_charN hj).1, h⟩
  · exact h.elim
def ln : Instr → Nat
  | .aload_n _ | .iload_n _ | .lload_n _ | .istore_n _ | .lstore_n _ | .iconst _ | .lconst _ => 1
  | .aload _ | .iload _ | .lload _ | .istore _ | .lstore _ | .bipush _ | .ldc _ => 2
  | .iinc _ _ | .sipush _ | .ldc_w _ | .ldc2_w _ | .ifCond _ _ | .if_icmp _ _ | .goto _ | .getfield _ | .putfield _ | .invokevirtual _ | .invokestatic _ => 3
  | .tableswitch _ _ _ _ | .lookupswitch _ _ => 0
  | _ => 1
set_option maxHeartbeats 4000000 in
set_option maxRecDepth 100000 in
/-- ONE STEP IS SOUND -/
theorem stp_ok {μ : MI} {d : Nat} {Q : Option Value → Wd → Prop} {pc : Nat} {lv : List (Nat × Value)} {st : List Value} {w : Wd} (ho : (mY μ).cls = clN.getD (mK μ) "") {i : Instr} {len : Nat} {K : Nat → List (Nat × Value) → List Value → Wd → Prop} (hd : decode (mB μ) pc = .ok (i, len)) (hln : ln i = 0 ∨ len = ln i) (hK : ∀ pc lv st w, K pc lv st w → Z μ d Q pc lv st w) (h : stp μ d Q i pc lv st w K) : Z μ d Q pc lv st w := by
  have hl : ∀ {n : Nat}, ln i = n + 1 → decode (mB μ) pc = .ok (i, n + 1) := by
    intro n hn
    rcases hln with h9 | h9
    · omega
    · rw [hd, h9, hn]
  cases i with
  | iload_n k =>
    obtain ⟨v, hg, h⟩ := ldI_inv h; exact z_iload_n (hl rfl) hg (hK _ _ _ _ h)
  | iload k =>
    obtain ⟨v, hg, h⟩ := ldI_inv h; exact z_iload (hl rfl) hg (hK _ _ _ _ h)
  | lload_n k =>
    obtain ⟨v, hg, h⟩ := ldL_inv h; exact z_lload_n (hl rfl) hg (hK _ _ _ _ h)
  | lload k =>
    obtain ⟨v, hg, h⟩ := ldL_inv h; exact z_lload (hl rfl) hg (hK _ _ _ _ h)
  | aload_n k =>
    obtain ⟨v, hg, h⟩ := ldR_inv h; exact z_aload_n (hl rfl) hg (hK _ _ _ _ h)
  | aload k =>
    obtain ⟨v, hg, h⟩ := ldR_inv h; exact z_aload (hl rfl) hg (hK _ _ _ _ h)
  | istore_n k =>
    obtain ⟨v, t, rfl, h⟩ := pI_inv h; obtain ⟨hb, h⟩ := bo_inv h; exact z_istore_n (hl rfl) (Nat.le_of_ble_eq_true hb) (hK _ _ _ _ h)
  | istore k =>
    obtain ⟨v, t, rfl, h⟩ := pI_inv h; obtain ⟨hb, h⟩ := bo_inv h; exact z_istore (hl rfl) (Nat.le_of_ble_eq_true hb) (hK _ _ _ _ h)
  | lstore_n k =>
    obtain ⟨v, t, rfl, h⟩ := pL_inv h; obtain ⟨hb, h⟩ := bo_inv h; exact z_lstore_n (hl rfl) (Nat.le_of_ble_eq_true hb) (hK _ _ _ _ h)
  | lstore k =>
    obtain ⟨v, t, rfl, h⟩ := pL_inv h; obtain ⟨hb, h⟩ := bo_inv h; exact z_lstore (hl rfl) (Nat.le_of_ble_eq_true hb) (hK _ _ _ _ h)
  | iinc k n =>
    obtain ⟨v, hg, h⟩ := ldI_inv h; obtain ⟨hb, h⟩ := bo_inv h; exact z_iinc (hl rfl) hg (Nat.le_of_ble_eq_true hb) (hK _ _ _ _ h)
  | iconst n =>
    exact z_iconst (hl rfl) (hK _ _ _ _ h)
  | bipush n =>
    obtain ⟨hb, h⟩ := bo_inv h; rw [Bool.and_eq_true, decide_eq_true_eq, decide_eq_true_eq] at hb; exact z_bipush hb.1 hb.2 (hl rfl) (hK _ _ _ _ h)
  | sipush n =>
    obtain ⟨hb, h⟩ := bo_inv h; rw [Bool.and_eq_true, decide_eq_true_eq, decide_eq_true_eq] at hb; exact z_sipush hb.1 hb.2 (hl rfl) (hK _ _ _ _ h)
  | lconst n =>
    exact z_lconst (hl rfl) (hK _ _ _ _ h)
  | ldc x =>
    obtain ⟨v, hx, h⟩ := ot_inv h; exact z_ldc ho (hl rfl) hx (hK _ _ _ _ h)
  | ldc_w x =>
    obtain ⟨v, hx, h⟩ := ot_inv h; exact z_ldc_w ho (hl rfl) hx (hK _ _ _ _ h)
  | ldc2_w x =>
    obtain ⟨v, hx, h⟩ := ot_inv h; exact z_ldc2 ho (hl rfl) hx (hK _ _ _ _ h)
  | iadd =>
    obtain ⟨y, t, rfl, h⟩ := pI_inv h; obtain ⟨x, t, rfl, h⟩ := pI_inv h; exact z_iadd (hl rfl) (hK _ _ _ _ h)
  | isub =>
    obtain ⟨y, t, rfl, h⟩ := pI_inv h; obtain ⟨x, t, rfl, h⟩ := pI_inv h; exact z_isub (hl rfl) (hK _ _ _ _ h)
  | imul =>
    obtain ⟨y, t, rfl, h⟩ := pI_inv h; obtain ⟨x, t, rfl, h⟩ := pI_inv h; exact z_imul (hl rfl) (hK _ _ _ _ h)
  | iand =>
    obtain ⟨y, t, rfl, h⟩ := pI_inv h; obtain ⟨x, t, rfl, h⟩ := pI_inv h; exact z_iand (hl rfl) (hK _ _ _ _ h)
  | ior =>
    obtain ⟨y, t, rfl, h⟩ := pI_inv h; obtain ⟨x, t, rfl, h⟩ := pI_inv h; exact z_ior (hl rfl) (hK _ _ _ _ h)
  | ishl =>
    obtain ⟨y, t, rfl, h⟩ := pI_inv h; obtain ⟨x, t, rfl, h⟩ := pI_inv h; exact z_ishl (hl rfl) (hK _ _ _ _ h)
  | ishr =>
    obtain ⟨y, t, rfl, h⟩ := pI_inv h; obtain ⟨x, t, rfl, h⟩ := pI_inv h; exact z_ishr (hl rfl) (hK _ _ _ _ h)
  | iushr =>
    obtain ⟨y, t, rfl, h⟩ := pI_inv h; obtain ⟨x, t, rfl, h⟩ := pI_inv h; exact z_iushr (hl rfl) (hK _ _ _ _ h)
  | idiv =>
    obtain ⟨y, t, rfl, h⟩ := pI_inv h; obtain ⟨x, t, rfl, h⟩ := pI_inv h; exact z_idiv h.1 (hl rfl) (hK _ _ _ _ h.2)
  | irem =>
    obtain ⟨y, t, rfl, h⟩ := pI_inv h; obtain ⟨x, t, rfl, h⟩ := pI_inv h; exact z_irem h.1 (hl rfl) (hK _ _ _ _ h.2)
  | ineg =>
    obtain ⟨x, t, rfl, h⟩ := pI_inv h; exact z_ineg (hl rfl) (hK _ _ _ _ h)
  | ladd =>
    obtain ⟨y, t, rfl, h⟩ := pL_inv h; obtain ⟨x, t, rfl, h⟩ := pL_inv h; exact z_ladd (hl rfl) (hK _ _ _ _ h)
  | lsub =>
    obtain ⟨y, t, rfl, h⟩ := pL_inv h; obtain ⟨x, t, rfl, h⟩ := pL_inv h; exact z_lsub (hl rfl) (hK _ _ _ _ h)
  | lmul =>
    obtain ⟨y, t, rfl, h⟩ := pL_inv h; obtain ⟨x, t, rfl, h⟩ := pL_inv h; exact z_lmul (hl rfl) (hK _ _ _ _ h)
  | land =>
    obtain ⟨y, t, rfl, h⟩ := pL_inv h; obtain ⟨x, t, rfl, h⟩ := pL_inv h; exact z_land (hl rfl) (hK _ _ _ _ h)
  | lor =>
    obtain ⟨y, t, rfl, h⟩ := pL_inv h; obtain ⟨x, t, rfl, h⟩ := pL_inv h; exact z_lor (hl rfl) (hK _ _ _ _ h)
  | lxor =>
    obtain ⟨y, t, rfl, h⟩ := pL_inv h; obtain ⟨x, t, rfl, h⟩ := pL_inv h; exact z_lxor (hl rfl) (hK _ _ _ _ h)
  | lshl =>
    obtain ⟨y, t, rfl, h⟩ := pI_inv h; obtain ⟨x, t, rfl, h⟩ := pL_inv h; exact z_lshl (hl rfl) (hK _ _ _ _ h)
  | lshr =>
    obtain ⟨y, t, rfl, h⟩ := pI_inv h; obtain ⟨x, t, rfl, h⟩ := pL_inv h; exact z_lshr (hl rfl) (hK _ _ _ _ h)
  | lushr =>
    obtain ⟨y, t, rfl, h⟩ := pI_inv h; obtain ⟨x, t, rfl, h⟩ := pL_inv h; exact z_lushr (hl rfl) (hK _ _ _ _ h)
  | lcmp =>
    obtain ⟨y, t, rfl, h⟩ := pL_inv h; obtain ⟨x, t, rfl, h⟩ := pL_inv h; exact z_lcmp (hl rfl) (hK _ _ _ _ h)
  | i2l =>
    obtain ⟨x, t, rfl, h⟩ := pI_inv h; exact z_i2l (hl rfl) (hK _ _ _ _ h)
  | l2i =>
    obtain ⟨x, t, rfl, h⟩ := pL_inv h; exact z_l2i (hl rfl) (hK _ _ _ _ h)
  | i2c =>
    obtain ⟨x, t, rfl, h⟩ := pI_inv h; exact z_i2c (hl rfl) (hK _ _ _ _ h)
  | dup =>
    cases st with
    | nil => exact h.elim
    | cons v t => obtain ⟨hb, h⟩ := bo_inv h; exact z_dup (Nat.eq_of_beq_eq_true hb) (hl rfl) (hK _ _ _ _ h)
  | pop =>
    cases st with
    | nil => exact h.elim
    | cons v t => obtain ⟨hb, h⟩ := bo_inv h; exact z_pop (Nat.eq_of_beq_eq_true hb) (hl rfl) (hK _ _ _ _ h)
  | dup2 =>
    match st, h with
    | v :: u :: t, h => obtain ⟨hb, h⟩ := bo_inv h; rw [Bool.and_eq_true] at hb; exact z_dup2 (Nat.eq_of_beq_eq_true hb.1) (Nat.eq_of_beq_eq_true hb.2) (hl rfl) (hK _ _ _ _ h)
    | [v], h => exact h.elim
    | [], h => exact h.elim
  | goto o =>
    obtain ⟨tg, hj, h⟩ := jp_inv h; exact z_goto (hl rfl) hj (hK _ _ _ _ h)
  | ifCond c o =>
    obtain ⟨x, t, rfl, h⟩ := pI_inv h; obtain ⟨tg, hj, h⟩ := jp_inv h; exact z_if (hl rfl) hj (fun hc => hK _ _ _ _ (h.1 hc)) (fun hc => hK _ _ _ _ (h.2 hc))
  | if_icmp c o =>
    obtain ⟨y, t, rfl, h⟩ := pI_inv h; obtain ⟨x, t, rfl, h⟩ := pI_inv h; obtain ⟨tg, hj, h⟩ := jp_inv h; exact z_icmp (hl rfl) hj (fun hc => hK _ _ _ _ (h.1 hc)) (fun hc => hK _ _ _ _ (h.2 hc))
  | iaload =>
    obtain ⟨i, t, rfl, h⟩ := pI_inv h; obtain ⟨a, t, rfl, h⟩ := pR_inv h; obtain ⟨q, hq, h⟩ := ot_inv h; obtain ⟨e1, ⟨j, hi, hj, k9⟩, -⟩ := aok_inv h; obtain ⟨ty, n⟩ := q; cases e1; exact z_iaload (hl rfl) hq hi hj (hK _ _ _ _ k9)
  | iastore =>
    obtain ⟨v, t, rfl, h⟩ := pI_inv h; obtain ⟨i, t, rfl, h⟩ := pI_inv h; obtain ⟨a, t, rfl, h⟩ := pR_inv h; obtain ⟨q, hq, h⟩ := ot_inv h; obtain ⟨e1, ⟨j, hi, hj, k9⟩, -⟩ := aok_inv h; obtain ⟨ty, n⟩ := q; cases e1; exact z_iastore (hl rfl) hq hi hj (hK _ _ _ _ k9)
  | baload =>
    obtain ⟨i, t, rfl, h⟩ := pI_inv h; obtain ⟨a, t, rfl, h⟩ := pR_inv h; obtain ⟨q, hq, h⟩ := ot_inv h; obtain ⟨e1, ⟨j, hi, hj, k9⟩, -⟩ := aok_inv h; obtain ⟨ty, n⟩ := q; cases e1; exact z_baload (hl rfl) hq hi hj (hK _ _ _ _ k9)
  | bastore =>
    obtain ⟨v, t, rfl, h⟩ := pI_inv h; obtain ⟨i, t, rfl, h⟩ := pI_inv h; obtain ⟨a, t, rfl, h⟩ := pR_inv h; obtain ⟨q, hq, h⟩ := ot_inv h; obtain ⟨e1, ⟨j, hi, hj, k9⟩, -⟩ := aok_inv h; obtain ⟨ty, n⟩ := q; cases e1; exact z_bastore (hl rfl) hq hi hj k9.1 (hK _ _ _ _ k9.2)
  | caload =>
    obtain ⟨i, t, rfl, h⟩ := pI_inv h; obtain ⟨a, t, rfl, h⟩ := pR_inv h; obtain ⟨q, hq, h⟩ := ot_inv h; obtain ⟨e1, ⟨j, hi, hj, k9⟩, -⟩ := aok_inv h; obtain ⟨ty, n⟩ := q; cases e1; exact z_caload (hl rfl) hq hi hj (hK _ _ _ _ k9)
  | castore =>
    obtain ⟨v, t, rfl, h⟩ := pI_inv h; obtain ⟨i, t, rfl, h⟩ := pI_inv h; obtain ⟨a, t, rfl, h⟩ := pR_inv h; obtain ⟨q, hq, h⟩ := ot_inv h; obtain ⟨e1, ⟨j, hi, hj, k9⟩, -⟩ := aok_inv h; obtain ⟨ty, n⟩ := q; cases e1; exact z_castore (hl rfl) hq hi hj k9.1 (hK _ _ _ _ k9.2)
  | laload =>
    obtain ⟨i, t, rfl, h⟩ := pI_inv h; obtain ⟨a, t, rfl, h⟩ := pR_inv h; obtain ⟨q, hq, h⟩ := ot_inv h; obtain ⟨e1, ⟨j, hi, hj, k9⟩, -⟩ := aok_inv h; obtain ⟨ty, n⟩ := q; cases e1; exact z_laload (hl rfl) hq hi hj (hK _ _ _ _ k9)
  | lastore =>
    obtain ⟨v, t, rfl, h⟩ := pL_inv h; obtain ⟨i, t, rfl, h⟩ := pI_inv h; obtain ⟨a, t, rfl, h⟩ := pR_inv h; obtain ⟨q, hq, h⟩ := ot_inv h; obtain ⟨e1, ⟨j, hi, hj, k9⟩, -⟩ := aok_inv h; obtain ⟨ty, n⟩ := q; cases e1; exact z_lastore (hl rfl) hq hi hj (hK _ _ _ _ k9)
  | tableswitch df lo hi os =>
    obtain ⟨x, t, rfl, h⟩ := pI_inv h; obtain ⟨hb, h⟩ := bo_inv h; rw [Bool.and_eq_true, Bool.and_eq_true, decide_eq_true_eq, decide_eq_true_eq, decide_eq_true_eq] at hb; exact z_table hd hb.1.1 hb.1.2 hb.2 (swc_mono (fun _ hh => hK _ _ _ _ hh) _ h)
  | lookupswitch df ps =>
    obtain ⟨x, t, rfl, h⟩ := pI_inv h; obtain ⟨hb, h⟩ := bo_inv h; rw [Bool.and_eq_true] at hb; exact z_lookup hd hb.1 (fun q hq => by have h9 := List.all_eq_true.mp hb.2 q hq; rw [Bool.and_eq_true, decide_eq_true_eq, decide_eq_true_eq] at h9; exact h9) (swc_mono (fun _ hh => hK _ _ _ _ hh) _ h)
  | getfield x =>
    obtain ⟨a, t, rfl, h⟩ := pR_inv h; obtain ⟨q, hx, h⟩ := ot_inv h; obtain ⟨v, hg, h⟩ := ot_inv h; exact z_get ho (hl rfl) hx hg (hK _ _ _ _ h)
  | putfield x =>
    obtain ⟨v, t, rfl, h⟩ := pI_inv h; obtain ⟨a, t, rfl, h⟩ := pR_inv h; obtain ⟨q, hx, h⟩ := ot_inv h; obtain ⟨hb, h⟩ := bo_inv h
    by_cases h0 : q.2.2 = 0
    · rw [if_pos h0] at h; exact z_put ho (hl rfl) hx hb (Or.inl h0) (hK _ _ _ _ h)
    · rw [if_neg h0] at h; exact z_put ho (hl rfl) hx hb (Or.inr h.1) (hK _ _ _ _ h.2)
  | arraylength =>
    obtain ⟨a, t, rfl, h⟩ := pR_inv h; obtain ⟨q, hq, h⟩ := ot_inv h; exact z_alen (hl rfl) hq (shp_ty hq) (hK _ _ _ _ h)
  | ireturn =>
    obtain ⟨v, rfl, h⟩ := pIs_inv h; obtain ⟨ty, hr, h⟩ := ot_inv h; obtain ⟨hn, h⟩ := rok_inv h; exact z_ret (st := []) (hl rfl) hr hn h
  | lreturn =>
    unfold stp at h; dsimp only at h; split at h
    · exact z_lret (st := []) (hl rfl) (by assumption) h
    · exact h.elim
  | areturn =>
    unfold stp at h; dsimp only at h; split at h
    · exact z_aret (st := []) (hl rfl) (by assumption) h
    · exact h.elim
  | return_ =>
    unfold stp at h; dsimp only at h; split at h
    · exact z_vret (st := []) (hl rfl) (by assumption) h
    · exact h.elim
  | invokevirtual x =>
    obtain ⟨q, hx, h21⟩ := ot_inv h
    obtain ⟨i, kd⟩ := q
    dsimp only at h21
    split at h21
    · obtain ⟨⟨μ', n, sb⟩, hm, h22⟩ := ot_inv h21
      obtain ⟨⟨as, rest⟩, hu, h23⟩ := ot_inv h22
      obtain ⟨b, t, hb2, h24⟩ := pR_inv h23
      obtain ⟨hb, h25⟩ := bo_inv h24
      dsimp only at hm hu hb2 hb h25
      rw [Bool.and_eq_true, Bool.and_eq_true] at hb
      obtain ⟨⟨hb3, hb4⟩, hb5⟩ := hb
      cases sb
      · obtain ⟨bs, e1, e2, e3⟩ := tkA_spec _ _ _ _ _ hu
        rw [List.append_nil] at e1
        subst e1
        subst hb2
        subst e2
        obtain ⟨d', Q', e4, hE, h26⟩ := cal_inv h25
        subst e4
        exact z_callV ho (hl rfl) hx hm e3 hb4 hb5 hE (fun r w' hq => hK _ _ _ _ (h26 r w' hq))
      · cases hb3
    · obtain ⟨⟨μ', n, sb⟩, hm, h27⟩ := ot_inv h21
      obtain ⟨⟨as, rest⟩, hu, h28⟩ := ot_inv h27
      obtain ⟨b, t, hb2, h29⟩ := pR_inv h28
      obtain ⟨⟨k, hk, hbk⟩, h30⟩ := h29
      obtain ⟨hb, h31⟩ := bo_inv h30
      dsimp only at hm hu hb2 hb h31
      rw [Bool.and_eq_true, Bool.and_eq_true] at hb
      obtain ⟨⟨hb3, hb4⟩, hb5⟩ := hb
      cases sb
      · obtain ⟨bs, e1, e2, e3⟩ := tkA_spec _ _ _ _ _ hu
        rw [List.append_nil] at e1
        subst e1
        subst hb2
        subst e2
        subst hbk
        obtain ⟨d', Q', e4, hE, h32⟩ := cal_inv h31
        subst e4
        exact z_callT ho (hl rfl) hx hm e3 hk (Nat.eq_of_beq_eq_true hb4) hb5 hE (fun r w' hq => hK _ _ _ _ (h32 r w' hq))
      · cases hb3
    · exact h21.elim
  | invokestatic x =>
    obtain ⟨q, hx, h21⟩ := ot_inv h
    obtain ⟨i, kd⟩ := q
    dsimp only at h21
    split at h21
    · obtain ⟨⟨μ', n, sb⟩, hm, h22⟩ := ot_inv h21
      obtain ⟨⟨as, rest⟩, hu, h23⟩ := ot_inv h22
      obtain ⟨hb, h24⟩ := bo_inv h23
      dsimp only at hm hu hb h24
      rw [Bool.and_eq_true] at hb
      obtain ⟨hb3, hb5⟩ := hb
      subst hb3
      obtain ⟨bs, e1, e2, e3⟩ := tkA_spec _ _ _ _ _ hu
      rw [List.append_nil] at e1
      subst e1
      subst e2
      obtain ⟨d', Q', e4, hE, h25⟩ := cal_inv h24
      subst e4
      exact z_callS ho (hl rfl) hx (Or.inl rfl) hm e3 hb5 hE (fun r w' hq => hK _ _ _ _ (h25 r w' hq))
    · obtain ⟨⟨μ', n, sb⟩, hm, h26⟩ := ot_inv h21
      obtain ⟨⟨as, rest⟩, hu, h27⟩ := ot_inv h26
      obtain ⟨hb, h28⟩ := bo_inv h27
      dsimp only at hm hu hb h28
      rw [Bool.and_eq_true] at hb
      obtain ⟨hb3, hb5⟩ := hb
      subst hb3
      obtain ⟨bs, e1, e2, e3⟩ := tkA_spec _ _ _ _ _ hu
      rw [List.append_nil] at e1
      subst e1
      subst e2
      obtain ⟨d', Q', e4, hE, h29⟩ := cal_inv h28
      subst e4
      exact z_callS ho (hl rfl) hx (Or.inr rfl) hm e3 hb5 hE (fun r w' hq => hK _ _ _ _ (h29 r w' hq))
    · obtain ⟨n, t, rfl, h30⟩ := pI_inv h21
      obtain ⟨dp, t, rfl, h31⟩ := pI_inv h30
      obtain ⟨b, t, rfl, h32⟩ := pR_inv h31
      obtain ⟨sp, t, rfl, h33⟩ := pI_inv h32
      obtain ⟨a, t, rfl, h34⟩ := pR_inv h33
      obtain ⟨qa, ha, h35⟩ := ot_inv h34
      obtain ⟨qb, hb, h36⟩ := ot_inv h35
      obtain ⟨e1, h36, -⟩ := aok_inv h36
      obtain ⟨e2, h36, -⟩ := aok_inv h36
      obtain ⟨hc, j0, j1, k, rfl, rfl, rfl, h4, h5, h37⟩ := bo_inv h36
      obtain ⟨ta, na⟩ := qa
      obtain ⟨tb, nb⟩ := qb
      cases e1
      cases e2
      rw [Bool.and_eq_true] at hc
      exact z_copy ho (hl rfl) hx ha hb h4 h5 (Nat.le_of_ble_eq_true hc.1) hc.2 (hK _ _ _ _ h37)
    · obtain ⟨y, t, rfl, h38⟩ := pI_inv h21
      obtain ⟨x, t, rfl, h39⟩ := pI_inv h38
      obtain ⟨hc, h40⟩ := bo_inv h39
      rw [Bool.and_eq_true] at hc
      exact z_min ho (hl rfl) hx (Nat.le_of_ble_eq_true hc.1) hc.2 (hK _ _ _ _ h40)
    · obtain ⟨y, t, rfl, h41⟩ := pI_inv h21
      obtain ⟨x, t, rfl, h42⟩ := pI_inv h41
      obtain ⟨hc, h43⟩ := bo_inv h42
      rw [Bool.and_eq_true] at hc
      exact z_max ho (hl rfl) hx (Nat.le_of_ble_eq_true hc.1) hc.2 (hK _ _ _ _ h43)
    · obtain ⟨x, t, rfl, h44⟩ := pI_inv h21
      obtain ⟨hc, h45⟩ := bo_inv h44
      rw [Bool.and_eq_true] at hc
      exact z_abs ho (hl rfl) hx (Nat.le_of_ble_eq_true hc.1) hc.2 (hK _ _ _ _ h45)
    · exact h21.elim
  | aaload => exact h.elim
  | aastore => exact h.elim
  | aconst_null => exact h.elim
  | anewarray x => exact h.elim
  | astore x => exact h.elim
  | astore_n x => exact h.elim
  | athrow => exact h.elim
  | checkcast x => exact h.elim
  | d2f => exact h.elim
  | d2i => exact h.elim
  | d2l => exact h.elim
  | dadd => exact h.elim
  | daload => exact h.elim
  | dastore => exact h.elim
  | dcmp x => exact h.elim
  | dconst x => exact h.elim
  | ddiv => exact h.elim
  | dload x => exact h.elim
  | dload_n x => exact h.elim
  | dmul => exact h.elim
  | dneg => exact h.elim
  | drem => exact h.elim
  | dreturn => exact h.elim
  | dstore x => exact h.elim
  | dstore_n x => exact h.elim
  | dsub => exact h.elim
  | dup_x1 => exact h.elim
  | dup_x2 => exact h.elim
  | dup2_x1 => exact h.elim
  | dup2_x2 => exact h.elim
  | f2d => exact h.elim
  | f2i => exact h.elim
  | f2l => exact h.elim
  | fadd => exact h.elim
  | faload => exact h.elim
  | fastore => exact h.elim
  | fcmp x => exact h.elim
  | fconst x => exact h.elim
  | fdiv => exact h.elim
  | fload x => exact h.elim
  | fload_n x => exact h.elim
  | fmul => exact h.elim
  | fneg => exact h.elim
  | frem => exact h.elim
  | freturn => exact h.elim
  | fstore x => exact h.elim
  | fstore_n x => exact h.elim
  | fsub => exact h.elim
  | getstatic x => exact h.elim
  | goto_w x => exact h.elim
  | i2b => exact h.elim
  | i2d => exact h.elim
  | i2f => exact h.elim
  | i2s => exact h.elim
  | if_acmp x y => exact h.elim
  | ifnonnull x => exact h.elim
  | ifnull x => exact h.elim
  | instanceof x => exact h.elim
  | invokedynamic x => exact h.elim
  | invokeinterface x y => exact h.elim
  | invokespecial x => exact h.elim
  | ixor => exact h.elim
  | jsr x => exact h.elim
  | jsr_w x => exact h.elim
  | l2d => exact h.elim
  | l2f => exact h.elim
  | ldiv => exact h.elim
  | lneg => exact h.elim
  | lrem => exact h.elim
  | monitorenter => exact h.elim
  | monitorexit => exact h.elim
  | multianewarray x y => exact h.elim
  | new x => exact h.elim
  | newarray x => exact h.elim
  | nop => exact h.elim
  | pop2 => exact h.elim
  | putstatic x => exact h.elim
  | ret x => exact h.elim
  | saload => exact h.elim
  | sastore => exact h.elim
  | swap => exact h.elim
end
section
/-! MANY STEPS: 'wp .. n pc': from pc on, up to a stop, at most n steps -/
abbrev Prog : Type := List (Nat × Instr)
def prOK (μ : MI) (P : Prog) : Bool := P.all fun q => match decode (mB μ) q.1 with
  | .ok (i, len) => decide (i = q.2) && (Nat.beq (ln i) 0 || Nat.beq len (ln i))
  | _ => false
def wp (μ : MI) (P : Prog) (S : List (Nat × List Nat)) (d : Nat) (Q : Option Value → Wd → Prop) : Nat → Nat → List (Nat × Value) → List Value → Wd → Prop
  | 0, _, _, _, _ => False
  | n + 1, pc, lv, st, w => ot (tget P pc) fun i => stp μ d Q i pc lv st w fun pc' lv' st' w' => match tget S pc' with
    | some ks => Z μ d Q pc' (lpick lv' ks) st' w'
    | none => wp μ P S d Q n pc' lv' st' w'
theorem z_pick {μ : MI} {d : Nat} {Q : Option Value → Wd → Prop} {pc : Nat} {lv : List (Nat × Value)} {st : List Value} {w : Wd} (ks : List Nat) (h : Z μ d Q pc (lpick lv ks) st w) : Z μ d Q pc lv st w :=
  fun p l e s m args below meth c G cA ad hC hF hI H locs ls hP hS hl => h p l e s m args below meth c G cA ad hC hF hI H locs ls hP hS (lvc_pick ks hl)
theorem wp_ok {μ : MI} {P : Prog} {S : List (Nat × List Nat)} {d : Nat} {Q : Option Value → Wd → Prop} (ho : (mY μ).cls = clN.getD (mK μ) "") (hP : prOK μ P = true) : ∀ (n pc : Nat) (lv : List (Nat × Value)) (st : List Value) (w : Wd), wp μ P S d Q n pc lv st w → Z μ d Q pc lv st w := by
  intro n
  induction n with
  | zero => intro pc lv st w h; exact h.elim
  | succ n ih =>
    intro pc lv st w h
    obtain ⟨i, hi, h⟩ := ot_inv h
    have h1 := List.all_eq_true.mp hP _ (tget_mem hi)
    dsimp only at h1
    split at h1
    · rename_i i2 len hd
      rw [Bool.and_eq_true, decide_eq_true_eq, Bool.or_eq_true] at h1
      obtain ⟨e1, h2⟩ := h1
      subst e1
      refine stp_ok ho hd (h2.imp Nat.eq_of_beq_eq_true Nat.eq_of_beq_eq_true) ?_ h
      intro pc' lv' st' w' hk
      split at hk
      · exact z_pick _ hk
      · exact ih _ _ _ _ hk
    · cases h1
end
