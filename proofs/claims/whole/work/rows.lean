section
-- ===== PART A: goes FIRST, ahead of the names: the tables' words, and 'selects' of the private methods out of them =====
/-- a private method of a class that the tables say can be made, by its rows of tables_1 -/
def lw_okq (q : MethodName × Nat) : Prop := (q.1.cls ≠ "java/lang/invoke/MethodHandle" ∧ q.1.cls ≠ "java/lang/invoke/VarHandle") ∧ Cond.instantiable q.1.cls q.2 ∈ tables_1 ∧ Cond.privateMethod q.1 ∈ tables_1 ∧ Cond.instanceMethod q.1 ∈ tables_1
theorem lw_p0 : lw_okq (⟨"RowDrawer$Lexicon", "leadsTo", "(II)Z"⟩, 2) := ⟨⟨by decide +kernel, by decide +kernel⟩, List.mem_of_getElem? (i := 36) (by decide +kernel), List.mem_of_getElem? (i := 402) (by decide +kernel), List.mem_of_getElem? (i := 403) (by decide +kernel)⟩
theorem lw_p1 : lw_okq (⟨"RowDrawer$Tokens", "add", "(II)V"⟩, 4) := ⟨⟨by decide +kernel, by decide +kernel⟩, List.mem_of_getElem? (i := 99) (by decide +kernel), List.mem_of_getElem? (i := 559) (by decide +kernel), List.mem_of_getElem? (i := 560) (by decide +kernel)⟩
theorem lw_p2 : lw_okq (⟨"RowDrawer$Reader", "readRule", "()V"⟩, 4) := ⟨⟨by decide +kernel, by decide +kernel⟩, List.mem_of_getElem? (i := 93) (by decide +kernel), List.mem_of_getElem? (i := 575) (by decide +kernel), List.mem_of_getElem? (i := 576) (by decide +kernel)⟩
theorem lw_p3 : lw_okq (⟨"RowDrawer$Reader", "fail", "(I)Z"⟩, 4) := ⟨⟨by decide +kernel, by decide +kernel⟩, List.mem_of_getElem? (i := 93) (by decide +kernel), List.mem_of_getElem? (i := 583) (by decide +kernel), List.mem_of_getElem? (i := 584) (by decide +kernel)⟩
theorem lw_p4 : lw_okq (⟨"RowDrawer$Reader", "readNumber", "(II)I"⟩, 4) := ⟨⟨by decide +kernel, by decide +kernel⟩, List.mem_of_getElem? (i := 93) (by decide +kernel), List.mem_of_getElem? (i := 595) (by decide +kernel), List.mem_of_getElem? (i := 596) (by decide +kernel)⟩
theorem lw_p5 : lw_okq (⟨"RowDrawer$Reader", "readSign", "(I)Z"⟩, 4) := ⟨⟨by decide +kernel, by decide +kernel⟩, List.mem_of_getElem? (i := 93) (by decide +kernel), List.mem_of_getElem? (i := 599) (by decide +kernel), List.mem_of_getElem? (i := 600) (by decide +kernel)⟩
theorem lw_p6 : lw_okq (⟨"RowDrawer$Reader", "readItem", "(I)Z"⟩, 4) := ⟨⟨by decide +kernel, by decide +kernel⟩, List.mem_of_getElem? (i := 93) (by decide +kernel), List.mem_of_getElem? (i := 607) (by decide +kernel), List.mem_of_getElem? (i := 608) (by decide +kernel)⟩
theorem lw_p7 : lw_okq (⟨"RowDrawer$Reader", "readSpec", "(I)Z"⟩, 4) := ⟨⟨by decide +kernel, by decide +kernel⟩, List.mem_of_getElem? (i := 93) (by decide +kernel), List.mem_of_getElem? (i := 622) (by decide +kernel), List.mem_of_getElem? (i := 623) (by decide +kernel)⟩
theorem lw_p8 : lw_okq (⟨"RowDrawer$Reader", "readBar", "()V"⟩, 4) := ⟨⟨by decide +kernel, by decide +kernel⟩, List.mem_of_getElem? (i := 93) (by decide +kernel), List.mem_of_getElem? (i := 630) (by decide +kernel), List.mem_of_getElem? (i := 631) (by decide +kernel)⟩
theorem lw_p9 : lw_okq (⟨"RowDrawer$Reader", "readChain", "()V"⟩, 4) := ⟨⟨by decide +kernel, by decide +kernel⟩, List.mem_of_getElem? (i := 93) (by decide +kernel), List.mem_of_getElem? (i := 642) (by decide +kernel), List.mem_of_getElem? (i := 643) (by decide +kernel)⟩
theorem lw_p10 : lw_okq (⟨"RowDrawer$Reader", "readSingle", "()V"⟩, 4) := ⟨⟨by decide +kernel, by decide +kernel⟩, List.mem_of_getElem? (i := 93) (by decide +kernel), List.mem_of_getElem? (i := 654) (by decide +kernel), List.mem_of_getElem? (i := 655) (by decide +kernel)⟩
theorem lw_p11 : lw_okq (⟨"RowDrawer$Finder", "drawSentence", "(I)V"⟩, 8) := ⟨⟨by decide +kernel, by decide +kernel⟩, List.mem_of_getElem? (i := 182) (by decide +kernel), List.mem_of_getElem? (i := 687) (by decide +kernel), List.mem_of_getElem? (i := 688) (by decide +kernel)⟩
theorem lw_p12 : lw_okq (⟨"RowDrawer$Finder", "clearSentence", "(I)V"⟩, 8) := ⟨⟨by decide +kernel, by decide +kernel⟩, List.mem_of_getElem? (i := 182) (by decide +kernel), List.mem_of_getElem? (i := 691) (by decide +kernel), List.mem_of_getElem? (i := 692) (by decide +kernel)⟩
theorem lw_p13 : lw_okq (⟨"RowDrawer$Finder", "hasBarredWord", "(I)Z"⟩, 8) := ⟨⟨by decide +kernel, by decide +kernel⟩, List.mem_of_getElem? (i := 182) (by decide +kernel), List.mem_of_getElem? (i := 696) (by decide +kernel), List.mem_of_getElem? (i := 697) (by decide +kernel)⟩
theorem lw_p14 : lw_okq (⟨"RowDrawer$Finder", "drawRule", "(II)V"⟩, 8) := ⟨⟨by decide +kernel, by decide +kernel⟩, List.mem_of_getElem? (i := 182) (by decide +kernel), List.mem_of_getElem? (i := 705) (by decide +kernel), List.mem_of_getElem? (i := 706) (by decide +kernel)⟩
theorem lw_p15 : lw_okq (⟨"RowDrawer$Finder", "fitItems", "(II)V"⟩, 8) := ⟨⟨by decide +kernel, by decide +kernel⟩, List.mem_of_getElem? (i := 182) (by decide +kernel), List.mem_of_getElem? (i := 721) (by decide +kernel), List.mem_of_getElem? (i := 722) (by decide +kernel)⟩
def lw_privs_1 : List (MethodName × Nat) := [(⟨"RowDrawer$Lexicon", "leadsTo", "(II)Z"⟩, 2), (⟨"RowDrawer$Tokens", "add", "(II)V"⟩, 4), (⟨"RowDrawer$Reader", "readRule", "()V"⟩, 4), (⟨"RowDrawer$Reader", "fail", "(I)Z"⟩, 4), (⟨"RowDrawer$Reader", "readNumber", "(II)I"⟩, 4), (⟨"RowDrawer$Reader", "readSign", "(I)Z"⟩, 4), (⟨"RowDrawer$Reader", "readItem", "(I)Z"⟩, 4), (⟨"RowDrawer$Reader", "readSpec", "(I)Z"⟩, 4), (⟨"RowDrawer$Reader", "readBar", "()V"⟩, 4), (⟨"RowDrawer$Reader", "readChain", "()V"⟩, 4), (⟨"RowDrawer$Reader", "readSingle", "()V"⟩, 4), (⟨"RowDrawer$Finder", "drawSentence", "(I)V"⟩, 8), (⟨"RowDrawer$Finder", "clearSentence", "(I)V"⟩, 8), (⟨"RowDrawer$Finder", "hasBarredWord", "(I)Z"⟩, 8), (⟨"RowDrawer$Finder", "drawRule", "(II)V"⟩, 8), (⟨"RowDrawer$Finder", "fitItems", "(II)V"⟩, 8)]
theorem lw_r1 : ∀ q ∈ lw_privs_1, lw_okq q := List.forall_mem_cons.mpr ⟨lw_p0, List.forall_mem_cons.mpr ⟨lw_p1, List.forall_mem_cons.mpr ⟨lw_p2, List.forall_mem_cons.mpr ⟨lw_p3, List.forall_mem_cons.mpr ⟨lw_p4, List.forall_mem_cons.mpr ⟨lw_p5, List.forall_mem_cons.mpr ⟨lw_p6, List.forall_mem_cons.mpr ⟨lw_p7, List.forall_mem_cons.mpr ⟨lw_p8, List.forall_mem_cons.mpr ⟨lw_p9, List.forall_mem_cons.mpr ⟨lw_p10, List.forall_mem_cons.mpr ⟨lw_p11, List.forall_mem_cons.mpr ⟨lw_p12, List.forall_mem_cons.mpr ⟨lw_p13, List.forall_mem_cons.mpr ⟨lw_p14, List.forall_mem_cons.mpr ⟨lw_p15, fun _ h => absurd h List.not_mem_nil⟩⟩⟩⟩⟩⟩⟩⟩⟩⟩⟩⟩⟩⟩⟩⟩
theorem lw_p16 : lw_okq (⟨"RowDrawer$Book", "hasItem", "(II)Z"⟩, 14) := ⟨⟨by decide +kernel, by decide +kernel⟩, List.mem_of_getElem? (i := 118) (by decide +kernel), List.mem_of_getElem? (i := 733) (by decide +kernel), List.mem_of_getElem? (i := 734) (by decide +kernel)⟩
theorem lw_p17 : lw_okq (⟨"RowDrawer$Finder", "placesOf", "(III)I"⟩, 8) := ⟨⟨by decide +kernel, by decide +kernel⟩, List.mem_of_getElem? (i := 182) (by decide +kernel), List.mem_of_getElem? (i := 741) (by decide +kernel), List.mem_of_getElem? (i := 742) (by decide +kernel)⟩
theorem lw_p18 : lw_okq (⟨"RowDrawer$Finder", "forward", "(IIII)I"⟩, 8) := ⟨⟨by decide +kernel, by decide +kernel⟩, List.mem_of_getElem? (i := 182) (by decide +kernel), List.mem_of_getElem? (i := 755) (by decide +kernel), List.mem_of_getElem? (i := 756) (by decide +kernel)⟩
theorem lw_p19 : lw_okq (⟨"RowDrawer$Finder", "backward", "(III)I"⟩, 8) := ⟨⟨by decide +kernel, by decide +kernel⟩, List.mem_of_getElem? (i := 182) (by decide +kernel), List.mem_of_getElem? (i := 759) (by decide +kernel), List.mem_of_getElem? (i := 760) (by decide +kernel)⟩
theorem lw_p20 : lw_okq (⟨"RowDrawer$Finder", "keepPairs", "(IIIZ)V"⟩, 8) := ⟨⟨by decide +kernel, by decide +kernel⟩, List.mem_of_getElem? (i := 182) (by decide +kernel), List.mem_of_getElem? (i := 763) (by decide +kernel), List.mem_of_getElem? (i := 764) (by decide +kernel)⟩
theorem lw_p21 : lw_okq (⟨"RowDrawer$Finder", "countPairs", "(II)I"⟩, 8) := ⟨⟨by decide +kernel, by decide +kernel⟩, List.mem_of_getElem? (i := 182) (by decide +kernel), List.mem_of_getElem? (i := 767) (by decide +kernel), List.mem_of_getElem? (i := 768) (by decide +kernel)⟩
theorem lw_p22 : lw_okq (⟨"RowDrawer$Finder", "tellWithin", "(IIII)I"⟩, 8) := ⟨⟨by decide +kernel, by decide +kernel⟩, List.mem_of_getElem? (i := 182) (by decide +kernel), List.mem_of_getElem? (i := 793) (by decide +kernel), List.mem_of_getElem? (i := 794) (by decide +kernel)⟩
theorem lw_p23 : lw_okq (⟨"RowDrawer$Finder", "part", "(IIIII)I"⟩, 8) := ⟨⟨by decide +kernel, by decide +kernel⟩, List.mem_of_getElem? (i := 182) (by decide +kernel), List.mem_of_getElem? (i := 801) (by decide +kernel), List.mem_of_getElem? (i := 802) (by decide +kernel)⟩
theorem lw_p24 : lw_okq (⟨"RowDrawer$Table", "addFindsOf", "(I)V"⟩, 7) := ⟨⟨by decide +kernel, by decide +kernel⟩, List.mem_of_getElem? (i := 213) (by decide +kernel), List.mem_of_getElem? (i := 827) (by decide +kernel), List.mem_of_getElem? (i := 828) (by decide +kernel)⟩
theorem lw_p25 : lw_okq (⟨"RowDrawer$Table", "nameAt", "(II)I"⟩, 7) := ⟨⟨by decide +kernel, by decide +kernel⟩, List.mem_of_getElem? (i := 213) (by decide +kernel), List.mem_of_getElem? (i := 834) (by decide +kernel), List.mem_of_getElem? (i := 835) (by decide +kernel)⟩
theorem lw_p26 : lw_okq (⟨"RowDrawer$Table", "addRow", "(III)V"⟩, 7) := ⟨⟨by decide +kernel, by decide +kernel⟩, List.mem_of_getElem? (i := 213) (by decide +kernel), List.mem_of_getElem? (i := 843) (by decide +kernel), List.mem_of_getElem? (i := 844) (by decide +kernel)⟩
theorem lw_p27 : lw_okq (⟨"RowDrawer$Table", "followChains", "()V"⟩, 7) := ⟨⟨by decide +kernel, by decide +kernel⟩, List.mem_of_getElem? (i := 213) (by decide +kernel), List.mem_of_getElem? (i := 849) (by decide +kernel), List.mem_of_getElem? (i := 850) (by decide +kernel)⟩
theorem lw_p28 : lw_okq (⟨"RowDrawer$Table", "followChain", "(III)Z"⟩, 7) := ⟨⟨by decide +kernel, by decide +kernel⟩, List.mem_of_getElem? (i := 213) (by decide +kernel), List.mem_of_getElem? (i := 867) (by decide +kernel), List.mem_of_getElem? (i := 868) (by decide +kernel)⟩
theorem lw_p29 : lw_okq (⟨"RowDrawer$Table", "degree", "(II)I"⟩, 7) := ⟨⟨by decide +kernel, by decide +kernel⟩, List.mem_of_getElem? (i := 213) (by decide +kernel), List.mem_of_getElem? (i := 871) (by decide +kernel), List.mem_of_getElem? (i := 872) (by decide +kernel)⟩
theorem lw_p30 : lw_okq (⟨"RowDrawer$Table", "followFrom", "(IIII)Z"⟩, 7) := ⟨⟨by decide +kernel, by decide +kernel⟩, List.mem_of_getElem? (i := 213) (by decide +kernel), List.mem_of_getElem? (i := 881) (by decide +kernel), List.mem_of_getElem? (i := 882) (by decide +kernel)⟩
theorem lw_p31 : lw_okq (⟨"RowDrawer$Table", "hasRow", "(III)Z"⟩, 7) := ⟨⟨by decide +kernel, by decide +kernel⟩, List.mem_of_getElem? (i := 213) (by decide +kernel), List.mem_of_getElem? (i := 885) (by decide +kernel), List.mem_of_getElem? (i := 886) (by decide +kernel)⟩
def lw_privs_2 : List (MethodName × Nat) := [(⟨"RowDrawer$Book", "hasItem", "(II)Z"⟩, 14), (⟨"RowDrawer$Finder", "placesOf", "(III)I"⟩, 8), (⟨"RowDrawer$Finder", "forward", "(IIII)I"⟩, 8), (⟨"RowDrawer$Finder", "backward", "(III)I"⟩, 8), (⟨"RowDrawer$Finder", "keepPairs", "(IIIZ)V"⟩, 8), (⟨"RowDrawer$Finder", "countPairs", "(II)I"⟩, 8), (⟨"RowDrawer$Finder", "tellWithin", "(IIII)I"⟩, 8), (⟨"RowDrawer$Finder", "part", "(IIIII)I"⟩, 8), (⟨"RowDrawer$Table", "addFindsOf", "(I)V"⟩, 7), (⟨"RowDrawer$Table", "nameAt", "(II)I"⟩, 7), (⟨"RowDrawer$Table", "addRow", "(III)V"⟩, 7), (⟨"RowDrawer$Table", "followChains", "()V"⟩, 7), (⟨"RowDrawer$Table", "followChain", "(III)Z"⟩, 7), (⟨"RowDrawer$Table", "degree", "(II)I"⟩, 7), (⟨"RowDrawer$Table", "followFrom", "(IIII)Z"⟩, 7), (⟨"RowDrawer$Table", "hasRow", "(III)Z"⟩, 7)]
theorem lw_r2 : ∀ q ∈ lw_privs_2, lw_okq q := List.forall_mem_cons.mpr ⟨lw_p16, List.forall_mem_cons.mpr ⟨lw_p17, List.forall_mem_cons.mpr ⟨lw_p18, List.forall_mem_cons.mpr ⟨lw_p19, List.forall_mem_cons.mpr ⟨lw_p20, List.forall_mem_cons.mpr ⟨lw_p21, List.forall_mem_cons.mpr ⟨lw_p22, List.forall_mem_cons.mpr ⟨lw_p23, List.forall_mem_cons.mpr ⟨lw_p24, List.forall_mem_cons.mpr ⟨lw_p25, List.forall_mem_cons.mpr ⟨lw_p26, List.forall_mem_cons.mpr ⟨lw_p27, List.forall_mem_cons.mpr ⟨lw_p28, List.forall_mem_cons.mpr ⟨lw_p29, List.forall_mem_cons.mpr ⟨lw_p30, List.forall_mem_cons.mpr ⟨lw_p31, fun _ h => absurd h List.not_mem_nil⟩⟩⟩⟩⟩⟩⟩⟩⟩⟩⟩⟩⟩⟩⟩⟩
theorem lw_p32 : lw_okq (⟨"RowDrawer$Table", "secondName", "(III)I"⟩, 7) := ⟨⟨by decide +kernel, by decide +kernel⟩, List.mem_of_getElem? (i := 213) (by decide +kernel), List.mem_of_getElem? (i := 902) (by decide +kernel), List.mem_of_getElem? (i := 903) (by decide +kernel)⟩
theorem lw_p33 : lw_okq (⟨"RowDrawer$Marks", "indexOf", "(IIII)I"⟩, 9) := ⟨⟨by decide +kernel, by decide +kernel⟩, List.mem_of_getElem? (i := 242) (by decide +kernel), List.mem_of_getElem? (i := 928) (by decide +kernel), List.mem_of_getElem? (i := 929) (by decide +kernel)⟩
theorem lw_p34 : lw_okq (⟨"RowDrawer$BestSet", "tryFrom", "(IIJJ)V"⟩, 6) := ⟨⟨by decide +kernel, by decide +kernel⟩, List.mem_of_getElem? (i := 276) (by decide +kernel), List.mem_of_getElem? (i := 957) (by decide +kernel), List.mem_of_getElem? (i := 958) (by decide +kernel)⟩
theorem lw_p35 : lw_okq (⟨"RowDrawer$BestSet", "weigh", "(II)V"⟩, 6) := ⟨⟨by decide +kernel, by decide +kernel⟩, List.mem_of_getElem? (i := 276) (by decide +kernel), List.mem_of_getElem? (i := 962) (by decide +kernel), List.mem_of_getElem? (i := 963) (by decide +kernel)⟩
theorem lw_p36 : lw_okq (⟨"RowDrawer$Lesson", "begin", "(II)V"⟩, 8) := ⟨⟨by decide +kernel, by decide +kernel⟩, List.mem_of_getElem? (i := 301) (by decide +kernel), List.mem_of_getElem? (i := 981) (by decide +kernel), List.mem_of_getElem? (i := 982) (by decide +kernel)⟩
theorem lw_p37 : lw_okq (⟨"RowDrawer$Lesson", "wordAt", "(II)I"⟩, 8) := ⟨⟨by decide +kernel, by decide +kernel⟩, List.mem_of_getElem? (i := 301) (by decide +kernel), List.mem_of_getElem? (i := 997) (by decide +kernel), List.mem_of_getElem? (i := 998) (by decide +kernel)⟩
theorem lw_p38 : lw_okq (⟨"RowDrawer$Lesson", "isLike", "(I)Z"⟩, 8) := ⟨⟨by decide +kernel, by decide +kernel⟩, List.mem_of_getElem? (i := 301) (by decide +kernel), List.mem_of_getElem? (i := 1006) (by decide +kernel), List.mem_of_getElem? (i := 1007) (by decide +kernel)⟩
theorem lw_p39 : lw_okq (⟨"RowDrawer$Lesson", "widen", "(I)V"⟩, 8) := ⟨⟨by decide +kernel, by decide +kernel⟩, List.mem_of_getElem? (i := 301) (by decide +kernel), List.mem_of_getElem? (i := 1010) (by decide +kernel), List.mem_of_getElem? (i := 1011) (by decide +kernel)⟩
theorem lw_p40 : lw_okq (⟨"RowDrawer$Lesson", "roleOf", "(I)I"⟩, 8) := ⟨⟨by decide +kernel, by decide +kernel⟩, List.mem_of_getElem? (i := 301) (by decide +kernel), List.mem_of_getElem? (i := 1027) (by decide +kernel), List.mem_of_getElem? (i := 1028) (by decide +kernel)⟩
theorem lw_p41 : lw_okq (⟨"RowDrawer$Lesson", "standsAt", "(I)Z"⟩, 8) := ⟨⟨by decide +kernel, by decide +kernel⟩, List.mem_of_getElem? (i := 301) (by decide +kernel), List.mem_of_getElem? (i := 1039) (by decide +kernel), List.mem_of_getElem? (i := 1040) (by decide +kernel)⟩
theorem lw_p42 : lw_okq (⟨"java/lang/Throwable", "fillInStackTrace", "(I)Ljava/lang/Throwable;"⟩, 6) := ⟨⟨by decide +kernel, by decide +kernel⟩, List.mem_of_getElem? (i := 1109) (by decide +kernel), List.mem_of_getElem? (i := 1107) (by decide +kernel), List.mem_of_getElem? (i := 1108) (by decide +kernel)⟩
theorem lw_p43 : lw_okq (⟨"RowDrawerModel", "lay", "(J)V"⟩, 52) := ⟨⟨by decide +kernel, by decide +kernel⟩, List.mem_of_getElem? (i := 1161) (by decide +kernel), List.mem_of_getElem? (i := 1159) (by decide +kernel), List.mem_of_getElem? (i := 1160) (by decide +kernel)⟩
theorem lw_p44 : lw_okq (⟨"RowDrawerModel", "cutAll", "()V"⟩, 52) := ⟨⟨by decide +kernel, by decide +kernel⟩, List.mem_of_getElem? (i := 1161) (by decide +kernel), List.mem_of_getElem? (i := 1342) (by decide +kernel), List.mem_of_getElem? (i := 1343) (by decide +kernel)⟩
theorem lw_p45 : lw_okq (⟨"RowDrawerModel", "statement", "()V"⟩, 52) := ⟨⟨by decide +kernel, by decide +kernel⟩, List.mem_of_getElem? (i := 1161) (by decide +kernel), List.mem_of_getElem? (i := 1361) (by decide +kernel), List.mem_of_getElem? (i := 1362) (by decide +kernel)⟩
theorem lw_p46 : lw_okq (⟨"RowDrawerModel", "isWord", "(I)Z"⟩, 52) := ⟨⟨by decide +kernel, by decide +kernel⟩, List.mem_of_getElem? (i := 1161) (by decide +kernel), List.mem_of_getElem? (i := 1365) (by decide +kernel), List.mem_of_getElem? (i := 1366) (by decide +kernel)⟩
theorem lw_p47 : lw_okq (⟨"RowDrawerModel", "readRule", "()V"⟩, 52) := ⟨⟨by decide +kernel, by decide +kernel⟩, List.mem_of_getElem? (i := 1161) (by decide +kernel), List.mem_of_getElem? (i := 1369) (by decide +kernel), List.mem_of_getElem? (i := 1370) (by decide +kernel)⟩
def lw_privs_3 : List (MethodName × Nat) := [(⟨"RowDrawer$Table", "secondName", "(III)I"⟩, 7), (⟨"RowDrawer$Marks", "indexOf", "(IIII)I"⟩, 9), (⟨"RowDrawer$BestSet", "tryFrom", "(IIJJ)V"⟩, 6), (⟨"RowDrawer$BestSet", "weigh", "(II)V"⟩, 6), (⟨"RowDrawer$Lesson", "begin", "(II)V"⟩, 8), (⟨"RowDrawer$Lesson", "wordAt", "(II)I"⟩, 8), (⟨"RowDrawer$Lesson", "isLike", "(I)Z"⟩, 8), (⟨"RowDrawer$Lesson", "widen", "(I)V"⟩, 8), (⟨"RowDrawer$Lesson", "roleOf", "(I)I"⟩, 8), (⟨"RowDrawer$Lesson", "standsAt", "(I)Z"⟩, 8), (⟨"java/lang/Throwable", "fillInStackTrace", "(I)Ljava/lang/Throwable;"⟩, 6), (⟨"RowDrawerModel", "lay", "(J)V"⟩, 52), (⟨"RowDrawerModel", "cutAll", "()V"⟩, 52), (⟨"RowDrawerModel", "statement", "()V"⟩, 52), (⟨"RowDrawerModel", "isWord", "(I)Z"⟩, 52), (⟨"RowDrawerModel", "readRule", "()V"⟩, 52)]
theorem lw_r3 : ∀ q ∈ lw_privs_3, lw_okq q := List.forall_mem_cons.mpr ⟨lw_p32, List.forall_mem_cons.mpr ⟨lw_p33, List.forall_mem_cons.mpr ⟨lw_p34, List.forall_mem_cons.mpr ⟨lw_p35, List.forall_mem_cons.mpr ⟨lw_p36, List.forall_mem_cons.mpr ⟨lw_p37, List.forall_mem_cons.mpr ⟨lw_p38, List.forall_mem_cons.mpr ⟨lw_p39, List.forall_mem_cons.mpr ⟨lw_p40, List.forall_mem_cons.mpr ⟨lw_p41, List.forall_mem_cons.mpr ⟨lw_p42, List.forall_mem_cons.mpr ⟨lw_p43, List.forall_mem_cons.mpr ⟨lw_p44, List.forall_mem_cons.mpr ⟨lw_p45, List.forall_mem_cons.mpr ⟨lw_p46, List.forall_mem_cons.mpr ⟨lw_p47, fun _ h => absurd h List.not_mem_nil⟩⟩⟩⟩⟩⟩⟩⟩⟩⟩⟩⟩⟩⟩⟩⟩
theorem lw_p48 : lw_okq (⟨"RowDrawerModel", "wrong", "(I)V"⟩, 52) := ⟨⟨by decide +kernel, by decide +kernel⟩, List.mem_of_getElem? (i := 1161) (by decide +kernel), List.mem_of_getElem? (i := 1373) (by decide +kernel), List.mem_of_getElem? (i := 1374) (by decide +kernel)⟩
theorem lw_p49 : lw_okq (⟨"RowDrawerModel", "takeNumber", "(II)I"⟩, 52) := ⟨⟨by decide +kernel, by decide +kernel⟩, List.mem_of_getElem? (i := 1161) (by decide +kernel), List.mem_of_getElem? (i := 1377) (by decide +kernel), List.mem_of_getElem? (i := 1378) (by decide +kernel)⟩
theorem lw_p50 : lw_okq (⟨"RowDrawerModel", "takeSign", "(I)V"⟩, 52) := ⟨⟨by decide +kernel, by decide +kernel⟩, List.mem_of_getElem? (i := 1161) (by decide +kernel), List.mem_of_getElem? (i := 1381) (by decide +kernel), List.mem_of_getElem? (i := 1382) (by decide +kernel)⟩
theorem lw_p51 : lw_okq (⟨"RowDrawerModel", "isSign", "(I)Z"⟩, 52) := ⟨⟨by decide +kernel, by decide +kernel⟩, List.mem_of_getElem? (i := 1161) (by decide +kernel), List.mem_of_getElem? (i := 1385) (by decide +kernel), List.mem_of_getElem? (i := 1386) (by decide +kernel)⟩
theorem lw_p52 : lw_okq (⟨"RowDrawerModel", "item", "(I)V"⟩, 52) := ⟨⟨by decide +kernel, by decide +kernel⟩, List.mem_of_getElem? (i := 1161) (by decide +kernel), List.mem_of_getElem? (i := 1389) (by decide +kernel), List.mem_of_getElem? (i := 1390) (by decide +kernel)⟩
theorem lw_p53 : lw_okq (⟨"RowDrawerModel", "isItem", "()Z"⟩, 52) := ⟨⟨by decide +kernel, by decide +kernel⟩, List.mem_of_getElem? (i := 1161) (by decide +kernel), List.mem_of_getElem? (i := 1393) (by decide +kernel), List.mem_of_getElem? (i := 1394) (by decide +kernel)⟩
theorem lw_p54 : lw_okq (⟨"RowDrawerModel", "spec", "(I)V"⟩, 52) := ⟨⟨by decide +kernel, by decide +kernel⟩, List.mem_of_getElem? (i := 1161) (by decide +kernel), List.mem_of_getElem? (i := 1397) (by decide +kernel), List.mem_of_getElem? (i := 1398) (by decide +kernel)⟩
theorem lw_p55 : lw_okq (⟨"RowDrawerModel", "hasWord", "(I)Z"⟩, 52) := ⟨⟨by decide +kernel, by decide +kernel⟩, List.mem_of_getElem? (i := 1161) (by decide +kernel), List.mem_of_getElem? (i := 1401) (by decide +kernel), List.mem_of_getElem? (i := 1402) (by decide +kernel)⟩
theorem lw_p56 : lw_okq (⟨"RowDrawerModel", "takeWord", "(I)V"⟩, 52) := ⟨⟨by decide +kernel, by decide +kernel⟩, List.mem_of_getElem? (i := 1161) (by decide +kernel), List.mem_of_getElem? (i := 1405) (by decide +kernel), List.mem_of_getElem? (i := 1406) (by decide +kernel)⟩
theorem lw_p57 : lw_okq (⟨"RowDrawerModel", "readChain", "()V"⟩, 52) := ⟨⟨by decide +kernel, by decide +kernel⟩, List.mem_of_getElem? (i := 1161) (by decide +kernel), List.mem_of_getElem? (i := 1409) (by decide +kernel), List.mem_of_getElem? (i := 1410) (by decide +kernel)⟩
theorem lw_p58 : lw_okq (⟨"RowDrawerModel", "nameOf", "(I)I"⟩, 52) := ⟨⟨by decide +kernel, by decide +kernel⟩, List.mem_of_getElem? (i := 1161) (by decide +kernel), List.mem_of_getElem? (i := 1428) (by decide +kernel), List.mem_of_getElem? (i := 1429) (by decide +kernel)⟩
theorem lw_p59 : lw_okq (⟨"RowDrawerModel", "isThere", "(I)Z"⟩, 52) := ⟨⟨by decide +kernel, by decide +kernel⟩, List.mem_of_getElem? (i := 1161) (by decide +kernel), List.mem_of_getElem? (i := 1444) (by decide +kernel), List.mem_of_getElem? (i := 1445) (by decide +kernel)⟩
theorem lw_p60 : lw_okq (⟨"RowDrawerModel", "findAll", "()V"⟩, 52) := ⟨⟨by decide +kernel, by decide +kernel⟩, List.mem_of_getElem? (i := 1161) (by decide +kernel), List.mem_of_getElem? (i := 1452) (by decide +kernel), List.mem_of_getElem? (i := 1453) (by decide +kernel)⟩
theorem lw_p61 : lw_okq (⟨"RowDrawerModel", "matches", "(II)V"⟩, 52) := ⟨⟨by decide +kernel, by decide +kernel⟩, List.mem_of_getElem? (i := 1161) (by decide +kernel), List.mem_of_getElem? (i := 1456) (by decide +kernel), List.mem_of_getElem? (i := 1457) (by decide +kernel)⟩
theorem lw_p62 : lw_okq (⟨"RowDrawerModel", "goes", "(IIII)V"⟩, 52) := ⟨⟨by decide +kernel, by decide +kernel⟩, List.mem_of_getElem? (i := 1161) (by decide +kernel), List.mem_of_getElem? (i := 1460) (by decide +kernel), List.mem_of_getElem? (i := 1461) (by decide +kernel)⟩
theorem lw_p63 : lw_okq (⟨"RowDrawerModel", "fits", "(III)Z"⟩, 52) := ⟨⟨by decide +kernel, by decide +kernel⟩, List.mem_of_getElem? (i := 1161) (by decide +kernel), List.mem_of_getElem? (i := 1464) (by decide +kernel), List.mem_of_getElem? (i := 1465) (by decide +kernel)⟩
def lw_privs_4 : List (MethodName × Nat) := [(⟨"RowDrawerModel", "wrong", "(I)V"⟩, 52), (⟨"RowDrawerModel", "takeNumber", "(II)I"⟩, 52), (⟨"RowDrawerModel", "takeSign", "(I)V"⟩, 52), (⟨"RowDrawerModel", "isSign", "(I)Z"⟩, 52), (⟨"RowDrawerModel", "item", "(I)V"⟩, 52), (⟨"RowDrawerModel", "isItem", "()Z"⟩, 52), (⟨"RowDrawerModel", "spec", "(I)V"⟩, 52), (⟨"RowDrawerModel", "hasWord", "(I)Z"⟩, 52), (⟨"RowDrawerModel", "takeWord", "(I)V"⟩, 52), (⟨"RowDrawerModel", "readChain", "()V"⟩, 52), (⟨"RowDrawerModel", "nameOf", "(I)I"⟩, 52), (⟨"RowDrawerModel", "isThere", "(I)Z"⟩, 52), (⟨"RowDrawerModel", "findAll", "()V"⟩, 52), (⟨"RowDrawerModel", "matches", "(II)V"⟩, 52), (⟨"RowDrawerModel", "goes", "(IIII)V"⟩, 52), (⟨"RowDrawerModel", "fits", "(III)Z"⟩, 52)]
theorem lw_r4 : ∀ q ∈ lw_privs_4, lw_okq q := List.forall_mem_cons.mpr ⟨lw_p48, List.forall_mem_cons.mpr ⟨lw_p49, List.forall_mem_cons.mpr ⟨lw_p50, List.forall_mem_cons.mpr ⟨lw_p51, List.forall_mem_cons.mpr ⟨lw_p52, List.forall_mem_cons.mpr ⟨lw_p53, List.forall_mem_cons.mpr ⟨lw_p54, List.forall_mem_cons.mpr ⟨lw_p55, List.forall_mem_cons.mpr ⟨lw_p56, List.forall_mem_cons.mpr ⟨lw_p57, List.forall_mem_cons.mpr ⟨lw_p58, List.forall_mem_cons.mpr ⟨lw_p59, List.forall_mem_cons.mpr ⟨lw_p60, List.forall_mem_cons.mpr ⟨lw_p61, List.forall_mem_cons.mpr ⟨lw_p62, List.forall_mem_cons.mpr ⟨lw_p63, fun _ h => absurd h List.not_mem_nil⟩⟩⟩⟩⟩⟩⟩⟩⟩⟩⟩⟩⟩⟩⟩⟩
theorem lw_p64 : lw_okq (⟨"RowDrawerModel", "isBarred", "(I)Z"⟩, 52) := ⟨⟨by decide +kernel, by decide +kernel⟩, List.mem_of_getElem? (i := 1161) (by decide +kernel), List.mem_of_getElem? (i := 1475) (by decide +kernel), List.mem_of_getElem? (i := 1476) (by decide +kernel)⟩
theorem lw_p65 : lw_okq (⟨"RowDrawerModel", "findRows", "()V"⟩, 52) := ⟨⟨by decide +kernel, by decide +kernel⟩, List.mem_of_getElem? (i := 1161) (by decide +kernel), List.mem_of_getElem? (i := 1486) (by decide +kernel), List.mem_of_getElem? (i := 1487) (by decide +kernel)⟩
theorem lw_p66 : lw_okq (⟨"RowDrawerModel", "joins", "(III)Z"⟩, 52) := ⟨⟨by decide +kernel, by decide +kernel⟩, List.mem_of_getElem? (i := 1161) (by decide +kernel), List.mem_of_getElem? (i := 1490) (by decide +kernel), List.mem_of_getElem? (i := 1491) (by decide +kernel)⟩
theorem lw_p67 : lw_okq (⟨"RowDrawerModel", "caught", "(IZ)I"⟩, 52) := ⟨⟨by decide +kernel, by decide +kernel⟩, List.mem_of_getElem? (i := 1161) (by decide +kernel), List.mem_of_getElem? (i := 1510) (by decide +kernel), List.mem_of_getElem? (i := 1511) (by decide +kernel)⟩
theorem lw_p68 : lw_okq (⟨"RowDrawerModel", "catchesMark", "(II)Z"⟩, 52) := ⟨⟨by decide +kernel, by decide +kernel⟩, List.mem_of_getElem? (i := 1161) (by decide +kernel), List.mem_of_getElem? (i := 1514) (by decide +kernel), List.mem_of_getElem? (i := 1515) (by decide +kernel)⟩
theorem lw_p69 : lw_okq (⟨"RowDrawerModel", "wordAt", "(II)I"⟩, 52) := ⟨⟨by decide +kernel, by decide +kernel⟩, List.mem_of_getElem? (i := 1161) (by decide +kernel), List.mem_of_getElem? (i := 1529) (by decide +kernel), List.mem_of_getElem? (i := 1530) (by decide +kernel)⟩
theorem lw_p70 : lw_okq (⟨"RowDrawerModel", "isLike", "(III)Z"⟩, 52) := ⟨⟨by decide +kernel, by decide +kernel⟩, List.mem_of_getElem? (i := 1161) (by decide +kernel), List.mem_of_getElem? (i := 1536) (by decide +kernel), List.mem_of_getElem? (i := 1537) (by decide +kernel)⟩
theorem lw_p71 : lw_okq (⟨"RowDrawerModel", "barredFinds", "()I"⟩, 52) := ⟨⟨by decide +kernel, by decide +kernel⟩, List.mem_of_getElem? (i := 1161) (by decide +kernel), List.mem_of_getElem? (i := 1552) (by decide +kernel), List.mem_of_getElem? (i := 1553) (by decide +kernel)⟩
def lw_privs_5 : List (MethodName × Nat) := [(⟨"RowDrawerModel", "isBarred", "(I)Z"⟩, 52), (⟨"RowDrawerModel", "findRows", "()V"⟩, 52), (⟨"RowDrawerModel", "joins", "(III)Z"⟩, 52), (⟨"RowDrawerModel", "caught", "(IZ)I"⟩, 52), (⟨"RowDrawerModel", "catchesMark", "(II)Z"⟩, 52), (⟨"RowDrawerModel", "wordAt", "(II)I"⟩, 52), (⟨"RowDrawerModel", "isLike", "(III)Z"⟩, 52), (⟨"RowDrawerModel", "barredFinds", "()I"⟩, 52)]
theorem lw_r5 : ∀ q ∈ lw_privs_5, lw_okq q := List.forall_mem_cons.mpr ⟨lw_p64, List.forall_mem_cons.mpr ⟨lw_p65, List.forall_mem_cons.mpr ⟨lw_p66, List.forall_mem_cons.mpr ⟨lw_p67, List.forall_mem_cons.mpr ⟨lw_p68, List.forall_mem_cons.mpr ⟨lw_p69, List.forall_mem_cons.mpr ⟨lw_p70, List.forall_mem_cons.mpr ⟨lw_p71, fun _ h => absurd h List.not_mem_nil⟩⟩⟩⟩⟩⟩⟩⟩
def lw_privs : List (MethodName × Nat) := lw_privs_1 ++ (lw_privs_2 ++ (lw_privs_3 ++ (lw_privs_4 ++ (lw_privs_5))))
def lw_tbl : List Cond := k2_sels lw_privs ++ tables_1
theorem lw_privs_ok : ∀ q ∈ lw_privs, lw_okq q := by
  show ∀ q ∈ lw_privs_1 ++ (lw_privs_2 ++ (lw_privs_3 ++ (lw_privs_4 ++ (lw_privs_5)))), lw_okq q
  exact List.forall_mem_append.mpr ⟨lw_r1, List.forall_mem_append.mpr ⟨lw_r2, List.forall_mem_append.mpr ⟨lw_r3, List.forall_mem_append.mpr ⟨lw_r4, lw_r5⟩⟩⟩⟩
def RX0 : String := "RowDrawer$BestSet"
def TX0 : u_T := fun k => match k with
  | 0 => ("RowDrawer$BestSet", "rightCaught", "[J", true)
  | 1 => ("RowDrawer$BestSet", "wrongCaught", "[J", true)
  | 2 => ("RowDrawer$BestSet", "rules", "I", false)
  | 3 => ("RowDrawer$BestSet", "wrongAtMost", "I", false)
  | 4 => ("RowDrawer$BestSet", "bestSet", "I", false)
  | _ => ("RowDrawer$BestSet", "bestCaught", "I", false)
def tyX0 : Nat → FieldType := fun k => match k with
  | 0 => .array .long
  | 1 => .array .long
  | 2 => .int
  | 3 => .int
  | 4 => .int
  | _ => .int
abbrev wsX00 : List Cond := u_ws RX0 TX0 6
theorem nmX0 : ∀ a, a < 6 → ∀ b, b < 6 → a ≠ b → (TX0 a).2.1 ≠ (TX0 b).2.1 := by decide +kernel
theorem tyX0_ok : ∀ k, k < 6 → parseFieldDescriptor (TX0 k).2.2.1 = some (tyX0 k) := by decide +kernel
def RX1 : String := "RowDrawer$Book"
def TX1 : u_T := fun k => match k with
  | 0 => ("RowDrawer$Book", "rules", "I", false)
  | 1 => ("RowDrawer$Book", "relations", "[I", true)
  | 2 => ("RowDrawer$Book", "items", "[I", true)
  | 3 => ("RowDrawer$Book", "lefts", "[I", true)
  | 4 => ("RowDrawer$Book", "rights", "[I", true)
  | 5 => ("RowDrawer$Book", "kinds", "[I", true)
  | 6 => ("RowDrawer$Book", "numbers", "[I", true)
  | 7 => ("RowDrawer$Book", "bars", "I", false)
  | 8 => ("RowDrawer$Book", "barWords", "[I", true)
  | 9 => ("RowDrawer$Book", "chains", "I", false)
  | 10 => ("RowDrawer$Book", "chainGoals", "[I", true)
  | 11 => ("RowDrawer$Book", "chainFirsts", "[I", true)
  | 12 => ("RowDrawer$Book", "chainSeconds", "[I", true)
  | _ => ("RowDrawer$Book", "singles", "I", false)
def tyX1 : Nat → FieldType := fun k => match k with
  | 0 => .int
  | 1 => .array .int
  | 2 => .array .int
  | 3 => .array .int
  | 4 => .array .int
  | 5 => .array .int
  | 6 => .array .int
  | 7 => .int
  | 8 => .array .int
  | 9 => .int
  | 10 => .array .int
  | 11 => .array .int
  | 12 => .array .int
  | _ => .int
abbrev wsX10 : List Cond := u_ws RX1 TX1 14
theorem nmX1 : ∀ a, a < 14 → ∀ b, b < 14 → a ≠ b → (TX1 a).2.1 ≠ (TX1 b).2.1 := by decide +kernel
theorem tyX1_ok : ∀ k, k < 14 → parseFieldDescriptor (TX1 k).2.2.1 = some (tyX1 k) := by decide +kernel
def RX2 : String := "RowDrawer$Finder"
def TX2 : u_T := fun k => match k with
  | 0 => ("RowDrawer$Finder", "lexicon", "LRowDrawer$Lexicon;", true)
  | 1 => ("RowDrawer$Finder", "sentences", "LRowDrawer$Sentences;", true)
  | 2 => ("RowDrawer$Finder", "book", "LRowDrawer$Book;", true)
  | 3 => ("RowDrawer$Finder", "rights", "[I", true)
  | 4 => ("RowDrawer$Finder", "counts", "[I", true)
  | 5 => ("RowDrawer$Finder", "barred", "[Z", true)
  | 6 => ("RowDrawer$Finder", "stale", "[Z", true)
  | _ => ("RowDrawer$Finder", "fitting", "[I", true)
def tyX2 : Nat → FieldType := fun k => match k with
  | 0 => .object "RowDrawer$Lexicon"
  | 1 => .object "RowDrawer$Sentences"
  | 2 => .object "RowDrawer$Book"
  | 3 => .array .int
  | 4 => .array .int
  | 5 => .array .boolean
  | 6 => .array .boolean
  | _ => .array .int
abbrev wsX20 : List Cond := u_ws RX2 TX2 8
theorem nmX2 : ∀ a, a < 8 → ∀ b, b < 8 → a ≠ b → (TX2 a).2.1 ≠ (TX2 b).2.1 := by decide +kernel
theorem tyX2_ok : ∀ k, k < 8 → parseFieldDescriptor (TX2 k).2.2.1 = some (tyX2 k) := by decide +kernel
def RX3 : String := "RowDrawer$Lesson"
def TX3 : u_T := fun k => match k with
  | 0 => ("RowDrawer$Lesson", "lexicon", "LRowDrawer$Lexicon;", true)
  | 1 => ("RowDrawer$Lesson", "sentences", "LRowDrawer$Sentences;", true)
  | 2 => ("RowDrawer$Lesson", "marks", "LRowDrawer$Marks;", true)
  | 3 => ("RowDrawer$Lesson", "kinds", "[I", true)
  | 4 => ("RowDrawer$Lesson", "numbers", "[I", true)
  | 5 => ("RowDrawer$Lesson", "specs", "I", false)
  | 6 => ("RowDrawer$Lesson", "relation", "I", false)
  | _ => ("RowDrawer$Lesson", "leftFirst", "Z", false)
def tyX3 : Nat → FieldType := fun k => match k with
  | 0 => .object "RowDrawer$Lexicon"
  | 1 => .object "RowDrawer$Sentences"
  | 2 => .object "RowDrawer$Marks"
  | 3 => .array .int
  | 4 => .array .int
  | 5 => .int
  | 6 => .int
  | _ => .boolean
abbrev wsX30 : List Cond := u_ws RX3 TX3 8
theorem nmX3 : ∀ a, a < 8 → ∀ b, b < 8 → a ≠ b → (TX3 a).2.1 ≠ (TX3 b).2.1 := by decide +kernel
theorem tyX3_ok : ∀ k, k < 8 → parseFieldDescriptor (TX3 k).2.2.1 = some (tyX3 k) := by decide +kernel
def RX4 : String := "RowDrawer$Lexicon"
def TX4 : u_T := fun k => match k with
  | 0 => ("RowDrawer$Lexicon", "sorts", "[I", true)
  | _ => ("RowDrawer$Lexicon", "joinedTo", "[I", true)
def tyX4 : Nat → FieldType := fun k => match k with
  | 0 => .array .int
  | _ => .array .int
abbrev wsX40 : List Cond := u_ws RX4 TX4 2
theorem nmX4 : ∀ a, a < 2 → ∀ b, b < 2 → a ≠ b → (TX4 a).2.1 ≠ (TX4 b).2.1 := by decide +kernel
theorem tyX4_ok : ∀ k, k < 2 → parseFieldDescriptor (TX4 k).2.2.1 = some (tyX4 k) := by decide +kernel
def RX5 : String := "RowDrawer$Marks"
def TX5 : u_T := fun k => match k with
  | 0 => ("RowDrawer$Marks", "sentences", "LRowDrawer$Sentences;", true)
  | 1 => ("RowDrawer$Marks", "book", "LRowDrawer$Book;", true)
  | 2 => ("RowDrawer$Marks", "finder", "LRowDrawer$Finder;", true)
  | 3 => ("RowDrawer$Marks", "markSentences", "[I", true)
  | 4 => ("RowDrawer$Marks", "lefts", "[I", true)
  | 5 => ("RowDrawer$Marks", "rights", "[I", true)
  | 6 => ("RowDrawer$Marks", "relations", "[I", true)
  | 7 => ("RowDrawer$Marks", "isRight", "[Z", true)
  | _ => ("RowDrawer$Marks", "size", "I", false)
def tyX5 : Nat → FieldType := fun k => match k with
  | 0 => .object "RowDrawer$Sentences"
  | 1 => .object "RowDrawer$Book"
  | 2 => .object "RowDrawer$Finder"
  | 3 => .array .int
  | 4 => .array .int
  | 5 => .array .int
  | 6 => .array .int
  | 7 => .array .boolean
  | _ => .int
abbrev wsX50 : List Cond := u_ws RX5 TX5 9
theorem nmX5 : ∀ a, a < 9 → ∀ b, b < 9 → a ≠ b → (TX5 a).2.1 ≠ (TX5 b).2.1 := by decide +kernel
theorem tyX5_ok : ∀ k, k < 9 → parseFieldDescriptor (TX5 k).2.2.1 = some (tyX5 k) := by decide +kernel
def RX6 : String := "RowDrawer$Reader"
def TX6 : u_T := fun k => match k with
  | 0 => ("RowDrawer$Reader", "tape", "LRowDrawer$Tape;", true)
  | 1 => ("RowDrawer$Reader", "tokens", "LRowDrawer$Tokens;", true)
  | 2 => ("RowDrawer$Reader", "draft", "LRowDrawer$Book;", true)
  | _ => ("RowDrawer$Reader", "fault", "I", false)
def tyX6 : Nat → FieldType := fun k => match k with
  | 0 => .object "RowDrawer$Tape"
  | 1 => .object "RowDrawer$Tokens"
  | 2 => .object "RowDrawer$Book"
  | _ => .int
abbrev wsX60 : List Cond := u_ws RX6 TX6 4
theorem nmX6 : ∀ a, a < 4 → ∀ b, b < 4 → a ≠ b → (TX6 a).2.1 ≠ (TX6 b).2.1 := by decide +kernel
theorem tyX6_ok : ∀ k, k < 4 → parseFieldDescriptor (TX6 k).2.2.1 = some (tyX6 k) := by decide +kernel
def RX7 : String := "RowDrawer$Sentences"
def TX7 : u_T := fun k => match k with
  | 0 => ("RowDrawer$Sentences", "words", "[I", true)
  | 1 => ("RowDrawer$Sentences", "lengths", "[I", true)
  | 2 => ("RowDrawer$Sentences", "there", "[Z", true)
  | 3 => ("RowDrawer$Sentences", "toldWords", "[I", true)
  | 4 => ("RowDrawer$Sentences", "told", "I", false)
  | 5 => ("RowDrawer$Sentences", "came", "I", false)
  | _ => ("RowDrawer$Sentences", "present", "I", false)
def tyX7 : Nat → FieldType := fun k => match k with
  | 0 => .array .int
  | 1 => .array .int
  | 2 => .array .boolean
  | 3 => .array .int
  | 4 => .int
  | 5 => .int
  | _ => .int
abbrev wsX70 : List Cond := u_ws RX7 TX7 7
theorem nmX7 : ∀ a, a < 7 → ∀ b, b < 7 → a ≠ b → (TX7 a).2.1 ≠ (TX7 b).2.1 := by decide +kernel
theorem tyX7_ok : ∀ k, k < 7 → parseFieldDescriptor (TX7 k).2.2.1 = some (tyX7 k) := by decide +kernel
def RX8 : String := "RowDrawer$Table"
def TX8 : u_T := fun k => match k with
  | 0 => ("RowDrawer$Table", "lexicon", "LRowDrawer$Lexicon;", true)
  | 1 => ("RowDrawer$Table", "sentences", "LRowDrawer$Sentences;", true)
  | 2 => ("RowDrawer$Table", "book", "LRowDrawer$Book;", true)
  | 3 => ("RowDrawer$Table", "finder", "LRowDrawer$Finder;", true)
  | 4 => ("RowDrawer$Table", "low", "[J", true)
  | 5 => ("RowDrawer$Table", "high", "[J", true)
  | _ => ("RowDrawer$Table", "stale", "Z", false)
def tyX8 : Nat → FieldType := fun k => match k with
  | 0 => .object "RowDrawer$Lexicon"
  | 1 => .object "RowDrawer$Sentences"
  | 2 => .object "RowDrawer$Book"
  | 3 => .object "RowDrawer$Finder"
  | 4 => .array .long
  | 5 => .array .long
  | _ => .boolean
abbrev wsX80 : List Cond := u_ws RX8 TX8 7
theorem nmX8 : ∀ a, a < 7 → ∀ b, b < 7 → a ≠ b → (TX8 a).2.1 ≠ (TX8 b).2.1 := by decide +kernel
theorem tyX8_ok : ∀ k, k < 7 → parseFieldDescriptor (TX8 k).2.2.1 = some (tyX8 k) := by decide +kernel
def RX9 : String := "RowDrawer$Tape"
def TX9 : u_T := fun k => match k with
  | 0 => ("RowDrawer$Tape", "signs", "[C", true)
  | _ => ("RowDrawer$Tape", "length", "I", false)
def tyX9 : Nat → FieldType := fun k => match k with
  | 0 => .array .char
  | _ => .int
abbrev wsX90 : List Cond := u_ws RX9 TX9 2
theorem nmX9 : ∀ a, a < 2 → ∀ b, b < 2 → a ≠ b → (TX9 a).2.1 ≠ (TX9 b).2.1 := by decide +kernel
theorem tyX9_ok : ∀ k, k < 2 → parseFieldDescriptor (TX9 k).2.2.1 = some (tyX9 k) := by decide +kernel
def RX10 : String := "RowDrawer$Tokens"
def TX10 : u_T := fun k => match k with
  | 0 => ("RowDrawer$Tokens", "codes", "[I", true)
  | 1 => ("RowDrawer$Tokens", "places", "[I", true)
  | 2 => ("RowDrawer$Tokens", "size", "I", false)
  | _ => ("RowDrawer$Tokens", "current", "I", false)
def tyX10 : Nat → FieldType := fun k => match k with
  | 0 => .array .int
  | 1 => .array .int
  | 2 => .int
  | _ => .int
abbrev wsX100 : List Cond := u_ws RX10 TX10 4
theorem nmX10 : ∀ a, a < 4 → ∀ b, b < 4 → a ≠ b → (TX10 a).2.1 ≠ (TX10 b).2.1 := by decide +kernel
theorem tyX10_ok : ∀ k, k < 4 → parseFieldDescriptor (TX10 k).2.2.1 = some (tyX10 k) := by decide +kernel
def RX11 : String := "RowDrawer"
def TX11 : u_T := fun k => match k with
  | 0 => ("RowDrawer", "lexicon", "LRowDrawer$Lexicon;", true)
  | 1 => ("RowDrawer", "sentences", "LRowDrawer$Sentences;", true)
  | 2 => ("RowDrawer", "tape", "LRowDrawer$Tape;", true)
  | 3 => ("RowDrawer", "reader", "LRowDrawer$Reader;", true)
  | 4 => ("RowDrawer", "book", "LRowDrawer$Book;", true)
  | 5 => ("RowDrawer", "finder", "LRowDrawer$Finder;", true)
  | 6 => ("RowDrawer", "table", "LRowDrawer$Table;", true)
  | 7 => ("RowDrawer", "marks", "LRowDrawer$Marks;", true)
  | 8 => ("RowDrawer", "chooser", "LRowDrawer$BestSet;", true)
  | _ => ("RowDrawer", "lesson", "LRowDrawer$Lesson;", true)
def tyX11 : Nat → FieldType := fun k => match k with
  | 0 => .object "RowDrawer$Lexicon"
  | 1 => .object "RowDrawer$Sentences"
  | 2 => .object "RowDrawer$Tape"
  | 3 => .object "RowDrawer$Reader"
  | 4 => .object "RowDrawer$Book"
  | 5 => .object "RowDrawer$Finder"
  | 6 => .object "RowDrawer$Table"
  | 7 => .object "RowDrawer$Marks"
  | 8 => .object "RowDrawer$BestSet"
  | _ => .object "RowDrawer$Lesson"
abbrev wsX110 : List Cond := u_ws RX11 TX11 10
theorem nmX11 : ∀ a, a < 10 → ∀ b, b < 10 → a ≠ b → (TX11 a).2.1 ≠ (TX11 b).2.1 := by decide +kernel
theorem tyX11_ok : ∀ k, k < 10 → parseFieldDescriptor (TX11 k).2.2.1 = some (tyX11 k) := by decide +kernel
def RX12 : String := "RowDrawerModel"
def TX12 : u_T := fun k => match k with
  | 0 => ("RowDrawerModel", "thrown", "I", false)
  | 1 => ("RowDrawerModel", "tape", "[I", true)
  | 2 => ("RowDrawerModel", "taped", "I", false)
  | 3 => ("RowDrawerModel", "size", "I", false)
  | 4 => ("RowDrawerModel", "sort", "[I", true)
  | 5 => ("RowDrawerModel", "place", "[I", true)
  | 6 => ("RowDrawerModel", "value", "[J", true)
  | 7 => ("RowDrawerModel", "at", "I", false)
  | 8 => ("RowDrawerModel", "fault", "I", false)
  | 9 => ("RowDrawerModel", "words", "[J", true)
  | 10 => ("RowDrawerModel", "holds", "I", false)
  | 11 => ("RowDrawerModel", "next", "I", false)
  | 12 => ("RowDrawerModel", "rules", "[I", true)
  | 13 => ("RowDrawerModel", "ruleOf", "[I", true)
  | 14 => ("RowDrawerModel", "items", "[I", true)
  | 15 => ("RowDrawerModel", "isSome", "[Z", true)
  | 16 => ("RowDrawerModel", "side", "[I", true)
  | 17 => ("RowDrawerModel", "kind", "[I", true)
  | 18 => ("RowDrawerModel", "number", "[I", true)
  | 19 => ("RowDrawerModel", "bars", "[I", true)
  | 20 => ("RowDrawerModel", "bar", "[I", true)
  | 21 => ("RowDrawerModel", "chains", "[I", true)
  | 22 => ("RowDrawerModel", "chain", "[I", true)
  | 23 => ("RowDrawerModel", "isSingle", "[Z", true)
  | 24 => ("RowDrawerModel", "hasLeft", "Z", false)
  | 25 => ("RowDrawerModel", "hasRight", "Z", false)
  | 26 => ("RowDrawerModel", "sorts", "[I", true)
  | 27 => ("RowDrawerModel", "joined", "[I", true)
  | 28 => ("RowDrawerModel", "waiting", "I", false)
  | 29 => ("RowDrawerModel", "draft", "[I", true)
  | 30 => ("RowDrawerModel", "sentences", "I", false)
  | 31 => ("RowDrawerModel", "length", "[I", true)
  | 32 => ("RowDrawerModel", "row", "[I", true)
  | 33 => ("RowDrawerModel", "isGone", "[Z", true)
  | 34 => ("RowDrawerModel", "isOld", "Z", false)
  | 35 => ("RowDrawerModel", "isFind", "[Z", true)
  | 36 => ("RowDrawerModel", "now", "[Z", true)
  | 37 => ("RowDrawerModel", "then", "[Z", true)
  | 38 => ("RowDrawerModel", "isRow", "[Z", true)
  | 39 => ("RowDrawerModel", "marks", "I", false)
  | 40 => ("RowDrawerModel", "markIn", "[I", true)
  | 41 => ("RowDrawerModel", "markLeft", "[I", true)
  | 42 => ("RowDrawerModel", "markRight", "[I", true)
  | 43 => ("RowDrawerModel", "markOf", "[I", true)
  | 44 => ("RowDrawerModel", "isGood", "[Z", true)
  | 45 => ("RowDrawerModel", "good", "[J", true)
  | 46 => ("RowDrawerModel", "bad", "[J", true)
  | 47 => ("RowDrawerModel", "specs", "I", false)
  | 48 => ("RowDrawerModel", "learntOf", "I", false)
  | 49 => ("RowDrawerModel", "learntFar", "I", false)
  | 50 => ("RowDrawerModel", "specKind", "[I", true)
  | _ => ("RowDrawerModel", "specNumber", "[I", true)
def tyX12 : Nat → FieldType := fun k => match k with
  | 0 => .int
  | 1 => .array .int
  | 2 => .int
  | 3 => .int
  | 4 => .array .int
  | 5 => .array .int
  | 6 => .array .long
  | 7 => .int
  | 8 => .int
  | 9 => .array .long
  | 10 => .int
  | 11 => .int
  | 12 => .array .int
  | 13 => .array .int
  | 14 => .array .int
  | 15 => .array .boolean
  | 16 => .array .int
  | 17 => .array .int
  | 18 => .array .int
  | 19 => .array .int
  | 20 => .array .int
  | 21 => .array .int
  | 22 => .array .int
  | 23 => .array .boolean
  | 24 => .boolean
  | 25 => .boolean
  | 26 => .array .int
  | 27 => .array .int
  | 28 => .int
  | 29 => .array .int
  | 30 => .int
  | 31 => .array .int
  | 32 => .array .int
  | 33 => .array .boolean
  | 34 => .boolean
  | 35 => .array .boolean
  | 36 => .array .boolean
  | 37 => .array .boolean
  | 38 => .array .boolean
  | 39 => .int
  | 40 => .array .int
  | 41 => .array .int
  | 42 => .array .int
  | 43 => .array .int
  | 44 => .array .boolean
  | 45 => .array .long
  | 46 => .array .long
  | 47 => .int
  | 48 => .int
  | 49 => .int
  | 50 => .array .int
  | _ => .array .int
abbrev wsX120 : List Cond := u_ws RX12 TX12 52
theorem nmX12 : ∀ a, a < 52 → ∀ b, b < 52 → a ≠ b → (TX12 a).2.1 ≠ (TX12 b).2.1 := by decide +kernel
theorem tyX12_ok : ∀ k, k < 52 → parseFieldDescriptor (TX12 k).2.2.1 = some (tyX12 k) := by decide +kernel
abbrev vwCl : List vw_C := [(RX0, TX0, 6), (RX1, TX1, 14), (RX2, TX2, 8), (RX3, TX3, 8), (RX4, TX4, 2), (RX5, TX5, 9), (RX6, TX6, 4), (RX7, TX7, 7), (RX8, TX8, 7), (RX9, TX9, 2), (RX10, TX10, 4), (RX11, TX11, 10), (RX12, TX12, 52)]
def TT : List Cond := lw_tbl.filter goodWord
theorem tt_at (i : Nat) {w : Cond} (h : lw_tbl[i]? = some w) (g : goodWord w = true) : w ∈ TT := List.mem_filter.mpr ⟨List.mem_of_getElem? h, g⟩
theorem tt_good {w : Cond} (h : w ∈ TT) : (w.onTables && w.keeps) = true ∨ ∃ ty, w = .arrayClass ty := good_of_word (List.mem_filter.mp h).2
set_option maxRecDepth 100000 in
theorem inX0 : ∀ w ∈ u_ws RX0 TX0 6, w ∈ TT := List.forall_mem_cons.mpr ⟨tt_at 359 rfl rfl, List.forall_mem_cons.mpr ⟨tt_at 361 rfl rfl, List.forall_mem_cons.mpr ⟨tt_at 363 rfl rfl, List.forall_mem_cons.mpr ⟨tt_at 365 rfl rfl, List.forall_mem_cons.mpr ⟨tt_at 367 rfl rfl, List.forall_mem_cons.mpr ⟨tt_at 369 rfl rfl, fun _ h => absurd h List.not_mem_nil⟩⟩⟩⟩⟩⟩
set_option maxRecDepth 100000 in
theorem inX1 : ∀ w ∈ u_ws RX1 TX1 14, w ∈ TT := List.forall_mem_cons.mpr ⟨tt_at 209 rfl rfl, List.forall_mem_cons.mpr ⟨tt_at 211 rfl rfl, List.forall_mem_cons.mpr ⟨tt_at 213 rfl rfl, List.forall_mem_cons.mpr ⟨tt_at 215 rfl rfl, List.forall_mem_cons.mpr ⟨tt_at 217 rfl rfl, List.forall_mem_cons.mpr ⟨tt_at 219 rfl rfl, List.forall_mem_cons.mpr ⟨tt_at 221 rfl rfl, List.forall_mem_cons.mpr ⟨tt_at 223 rfl rfl, List.forall_mem_cons.mpr ⟨tt_at 225 rfl rfl, List.forall_mem_cons.mpr ⟨tt_at 227 rfl rfl, List.forall_mem_cons.mpr ⟨tt_at 229 rfl rfl, List.forall_mem_cons.mpr ⟨tt_at 231 rfl rfl, List.forall_mem_cons.mpr ⟨tt_at 233 rfl rfl, List.forall_mem_cons.mpr ⟨tt_at 235 rfl rfl, fun _ h => absurd h List.not_mem_nil⟩⟩⟩⟩⟩⟩⟩⟩⟩⟩⟩⟩⟩⟩
set_option maxRecDepth 100000 in
theorem inX2 : ∀ w ∈ u_ws RX2 TX2 8, w ∈ TT := List.forall_mem_cons.mpr ⟨tt_at 267 rfl rfl, List.forall_mem_cons.mpr ⟨tt_at 269 rfl rfl, List.forall_mem_cons.mpr ⟨tt_at 271 rfl rfl, List.forall_mem_cons.mpr ⟨tt_at 273 rfl rfl, List.forall_mem_cons.mpr ⟨tt_at 275 rfl rfl, List.forall_mem_cons.mpr ⟨tt_at 277 rfl rfl, List.forall_mem_cons.mpr ⟨tt_at 279 rfl rfl, List.forall_mem_cons.mpr ⟨tt_at 281 rfl rfl, fun _ h => absurd h List.not_mem_nil⟩⟩⟩⟩⟩⟩⟩⟩
set_option maxRecDepth 100000 in
theorem inX3 : ∀ w ∈ u_ws RX3 TX3 8, w ∈ TT := List.forall_mem_cons.mpr ⟨tt_at 386 rfl rfl, List.forall_mem_cons.mpr ⟨tt_at 388 rfl rfl, List.forall_mem_cons.mpr ⟨tt_at 390 rfl rfl, List.forall_mem_cons.mpr ⟨tt_at 392 rfl rfl, List.forall_mem_cons.mpr ⟨tt_at 394 rfl rfl, List.forall_mem_cons.mpr ⟨tt_at 396 rfl rfl, List.forall_mem_cons.mpr ⟨tt_at 398 rfl rfl, List.forall_mem_cons.mpr ⟨tt_at 400 rfl rfl, fun _ h => absurd h List.not_mem_nil⟩⟩⟩⟩⟩⟩⟩⟩
set_option maxRecDepth 100000 in
theorem inX4 : ∀ w ∈ u_ws RX4 TX4 2, w ∈ TT := List.forall_mem_cons.mpr ⟨tt_at 115 rfl rfl, List.forall_mem_cons.mpr ⟨tt_at 117 rfl rfl, fun _ h => absurd h List.not_mem_nil⟩⟩
set_option maxRecDepth 100000 in
theorem inX5 : ∀ w ∈ u_ws RX5 TX5 9, w ∈ TT := List.forall_mem_cons.mpr ⟨tt_at 328 rfl rfl, List.forall_mem_cons.mpr ⟨tt_at 330 rfl rfl, List.forall_mem_cons.mpr ⟨tt_at 332 rfl rfl, List.forall_mem_cons.mpr ⟨tt_at 334 rfl rfl, List.forall_mem_cons.mpr ⟨tt_at 336 rfl rfl, List.forall_mem_cons.mpr ⟨tt_at 338 rfl rfl, List.forall_mem_cons.mpr ⟨tt_at 340 rfl rfl, List.forall_mem_cons.mpr ⟨tt_at 342 rfl rfl, List.forall_mem_cons.mpr ⟨tt_at 344 rfl rfl, fun _ h => absurd h List.not_mem_nil⟩⟩⟩⟩⟩⟩⟩⟩⟩
set_option maxRecDepth 100000 in
theorem inX6 : ∀ w ∈ u_ws RX6 TX6 4, w ∈ TT := List.forall_mem_cons.mpr ⟨tt_at 242 rfl rfl, List.forall_mem_cons.mpr ⟨tt_at 244 rfl rfl, List.forall_mem_cons.mpr ⟨tt_at 246 rfl rfl, List.forall_mem_cons.mpr ⟨tt_at 248 rfl rfl, fun _ h => absurd h List.not_mem_nil⟩⟩⟩⟩
set_option maxRecDepth 100000 in
theorem inX7 : ∀ w ∈ u_ws RX7 TX7 7, w ∈ TT := List.forall_mem_cons.mpr ⟨tt_at 134 rfl rfl, List.forall_mem_cons.mpr ⟨tt_at 136 rfl rfl, List.forall_mem_cons.mpr ⟨tt_at 138 rfl rfl, List.forall_mem_cons.mpr ⟨tt_at 140 rfl rfl, List.forall_mem_cons.mpr ⟨tt_at 142 rfl rfl, List.forall_mem_cons.mpr ⟨tt_at 144 rfl rfl, List.forall_mem_cons.mpr ⟨tt_at 146 rfl rfl, fun _ h => absurd h List.not_mem_nil⟩⟩⟩⟩⟩⟩⟩
set_option maxRecDepth 100000 in
theorem inX8 : ∀ w ∈ u_ws RX8 TX8 7, w ∈ TT := List.forall_mem_cons.mpr ⟨tt_at 297 rfl rfl, List.forall_mem_cons.mpr ⟨tt_at 299 rfl rfl, List.forall_mem_cons.mpr ⟨tt_at 301 rfl rfl, List.forall_mem_cons.mpr ⟨tt_at 303 rfl rfl, List.forall_mem_cons.mpr ⟨tt_at 305 rfl rfl, List.forall_mem_cons.mpr ⟨tt_at 307 rfl rfl, List.forall_mem_cons.mpr ⟨tt_at 309 rfl rfl, fun _ h => absurd h List.not_mem_nil⟩⟩⟩⟩⟩⟩⟩
set_option maxRecDepth 100000 in
theorem inX9 : ∀ w ∈ u_ws RX9 TX9 2, w ∈ TT := List.forall_mem_cons.mpr ⟨tt_at 158 rfl rfl, List.forall_mem_cons.mpr ⟨tt_at 160 rfl rfl, fun _ h => absurd h List.not_mem_nil⟩⟩
set_option maxRecDepth 100000 in
theorem inX10 : ∀ w ∈ u_ws RX10 TX10 4, w ∈ TT := List.forall_mem_cons.mpr ⟨tt_at 180 rfl rfl, List.forall_mem_cons.mpr ⟨tt_at 182 rfl rfl, List.forall_mem_cons.mpr ⟨tt_at 184 rfl rfl, List.forall_mem_cons.mpr ⟨tt_at 186 rfl rfl, fun _ h => absurd h List.not_mem_nil⟩⟩⟩⟩
set_option maxRecDepth 100000 in
theorem inX11 : ∀ w ∈ u_ws RX11 TX11 10, w ∈ TT := List.forall_mem_cons.mpr ⟨tt_at 413 rfl rfl, List.forall_mem_cons.mpr ⟨tt_at 415 rfl rfl, List.forall_mem_cons.mpr ⟨tt_at 417 rfl rfl, List.forall_mem_cons.mpr ⟨tt_at 419 rfl rfl, List.forall_mem_cons.mpr ⟨tt_at 421 rfl rfl, List.forall_mem_cons.mpr ⟨tt_at 423 rfl rfl, List.forall_mem_cons.mpr ⟨tt_at 425 rfl rfl, List.forall_mem_cons.mpr ⟨tt_at 427 rfl rfl, List.forall_mem_cons.mpr ⟨tt_at 429 rfl rfl, List.forall_mem_cons.mpr ⟨tt_at 431 rfl rfl, fun _ h => absurd h List.not_mem_nil⟩⟩⟩⟩⟩⟩⟩⟩⟩⟩
set_option maxRecDepth 100000 in
theorem inX12 : ∀ w ∈ u_ws RX12 TX12 52, w ∈ TT := List.forall_mem_cons.mpr ⟨tt_at 1304 rfl rfl, List.forall_mem_cons.mpr ⟨tt_at 1306 rfl rfl, List.forall_mem_cons.mpr ⟨tt_at 1308 rfl rfl, List.forall_mem_cons.mpr ⟨tt_at 1310 rfl rfl, List.forall_mem_cons.mpr ⟨tt_at 1312 rfl rfl, List.forall_mem_cons.mpr ⟨tt_at 1314 rfl rfl, List.forall_mem_cons.mpr ⟨tt_at 1316 rfl rfl, List.forall_mem_cons.mpr ⟨tt_at 1318 rfl rfl, List.forall_mem_cons.mpr ⟨tt_at 1320 rfl rfl, List.forall_mem_cons.mpr ⟨tt_at 1322 rfl rfl, List.forall_mem_cons.mpr ⟨tt_at 1324 rfl rfl, List.forall_mem_cons.mpr ⟨tt_at 1326 rfl rfl, List.forall_mem_cons.mpr ⟨tt_at 1328 rfl rfl, List.forall_mem_cons.mpr ⟨tt_at 1330 rfl rfl, List.forall_mem_cons.mpr ⟨tt_at 1332 rfl rfl, List.forall_mem_cons.mpr ⟨tt_at 1334 rfl rfl, List.forall_mem_cons.mpr ⟨tt_at 1336 rfl rfl, List.forall_mem_cons.mpr ⟨tt_at 1338 rfl rfl, List.forall_mem_cons.mpr ⟨tt_at 1340 rfl rfl, List.forall_mem_cons.mpr ⟨tt_at 1342 rfl rfl, List.forall_mem_cons.mpr ⟨tt_at 1344 rfl rfl, List.forall_mem_cons.mpr ⟨tt_at 1346 rfl rfl, List.forall_mem_cons.mpr ⟨tt_at 1348 rfl rfl, List.forall_mem_cons.mpr ⟨tt_at 1350 rfl rfl, List.forall_mem_cons.mpr ⟨tt_at 1352 rfl rfl, List.forall_mem_cons.mpr ⟨tt_at 1354 rfl rfl, List.forall_mem_cons.mpr ⟨tt_at 1356 rfl rfl, List.forall_mem_cons.mpr ⟨tt_at 1358 rfl rfl, List.forall_mem_cons.mpr ⟨tt_at 1360 rfl rfl, List.forall_mem_cons.mpr ⟨tt_at 1362 rfl rfl, List.forall_mem_cons.mpr ⟨tt_at 1364 rfl rfl, List.forall_mem_cons.mpr ⟨tt_at 1366 rfl rfl, List.forall_mem_cons.mpr ⟨tt_at 1368 rfl rfl, List.forall_mem_cons.mpr ⟨tt_at 1370 rfl rfl, List.forall_mem_cons.mpr ⟨tt_at 1372 rfl rfl, List.forall_mem_cons.mpr ⟨tt_at 1374 rfl rfl, List.forall_mem_cons.mpr ⟨tt_at 1376 rfl rfl, List.forall_mem_cons.mpr ⟨tt_at 1378 rfl rfl, List.forall_mem_cons.mpr ⟨tt_at 1380 rfl rfl, List.forall_mem_cons.mpr ⟨tt_at 1382 rfl rfl, List.forall_mem_cons.mpr ⟨tt_at 1384 rfl rfl, List.forall_mem_cons.mpr ⟨tt_at 1386 rfl rfl, List.forall_mem_cons.mpr ⟨tt_at 1388 rfl rfl, List.forall_mem_cons.mpr ⟨tt_at 1390 rfl rfl, List.forall_mem_cons.mpr ⟨tt_at 1392 rfl rfl, List.forall_mem_cons.mpr ⟨tt_at 1394 rfl rfl, List.forall_mem_cons.mpr ⟨tt_at 1396 rfl rfl, List.forall_mem_cons.mpr ⟨tt_at 1398 rfl rfl, List.forall_mem_cons.mpr ⟨tt_at 1400 rfl rfl, List.forall_mem_cons.mpr ⟨tt_at 1402 rfl rfl, List.forall_mem_cons.mpr ⟨tt_at 1404 rfl rfl, List.forall_mem_cons.mpr ⟨tt_at 1406 rfl rfl, fun _ h => absurd h List.not_mem_nil⟩⟩⟩⟩⟩⟩⟩⟩⟩⟩⟩⟩⟩⟩⟩⟩⟩⟩⟩⟩⟩⟩⟩⟩⟩⟩⟩⟩⟩⟩⟩⟩⟩⟩⟩⟩⟩⟩⟩⟩⟩⟩⟩⟩⟩⟩⟩⟩⟩⟩⟩⟩
end
section
/-! shapes: every cell of the class and of the reference behind their constructors, by its number -/
abbrev Shp : Type := (Nat × List (Option Nat)) ⊕ (FieldType × Nat)
def shp : List Shp := [
  .inl (4, [some 1, some 2]),
  .inr (.int, 101),
  .inr (.int, 101),
  .inl (7, [some 4, some 5, some 6, some 7, none, none, none]),
  .inr (.int, 640),
  .inr (.int, 40),
  .inr (.boolean, 40),
  .inr (.int, 16),
  .inl (9, [some 9, none]),
  .inr (.char, 1200),
  .inl (10, [some 11, some 12, none, none]),
  .inr (.int, 1201),
  .inr (.int, 1201),
  .inl (1, [none, some 14, some 15, some 16, some 17, some 18, some 19, none, some 20, none, some 21, some 22, some 23, none]),
  .inr (.int, 12),
  .inr (.int, 12),
  .inr (.int, 12),
  .inr (.int, 12),
  .inr (.int, 120),
  .inr (.int, 120),
  .inr (.int, 10),
  .inr (.int, 6),
  .inr (.int, 6),
  .inr (.int, 6),
  .inl (6, [some 8, some 10, some 13, none]),
  .inl (1, [none, some 26, some 27, some 28, some 29, some 30, some 31, none, some 32, none, some 33, some 34, some 35, none]),
  .inr (.int, 12),
  .inr (.int, 12),
  .inr (.int, 12),
  .inr (.int, 12),
  .inr (.int, 120),
  .inr (.int, 120),
  .inr (.int, 10),
  .inr (.int, 6),
  .inr (.int, 6),
  .inr (.int, 6),
  .inl (2, [some 0, some 3, some 25, some 37, some 38, some 39, some 40, some 41]),
  .inr (.int, 7680),
  .inr (.int, 480),
  .inr (.boolean, 40),
  .inr (.boolean, 40),
  .inr (.int, 10),
  .inl (8, [some 0, some 3, some 25, some 36, some 43, some 44, none]),
  .inr (.long, 1010),
  .inr (.long, 1010),
  .inl (5, [some 3, some 25, some 36, some 46, some 47, some 48, some 49, some 50, none]),
  .inr (.int, 60),
  .inr (.int, 60),
  .inr (.int, 60),
  .inr (.int, 60),
  .inr (.boolean, 60),
  .inl (0, [some 52, some 53, none, none, none, none]),
  .inr (.long, 12),
  .inr (.long, 12),
  .inl (3, [some 0, some 3, some 45, some 55, some 56, none, none, none]),
  .inr (.int, 16),
  .inr (.int, 16),
  .inl (11, [some 0, some 3, some 8, some 24, some 25, some 36, some 42, some 45, some 51, some 54]),
  .inl (12, [none, some 59, none, none, some 60, some 61, some 62, none, none, some 63, none, none, some 64, some 65, some 66, some 67, some 68, some 69, some 70, some 71, some 72, some 73, some 74, some 75, none, none, some 76, some 77, none, some 78, none, some 79, some 80, some 81, none, some 82, some 83, some 84, some 85, none, some 86, some 87, some 88, some 89, some 90, some 91, some 92, none, none, none, some 93, some 94]),
  .inr (.int, 1200),
  .inr (.int, 1202),
  .inr (.int, 1202),
  .inr (.long, 1202),
  .inr (.long, 10),
  .inr (.int, 2),
  .inr (.int, 24),
  .inr (.int, 24),
  .inr (.boolean, 240),
  .inr (.int, 240),
  .inr (.int, 240),
  .inr (.int, 240),
  .inr (.int, 2),
  .inr (.int, 20),
  .inr (.int, 2),
  .inr (.int, 36),
  .inr (.boolean, 20),
  .inr (.int, 101),
  .inr (.int, 101),
  .inr (.int, 16),
  .inr (.int, 40),
  .inr (.int, 640),
  .inr (.boolean, 40),
  .inr (.boolean, 122880),
  .inr (.boolean, 4913),
  .inr (.boolean, 4913),
  .inr (.boolean, 102010),
  .inr (.int, 60),
  .inr (.int, 60),
  .inr (.int, 60),
  .inr (.int, 60),
  .inr (.boolean, 60),
  .inr (.long, 12),
  .inr (.long, 12),
  .inr (.int, 16),
  .inr (.int, 16)]
abbrev NS : Nat := 95
theorem shp_len : shp.length = NS := rfl
theorem shp_small : (shp.all fun x => match x with | .inr (_, n) => Nat.ble n 200000 | _ => true) = true := by decide +kernel
def clN : List String := ["RowDrawer$BestSet", "RowDrawer$Book", "RowDrawer$Finder", "RowDrawer$Lesson", "RowDrawer$Lexicon", "RowDrawer$Marks", "RowDrawer$Reader", "RowDrawer$Sentences", "RowDrawer$Table", "RowDrawer$Tape", "RowDrawer$Tokens", "RowDrawer", "RowDrawerModel", "java/lang/Integer", "java/lang/Long", "java/lang/Math", "java/util/Arrays", "java/lang/String"]
abbrev MI : Type := Nat × MethodName × ByteArray × Nat × Option FieldType
def mK (μ : MI) : Nat := μ.1
def mY (μ : MI) : MethodName := μ.2.1
def mB (μ : MI) : ByteArray := μ.2.2.1
def mL (μ : MI) : Nat := μ.2.2.2.1
def mR (μ : MI) : Option FieldType := μ.2.2.2.2
def FL (own : String) (q : Nat × Nat × Nat) : Prop := ∃ (C : String) (Tb : u_T) (N : Nat), vwCl[q.2.1]? = some (C, Tb, N) ∧ q.2.2 < N ∧ Cond.fieldLink own q.1 (Tb q.2.2).1 (Tb q.2.2).2.1 (Tb q.2.2).2.2.1 ∈ TT ∧ (∀ w ∈ u_ws C Tb N, w ∈ TT)
def PL (own : String) (q : Nat × Nat × Nat × Nat) : Prop := ∃ (C : String) (Tb : u_T) (N : Nat) (ty0 : Nat → FieldType), vwCl[q.2.1]? = some (C, Tb, N) ∧ q.2.2.1 < N ∧ Cond.fieldLink own q.1 (Tb q.2.2.1).1 (Tb q.2.2.1).2.1 (Tb q.2.2.1).2.2.1 ∈ TT ∧ (∀ w ∈ u_ws C Tb N, w ∈ TT) ∧ (∀ k, k < N → parseFieldDescriptor (Tb k).2.2.1 = some (ty0 k)) ∧ (∀ a, a < N → ∀ b, b < N → a ≠ b → (Tb a).2.1 ≠ (Tb b).2.1) ∧ (Tb q.2.2.1).2.2.2 = false ∧ parseFieldDescriptor (Tb q.2.2.1).2.2.1 = some (if q.2.2.2 = 0 then .int else .boolean)
def MOK (q : MI × Nat × Bool) : Prop := Cond.code (mY q.1) (mB q.1) (mL q.1) (mR q.1) ∈ TT ∧ Cond.initialized (mY q.1).cls ∈ TT ∧ (mY q.1).cls ≠ "java/lang/invoke/MethodHandle" ∧ (mY q.1).cls ≠ "java/lang/invoke/VarHandle" ∧ (parseMethodDescriptor (mY q.1).desc).map (fun d => d.parameters.length) = some q.2.1 ∧ (if q.2.2 = true then Cond.static (mY q.1) ∈ TT else Cond.instanceMethod (mY q.1) ∈ TT ∧ Cond.selects (mY q.1).cls (mY q.1) (mY q.1) ∈ TT) ∧ plainName (mY q.1).cls = true ∧ mL q.1 ≤ 21 ∧ (mY q.1).cls = clN.getD (mK q.1) ""
def nestL : List (String × Nat × MethodName × String) := [("RowDrawer$Book", 61, ⟨"RowDrawer", "isRelation", "(I)Z"⟩, "RowDrawer"), ("RowDrawer$Table", 92, ⟨"RowDrawer", "isRelation", "(I)Z"⟩, "RowDrawer")]
def m_BestSet_setCaught : MI := (0, ⟨"RowDrawer$BestSet", "setCaught", "(IJJ)V"⟩, prog_2_method_2_code, 6, none)
def m_BestSet_choose : MI := (0, ⟨"RowDrawer$BestSet", "choose", "(II)I"⟩, prog_2_method_3_code, 3, (some .int))
def m_BestSet_tryFrom : MI := (0, ⟨"RowDrawer$BestSet", "tryFrom", "(IIJJ)V"⟩, prog_2_method_4_code, 7, none)
def m_BestSet_weigh : MI := (0, ⟨"RowDrawer$BestSet", "weigh", "(II)V"⟩, prog_2_method_5_code, 4, none)
def m_Book_clear : MI := (1, ⟨"RowDrawer$Book", "clear", "()V"⟩, prog_3_method_2_code, 1, none)
def m_Book_become : MI := (1, ⟨"RowDrawer$Book", "become", "(LRowDrawer$Book;)V"⟩, prog_3_method_3_code, 2, none)
def m_Book_openRule : MI := (1, ⟨"RowDrawer$Book", "openRule", "(I)V"⟩, prog_3_method_4_code, 2, none)
def m_Book_openRuleHas : MI := (1, ⟨"RowDrawer$Book", "openRuleHas", "(I)Z"⟩, prog_3_method_5_code, 2, (some .boolean))
def m_Book_addItem : MI := (1, ⟨"RowDrawer$Book", "addItem", "(III)V"⟩, prog_3_method_6_code, 5, none)
def m_Book_closeRule : MI := (1, ⟨"RowDrawer$Book", "closeRule", "()V"⟩, prog_3_method_7_code, 1, none)
def m_Book_addBar : MI := (1, ⟨"RowDrawer$Book", "addBar", "(I)V"⟩, prog_3_method_8_code, 2, none)
def m_Book_addChain : MI := (1, ⟨"RowDrawer$Book", "addChain", "(III)V"⟩, prog_3_method_9_code, 4, none)
def m_Book_addSingle : MI := (1, ⟨"RowDrawer$Book", "addSingle", "(I)V"⟩, prog_3_method_10_code, 2, none)
def m_Book_rules : MI := (1, ⟨"RowDrawer$Book", "rules", "()I"⟩, prog_3_method_11_code, 1, (some .int))
def m_Book_bars : MI := (1, ⟨"RowDrawer$Book", "bars", "()I"⟩, prog_3_method_12_code, 1, (some .int))
def m_Book_chains : MI := (1, ⟨"RowDrawer$Book", "chains", "()I"⟩, prog_3_method_13_code, 1, (some .int))
def m_Book_hasRule : MI := (1, ⟨"RowDrawer$Book", "hasRule", "(I)Z"⟩, prog_3_method_14_code, 2, (some .boolean))
def m_Book_relationOf : MI := (1, ⟨"RowDrawer$Book", "relationOf", "(I)I"⟩, prog_3_method_15_code, 2, (some .int))
def m_Book_itemsOf : MI := (1, ⟨"RowDrawer$Book", "itemsOf", "(I)I"⟩, prog_3_method_16_code, 2, (some .int))
def m_Book_leftItem : MI := (1, ⟨"RowDrawer$Book", "leftItem", "(I)I"⟩, prog_3_method_17_code, 2, (some .int))
def m_Book_rightItem : MI := (1, ⟨"RowDrawer$Book", "rightItem", "(I)I"⟩, prog_3_method_18_code, 2, (some .int))
def m_Book_kindOf : MI := (1, ⟨"RowDrawer$Book", "kindOf", "(II)I"⟩, prog_3_method_19_code, 3, (some .int))
def m_Book_numberOf : MI := (1, ⟨"RowDrawer$Book", "numberOf", "(II)I"⟩, prog_3_method_20_code, 3, (some .int))
def m_Book_hasItem : MI := (1, ⟨"RowDrawer$Book", "hasItem", "(II)Z"⟩, prog_3_method_21_code, 3, (some .boolean))
def m_Book_isBarred : MI := (1, ⟨"RowDrawer$Book", "isBarred", "(I)Z"⟩, prog_3_method_22_code, 3, (some .boolean))
def m_Book_chainGoal : MI := (1, ⟨"RowDrawer$Book", "chainGoal", "(I)I"⟩, prog_3_method_23_code, 2, (some .int))
def m_Book_chainFirst : MI := (1, ⟨"RowDrawer$Book", "chainFirst", "(I)I"⟩, prog_3_method_24_code, 2, (some .int))
def m_Book_chainSecond : MI := (1, ⟨"RowDrawer$Book", "chainSecond", "(I)I"⟩, prog_3_method_25_code, 2, (some .int))
def m_Book_isSingle : MI := (1, ⟨"RowDrawer$Book", "isSingle", "(I)Z"⟩, prog_3_method_26_code, 2, (some .boolean))
def m_Finder_forget : MI := (2, ⟨"RowDrawer$Finder", "forget", "(I)V"⟩, prog_4_method_2_code, 2, none)
def m_Finder_forgetThoseWith : MI := (2, ⟨"RowDrawer$Finder", "forgetThoseWith", "(I)V"⟩, prog_4_method_3_code, 4, none)
def m_Finder_forgetAll : MI := (2, ⟨"RowDrawer$Finder", "forgetAll", "()V"⟩, prog_4_method_4_code, 2, none)
def m_Finder_refresh : MI := (2, ⟨"RowDrawer$Finder", "refresh", "()V"⟩, prog_4_method_5_code, 2, none)
def m_Finder_drawSentence : MI := (2, ⟨"RowDrawer$Finder", "drawSentence", "(I)V"⟩, prog_4_method_6_code, 3, none)
def m_Finder_clearSentence : MI := (2, ⟨"RowDrawer$Finder", "clearSentence", "(I)V"⟩, prog_4_method_7_code, 4, none)
def m_Finder_hasBarredWord : MI := (2, ⟨"RowDrawer$Finder", "hasBarredWord", "(I)Z"⟩, prog_4_method_8_code, 3, (some .boolean))
def m_Finder_drawRule : MI := (2, ⟨"RowDrawer$Finder", "drawRule", "(II)V"⟩, prog_4_method_9_code, 13, none)
def m_Finder_fitItems : MI := (2, ⟨"RowDrawer$Finder", "fitItems", "(II)V"⟩, prog_4_method_10_code, 5, none)
def m_Finder_placesOf : MI := (2, ⟨"RowDrawer$Finder", "placesOf", "(III)I"⟩, prog_4_method_11_code, 6, (some .int))
def m_Finder_forward : MI := (2, ⟨"RowDrawer$Finder", "forward", "(IIII)I"⟩, prog_4_method_12_code, 7, (some .int))
def m_Finder_backward : MI := (2, ⟨"RowDrawer$Finder", "backward", "(III)I"⟩, prog_4_method_13_code, 6, (some .int))
def m_Finder_keepPairs : MI := (2, ⟨"RowDrawer$Finder", "keepPairs", "(IIIZ)V"⟩, prog_4_method_14_code, 6, none)
def m_Finder_countPairs : MI := (2, ⟨"RowDrawer$Finder", "countPairs", "(II)I"⟩, prog_4_method_15_code, 5, (some .int))
def m_Finder_rightPlaces : MI := (2, ⟨"RowDrawer$Finder", "rightPlaces", "(III)I"⟩, prog_4_method_16_code, 4, (some .int))
def m_Finder_isBarred : MI := (2, ⟨"RowDrawer$Finder", "isBarred", "(I)Z"⟩, prog_4_method_17_code, 2, (some .boolean))
def m_Finder_has : MI := (2, ⟨"RowDrawer$Finder", "has", "(IIII)Z"⟩, prog_4_method_18_code, 5, (some .boolean))
def m_Finder_total : MI := (2, ⟨"RowDrawer$Finder", "total", "(Z)I"⟩, prog_4_method_19_code, 5, (some .int))
def m_Finder_totalOfRule : MI := (2, ⟨"RowDrawer$Finder", "totalOfRule", "(I)I"⟩, prog_4_method_20_code, 4, (some .int))
def m_Finder_tellOf : MI := (2, ⟨"RowDrawer$Finder", "tellOf", "(II)I"⟩, prog_4_method_21_code, 7, (some .int))
def m_Finder_tellWithin : MI := (2, ⟨"RowDrawer$Finder", "tellWithin", "(IIII)I"⟩, prog_4_method_22_code, 8, (some .int))
def m_Finder_part : MI := (2, ⟨"RowDrawer$Finder", "part", "(IIIII)I"⟩, prog_4_method_23_code, 6, (some .int))
def m_Lesson_study : MI := (3, ⟨"RowDrawer$Lesson", "study", "(I)I"⟩, prog_5_method_2_code, 4, (some .int))
def m_Lesson_begin : MI := (3, ⟨"RowDrawer$Lesson", "begin", "(II)V"⟩, prog_5_method_3_code, 5, none)
def m_Lesson_isLike : MI := (3, ⟨"RowDrawer$Lesson", "isLike", "(I)Z"⟩, prog_5_method_4_code, 3, (some .boolean))
def m_Lesson_wordAt : MI := (3, ⟨"RowDrawer$Lesson", "wordAt", "(II)I"⟩, prog_5_method_5_code, 4, (some .int))
def m_Lesson_widen : MI := (3, ⟨"RowDrawer$Lesson", "widen", "(I)V"⟩, prog_5_method_6_code, 4, none)
def m_Lesson_tellOf : MI := (3, ⟨"RowDrawer$Lesson", "tellOf", "(II)I"⟩, prog_5_method_7_code, 3, (some .int))
def m_Lesson_roleOf : MI := (3, ⟨"RowDrawer$Lesson", "roleOf", "(I)I"⟩, prog_5_method_8_code, 2, (some .int))
def m_Lesson_caught : MI := (3, ⟨"RowDrawer$Lesson", "caught", "(Z)I"⟩, prog_5_method_9_code, 4, (some .int))
def m_Lesson_standsAt : MI := (3, ⟨"RowDrawer$Lesson", "standsAt", "(I)Z"⟩, prog_5_method_10_code, 3, (some .boolean))
def m_Lexicon_has : MI := (4, ⟨"RowDrawer$Lexicon", "has", "(I)Z"⟩, prog_6_method_2_code, 1, (some .boolean))
def m_Lexicon_setSort : MI := (4, ⟨"RowDrawer$Lexicon", "setSort", "(II)Z"⟩, prog_6_method_3_code, 3, (some .boolean))
def m_Lexicon_sortOf : MI := (4, ⟨"RowDrawer$Lexicon", "sortOf", "(I)I"⟩, prog_6_method_4_code, 2, (some .int))
def m_Lexicon_link : MI := (4, ⟨"RowDrawer$Lexicon", "link", "(II)Z"⟩, prog_6_method_5_code, 3, (some .boolean))
def m_Lexicon_leadsTo : MI := (4, ⟨"RowDrawer$Lexicon", "leadsTo", "(II)Z"⟩, prog_6_method_6_code, 5, (some .boolean))
def m_Lexicon_nameOf : MI := (4, ⟨"RowDrawer$Lexicon", "nameOf", "(I)I"⟩, prog_6_method_7_code, 4, (some .int))
def m_Lexicon_fits : MI := (4, ⟨"RowDrawer$Lexicon", "fits", "(III)Z"⟩, prog_6_method_8_code, 4, (some .boolean))
def m_Marks_put : MI := (5, ⟨"RowDrawer$Marks", "put", "(IIIIZ)I"⟩, prog_7_method_2_code, 7, (some .int))
def m_Marks_indexOf : MI := (5, ⟨"RowDrawer$Marks", "indexOf", "(IIII)I"⟩, prog_7_method_3_code, 6, (some .int))
def m_Marks_size : MI := (5, ⟨"RowDrawer$Marks", "size", "()I"⟩, prog_7_method_4_code, 1, (some .int))
def m_Marks_isUsable : MI := (5, ⟨"RowDrawer$Marks", "isUsable", "(IIZ)Z"⟩, prog_7_method_5_code, 4, (some .boolean))
def m_Marks_sentenceOf : MI := (5, ⟨"RowDrawer$Marks", "sentenceOf", "(I)I"⟩, prog_7_method_6_code, 2, (some .int))
def m_Marks_leftOf : MI := (5, ⟨"RowDrawer$Marks", "leftOf", "(I)I"⟩, prog_7_method_7_code, 2, (some .int))
def m_Marks_rightOf : MI := (5, ⟨"RowDrawer$Marks", "rightOf", "(I)I"⟩, prog_7_method_8_code, 2, (some .int))
def m_Marks_caughtBy : MI := (5, ⟨"RowDrawer$Marks", "caughtBy", "(IZ)J"⟩, prog_7_method_9_code, 7, (some .long))
def m_Marks_shareOf : MI := (5, ⟨"RowDrawer$Marks", "shareOf", "(I)I"⟩, prog_7_method_10_code, 4, (some .int))
def m_Reader_draft : MI := (6, ⟨"RowDrawer$Reader", "draft", "()LRowDrawer$Book;"⟩, prog_8_method_2_code, 1, (some (.object "RowDrawer$Book")))
def m_Reader_read : MI := (6, ⟨"RowDrawer$Reader", "read", "()I"⟩, prog_8_method_3_code, 2, (some .int))
def m_Reader_readRule : MI := (6, ⟨"RowDrawer$Reader", "readRule", "()V"⟩, prog_8_method_4_code, 3, none)
def m_Reader_readItem : MI := (6, ⟨"RowDrawer$Reader", "readItem", "(I)Z"⟩, prog_8_method_5_code, 4, (some .boolean))
def m_Reader_isSpec : MI := (6, ⟨"RowDrawer$Reader", "isSpec", "(I)Z"⟩, prog_8_method_6_code, 1, (some .boolean))
def m_Reader_readSpec : MI := (6, ⟨"RowDrawer$Reader", "readSpec", "(I)Z"⟩, prog_8_method_7_code, 5, (some .boolean))
def m_Reader_readBar : MI := (6, ⟨"RowDrawer$Reader", "readBar", "()V"⟩, prog_8_method_8_code, 2, none)
def m_Reader_readChain : MI := (6, ⟨"RowDrawer$Reader", "readChain", "()V"⟩, prog_8_method_9_code, 4, none)
def m_Reader_readSingle : MI := (6, ⟨"RowDrawer$Reader", "readSingle", "()V"⟩, prog_8_method_10_code, 2, none)
def m_Reader_readNumber : MI := (6, ⟨"RowDrawer$Reader", "readNumber", "(II)I"⟩, prog_8_method_11_code, 4, (some .int))
def m_Reader_readSign : MI := (6, ⟨"RowDrawer$Reader", "readSign", "(I)Z"⟩, prog_8_method_12_code, 2, (some .boolean))
def m_Reader_fail : MI := (6, ⟨"RowDrawer$Reader", "fail", "(I)Z"⟩, prog_8_method_13_code, 2, (some .boolean))
def m_Sentences_tell : MI := (7, ⟨"RowDrawer$Sentences", "tell", "(I)I"⟩, prog_9_method_2_code, 2, (some .int))
def m_Sentences_close : MI := (7, ⟨"RowDrawer$Sentences", "close", "()I"⟩, prog_9_method_3_code, 2, (some .int))
def m_Sentences_remove : MI := (7, ⟨"RowDrawer$Sentences", "remove", "(I)Z"⟩, prog_9_method_4_code, 2, (some .boolean))
def m_Sentences_isThere : MI := (7, ⟨"RowDrawer$Sentences", "isThere", "(I)Z"⟩, prog_9_method_5_code, 2, (some .boolean))
def m_Sentences_lengthOf : MI := (7, ⟨"RowDrawer$Sentences", "lengthOf", "(I)I"⟩, prog_9_method_6_code, 2, (some .int))
def m_Sentences_wordAt : MI := (7, ⟨"RowDrawer$Sentences", "wordAt", "(II)I"⟩, prog_9_method_7_code, 4, (some .int))
def m_Sentences_told : MI := (7, ⟨"RowDrawer$Sentences", "told", "()I"⟩, prog_9_method_8_code, 1, (some .int))
def m_Sentences_came : MI := (7, ⟨"RowDrawer$Sentences", "came", "()I"⟩, prog_9_method_9_code, 1, (some .int))
def m_Sentences_present : MI := (7, ⟨"RowDrawer$Sentences", "present", "()I"⟩, prog_9_method_10_code, 1, (some .int))
def m_Table_forget : MI := (8, ⟨"RowDrawer$Table", "forget", "()V"⟩, prog_10_method_2_code, 1, none)
def m_Table_refresh : MI := (8, ⟨"RowDrawer$Table", "refresh", "()V"⟩, prog_10_method_3_code, 2, none)
def m_Table_addFindsOf : MI := (8, ⟨"RowDrawer$Table", "addFindsOf", "(I)V"⟩, prog_10_method_4_code, 6, none)
def m_Table_nameAt : MI := (8, ⟨"RowDrawer$Table", "nameAt", "(II)I"⟩, prog_10_method_5_code, 3, (some .int))
def m_Table_addRow : MI := (8, ⟨"RowDrawer$Table", "addRow", "(III)V"⟩, prog_10_method_6_code, 4, none)
def m_Table_followChains : MI := (8, ⟨"RowDrawer$Table", "followChains", "()V"⟩, prog_10_method_7_code, 4, none)
def m_Table_followChain : MI := (8, ⟨"RowDrawer$Table", "followChain", "(III)Z"⟩, prog_10_method_8_code, 6, (some .boolean))
def m_Table_followFrom : MI := (8, ⟨"RowDrawer$Table", "followFrom", "(IIII)Z"⟩, prog_10_method_9_code, 11, (some .boolean))
def m_Table_hasRow : MI := (8, ⟨"RowDrawer$Table", "hasRow", "(III)Z"⟩, prog_10_method_10_code, 5, (some .boolean))
def m_Table_degree : MI := (8, ⟨"RowDrawer$Table", "degree", "(II)I"⟩, prog_10_method_11_code, 4, (some .int))
def m_Table_size : MI := (8, ⟨"RowDrawer$Table", "size", "(I)I"⟩, prog_10_method_12_code, 4, (some .int))
def m_Table_name : MI := (8, ⟨"RowDrawer$Table", "name", "(IIZ)I"⟩, prog_10_method_13_code, 7, (some .int))
def m_Table_secondName : MI := (8, ⟨"RowDrawer$Table", "secondName", "(III)I"⟩, prog_10_method_14_code, 6, (some .int))
def m_Table_quarrelling : MI := (8, ⟨"RowDrawer$Table", "quarrelling", "(II)I"⟩, prog_10_method_15_code, 5, (some .int))
def m_Tape_put : MI := (9, ⟨"RowDrawer$Tape", "put", "(J)V"⟩, prog_11_method_2_code, 5, none)
def m_Tape_isKnown : MI := (9, ⟨"RowDrawer$Tape", "isKnown", "(I)Z"⟩, prog_11_method_3_code, 1, (some .boolean))
def m_Tape_length : MI := (9, ⟨"RowDrawer$Tape", "length", "()I"⟩, prog_11_method_4_code, 1, (some .int))
def m_Tape_at : MI := (9, ⟨"RowDrawer$Tape", "at", "(I)C"⟩, prog_11_method_5_code, 2, (some .char))
def m_Tape_clear : MI := (9, ⟨"RowDrawer$Tape", "clear", "()V"⟩, prog_11_method_6_code, 1, none)
def m_Tokens_scan : MI := (10, ⟨"RowDrawer$Tokens", "scan", "(LRowDrawer$Tape;)V"⟩, prog_12_method_2_code, 3, none)
def m_Tokens_add : MI := (10, ⟨"RowDrawer$Tokens", "add", "(II)V"⟩, prog_12_method_3_code, 3, none)
def m_Tokens_code : MI := (10, ⟨"RowDrawer$Tokens", "code", "()I"⟩, prog_12_method_4_code, 1, (some .int))
def m_Tokens_place : MI := (10, ⟨"RowDrawer$Tokens", "place", "()I"⟩, prog_12_method_5_code, 1, (some .int))
def m_Tokens_advance : MI := (10, ⟨"RowDrawer$Tokens", "advance", "()V"⟩, prog_12_method_6_code, 1, none)
def m_Tokens_goesOn : MI := (10, ⟨"RowDrawer$Tokens", "goesOn", "(LRowDrawer$Tape;I)Z"⟩, prog_12_method_7_code, 4, (some .boolean))
def m_Tokens_codeAt : MI := (10, ⟨"RowDrawer$Tokens", "codeAt", "(LRowDrawer$Tape;I)I"⟩, prog_12_method_8_code, 3, (some .int))
def m_Tokens_numberCode : MI := (10, ⟨"RowDrawer$Tokens", "numberCode", "(LRowDrawer$Tape;I)I"⟩, prog_12_method_9_code, 5, (some .int))
def m_Tokens_wordCode : MI := (10, ⟨"RowDrawer$Tokens", "wordCode", "(LRowDrawer$Tape;I)I"⟩, prog_12_method_10_code, 3, (some .int))
def m_Tokens_sWordCode : MI := (10, ⟨"RowDrawer$Tokens", "sWordCode", "(LRowDrawer$Tape;I)I"⟩, prog_12_method_11_code, 2, (some .int))
def m_Tokens_stands : MI := (10, ⟨"RowDrawer$Tokens", "stands", "(LRowDrawer$Tape;ILjava/lang/String;)Z"⟩, prog_12_method_12_code, 4, (some .boolean))
def m_Tokens_isBlank : MI := (10, ⟨"RowDrawer$Tokens", "isBlank", "(C)Z"⟩, prog_12_method_13_code, 1, (some .boolean))
def m_Tokens_isLetter : MI := (10, ⟨"RowDrawer$Tokens", "isLetter", "(C)Z"⟩, prog_12_method_14_code, 1, (some .boolean))
def m_Tokens_isDigit : MI := (10, ⟨"RowDrawer$Tokens", "isDigit", "(C)Z"⟩, prog_12_method_15_code, 1, (some .boolean))
def m_D_sort : MI := (11, ⟨"RowDrawer", "sort", "(II)Z"⟩, prog_1_method_2_code, 3, (some .boolean))
def m_D_join : MI := (11, ⟨"RowDrawer", "join", "(II)Z"⟩, prog_1_method_3_code, 3, (some .boolean))
def m_D_word : MI := (11, ⟨"RowDrawer", "word", "(I)I"⟩, prog_1_method_4_code, 2, (some .int))
def m_D_sentence : MI := (11, ⟨"RowDrawer", "sentence", "()I"⟩, prog_1_method_5_code, 2, (some .int))
def m_D_take : MI := (11, ⟨"RowDrawer", "take", "(I)Z"⟩, prog_1_method_6_code, 2, (some .boolean))
def m_D_feed : MI := (11, ⟨"RowDrawer", "feed", "(JJJ)I"⟩, prog_1_method_7_code, 7, (some .int))
def m_D_text : MI := (11, ⟨"RowDrawer", "text", "()I"⟩, prog_1_method_8_code, 2, (some .int))
def m_D_finds : MI := (11, ⟨"RowDrawer", "finds", "()I"⟩, prog_1_method_9_code, 1, (some .int))
def m_D_find : MI := (11, ⟨"RowDrawer", "find", "(II)I"⟩, prog_1_method_10_code, 3, (some .int))
def m_D_rows : MI := (11, ⟨"RowDrawer", "rows", "(I)I"⟩, prog_1_method_11_code, 2, (some .int))
def m_D_row : MI := (11, ⟨"RowDrawer", "row", "(III)I"⟩, prog_1_method_12_code, 4, (some .int))
def m_D_quarrel : MI := (11, ⟨"RowDrawer", "quarrel", "(II)I"⟩, prog_1_method_13_code, 3, (some .int))
def m_D_mark : MI := (11, ⟨"RowDrawer", "mark", "(IIIIZ)I"⟩, prog_1_method_14_code, 7, (some .int))
def m_D_best : MI := (11, ⟨"RowDrawer", "best", "(I)I"⟩, prog_1_method_16_code, 4, (some .int))
def m_D_learn : MI := (11, ⟨"RowDrawer", "learn", "(I)I"⟩, prog_1_method_17_code, 2, (some .int))
def m_D_learnt : MI := (11, ⟨"RowDrawer", "learnt", "(II)I"⟩, prog_1_method_18_code, 3, (some .int))
def m_D_catches : MI := (11, ⟨"RowDrawer", "catches", "(Z)I"⟩, prog_1_method_19_code, 2, (some .int))
def m_D_named : MI := (11, ⟨"RowDrawer", "named", "(I)I"⟩, prog_1_method_20_code, 2, (some .int))
def m_D_count : MI := (11, ⟨"RowDrawer", "count", "(I)I"⟩, prog_1_method_21_code, 2, (some .int))
def m_D_isRelation : MI := (11, ⟨"RowDrawer", "isRelation", "(I)Z"⟩, prog_1_method_22_code, 1, (some .boolean))
def m_M_thrown : MI := (12, ⟨"RowDrawerModel", "thrown", "()I"⟩, prog_14_method_1_code, 1, (some .int))
def m_M_feed : MI := (12, ⟨"RowDrawerModel", "feed", "(JJJ)I"⟩, prog_14_method_2_code, 7, (some .int))
def m_M_lay : MI := (12, ⟨"RowDrawerModel", "lay", "(J)V"⟩, prog_14_method_3_code, 5, none)
def m_M_isLetter : MI := (12, ⟨"RowDrawerModel", "isLetter", "(I)Z"⟩, prog_14_method_5_code, 1, (some .boolean))
def m_M_isDigit : MI := (12, ⟨"RowDrawerModel", "isDigit", "(I)Z"⟩, prog_14_method_6_code, 1, (some .boolean))
def m_M_rank : MI := (12, ⟨"RowDrawerModel", "rank", "(I)I"⟩, prog_14_method_7_code, 1, (some .int))
def m_M_isSignOf : MI := (12, ⟨"RowDrawerModel", "isSignOf", "(I)Z"⟩, prog_14_method_8_code, 1, (some .boolean))
def m_M_cutAll : MI := (12, ⟨"RowDrawerModel", "cutAll", "()V"⟩, prog_14_method_9_code, 7, none)
def m_M_wrong : MI := (12, ⟨"RowDrawerModel", "wrong", "(I)V"⟩, prog_14_method_10_code, 2, none)
def m_M_isSign : MI := (12, ⟨"RowDrawerModel", "isSign", "(I)Z"⟩, prog_14_method_11_code, 2, (some .boolean))
def m_M_isWord : MI := (12, ⟨"RowDrawerModel", "isWord", "(I)Z"⟩, prog_14_method_12_code, 2, (some .boolean))
def m_M_takeSign : MI := (12, ⟨"RowDrawerModel", "takeSign", "(I)V"⟩, prog_14_method_13_code, 2, none)
def m_M_hasWord : MI := (12, ⟨"RowDrawerModel", "hasWord", "(I)Z"⟩, prog_14_method_15_code, 3, (some .boolean))
def m_M_takeWord : MI := (12, ⟨"RowDrawerModel", "takeWord", "(I)V"⟩, prog_14_method_16_code, 2, none)
def m_M_takeNumber : MI := (12, ⟨"RowDrawerModel", "takeNumber", "(II)I"⟩, prog_14_method_17_code, 3, (some .int))
def m_M_text : MI := (12, ⟨"RowDrawerModel", "text", "()I"⟩, prog_14_method_18_code, 2, (some .int))
def m_M_statement : MI := (12, ⟨"RowDrawerModel", "statement", "()V"⟩, prog_14_method_19_code, 2, none)
def m_M_readChain : MI := (12, ⟨"RowDrawerModel", "readChain", "()V"⟩, prog_14_method_20_code, 2, none)
def m_M_readRule : MI := (12, ⟨"RowDrawerModel", "readRule", "()V"⟩, prog_14_method_21_code, 3, none)
def m_M_isItem : MI := (12, ⟨"RowDrawerModel", "isItem", "()Z"⟩, prog_14_method_22_code, 1, (some .boolean))
def m_M_item : MI := (12, ⟨"RowDrawerModel", "item", "(I)V"⟩, prog_14_method_23_code, 3, none)
def m_M_spec : MI := (12, ⟨"RowDrawerModel", "spec", "(I)V"⟩, prog_14_method_24_code, 2, none)
def m_M_isOne : MI := (12, ⟨"RowDrawerModel", "isOne", "(I)Z"⟩, prog_14_method_25_code, 1, (some .boolean))
def m_M_sort : MI := (12, ⟨"RowDrawerModel", "sort", "(II)Z"⟩, prog_14_method_26_code, 3, (some .boolean))
def m_M_nameOf : MI := (12, ⟨"RowDrawerModel", "nameOf", "(I)I"⟩, prog_14_method_27_code, 3, (some .int))
def m_M_join : MI := (12, ⟨"RowDrawerModel", "join", "(II)Z"⟩, prog_14_method_28_code, 4, (some .boolean))
def m_M_named : MI := (12, ⟨"RowDrawerModel", "named", "(I)I"⟩, prog_14_method_29_code, 2, (some .int))
def m_M_word : MI := (12, ⟨"RowDrawerModel", "word", "(I)I"⟩, prog_14_method_30_code, 2, (some .int))
def m_M_sentence : MI := (12, ⟨"RowDrawerModel", "sentence", "()I"⟩, prog_14_method_31_code, 2, (some .int))
def m_M_isThere : MI := (12, ⟨"RowDrawerModel", "isThere", "(I)Z"⟩, prog_14_method_32_code, 2, (some .boolean))
def m_M_take : MI := (12, ⟨"RowDrawerModel", "take", "(I)Z"⟩, prog_14_method_33_code, 2, (some .boolean))
def m_M_fits : MI := (12, ⟨"RowDrawerModel", "fits", "(III)Z"⟩, prog_14_method_34_code, 4, (some .boolean))
def m_M_findOf : MI := (12, ⟨"RowDrawerModel", "findOf", "(IIII)I"⟩, prog_14_method_35_code, 4, (some .int))
def m_M_findAll : MI := (12, ⟨"RowDrawerModel", "findAll", "()V"⟩, prog_14_method_36_code, 3, none)
def m_M_matches : MI := (12, ⟨"RowDrawerModel", "matches", "(II)V"⟩, prog_14_method_37_code, 8, none)
def m_M_goes : MI := (12, ⟨"RowDrawerModel", "goes", "(IIII)V"⟩, prog_14_method_38_code, 7, none)
def m_M_isBarred : MI := (12, ⟨"RowDrawerModel", "isBarred", "(I)Z"⟩, prog_14_method_39_code, 5, (some .boolean))
def m_M_finds : MI := (12, ⟨"RowDrawerModel", "finds", "()I"⟩, prog_14_method_40_code, 3, (some .int))
def m_M_find : MI := (12, ⟨"RowDrawerModel", "find", "(II)I"⟩, prog_14_method_41_code, 7, (some .int))
def m_M_findRows : MI := (12, ⟨"RowDrawerModel", "findRows", "()V"⟩, prog_14_method_42_code, 5, none)
def m_M_joins : MI := (12, ⟨"RowDrawerModel", "joins", "(III)Z"⟩, prog_14_method_43_code, 8, (some .boolean))
def m_M_isR : MI := (12, ⟨"RowDrawerModel", "isR", "(I)Z"⟩, prog_14_method_44_code, 1, (some .boolean))
def m_M_rows : MI := (12, ⟨"RowDrawerModel", "rows", "(I)I"⟩, prog_14_method_45_code, 4, (some .int))
def m_M_row : MI := (12, ⟨"RowDrawerModel", "row", "(III)I"⟩, prog_14_method_46_code, 6, (some .int))
def m_M_quarrel : MI := (12, ⟨"RowDrawerModel", "quarrel", "(II)I"⟩, prog_14_method_47_code, 7, (some .int))
def m_M_mark : MI := (12, ⟨"RowDrawerModel", "mark", "(IIIIZ)I"⟩, prog_14_method_48_code, 7, (some .int))
def m_M_catchesMark : MI := (12, ⟨"RowDrawerModel", "catchesMark", "(II)Z"⟩, prog_14_method_49_code, 3, (some .boolean))
def m_M_caught : MI := (12, ⟨"RowDrawerModel", "caught", "(IZ)I"⟩, prog_14_method_50_code, 5, (some .int))
def m_M_rule : MI := (12, ⟨"RowDrawerModel", "rule", "(II)I"⟩, prog_14_method_51_code, 8, (some .int))
def m_M_bits : MI := (12, ⟨"RowDrawerModel", "bits", "(J)I"⟩, prog_14_method_52_code, 4, (some .int))
def m_M_best : MI := (12, ⟨"RowDrawerModel", "best", "(I)I"⟩, prog_14_method_53_code, 10, (some .int))
def m_M_isLike : MI := (12, ⟨"RowDrawerModel", "isLike", "(III)Z"⟩, prog_14_method_54_code, 4, (some .boolean))
def m_M_least : MI := (12, ⟨"RowDrawerModel", "least", "(II)I"⟩, prog_14_method_55_code, 2, (some .int))
def m_M_wordAt : MI := (12, ⟨"RowDrawerModel", "wordAt", "(II)I"⟩, prog_14_method_56_code, 3, (some .int))
def m_M_learn : MI := (12, ⟨"RowDrawerModel", "learn", "(I)I"⟩, prog_14_method_57_code, 8, (some .int))
def m_M_learnt : MI := (12, ⟨"RowDrawerModel", "learnt", "(II)I"⟩, prog_14_method_58_code, 4, (some .int))
def m_M_catches : MI := (12, ⟨"RowDrawerModel", "catches", "(Z)I"⟩, prog_14_method_59_code, 6, (some .int))
def m_M_count : MI := (12, ⟨"RowDrawerModel", "count", "(I)I"⟩, prog_14_method_60_code, 4, (some .int))
def m_M_barredFinds : MI := (12, ⟨"RowDrawerModel", "barredFinds", "()I"⟩, prog_14_method_61_code, 3, (some .int))
def m_Integer_bitCount : MI := (13, ⟨"java/lang/Integer", "bitCount", "(I)I"⟩, prog_16_method_49_code, 1, (some .int))
def m_Long_bitCount : MI := (14, ⟨"java/lang/Long", "bitCount", "(J)I"⟩, prog_17_method_50_code, 2, (some .int))
def m_Arrays_fill : MI := (16, ⟨"java/util/Arrays", "fill", "([JJ)V"⟩, prog_25_method_101_code, 5, none)
def m_String_length : MI := (17, ⟨"java/lang/String", "length", "()I"⟩, prog_20_method_54_code, 1, (some .int))
def m_String_charAt : MI := (17, ⟨"java/lang/String", "charAt", "(I)C"⟩, prog_20_method_56_code, 2, (some .char))
def MT : List (MI × Nat × Bool) := [(m_BestSet_setCaught, 3, false), (m_BestSet_choose, 2, false), (m_BestSet_tryFrom, 4, false), (m_BestSet_weigh, 2, false), (m_Book_clear, 0, false), (m_Book_become, 1, false), (m_Book_openRule, 1, false), (m_Book_openRuleHas, 1, false), (m_Book_addItem, 3, false), (m_Book_closeRule, 0, false), (m_Book_addBar, 1, false), (m_Book_addChain, 3, false), (m_Book_addSingle, 1, false), (m_Book_rules, 0, false), (m_Book_bars, 0, false), (m_Book_chains, 0, false), (m_Book_hasRule, 1, false), (m_Book_relationOf, 1, false), (m_Book_itemsOf, 1, false), (m_Book_leftItem, 1, false), (m_Book_rightItem, 1, false), (m_Book_kindOf, 2, false), (m_Book_numberOf, 2, false), (m_Book_hasItem, 2, false), (m_Book_isBarred, 1, false), (m_Book_chainGoal, 1, false), (m_Book_chainFirst, 1, false), (m_Book_chainSecond, 1, false), (m_Book_isSingle, 1, false), (m_Finder_forget, 1, false), (m_Finder_forgetThoseWith, 1, false), (m_Finder_forgetAll, 0, false), (m_Finder_refresh, 0, false), (m_Finder_drawSentence, 1, false), (m_Finder_clearSentence, 1, false), (m_Finder_hasBarredWord, 1, false), (m_Finder_drawRule, 2, false), (m_Finder_fitItems, 2, false), (m_Finder_placesOf, 3, false), (m_Finder_forward, 4, false), (m_Finder_backward, 3, false), (m_Finder_keepPairs, 4, false), (m_Finder_countPairs, 2, false), (m_Finder_rightPlaces, 3, false), (m_Finder_isBarred, 1, false), (m_Finder_has, 4, false), (m_Finder_total, 1, false), (m_Finder_totalOfRule, 1, false), (m_Finder_tellOf, 2, false), (m_Finder_tellWithin, 4, false), (m_Finder_part, 5, false), (m_Lesson_study, 1, false), (m_Lesson_begin, 2, false), (m_Lesson_isLike, 1, false), (m_Lesson_wordAt, 2, false), (m_Lesson_widen, 1, false), (m_Lesson_tellOf, 2, false), (m_Lesson_roleOf, 1, false), (m_Lesson_caught, 1, false), (m_Lesson_standsAt, 1, false), (m_Lexicon_has, 1, true), (m_Lexicon_setSort, 2, false), (m_Lexicon_sortOf, 1, false), (m_Lexicon_link, 2, false), (m_Lexicon_leadsTo, 2, false), (m_Lexicon_nameOf, 1, false), (m_Lexicon_fits, 3, false), (m_Marks_put, 5, false), (m_Marks_indexOf, 4, false), (m_Marks_size, 0, false), (m_Marks_isUsable, 3, false), (m_Marks_sentenceOf, 1, false), (m_Marks_leftOf, 1, false), (m_Marks_rightOf, 1, false), (m_Marks_caughtBy, 2, false), (m_Marks_shareOf, 1, false), (m_Reader_draft, 0, false), (m_Reader_read, 0, false), (m_Reader_readRule, 0, false), (m_Reader_readItem, 1, false), (m_Reader_isSpec, 1, true), (m_Reader_readSpec, 1, false), (m_Reader_readBar, 0, false), (m_Reader_readChain, 0, false), (m_Reader_readSingle, 0, false), (m_Reader_readNumber, 2, false), (m_Reader_readSign, 1, false), (m_Reader_fail, 1, false), (m_Sentences_tell, 1, false), (m_Sentences_close, 0, false), (m_Sentences_remove, 1, false), (m_Sentences_isThere, 1, false), (m_Sentences_lengthOf, 1, false), (m_Sentences_wordAt, 2, false), (m_Sentences_told, 0, false), (m_Sentences_came, 0, false), (m_Sentences_present, 0, false), (m_Table_forget, 0, false), (m_Table_refresh, 0, false), (m_Table_addFindsOf, 1, false), (m_Table_nameAt, 2, false), (m_Table_addRow, 3, false), (m_Table_followChains, 0, false), (m_Table_followChain, 3, false), (m_Table_followFrom, 4, false), (m_Table_hasRow, 3, false), (m_Table_degree, 2, false), (m_Table_size, 1, false), (m_Table_name, 3, false), (m_Table_secondName, 3, false), (m_Table_quarrelling, 2, false), (m_Tape_put, 1, false), (m_Tape_isKnown, 1, true), (m_Tape_length, 0, false), (m_Tape_at, 1, false), (m_Tape_clear, 0, false), (m_Tokens_scan, 1, false), (m_Tokens_add, 2, false), (m_Tokens_code, 0, false), (m_Tokens_place, 0, false), (m_Tokens_advance, 0, false), (m_Tokens_goesOn, 2, true), (m_Tokens_codeAt, 2, true), (m_Tokens_numberCode, 2, true), (m_Tokens_wordCode, 2, true), (m_Tokens_sWordCode, 2, true), (m_Tokens_stands, 3, true), (m_Tokens_isBlank, 1, true), (m_Tokens_isLetter, 1, true), (m_Tokens_isDigit, 1, true), (m_D_sort, 2, false), (m_D_join, 2, false), (m_D_word, 1, false), (m_D_sentence, 0, false), (m_D_take, 1, false), (m_D_feed, 3, false), (m_D_text, 0, false), (m_D_finds, 0, false), (m_D_find, 2, false), (m_D_rows, 1, false), (m_D_row, 3, false), (m_D_quarrel, 2, false), (m_D_mark, 5, false), (m_D_best, 1, false), (m_D_learn, 1, false), (m_D_learnt, 2, false), (m_D_catches, 1, false), (m_D_named, 1, false), (m_D_count, 1, false), (m_D_isRelation, 1, true), (m_M_thrown, 0, false), (m_M_feed, 3, false), (m_M_lay, 1, false), (m_M_isLetter, 1, true), (m_M_isDigit, 1, true), (m_M_rank, 1, true), (m_M_isSignOf, 1, true), (m_M_cutAll, 0, false), (m_M_wrong, 1, false), (m_M_isSign, 1, false), (m_M_isWord, 1, false), (m_M_takeSign, 1, false), (m_M_hasWord, 1, false), (m_M_takeWord, 1, false), (m_M_takeNumber, 2, false), (m_M_text, 0, false), (m_M_statement, 0, false), (m_M_readChain, 0, false), (m_M_readRule, 0, false), (m_M_isItem, 0, false), (m_M_item, 1, false), (m_M_spec, 1, false), (m_M_isOne, 1, true), (m_M_sort, 2, false), (m_M_nameOf, 1, false), (m_M_join, 2, false), (m_M_named, 1, false), (m_M_word, 1, false), (m_M_sentence, 0, false), (m_M_isThere, 1, false), (m_M_take, 1, false), (m_M_fits, 3, false), (m_M_findOf, 4, true), (m_M_findAll, 0, false), (m_M_matches, 2, false), (m_M_goes, 4, false), (m_M_isBarred, 1, false), (m_M_finds, 0, false), (m_M_find, 2, false), (m_M_findRows, 0, false), (m_M_joins, 3, false), (m_M_isR, 1, true), (m_M_rows, 1, false), (m_M_row, 3, false), (m_M_quarrel, 2, false), (m_M_mark, 5, false), (m_M_catchesMark, 2, false), (m_M_caught, 2, false), (m_M_rule, 2, false), (m_M_bits, 1, true), (m_M_best, 1, false), (m_M_isLike, 3, false), (m_M_least, 2, true), (m_M_wordAt, 2, false), (m_M_learn, 1, false), (m_M_learnt, 2, false), (m_M_catches, 1, false), (m_M_count, 1, false), (m_M_barredFinds, 0, false), (m_Integer_bitCount, 1, true), (m_Long_bitCount, 1, true), (m_Arrays_fill, 2, true), (m_String_length, 0, false), (m_String_charAt, 1, false)]
def FR_0 : List (Nat × Nat × Nat) := [(9, 0, 0), (15, 0, 1), (24, 0, 2), (28, 0, 3), (31, 0, 4), (34, 0, 5)]
set_option maxRecDepth 100000 in
theorem FR_0_ok : ∀ q ∈ FR_0, FL "RowDrawer$BestSet" q := List.forall_mem_cons.mpr ⟨⟨_, _, _, rfl, by decide, tt_at 353 rfl rfl, inX0⟩, List.forall_mem_cons.mpr ⟨⟨_, _, _, rfl, by decide, tt_at 354 rfl rfl, inX0⟩, List.forall_mem_cons.mpr ⟨⟨_, _, _, rfl, by decide, tt_at 355 rfl rfl, inX0⟩, List.forall_mem_cons.mpr ⟨⟨_, _, _, rfl, by decide, tt_at 356 rfl rfl, inX0⟩, List.forall_mem_cons.mpr ⟨⟨_, _, _, rfl, by decide, tt_at 357 rfl rfl, inX0⟩, List.forall_mem_cons.mpr ⟨⟨_, _, _, rfl, by decide, tt_at 358 rfl rfl, inX0⟩, fun _ h => absurd h List.not_mem_nil⟩⟩⟩⟩⟩⟩
def PR_0 : List (Nat × Nat × Nat × Nat) := [(24, 0, 2, 0), (28, 0, 3, 0), (31, 0, 4, 0), (34, 0, 5, 0)]
set_option maxRecDepth 100000 in
theorem PR_0_ok : ∀ q ∈ PR_0, PL "RowDrawer$BestSet" q := List.forall_mem_cons.mpr ⟨⟨_, _, _, tyX0, rfl, by decide, tt_at 355 rfl rfl, inX0, tyX0_ok, nmX0, rfl, by decide +kernel⟩, List.forall_mem_cons.mpr ⟨⟨_, _, _, tyX0, rfl, by decide, tt_at 356 rfl rfl, inX0, tyX0_ok, nmX0, rfl, by decide +kernel⟩, List.forall_mem_cons.mpr ⟨⟨_, _, _, tyX0, rfl, by decide, tt_at 357 rfl rfl, inX0, tyX0_ok, nmX0, rfl, by decide +kernel⟩, List.forall_mem_cons.mpr ⟨⟨_, _, _, tyX0, rfl, by decide, tt_at 358 rfl rfl, inX0, tyX0_ok, nmX0, rfl, by decide +kernel⟩, fun _ h => absurd h List.not_mem_nil⟩⟩⟩⟩
def MR_0 : List (Nat × Nat × Nat) := [(18, 0, 5), (37, 2, 0), (41, 210, 1), (47, 3, 0), (53, 209, 1)]
def LI_0 : List (Nat × Int32) := []
set_option maxRecDepth 100000 in
theorem LI_0_ok : ∀ q ∈ LI_0, Cond.constant "RowDrawer$BestSet" q.1 q.2 ∈ TT := fun _ h => absurd h List.not_mem_nil
def LL_0 : List (Nat × Int64) := [(51, -1)]
set_option maxRecDepth 100000 in
theorem LL_0_ok : ∀ q ∈ LL_0, Cond.constantLong "RowDrawer$BestSet" q.1 q.2 ∈ TT := List.forall_mem_cons.mpr ⟨tt_at 1038 rfl rfl, fun _ h => absurd h List.not_mem_nil⟩
def FR_1 : List (Nat × Nat × Nat) := [(42, 1, 0), (9, 1, 1), (15, 1, 2), (18, 1, 3), (21, 1, 4), (24, 1, 5), (27, 1, 6), (46, 1, 7), (30, 1, 8), (49, 1, 9), (33, 1, 10), (36, 1, 11), (39, 1, 12), (52, 1, 13)]
set_option maxRecDepth 100000 in
theorem FR_1_ok : ∀ q ∈ FR_1, FL "RowDrawer$Book" q := List.forall_mem_cons.mpr ⟨⟨_, _, _, rfl, by decide, tt_at 195 rfl rfl, inX1⟩, List.forall_mem_cons.mpr ⟨⟨_, _, _, rfl, by decide, tt_at 196 rfl rfl, inX1⟩, List.forall_mem_cons.mpr ⟨⟨_, _, _, rfl, by decide, tt_at 197 rfl rfl, inX1⟩, List.forall_mem_cons.mpr ⟨⟨_, _, _, rfl, by decide, tt_at 198 rfl rfl, inX1⟩, List.forall_mem_cons.mpr ⟨⟨_, _, _, rfl, by decide, tt_at 199 rfl rfl, inX1⟩, List.forall_mem_cons.mpr ⟨⟨_, _, _, rfl, by decide, tt_at 200 rfl rfl, inX1⟩, List.forall_mem_cons.mpr ⟨⟨_, _, _, rfl, by decide, tt_at 201 rfl rfl, inX1⟩, List.forall_mem_cons.mpr ⟨⟨_, _, _, rfl, by decide, tt_at 202 rfl rfl, inX1⟩, List.forall_mem_cons.mpr ⟨⟨_, _, _, rfl, by decide, tt_at 203 rfl rfl, inX1⟩, List.forall_mem_cons.mpr ⟨⟨_, _, _, rfl, by decide, tt_at 204 rfl rfl, inX1⟩, List.forall_mem_cons.mpr ⟨⟨_, _, _, rfl, by decide, tt_at 205 rfl rfl, inX1⟩, List.forall_mem_cons.mpr ⟨⟨_, _, _, rfl, by decide, tt_at 206 rfl rfl, inX1⟩, List.forall_mem_cons.mpr ⟨⟨_, _, _, rfl, by decide, tt_at 207 rfl rfl, inX1⟩, List.forall_mem_cons.mpr ⟨⟨_, _, _, rfl, by decide, tt_at 208 rfl rfl, inX1⟩, fun _ h => absurd h List.not_mem_nil⟩⟩⟩⟩⟩⟩⟩⟩⟩⟩⟩⟩⟩⟩
def PR_1 : List (Nat × Nat × Nat × Nat) := [(42, 1, 0, 0), (46, 1, 7, 0), (49, 1, 9, 0), (52, 1, 13, 0)]
set_option maxRecDepth 100000 in
theorem PR_1_ok : ∀ q ∈ PR_1, PL "RowDrawer$Book" q := List.forall_mem_cons.mpr ⟨⟨_, _, _, tyX1, rfl, by decide, tt_at 195 rfl rfl, inX1, tyX1_ok, nmX1, rfl, by decide +kernel⟩, List.forall_mem_cons.mpr ⟨⟨_, _, _, tyX1, rfl, by decide, tt_at 202 rfl rfl, inX1, tyX1_ok, nmX1, rfl, by decide +kernel⟩, List.forall_mem_cons.mpr ⟨⟨_, _, _, tyX1, rfl, by decide, tt_at 204 rfl rfl, inX1, tyX1_ok, nmX1, rfl, by decide +kernel⟩, List.forall_mem_cons.mpr ⟨⟨_, _, _, tyX1, rfl, by decide, tt_at 208 rfl rfl, inX1, tyX1_ok, nmX1, rfl, by decide +kernel⟩, fun _ h => absurd h List.not_mem_nil⟩⟩⟩⟩
def MR_1 : List (Nat × Nat × Nat) := [(55, 0, 3), (65, 16, 0), (68, 23, 0), (61, 149, 2)]
def LI_1 : List (Nat × Int32) := []
set_option maxRecDepth 100000 in
theorem LI_1_ok : ∀ q ∈ LI_1, Cond.constant "RowDrawer$Book" q.1 q.2 ∈ TT := fun _ h => absurd h List.not_mem_nil
def LL_1 : List (Nat × Int64) := []
set_option maxRecDepth 100000 in
theorem LL_1_ok : ∀ q ∈ LL_1, Cond.constantLong "RowDrawer$Book" q.1 q.2 ∈ TT := fun _ h => absurd h List.not_mem_nil
def FR_2 : List (Nat × Nat × Nat) := [(28, 2, 0), (32, 2, 1), (36, 2, 2), (9, 2, 3), (15, 2, 4), (18, 2, 5), (22, 2, 6), (25, 2, 7)]
set_option maxRecDepth 100000 in
theorem FR_2_ok : ∀ q ∈ FR_2, FL "RowDrawer$Finder" q := List.forall_mem_cons.mpr ⟨⟨_, _, _, rfl, by decide, tt_at 259 rfl rfl, inX2⟩, List.forall_mem_cons.mpr ⟨⟨_, _, _, rfl, by decide, tt_at 260 rfl rfl, inX2⟩, List.forall_mem_cons.mpr ⟨⟨_, _, _, rfl, by decide, tt_at 261 rfl rfl, inX2⟩, List.forall_mem_cons.mpr ⟨⟨_, _, _, rfl, by decide, tt_at 262 rfl rfl, inX2⟩, List.forall_mem_cons.mpr ⟨⟨_, _, _, rfl, by decide, tt_at 263 rfl rfl, inX2⟩, List.forall_mem_cons.mpr ⟨⟨_, _, _, rfl, by decide, tt_at 264 rfl rfl, inX2⟩, List.forall_mem_cons.mpr ⟨⟨_, _, _, rfl, by decide, tt_at 265 rfl rfl, inX2⟩, List.forall_mem_cons.mpr ⟨⟨_, _, _, rfl, by decide, tt_at 266 rfl rfl, inX2⟩, fun _ h => absurd h List.not_mem_nil⟩⟩⟩⟩⟩⟩⟩⟩
def PR_2 : List (Nat × Nat × Nat × Nat) := []
set_option maxRecDepth 100000 in
theorem PR_2_ok : ∀ q ∈ PR_2, PL "RowDrawer$Finder" q := fun _ h => absurd h List.not_mem_nil
def MR_2 : List (Nat × Nat × Nat) := [(40, 95, 0), (46, 92, 0), (50, 93, 0), (54, 33, 0), (58, 34, 0), (61, 91, 0), (65, 35, 0), (80, 24, 0), (68, 13, 0), (73, 36, 0), (83, 19, 0), (86, 20, 0), (89, 37, 0), (104, 18, 0), (115, 21, 0), (118, 22, 0), (121, 38, 0), (124, 66, 0), (92, 0, 5), (97, 0, 6), (100, 39, 0), (107, 40, 0), (111, 41, 0), (77, 42, 0), (130, 43, 0), (133, 209, 1), (138, 49, 0), (141, 45, 0), (145, 50, 0), (149, 44, 0), (150, 17, 0)]
def LI_2 : List (Nat × Int32) := []
set_option maxRecDepth 100000 in
theorem LI_2_ok : ∀ q ∈ LI_2, Cond.constant "RowDrawer$Finder" q.1 q.2 ∈ TT := fun _ h => absurd h List.not_mem_nil
def LL_2 : List (Nat × Int64) := []
set_option maxRecDepth 100000 in
theorem LL_2_ok : ∀ q ∈ LL_2, Cond.constantLong "RowDrawer$Finder" q.1 q.2 ∈ TT := fun _ h => absurd h List.not_mem_nil
def FR_3 : List (Nat × Nat × Nat) := [(18, 3, 0), (22, 3, 1), (26, 3, 2), (9, 3, 3), (15, 3, 4), (52, 3, 5), (63, 3, 6), (66, 3, 7)]
set_option maxRecDepth 100000 in
theorem FR_3_ok : ∀ q ∈ FR_3, FL "RowDrawer$Lesson" q := List.forall_mem_cons.mpr ⟨⟨_, _, _, rfl, by decide, tt_at 378 rfl rfl, inX3⟩, List.forall_mem_cons.mpr ⟨⟨_, _, _, rfl, by decide, tt_at 379 rfl rfl, inX3⟩, List.forall_mem_cons.mpr ⟨⟨_, _, _, rfl, by decide, tt_at 380 rfl rfl, inX3⟩, List.forall_mem_cons.mpr ⟨⟨_, _, _, rfl, by decide, tt_at 381 rfl rfl, inX3⟩, List.forall_mem_cons.mpr ⟨⟨_, _, _, rfl, by decide, tt_at 382 rfl rfl, inX3⟩, List.forall_mem_cons.mpr ⟨⟨_, _, _, rfl, by decide, tt_at 383 rfl rfl, inX3⟩, List.forall_mem_cons.mpr ⟨⟨_, _, _, rfl, by decide, tt_at 384 rfl rfl, inX3⟩, List.forall_mem_cons.mpr ⟨⟨_, _, _, rfl, by decide, tt_at 385 rfl rfl, inX3⟩, fun _ h => absurd h List.not_mem_nil⟩⟩⟩⟩⟩⟩⟩⟩
def PR_3 : List (Nat × Nat × Nat × Nat) := [(52, 3, 5, 0), (63, 3, 6, 0), (66, 3, 7, 1)]
set_option maxRecDepth 100000 in
theorem PR_3_ok : ∀ q ∈ PR_3, PL "RowDrawer$Lesson" q := List.forall_mem_cons.mpr ⟨⟨_, _, _, tyX3, rfl, by decide, tt_at 383 rfl rfl, inX3, tyX3_ok, nmX3, rfl, by decide +kernel⟩, List.forall_mem_cons.mpr ⟨⟨_, _, _, tyX3, rfl, by decide, tt_at 384 rfl rfl, inX3, tyX3_ok, nmX3, rfl, by decide +kernel⟩, List.forall_mem_cons.mpr ⟨⟨_, _, _, tyX3, rfl, by decide, tt_at 385 rfl rfl, inX3, tyX3_ok, nmX3, rfl, by decide +kernel⟩, fun _ h => absurd h List.not_mem_nil⟩⟩⟩
def MR_3 : List (Nat × Nat × Nat) := [(30, 69, 0), (36, 70, 0), (40, 52, 0), (56, 73, 0), (60, 72, 0), (70, 0, 7), (75, 0, 5), (79, 54, 0), (82, 71, 0), (85, 93, 0), (44, 53, 0), (48, 55, 0), (88, 66, 0), (94, 62, 0), (97, 57, 0), (100, 59, 0)]
def LI_3 : List (Nat × Int32) := []
set_option maxRecDepth 100000 in
theorem LI_3_ok : ∀ q ∈ LI_3, Cond.constant "RowDrawer$Lesson" q.1 q.2 ∈ TT := fun _ h => absurd h List.not_mem_nil
def LL_3 : List (Nat × Int64) := []
set_option maxRecDepth 100000 in
theorem LL_3_ok : ∀ q ∈ LL_3, Cond.constantLong "RowDrawer$Lesson" q.1 q.2 ∈ TT := fun _ h => absurd h List.not_mem_nil
def FR_4 : List (Nat × Nat × Nat) := [(9, 4, 0), (15, 4, 1)]
set_option maxRecDepth 100000 in
theorem FR_4_ok : ∀ q ∈ FR_4, FL "RowDrawer$Lexicon" q := List.forall_mem_cons.mpr ⟨⟨_, _, _, rfl, by decide, tt_at 113 rfl rfl, inX4⟩, List.forall_mem_cons.mpr ⟨⟨_, _, _, rfl, by decide, tt_at 114 rfl rfl, inX4⟩, fun _ h => absurd h List.not_mem_nil⟩⟩
def PR_4 : List (Nat × Nat × Nat × Nat) := []
set_option maxRecDepth 100000 in
theorem PR_4_ok : ∀ q ∈ PR_4, PL "RowDrawer$Lexicon" q := fun _ h => absurd h List.not_mem_nil
def MR_4 : List (Nat × Nat × Nat) := [(18, 60, 1), (22, 64, 0)]
def LI_4 : List (Nat × Int32) := []
set_option maxRecDepth 100000 in
theorem LI_4_ok : ∀ q ∈ LI_4, Cond.constant "RowDrawer$Lexicon" q.1 q.2 ∈ TT := fun _ h => absurd h List.not_mem_nil
def LL_4 : List (Nat × Int64) := []
set_option maxRecDepth 100000 in
theorem LL_4_ok : ∀ q ∈ LL_4, Cond.constantLong "RowDrawer$Lexicon" q.1 q.2 ∈ TT := fun _ h => absurd h List.not_mem_nil
def FR_5 : List (Nat × Nat × Nat) := [(28, 5, 0), (32, 5, 1), (36, 5, 2), (9, 5, 3), (15, 5, 4), (18, 5, 5), (21, 5, 6), (24, 5, 7), (44, 5, 8)]
set_option maxRecDepth 100000 in
theorem FR_5_ok : ∀ q ∈ FR_5, FL "RowDrawer$Marks" q := List.forall_mem_cons.mpr ⟨⟨_, _, _, rfl, by decide, tt_at 319 rfl rfl, inX5⟩, List.forall_mem_cons.mpr ⟨⟨_, _, _, rfl, by decide, tt_at 320 rfl rfl, inX5⟩, List.forall_mem_cons.mpr ⟨⟨_, _, _, rfl, by decide, tt_at 321 rfl rfl, inX5⟩, List.forall_mem_cons.mpr ⟨⟨_, _, _, rfl, by decide, tt_at 322 rfl rfl, inX5⟩, List.forall_mem_cons.mpr ⟨⟨_, _, _, rfl, by decide, tt_at 323 rfl rfl, inX5⟩, List.forall_mem_cons.mpr ⟨⟨_, _, _, rfl, by decide, tt_at 324 rfl rfl, inX5⟩, List.forall_mem_cons.mpr ⟨⟨_, _, _, rfl, by decide, tt_at 325 rfl rfl, inX5⟩, List.forall_mem_cons.mpr ⟨⟨_, _, _, rfl, by decide, tt_at 326 rfl rfl, inX5⟩, List.forall_mem_cons.mpr ⟨⟨_, _, _, rfl, by decide, tt_at 327 rfl rfl, inX5⟩, fun _ h => absurd h List.not_mem_nil⟩⟩⟩⟩⟩⟩⟩⟩⟩
def PR_5 : List (Nat × Nat × Nat × Nat) := [(44, 5, 8, 0)]
set_option maxRecDepth 100000 in
theorem PR_5_ok : ∀ q ∈ PR_5, PL "RowDrawer$Marks" q := List.forall_mem_cons.mpr ⟨⟨_, _, _, tyX5, rfl, by decide, tt_at 327 rfl rfl, inX5, tyX5_ok, nmX5, rfl, by decide +kernel⟩, fun _ h => absurd h List.not_mem_nil⟩
def MR_5 : List (Nat × Nat × Nat) := [(40, 68, 0), (54, 17, 0), (60, 70, 0), (48, 91, 0), (64, 45, 0), (70, 74, 0), (74, 210, 1)]
def LI_5 : List (Nat × Int32) := []
set_option maxRecDepth 100000 in
theorem LI_5_ok : ∀ q ∈ LI_5, Cond.constant "RowDrawer$Marks" q.1 q.2 ∈ TT := fun _ h => absurd h List.not_mem_nil
def LL_5 : List (Nat × Int64) := []
set_option maxRecDepth 100000 in
theorem LL_5_ok : ∀ q ∈ LL_5, Cond.constantLong "RowDrawer$Marks" q.1 q.2 ∈ TT := fun _ h => absurd h List.not_mem_nil
def FR_6 : List (Nat × Nat × Nat) := [(25, 6, 0), (12, 6, 1), (21, 6, 2), (39, 6, 3)]
set_option maxRecDepth 100000 in
theorem FR_6_ok : ∀ q ∈ FR_6, FL "RowDrawer$Reader" q := List.forall_mem_cons.mpr ⟨⟨_, _, _, rfl, by decide, tt_at 238 rfl rfl, inX6⟩, List.forall_mem_cons.mpr ⟨⟨_, _, _, rfl, by decide, tt_at 239 rfl rfl, inX6⟩, List.forall_mem_cons.mpr ⟨⟨_, _, _, rfl, by decide, tt_at 240 rfl rfl, inX6⟩, List.forall_mem_cons.mpr ⟨⟨_, _, _, rfl, by decide, tt_at 241 rfl rfl, inX6⟩, fun _ h => absurd h List.not_mem_nil⟩⟩⟩⟩
def PR_6 : List (Nat × Nat × Nat × Nat) := [(39, 6, 3, 0)]
set_option maxRecDepth 100000 in
theorem PR_6_ok : ∀ q ∈ PR_6, PL "RowDrawer$Reader" q := List.forall_mem_cons.mpr ⟨⟨_, _, _, tyX6, rfl, by decide, tt_at 241 rfl rfl, inX6, tyX6_ok, nmX6, rfl, by decide +kernel⟩, fun _ h => absurd h List.not_mem_nil⟩
def MR_6 : List (Nat × Nat × Nat) := [(29, 116, 0), (33, 115, 0), (38, 4, 0), (43, 118, 0), (47, 78, 0), (63, 13, 0), (59, 87, 0), (114, 119, 0), (66, 120, 0), (69, 85, 0), (73, 86, 0), (76, 6, 0), (80, 79, 0), (83, 7, 0), (89, 80, 1), (92, 8, 0), (96, 81, 0), (86, 9, 0), (50, 82, 0), (99, 14, 0), (102, 10, 0), (53, 83, 0), (105, 15, 0), (108, 11, 0), (56, 84, 0), (111, 12, 0)]
def LI_6 : List (Nat × Int32) := []
set_option maxRecDepth 100000 in
theorem LI_6_ok : ∀ q ∈ LI_6, Cond.constant "RowDrawer$Reader" q.1 q.2 ∈ TT := fun _ h => absurd h List.not_mem_nil
def LL_6 : List (Nat × Int64) := []
set_option maxRecDepth 100000 in
theorem LL_6_ok : ∀ q ∈ LL_6, Cond.constantLong "RowDrawer$Reader" q.1 q.2 ∈ TT := fun _ h => absurd h List.not_mem_nil
def FR_7 : List (Nat × Nat × Nat) := [(9, 7, 0), (15, 7, 1), (18, 7, 2), (22, 7, 3), (25, 7, 4), (29, 7, 5), (38, 7, 6)]
set_option maxRecDepth 100000 in
theorem FR_7_ok : ∀ q ∈ FR_7, FL "RowDrawer$Sentences" q := List.forall_mem_cons.mpr ⟨⟨_, _, _, rfl, by decide, tt_at 127 rfl rfl, inX7⟩, List.forall_mem_cons.mpr ⟨⟨_, _, _, rfl, by decide, tt_at 128 rfl rfl, inX7⟩, List.forall_mem_cons.mpr ⟨⟨_, _, _, rfl, by decide, tt_at 129 rfl rfl, inX7⟩, List.forall_mem_cons.mpr ⟨⟨_, _, _, rfl, by decide, tt_at 130 rfl rfl, inX7⟩, List.forall_mem_cons.mpr ⟨⟨_, _, _, rfl, by decide, tt_at 131 rfl rfl, inX7⟩, List.forall_mem_cons.mpr ⟨⟨_, _, _, rfl, by decide, tt_at 132 rfl rfl, inX7⟩, List.forall_mem_cons.mpr ⟨⟨_, _, _, rfl, by decide, tt_at 133 rfl rfl, inX7⟩, fun _ h => absurd h List.not_mem_nil⟩⟩⟩⟩⟩⟩⟩
def PR_7 : List (Nat × Nat × Nat × Nat) := [(25, 7, 4, 0), (29, 7, 5, 0), (38, 7, 6, 0)]
set_option maxRecDepth 100000 in
theorem PR_7_ok : ∀ q ∈ PR_7, PL "RowDrawer$Sentences" q := List.forall_mem_cons.mpr ⟨⟨_, _, _, tyX7, rfl, by decide, tt_at 131 rfl rfl, inX7, tyX7_ok, nmX7, rfl, by decide +kernel⟩, List.forall_mem_cons.mpr ⟨⟨_, _, _, tyX7, rfl, by decide, tt_at 132 rfl rfl, inX7, tyX7_ok, nmX7, rfl, by decide +kernel⟩, List.forall_mem_cons.mpr ⟨⟨_, _, _, tyX7, rfl, by decide, tt_at 133 rfl rfl, inX7, tyX7_ok, nmX7, rfl, by decide +kernel⟩, fun _ h => absurd h List.not_mem_nil⟩⟩⟩
def MR_7 : List (Nat × Nat × Nat) := [(32, 0, 3), (41, 91, 0)]
def LI_7 : List (Nat × Int32) := []
set_option maxRecDepth 100000 in
theorem LI_7_ok : ∀ q ∈ LI_7, Cond.constant "RowDrawer$Sentences" q.1 q.2 ∈ TT := fun _ h => absurd h List.not_mem_nil
def LL_7 : List (Nat × Int64) := []
set_option maxRecDepth 100000 in
theorem LL_7_ok : ∀ q ∈ LL_7, Cond.constantLong "RowDrawer$Sentences" q.1 q.2 ∈ TT := fun _ h => absurd h List.not_mem_nil
def FR_8 : List (Nat × Nat × Nat) := [(18, 8, 0), (22, 8, 1), (26, 8, 2), (30, 8, 3), (11, 8, 4), (15, 8, 5), (34, 8, 6)]
set_option maxRecDepth 100000 in
theorem FR_8_ok : ∀ q ∈ FR_8, FL "RowDrawer$Table" q := List.forall_mem_cons.mpr ⟨⟨_, _, _, rfl, by decide, tt_at 290 rfl rfl, inX8⟩, List.forall_mem_cons.mpr ⟨⟨_, _, _, rfl, by decide, tt_at 291 rfl rfl, inX8⟩, List.forall_mem_cons.mpr ⟨⟨_, _, _, rfl, by decide, tt_at 292 rfl rfl, inX8⟩, List.forall_mem_cons.mpr ⟨⟨_, _, _, rfl, by decide, tt_at 293 rfl rfl, inX8⟩, List.forall_mem_cons.mpr ⟨⟨_, _, _, rfl, by decide, tt_at 294 rfl rfl, inX8⟩, List.forall_mem_cons.mpr ⟨⟨_, _, _, rfl, by decide, tt_at 295 rfl rfl, inX8⟩, List.forall_mem_cons.mpr ⟨⟨_, _, _, rfl, by decide, tt_at 296 rfl rfl, inX8⟩, fun _ h => absurd h List.not_mem_nil⟩⟩⟩⟩⟩⟩⟩
def PR_8 : List (Nat × Nat × Nat × Nat) := [(34, 8, 6, 1)]
set_option maxRecDepth 100000 in
theorem PR_8_ok : ∀ q ∈ PR_8, PL "RowDrawer$Table" q := List.forall_mem_cons.mpr ⟨⟨_, _, _, tyX8, rfl, by decide, tt_at 296 rfl rfl, inX8, tyX8_ok, nmX8, rfl, by decide +kernel⟩, fun _ h => absurd h List.not_mem_nil⟩
def MR_8 : List (Nat × Nat × Nat) := [(38, 211, 1), (44, 95, 0), (50, 44, 0), (56, 99, 0), (63, 13, 0), (68, 43, 0), (72, 17, 0), (76, 100, 0), (84, 93, 0), (87, 65, 0), (80, 101, 0), (95, 60, 1), (60, 102, 0), (99, 15, 0), (102, 25, 0), (105, 26, 0), (108, 27, 0), (111, 103, 0), (115, 106, 0), (127, 210, 1), (118, 104, 0), (122, 105, 0), (133, 109, 0), (92, 149, 2)]
def LI_8 : List (Nat × Int32) := [(98, 100001)]
set_option maxRecDepth 100000 in
theorem LI_8_ok : ∀ q ∈ LI_8, Cond.constant "RowDrawer$Table" q.1 q.2 ∈ TT := List.forall_mem_cons.mpr ⟨tt_at 924 rfl rfl, fun _ h => absurd h List.not_mem_nil⟩
def LL_8 : List (Nat × Int64) := [(125, -1)]
set_option maxRecDepth 100000 in
theorem LL_8_ok : ∀ q ∈ LL_8, Cond.constantLong "RowDrawer$Table" q.1 q.2 ∈ TT := List.forall_mem_cons.mpr ⟨tt_at 960 rfl rfl, fun _ h => absurd h List.not_mem_nil⟩
def FR_9 : List (Nat × Nat × Nat) := [(9, 9, 0), (19, 9, 1)]
set_option maxRecDepth 100000 in
theorem FR_9_ok : ∀ q ∈ FR_9, FL "RowDrawer$Tape" q := List.forall_mem_cons.mpr ⟨⟨_, _, _, rfl, by decide, tt_at 156 rfl rfl, inX9⟩, List.forall_mem_cons.mpr ⟨⟨_, _, _, rfl, by decide, tt_at 157 rfl rfl, inX9⟩, fun _ h => absurd h List.not_mem_nil⟩⟩
def PR_9 : List (Nat × Nat × Nat × Nat) := [(19, 9, 1, 0)]
set_option maxRecDepth 100000 in
theorem PR_9_ok : ∀ q ∈ PR_9, PL "RowDrawer$Tape" q := List.forall_mem_cons.mpr ⟨⟨_, _, _, tyX9, rfl, by decide, tt_at 157 rfl rfl, inX9, tyX9_ok, nmX9, rfl, by decide +kernel⟩, fun _ h => absurd h List.not_mem_nil⟩
def MR_9 : List (Nat × Nat × Nat) := [(15, 112, 1)]
def LI_9 : List (Nat × Int32) := []
set_option maxRecDepth 100000 in
theorem LI_9_ok : ∀ q ∈ LI_9, Cond.constant "RowDrawer$Tape" q.1 q.2 ∈ TT := fun _ h => absurd h List.not_mem_nil
def LL_9 : List (Nat × Int64) := []
set_option maxRecDepth 100000 in
theorem LL_9_ok : ∀ q ∈ LL_9, Cond.constantLong "RowDrawer$Tape" q.1 q.2 ∈ TT := fun _ h => absurd h List.not_mem_nil
def FR_10 : List (Nat × Nat × Nat) := [(9, 10, 0), (15, 10, 1), (18, 10, 2), (22, 10, 3)]
set_option maxRecDepth 100000 in
theorem FR_10_ok : ∀ q ∈ FR_10, FL "RowDrawer$Tokens" q := List.forall_mem_cons.mpr ⟨⟨_, _, _, rfl, by decide, tt_at 176 rfl rfl, inX10⟩, List.forall_mem_cons.mpr ⟨⟨_, _, _, rfl, by decide, tt_at 177 rfl rfl, inX10⟩, List.forall_mem_cons.mpr ⟨⟨_, _, _, rfl, by decide, tt_at 178 rfl rfl, inX10⟩, List.forall_mem_cons.mpr ⟨⟨_, _, _, rfl, by decide, tt_at 179 rfl rfl, inX10⟩, fun _ h => absurd h List.not_mem_nil⟩⟩⟩⟩
def PR_10 : List (Nat × Nat × Nat × Nat) := [(18, 10, 2, 0), (22, 10, 3, 0)]
set_option maxRecDepth 100000 in
theorem PR_10_ok : ∀ q ∈ PR_10, PL "RowDrawer$Tokens" q := List.forall_mem_cons.mpr ⟨⟨_, _, _, tyX10, rfl, by decide, tt_at 178 rfl rfl, inX10, tyX10_ok, nmX10, rfl, by decide +kernel⟩, List.forall_mem_cons.mpr ⟨⟨_, _, _, tyX10, rfl, by decide, tt_at 179 rfl rfl, inX10, tyX10_ok, nmX10, rfl, by decide +kernel⟩, fun _ h => absurd h List.not_mem_nil⟩⟩
def MR_10 : List (Nat × Nat × Nat) := [(25, 113, 0), (31, 114, 0), (35, 127, 1), (39, 121, 1), (51, 128, 1), (54, 129, 1), (43, 122, 1), (57, 123, 1), (60, 124, 1), (65, 126, 1), (90, 212, 4), (93, 213, 4), (79, 125, 1), (47, 117, 0)]
def LI_10 : List (Nat × Int32) := []
set_option maxRecDepth 100000 in
theorem LI_10_ok : ∀ q ∈ LI_10, Cond.constant "RowDrawer$Tokens" q.1 q.2 ∈ TT := fun _ h => absurd h List.not_mem_nil
def LL_10 : List (Nat × Int64) := []
set_option maxRecDepth 100000 in
theorem LL_10_ok : ∀ q ∈ LL_10, Cond.constantLong "RowDrawer$Tokens" q.1 q.2 ∈ TT := fun _ h => absurd h List.not_mem_nil
def FR_11 : List (Nat × Nat × Nat) := [(10, 11, 0), (19, 11, 1), (26, 11, 2), (35, 11, 3), (42, 11, 4), (51, 11, 5), (60, 11, 6), (69, 11, 7), (76, 11, 8), (85, 11, 9)]
set_option maxRecDepth 100000 in
theorem FR_11_ok : ∀ q ∈ FR_11, FL "RowDrawer" q := List.forall_mem_cons.mpr ⟨⟨_, _, _, rfl, by decide, tt_at 403 rfl rfl, inX11⟩, List.forall_mem_cons.mpr ⟨⟨_, _, _, rfl, by decide, tt_at 404 rfl rfl, inX11⟩, List.forall_mem_cons.mpr ⟨⟨_, _, _, rfl, by decide, tt_at 405 rfl rfl, inX11⟩, List.forall_mem_cons.mpr ⟨⟨_, _, _, rfl, by decide, tt_at 406 rfl rfl, inX11⟩, List.forall_mem_cons.mpr ⟨⟨_, _, _, rfl, by decide, tt_at 407 rfl rfl, inX11⟩, List.forall_mem_cons.mpr ⟨⟨_, _, _, rfl, by decide, tt_at 408 rfl rfl, inX11⟩, List.forall_mem_cons.mpr ⟨⟨_, _, _, rfl, by decide, tt_at 409 rfl rfl, inX11⟩, List.forall_mem_cons.mpr ⟨⟨_, _, _, rfl, by decide, tt_at 410 rfl rfl, inX11⟩, List.forall_mem_cons.mpr ⟨⟨_, _, _, rfl, by decide, tt_at 411 rfl rfl, inX11⟩, List.forall_mem_cons.mpr ⟨⟨_, _, _, rfl, by decide, tt_at 412 rfl rfl, inX11⟩, fun _ h => absurd h List.not_mem_nil⟩⟩⟩⟩⟩⟩⟩⟩⟩⟩
def PR_11 : List (Nat × Nat × Nat × Nat) := []
set_option maxRecDepth 100000 in
theorem PR_11_ok : ∀ q ∈ PR_11, PL "RowDrawer" q := fun _ h => absurd h List.not_mem_nil
def MR_11 : List (Nat × Nat × Nat) := [(89, 61, 0), (93, 30, 0), (97, 97, 0), (100, 63, 0), (103, 60, 1), (107, 88, 0), (111, 89, 0), (115, 29, 0), (117, 90, 0), (120, 111, 0), (124, 113, 0), (127, 77, 0), (130, 76, 0), (134, 5, 0), (138, 31, 0), (141, 32, 0), (144, 46, 0), (148, 48, 0), (152, 149, 1), (155, 98, 0), (156, 107, 0), (159, 108, 0), (163, 28, 0), (166, 110, 0), (169, 91, 0), (172, 92, 0), (175, 67, 0), (210, 13, 0), (191, 74, 0), (213, 0, 0), (217, 1, 0), (220, 51, 0), (223, 56, 0), (224, 58, 0), (227, 65, 0), (230, 95, 0), (233, 96, 0), (236, 14, 0), (239, 15, 0), (242, 69, 0), (244, 94, 0), (178, 16, 0), (188, 17, 0), (195, 210, 1), (201, 75, 0), (204, 18, 0), (207, 47, 0)]
def LI_11 : List (Nat × Int32) := []
set_option maxRecDepth 100000 in
theorem LI_11_ok : ∀ q ∈ LI_11, Cond.constant "RowDrawer" q.1 q.2 ∈ TT := fun _ h => absurd h List.not_mem_nil
def LL_11 : List (Nat × Int64) := []
set_option maxRecDepth 100000 in
theorem LL_11_ok : ∀ q ∈ LL_11, Cond.constantLong "RowDrawer" q.1 q.2 ∈ TT := fun _ h => absurd h List.not_mem_nil
def FR_12 : List (Nat × Nat × Nat) := [(1, 12, 0), (14, 12, 1), (11, 12, 2), (161, 12, 3), (24, 12, 4), (27, 12, 5), (30, 12, 6), (180, 12, 7), (183, 12, 8), (54, 12, 9), (202, 12, 10), (205, 12, 11), (57, 12, 12), (60, 12, 13), (63, 12, 14), (66, 12, 15), (70, 12, 16), (73, 12, 17), (76, 12, 18), (79, 12, 19), (82, 12, 20), (85, 12, 21), (88, 12, 22), (91, 12, 23), (224, 12, 24), (227, 12, 25), (94, 12, 26), (97, 12, 27), (249, 12, 28), (100, 12, 29), (252, 12, 30), (103, 12, 31), (106, 12, 32), (109, 12, 33), (112, 12, 34), (117, 12, 35), (120, 12, 36), (123, 12, 37), (127, 12, 38), (289, 12, 39), (130, 12, 40), (133, 12, 41), (136, 12, 42), (139, 12, 43), (142, 12, 44), (145, 12, 45), (148, 12, 46), (313, 12, 47), (307, 12, 48), (310, 12, 49), (151, 12, 50), (154, 12, 51)]
set_option maxRecDepth 100000 in
theorem FR_12_ok : ∀ q ∈ FR_12, FL "RowDrawerModel" q := List.forall_mem_cons.mpr ⟨⟨_, _, _, rfl, by decide, tt_at 1252 rfl rfl, inX12⟩, List.forall_mem_cons.mpr ⟨⟨_, _, _, rfl, by decide, tt_at 1253 rfl rfl, inX12⟩, List.forall_mem_cons.mpr ⟨⟨_, _, _, rfl, by decide, tt_at 1254 rfl rfl, inX12⟩, List.forall_mem_cons.mpr ⟨⟨_, _, _, rfl, by decide, tt_at 1255 rfl rfl, inX12⟩, List.forall_mem_cons.mpr ⟨⟨_, _, _, rfl, by decide, tt_at 1256 rfl rfl, inX12⟩, List.forall_mem_cons.mpr ⟨⟨_, _, _, rfl, by decide, tt_at 1257 rfl rfl, inX12⟩, List.forall_mem_cons.mpr ⟨⟨_, _, _, rfl, by decide, tt_at 1258 rfl rfl, inX12⟩, List.forall_mem_cons.mpr ⟨⟨_, _, _, rfl, by decide, tt_at 1259 rfl rfl, inX12⟩, List.forall_mem_cons.mpr ⟨⟨_, _, _, rfl, by decide, tt_at 1260 rfl rfl, inX12⟩, List.forall_mem_cons.mpr ⟨⟨_, _, _, rfl, by decide, tt_at 1261 rfl rfl, inX12⟩, List.forall_mem_cons.mpr ⟨⟨_, _, _, rfl, by decide, tt_at 1262 rfl rfl, inX12⟩, List.forall_mem_cons.mpr ⟨⟨_, _, _, rfl, by decide, tt_at 1263 rfl rfl, inX12⟩, List.forall_mem_cons.mpr ⟨⟨_, _, _, rfl, by decide, tt_at 1264 rfl rfl, inX12⟩, List.forall_mem_cons.mpr ⟨⟨_, _, _, rfl, by decide, tt_at 1265 rfl rfl, inX12⟩, List.forall_mem_cons.mpr ⟨⟨_, _, _, rfl, by decide, tt_at 1266 rfl rfl, inX12⟩, List.forall_mem_cons.mpr ⟨⟨_, _, _, rfl, by decide, tt_at 1267 rfl rfl, inX12⟩, List.forall_mem_cons.mpr ⟨⟨_, _, _, rfl, by decide, tt_at 1268 rfl rfl, inX12⟩, List.forall_mem_cons.mpr ⟨⟨_, _, _, rfl, by decide, tt_at 1269 rfl rfl, inX12⟩, List.forall_mem_cons.mpr ⟨⟨_, _, _, rfl, by decide, tt_at 1270 rfl rfl, inX12⟩, List.forall_mem_cons.mpr ⟨⟨_, _, _, rfl, by decide, tt_at 1271 rfl rfl, inX12⟩, List.forall_mem_cons.mpr ⟨⟨_, _, _, rfl, by decide, tt_at 1272 rfl rfl, inX12⟩, List.forall_mem_cons.mpr ⟨⟨_, _, _, rfl, by decide, tt_at 1273 rfl rfl, inX12⟩, List.forall_mem_cons.mpr ⟨⟨_, _, _, rfl, by decide, tt_at 1274 rfl rfl, inX12⟩, List.forall_mem_cons.mpr ⟨⟨_, _, _, rfl, by decide, tt_at 1275 rfl rfl, inX12⟩, List.forall_mem_cons.mpr ⟨⟨_, _, _, rfl, by decide, tt_at 1276 rfl rfl, inX12⟩, List.forall_mem_cons.mpr ⟨⟨_, _, _, rfl, by decide, tt_at 1277 rfl rfl, inX12⟩, List.forall_mem_cons.mpr ⟨⟨_, _, _, rfl, by decide, tt_at 1278 rfl rfl, inX12⟩, List.forall_mem_cons.mpr ⟨⟨_, _, _, rfl, by decide, tt_at 1279 rfl rfl, inX12⟩, List.forall_mem_cons.mpr ⟨⟨_, _, _, rfl, by decide, tt_at 1280 rfl rfl, inX12⟩, List.forall_mem_cons.mpr ⟨⟨_, _, _, rfl, by decide, tt_at 1281 rfl rfl, inX12⟩, List.forall_mem_cons.mpr ⟨⟨_, _, _, rfl, by decide, tt_at 1282 rfl rfl, inX12⟩, List.forall_mem_cons.mpr ⟨⟨_, _, _, rfl, by decide, tt_at 1283 rfl rfl, inX12⟩, List.forall_mem_cons.mpr ⟨⟨_, _, _, rfl, by decide, tt_at 1284 rfl rfl, inX12⟩, List.forall_mem_cons.mpr ⟨⟨_, _, _, rfl, by decide, tt_at 1285 rfl rfl, inX12⟩, List.forall_mem_cons.mpr ⟨⟨_, _, _, rfl, by decide, tt_at 1286 rfl rfl, inX12⟩, List.forall_mem_cons.mpr ⟨⟨_, _, _, rfl, by decide, tt_at 1287 rfl rfl, inX12⟩, List.forall_mem_cons.mpr ⟨⟨_, _, _, rfl, by decide, tt_at 1288 rfl rfl, inX12⟩, List.forall_mem_cons.mpr ⟨⟨_, _, _, rfl, by decide, tt_at 1289 rfl rfl, inX12⟩, List.forall_mem_cons.mpr ⟨⟨_, _, _, rfl, by decide, tt_at 1290 rfl rfl, inX12⟩, List.forall_mem_cons.mpr ⟨⟨_, _, _, rfl, by decide, tt_at 1291 rfl rfl, inX12⟩, List.forall_mem_cons.mpr ⟨⟨_, _, _, rfl, by decide, tt_at 1292 rfl rfl, inX12⟩, List.forall_mem_cons.mpr ⟨⟨_, _, _, rfl, by decide, tt_at 1293 rfl rfl, inX12⟩, List.forall_mem_cons.mpr ⟨⟨_, _, _, rfl, by decide, tt_at 1294 rfl rfl, inX12⟩, List.forall_mem_cons.mpr ⟨⟨_, _, _, rfl, by decide, tt_at 1295 rfl rfl, inX12⟩, List.forall_mem_cons.mpr ⟨⟨_, _, _, rfl, by decide, tt_at 1296 rfl rfl, inX12⟩, List.forall_mem_cons.mpr ⟨⟨_, _, _, rfl, by decide, tt_at 1297 rfl rfl, inX12⟩, List.forall_mem_cons.mpr ⟨⟨_, _, _, rfl, by decide, tt_at 1298 rfl rfl, inX12⟩, List.forall_mem_cons.mpr ⟨⟨_, _, _, rfl, by decide, tt_at 1299 rfl rfl, inX12⟩, List.forall_mem_cons.mpr ⟨⟨_, _, _, rfl, by decide, tt_at 1300 rfl rfl, inX12⟩, List.forall_mem_cons.mpr ⟨⟨_, _, _, rfl, by decide, tt_at 1301 rfl rfl, inX12⟩, List.forall_mem_cons.mpr ⟨⟨_, _, _, rfl, by decide, tt_at 1302 rfl rfl, inX12⟩, List.forall_mem_cons.mpr ⟨⟨_, _, _, rfl, by decide, tt_at 1303 rfl rfl, inX12⟩, fun _ h => absurd h List.not_mem_nil⟩⟩⟩⟩⟩⟩⟩⟩⟩⟩⟩⟩⟩⟩⟩⟩⟩⟩⟩⟩⟩⟩⟩⟩⟩⟩⟩⟩⟩⟩⟩⟩⟩⟩⟩⟩⟩⟩⟩⟩⟩⟩⟩⟩⟩⟩⟩⟩⟩⟩⟩⟩
def PR_12 : List (Nat × Nat × Nat × Nat) := [(1, 12, 0, 0), (11, 12, 2, 0), (161, 12, 3, 0), (180, 12, 7, 0), (183, 12, 8, 0), (202, 12, 10, 0), (205, 12, 11, 0), (224, 12, 24, 1), (227, 12, 25, 1), (249, 12, 28, 0), (252, 12, 30, 0), (112, 12, 34, 1), (289, 12, 39, 0), (313, 12, 47, 0), (307, 12, 48, 0), (310, 12, 49, 0)]
set_option maxRecDepth 100000 in
theorem PR_12_ok : ∀ q ∈ PR_12, PL "RowDrawerModel" q := List.forall_mem_cons.mpr ⟨⟨_, _, _, tyX12, rfl, by decide, tt_at 1252 rfl rfl, inX12, tyX12_ok, nmX12, rfl, by decide +kernel⟩, List.forall_mem_cons.mpr ⟨⟨_, _, _, tyX12, rfl, by decide, tt_at 1254 rfl rfl, inX12, tyX12_ok, nmX12, rfl, by decide +kernel⟩, List.forall_mem_cons.mpr ⟨⟨_, _, _, tyX12, rfl, by decide, tt_at 1255 rfl rfl, inX12, tyX12_ok, nmX12, rfl, by decide +kernel⟩, List.forall_mem_cons.mpr ⟨⟨_, _, _, tyX12, rfl, by decide, tt_at 1259 rfl rfl, inX12, tyX12_ok, nmX12, rfl, by decide +kernel⟩, List.forall_mem_cons.mpr ⟨⟨_, _, _, tyX12, rfl, by decide, tt_at 1260 rfl rfl, inX12, tyX12_ok, nmX12, rfl, by decide +kernel⟩, List.forall_mem_cons.mpr ⟨⟨_, _, _, tyX12, rfl, by decide, tt_at 1262 rfl rfl, inX12, tyX12_ok, nmX12, rfl, by decide +kernel⟩, List.forall_mem_cons.mpr ⟨⟨_, _, _, tyX12, rfl, by decide, tt_at 1263 rfl rfl, inX12, tyX12_ok, nmX12, rfl, by decide +kernel⟩, List.forall_mem_cons.mpr ⟨⟨_, _, _, tyX12, rfl, by decide, tt_at 1276 rfl rfl, inX12, tyX12_ok, nmX12, rfl, by decide +kernel⟩, List.forall_mem_cons.mpr ⟨⟨_, _, _, tyX12, rfl, by decide, tt_at 1277 rfl rfl, inX12, tyX12_ok, nmX12, rfl, by decide +kernel⟩, List.forall_mem_cons.mpr ⟨⟨_, _, _, tyX12, rfl, by decide, tt_at 1280 rfl rfl, inX12, tyX12_ok, nmX12, rfl, by decide +kernel⟩, List.forall_mem_cons.mpr ⟨⟨_, _, _, tyX12, rfl, by decide, tt_at 1282 rfl rfl, inX12, tyX12_ok, nmX12, rfl, by decide +kernel⟩, List.forall_mem_cons.mpr ⟨⟨_, _, _, tyX12, rfl, by decide, tt_at 1286 rfl rfl, inX12, tyX12_ok, nmX12, rfl, by decide +kernel⟩, List.forall_mem_cons.mpr ⟨⟨_, _, _, tyX12, rfl, by decide, tt_at 1291 rfl rfl, inX12, tyX12_ok, nmX12, rfl, by decide +kernel⟩, List.forall_mem_cons.mpr ⟨⟨_, _, _, tyX12, rfl, by decide, tt_at 1299 rfl rfl, inX12, tyX12_ok, nmX12, rfl, by decide +kernel⟩, List.forall_mem_cons.mpr ⟨⟨_, _, _, tyX12, rfl, by decide, tt_at 1300 rfl rfl, inX12, tyX12_ok, nmX12, rfl, by decide +kernel⟩, List.forall_mem_cons.mpr ⟨⟨_, _, _, tyX12, rfl, by decide, tt_at 1301 rfl rfl, inX12, tyX12_ok, nmX12, rfl, by decide +kernel⟩, fun _ h => absurd h List.not_mem_nil⟩⟩⟩⟩⟩⟩⟩⟩⟩⟩⟩⟩⟩⟩⟩⟩
def MR_12 : List (Nat × Nat × Nat) := [(7, 152, 0), (199, 157, 0), (157, 153, 1), (166, 155, 1), (170, 154, 1), (177, 156, 1), (208, 166, 0), (193, 160, 0), (211, 168, 0), (189, 158, 0), (214, 164, 0), (218, 161, 0), (186, 159, 0), (230, 170, 0), (233, 169, 0), (237, 171, 0), (196, 162, 0), (240, 163, 0), (221, 167, 0), (243, 172, 1), (246, 174, 0), (255, 179, 0), (274, 183, 0), (258, 184, 0), (262, 185, 0), (270, 181, 0), (266, 182, 1), (277, 186, 0), (283, 191, 1), (286, 189, 0), (280, 190, 0), (296, 197, 0), (292, 196, 0), (300, 199, 1), (316, 203, 0), (304, 202, 1), (319, 201, 0), (322, 208, 0)]
def LI_12 : List (Nat × Int32) := [(116, 122880), (126, 102010)]
set_option maxRecDepth 100000 in
theorem LI_12_ok : ∀ q ∈ LI_12, Cond.constant "RowDrawerModel" q.1 q.2 ∈ TT := List.forall_mem_cons.mpr ⟨tt_at 1250 rfl rfl, List.forall_mem_cons.mpr ⟨tt_at 1251 rfl rfl, fun _ h => absurd h List.not_mem_nil⟩⟩
def LL_12 : List (Nat × Int64) := [(34, 940952), (36, 2793), (38, 6029423), (40, 1335121806), (42, 983428), (44, 614923), (46, 34200674), (48, 1186224), (50, 983628), (52, 1912), (164, 37), (173, 10), (175, 48)]
set_option maxRecDepth 100000 in
theorem LL_12_ok : ∀ q ∈ LL_12, Cond.constantLong "RowDrawerModel" q.1 q.2 ∈ TT := List.forall_mem_cons.mpr ⟨tt_at 1240 rfl rfl, List.forall_mem_cons.mpr ⟨tt_at 1241 rfl rfl, List.forall_mem_cons.mpr ⟨tt_at 1242 rfl rfl, List.forall_mem_cons.mpr ⟨tt_at 1243 rfl rfl, List.forall_mem_cons.mpr ⟨tt_at 1244 rfl rfl, List.forall_mem_cons.mpr ⟨tt_at 1245 rfl rfl, List.forall_mem_cons.mpr ⟨tt_at 1246 rfl rfl, List.forall_mem_cons.mpr ⟨tt_at 1247 rfl rfl, List.forall_mem_cons.mpr ⟨tt_at 1248 rfl rfl, List.forall_mem_cons.mpr ⟨tt_at 1249 rfl rfl, List.forall_mem_cons.mpr ⟨tt_at 1420 rfl rfl, List.forall_mem_cons.mpr ⟨tt_at 1427 rfl rfl, List.forall_mem_cons.mpr ⟨tt_at 1428 rfl rfl, fun _ h => absurd h List.not_mem_nil⟩⟩⟩⟩⟩⟩⟩⟩⟩⟩⟩⟩⟩
def FR_13 : List (Nat × Nat × Nat) := []
set_option maxRecDepth 100000 in
theorem FR_13_ok : ∀ q ∈ FR_13, FL "java/lang/Integer" q := fun _ h => absurd h List.not_mem_nil
def PR_13 : List (Nat × Nat × Nat × Nat) := []
set_option maxRecDepth 100000 in
theorem PR_13_ok : ∀ q ∈ PR_13, PL "java/lang/Integer" q := fun _ h => absurd h List.not_mem_nil
def MR_13 : List (Nat × Nat × Nat) := []
def LI_13 : List (Nat × Int32) := [(265, 1431655765), (266, 858993459), (267, 252645135)]
set_option maxRecDepth 100000 in
theorem LI_13_ok : ∀ q ∈ LI_13, Cond.constant "java/lang/Integer" q.1 q.2 ∈ TT := List.forall_mem_cons.mpr ⟨tt_at 849 rfl rfl, List.forall_mem_cons.mpr ⟨tt_at 850 rfl rfl, List.forall_mem_cons.mpr ⟨tt_at 851 rfl rfl, fun _ h => absurd h List.not_mem_nil⟩⟩⟩
def LL_13 : List (Nat × Int64) := []
set_option maxRecDepth 100000 in
theorem LL_13_ok : ∀ q ∈ LL_13, Cond.constantLong "java/lang/Integer" q.1 q.2 ∈ TT := fun _ h => absurd h List.not_mem_nil
def FR_14 : List (Nat × Nat × Nat) := []
set_option maxRecDepth 100000 in
theorem FR_14_ok : ∀ q ∈ FR_14, FL "java/lang/Long" q := fun _ h => absurd h List.not_mem_nil
def PR_14 : List (Nat × Nat × Nat × Nat) := []
set_option maxRecDepth 100000 in
theorem PR_14_ok : ∀ q ∈ PR_14, PL "java/lang/Long" q := fun _ h => absurd h List.not_mem_nil
def MR_14 : List (Nat × Nat × Nat) := []
def LI_14 : List (Nat × Int32) := []
set_option maxRecDepth 100000 in
theorem LI_14_ok : ∀ q ∈ LI_14, Cond.constant "java/lang/Long" q.1 q.2 ∈ TT := fun _ h => absurd h List.not_mem_nil
def LL_14 : List (Nat × Int64) := [(314, 6148914691236517205), (316, 3689348814741910323), (318, 1085102592571150095)]
set_option maxRecDepth 100000 in
theorem LL_14_ok : ∀ q ∈ LL_14, Cond.constantLong "java/lang/Long" q.1 q.2 ∈ TT := List.forall_mem_cons.mpr ⟨tt_at 949 rfl rfl, List.forall_mem_cons.mpr ⟨tt_at 950 rfl rfl, List.forall_mem_cons.mpr ⟨tt_at 951 rfl rfl, fun _ h => absurd h List.not_mem_nil⟩⟩⟩
def FR_15 : List (Nat × Nat × Nat) := []
set_option maxRecDepth 100000 in
theorem FR_15_ok : ∀ q ∈ FR_15, FL "java/lang/Math" q := fun _ h => absurd h List.not_mem_nil
def PR_15 : List (Nat × Nat × Nat × Nat) := []
set_option maxRecDepth 100000 in
theorem PR_15_ok : ∀ q ∈ PR_15, PL "java/lang/Math" q := fun _ h => absurd h List.not_mem_nil
def MR_15 : List (Nat × Nat × Nat) := []
def LI_15 : List (Nat × Int32) := []
set_option maxRecDepth 100000 in
theorem LI_15_ok : ∀ q ∈ LI_15, Cond.constant "java/lang/Math" q.1 q.2 ∈ TT := fun _ h => absurd h List.not_mem_nil
def LL_15 : List (Nat × Int64) := []
set_option maxRecDepth 100000 in
theorem LL_15_ok : ∀ q ∈ LL_15, Cond.constantLong "java/lang/Math" q.1 q.2 ∈ TT := fun _ h => absurd h List.not_mem_nil
def FR_16 : List (Nat × Nat × Nat) := []
set_option maxRecDepth 100000 in
theorem FR_16_ok : ∀ q ∈ FR_16, FL "java/util/Arrays" q := fun _ h => absurd h List.not_mem_nil
def PR_16 : List (Nat × Nat × Nat × Nat) := []
set_option maxRecDepth 100000 in
theorem PR_16_ok : ∀ q ∈ PR_16, PL "java/util/Arrays" q := fun _ h => absurd h List.not_mem_nil
def MR_16 : List (Nat × Nat × Nat) := []
def LI_16 : List (Nat × Int32) := []
set_option maxRecDepth 100000 in
theorem LI_16_ok : ∀ q ∈ LI_16, Cond.constant "java/util/Arrays" q.1 q.2 ∈ TT := fun _ h => absurd h List.not_mem_nil
def LL_16 : List (Nat × Int64) := []
set_option maxRecDepth 100000 in
theorem LL_16_ok : ∀ q ∈ LL_16, Cond.constantLong "java/util/Arrays" q.1 q.2 ∈ TT := fun _ h => absurd h List.not_mem_nil
def FR_17 : List (Nat × Nat × Nat) := []
set_option maxRecDepth 100000 in
theorem FR_17_ok : ∀ q ∈ FR_17, FL "java/lang/String" q := fun _ h => absurd h List.not_mem_nil
def PR_17 : List (Nat × Nat × Nat × Nat) := []
set_option maxRecDepth 100000 in
theorem PR_17_ok : ∀ q ∈ PR_17, PL "java/lang/String" q := fun _ h => absurd h List.not_mem_nil
def MR_17 : List (Nat × Nat × Nat) := []
def LI_17 : List (Nat × Int32) := []
set_option maxRecDepth 100000 in
theorem LI_17_ok : ∀ q ∈ LI_17, Cond.constant "java/lang/String" q.1 q.2 ∈ TT := fun _ h => absurd h List.not_mem_nil
def LL_17 : List (Nat × Int64) := []
set_option maxRecDepth 100000 in
theorem LL_17_ok : ∀ q ∈ LL_17, Cond.constantLong "java/lang/String" q.1 q.2 ∈ TT := fun _ h => absurd h List.not_mem_nil
def ML (own : String) (q : Nat × Nat × Nat) : Prop := match q.2.2 with
  | 3 => Cond.methodLink own q.1 arraycopyName ∈ TT
  | 5 => Cond.methodLink own q.1 Lib.Math.min.name ∈ TT
  | 6 => Cond.methodLink own q.1 Lib.Math.max.name ∈ TT
  | 7 => Cond.methodLink own q.1 Lib.Math.abs.name ∈ TT
  | 2 => ∃ x, MT[q.2.1]? = some x ∧ ∃ host, (own, q.1, mY x.1, host) ∈ nestL
  | _ => ∃ x, MT[q.2.1]? = some x ∧ Cond.methodLink own q.1 (mY x.1) ∈ TT
set_option maxRecDepth 100000 in
theorem MR_0_ok : ∀ q ∈ MR_0, ML "RowDrawer$BestSet" q := List.forall_mem_cons.mpr ⟨tt_at 1027 rfl rfl, List.forall_mem_cons.mpr ⟨⟨_, rfl, tt_at 1028 rfl rfl⟩, List.forall_mem_cons.mpr ⟨⟨_, rfl, tt_at 1032 rfl rfl⟩, List.forall_mem_cons.mpr ⟨⟨_, rfl, tt_at 1033 rfl rfl⟩, List.forall_mem_cons.mpr ⟨⟨_, rfl, tt_at 1037 rfl rfl⟩, fun _ h => absurd h List.not_mem_nil⟩⟩⟩⟩⟩
set_option maxRecDepth 100000 in
theorem MR_1_ok : ∀ q ∈ MR_1, ML "RowDrawer$Book" q := List.forall_mem_cons.mpr ⟨tt_at 744 rfl rfl, List.forall_mem_cons.mpr ⟨⟨_, rfl, tt_at 784 rfl rfl⟩, List.forall_mem_cons.mpr ⟨⟨_, rfl, tt_at 804 rfl rfl⟩, List.forall_mem_cons.mpr ⟨⟨_, rfl, ⟨_, List.mem_of_getElem? (i := 0) rfl⟩⟩, fun _ h => absurd h List.not_mem_nil⟩⟩⟩⟩
set_option maxRecDepth 100000 in
theorem MR_2_ok : ∀ q ∈ MR_2, ML "RowDrawer$Finder" q := List.forall_mem_cons.mpr ⟨⟨_, rfl, tt_at 449 rfl rfl⟩, List.forall_mem_cons.mpr ⟨⟨_, rfl, tt_at 453 rfl rfl⟩, List.forall_mem_cons.mpr ⟨⟨_, rfl, tt_at 457 rfl rfl⟩, List.forall_mem_cons.mpr ⟨⟨_, rfl, tt_at 758 rfl rfl⟩, List.forall_mem_cons.mpr ⟨⟨_, rfl, tt_at 762 rfl rfl⟩, List.forall_mem_cons.mpr ⟨⟨_, rfl, tt_at 766 rfl rfl⟩, List.forall_mem_cons.mpr ⟨⟨_, rfl, tt_at 767 rfl rfl⟩, List.forall_mem_cons.mpr ⟨⟨_, rfl, tt_at 771 rfl rfl⟩, List.forall_mem_cons.mpr ⟨⟨_, rfl, tt_at 775 rfl rfl⟩, List.forall_mem_cons.mpr ⟨⟨_, rfl, tt_at 776 rfl rfl⟩, List.forall_mem_cons.mpr ⟨⟨_, rfl, tt_at 780 rfl rfl⟩, List.forall_mem_cons.mpr ⟨⟨_, rfl, tt_at 788 rfl rfl⟩, List.forall_mem_cons.mpr ⟨⟨_, rfl, tt_at 792 rfl rfl⟩, List.forall_mem_cons.mpr ⟨⟨_, rfl, tt_at 796 rfl rfl⟩, List.forall_mem_cons.mpr ⟨⟨_, rfl, tt_at 800 rfl rfl⟩, List.forall_mem_cons.mpr ⟨⟨_, rfl, tt_at 808 rfl rfl⟩, List.forall_mem_cons.mpr ⟨⟨_, rfl, tt_at 812 rfl rfl⟩, List.forall_mem_cons.mpr ⟨⟨_, rfl, tt_at 816 rfl rfl⟩, List.forall_mem_cons.mpr ⟨tt_at 820 rfl rfl, List.forall_mem_cons.mpr ⟨tt_at 823 rfl rfl, List.forall_mem_cons.mpr ⟨⟨_, rfl, tt_at 826 rfl rfl⟩, List.forall_mem_cons.mpr ⟨⟨_, rfl, tt_at 830 rfl rfl⟩, List.forall_mem_cons.mpr ⟨⟨_, rfl, tt_at 834 rfl rfl⟩, List.forall_mem_cons.mpr ⟨⟨_, rfl, tt_at 838 rfl rfl⟩, List.forall_mem_cons.mpr ⟨⟨_, rfl, tt_at 842 rfl rfl⟩, List.forall_mem_cons.mpr ⟨⟨_, rfl, tt_at 846 rfl rfl⟩, List.forall_mem_cons.mpr ⟨⟨_, rfl, tt_at 864 rfl rfl⟩, List.forall_mem_cons.mpr ⟨⟨_, rfl, tt_at 868 rfl rfl⟩, List.forall_mem_cons.mpr ⟨⟨_, rfl, tt_at 872 rfl rfl⟩, List.forall_mem_cons.mpr ⟨⟨_, rfl, tt_at 876 rfl rfl⟩, List.forall_mem_cons.mpr ⟨⟨_, rfl, tt_at 880 rfl rfl⟩, fun _ h => absurd h List.not_mem_nil⟩⟩⟩⟩⟩⟩⟩⟩⟩⟩⟩⟩⟩⟩⟩⟩⟩⟩⟩⟩⟩⟩⟩⟩⟩⟩⟩⟩⟩⟩⟩
set_option maxRecDepth 100000 in
theorem MR_3_ok : ∀ q ∈ MR_3, ML "RowDrawer$Lesson" q := List.forall_mem_cons.mpr ⟨⟨_, rfl, tt_at 1047 rfl rfl⟩, List.forall_mem_cons.mpr ⟨⟨_, rfl, tt_at 1051 rfl rfl⟩, List.forall_mem_cons.mpr ⟨⟨_, rfl, tt_at 1052 rfl rfl⟩, List.forall_mem_cons.mpr ⟨⟨_, rfl, tt_at 1056 rfl rfl⟩, List.forall_mem_cons.mpr ⟨⟨_, rfl, tt_at 1060 rfl rfl⟩, List.forall_mem_cons.mpr ⟨tt_at 1064 rfl rfl, List.forall_mem_cons.mpr ⟨tt_at 1067 rfl rfl, List.forall_mem_cons.mpr ⟨⟨_, rfl, tt_at 1068 rfl rfl⟩, List.forall_mem_cons.mpr ⟨⟨_, rfl, tt_at 1072 rfl rfl⟩, List.forall_mem_cons.mpr ⟨⟨_, rfl, tt_at 1076 rfl rfl⟩, List.forall_mem_cons.mpr ⟨⟨_, rfl, tt_at 1077 rfl rfl⟩, List.forall_mem_cons.mpr ⟨⟨_, rfl, tt_at 1081 rfl rfl⟩, List.forall_mem_cons.mpr ⟨⟨_, rfl, tt_at 1085 rfl rfl⟩, List.forall_mem_cons.mpr ⟨⟨_, rfl, tt_at 1086 rfl rfl⟩, List.forall_mem_cons.mpr ⟨⟨_, rfl, tt_at 1098 rfl rfl⟩, List.forall_mem_cons.mpr ⟨⟨_, rfl, tt_at 1110 rfl rfl⟩, fun _ h => absurd h List.not_mem_nil⟩⟩⟩⟩⟩⟩⟩⟩⟩⟩⟩⟩⟩⟩⟩⟩
set_option maxRecDepth 100000 in
theorem MR_4_ok : ∀ q ∈ MR_4, ML "RowDrawer$Lexicon" q := List.forall_mem_cons.mpr ⟨⟨_, rfl, tt_at 442 rfl rfl⟩, List.forall_mem_cons.mpr ⟨⟨_, rfl, tt_at 473 rfl rfl⟩, fun _ h => absurd h List.not_mem_nil⟩⟩
set_option maxRecDepth 100000 in
theorem MR_5_ok : ∀ q ∈ MR_5, ML "RowDrawer$Marks" q := List.forall_mem_cons.mpr ⟨⟨_, rfl, tt_at 999 rfl rfl⟩, List.forall_mem_cons.mpr ⟨⟨_, rfl, tt_at 1012 rfl rfl⟩, List.forall_mem_cons.mpr ⟨⟨_, rfl, tt_at 1013 rfl rfl⟩, List.forall_mem_cons.mpr ⟨⟨_, rfl, tt_at 1017 rfl rfl⟩, List.forall_mem_cons.mpr ⟨⟨_, rfl, tt_at 1018 rfl rfl⟩, List.forall_mem_cons.mpr ⟨⟨_, rfl, tt_at 1215 rfl rfl⟩, List.forall_mem_cons.mpr ⟨⟨_, rfl, tt_at 1216 rfl rfl⟩, fun _ h => absurd h List.not_mem_nil⟩⟩⟩⟩⟩⟩⟩
set_option maxRecDepth 100000 in
theorem MR_6_ok : ∀ q ∈ MR_6, ML "RowDrawer$Reader" q := List.forall_mem_cons.mpr ⟨⟨_, rfl, tt_at 536 rfl rfl⟩, List.forall_mem_cons.mpr ⟨⟨_, rfl, tt_at 634 rfl rfl⟩, List.forall_mem_cons.mpr ⟨⟨_, rfl, tt_at 638 rfl rfl⟩, List.forall_mem_cons.mpr ⟨⟨_, rfl, tt_at 642 rfl rfl⟩, List.forall_mem_cons.mpr ⟨⟨_, rfl, tt_at 646 rfl rfl⟩, List.forall_mem_cons.mpr ⟨⟨_, rfl, tt_at 650 rfl rfl⟩, List.forall_mem_cons.mpr ⟨⟨_, rfl, tt_at 654 rfl rfl⟩, List.forall_mem_cons.mpr ⟨⟨_, rfl, tt_at 658 rfl rfl⟩, List.forall_mem_cons.mpr ⟨⟨_, rfl, tt_at 662 rfl rfl⟩, List.forall_mem_cons.mpr ⟨⟨_, rfl, tt_at 666 rfl rfl⟩, List.forall_mem_cons.mpr ⟨⟨_, rfl, tt_at 670 rfl rfl⟩, List.forall_mem_cons.mpr ⟨⟨_, rfl, tt_at 674 rfl rfl⟩, List.forall_mem_cons.mpr ⟨⟨_, rfl, tt_at 678 rfl rfl⟩, List.forall_mem_cons.mpr ⟨⟨_, rfl, tt_at 682 rfl rfl⟩, List.forall_mem_cons.mpr ⟨⟨_, rfl, tt_at 686 rfl rfl⟩, List.forall_mem_cons.mpr ⟨⟨_, rfl, tt_at 689 rfl rfl⟩, List.forall_mem_cons.mpr ⟨⟨_, rfl, tt_at 693 rfl rfl⟩, List.forall_mem_cons.mpr ⟨⟨_, rfl, tt_at 697 rfl rfl⟩, List.forall_mem_cons.mpr ⟨⟨_, rfl, tt_at 701 rfl rfl⟩, List.forall_mem_cons.mpr ⟨⟨_, rfl, tt_at 705 rfl rfl⟩, List.forall_mem_cons.mpr ⟨⟨_, rfl, tt_at 709 rfl rfl⟩, List.forall_mem_cons.mpr ⟨⟨_, rfl, tt_at 713 rfl rfl⟩, List.forall_mem_cons.mpr ⟨⟨_, rfl, tt_at 717 rfl rfl⟩, List.forall_mem_cons.mpr ⟨⟨_, rfl, tt_at 721 rfl rfl⟩, List.forall_mem_cons.mpr ⟨⟨_, rfl, tt_at 725 rfl rfl⟩, List.forall_mem_cons.mpr ⟨⟨_, rfl, tt_at 729 rfl rfl⟩, fun _ h => absurd h List.not_mem_nil⟩⟩⟩⟩⟩⟩⟩⟩⟩⟩⟩⟩⟩⟩⟩⟩⟩⟩⟩⟩⟩⟩⟩⟩⟩⟩
set_option maxRecDepth 100000 in
theorem MR_7_ok : ∀ q ∈ MR_7, ML "RowDrawer$Sentences" q := List.forall_mem_cons.mpr ⟨tt_at 494 rfl rfl, List.forall_mem_cons.mpr ⟨⟨_, rfl, tt_at 509 rfl rfl⟩, fun _ h => absurd h List.not_mem_nil⟩⟩
set_option maxRecDepth 100000 in
theorem MR_8_ok : ∀ q ∈ MR_8, ML "RowDrawer$Table" q := List.forall_mem_cons.mpr ⟨⟨_, rfl, tt_at 893 rfl rfl⟩, List.forall_mem_cons.mpr ⟨⟨_, rfl, tt_at 896 rfl rfl⟩, List.forall_mem_cons.mpr ⟨⟨_, rfl, tt_at 897 rfl rfl⟩, List.forall_mem_cons.mpr ⟨⟨_, rfl, tt_at 898 rfl rfl⟩, List.forall_mem_cons.mpr ⟨⟨_, rfl, tt_at 902 rfl rfl⟩, List.forall_mem_cons.mpr ⟨⟨_, rfl, tt_at 903 rfl rfl⟩, List.forall_mem_cons.mpr ⟨⟨_, rfl, tt_at 904 rfl rfl⟩, List.forall_mem_cons.mpr ⟨⟨_, rfl, tt_at 905 rfl rfl⟩, List.forall_mem_cons.mpr ⟨⟨_, rfl, tt_at 909 rfl rfl⟩, List.forall_mem_cons.mpr ⟨⟨_, rfl, tt_at 910 rfl rfl⟩, List.forall_mem_cons.mpr ⟨⟨_, rfl, tt_at 914 rfl rfl⟩, List.forall_mem_cons.mpr ⟨⟨_, rfl, tt_at 919 rfl rfl⟩, List.forall_mem_cons.mpr ⟨⟨_, rfl, tt_at 920 rfl rfl⟩, List.forall_mem_cons.mpr ⟨⟨_, rfl, tt_at 925 rfl rfl⟩, List.forall_mem_cons.mpr ⟨⟨_, rfl, tt_at 926 rfl rfl⟩, List.forall_mem_cons.mpr ⟨⟨_, rfl, tt_at 930 rfl rfl⟩, List.forall_mem_cons.mpr ⟨⟨_, rfl, tt_at 934 rfl rfl⟩, List.forall_mem_cons.mpr ⟨⟨_, rfl, tt_at 938 rfl rfl⟩, List.forall_mem_cons.mpr ⟨⟨_, rfl, tt_at 942 rfl rfl⟩, List.forall_mem_cons.mpr ⟨⟨_, rfl, tt_at 946 rfl rfl⟩, List.forall_mem_cons.mpr ⟨⟨_, rfl, tt_at 952 rfl rfl⟩, List.forall_mem_cons.mpr ⟨⟨_, rfl, tt_at 956 rfl rfl⟩, List.forall_mem_cons.mpr ⟨⟨_, rfl, tt_at 973 rfl rfl⟩, List.forall_mem_cons.mpr ⟨⟨_, rfl, ⟨_, List.mem_of_getElem? (i := 1) rfl⟩⟩, fun _ h => absurd h List.not_mem_nil⟩⟩⟩⟩⟩⟩⟩⟩⟩⟩⟩⟩⟩⟩⟩⟩⟩⟩⟩⟩⟩⟩⟩⟩
set_option maxRecDepth 100000 in
theorem MR_9_ok : ∀ q ∈ MR_9, ML "RowDrawer$Tape" q := List.forall_mem_cons.mpr ⟨⟨_, rfl, tt_at 521 rfl rfl⟩, fun _ h => absurd h List.not_mem_nil⟩
set_option maxRecDepth 100000 in
theorem MR_10_ok : ∀ q ∈ MR_10, ML "RowDrawer$Tokens" q := List.forall_mem_cons.mpr ⟨⟨_, rfl, tt_at 540 rfl rfl⟩, List.forall_mem_cons.mpr ⟨⟨_, rfl, tt_at 541 rfl rfl⟩, List.forall_mem_cons.mpr ⟨⟨_, rfl, tt_at 545 rfl rfl⟩, List.forall_mem_cons.mpr ⟨⟨_, rfl, tt_at 548 rfl rfl⟩, List.forall_mem_cons.mpr ⟨⟨_, rfl, tt_at 551 rfl rfl⟩, List.forall_mem_cons.mpr ⟨⟨_, rfl, tt_at 554 rfl rfl⟩, List.forall_mem_cons.mpr ⟨⟨_, rfl, tt_at 557 rfl rfl⟩, List.forall_mem_cons.mpr ⟨⟨_, rfl, tt_at 560 rfl rfl⟩, List.forall_mem_cons.mpr ⟨⟨_, rfl, tt_at 563 rfl rfl⟩, List.forall_mem_cons.mpr ⟨⟨_, rfl, tt_at 567 rfl rfl⟩, List.forall_mem_cons.mpr ⟨⟨_, rfl, tt_at 570 rfl rfl⟩, List.forall_mem_cons.mpr ⟨⟨_, rfl, tt_at 580 rfl rfl⟩, List.forall_mem_cons.mpr ⟨⟨_, rfl, tt_at 623 rfl rfl⟩, List.forall_mem_cons.mpr ⟨⟨_, rfl, tt_at 630 rfl rfl⟩, fun _ h => absurd h List.not_mem_nil⟩⟩⟩⟩⟩⟩⟩⟩⟩⟩⟩⟩⟩⟩
set_option maxRecDepth 100000 in
theorem MR_11_ok : ∀ q ∈ MR_11, ML "RowDrawer" q := List.forall_mem_cons.mpr ⟨⟨_, rfl, tt_at 438 rfl rfl⟩, List.forall_mem_cons.mpr ⟨⟨_, rfl, tt_at 445 rfl rfl⟩, List.forall_mem_cons.mpr ⟨⟨_, rfl, tt_at 461 rfl rfl⟩, List.forall_mem_cons.mpr ⟨⟨_, rfl, tt_at 469 rfl rfl⟩, List.forall_mem_cons.mpr ⟨⟨_, rfl, tt_at 481 rfl rfl⟩, List.forall_mem_cons.mpr ⟨⟨_, rfl, tt_at 482 rfl rfl⟩, List.forall_mem_cons.mpr ⟨⟨_, rfl, tt_at 490 rfl rfl⟩, List.forall_mem_cons.mpr ⟨⟨_, rfl, tt_at 497 rfl rfl⟩, List.forall_mem_cons.mpr ⟨⟨_, rfl, tt_at 505 rfl rfl⟩, List.forall_mem_cons.mpr ⟨⟨_, rfl, tt_at 517 rfl rfl⟩, List.forall_mem_cons.mpr ⟨⟨_, rfl, tt_at 524 rfl rfl⟩, List.forall_mem_cons.mpr ⟨⟨_, rfl, tt_at 532 rfl rfl⟩, List.forall_mem_cons.mpr ⟨⟨_, rfl, tt_at 736 rfl rfl⟩, List.forall_mem_cons.mpr ⟨⟨_, rfl, tt_at 740 rfl rfl⟩, List.forall_mem_cons.mpr ⟨⟨_, rfl, tt_at 745 rfl rfl⟩, List.forall_mem_cons.mpr ⟨⟨_, rfl, tt_at 754 rfl rfl⟩, List.forall_mem_cons.mpr ⟨⟨_, rfl, tt_at 852 rfl rfl⟩, List.forall_mem_cons.mpr ⟨⟨_, rfl, tt_at 860 rfl rfl⟩, List.forall_mem_cons.mpr ⟨⟨_, rfl, tt_at 888 rfl rfl⟩, List.forall_mem_cons.mpr ⟨⟨_, rfl, tt_at 889 rfl rfl⟩, List.forall_mem_cons.mpr ⟨⟨_, rfl, tt_at 961 rfl rfl⟩, List.forall_mem_cons.mpr ⟨⟨_, rfl, tt_at 969 rfl rfl⟩, List.forall_mem_cons.mpr ⟨⟨_, rfl, tt_at 981 rfl rfl⟩, List.forall_mem_cons.mpr ⟨⟨_, rfl, tt_at 985 rfl rfl⟩, List.forall_mem_cons.mpr ⟨⟨_, rfl, tt_at 993 rfl rfl⟩, List.forall_mem_cons.mpr ⟨⟨_, rfl, tt_at 994 rfl rfl⟩, List.forall_mem_cons.mpr ⟨⟨_, rfl, tt_at 995 rfl rfl⟩, List.forall_mem_cons.mpr ⟨⟨_, rfl, tt_at 1007 rfl rfl⟩, List.forall_mem_cons.mpr ⟨⟨_, rfl, tt_at 1008 rfl rfl⟩, List.forall_mem_cons.mpr ⟨⟨_, rfl, tt_at 1019 rfl rfl⟩, List.forall_mem_cons.mpr ⟨⟨_, rfl, tt_at 1023 rfl rfl⟩, List.forall_mem_cons.mpr ⟨⟨_, rfl, tt_at 1043 rfl rfl⟩, List.forall_mem_cons.mpr ⟨⟨_, rfl, tt_at 1094 rfl rfl⟩, List.forall_mem_cons.mpr ⟨⟨_, rfl, tt_at 1106 rfl rfl⟩, List.forall_mem_cons.mpr ⟨⟨_, rfl, tt_at 1118 rfl rfl⟩, List.forall_mem_cons.mpr ⟨⟨_, rfl, tt_at 1123 rfl rfl⟩, List.forall_mem_cons.mpr ⟨⟨_, rfl, tt_at 1124 rfl rfl⟩, List.forall_mem_cons.mpr ⟨⟨_, rfl, tt_at 1128 rfl rfl⟩, List.forall_mem_cons.mpr ⟨⟨_, rfl, tt_at 1129 rfl rfl⟩, List.forall_mem_cons.mpr ⟨⟨_, rfl, tt_at 1130 rfl rfl⟩, List.forall_mem_cons.mpr ⟨⟨_, rfl, tt_at 1131 rfl rfl⟩, List.forall_mem_cons.mpr ⟨⟨_, rfl, tt_at 1143 rfl rfl⟩, List.forall_mem_cons.mpr ⟨⟨_, rfl, tt_at 1209 rfl rfl⟩, List.forall_mem_cons.mpr ⟨⟨_, rfl, tt_at 1210 rfl rfl⟩, List.forall_mem_cons.mpr ⟨⟨_, rfl, tt_at 1211 rfl rfl⟩, List.forall_mem_cons.mpr ⟨⟨_, rfl, tt_at 1217 rfl rfl⟩, List.forall_mem_cons.mpr ⟨⟨_, rfl, tt_at 1218 rfl rfl⟩, fun _ h => absurd h List.not_mem_nil⟩⟩⟩⟩⟩⟩⟩⟩⟩⟩⟩⟩⟩⟩⟩⟩⟩⟩⟩⟩⟩⟩⟩⟩⟩⟩⟩⟩⟩⟩⟩⟩⟩⟩⟩⟩⟩⟩⟩⟩⟩⟩⟩⟩⟩⟩⟩
set_option maxRecDepth 100000 in
theorem MR_12_ok : ∀ q ∈ MR_12, ML "RowDrawerModel" q := List.forall_mem_cons.mpr ⟨⟨_, rfl, tt_at 1230 rfl rfl⟩, List.forall_mem_cons.mpr ⟨⟨_, rfl, tt_at 1413 rfl rfl⟩, List.forall_mem_cons.mpr ⟨⟨_, rfl, tt_at 1417 rfl rfl⟩, List.forall_mem_cons.mpr ⟨⟨_, rfl, tt_at 1421 rfl rfl⟩, List.forall_mem_cons.mpr ⟨⟨_, rfl, tt_at 1424 rfl rfl⟩, List.forall_mem_cons.mpr ⟨⟨_, rfl, tt_at 1429 rfl rfl⟩, List.forall_mem_cons.mpr ⟨⟨_, rfl, tt_at 1432 rfl rfl⟩, List.forall_mem_cons.mpr ⟨⟨_, rfl, tt_at 1436 rfl rfl⟩, List.forall_mem_cons.mpr ⟨⟨_, rfl, tt_at 1440 rfl rfl⟩, List.forall_mem_cons.mpr ⟨⟨_, rfl, tt_at 1444 rfl rfl⟩, List.forall_mem_cons.mpr ⟨⟨_, rfl, tt_at 1448 rfl rfl⟩, List.forall_mem_cons.mpr ⟨⟨_, rfl, tt_at 1452 rfl rfl⟩, List.forall_mem_cons.mpr ⟨⟨_, rfl, tt_at 1456 rfl rfl⟩, List.forall_mem_cons.mpr ⟨⟨_, rfl, tt_at 1460 rfl rfl⟩, List.forall_mem_cons.mpr ⟨⟨_, rfl, tt_at 1464 rfl rfl⟩, List.forall_mem_cons.mpr ⟨⟨_, rfl, tt_at 1468 rfl rfl⟩, List.forall_mem_cons.mpr ⟨⟨_, rfl, tt_at 1472 rfl rfl⟩, List.forall_mem_cons.mpr ⟨⟨_, rfl, tt_at 1476 rfl rfl⟩, List.forall_mem_cons.mpr ⟨⟨_, rfl, tt_at 1480 rfl rfl⟩, List.forall_mem_cons.mpr ⟨⟨_, rfl, tt_at 1488 rfl rfl⟩, List.forall_mem_cons.mpr ⟨⟨_, rfl, tt_at 1499 rfl rfl⟩, List.forall_mem_cons.mpr ⟨⟨_, rfl, tt_at 1515 rfl rfl⟩, List.forall_mem_cons.mpr ⟨⟨_, rfl, tt_at 1523 rfl rfl⟩, List.forall_mem_cons.mpr ⟨⟨_, rfl, tt_at 1527 rfl rfl⟩, List.forall_mem_cons.mpr ⟨⟨_, rfl, tt_at 1531 rfl rfl⟩, List.forall_mem_cons.mpr ⟨⟨_, rfl, tt_at 1535 rfl rfl⟩, List.forall_mem_cons.mpr ⟨⟨_, rfl, tt_at 1539 rfl rfl⟩, List.forall_mem_cons.mpr ⟨⟨_, rfl, tt_at 1546 rfl rfl⟩, List.forall_mem_cons.mpr ⟨⟨_, rfl, tt_at 1554 rfl rfl⟩, List.forall_mem_cons.mpr ⟨⟨_, rfl, tt_at 1557 rfl rfl⟩, List.forall_mem_cons.mpr ⟨⟨_, rfl, tt_at 1561 rfl rfl⟩, List.forall_mem_cons.mpr ⟨⟨_, rfl, tt_at 1581 rfl rfl⟩, List.forall_mem_cons.mpr ⟨⟨_, rfl, tt_at 1585 rfl rfl⟩, List.forall_mem_cons.mpr ⟨⟨_, rfl, tt_at 1593 rfl rfl⟩, List.forall_mem_cons.mpr ⟨⟨_, rfl, tt_at 1600 rfl rfl⟩, List.forall_mem_cons.mpr ⟨⟨_, rfl, tt_at 1604 rfl rfl⟩, List.forall_mem_cons.mpr ⟨⟨_, rfl, tt_at 1607 rfl rfl⟩, List.forall_mem_cons.mpr ⟨⟨_, rfl, tt_at 1623 rfl rfl⟩, fun _ h => absurd h List.not_mem_nil⟩⟩⟩⟩⟩⟩⟩⟩⟩⟩⟩⟩⟩⟩⟩⟩⟩⟩⟩⟩⟩⟩⟩⟩⟩⟩⟩⟩⟩⟩⟩⟩⟩⟩⟩⟩⟩⟩
set_option maxRecDepth 100000 in
theorem MR_13_ok : ∀ q ∈ MR_13, ML "java/lang/Integer" q := fun _ h => absurd h List.not_mem_nil
set_option maxRecDepth 100000 in
theorem MR_14_ok : ∀ q ∈ MR_14, ML "java/lang/Long" q := fun _ h => absurd h List.not_mem_nil
set_option maxRecDepth 100000 in
theorem MR_15_ok : ∀ q ∈ MR_15, ML "java/lang/Math" q := fun _ h => absurd h List.not_mem_nil
set_option maxRecDepth 100000 in
theorem MR_16_ok : ∀ q ∈ MR_16, ML "java/util/Arrays" q := fun _ h => absurd h List.not_mem_nil
set_option maxRecDepth 100000 in
theorem MR_17_ok : ∀ q ∈ MR_17, ML "java/lang/String" q := fun _ h => absurd h List.not_mem_nil
def FR : Nat → List (Nat × Nat × Nat)
  | 0 => FR_0
  | 1 => FR_1
  | 2 => FR_2
  | 3 => FR_3
  | 4 => FR_4
  | 5 => FR_5
  | 6 => FR_6
  | 7 => FR_7
  | 8 => FR_8
  | 9 => FR_9
  | 10 => FR_10
  | 11 => FR_11
  | 12 => FR_12
  | 13 => FR_13
  | 14 => FR_14
  | 15 => FR_15
  | 16 => FR_16
  | 17 => FR_17
  | _ => []
def PR : Nat → List (Nat × Nat × Nat × Nat)
  | 0 => PR_0
  | 1 => PR_1
  | 2 => PR_2
  | 3 => PR_3
  | 4 => PR_4
  | 5 => PR_5
  | 6 => PR_6
  | 7 => PR_7
  | 8 => PR_8
  | 9 => PR_9
  | 10 => PR_10
  | 11 => PR_11
  | 12 => PR_12
  | 13 => PR_13
  | 14 => PR_14
  | 15 => PR_15
  | 16 => PR_16
  | 17 => PR_17
  | _ => []
def MR : Nat → List (Nat × Nat × Nat)
  | 0 => MR_0
  | 1 => MR_1
  | 2 => MR_2
  | 3 => MR_3
  | 4 => MR_4
  | 5 => MR_5
  | 6 => MR_6
  | 7 => MR_7
  | 8 => MR_8
  | 9 => MR_9
  | 10 => MR_10
  | 11 => MR_11
  | 12 => MR_12
  | 13 => MR_13
  | 14 => MR_14
  | 15 => MR_15
  | 16 => MR_16
  | 17 => MR_17
  | _ => []
def LI : Nat → List (Nat × Int32)
  | 0 => LI_0
  | 1 => LI_1
  | 2 => LI_2
  | 3 => LI_3
  | 4 => LI_4
  | 5 => LI_5
  | 6 => LI_6
  | 7 => LI_7
  | 8 => LI_8
  | 9 => LI_9
  | 10 => LI_10
  | 11 => LI_11
  | 12 => LI_12
  | 13 => LI_13
  | 14 => LI_14
  | 15 => LI_15
  | 16 => LI_16
  | 17 => LI_17
  | _ => []
def LL : Nat → List (Nat × Int64)
  | 0 => LL_0
  | 1 => LL_1
  | 2 => LL_2
  | 3 => LL_3
  | 4 => LL_4
  | 5 => LL_5
  | 6 => LL_6
  | 7 => LL_7
  | 8 => LL_8
  | 9 => LL_9
  | 10 => LL_10
  | 11 => LL_11
  | 12 => LL_12
  | 13 => LL_13
  | 14 => LL_14
  | 15 => LL_15
  | 16 => LL_16
  | 17 => LL_17
  | _ => []
theorem FR_ok : ∀ k, ∀ q ∈ FR k, FL (clN.getD k "") q
  | 0 => FR_0_ok
  | 1 => FR_1_ok
  | 2 => FR_2_ok
  | 3 => FR_3_ok
  | 4 => FR_4_ok
  | 5 => FR_5_ok
  | 6 => FR_6_ok
  | 7 => FR_7_ok
  | 8 => FR_8_ok
  | 9 => FR_9_ok
  | 10 => FR_10_ok
  | 11 => FR_11_ok
  | 12 => FR_12_ok
  | 13 => FR_13_ok
  | 14 => FR_14_ok
  | 15 => FR_15_ok
  | 16 => FR_16_ok
  | 17 => FR_17_ok
  | _ + 18 => fun _ h => absurd h List.not_mem_nil
theorem PR_ok : ∀ k, ∀ q ∈ PR k, PL (clN.getD k "") q
  | 0 => PR_0_ok
  | 1 => PR_1_ok
  | 2 => PR_2_ok
  | 3 => PR_3_ok
  | 4 => PR_4_ok
  | 5 => PR_5_ok
  | 6 => PR_6_ok
  | 7 => PR_7_ok
  | 8 => PR_8_ok
  | 9 => PR_9_ok
  | 10 => PR_10_ok
  | 11 => PR_11_ok
  | 12 => PR_12_ok
  | 13 => PR_13_ok
  | 14 => PR_14_ok
  | 15 => PR_15_ok
  | 16 => PR_16_ok
  | 17 => PR_17_ok
  | _ + 18 => fun _ h => absurd h List.not_mem_nil
theorem MR_ok : ∀ k, ∀ q ∈ MR k, ML (clN.getD k "") q
  | 0 => MR_0_ok
  | 1 => MR_1_ok
  | 2 => MR_2_ok
  | 3 => MR_3_ok
  | 4 => MR_4_ok
  | 5 => MR_5_ok
  | 6 => MR_6_ok
  | 7 => MR_7_ok
  | 8 => MR_8_ok
  | 9 => MR_9_ok
  | 10 => MR_10_ok
  | 11 => MR_11_ok
  | 12 => MR_12_ok
  | 13 => MR_13_ok
  | 14 => MR_14_ok
  | 15 => MR_15_ok
  | 16 => MR_16_ok
  | 17 => MR_17_ok
  | _ + 18 => fun _ h => absurd h List.not_mem_nil
theorem LI_ok : ∀ k, ∀ q ∈ LI k, Cond.constant (clN.getD k "") q.1 q.2 ∈ TT
  | 0 => LI_0_ok
  | 1 => LI_1_ok
  | 2 => LI_2_ok
  | 3 => LI_3_ok
  | 4 => LI_4_ok
  | 5 => LI_5_ok
  | 6 => LI_6_ok
  | 7 => LI_7_ok
  | 8 => LI_8_ok
  | 9 => LI_9_ok
  | 10 => LI_10_ok
  | 11 => LI_11_ok
  | 12 => LI_12_ok
  | 13 => LI_13_ok
  | 14 => LI_14_ok
  | 15 => LI_15_ok
  | 16 => LI_16_ok
  | 17 => LI_17_ok
  | _ + 18 => fun _ h => absurd h List.not_mem_nil
theorem LL_ok : ∀ k, ∀ q ∈ LL k, Cond.constantLong (clN.getD k "") q.1 q.2 ∈ TT
  | 0 => LL_0_ok
  | 1 => LL_1_ok
  | 2 => LL_2_ok
  | 3 => LL_3_ok
  | 4 => LL_4_ok
  | 5 => LL_5_ok
  | 6 => LL_6_ok
  | 7 => LL_7_ok
  | 8 => LL_8_ok
  | 9 => LL_9_ok
  | 10 => LL_10_ok
  | 11 => LL_11_ok
  | 12 => LL_12_ok
  | 13 => LL_13_ok
  | 14 => LL_14_ok
  | 15 => LL_15_ok
  | 16 => LL_16_ok
  | 17 => LL_17_ok
  | _ + 18 => fun _ h => absurd h List.not_mem_nil
set_option maxRecDepth 100000 in
theorem tt_ac_n : Cond.native arraycopyName ∈ TT := tt_at 496 rfl rfl
set_option maxRecDepth 100000 in
theorem tt_ac_s : Cond.static arraycopyName ∈ TT := tt_at 495 rfl rfl
set_option maxRecDepth 100000 in
theorem tt_sys : Cond.initialized "java/lang/System" ∈ TT := tt_at 86 rfl rfl
set_option maxRecDepth 100000 in
theorem tt_math : Cond.initialized "java/lang/Math" ∈ TT := tt_at 91 rfl rfl
set_option maxRecDepth 100000 in
theorem tt_min_s : Cond.static Lib.Math.min.name ∈ TT := tt_at 821 rfl rfl
set_option maxRecDepth 100000 in
theorem tt_min_c : Cond.code Lib.Math.min.name Lib.Math.min.code 2 (some .int) ∈ TT := tt_at 822 rfl rfl
set_option maxRecDepth 100000 in
theorem tt_max_s : Cond.static Lib.Math.max.name ∈ TT := tt_at 824 rfl rfl
set_option maxRecDepth 100000 in
theorem tt_max_c : Cond.code Lib.Math.max.name Lib.Math.max.code 2 (some .int) ∈ TT := tt_at 825 rfl rfl
set_option maxRecDepth 100000 in
theorem tt_abs_s : Cond.static Lib.Math.abs.name ∈ TT := tt_at 1065 rfl rfl
set_option maxRecDepth 100000 in
theorem tt_abs_c : Cond.code Lib.Math.abs.name Lib.Math.abs.code 1 (some .int) ∈ TT := tt_at 1066 rfl rfl
set_option maxRecDepth 100000 in
theorem m_BestSet_setCaught_ok : MOK (m_BestSet_setCaught, 3, false) := ⟨tt_at 1022 rfl rfl, tt_at 83 rfl rfl, by decide +kernel, by decide +kernel, by decide +kernel, ⟨tt_at 1020 rfl rfl, tt_at 1021 rfl rfl⟩, by decide +kernel, by decide, rfl⟩
set_option maxRecDepth 100000 in
theorem m_BestSet_choose_ok : MOK (m_BestSet_choose, 2, false) := ⟨tt_at 1026 rfl rfl, tt_at 83 rfl rfl, by decide +kernel, by decide +kernel, by decide +kernel, ⟨tt_at 1024 rfl rfl, tt_at 1025 rfl rfl⟩, by decide +kernel, by decide, rfl⟩
set_option maxRecDepth 100000 in
theorem m_BestSet_tryFrom_ok : MOK (m_BestSet_tryFrom, 4, false) := ⟨tt_at 1031 rfl rfl, tt_at 83 rfl rfl, by decide +kernel, by decide +kernel, by decide +kernel, ⟨tt_at 1030 rfl rfl, tt_at 34 rfl rfl⟩, by decide +kernel, by decide, rfl⟩
set_option maxRecDepth 100000 in
theorem m_BestSet_weigh_ok : MOK (m_BestSet_weigh, 2, false) := ⟨tt_at 1036 rfl rfl, tt_at 83 rfl rfl, by decide +kernel, by decide +kernel, by decide +kernel, ⟨tt_at 1035 rfl rfl, tt_at 35 rfl rfl⟩, by decide +kernel, by decide, rfl⟩
set_option maxRecDepth 100000 in
theorem m_Book_clear_ok : MOK (m_Book_clear, 0, false) := ⟨tt_at 641 rfl rfl, tt_at 79 rfl rfl, by decide +kernel, by decide +kernel, by decide +kernel, ⟨tt_at 639 rfl rfl, tt_at 640 rfl rfl⟩, by decide +kernel, by decide, rfl⟩
set_option maxRecDepth 100000 in
theorem m_Book_become_ok : MOK (m_Book_become, 1, false) := ⟨tt_at 743 rfl rfl, tt_at 79 rfl rfl, by decide +kernel, by decide +kernel, by decide +kernel, ⟨tt_at 741 rfl rfl, tt_at 742 rfl rfl⟩, by decide +kernel, by decide, rfl⟩
set_option maxRecDepth 100000 in
theorem m_Book_openRule_ok : MOK (m_Book_openRule, 1, false) := ⟨tt_at 677 rfl rfl, tt_at 79 rfl rfl, by decide +kernel, by decide +kernel, by decide +kernel, ⟨tt_at 675 rfl rfl, tt_at 676 rfl rfl⟩, by decide +kernel, by decide, rfl⟩
set_option maxRecDepth 100000 in
theorem m_Book_openRuleHas_ok : MOK (m_Book_openRuleHas, 1, false) := ⟨tt_at 685 rfl rfl, tt_at 79 rfl rfl, by decide +kernel, by decide +kernel, by decide +kernel, ⟨tt_at 683 rfl rfl, tt_at 684 rfl rfl⟩, by decide +kernel, by decide, rfl⟩
set_option maxRecDepth 100000 in
theorem m_Book_addItem_ok : MOK (m_Book_addItem, 3, false) := ⟨tt_at 692 rfl rfl, tt_at 79 rfl rfl, by decide +kernel, by decide +kernel, by decide +kernel, ⟨tt_at 690 rfl rfl, tt_at 691 rfl rfl⟩, by decide +kernel, by decide, rfl⟩
set_option maxRecDepth 100000 in
theorem m_Book_closeRule_ok : MOK (m_Book_closeRule, 0, false) := ⟨tt_at 700 rfl rfl, tt_at 79 rfl rfl, by decide +kernel, by decide +kernel, by decide +kernel, ⟨tt_at 698 rfl rfl, tt_at 699 rfl rfl⟩, by decide +kernel, by decide, rfl⟩
set_option maxRecDepth 100000 in
theorem m_Book_addBar_ok : MOK (m_Book_addBar, 1, false) := ⟨tt_at 712 rfl rfl, tt_at 79 rfl rfl, by decide +kernel, by decide +kernel, by decide +kernel, ⟨tt_at 710 rfl rfl, tt_at 711 rfl rfl⟩, by decide +kernel, by decide, rfl⟩
set_option maxRecDepth 100000 in
theorem m_Book_addChain_ok : MOK (m_Book_addChain, 3, false) := ⟨tt_at 724 rfl rfl, tt_at 79 rfl rfl, by decide +kernel, by decide +kernel, by decide +kernel, ⟨tt_at 722 rfl rfl, tt_at 723 rfl rfl⟩, by decide +kernel, by decide, rfl⟩
set_option maxRecDepth 100000 in
theorem m_Book_addSingle_ok : MOK (m_Book_addSingle, 1, false) := ⟨tt_at 732 rfl rfl, tt_at 79 rfl rfl, by decide +kernel, by decide +kernel, by decide +kernel, ⟨tt_at 730 rfl rfl, tt_at 731 rfl rfl⟩, by decide +kernel, by decide, rfl⟩
set_option maxRecDepth 100000 in
theorem m_Book_rules_ok : MOK (m_Book_rules, 0, false) := ⟨tt_at 653 rfl rfl, tt_at 79 rfl rfl, by decide +kernel, by decide +kernel, by decide +kernel, ⟨tt_at 651 rfl rfl, tt_at 652 rfl rfl⟩, by decide +kernel, by decide, rfl⟩
set_option maxRecDepth 100000 in
theorem m_Book_bars_ok : MOK (m_Book_bars, 0, false) := ⟨tt_at 708 rfl rfl, tt_at 79 rfl rfl, by decide +kernel, by decide +kernel, by decide +kernel, ⟨tt_at 706 rfl rfl, tt_at 707 rfl rfl⟩, by decide +kernel, by decide, rfl⟩
set_option maxRecDepth 100000 in
theorem m_Book_chains_ok : MOK (m_Book_chains, 0, false) := ⟨tt_at 720 rfl rfl, tt_at 79 rfl rfl, by decide +kernel, by decide +kernel, by decide +kernel, ⟨tt_at 718 rfl rfl, tt_at 719 rfl rfl⟩, by decide +kernel, by decide, rfl⟩
set_option maxRecDepth 100000 in
theorem m_Book_hasRule_ok : MOK (m_Book_hasRule, 1, false) := ⟨tt_at 787 rfl rfl, tt_at 79 rfl rfl, by decide +kernel, by decide +kernel, by decide +kernel, ⟨tt_at 785 rfl rfl, tt_at 786 rfl rfl⟩, by decide +kernel, by decide, rfl⟩
set_option maxRecDepth 100000 in
theorem m_Book_relationOf_ok : MOK (m_Book_relationOf, 1, false) := ⟨tt_at 883 rfl rfl, tt_at 79 rfl rfl, by decide +kernel, by decide +kernel, by decide +kernel, ⟨tt_at 881 rfl rfl, tt_at 882 rfl rfl⟩, by decide +kernel, by decide, rfl⟩
set_option maxRecDepth 100000 in
theorem m_Book_itemsOf_ok : MOK (m_Book_itemsOf, 1, false) := ⟨tt_at 799 rfl rfl, tt_at 79 rfl rfl, by decide +kernel, by decide +kernel, by decide +kernel, ⟨tt_at 797 rfl rfl, tt_at 798 rfl rfl⟩, by decide +kernel, by decide, rfl⟩
set_option maxRecDepth 100000 in
theorem m_Book_leftItem_ok : MOK (m_Book_leftItem, 1, false) := ⟨tt_at 783 rfl rfl, tt_at 79 rfl rfl, by decide +kernel, by decide +kernel, by decide +kernel, ⟨tt_at 781 rfl rfl, tt_at 782 rfl rfl⟩, by decide +kernel, by decide, rfl⟩
set_option maxRecDepth 100000 in
theorem m_Book_rightItem_ok : MOK (m_Book_rightItem, 1, false) := ⟨tt_at 791 rfl rfl, tt_at 79 rfl rfl, by decide +kernel, by decide +kernel, by decide +kernel, ⟨tt_at 789 rfl rfl, tt_at 790 rfl rfl⟩, by decide +kernel, by decide, rfl⟩
set_option maxRecDepth 100000 in
theorem m_Book_kindOf_ok : MOK (m_Book_kindOf, 2, false) := ⟨tt_at 803 rfl rfl, tt_at 79 rfl rfl, by decide +kernel, by decide +kernel, by decide +kernel, ⟨tt_at 801 rfl rfl, tt_at 802 rfl rfl⟩, by decide +kernel, by decide, rfl⟩
set_option maxRecDepth 100000 in
theorem m_Book_numberOf_ok : MOK (m_Book_numberOf, 2, false) := ⟨tt_at 811 rfl rfl, tt_at 79 rfl rfl, by decide +kernel, by decide +kernel, by decide +kernel, ⟨tt_at 809 rfl rfl, tt_at 810 rfl rfl⟩, by decide +kernel, by decide, rfl⟩
set_option maxRecDepth 100000 in
theorem m_Book_hasItem_ok : MOK (m_Book_hasItem, 2, false) := ⟨tt_at 807 rfl rfl, tt_at 79 rfl rfl, by decide +kernel, by decide +kernel, by decide +kernel, ⟨tt_at 806 rfl rfl, tt_at 16 rfl rfl⟩, by decide +kernel, by decide, rfl⟩
set_option maxRecDepth 100000 in
theorem m_Book_isBarred_ok : MOK (m_Book_isBarred, 1, false) := ⟨tt_at 774 rfl rfl, tt_at 79 rfl rfl, by decide +kernel, by decide +kernel, by decide +kernel, ⟨tt_at 772 rfl rfl, tt_at 773 rfl rfl⟩, by decide +kernel, by decide, rfl⟩
set_option maxRecDepth 100000 in
theorem m_Book_chainGoal_ok : MOK (m_Book_chainGoal, 1, false) := ⟨tt_at 929 rfl rfl, tt_at 79 rfl rfl, by decide +kernel, by decide +kernel, by decide +kernel, ⟨tt_at 927 rfl rfl, tt_at 928 rfl rfl⟩, by decide +kernel, by decide, rfl⟩
set_option maxRecDepth 100000 in
theorem m_Book_chainFirst_ok : MOK (m_Book_chainFirst, 1, false) := ⟨tt_at 933 rfl rfl, tt_at 79 rfl rfl, by decide +kernel, by decide +kernel, by decide +kernel, ⟨tt_at 931 rfl rfl, tt_at 932 rfl rfl⟩, by decide +kernel, by decide, rfl⟩
set_option maxRecDepth 100000 in
theorem m_Book_chainSecond_ok : MOK (m_Book_chainSecond, 1, false) := ⟨tt_at 937 rfl rfl, tt_at 79 rfl rfl, by decide +kernel, by decide +kernel, by decide +kernel, ⟨tt_at 935 rfl rfl, tt_at 936 rfl rfl⟩, by decide +kernel, by decide, rfl⟩
set_option maxRecDepth 100000 in
theorem m_Book_isSingle_ok : MOK (m_Book_isSingle, 1, false) := ⟨tt_at 984 rfl rfl, tt_at 79 rfl rfl, by decide +kernel, by decide +kernel, by decide +kernel, ⟨tt_at 982 rfl rfl, tt_at 983 rfl rfl⟩, by decide +kernel, by decide, rfl⟩
set_option maxRecDepth 100000 in
theorem m_Finder_forget_ok : MOK (m_Finder_forget, 1, false) := ⟨tt_at 500 rfl rfl, tt_at 80 rfl rfl, by decide +kernel, by decide +kernel, by decide +kernel, ⟨tt_at 498 rfl rfl, tt_at 499 rfl rfl⟩, by decide +kernel, by decide, rfl⟩
set_option maxRecDepth 100000 in
theorem m_Finder_forgetThoseWith_ok : MOK (m_Finder_forgetThoseWith, 1, false) := ⟨tt_at 448 rfl rfl, tt_at 80 rfl rfl, by decide +kernel, by decide +kernel, by decide +kernel, ⟨tt_at 446 rfl rfl, tt_at 447 rfl rfl⟩, by decide +kernel, by decide, rfl⟩
set_option maxRecDepth 100000 in
theorem m_Finder_forgetAll_ok : MOK (m_Finder_forgetAll, 0, false) := ⟨tt_at 748 rfl rfl, tt_at 80 rfl rfl, by decide +kernel, by decide +kernel, by decide +kernel, ⟨tt_at 746 rfl rfl, tt_at 747 rfl rfl⟩, by decide +kernel, by decide, rfl⟩
set_option maxRecDepth 100000 in
theorem m_Finder_refresh_ok : MOK (m_Finder_refresh, 0, false) := ⟨tt_at 757 rfl rfl, tt_at 80 rfl rfl, by decide +kernel, by decide +kernel, by decide +kernel, ⟨tt_at 755 rfl rfl, tt_at 756 rfl rfl⟩, by decide +kernel, by decide, rfl⟩
set_option maxRecDepth 100000 in
theorem m_Finder_drawSentence_ok : MOK (m_Finder_drawSentence, 1, false) := ⟨tt_at 761 rfl rfl, tt_at 80 rfl rfl, by decide +kernel, by decide +kernel, by decide +kernel, ⟨tt_at 760 rfl rfl, tt_at 11 rfl rfl⟩, by decide +kernel, by decide, rfl⟩
set_option maxRecDepth 100000 in
theorem m_Finder_clearSentence_ok : MOK (m_Finder_clearSentence, 1, false) := ⟨tt_at 765 rfl rfl, tt_at 80 rfl rfl, by decide +kernel, by decide +kernel, by decide +kernel, ⟨tt_at 764 rfl rfl, tt_at 12 rfl rfl⟩, by decide +kernel, by decide, rfl⟩
set_option maxRecDepth 100000 in
theorem m_Finder_hasBarredWord_ok : MOK (m_Finder_hasBarredWord, 1, false) := ⟨tt_at 770 rfl rfl, tt_at 80 rfl rfl, by decide +kernel, by decide +kernel, by decide +kernel, ⟨tt_at 769 rfl rfl, tt_at 13 rfl rfl⟩, by decide +kernel, by decide, rfl⟩
set_option maxRecDepth 100000 in
theorem m_Finder_drawRule_ok : MOK (m_Finder_drawRule, 2, false) := ⟨tt_at 779 rfl rfl, tt_at 80 rfl rfl, by decide +kernel, by decide +kernel, by decide +kernel, ⟨tt_at 778 rfl rfl, tt_at 14 rfl rfl⟩, by decide +kernel, by decide, rfl⟩
set_option maxRecDepth 100000 in
theorem m_Finder_fitItems_ok : MOK (m_Finder_fitItems, 2, false) := ⟨tt_at 795 rfl rfl, tt_at 80 rfl rfl, by decide +kernel, by decide +kernel, by decide +kernel, ⟨tt_at 794 rfl rfl, tt_at 15 rfl rfl⟩, by decide +kernel, by decide, rfl⟩
set_option maxRecDepth 100000 in
theorem m_Finder_placesOf_ok : MOK (m_Finder_placesOf, 3, false) := ⟨tt_at 815 rfl rfl, tt_at 80 rfl rfl, by decide +kernel, by decide +kernel, by decide +kernel, ⟨tt_at 814 rfl rfl, tt_at 17 rfl rfl⟩, by decide +kernel, by decide, rfl⟩
set_option maxRecDepth 100000 in
theorem m_Finder_forward_ok : MOK (m_Finder_forward, 4, false) := ⟨tt_at 829 rfl rfl, tt_at 80 rfl rfl, by decide +kernel, by decide +kernel, by decide +kernel, ⟨tt_at 828 rfl rfl, tt_at 18 rfl rfl⟩, by decide +kernel, by decide, rfl⟩
set_option maxRecDepth 100000 in
theorem m_Finder_backward_ok : MOK (m_Finder_backward, 3, false) := ⟨tt_at 833 rfl rfl, tt_at 80 rfl rfl, by decide +kernel, by decide +kernel, by decide +kernel, ⟨tt_at 832 rfl rfl, tt_at 19 rfl rfl⟩, by decide +kernel, by decide, rfl⟩
set_option maxRecDepth 100000 in
theorem m_Finder_keepPairs_ok : MOK (m_Finder_keepPairs, 4, false) := ⟨tt_at 837 rfl rfl, tt_at 80 rfl rfl, by decide +kernel, by decide +kernel, by decide +kernel, ⟨tt_at 836 rfl rfl, tt_at 20 rfl rfl⟩, by decide +kernel, by decide, rfl⟩
set_option maxRecDepth 100000 in
theorem m_Finder_countPairs_ok : MOK (m_Finder_countPairs, 2, false) := ⟨tt_at 841 rfl rfl, tt_at 80 rfl rfl, by decide +kernel, by decide +kernel, by decide +kernel, ⟨tt_at 840 rfl rfl, tt_at 21 rfl rfl⟩, by decide +kernel, by decide, rfl⟩
set_option maxRecDepth 100000 in
theorem m_Finder_rightPlaces_ok : MOK (m_Finder_rightPlaces, 3, false) := ⟨tt_at 845 rfl rfl, tt_at 80 rfl rfl, by decide +kernel, by decide +kernel, by decide +kernel, ⟨tt_at 843 rfl rfl, tt_at 844 rfl rfl⟩, by decide +kernel, by decide, rfl⟩
set_option maxRecDepth 100000 in
theorem m_Finder_isBarred_ok : MOK (m_Finder_isBarred, 1, false) := ⟨tt_at 879 rfl rfl, tt_at 80 rfl rfl, by decide +kernel, by decide +kernel, by decide +kernel, ⟨tt_at 877 rfl rfl, tt_at 878 rfl rfl⟩, by decide +kernel, by decide, rfl⟩
set_option maxRecDepth 100000 in
theorem m_Finder_has_ok : MOK (m_Finder_has, 4, false) := ⟨tt_at 871 rfl rfl, tt_at 80 rfl rfl, by decide +kernel, by decide +kernel, by decide +kernel, ⟨tt_at 869 rfl rfl, tt_at 870 rfl rfl⟩, by decide +kernel, by decide, rfl⟩
set_option maxRecDepth 100000 in
theorem m_Finder_total_ok : MOK (m_Finder_total, 1, false) := ⟨tt_at 855 rfl rfl, tt_at 80 rfl rfl, by decide +kernel, by decide +kernel, by decide +kernel, ⟨tt_at 853 rfl rfl, tt_at 854 rfl rfl⟩, by decide +kernel, by decide, rfl⟩
set_option maxRecDepth 100000 in
theorem m_Finder_totalOfRule_ok : MOK (m_Finder_totalOfRule, 1, false) := ⟨tt_at 1221 rfl rfl, tt_at 80 rfl rfl, by decide +kernel, by decide +kernel, by decide +kernel, ⟨tt_at 1219 rfl rfl, tt_at 1220 rfl rfl⟩, by decide +kernel, by decide, rfl⟩
set_option maxRecDepth 100000 in
theorem m_Finder_tellOf_ok : MOK (m_Finder_tellOf, 2, false) := ⟨tt_at 863 rfl rfl, tt_at 80 rfl rfl, by decide +kernel, by decide +kernel, by decide +kernel, ⟨tt_at 861 rfl rfl, tt_at 862 rfl rfl⟩, by decide +kernel, by decide, rfl⟩
set_option maxRecDepth 100000 in
theorem m_Finder_tellWithin_ok : MOK (m_Finder_tellWithin, 4, false) := ⟨tt_at 867 rfl rfl, tt_at 80 rfl rfl, by decide +kernel, by decide +kernel, by decide +kernel, ⟨tt_at 866 rfl rfl, tt_at 22 rfl rfl⟩, by decide +kernel, by decide, rfl⟩
set_option maxRecDepth 100000 in
theorem m_Finder_part_ok : MOK (m_Finder_part, 5, false) := ⟨tt_at 875 rfl rfl, tt_at 80 rfl rfl, by decide +kernel, by decide +kernel, by decide +kernel, ⟨tt_at 874 rfl rfl, tt_at 23 rfl rfl⟩, by decide +kernel, by decide, rfl⟩
set_option maxRecDepth 100000 in
theorem m_Lesson_study_ok : MOK (m_Lesson_study, 1, false) := ⟨tt_at 1046 rfl rfl, tt_at 84 rfl rfl, by decide +kernel, by decide +kernel, by decide +kernel, ⟨tt_at 1044 rfl rfl, tt_at 1045 rfl rfl⟩, by decide +kernel, by decide, rfl⟩
set_option maxRecDepth 100000 in
theorem m_Lesson_begin_ok : MOK (m_Lesson_begin, 2, false) := ⟨tt_at 1055 rfl rfl, tt_at 84 rfl rfl, by decide +kernel, by decide +kernel, by decide +kernel, ⟨tt_at 1054 rfl rfl, tt_at 36 rfl rfl⟩, by decide +kernel, by decide, rfl⟩
set_option maxRecDepth 100000 in
theorem m_Lesson_isLike_ok : MOK (m_Lesson_isLike, 1, false) := ⟨tt_at 1080 rfl rfl, tt_at 84 rfl rfl, by decide +kernel, by decide +kernel, by decide +kernel, ⟨tt_at 1079 rfl rfl, tt_at 38 rfl rfl⟩, by decide +kernel, by decide, rfl⟩
set_option maxRecDepth 100000 in
theorem m_Lesson_wordAt_ok : MOK (m_Lesson_wordAt, 2, false) := ⟨tt_at 1071 rfl rfl, tt_at 84 rfl rfl, by decide +kernel, by decide +kernel, by decide +kernel, ⟨tt_at 1070 rfl rfl, tt_at 37 rfl rfl⟩, by decide +kernel, by decide, rfl⟩
set_option maxRecDepth 100000 in
theorem m_Lesson_widen_ok : MOK (m_Lesson_widen, 1, false) := ⟨tt_at 1084 rfl rfl, tt_at 84 rfl rfl, by decide +kernel, by decide +kernel, by decide +kernel, ⟨tt_at 1083 rfl rfl, tt_at 39 rfl rfl⟩, by decide +kernel, by decide, rfl⟩
set_option maxRecDepth 100000 in
theorem m_Lesson_tellOf_ok : MOK (m_Lesson_tellOf, 2, false) := ⟨tt_at 1097 rfl rfl, tt_at 84 rfl rfl, by decide +kernel, by decide +kernel, by decide +kernel, ⟨tt_at 1095 rfl rfl, tt_at 1096 rfl rfl⟩, by decide +kernel, by decide, rfl⟩
set_option maxRecDepth 100000 in
theorem m_Lesson_roleOf_ok : MOK (m_Lesson_roleOf, 1, false) := ⟨tt_at 1101 rfl rfl, tt_at 84 rfl rfl, by decide +kernel, by decide +kernel, by decide +kernel, ⟨tt_at 1100 rfl rfl, tt_at 40 rfl rfl⟩, by decide +kernel, by decide, rfl⟩
set_option maxRecDepth 100000 in
theorem m_Lesson_caught_ok : MOK (m_Lesson_caught, 1, false) := ⟨tt_at 1109 rfl rfl, tt_at 84 rfl rfl, by decide +kernel, by decide +kernel, by decide +kernel, ⟨tt_at 1107 rfl rfl, tt_at 1108 rfl rfl⟩, by decide +kernel, by decide, rfl⟩
set_option maxRecDepth 100000 in
theorem m_Lesson_standsAt_ok : MOK (m_Lesson_standsAt, 1, false) := ⟨tt_at 1113 rfl rfl, tt_at 84 rfl rfl, by decide +kernel, by decide +kernel, by decide +kernel, ⟨tt_at 1112 rfl rfl, tt_at 41 rfl rfl⟩, by decide +kernel, by decide, rfl⟩
set_option maxRecDepth 100000 in
theorem m_Lexicon_has_ok : MOK (m_Lexicon_has, 1, true) := ⟨tt_at 444 rfl rfl, tt_at 74 rfl rfl, by decide +kernel, by decide +kernel, by decide +kernel, tt_at 443 rfl rfl, by decide +kernel, by decide, rfl⟩
set_option maxRecDepth 100000 in
theorem m_Lexicon_setSort_ok : MOK (m_Lexicon_setSort, 2, false) := ⟨tt_at 441 rfl rfl, tt_at 74 rfl rfl, by decide +kernel, by decide +kernel, by decide +kernel, ⟨tt_at 439 rfl rfl, tt_at 440 rfl rfl⟩, by decide +kernel, by decide, rfl⟩
set_option maxRecDepth 100000 in
theorem m_Lexicon_sortOf_ok : MOK (m_Lexicon_sortOf, 1, false) := ⟨tt_at 1089 rfl rfl, tt_at 74 rfl rfl, by decide +kernel, by decide +kernel, by decide +kernel, ⟨tt_at 1087 rfl rfl, tt_at 1088 rfl rfl⟩, by decide +kernel, by decide, rfl⟩
set_option maxRecDepth 100000 in
theorem m_Lexicon_link_ok : MOK (m_Lexicon_link, 2, false) := ⟨tt_at 472 rfl rfl, tt_at 74 rfl rfl, by decide +kernel, by decide +kernel, by decide +kernel, ⟨tt_at 470 rfl rfl, tt_at 471 rfl rfl⟩, by decide +kernel, by decide, rfl⟩
set_option maxRecDepth 100000 in
theorem m_Lexicon_leadsTo_ok : MOK (m_Lexicon_leadsTo, 2, false) := ⟨tt_at 476 rfl rfl, tt_at 74 rfl rfl, by decide +kernel, by decide +kernel, by decide +kernel, ⟨tt_at 475 rfl rfl, tt_at 0 rfl rfl⟩, by decide +kernel, by decide, rfl⟩
set_option maxRecDepth 100000 in
theorem m_Lexicon_nameOf_ok : MOK (m_Lexicon_nameOf, 1, false) := ⟨tt_at 913 rfl rfl, tt_at 74 rfl rfl, by decide +kernel, by decide +kernel, by decide +kernel, ⟨tt_at 911 rfl rfl, tt_at 912 rfl rfl⟩, by decide +kernel, by decide, rfl⟩
set_option maxRecDepth 100000 in
theorem m_Lexicon_fits_ok : MOK (m_Lexicon_fits, 3, false) := ⟨tt_at 819 rfl rfl, tt_at 74 rfl rfl, by decide +kernel, by decide +kernel, by decide +kernel, ⟨tt_at 817 rfl rfl, tt_at 818 rfl rfl⟩, by decide +kernel, by decide, rfl⟩
set_option maxRecDepth 100000 in
theorem m_Marks_put_ok : MOK (m_Marks_put, 5, false) := ⟨tt_at 998 rfl rfl, tt_at 82 rfl rfl, by decide +kernel, by decide +kernel, by decide +kernel, ⟨tt_at 996 rfl rfl, tt_at 997 rfl rfl⟩, by decide +kernel, by decide, rfl⟩
set_option maxRecDepth 100000 in
theorem m_Marks_indexOf_ok : MOK (m_Marks_indexOf, 4, false) := ⟨tt_at 1002 rfl rfl, tt_at 82 rfl rfl, by decide +kernel, by decide +kernel, by decide +kernel, ⟨tt_at 1001 rfl rfl, tt_at 33 rfl rfl⟩, by decide +kernel, by decide, rfl⟩
set_option maxRecDepth 100000 in
theorem m_Marks_size_ok : MOK (m_Marks_size, 0, false) := ⟨tt_at 1050 rfl rfl, tt_at 82 rfl rfl, by decide +kernel, by decide +kernel, by decide +kernel, ⟨tt_at 1048 rfl rfl, tt_at 1049 rfl rfl⟩, by decide +kernel, by decide, rfl⟩
set_option maxRecDepth 100000 in
theorem m_Marks_isUsable_ok : MOK (m_Marks_isUsable, 3, false) := ⟨tt_at 1016 rfl rfl, tt_at 82 rfl rfl, by decide +kernel, by decide +kernel, by decide +kernel, ⟨tt_at 1014 rfl rfl, tt_at 1015 rfl rfl⟩, by decide +kernel, by decide, rfl⟩
set_option maxRecDepth 100000 in
theorem m_Marks_sentenceOf_ok : MOK (m_Marks_sentenceOf, 1, false) := ⟨tt_at 1075 rfl rfl, tt_at 82 rfl rfl, by decide +kernel, by decide +kernel, by decide +kernel, ⟨tt_at 1073 rfl rfl, tt_at 1074 rfl rfl⟩, by decide +kernel, by decide, rfl⟩
set_option maxRecDepth 100000 in
theorem m_Marks_leftOf_ok : MOK (m_Marks_leftOf, 1, false) := ⟨tt_at 1063 rfl rfl, tt_at 82 rfl rfl, by decide +kernel, by decide +kernel, by decide +kernel, ⟨tt_at 1061 rfl rfl, tt_at 1062 rfl rfl⟩, by decide +kernel, by decide, rfl⟩
set_option maxRecDepth 100000 in
theorem m_Marks_rightOf_ok : MOK (m_Marks_rightOf, 1, false) := ⟨tt_at 1059 rfl rfl, tt_at 82 rfl rfl, by decide +kernel, by decide +kernel, by decide +kernel, ⟨tt_at 1057 rfl rfl, tt_at 1058 rfl rfl⟩, by decide +kernel, by decide, rfl⟩
set_option maxRecDepth 100000 in
theorem m_Marks_caughtBy_ok : MOK (m_Marks_caughtBy, 2, false) := ⟨tt_at 1011 rfl rfl, tt_at 82 rfl rfl, by decide +kernel, by decide +kernel, by decide +kernel, ⟨tt_at 1009 rfl rfl, tt_at 1010 rfl rfl⟩, by decide +kernel, by decide, rfl⟩
set_option maxRecDepth 100000 in
theorem m_Marks_shareOf_ok : MOK (m_Marks_shareOf, 1, false) := ⟨tt_at 1214 rfl rfl, tt_at 82 rfl rfl, by decide +kernel, by decide +kernel, by decide +kernel, ⟨tt_at 1212 rfl rfl, tt_at 1213 rfl rfl⟩, by decide +kernel, by decide, rfl⟩
set_option maxRecDepth 100000 in
theorem m_Reader_draft_ok : MOK (m_Reader_draft, 0, false) := ⟨tt_at 739 rfl rfl, tt_at 77 rfl rfl, by decide +kernel, by decide +kernel, by decide +kernel, ⟨tt_at 737 rfl rfl, tt_at 738 rfl rfl⟩, by decide +kernel, by decide, rfl⟩
set_option maxRecDepth 100000 in
theorem m_Reader_read_ok : MOK (m_Reader_read, 0, false) := ⟨tt_at 535 rfl rfl, tt_at 77 rfl rfl, by decide +kernel, by decide +kernel, by decide +kernel, ⟨tt_at 533 rfl rfl, tt_at 534 rfl rfl⟩, by decide +kernel, by decide, rfl⟩
set_option maxRecDepth 100000 in
theorem m_Reader_readRule_ok : MOK (m_Reader_readRule, 0, false) := ⟨tt_at 649 rfl rfl, tt_at 77 rfl rfl, by decide +kernel, by decide +kernel, by decide +kernel, ⟨tt_at 648 rfl rfl, tt_at 2 rfl rfl⟩, by decide +kernel, by decide, rfl⟩
set_option maxRecDepth 100000 in
theorem m_Reader_readItem_ok : MOK (m_Reader_readItem, 1, false) := ⟨tt_at 681 rfl rfl, tt_at 77 rfl rfl, by decide +kernel, by decide +kernel, by decide +kernel, ⟨tt_at 680 rfl rfl, tt_at 6 rfl rfl⟩, by decide +kernel, by decide, rfl⟩
set_option maxRecDepth 100000 in
theorem m_Reader_isSpec_ok : MOK (m_Reader_isSpec, 1, true) := ⟨tt_at 688 rfl rfl, tt_at 77 rfl rfl, by decide +kernel, by decide +kernel, by decide +kernel, tt_at 687 rfl rfl, by decide +kernel, by decide, rfl⟩
set_option maxRecDepth 100000 in
theorem m_Reader_readSpec_ok : MOK (m_Reader_readSpec, 1, false) := ⟨tt_at 696 rfl rfl, tt_at 77 rfl rfl, by decide +kernel, by decide +kernel, by decide +kernel, ⟨tt_at 695 rfl rfl, tt_at 7 rfl rfl⟩, by decide +kernel, by decide, rfl⟩
set_option maxRecDepth 100000 in
theorem m_Reader_readBar_ok : MOK (m_Reader_readBar, 0, false) := ⟨tt_at 704 rfl rfl, tt_at 77 rfl rfl, by decide +kernel, by decide +kernel, by decide +kernel, ⟨tt_at 703 rfl rfl, tt_at 8 rfl rfl⟩, by decide +kernel, by decide, rfl⟩
set_option maxRecDepth 100000 in
theorem m_Reader_readChain_ok : MOK (m_Reader_readChain, 0, false) := ⟨tt_at 716 rfl rfl, tt_at 77 rfl rfl, by decide +kernel, by decide +kernel, by decide +kernel, ⟨tt_at 715 rfl rfl, tt_at 9 rfl rfl⟩, by decide +kernel, by decide, rfl⟩
set_option maxRecDepth 100000 in
theorem m_Reader_readSingle_ok : MOK (m_Reader_readSingle, 0, false) := ⟨tt_at 728 rfl rfl, tt_at 77 rfl rfl, by decide +kernel, by decide +kernel, by decide +kernel, ⟨tt_at 727 rfl rfl, tt_at 10 rfl rfl⟩, by decide +kernel, by decide, rfl⟩
set_option maxRecDepth 100000 in
theorem m_Reader_readNumber_ok : MOK (m_Reader_readNumber, 2, false) := ⟨tt_at 669 rfl rfl, tt_at 77 rfl rfl, by decide +kernel, by decide +kernel, by decide +kernel, ⟨tt_at 668 rfl rfl, tt_at 4 rfl rfl⟩, by decide +kernel, by decide, rfl⟩
set_option maxRecDepth 100000 in
theorem m_Reader_readSign_ok : MOK (m_Reader_readSign, 1, false) := ⟨tt_at 673 rfl rfl, tt_at 77 rfl rfl, by decide +kernel, by decide +kernel, by decide +kernel, ⟨tt_at 672 rfl rfl, tt_at 5 rfl rfl⟩, by decide +kernel, by decide, rfl⟩
set_option maxRecDepth 100000 in
theorem m_Reader_fail_ok : MOK (m_Reader_fail, 1, false) := ⟨tt_at 657 rfl rfl, tt_at 77 rfl rfl, by decide +kernel, by decide +kernel, by decide +kernel, ⟨tt_at 656 rfl rfl, tt_at 3 rfl rfl⟩, by decide +kernel, by decide, rfl⟩
set_option maxRecDepth 100000 in
theorem m_Sentences_tell_ok : MOK (m_Sentences_tell, 1, false) := ⟨tt_at 485 rfl rfl, tt_at 75 rfl rfl, by decide +kernel, by decide +kernel, by decide +kernel, ⟨tt_at 483 rfl rfl, tt_at 484 rfl rfl⟩, by decide +kernel, by decide, rfl⟩
set_option maxRecDepth 100000 in
theorem m_Sentences_close_ok : MOK (m_Sentences_close, 0, false) := ⟨tt_at 493 rfl rfl, tt_at 75 rfl rfl, by decide +kernel, by decide +kernel, by decide +kernel, ⟨tt_at 491 rfl rfl, tt_at 492 rfl rfl⟩, by decide +kernel, by decide, rfl⟩
set_option maxRecDepth 100000 in
theorem m_Sentences_remove_ok : MOK (m_Sentences_remove, 1, false) := ⟨tt_at 508 rfl rfl, tt_at 75 rfl rfl, by decide +kernel, by decide +kernel, by decide +kernel, ⟨tt_at 506 rfl rfl, tt_at 507 rfl rfl⟩, by decide +kernel, by decide, rfl⟩
set_option maxRecDepth 100000 in
theorem m_Sentences_isThere_ok : MOK (m_Sentences_isThere, 1, false) := ⟨tt_at 512 rfl rfl, tt_at 75 rfl rfl, by decide +kernel, by decide +kernel, by decide +kernel, ⟨tt_at 510 rfl rfl, tt_at 511 rfl rfl⟩, by decide +kernel, by decide, rfl⟩
set_option maxRecDepth 100000 in
theorem m_Sentences_lengthOf_ok : MOK (m_Sentences_lengthOf, 1, false) := ⟨tt_at 456 rfl rfl, tt_at 75 rfl rfl, by decide +kernel, by decide +kernel, by decide +kernel, ⟨tt_at 454 rfl rfl, tt_at 455 rfl rfl⟩, by decide +kernel, by decide, rfl⟩
set_option maxRecDepth 100000 in
theorem m_Sentences_wordAt_ok : MOK (m_Sentences_wordAt, 2, false) := ⟨tt_at 460 rfl rfl, tt_at 75 rfl rfl, by decide +kernel, by decide +kernel, by decide +kernel, ⟨tt_at 458 rfl rfl, tt_at 459 rfl rfl⟩, by decide +kernel, by decide, rfl⟩
set_option maxRecDepth 100000 in
theorem m_Sentences_told_ok : MOK (m_Sentences_told, 0, false) := ⟨tt_at 1134 rfl rfl, tt_at 75 rfl rfl, by decide +kernel, by decide +kernel, by decide +kernel, ⟨tt_at 1132 rfl rfl, tt_at 1133 rfl rfl⟩, by decide +kernel, by decide, rfl⟩
set_option maxRecDepth 100000 in
theorem m_Sentences_came_ok : MOK (m_Sentences_came, 0, false) := ⟨tt_at 452 rfl rfl, tt_at 75 rfl rfl, by decide +kernel, by decide +kernel, by decide +kernel, ⟨tt_at 450 rfl rfl, tt_at 451 rfl rfl⟩, by decide +kernel, by decide, rfl⟩
set_option maxRecDepth 100000 in
theorem m_Sentences_present_ok : MOK (m_Sentences_present, 0, false) := ⟨tt_at 1127 rfl rfl, tt_at 75 rfl rfl, by decide +kernel, by decide +kernel, by decide +kernel, ⟨tt_at 1125 rfl rfl, tt_at 1126 rfl rfl⟩, by decide +kernel, by decide, rfl⟩
set_option maxRecDepth 100000 in
theorem m_Table_forget_ok : MOK (m_Table_forget, 0, false) := ⟨tt_at 464 rfl rfl, tt_at 81 rfl rfl, by decide +kernel, by decide +kernel, by decide +kernel, ⟨tt_at 462 rfl rfl, tt_at 463 rfl rfl⟩, by decide +kernel, by decide, rfl⟩
set_option maxRecDepth 100000 in
theorem m_Table_refresh_ok : MOK (m_Table_refresh, 0, false) := ⟨tt_at 892 rfl rfl, tt_at 81 rfl rfl, by decide +kernel, by decide +kernel, by decide +kernel, ⟨tt_at 890 rfl rfl, tt_at 891 rfl rfl⟩, by decide +kernel, by decide, rfl⟩
set_option maxRecDepth 100000 in
theorem m_Table_addFindsOf_ok : MOK (m_Table_addFindsOf, 1, false) := ⟨tt_at 901 rfl rfl, tt_at 81 rfl rfl, by decide +kernel, by decide +kernel, by decide +kernel, ⟨tt_at 900 rfl rfl, tt_at 24 rfl rfl⟩, by decide +kernel, by decide, rfl⟩
set_option maxRecDepth 100000 in
theorem m_Table_nameAt_ok : MOK (m_Table_nameAt, 2, false) := ⟨tt_at 908 rfl rfl, tt_at 81 rfl rfl, by decide +kernel, by decide +kernel, by decide +kernel, ⟨tt_at 907 rfl rfl, tt_at 25 rfl rfl⟩, by decide +kernel, by decide, rfl⟩
set_option maxRecDepth 100000 in
theorem m_Table_addRow_ok : MOK (m_Table_addRow, 3, false) := ⟨tt_at 917 rfl rfl, tt_at 81 rfl rfl, by decide +kernel, by decide +kernel, by decide +kernel, ⟨tt_at 916 rfl rfl, tt_at 26 rfl rfl⟩, by decide +kernel, by decide, rfl⟩
set_option maxRecDepth 100000 in
theorem m_Table_followChains_ok : MOK (m_Table_followChains, 0, false) := ⟨tt_at 923 rfl rfl, tt_at 81 rfl rfl, by decide +kernel, by decide +kernel, by decide +kernel, ⟨tt_at 922 rfl rfl, tt_at 27 rfl rfl⟩, by decide +kernel, by decide, rfl⟩
set_option maxRecDepth 100000 in
theorem m_Table_followChain_ok : MOK (m_Table_followChain, 3, false) := ⟨tt_at 941 rfl rfl, tt_at 81 rfl rfl, by decide +kernel, by decide +kernel, by decide +kernel, ⟨tt_at 940 rfl rfl, tt_at 28 rfl rfl⟩, by decide +kernel, by decide, rfl⟩
set_option maxRecDepth 100000 in
theorem m_Table_followFrom_ok : MOK (m_Table_followFrom, 4, false) := ⟨tt_at 955 rfl rfl, tt_at 81 rfl rfl, by decide +kernel, by decide +kernel, by decide +kernel, ⟨tt_at 954 rfl rfl, tt_at 30 rfl rfl⟩, by decide +kernel, by decide, rfl⟩
set_option maxRecDepth 100000 in
theorem m_Table_hasRow_ok : MOK (m_Table_hasRow, 3, false) := ⟨tt_at 959 rfl rfl, tt_at 81 rfl rfl, by decide +kernel, by decide +kernel, by decide +kernel, ⟨tt_at 958 rfl rfl, tt_at 31 rfl rfl⟩, by decide +kernel, by decide, rfl⟩
set_option maxRecDepth 100000 in
theorem m_Table_degree_ok : MOK (m_Table_degree, 2, false) := ⟨tt_at 945 rfl rfl, tt_at 81 rfl rfl, by decide +kernel, by decide +kernel, by decide +kernel, ⟨tt_at 944 rfl rfl, tt_at 29 rfl rfl⟩, by decide +kernel, by decide, rfl⟩
set_option maxRecDepth 100000 in
theorem m_Table_size_ok : MOK (m_Table_size, 1, false) := ⟨tt_at 964 rfl rfl, tt_at 81 rfl rfl, by decide +kernel, by decide +kernel, by decide +kernel, ⟨tt_at 962 rfl rfl, tt_at 963 rfl rfl⟩, by decide +kernel, by decide, rfl⟩
set_option maxRecDepth 100000 in
theorem m_Table_name_ok : MOK (m_Table_name, 3, false) := ⟨tt_at 972 rfl rfl, tt_at 81 rfl rfl, by decide +kernel, by decide +kernel, by decide +kernel, ⟨tt_at 970 rfl rfl, tt_at 971 rfl rfl⟩, by decide +kernel, by decide, rfl⟩
set_option maxRecDepth 100000 in
theorem m_Table_secondName_ok : MOK (m_Table_secondName, 3, false) := ⟨tt_at 976 rfl rfl, tt_at 81 rfl rfl, by decide +kernel, by decide +kernel, by decide +kernel, ⟨tt_at 975 rfl rfl, tt_at 32 rfl rfl⟩, by decide +kernel, by decide, rfl⟩
set_option maxRecDepth 100000 in
theorem m_Table_quarrelling_ok : MOK (m_Table_quarrelling, 2, false) := ⟨tt_at 988 rfl rfl, tt_at 81 rfl rfl, by decide +kernel, by decide +kernel, by decide +kernel, ⟨tt_at 986 rfl rfl, tt_at 987 rfl rfl⟩, by decide +kernel, by decide, rfl⟩
set_option maxRecDepth 100000 in
theorem m_Tape_put_ok : MOK (m_Tape_put, 1, false) := ⟨tt_at 520 rfl rfl, tt_at 76 rfl rfl, by decide +kernel, by decide +kernel, by decide +kernel, ⟨tt_at 518 rfl rfl, tt_at 519 rfl rfl⟩, by decide +kernel, by decide, rfl⟩
set_option maxRecDepth 100000 in
theorem m_Tape_isKnown_ok : MOK (m_Tape_isKnown, 1, true) := ⟨tt_at 523 rfl rfl, tt_at 76 rfl rfl, by decide +kernel, by decide +kernel, by decide +kernel, tt_at 522 rfl rfl, by decide +kernel, by decide, rfl⟩
set_option maxRecDepth 100000 in
theorem m_Tape_length_ok : MOK (m_Tape_length, 0, false) := ⟨tt_at 527 rfl rfl, tt_at 76 rfl rfl, by decide +kernel, by decide +kernel, by decide +kernel, ⟨tt_at 525 rfl rfl, tt_at 526 rfl rfl⟩, by decide +kernel, by decide, rfl⟩
set_option maxRecDepth 100000 in
theorem m_Tape_at_ok : MOK (m_Tape_at, 1, false) := ⟨tt_at 544 rfl rfl, tt_at 76 rfl rfl, by decide +kernel, by decide +kernel, by decide +kernel, ⟨tt_at 542 rfl rfl, tt_at 543 rfl rfl⟩, by decide +kernel, by decide, rfl⟩
set_option maxRecDepth 100000 in
theorem m_Tape_clear_ok : MOK (m_Tape_clear, 0, false) := ⟨tt_at 637 rfl rfl, tt_at 76 rfl rfl, by decide +kernel, by decide +kernel, by decide +kernel, ⟨tt_at 635 rfl rfl, tt_at 636 rfl rfl⟩, by decide +kernel, by decide, rfl⟩
set_option maxRecDepth 100000 in
theorem m_Tokens_scan_ok : MOK (m_Tokens_scan, 1, false) := ⟨tt_at 539 rfl rfl, tt_at 78 rfl rfl, by decide +kernel, by decide +kernel, by decide +kernel, ⟨tt_at 537 rfl rfl, tt_at 538 rfl rfl⟩, by decide +kernel, by decide, rfl⟩
set_option maxRecDepth 100000 in
theorem m_Tokens_add_ok : MOK (m_Tokens_add, 2, false) := ⟨tt_at 633 rfl rfl, tt_at 78 rfl rfl, by decide +kernel, by decide +kernel, by decide +kernel, ⟨tt_at 632 rfl rfl, tt_at 1 rfl rfl⟩, by decide +kernel, by decide, rfl⟩
set_option maxRecDepth 100000 in
theorem m_Tokens_code_ok : MOK (m_Tokens_code, 0, false) := ⟨tt_at 645 rfl rfl, tt_at 78 rfl rfl, by decide +kernel, by decide +kernel, by decide +kernel, ⟨tt_at 643 rfl rfl, tt_at 644 rfl rfl⟩, by decide +kernel, by decide, rfl⟩
set_option maxRecDepth 100000 in
theorem m_Tokens_place_ok : MOK (m_Tokens_place, 0, false) := ⟨tt_at 661 rfl rfl, tt_at 78 rfl rfl, by decide +kernel, by decide +kernel, by decide +kernel, ⟨tt_at 659 rfl rfl, tt_at 660 rfl rfl⟩, by decide +kernel, by decide, rfl⟩
set_option maxRecDepth 100000 in
theorem m_Tokens_advance_ok : MOK (m_Tokens_advance, 0, false) := ⟨tt_at 665 rfl rfl, tt_at 78 rfl rfl, by decide +kernel, by decide +kernel, by decide +kernel, ⟨tt_at 663 rfl rfl, tt_at 664 rfl rfl⟩, by decide +kernel, by decide, rfl⟩
set_option maxRecDepth 100000 in
theorem m_Tokens_goesOn_ok : MOK (m_Tokens_goesOn, 2, true) := ⟨tt_at 550 rfl rfl, tt_at 78 rfl rfl, by decide +kernel, by decide +kernel, by decide +kernel, tt_at 549 rfl rfl, by decide +kernel, by decide, rfl⟩
set_option maxRecDepth 100000 in
theorem m_Tokens_codeAt_ok : MOK (m_Tokens_codeAt, 2, true) := ⟨tt_at 559 rfl rfl, tt_at 78 rfl rfl, by decide +kernel, by decide +kernel, by decide +kernel, tt_at 558 rfl rfl, by decide +kernel, by decide, rfl⟩
set_option maxRecDepth 100000 in
theorem m_Tokens_numberCode_ok : MOK (m_Tokens_numberCode, 2, true) := ⟨tt_at 562 rfl rfl, tt_at 78 rfl rfl, by decide +kernel, by decide +kernel, by decide +kernel, tt_at 561 rfl rfl, by decide +kernel, by decide, rfl⟩
set_option maxRecDepth 100000 in
theorem m_Tokens_wordCode_ok : MOK (m_Tokens_wordCode, 2, true) := ⟨tt_at 565 rfl rfl, tt_at 78 rfl rfl, by decide +kernel, by decide +kernel, by decide +kernel, tt_at 564 rfl rfl, by decide +kernel, by decide, rfl⟩
set_option maxRecDepth 100000 in
theorem m_Tokens_sWordCode_ok : MOK (m_Tokens_sWordCode, 2, true) := ⟨tt_at 625 rfl rfl, tt_at 78 rfl rfl, by decide +kernel, by decide +kernel, by decide +kernel, tt_at 624 rfl rfl, by decide +kernel, by decide, rfl⟩
set_option maxRecDepth 100000 in
theorem m_Tokens_stands_ok : MOK (m_Tokens_stands, 3, true) := ⟨tt_at 569 rfl rfl, tt_at 78 rfl rfl, by decide +kernel, by decide +kernel, by decide +kernel, tt_at 568 rfl rfl, by decide +kernel, by decide, rfl⟩
set_option maxRecDepth 100000 in
theorem m_Tokens_isBlank_ok : MOK (m_Tokens_isBlank, 1, true) := ⟨tt_at 547 rfl rfl, tt_at 78 rfl rfl, by decide +kernel, by decide +kernel, by decide +kernel, tt_at 546 rfl rfl, by decide +kernel, by decide, rfl⟩
set_option maxRecDepth 100000 in
theorem m_Tokens_isLetter_ok : MOK (m_Tokens_isLetter, 1, true) := ⟨tt_at 553 rfl rfl, tt_at 78 rfl rfl, by decide +kernel, by decide +kernel, by decide +kernel, tt_at 552 rfl rfl, by decide +kernel, by decide, rfl⟩
set_option maxRecDepth 100000 in
theorem m_Tokens_isDigit_ok : MOK (m_Tokens_isDigit, 1, true) := ⟨tt_at 556 rfl rfl, tt_at 78 rfl rfl, by decide +kernel, by decide +kernel, by decide +kernel, tt_at 555 rfl rfl, by decide +kernel, by decide, rfl⟩
set_option maxRecDepth 100000 in
theorem m_D_sort_ok : MOK (m_D_sort, 2, false) := ⟨tt_at 437 rfl rfl, tt_at 73 rfl rfl, by decide +kernel, by decide +kernel, by decide +kernel, ⟨tt_at 435 rfl rfl, tt_at 436 rfl rfl⟩, by decide +kernel, by decide, rfl⟩
set_option maxRecDepth 100000 in
theorem m_D_join_ok : MOK (m_D_join, 2, false) := ⟨tt_at 468 rfl rfl, tt_at 73 rfl rfl, by decide +kernel, by decide +kernel, by decide +kernel, ⟨tt_at 466 rfl rfl, tt_at 467 rfl rfl⟩, by decide +kernel, by decide, rfl⟩
set_option maxRecDepth 100000 in
theorem m_D_word_ok : MOK (m_D_word, 1, false) := ⟨tt_at 480 rfl rfl, tt_at 73 rfl rfl, by decide +kernel, by decide +kernel, by decide +kernel, ⟨tt_at 478 rfl rfl, tt_at 479 rfl rfl⟩, by decide +kernel, by decide, rfl⟩
set_option maxRecDepth 100000 in
theorem m_D_sentence_ok : MOK (m_D_sentence, 0, false) := ⟨tt_at 489 rfl rfl, tt_at 73 rfl rfl, by decide +kernel, by decide +kernel, by decide +kernel, ⟨tt_at 487 rfl rfl, tt_at 488 rfl rfl⟩, by decide +kernel, by decide, rfl⟩
set_option maxRecDepth 100000 in
theorem m_D_take_ok : MOK (m_D_take, 1, false) := ⟨tt_at 504 rfl rfl, tt_at 73 rfl rfl, by decide +kernel, by decide +kernel, by decide +kernel, ⟨tt_at 502 rfl rfl, tt_at 503 rfl rfl⟩, by decide +kernel, by decide, rfl⟩
set_option maxRecDepth 100000 in
theorem m_D_feed_ok : MOK (m_D_feed, 3, false) := ⟨tt_at 516 rfl rfl, tt_at 73 rfl rfl, by decide +kernel, by decide +kernel, by decide +kernel, ⟨tt_at 514 rfl rfl, tt_at 515 rfl rfl⟩, by decide +kernel, by decide, rfl⟩
set_option maxRecDepth 100000 in
theorem m_D_text_ok : MOK (m_D_text, 0, false) := ⟨tt_at 531 rfl rfl, tt_at 73 rfl rfl, by decide +kernel, by decide +kernel, by decide +kernel, ⟨tt_at 529 rfl rfl, tt_at 530 rfl rfl⟩, by decide +kernel, by decide, rfl⟩
set_option maxRecDepth 100000 in
theorem m_D_finds_ok : MOK (m_D_finds, 0, false) := ⟨tt_at 753 rfl rfl, tt_at 73 rfl rfl, by decide +kernel, by decide +kernel, by decide +kernel, ⟨tt_at 751 rfl rfl, tt_at 752 rfl rfl⟩, by decide +kernel, by decide, rfl⟩
set_option maxRecDepth 100000 in
theorem m_D_find_ok : MOK (m_D_find, 2, false) := ⟨tt_at 859 rfl rfl, tt_at 73 rfl rfl, by decide +kernel, by decide +kernel, by decide +kernel, ⟨tt_at 857 rfl rfl, tt_at 858 rfl rfl⟩, by decide +kernel, by decide, rfl⟩
set_option maxRecDepth 100000 in
theorem m_D_rows_ok : MOK (m_D_rows, 1, false) := ⟨tt_at 887 rfl rfl, tt_at 73 rfl rfl, by decide +kernel, by decide +kernel, by decide +kernel, ⟨tt_at 885 rfl rfl, tt_at 886 rfl rfl⟩, by decide +kernel, by decide, rfl⟩
set_option maxRecDepth 100000 in
theorem m_D_row_ok : MOK (m_D_row, 3, false) := ⟨tt_at 968 rfl rfl, tt_at 73 rfl rfl, by decide +kernel, by decide +kernel, by decide +kernel, ⟨tt_at 966 rfl rfl, tt_at 967 rfl rfl⟩, by decide +kernel, by decide, rfl⟩
set_option maxRecDepth 100000 in
theorem m_D_quarrel_ok : MOK (m_D_quarrel, 2, false) := ⟨tt_at 980 rfl rfl, tt_at 73 rfl rfl, by decide +kernel, by decide +kernel, by decide +kernel, ⟨tt_at 978 rfl rfl, tt_at 979 rfl rfl⟩, by decide +kernel, by decide, rfl⟩
set_option maxRecDepth 100000 in
theorem m_D_mark_ok : MOK (m_D_mark, 5, false) := ⟨tt_at 992 rfl rfl, tt_at 73 rfl rfl, by decide +kernel, by decide +kernel, by decide +kernel, ⟨tt_at 990 rfl rfl, tt_at 991 rfl rfl⟩, by decide +kernel, by decide, rfl⟩
set_option maxRecDepth 100000 in
theorem m_D_best_ok : MOK (m_D_best, 1, false) := ⟨tt_at 1006 rfl rfl, tt_at 73 rfl rfl, by decide +kernel, by decide +kernel, by decide +kernel, ⟨tt_at 1004 rfl rfl, tt_at 1005 rfl rfl⟩, by decide +kernel, by decide, rfl⟩
set_option maxRecDepth 100000 in
theorem m_D_learn_ok : MOK (m_D_learn, 1, false) := ⟨tt_at 1042 rfl rfl, tt_at 73 rfl rfl, by decide +kernel, by decide +kernel, by decide +kernel, ⟨tt_at 1040 rfl rfl, tt_at 1041 rfl rfl⟩, by decide +kernel, by decide, rfl⟩
set_option maxRecDepth 100000 in
theorem m_D_learnt_ok : MOK (m_D_learnt, 2, false) := ⟨tt_at 1093 rfl rfl, tt_at 73 rfl rfl, by decide +kernel, by decide +kernel, by decide +kernel, ⟨tt_at 1091 rfl rfl, tt_at 1092 rfl rfl⟩, by decide +kernel, by decide, rfl⟩
set_option maxRecDepth 100000 in
theorem m_D_catches_ok : MOK (m_D_catches, 1, false) := ⟨tt_at 1105 rfl rfl, tt_at 73 rfl rfl, by decide +kernel, by decide +kernel, by decide +kernel, ⟨tt_at 1103 rfl rfl, tt_at 1104 rfl rfl⟩, by decide +kernel, by decide, rfl⟩
set_option maxRecDepth 100000 in
theorem m_D_named_ok : MOK (m_D_named, 1, false) := ⟨tt_at 1117 rfl rfl, tt_at 73 rfl rfl, by decide +kernel, by decide +kernel, by decide +kernel, ⟨tt_at 1115 rfl rfl, tt_at 1116 rfl rfl⟩, by decide +kernel, by decide, rfl⟩
set_option maxRecDepth 100000 in
theorem m_D_count_ok : MOK (m_D_count, 1, false) := ⟨tt_at 1122 rfl rfl, tt_at 73 rfl rfl, by decide +kernel, by decide +kernel, by decide +kernel, ⟨tt_at 1120 rfl rfl, tt_at 1121 rfl rfl⟩, by decide +kernel, by decide, rfl⟩
set_option maxRecDepth 100000 in
theorem m_D_isRelation_ok : MOK (m_D_isRelation, 1, true) := ⟨tt_at 735 rfl rfl, tt_at 73 rfl rfl, by decide +kernel, by decide +kernel, by decide +kernel, tt_at 734 rfl rfl, by decide +kernel, by decide, rfl⟩
set_option maxRecDepth 100000 in
theorem m_M_thrown_ok : MOK (m_M_thrown, 0, false) := ⟨tt_at 1225 rfl rfl, tt_at 85 rfl rfl, by decide +kernel, by decide +kernel, by decide +kernel, ⟨tt_at 1223 rfl rfl, tt_at 1224 rfl rfl⟩, by decide +kernel, by decide, rfl⟩
set_option maxRecDepth 100000 in
theorem m_M_feed_ok : MOK (m_M_feed, 3, false) := ⟨tt_at 1229 rfl rfl, tt_at 85 rfl rfl, by decide +kernel, by decide +kernel, by decide +kernel, ⟨tt_at 1227 rfl rfl, tt_at 1228 rfl rfl⟩, by decide +kernel, by decide, rfl⟩
set_option maxRecDepth 100000 in
theorem m_M_lay_ok : MOK (m_M_lay, 1, false) := ⟨tt_at 1234 rfl rfl, tt_at 85 rfl rfl, by decide +kernel, by decide +kernel, by decide +kernel, ⟨tt_at 1232 rfl rfl, tt_at 43 rfl rfl⟩, by decide +kernel, by decide, rfl⟩
set_option maxRecDepth 100000 in
theorem m_M_isLetter_ok : MOK (m_M_isLetter, 1, true) := ⟨tt_at 1419 rfl rfl, tt_at 85 rfl rfl, by decide +kernel, by decide +kernel, by decide +kernel, tt_at 1418 rfl rfl, by decide +kernel, by decide, rfl⟩
set_option maxRecDepth 100000 in
theorem m_M_isDigit_ok : MOK (m_M_isDigit, 1, true) := ⟨tt_at 1426 rfl rfl, tt_at 85 rfl rfl, by decide +kernel, by decide +kernel, by decide +kernel, tt_at 1425 rfl rfl, by decide +kernel, by decide, rfl⟩
set_option maxRecDepth 100000 in
theorem m_M_rank_ok : MOK (m_M_rank, 1, true) := ⟨tt_at 1423 rfl rfl, tt_at 85 rfl rfl, by decide +kernel, by decide +kernel, by decide +kernel, tt_at 1422 rfl rfl, by decide +kernel, by decide, rfl⟩
set_option maxRecDepth 100000 in
theorem m_M_isSignOf_ok : MOK (m_M_isSignOf, 1, true) := ⟨tt_at 1431 rfl rfl, tt_at 85 rfl rfl, by decide +kernel, by decide +kernel, by decide +kernel, tt_at 1430 rfl rfl, by decide +kernel, by decide, rfl⟩
set_option maxRecDepth 100000 in
theorem m_M_cutAll_ok : MOK (m_M_cutAll, 0, false) := ⟨tt_at 1416 rfl rfl, tt_at 85 rfl rfl, by decide +kernel, by decide +kernel, by decide +kernel, ⟨tt_at 1415 rfl rfl, tt_at 44 rfl rfl⟩, by decide +kernel, by decide, rfl⟩
set_option maxRecDepth 100000 in
theorem m_M_wrong_ok : MOK (m_M_wrong, 1, false) := ⟨tt_at 1447 rfl rfl, tt_at 85 rfl rfl, by decide +kernel, by decide +kernel, by decide +kernel, ⟨tt_at 1446 rfl rfl, tt_at 48 rfl rfl⟩, by decide +kernel, by decide, rfl⟩
set_option maxRecDepth 100000 in
theorem m_M_isSign_ok : MOK (m_M_isSign, 1, false) := ⟨tt_at 1459 rfl rfl, tt_at 85 rfl rfl, by decide +kernel, by decide +kernel, by decide +kernel, ⟨tt_at 1458 rfl rfl, tt_at 51 rfl rfl⟩, by decide +kernel, by decide, rfl⟩
set_option maxRecDepth 100000 in
theorem m_M_isWord_ok : MOK (m_M_isWord, 1, false) := ⟨tt_at 1439 rfl rfl, tt_at 85 rfl rfl, by decide +kernel, by decide +kernel, by decide +kernel, ⟨tt_at 1438 rfl rfl, tt_at 46 rfl rfl⟩, by decide +kernel, by decide, rfl⟩
set_option maxRecDepth 100000 in
theorem m_M_takeSign_ok : MOK (m_M_takeSign, 1, false) := ⟨tt_at 1455 rfl rfl, tt_at 85 rfl rfl, by decide +kernel, by decide +kernel, by decide +kernel, ⟨tt_at 1454 rfl rfl, tt_at 50 rfl rfl⟩, by decide +kernel, by decide, rfl⟩
set_option maxRecDepth 100000 in
theorem m_M_hasWord_ok : MOK (m_M_hasWord, 1, false) := ⟨tt_at 1475 rfl rfl, tt_at 85 rfl rfl, by decide +kernel, by decide +kernel, by decide +kernel, ⟨tt_at 1474 rfl rfl, tt_at 55 rfl rfl⟩, by decide +kernel, by decide, rfl⟩
set_option maxRecDepth 100000 in
theorem m_M_takeWord_ok : MOK (m_M_takeWord, 1, false) := ⟨tt_at 1479 rfl rfl, tt_at 85 rfl rfl, by decide +kernel, by decide +kernel, by decide +kernel, ⟨tt_at 1478 rfl rfl, tt_at 56 rfl rfl⟩, by decide +kernel, by decide, rfl⟩
set_option maxRecDepth 100000 in
theorem m_M_takeNumber_ok : MOK (m_M_takeNumber, 2, false) := ⟨tt_at 1451 rfl rfl, tt_at 85 rfl rfl, by decide +kernel, by decide +kernel, by decide +kernel, ⟨tt_at 1450 rfl rfl, tt_at 49 rfl rfl⟩, by decide +kernel, by decide, rfl⟩
set_option maxRecDepth 100000 in
theorem m_M_text_ok : MOK (m_M_text, 0, false) := ⟨tt_at 1412 rfl rfl, tt_at 85 rfl rfl, by decide +kernel, by decide +kernel, by decide +kernel, ⟨tt_at 1410 rfl rfl, tt_at 1411 rfl rfl⟩, by decide +kernel, by decide, rfl⟩
set_option maxRecDepth 100000 in
theorem m_M_statement_ok : MOK (m_M_statement, 0, false) := ⟨tt_at 1435 rfl rfl, tt_at 85 rfl rfl, by decide +kernel, by decide +kernel, by decide +kernel, ⟨tt_at 1434 rfl rfl, tt_at 45 rfl rfl⟩, by decide +kernel, by decide, rfl⟩
set_option maxRecDepth 100000 in
theorem m_M_readChain_ok : MOK (m_M_readChain, 0, false) := ⟨tt_at 1483 rfl rfl, tt_at 85 rfl rfl, by decide +kernel, by decide +kernel, by decide +kernel, ⟨tt_at 1482 rfl rfl, tt_at 57 rfl rfl⟩, by decide +kernel, by decide, rfl⟩
set_option maxRecDepth 100000 in
theorem m_M_readRule_ok : MOK (m_M_readRule, 0, false) := ⟨tt_at 1443 rfl rfl, tt_at 85 rfl rfl, by decide +kernel, by decide +kernel, by decide +kernel, ⟨tt_at 1442 rfl rfl, tt_at 47 rfl rfl⟩, by decide +kernel, by decide, rfl⟩
set_option maxRecDepth 100000 in
theorem m_M_isItem_ok : MOK (m_M_isItem, 0, false) := ⟨tt_at 1467 rfl rfl, tt_at 85 rfl rfl, by decide +kernel, by decide +kernel, by decide +kernel, ⟨tt_at 1466 rfl rfl, tt_at 53 rfl rfl⟩, by decide +kernel, by decide, rfl⟩
set_option maxRecDepth 100000 in
theorem m_M_item_ok : MOK (m_M_item, 1, false) := ⟨tt_at 1463 rfl rfl, tt_at 85 rfl rfl, by decide +kernel, by decide +kernel, by decide +kernel, ⟨tt_at 1462 rfl rfl, tt_at 52 rfl rfl⟩, by decide +kernel, by decide, rfl⟩
set_option maxRecDepth 100000 in
theorem m_M_spec_ok : MOK (m_M_spec, 1, false) := ⟨tt_at 1471 rfl rfl, tt_at 85 rfl rfl, by decide +kernel, by decide +kernel, by decide +kernel, ⟨tt_at 1470 rfl rfl, tt_at 54 rfl rfl⟩, by decide +kernel, by decide, rfl⟩
set_option maxRecDepth 100000 in
theorem m_M_isOne_ok : MOK (m_M_isOne, 1, true) := ⟨tt_at 1490 rfl rfl, tt_at 85 rfl rfl, by decide +kernel, by decide +kernel, by decide +kernel, tt_at 1489 rfl rfl, by decide +kernel, by decide, rfl⟩
set_option maxRecDepth 100000 in
theorem m_M_sort_ok : MOK (m_M_sort, 2, false) := ⟨tt_at 1487 rfl rfl, tt_at 85 rfl rfl, by decide +kernel, by decide +kernel, by decide +kernel, ⟨tt_at 1485 rfl rfl, tt_at 1486 rfl rfl⟩, by decide +kernel, by decide, rfl⟩
set_option maxRecDepth 100000 in
theorem m_M_nameOf_ok : MOK (m_M_nameOf, 1, false) := ⟨tt_at 1502 rfl rfl, tt_at 85 rfl rfl, by decide +kernel, by decide +kernel, by decide +kernel, ⟨tt_at 1501 rfl rfl, tt_at 58 rfl rfl⟩, by decide +kernel, by decide, rfl⟩
set_option maxRecDepth 100000 in
theorem m_M_join_ok : MOK (m_M_join, 2, false) := ⟨tt_at 1494 rfl rfl, tt_at 85 rfl rfl, by decide +kernel, by decide +kernel, by decide +kernel, ⟨tt_at 1492 rfl rfl, tt_at 1493 rfl rfl⟩, by decide +kernel, by decide, rfl⟩
set_option maxRecDepth 100000 in
theorem m_M_named_ok : MOK (m_M_named, 1, false) := ⟨tt_at 1498 rfl rfl, tt_at 85 rfl rfl, by decide +kernel, by decide +kernel, by decide +kernel, ⟨tt_at 1496 rfl rfl, tt_at 1497 rfl rfl⟩, by decide +kernel, by decide, rfl⟩
set_option maxRecDepth 100000 in
theorem m_M_word_ok : MOK (m_M_word, 1, false) := ⟨tt_at 1506 rfl rfl, tt_at 85 rfl rfl, by decide +kernel, by decide +kernel, by decide +kernel, ⟨tt_at 1504 rfl rfl, tt_at 1505 rfl rfl⟩, by decide +kernel, by decide, rfl⟩
set_option maxRecDepth 100000 in
theorem m_M_sentence_ok : MOK (m_M_sentence, 0, false) := ⟨tt_at 1510 rfl rfl, tt_at 85 rfl rfl, by decide +kernel, by decide +kernel, by decide +kernel, ⟨tt_at 1508 rfl rfl, tt_at 1509 rfl rfl⟩, by decide +kernel, by decide, rfl⟩
set_option maxRecDepth 100000 in
theorem m_M_isThere_ok : MOK (m_M_isThere, 1, false) := ⟨tt_at 1518 rfl rfl, tt_at 85 rfl rfl, by decide +kernel, by decide +kernel, by decide +kernel, ⟨tt_at 1517 rfl rfl, tt_at 59 rfl rfl⟩, by decide +kernel, by decide, rfl⟩
set_option maxRecDepth 100000 in
theorem m_M_take_ok : MOK (m_M_take, 1, false) := ⟨tt_at 1514 rfl rfl, tt_at 85 rfl rfl, by decide +kernel, by decide +kernel, by decide +kernel, ⟨tt_at 1512 rfl rfl, tt_at 1513 rfl rfl⟩, by decide +kernel, by decide, rfl⟩
set_option maxRecDepth 100000 in
theorem m_M_fits_ok : MOK (m_M_fits, 3, false) := ⟨tt_at 1538 rfl rfl, tt_at 85 rfl rfl, by decide +kernel, by decide +kernel, by decide +kernel, ⟨tt_at 1537 rfl rfl, tt_at 63 rfl rfl⟩, by decide +kernel, by decide, rfl⟩
set_option maxRecDepth 100000 in
theorem m_M_findOf_ok : MOK (m_M_findOf, 4, true) := ⟨tt_at 1541 rfl rfl, tt_at 85 rfl rfl, by decide +kernel, by decide +kernel, by decide +kernel, tt_at 1540 rfl rfl, by decide +kernel, by decide, rfl⟩
set_option maxRecDepth 100000 in
theorem m_M_findAll_ok : MOK (m_M_findAll, 0, false) := ⟨tt_at 1526 rfl rfl, tt_at 85 rfl rfl, by decide +kernel, by decide +kernel, by decide +kernel, ⟨tt_at 1525 rfl rfl, tt_at 60 rfl rfl⟩, by decide +kernel, by decide, rfl⟩
set_option maxRecDepth 100000 in
theorem m_M_matches_ok : MOK (m_M_matches, 2, false) := ⟨tt_at 1530 rfl rfl, tt_at 85 rfl rfl, by decide +kernel, by decide +kernel, by decide +kernel, ⟨tt_at 1529 rfl rfl, tt_at 61 rfl rfl⟩, by decide +kernel, by decide, rfl⟩
set_option maxRecDepth 100000 in
theorem m_M_goes_ok : MOK (m_M_goes, 4, false) := ⟨tt_at 1534 rfl rfl, tt_at 85 rfl rfl, by decide +kernel, by decide +kernel, by decide +kernel, ⟨tt_at 1533 rfl rfl, tt_at 62 rfl rfl⟩, by decide +kernel, by decide, rfl⟩
set_option maxRecDepth 100000 in
theorem m_M_isBarred_ok : MOK (m_M_isBarred, 1, false) := ⟨tt_at 1549 rfl rfl, tt_at 85 rfl rfl, by decide +kernel, by decide +kernel, by decide +kernel, ⟨tt_at 1548 rfl rfl, tt_at 64 rfl rfl⟩, by decide +kernel, by decide, rfl⟩
set_option maxRecDepth 100000 in
theorem m_M_finds_ok : MOK (m_M_finds, 0, false) := ⟨tt_at 1522 rfl rfl, tt_at 85 rfl rfl, by decide +kernel, by decide +kernel, by decide +kernel, ⟨tt_at 1520 rfl rfl, tt_at 1521 rfl rfl⟩, by decide +kernel, by decide, rfl⟩
set_option maxRecDepth 100000 in
theorem m_M_find_ok : MOK (m_M_find, 2, false) := ⟨tt_at 1545 rfl rfl, tt_at 85 rfl rfl, by decide +kernel, by decide +kernel, by decide +kernel, ⟨tt_at 1543 rfl rfl, tt_at 1544 rfl rfl⟩, by decide +kernel, by decide, rfl⟩
set_option maxRecDepth 100000 in
theorem m_M_findRows_ok : MOK (m_M_findRows, 0, false) := ⟨tt_at 1560 rfl rfl, tt_at 85 rfl rfl, by decide +kernel, by decide +kernel, by decide +kernel, ⟨tt_at 1559 rfl rfl, tt_at 65 rfl rfl⟩, by decide +kernel, by decide, rfl⟩
set_option maxRecDepth 100000 in
theorem m_M_joins_ok : MOK (m_M_joins, 3, false) := ⟨tt_at 1564 rfl rfl, tt_at 85 rfl rfl, by decide +kernel, by decide +kernel, by decide +kernel, ⟨tt_at 1563 rfl rfl, tt_at 66 rfl rfl⟩, by decide +kernel, by decide, rfl⟩
set_option maxRecDepth 100000 in
theorem m_M_isR_ok : MOK (m_M_isR, 1, true) := ⟨tt_at 1556 rfl rfl, tt_at 85 rfl rfl, by decide +kernel, by decide +kernel, by decide +kernel, tt_at 1555 rfl rfl, by decide +kernel, by decide, rfl⟩
set_option maxRecDepth 100000 in
theorem m_M_rows_ok : MOK (m_M_rows, 1, false) := ⟨tt_at 1553 rfl rfl, tt_at 85 rfl rfl, by decide +kernel, by decide +kernel, by decide +kernel, ⟨tt_at 1551 rfl rfl, tt_at 1552 rfl rfl⟩, by decide +kernel, by decide, rfl⟩
set_option maxRecDepth 100000 in
theorem m_M_row_ok : MOK (m_M_row, 3, false) := ⟨tt_at 1568 rfl rfl, tt_at 85 rfl rfl, by decide +kernel, by decide +kernel, by decide +kernel, ⟨tt_at 1566 rfl rfl, tt_at 1567 rfl rfl⟩, by decide +kernel, by decide, rfl⟩
set_option maxRecDepth 100000 in
theorem m_M_quarrel_ok : MOK (m_M_quarrel, 2, false) := ⟨tt_at 1572 rfl rfl, tt_at 85 rfl rfl, by decide +kernel, by decide +kernel, by decide +kernel, ⟨tt_at 1570 rfl rfl, tt_at 1571 rfl rfl⟩, by decide +kernel, by decide, rfl⟩
set_option maxRecDepth 100000 in
theorem m_M_mark_ok : MOK (m_M_mark, 5, false) := ⟨tt_at 1576 rfl rfl, tt_at 85 rfl rfl, by decide +kernel, by decide +kernel, by decide +kernel, ⟨tt_at 1574 rfl rfl, tt_at 1575 rfl rfl⟩, by decide +kernel, by decide, rfl⟩
set_option maxRecDepth 100000 in
theorem m_M_catchesMark_ok : MOK (m_M_catchesMark, 2, false) := ⟨tt_at 1588 rfl rfl, tt_at 85 rfl rfl, by decide +kernel, by decide +kernel, by decide +kernel, ⟨tt_at 1587 rfl rfl, tt_at 68 rfl rfl⟩, by decide +kernel, by decide, rfl⟩
set_option maxRecDepth 100000 in
theorem m_M_caught_ok : MOK (m_M_caught, 2, false) := ⟨tt_at 1584 rfl rfl, tt_at 85 rfl rfl, by decide +kernel, by decide +kernel, by decide +kernel, ⟨tt_at 1583 rfl rfl, tt_at 67 rfl rfl⟩, by decide +kernel, by decide, rfl⟩
set_option maxRecDepth 100000 in
theorem m_M_rule_ok : MOK (m_M_rule, 2, false) := ⟨tt_at 1580 rfl rfl, tt_at 85 rfl rfl, by decide +kernel, by decide +kernel, by decide +kernel, ⟨tt_at 1578 rfl rfl, tt_at 1579 rfl rfl⟩, by decide +kernel, by decide, rfl⟩
set_option maxRecDepth 100000 in
theorem m_M_bits_ok : MOK (m_M_bits, 1, true) := ⟨tt_at 1595 rfl rfl, tt_at 85 rfl rfl, by decide +kernel, by decide +kernel, by decide +kernel, tt_at 1594 rfl rfl, by decide +kernel, by decide, rfl⟩
set_option maxRecDepth 100000 in
theorem m_M_best_ok : MOK (m_M_best, 1, false) := ⟨tt_at 1592 rfl rfl, tt_at 85 rfl rfl, by decide +kernel, by decide +kernel, by decide +kernel, ⟨tt_at 1590 rfl rfl, tt_at 1591 rfl rfl⟩, by decide +kernel, by decide, rfl⟩
set_option maxRecDepth 100000 in
theorem m_M_isLike_ok : MOK (m_M_isLike, 3, false) := ⟨tt_at 1610 rfl rfl, tt_at 85 rfl rfl, by decide +kernel, by decide +kernel, by decide +kernel, ⟨tt_at 1609 rfl rfl, tt_at 70 rfl rfl⟩, by decide +kernel, by decide, rfl⟩
set_option maxRecDepth 100000 in
theorem m_M_least_ok : MOK (m_M_least, 2, true) := ⟨tt_at 1606 rfl rfl, tt_at 85 rfl rfl, by decide +kernel, by decide +kernel, by decide +kernel, tt_at 1605 rfl rfl, by decide +kernel, by decide, rfl⟩
set_option maxRecDepth 100000 in
theorem m_M_wordAt_ok : MOK (m_M_wordAt, 2, false) := ⟨tt_at 1603 rfl rfl, tt_at 85 rfl rfl, by decide +kernel, by decide +kernel, by decide +kernel, ⟨tt_at 1602 rfl rfl, tt_at 69 rfl rfl⟩, by decide +kernel, by decide, rfl⟩
set_option maxRecDepth 100000 in
theorem m_M_learn_ok : MOK (m_M_learn, 1, false) := ⟨tt_at 1599 rfl rfl, tt_at 85 rfl rfl, by decide +kernel, by decide +kernel, by decide +kernel, ⟨tt_at 1597 rfl rfl, tt_at 1598 rfl rfl⟩, by decide +kernel, by decide, rfl⟩
set_option maxRecDepth 100000 in
theorem m_M_learnt_ok : MOK (m_M_learnt, 2, false) := ⟨tt_at 1614 rfl rfl, tt_at 85 rfl rfl, by decide +kernel, by decide +kernel, by decide +kernel, ⟨tt_at 1612 rfl rfl, tt_at 1613 rfl rfl⟩, by decide +kernel, by decide, rfl⟩
set_option maxRecDepth 100000 in
theorem m_M_catches_ok : MOK (m_M_catches, 1, false) := ⟨tt_at 1618 rfl rfl, tt_at 85 rfl rfl, by decide +kernel, by decide +kernel, by decide +kernel, ⟨tt_at 1616 rfl rfl, tt_at 1617 rfl rfl⟩, by decide +kernel, by decide, rfl⟩
set_option maxRecDepth 100000 in
theorem m_M_count_ok : MOK (m_M_count, 1, false) := ⟨tt_at 1622 rfl rfl, tt_at 85 rfl rfl, by decide +kernel, by decide +kernel, by decide +kernel, ⟨tt_at 1620 rfl rfl, tt_at 1621 rfl rfl⟩, by decide +kernel, by decide, rfl⟩
set_option maxRecDepth 100000 in
theorem m_M_barredFinds_ok : MOK (m_M_barredFinds, 0, false) := ⟨tt_at 1626 rfl rfl, tt_at 85 rfl rfl, by decide +kernel, by decide +kernel, by decide +kernel, ⟨tt_at 1625 rfl rfl, tt_at 71 rfl rfl⟩, by decide +kernel, by decide, rfl⟩
set_option maxRecDepth 100000 in
theorem m_Integer_bitCount_ok : MOK (m_Integer_bitCount, 1, true) := ⟨tt_at 848 rfl rfl, tt_at 92 rfl rfl, by decide +kernel, by decide +kernel, by decide +kernel, tt_at 847 rfl rfl, by decide +kernel, by decide, rfl⟩
set_option maxRecDepth 100000 in
theorem m_Long_bitCount_ok : MOK (m_Long_bitCount, 1, true) := ⟨tt_at 948 rfl rfl, tt_at 94 rfl rfl, by decide +kernel, by decide +kernel, by decide +kernel, tt_at 947 rfl rfl, by decide +kernel, by decide, rfl⟩
set_option maxRecDepth 100000 in
theorem m_Arrays_fill_ok : MOK (m_Arrays_fill, 2, true) := ⟨tt_at 895 rfl rfl, tt_at 93 rfl rfl, by decide +kernel, by decide +kernel, by decide +kernel, tt_at 894 rfl rfl, by decide +kernel, by decide, rfl⟩
set_option maxRecDepth 100000 in
theorem m_String_length_ok : MOK (m_String_length, 0, false) := ⟨tt_at 573 rfl rfl, tt_at 87 rfl rfl, by decide +kernel, by decide +kernel, by decide +kernel, ⟨tt_at 571 rfl rfl, tt_at 572 rfl rfl⟩, by decide +kernel, by decide, rfl⟩
set_option maxRecDepth 100000 in
theorem m_String_charAt_ok : MOK (m_String_charAt, 1, false) := ⟨tt_at 583 rfl rfl, tt_at 87 rfl rfl, by decide +kernel, by decide +kernel, by decide +kernel, ⟨tt_at 581 rfl rfl, tt_at 582 rfl rfl⟩, by decide +kernel, by decide, rfl⟩
set_option maxRecDepth 100000 in
theorem MT_ok : ∀ q ∈ MT, MOK q := List.forall_mem_cons.mpr ⟨m_BestSet_setCaught_ok, List.forall_mem_cons.mpr ⟨m_BestSet_choose_ok, List.forall_mem_cons.mpr ⟨m_BestSet_tryFrom_ok, List.forall_mem_cons.mpr ⟨m_BestSet_weigh_ok, List.forall_mem_cons.mpr ⟨m_Book_clear_ok, List.forall_mem_cons.mpr ⟨m_Book_become_ok, List.forall_mem_cons.mpr ⟨m_Book_openRule_ok, List.forall_mem_cons.mpr ⟨m_Book_openRuleHas_ok, List.forall_mem_cons.mpr ⟨m_Book_addItem_ok, List.forall_mem_cons.mpr ⟨m_Book_closeRule_ok, List.forall_mem_cons.mpr ⟨m_Book_addBar_ok, List.forall_mem_cons.mpr ⟨m_Book_addChain_ok, List.forall_mem_cons.mpr ⟨m_Book_addSingle_ok, List.forall_mem_cons.mpr ⟨m_Book_rules_ok, List.forall_mem_cons.mpr ⟨m_Book_bars_ok, List.forall_mem_cons.mpr ⟨m_Book_chains_ok, List.forall_mem_cons.mpr ⟨m_Book_hasRule_ok, List.forall_mem_cons.mpr ⟨m_Book_relationOf_ok, List.forall_mem_cons.mpr ⟨m_Book_itemsOf_ok, List.forall_mem_cons.mpr ⟨m_Book_leftItem_ok, List.forall_mem_cons.mpr ⟨m_Book_rightItem_ok, List.forall_mem_cons.mpr ⟨m_Book_kindOf_ok, List.forall_mem_cons.mpr ⟨m_Book_numberOf_ok, List.forall_mem_cons.mpr ⟨m_Book_hasItem_ok, List.forall_mem_cons.mpr ⟨m_Book_isBarred_ok, List.forall_mem_cons.mpr ⟨m_Book_chainGoal_ok, List.forall_mem_cons.mpr ⟨m_Book_chainFirst_ok, List.forall_mem_cons.mpr ⟨m_Book_chainSecond_ok, List.forall_mem_cons.mpr ⟨m_Book_isSingle_ok, List.forall_mem_cons.mpr ⟨m_Finder_forget_ok, List.forall_mem_cons.mpr ⟨m_Finder_forgetThoseWith_ok, List.forall_mem_cons.mpr ⟨m_Finder_forgetAll_ok, List.forall_mem_cons.mpr ⟨m_Finder_refresh_ok, List.forall_mem_cons.mpr ⟨m_Finder_drawSentence_ok, List.forall_mem_cons.mpr ⟨m_Finder_clearSentence_ok, List.forall_mem_cons.mpr ⟨m_Finder_hasBarredWord_ok, List.forall_mem_cons.mpr ⟨m_Finder_drawRule_ok, List.forall_mem_cons.mpr ⟨m_Finder_fitItems_ok, List.forall_mem_cons.mpr ⟨m_Finder_placesOf_ok, List.forall_mem_cons.mpr ⟨m_Finder_forward_ok, List.forall_mem_cons.mpr ⟨m_Finder_backward_ok, List.forall_mem_cons.mpr ⟨m_Finder_keepPairs_ok, List.forall_mem_cons.mpr ⟨m_Finder_countPairs_ok, List.forall_mem_cons.mpr ⟨m_Finder_rightPlaces_ok, List.forall_mem_cons.mpr ⟨m_Finder_isBarred_ok, List.forall_mem_cons.mpr ⟨m_Finder_has_ok, List.forall_mem_cons.mpr ⟨m_Finder_total_ok, List.forall_mem_cons.mpr ⟨m_Finder_totalOfRule_ok, List.forall_mem_cons.mpr ⟨m_Finder_tellOf_ok, List.forall_mem_cons.mpr ⟨m_Finder_tellWithin_ok, List.forall_mem_cons.mpr ⟨m_Finder_part_ok, List.forall_mem_cons.mpr ⟨m_Lesson_study_ok, List.forall_mem_cons.mpr ⟨m_Lesson_begin_ok, List.forall_mem_cons.mpr ⟨m_Lesson_isLike_ok, List.forall_mem_cons.mpr ⟨m_Lesson_wordAt_ok, List.forall_mem_cons.mpr ⟨m_Lesson_widen_ok, List.forall_mem_cons.mpr ⟨m_Lesson_tellOf_ok, List.forall_mem_cons.mpr ⟨m_Lesson_roleOf_ok, List.forall_mem_cons.mpr ⟨m_Lesson_caught_ok, List.forall_mem_cons.mpr ⟨m_Lesson_standsAt_ok, List.forall_mem_cons.mpr ⟨m_Lexicon_has_ok, List.forall_mem_cons.mpr ⟨m_Lexicon_setSort_ok, List.forall_mem_cons.mpr ⟨m_Lexicon_sortOf_ok, List.forall_mem_cons.mpr ⟨m_Lexicon_link_ok, List.forall_mem_cons.mpr ⟨m_Lexicon_leadsTo_ok, List.forall_mem_cons.mpr ⟨m_Lexicon_nameOf_ok, List.forall_mem_cons.mpr ⟨m_Lexicon_fits_ok, List.forall_mem_cons.mpr ⟨m_Marks_put_ok, List.forall_mem_cons.mpr ⟨m_Marks_indexOf_ok, List.forall_mem_cons.mpr ⟨m_Marks_size_ok, List.forall_mem_cons.mpr ⟨m_Marks_isUsable_ok, List.forall_mem_cons.mpr ⟨m_Marks_sentenceOf_ok, List.forall_mem_cons.mpr ⟨m_Marks_leftOf_ok, List.forall_mem_cons.mpr ⟨m_Marks_rightOf_ok, List.forall_mem_cons.mpr ⟨m_Marks_caughtBy_ok, List.forall_mem_cons.mpr ⟨m_Marks_shareOf_ok, List.forall_mem_cons.mpr ⟨m_Reader_draft_ok, List.forall_mem_cons.mpr ⟨m_Reader_read_ok, List.forall_mem_cons.mpr ⟨m_Reader_readRule_ok, List.forall_mem_cons.mpr ⟨m_Reader_readItem_ok, List.forall_mem_cons.mpr ⟨m_Reader_isSpec_ok, List.forall_mem_cons.mpr ⟨m_Reader_readSpec_ok, List.forall_mem_cons.mpr ⟨m_Reader_readBar_ok, List.forall_mem_cons.mpr ⟨m_Reader_readChain_ok, List.forall_mem_cons.mpr ⟨m_Reader_readSingle_ok, List.forall_mem_cons.mpr ⟨m_Reader_readNumber_ok, List.forall_mem_cons.mpr ⟨m_Reader_readSign_ok, List.forall_mem_cons.mpr ⟨m_Reader_fail_ok, List.forall_mem_cons.mpr ⟨m_Sentences_tell_ok, List.forall_mem_cons.mpr ⟨m_Sentences_close_ok, List.forall_mem_cons.mpr ⟨m_Sentences_remove_ok, List.forall_mem_cons.mpr ⟨m_Sentences_isThere_ok, List.forall_mem_cons.mpr ⟨m_Sentences_lengthOf_ok, List.forall_mem_cons.mpr ⟨m_Sentences_wordAt_ok, List.forall_mem_cons.mpr ⟨m_Sentences_told_ok, List.forall_mem_cons.mpr ⟨m_Sentences_came_ok, List.forall_mem_cons.mpr ⟨m_Sentences_present_ok, List.forall_mem_cons.mpr ⟨m_Table_forget_ok, List.forall_mem_cons.mpr ⟨m_Table_refresh_ok, List.forall_mem_cons.mpr ⟨m_Table_addFindsOf_ok, List.forall_mem_cons.mpr ⟨m_Table_nameAt_ok, List.forall_mem_cons.mpr ⟨m_Table_addRow_ok, List.forall_mem_cons.mpr ⟨m_Table_followChains_ok, List.forall_mem_cons.mpr ⟨m_Table_followChain_ok, List.forall_mem_cons.mpr ⟨m_Table_followFrom_ok, List.forall_mem_cons.mpr ⟨m_Table_hasRow_ok, List.forall_mem_cons.mpr ⟨m_Table_degree_ok, List.forall_mem_cons.mpr ⟨m_Table_size_ok, List.forall_mem_cons.mpr ⟨m_Table_name_ok, List.forall_mem_cons.mpr ⟨m_Table_secondName_ok, List.forall_mem_cons.mpr ⟨m_Table_quarrelling_ok, List.forall_mem_cons.mpr ⟨m_Tape_put_ok, List.forall_mem_cons.mpr ⟨m_Tape_isKnown_ok, List.forall_mem_cons.mpr ⟨m_Tape_length_ok, List.forall_mem_cons.mpr ⟨m_Tape_at_ok, List.forall_mem_cons.mpr ⟨m_Tape_clear_ok, List.forall_mem_cons.mpr ⟨m_Tokens_scan_ok, List.forall_mem_cons.mpr ⟨m_Tokens_add_ok, List.forall_mem_cons.mpr ⟨m_Tokens_code_ok, List.forall_mem_cons.mpr ⟨m_Tokens_place_ok, List.forall_mem_cons.mpr ⟨m_Tokens_advance_ok, List.forall_mem_cons.mpr ⟨m_Tokens_goesOn_ok, List.forall_mem_cons.mpr ⟨m_Tokens_codeAt_ok, List.forall_mem_cons.mpr ⟨m_Tokens_numberCode_ok, List.forall_mem_cons.mpr ⟨m_Tokens_wordCode_ok, List.forall_mem_cons.mpr ⟨m_Tokens_sWordCode_ok, List.forall_mem_cons.mpr ⟨m_Tokens_stands_ok, List.forall_mem_cons.mpr ⟨m_Tokens_isBlank_ok, List.forall_mem_cons.mpr ⟨m_Tokens_isLetter_ok, List.forall_mem_cons.mpr ⟨m_Tokens_isDigit_ok, List.forall_mem_cons.mpr ⟨m_D_sort_ok, List.forall_mem_cons.mpr ⟨m_D_join_ok, List.forall_mem_cons.mpr ⟨m_D_word_ok, List.forall_mem_cons.mpr ⟨m_D_sentence_ok, List.forall_mem_cons.mpr ⟨m_D_take_ok, List.forall_mem_cons.mpr ⟨m_D_feed_ok, List.forall_mem_cons.mpr ⟨m_D_text_ok, List.forall_mem_cons.mpr ⟨m_D_finds_ok, List.forall_mem_cons.mpr ⟨m_D_find_ok, List.forall_mem_cons.mpr ⟨m_D_rows_ok, List.forall_mem_cons.mpr ⟨m_D_row_ok, List.forall_mem_cons.mpr ⟨m_D_quarrel_ok, List.forall_mem_cons.mpr ⟨m_D_mark_ok, List.forall_mem_cons.mpr ⟨m_D_best_ok, List.forall_mem_cons.mpr ⟨m_D_learn_ok, List.forall_mem_cons.mpr ⟨m_D_learnt_ok, List.forall_mem_cons.mpr ⟨m_D_catches_ok, List.forall_mem_cons.mpr ⟨m_D_named_ok, List.forall_mem_cons.mpr ⟨m_D_count_ok, List.forall_mem_cons.mpr ⟨m_D_isRelation_ok, List.forall_mem_cons.mpr ⟨m_M_thrown_ok, List.forall_mem_cons.mpr ⟨m_M_feed_ok, List.forall_mem_cons.mpr ⟨m_M_lay_ok, List.forall_mem_cons.mpr ⟨m_M_isLetter_ok, List.forall_mem_cons.mpr ⟨m_M_isDigit_ok, List.forall_mem_cons.mpr ⟨m_M_rank_ok, List.forall_mem_cons.mpr ⟨m_M_isSignOf_ok, List.forall_mem_cons.mpr ⟨m_M_cutAll_ok, List.forall_mem_cons.mpr ⟨m_M_wrong_ok, List.forall_mem_cons.mpr ⟨m_M_isSign_ok, List.forall_mem_cons.mpr ⟨m_M_isWord_ok, List.forall_mem_cons.mpr ⟨m_M_takeSign_ok, List.forall_mem_cons.mpr ⟨m_M_hasWord_ok, List.forall_mem_cons.mpr ⟨m_M_takeWord_ok, List.forall_mem_cons.mpr ⟨m_M_takeNumber_ok, List.forall_mem_cons.mpr ⟨m_M_text_ok, List.forall_mem_cons.mpr ⟨m_M_statement_ok, List.forall_mem_cons.mpr ⟨m_M_readChain_ok, List.forall_mem_cons.mpr ⟨m_M_readRule_ok, List.forall_mem_cons.mpr ⟨m_M_isItem_ok, List.forall_mem_cons.mpr ⟨m_M_item_ok, List.forall_mem_cons.mpr ⟨m_M_spec_ok, List.forall_mem_cons.mpr ⟨m_M_isOne_ok, List.forall_mem_cons.mpr ⟨m_M_sort_ok, List.forall_mem_cons.mpr ⟨m_M_nameOf_ok, List.forall_mem_cons.mpr ⟨m_M_join_ok, List.forall_mem_cons.mpr ⟨m_M_named_ok, List.forall_mem_cons.mpr ⟨m_M_word_ok, List.forall_mem_cons.mpr ⟨m_M_sentence_ok, List.forall_mem_cons.mpr ⟨m_M_isThere_ok, List.forall_mem_cons.mpr ⟨m_M_take_ok, List.forall_mem_cons.mpr ⟨m_M_fits_ok, List.forall_mem_cons.mpr ⟨m_M_findOf_ok, List.forall_mem_cons.mpr ⟨m_M_findAll_ok, List.forall_mem_cons.mpr ⟨m_M_matches_ok, List.forall_mem_cons.mpr ⟨m_M_goes_ok, List.forall_mem_cons.mpr ⟨m_M_isBarred_ok, List.forall_mem_cons.mpr ⟨m_M_finds_ok, List.forall_mem_cons.mpr ⟨m_M_find_ok, List.forall_mem_cons.mpr ⟨m_M_findRows_ok, List.forall_mem_cons.mpr ⟨m_M_joins_ok, List.forall_mem_cons.mpr ⟨m_M_isR_ok, List.forall_mem_cons.mpr ⟨m_M_rows_ok, List.forall_mem_cons.mpr ⟨m_M_row_ok, List.forall_mem_cons.mpr ⟨m_M_quarrel_ok, List.forall_mem_cons.mpr ⟨m_M_mark_ok, List.forall_mem_cons.mpr ⟨m_M_catchesMark_ok, List.forall_mem_cons.mpr ⟨m_M_caught_ok, List.forall_mem_cons.mpr ⟨m_M_rule_ok, List.forall_mem_cons.mpr ⟨m_M_bits_ok, List.forall_mem_cons.mpr ⟨m_M_best_ok, List.forall_mem_cons.mpr ⟨m_M_isLike_ok, List.forall_mem_cons.mpr ⟨m_M_least_ok, List.forall_mem_cons.mpr ⟨m_M_wordAt_ok, List.forall_mem_cons.mpr ⟨m_M_learn_ok, List.forall_mem_cons.mpr ⟨m_M_learnt_ok, List.forall_mem_cons.mpr ⟨m_M_catches_ok, List.forall_mem_cons.mpr ⟨m_M_count_ok, List.forall_mem_cons.mpr ⟨m_M_barredFinds_ok, List.forall_mem_cons.mpr ⟨m_Integer_bitCount_ok, List.forall_mem_cons.mpr ⟨m_Long_bitCount_ok, List.forall_mem_cons.mpr ⟨m_Arrays_fill_ok, List.forall_mem_cons.mpr ⟨m_String_length_ok, List.forall_mem_cons.mpr ⟨m_String_charAt_ok, fun _ h => absurd h List.not_mem_nil⟩⟩⟩⟩⟩⟩⟩⟩⟩⟩⟩⟩⟩⟩⟩⟩⟩⟩⟩⟩⟩⟩⟩⟩⟩⟩⟩⟩⟩⟩⟩⟩⟩⟩⟩⟩⟩⟩⟩⟩⟩⟩⟩⟩⟩⟩⟩⟩⟩⟩⟩⟩⟩⟩⟩⟩⟩⟩⟩⟩⟩⟩⟩⟩⟩⟩⟩⟩⟩⟩⟩⟩⟩⟩⟩⟩⟩⟩⟩⟩⟩⟩⟩⟩⟩⟩⟩⟩⟩⟩⟩⟩⟩⟩⟩⟩⟩⟩⟩⟩⟩⟩⟩⟩⟩⟩⟩⟩⟩⟩⟩⟩⟩⟩⟩⟩⟩⟩⟩⟩⟩⟩⟩⟩⟩⟩⟩⟩⟩⟩⟩⟩⟩⟩⟩⟩⟩⟩⟩⟩⟩⟩⟩⟩⟩⟩⟩⟩⟩⟩⟩⟩⟩⟩⟩⟩⟩⟩⟩⟩⟩⟩⟩⟩⟩⟩⟩⟩⟩⟩⟩⟩⟩⟩⟩⟩⟩⟩⟩⟩⟩⟩⟩⟩⟩⟩⟩⟩⟩⟩⟩⟩⟩⟩⟩⟩⟩⟩⟩⟩⟩⟩⟩⟩⟩⟩⟩⟩⟩⟩⟩⟩⟩⟩
end
section
/-! THE MACHINE OVER NUMBERED CELLS. World: what the cells hold (ints by cell and place; longs by cell and place). -/
abbrev Wd : Type := (Nat → Nat → Int32) × (Nat → Nat → Int64)
def cv (ad : Nat → Nat) : Value → Value
  | .ref i => .ref (ad i)
  | v => v
theorem cv_cat (ad : Nat → Nat) (v : Value) : (cv ad v).category = v.category := by cases v <;> rfl
def lvc (ad : Nat → Nat) (lv : List (Nat × Value)) : List (Nat × Value) := lv.map (fun q => (q.1, cv ad q.2))
def fv (ad : Nat → Nat) (w : Wd) (a : Nat) (k : Nat) (o : Option Nat) : Value := match o with
  | some r => .ref (ad r)
  | none => .int (w.1 a k)
def cont (ad : Nat → Nat) (cA : FieldType → ClassId) (w : Wd) (a : Nat) (x : Shp) : va_E := match x with
  | .inl (ci, fs) => .inr (ci, fs.mapIdx (fv ad w a))
  | .inr (.long, n) => .inl (cA .long, n, .inr (.inl (w.2 a)))
  | .inr (ty, n) => .inl (cA ty, n, .inl (w.1 a))
def wsl (ad : Nat → Nat) (cA : FieldType → ClassId) (w : Wd) : va_W := shp.mapIdx (fun a x => (ad a, cont ad cA w a x))
theorem wsl_at {ad : Nat → Nat} {cA : FieldType → ClassId} {w : Wd} {a : Nat} {x : Shp} (h : shp[a]? = some x) : (wsl ad cA w)[a]? = some (ad a, cont ad cA w a x) := by
  simp [wsl, List.getElem?_mapIdx, h]
def up1 (w : Wd) (a k : Nat) (v : Int32) : Wd := (fun b j => if b = a ∧ j = k then v else w.1 b j, w.2)
def up2 (w : Wd) (a k : Nat) (v : Int64) : Wd := (w.1, fun b j => if b = a ∧ j = k then v else w.2 b j)
def upA (w : Wd) (a : Nat) (f : Nat → Int32) : Wd := (fun b j => if b = a then f j else w.1 b j, w.2)
theorem cont_congr {ad : Nat → Nat} {cA : FieldType → ClassId} {w w' : Wd} {a : Nat} (h1 : w'.1 a = w.1 a) (h2 : w'.2 a = w.2 a) (x : Shp) : cont ad cA w' a x = cont ad cA w a x := by
  have h3 : fv ad w' a = fv ad w a := by
    funext k o
    cases o with
    | none => simp [fv, h1]
    | some r => rfl
  rcases x with ⟨ci, fs⟩ | ⟨ty, n⟩
  · simp [cont, h3]
  · cases ty <;> simp [cont, h1, h2]
theorem wsl_set {ad : Nat → Nat} {cA : FieldType → ClassId} {w w' : Wd} {a : Nat} {x : Shp} {y : va_E} (h : shp[a]? = some x) (hy : y = cont ad cA w' a x) (h1 : ∀ b, b ≠ a → w'.1 b = w.1 b) (h2 : ∀ b, b ≠ a → w'.2 b = w.2 b) : (wsl ad cA w).set a (ad a, y) = wsl ad cA w' := by
  subst hy
  have hl : a < shp.length := (List.getElem?_eq_some_iff.mp h).1
  apply List.ext_getElem?
  intro b
  by_cases hb : b = a
  · subst hb
    rw [List.getElem?_set_self (by simpa [wsl] using hl), wsl_at h]
  · rw [List.getElem?_set_ne (Ne.symm hb)]
    cases hx : shp[b]? with
    | none => simp [wsl, List.getElem?_mapIdx, hx]
    | some z => rw [wsl_at hx, wsl_at hx, cont_congr (h1 b hb) (h2 b hb)]
theorem up1_off {w : Wd} {a k : Nat} {v : Int32} : ∀ b, b ≠ a → (up1 w a k v).1 b = w.1 b := by
  intro b hb
  funext j
  simp [up1, hb]
theorem up2_off {w : Wd} {a k : Nat} {v : Int64} : ∀ b, b ≠ a → (up2 w a k v).2 b = w.2 b := by
  intro b hb
  funext j
  simp [up2, hb]
theorem up1_on {w : Wd} {a k : Nat} {v : Int32} : (up1 w a k v).1 a = upd (w.1 a) k v := by
  funext j
  simp [up1, upd]
theorem up2_on {w : Wd} {a k : Nat} {v : Int64} : (up2 w a k v).2 a = vp_updL (w.2 a) k v := by
  funext j
  simp [up2, vp_updL]
theorem set_fld {ad : Nat → Nat} {w : Wd} {a k : Nat} {fs : List (Option Nat)} (h : fs[k]? = some none) (v : Int32) : (fs.mapIdx (fv ad w a)).set k (.int v) = fs.mapIdx (fv ad (up1 w a k v) a) := by
  have hl : k < fs.length := (List.getElem?_eq_some_iff.mp h).1
  apply List.ext_getElem?
  intro b
  by_cases hb : b = k
  · subst hb
    rw [List.getElem?_set_self (by simpa using hl), List.getElem?_mapIdx, h]
    simp [fv, up1]
  · rw [List.getElem?_set_ne (Ne.symm hb), List.getElem?_mapIdx, List.getElem?_mapIdx]
    cases hx : fs[b]? with
    | none => rfl
    | some o =>
      cases o with
      | none => simp [fv, up1, hb]
      | some r => rfl
def AA (ad : Nat → Nat) (sz : Nat) : Nat → Prop := fun q => (∃ i, i < NS ∧ q = ad i) ∨ sz ≤ q
def Inj (ad : Nat → Nat) : Prop := ∀ i j, i < NS → j < NS → ad i = ad j → i = j
theorem wsl_lt {ad : Nat → Nat} {cA : FieldType → ClassId} {w : Wd} {i : Nat} {q : Nat × va_E} (h : (wsl ad cA w)[i]? = some q) : i < NS ∧ q.1 = ad i := by
  have hl : i < (wsl ad cA w).length := (List.getElem?_eq_some_iff.mp h).1
  have hl2 : i < shp.length := by simpa [wsl] using hl
  refine ⟨by rw [← shp_len]; exact hl2, ?_⟩
  have hx : shp[i]? = some shp[i] := List.getElem?_eq_getElem hl2
  rw [wsl_at hx] at h
  cases h
  rfl
theorem wsl_D {ad : Nat → Nat} {cA : FieldType → ClassId} {w : Wd} {sz : Nat} (h : Inj ad) : va_D (AA ad sz) (wsl ad cA w) := by
  refine ⟨fun i j x y hi hj e => ?_, fun k q hk => ?_⟩
  · obtain ⟨a1, a2⟩ := wsl_lt hi
    obtain ⟨b1, b2⟩ := wsl_lt hj
    exact h i j a1 b1 (by rw [← a2, ← b2]; exact e)
  · obtain ⟨a1, a2⟩ := wsl_lt hk
    exact Or.inl ⟨k, a1, a2⟩
/-- the types of arrays, with their classes -/
def tysA (cA : FieldType → ClassId) : List (ClassId × FieldType) := [(cA .int, .int), (cA .boolean, .boolean), (cA .char, .char), (cA .long, .long)]
def sIdx : Nat → Nat := fun k => [63, 69, 71, 73, 75, 77, 84, 86, 88, 82].getD k 0
def sTxt : Nat → String := fun k => ["any", "bar", "chain", "left", "rule", "right", "some", "sort", "single", "word"].getD k ""
def sLen : List Nat := [3, 3, 5, 4, 4, 5, 4, 4, 6, 4]
def sByt : List (List Int32) := [[97, 110, 121], [98, 97, 114], [99, 104, 97, 105, 110], [108, 101, 102, 116], [114, 117, 108, 101], [114, 105, 103, 104, 116], [115, 111, 109, 101], [115, 111, 114, 116], [115, 105, 110, 103, 108, 101], [119, 111, 114, 100]]
/-- what stays: the classes, the nest's links, the ten words as String constants, the static that String reads -/
def Fx (G : va_G) (cA : FieldType → ClassId) (ad : Nat → Nat) (sz : Nat) (U : State) : Prop :=
  va_K G vwCl (tysA cA) U ∧ (∀ q ∈ nestL, va_Nw (.methodLinkNest q.1 q.2.1 q.2.2.1 q.2.2.2) U) ∧ (∀ k, k < 10 → vk_R "RowDrawer$Tokens" (sIdx k) (sTxt k) (ad (200 + k)) U) ∧
  vk_S 10 sLen sByt (fun k => ad (200 + k)) (fun k => ad (300 + k)) (AA ad sz) U U.heap ∧ va_Z "java/lang/String" "COMPACT_STRINGS" "Z" (.int 1) (AA ad sz) U U.heap
theorem Fx.go {G : va_G} {cA : FieldType → ClassId} {ad : Nat → Nat} {s U : State} {H : Heap} {locs : List Loc} (h : Fx G cA ad s.heap.size s) (hS : va_S (AA ad s.heap.size) s.heap H locs) (hU : U.heap = H) (hW : s.WarmedH U.vm) : Fx G cA ad H.size U := by
  obtain ⟨h1, h2, h3, h4, h5⟩ := h
  have hn : ∀ q, AA ad H.size q → AA ad s.heap.size q := fun q hq => hq.elim Or.inl (fun z => Or.inr (Nat.le_trans hS.1 z))
  refine ⟨va_K.moved hW.alike h1, fun q hq => va_Nw.warmM hW (h2 q hq), fun k hk => (h3 k hk).warm hW, ?_, ?_⟩
  · rw [hU]
    exact ((h4.kept hS.2.1).moved hW.alike).narrow hn
  · rw [hU]
    exact ((va_Z.kept h5 hS.2.1).moved hW.alike).narrow hn
theorem Fx.calling {G : va_G} {cA : FieldType → ClassId} {ad : Nat → Nat} {sz : Nat} {U : State} (g : JFrame) (mk : MethodId) (a : Array Value) (h : Fx G cA ad sz U) : Fx G cA ad sz (U.calling g mk a) := by
  obtain ⟨h1, h2, h3, h4, h5⟩ := h
  refine ⟨va_K.moved (u := U) (U := U.calling g mk a) (Vm.Alike.refl U.vm) h1, fun q hq => va_Nw.same (u := U) (U := U.calling g mk a) rfl rfl (h2 q hq), fun k hk => vk_R.same (u := U) (U := U.calling g mk a) rfl (h3 k hk), ?_, ?_⟩
  · exact vk_S.moved (u := U) (U := U.calling g mk a) (Vm.Alike.refl U.vm) h4
  · exact va_Z.moved (u := U) (U := U.calling g mk a) (Vm.Alike.refl U.vm) h5
def wsM (μ : MI) : List Cond := Cond.code (mY μ) (mB μ) (mL μ) (mR μ) :: TT
def rmD (d : Nat) : Room := { frames := d, cells := 0, slots := 0, locals := 40 * d }
def Pw (G : va_G) (cA : FieldType → ClassId) (ad : Nat → Nat) (sz : Nat) (as : List Value) (w : Wd) : Array Value → State → Prop :=
  va_Pc (as.map (cv ad)) (fun U => U.heap.size = sz ∧ va_P G vwCl (wsl ad cA w) U.heap ∧ Fx G cA ad sz U ∧ Inj ad)
def Qw (G : va_G) (cA : FieldType → ClassId) (ad : Nat → Nat) (sz : Nat) (Q : Option Value → Wd → Prop) : Array Value → State → Outcome → State → Prop :=
  fun _ st oc t => (∃ (r : Option Value) (w' : Wd), oc = .returned (r.map (cv ad)) ∧ Q r w' ∧ va_P G vwCl (wsl ad cA w') t.heap) ∧ va_F (AA ad sz) st t
/-- THE CONTRACT of a method at a world: it returns, and 'Q answer world' -/
def Ev (μ : MI) (d : Nat) (as : List Value) (w : Wd) (Q : Option Value → Wd → Prop) : Prop :=
  ∀ (l : Launch) (G : va_G) (cA : FieldType → ClassId) (ad : Nat → Nat) (sz : Nat), Met l (mY μ) (wsM μ) (rmD d) (Pw G cA ad sz as w) (Qw G cA ad sz Q) 0 0 (AA ad sz)
def Cx (μ : MI) (p : Program) (s : State) (m : MethodId) (args : Array Value) (meth : Method) (c : Code) : Prop :=
  p.tables.exec = Jvm.exec ∧ c.code = mB μ ∧ meth.sig.returnType = mR μ ∧ c.maxLocals = mL μ ∧ s.vm.findClass (mY μ).cls = some m.cls ∧ (∀ w ∈ wsM μ, w.before args s = true) ∧ meth.locks = false
/-- the method goes on from here, and ends with Q -/
def Z (μ : MI) (d : Nat) (Q : Option Value → Wd → Prop) (pc : Nat) (lv : List (Nat × Value)) (st : List Value) (w : Wd) : Prop :=
  ∀ (p : Program) (l : Launch) (e : Env) (s : State) (m : MethodId) (args : Array Value) (below : List Frame) (meth : Method) (c : Code) (G : va_G) (cA : FieldType → ClassId) (ad : Nat → Nat),
    Cx μ p s m args meth c → Fx G cA ad s.heap.size s → Inj ad → ∀ (H : Heap) (locs : List Loc) (ls : Array Slot), va_P G vwCl (wsl ad cA w) H → va_S (AA ad s.heap.size) s.heap H locs → lv_has ls (mL μ) (lvc ad lv) →
    W p l e (rmD d) s m args below meth c H locs 0 0 (MQ below (Qw G cA ad s.heap.size Q) args s 0 0 (AA ad s.heap.size)) (F0 m pc ls (st.map (cv ad)))
theorem sl_len (ad : Nat → Nat) : ∀ as : List Value, (lg_sl (as.map (cv ad))).length = (lg_sl as).length
  | [] => rfl
  | v :: t => by
    have ih := sl_len ad t
    simp only [lg_sl] at ih ⊢
    simp only [List.map_cons, List.flatMap_cons, List.length_append, cv_cat, ih]
    split <;> rfl
/-- a method's contract out of the walk from its entry -/
theorem Ev.ofZ {μ : MI} {d : Nat} {as : List Value} {w : Wd} {Q : Option Value → Wd → Prop} (hy : plainName (mY μ).cls = true) (hn : (lg_sl as).length ≤ mL μ) (h : Z μ d Q 0 (lv_args 0 as) [] w) : Ev μ d as w Q := by
  intro l G cA ad sz
  refine Met.ofW (cc := mB μ) (maxL := mL μ) (ret := mR μ) hy rfl ?_
  intro p e s m args below meth c s₁ B hml hv
  obtain ⟨rfl, hsz, hP, hF, hI⟩ := hv
  subst hsz
  have hts := atoms_spec (ws := wsM μ) B.pre
  have hown : s.vm.findClass (mY μ).cls = some m.cls := findClass_of_methodNamed B.named
  have hsl := sl_len ad as
  have hla : ∀ (i : Nat) (l : List Value), lv_args i (l.map (cv ad)) = lvc ad (lv_args i l) := by
    intro i l
    induction l generalizing i with
    | nil => rfl
    | cons v t ih => simp only [List.map_cons, lv_args, lvc, cv_cat, ih]
  have hl := lv_entry (as.map (cv ad)) (n := mL μ) (by rw [hsl]; exact hn)
  rw [lg_entry_eq]
  rw [hla] at hl
  exact h p l e s m _ below meth c G cA ad ⟨B.exec, B.bytes, B.returns, hml, hown, hts, B.notSynchronized⟩ hF hI _ _ _ hP va_S.rf hl
end
section
/-! ONE STEP, AS A CONDITION: 'stp .. K': the instruction at pc may be taken, and K holds where it leads -/
def lget : List (Nat × Value) → Nat → Option Value
  | [], _ => none
  | q :: t, k => bif Nat.beq q.1 k then some q.2 else lget t k
theorem lget_mem {k : Nat} {v : Value} : ∀ {lv : List (Nat × Value)}, lget lv k = some v → (k, v) ∈ lv
  | [], h => by cases h
  | q :: t, h => by
    unfold lget at h
    cases hb : Nat.beq q.1 k with
    | true =>
      rw [hb] at h
      have e : q.1 = k := Nat.eq_of_beq_eq_true hb
      obtain ⟨a, b⟩ := q
      cases h
      cases e
      exact List.mem_cons_self
    | false =>
      rw [hb] at h
      exact List.mem_cons_of_mem _ (lget_mem h)
def lput1 (lv : List (Nat × Value)) (i : Nat) (v : Value) : List (Nat × Value) := (i, v) :: lv.filter (fun q => !(q.1 == i) && !(q.1 + 1 == i && q.2.category == 2))
def lput2 (lv : List (Nat × Value)) (i : Nat) (v : Value) : List (Nat × Value) := (i, v) :: lv.filter (fun q => !(q.1 == i) && (!(q.1 == i + 1) && !(q.1 + 1 == i && q.2.category == 2)))
def lpick (lv : List (Nat × Value)) (ks : List Nat) : List (Nat × Value) := ks.filterMap (fun k => (lget lv k).map (fun v => (k, v)))
theorem lvc_get {ad : Nat → Nat} {ls : Array Slot} {n k : Nat} {lv : List (Nat × Value)} {v : Value} (h : lv_has ls n (lvc ad lv)) (hg : lget lv k = some v) : ls[k]? = some (.val (cv ad v)) :=
  h.2.2 (k, cv ad v) (List.mem_map.mpr ⟨(k, v), lget_mem hg, rfl⟩)
theorem lvc_filter (ad : Nat → Nat) (f : Nat → Nat → Bool) (lv : List (Nat × Value)) : (lvc ad lv).filter (fun q => f q.1 q.2.category) = lvc ad (lv.filter (fun q => f q.1 q.2.category)) := by
  induction lv with
  | nil => rfl
  | cons q t ih =>
    simp only [lvc, List.map_cons] at ih ⊢
    by_cases hf : f q.1 q.2.category = true
    · rw [List.filter_cons_of_pos (by simpa [cv_cat] using hf), List.filter_cons_of_pos (by simpa using hf), ih]; rfl
    · rw [List.filter_cons_of_neg (by simpa [cv_cat] using hf), List.filter_cons_of_neg (by simpa using hf), ih]
theorem lvc_put1 (ad : Nat → Nat) (lv : List (Nat × Value)) (i : Nat) (v : Value) : (i, cv ad v) :: (lvc ad lv).filter (fun q => !(q.1 == i) && !(q.1 + 1 == i && q.2.category == 2)) = lvc ad (lput1 lv i v) := by
  rw [lvc_filter ad (fun a b => !(a == i) && !(a + 1 == i && b == 2)) lv]; rfl
theorem lvc_put2 (ad : Nat → Nat) (lv : List (Nat × Value)) (i : Nat) (v : Value) : (i, cv ad v) :: (lvc ad lv).filter (fun q => !(q.1 == i) && (!(q.1 == i + 1) && !(q.1 + 1 == i && q.2.category == 2))) = lvc ad (lput2 lv i v) := by
  rw [lvc_filter ad (fun a b => !(a == i) && (!(a == i + 1) && !(a + 1 == i && b == 2))) lv]; rfl
theorem lvc_pick {ad : Nat → Nat} {ls : Array Slot} {n : Nat} {lv : List (Nat × Value)} (ks : List Nat) (h : lv_has ls n (lvc ad lv)) : lv_has ls n (lvc ad (lpick lv ks)) := by
  refine ⟨h.1, h.2.1, fun q hq => ?_⟩
  obtain ⟨q0, h0, rfl⟩ := List.mem_map.mp hq
  obtain ⟨k, -, hk⟩ := List.mem_filterMap.mp h0
  cases hg : lget lv k with
  | none => rw [hg] at hk; cases hk
  | some v =>
    rw [hg] at hk
    cases hk
    exact lvc_get h hg
def iI : Int → Int32
  | .ofNat k => nI k
  | .negSucc k => -nI (k + 1)
theorem iI_eq (n : Int) : Int32.ofInt n = iI n := by
  cases n with
  | ofNat k => exact Int32.toBitVec_inj.mp (by simp [iI, nI, Int32.toBitVec_ofInt])
  | negSucc k => exact Int32.toBitVec_inj.mp (by simp [iI, nI, Int32.toBitVec_ofInt, Int.negSucc_eq, BitVec.ofInt_neg])
theorem iI_toInt {n : Int} (h1 : -2147483648 ≤ n) (h2 : n < 2147483648) : (iI n).toInt = n := by
  rw [← iI_eq, Int32.toInt_ofInt]
  exact Int.bmod_eq_of_le (m := 4294967296) (by omega) (by omega)
theorem iI_b {n : Int} (h1 : -128 ≤ n) (h2 : n < 128) : (Int8.ofInt n).toInt32 = iI n := by
  apply Int32.toInt_inj.mp
  rw [iI_toInt (by omega) (by omega), Int8.toInt_toInt32, Int8.toInt_ofInt]
  exact Int.bmod_eq_of_le (m := 256) (by omega) (by omega)
theorem iI_s {n : Int} (h1 : -32768 ≤ n) (h2 : n < 32768) : (Int16.ofInt n).toInt32 = iI n := by
  apply Int32.toInt_inj.mp
  rw [iI_toInt (by omega) (by omega), Int16.toInt_toInt32, Int16.toInt_ofInt]
  exact Int.bmod_eq_of_le (m := 65536) (by omega) (by omega)
def ldI (lv : List (Nat × Value)) (k : Nat) (f : Int32 → Prop) : Prop := match lget lv k with | some (.int v) => f v | _ => False
def ldL (lv : List (Nat × Value)) (k : Nat) (f : Int64 → Prop) : Prop := match lget lv k with | some (.long v) => f v | _ => False
def ldR (lv : List (Nat × Value)) (k : Nat) (f : Nat → Prop) : Prop := match lget lv k with | some (.ref v) => f v | _ => False
def pI (st : List Value) (f : Int32 → List Value → Prop) : Prop := match st with | .int v :: t => f v t | _ => False
def pL (st : List Value) (f : Int64 → List Value → Prop) : Prop := match st with | .long v :: t => f v t | _ => False
def pR (st : List Value) (f : Nat → List Value → Prop) : Prop := match st with | .ref v :: t => f v t | _ => False
def pIs (st : List Value) (f : Int32 → Prop) : Prop := match st with | [.int v] => f v | _ => False
def ot {α : Type} (o : Option α) (f : α → Prop) : Prop := match o with | some x => f x | none => False
def jp (pc : Nat) (off : Int) (f : Nat → Prop) : Prop := match (pc : Int) + off with | .ofNat t => f t | .negSucc _ => False
def bo (b : Bool) (P : Prop) : Prop := match b with | true => P | false => False
def tget {α : Type} : List (Nat × α) → Nat → Option α
  | [], _ => none
  | q :: t, k => bif Nat.beq q.1 k then some q.2 else tget t k
theorem tget_mem {α : Type} {k : Nat} {v : α} : ∀ {l : List (Nat × α)}, tget l k = some v → (k, v) ∈ l
  | [], h => by cases h
  | q :: t, h => by
    unfold tget at h
    cases hb : Nat.beq q.1 k with
    | true =>
      rw [hb] at h
      have e : q.1 = k := Nat.eq_of_beq_eq_true hb
      obtain ⟨a, b⟩ := q
      cases h
      cases e
      exact List.mem_cons_self
    | false =>
      rw [hb] at h
      exact List.mem_cons_of_mem _ (tget_mem h)
/-- field k of cell a, if that is an object of class ci -/
def gv (w : Wd) (a ci k : Nat) : Option Value := match shp[a]? with
  | some (.inl (c2, fs)) => bif Nat.beq c2 ci then (match fs[k]? with | some (some r) => some (.ref r) | some none => some (.int (w.1 a k)) | none => none) else none
  | _ => none
def gp (a ci k : Nat) : Bool := match shp[a]? with
  | some (.inl (c2, fs)) => Nat.beq c2 ci && (match fs[k]? with | some none => true | _ => false)
  | _ => false
/-- the array a: its type and length -/
def ga (a : Nat) : Option (FieldType × Nat) := match shp[a]? with
  | some (.inr q) => some q
  | _ => none
def isC (a ci : Nat) : Bool := match shp[a]? with
  | some (.inl (c2, _)) => Nat.beq c2 ci
  | _ => false
def cT (c : ClassFile.Cond) (x y : Int32) : Prop := match c with
  | .eq => x = y | .ne => ¬ x = y | .lt => x < y | .ge => y ≤ x | .gt => y < x | .le => x ≤ y
def cF (c : ClassFile.Cond) (x y : Int32) : Prop := match c with
  | .eq => ¬ x = y | .ne => x = y | .lt => ¬ x < y | .ge => ¬ y ≤ x | .gt => ¬ y < x | .le => ¬ x ≤ y
def tkA : Nat → List Value → List Value → Option (List Value × List Value)
  | 0, st, acc => some (acc, st)
  | n + 1, v :: st, acc => tkA n st (v :: acc)
  | _ + 1, [], _ => none
theorem tkA_spec : ∀ (n : Nat) (st acc as rest : List Value), tkA n st acc = some (as, rest) → ∃ bs, as = bs ++ acc ∧ st = bs.reverse ++ rest ∧ bs.length = n
  | 0, st, acc, as, rest, h => by
    cases h
    exact ⟨[], rfl, rfl, rfl⟩
  | n + 1, [], acc, as, rest, h => by cases h
  | n + 1, v :: st, acc, as, rest, h => by
    obtain ⟨bs, h1, h2, h3⟩ := tkA_spec n st (v :: acc) as rest h
    exact ⟨bs ++ [v], by rw [h1]; simp, by rw [h2]; simp, by simp [h3]⟩
def qI (Q : Int32 → Wd → Prop) : Option Value → Wd → Prop := fun r w => match r with | some (.int x) => Q x w | _ => False
def qL (Q : Int64 → Wd → Prop) : Option Value → Wd → Prop := fun r w => match r with | some (.long x) => Q x w | _ => False
def qR (Q : Nat → Wd → Prop) : Option Value → Wd → Prop := fun r w => match r with | some (.ref x) => Q x w | _ => False
def qV (Q : Wd → Prop) : Option Value → Wd → Prop := fun r w => match r with | none => Q w | _ => False
abbrev EvI (μ : MI) (d : Nat) (as : List Value) (w : Wd) (Q : Int32 → Wd → Prop) : Prop := Ev μ d as w (qI Q)
abbrev EvL (μ : MI) (d : Nat) (as : List Value) (w : Wd) (Q : Int64 → Wd → Prop) : Prop := Ev μ d as w (qL Q)
abbrev EvR (μ : MI) (d : Nat) (as : List Value) (w : Wd) (Q : Nat → Wd → Prop) : Prop := Ev μ d as w (qR Q)
abbrev EvV (μ : MI) (d : Nat) (as : List Value) (w : Wd) (Q : Wd → Prop) : Prop := Ev μ d as w (qV Q)
/-- a call, by the type of its answer -/
def cal (μ : MI) (d : Nat) (as : List Value) (w : Wd) (K : List Value → Wd → Prop) : Prop := match d with
  | 0 => False
  | d + 1 => match mR μ with
    | none => ∃ Q, EvV μ d as w Q ∧ ∀ w', Q w' → K [] w'
    | some .long => ∃ Q, EvL μ d as w Q ∧ ∀ r w', Q r w' → K [.long r] w'
    | some (.object _) => ∃ Q, EvR μ d as w Q ∧ ∀ r w', Q r w' → K [.ref r] w'
    | some _ => ∃ Q, EvI μ d as w Q ∧ ∀ r w', Q r w' → K [.int r] w'
def stW (st : List Value) : Bool := Nat.ble ((st.map fun v => v.category).sum) 8
/-- a switch, case by case -/
def swc (x : Int32) (dflt : Int) (pc : Nat) (K : Nat → Prop) : List (Int × Int) → Prop
  | [] => jp pc dflt K
  | q :: t => jp pc q.2 fun tg => (x = iI q.1 → K tg) ∧ (¬ x = iI q.1 → swc x dflt pc K t)
def tab (lo : Int) : List Int → List (Int × Int)
  | [] => []
  | o :: t => (lo, o) :: tab (lo + 1) t
/-- an array's place: a number -/
def plc (i : Int32) (n : Nat) (f : Nat → Prop) : Prop := ∃ j : Nat, i = nI j ∧ j < n ∧ f j
def SRt : Nat → List (Nat × Nat)
  | 10 => [(63, 0), (69, 1), (71, 2), (73, 3), (75, 4), (77, 5), (84, 6), (86, 7), (88, 8), (82, 9)]
  | _ => []
def rok (ty : FieldType) (v : Int32) (P : Prop) : Prop := match ty with
  | .int => P
  | .boolean => (v = 0 ∨ v = 1) ∧ P
  | .char => (∃ j : Nat, j < 65536 ∧ v = nI j) ∧ P
  | _ => False
def aok (ty ty2 : FieldType) (P : Prop) : Prop := match ty, ty2 with
  | .int, .int => P
  | .boolean, .boolean => P
  | .char, .char => P
  | .long, .long => P
  | _, _ => False
def stp (μ : MI) (d : Nat) (Q : Option Value → Wd → Prop) (i : Instr) (pc : Nat) (lv : List (Nat × Value)) (st : List Value) (w : Wd) (K : Nat → List (Nat × Value) → List Value → Wd → Prop) : Prop := match i with
  | .aload_n k => ldR lv k fun v => K (pc + 1) lv (.ref v :: st) w
  | .aload k => ldR lv k fun v => K (pc + 2) lv (.ref v :: st) w
  | .iload_n k => ldI lv k fun v => K (pc + 1) lv (.int v :: st) w
  | .iload k => ldI lv k fun v => K (pc + 2) lv (.int v :: st) w
  | .lload_n k => ldL lv k fun v => K (pc + 1) lv (.long v :: st) w
  | .lload k => ldL lv k fun v => K (pc + 2) lv (.long v :: st) w
  | .istore_n k => pI st fun v st => bo (Nat.blt k (mL μ)) (K (pc + 1) (lput1 lv k (.int v)) st w)
  | .istore k => pI st fun v st => bo (Nat.blt k (mL μ)) (K (pc + 2) (lput1 lv k (.int v)) st w)
  | .lstore_n k => pL st fun v st => bo (Nat.blt (k + 1) (mL μ)) (K (pc + 1) (lput2 lv k (.long v)) st w)
  | .lstore k => pL st fun v st => bo (Nat.blt (k + 1) (mL μ)) (K (pc + 2) (lput2 lv k (.long v)) st w)
  | .iinc k n => ldI lv k fun v => bo (Nat.blt k (mL μ)) (K (pc + 3) (lput1 lv k (.int (v + iI n))) st w)
  | .iconst n => K (pc + 1) lv (.int (iI n) :: st) w
  | .bipush n => bo (decide (-129 < n) && decide (n < 128)) (K (pc + 2) lv (.int (iI n) :: st) w)
  | .sipush n => bo (decide (-32769 < n) && decide (n < 32768)) (K (pc + 3) lv (.int (iI n) :: st) w)
  | .lconst n => K (pc + 1) lv (.long (lN n) :: st) w
  | .ldc x => match tget (LI (mK μ)) x with
    | some v => K (pc + 2) lv (.int v :: st) w
    | none => ot (tget (SRt (mK μ)) x) fun k => K (pc + 2) lv (.ref (200 + k) :: st) w
  | .ldc_w x => ot (tget (LI (mK μ)) x) fun v => K (pc + 3) lv (.int v :: st) w
  | .ldc2_w x => ot (tget (LL (mK μ)) x) fun v => K (pc + 3) lv (.long v :: st) w
  | .iadd => pI st fun y st => pI st fun x st => K (pc + 1) lv (.int (x + y) :: st) w
  | .isub => pI st fun y st => pI st fun x st => K (pc + 1) lv (.int (x - y) :: st) w
  | .imul => pI st fun y st => pI st fun x st => K (pc + 1) lv (.int (x * y) :: st) w
  | .idiv => pI st fun y st => pI st fun x st => ¬ y = 0 ∧ K (pc + 1) lv (.int (x / y) :: st) w
  | .irem => pI st fun y st => pI st fun x st => ¬ y = 0 ∧ K (pc + 1) lv (.int (x - x / y * y) :: st) w
  | .ineg => pI st fun x st => K (pc + 1) lv (.int (-x) :: st) w
  | .iand => pI st fun y st => pI st fun x st => K (pc + 1) lv (.int (x &&& y) :: st) w
  | .ior => pI st fun y st => pI st fun x st => K (pc + 1) lv (.int (x ||| y) :: st) w
  | .ishl => pI st fun y st => pI st fun x st => K (pc + 1) lv (.int (x <<< (y &&& 31)) :: st) w
  | .ishr => pI st fun y st => pI st fun x st => K (pc + 1) lv (.int (x >>> (y &&& 31)) :: st) w
  | .iushr => pI st fun y st => pI st fun x st => K (pc + 1) lv (.int ((x.toUInt32 >>> (y.toUInt32 &&& Int32.toUInt32 31)).toInt32) :: st) w
  | .ladd => pL st fun y st => pL st fun x st => K (pc + 1) lv (.long (x + y) :: st) w
  | .lsub => pL st fun y st => pL st fun x st => K (pc + 1) lv (.long (x - y) :: st) w
  | .lmul => pL st fun y st => pL st fun x st => K (pc + 1) lv (.long (x * y) :: st) w
  | .land => pL st fun y st => pL st fun x st => K (pc + 1) lv (.long (x &&& y) :: st) w
  | .lor => pL st fun y st => pL st fun x st => K (pc + 1) lv (.long (x ||| y) :: st) w
  | .lxor => pL st fun y st => pL st fun x st => K (pc + 1) lv (.long (x ^^^ y) :: st) w
  | .lshl => pI st fun y st => pL st fun x st => K (pc + 1) lv (.long (x <<< (y.toInt64 &&& 63)) :: st) w
  | .lshr => pI st fun y st => pL st fun x st => K (pc + 1) lv (.long (x >>> (y.toInt64 &&& 63)) :: st) w
  | .lushr => pI st fun y st => pL st fun x st => K (pc + 1) lv (.long ((x.toUInt64 >>> (y.toInt64.toUInt64 &&& Int64.toUInt64 63)).toInt64) :: st) w
  | .lcmp => pL st fun y st => pL st fun x st => K (pc + 1) lv (.int (lg_cmp x y) :: st) w
  | .i2l => pI st fun x st => K (pc + 1) lv (.long x.toInt64 :: st) w
  | .l2i => pL st fun x st => K (pc + 1) lv (.int x.toInt32 :: st) w
  | .i2c => pI st fun x st => K (pc + 1) lv (.int ((x.toUInt32 % 65536).toInt32) :: st) w
  | .dup => match st with | v :: t => bo (Nat.beq v.category 1) (K (pc + 1) lv (v :: v :: t) w) | _ => False
  | .pop => match st with | v :: t => bo (Nat.beq v.category 1) (K (pc + 1) lv t w) | _ => False
  | .dup2 => match st with | v :: u :: t => bo (Nat.beq v.category 1 && Nat.beq u.category 1) (K (pc + 1) lv (v :: u :: v :: u :: t) w) | _ => False
  | .ifCond c o => pI st fun x st => jp pc o fun t => (cT c x 0 → K t lv st w) ∧ (cF c x 0 → K (pc + 3) lv st w)
  | .if_icmp c o => pI st fun y st => pI st fun x st => jp pc o fun t => (cT c x y → K t lv st w) ∧ (cF c x y → K (pc + 3) lv st w)
  | .goto o => jp pc o fun t => K t lv st w
  | .tableswitch df lo hi os => pI st fun x st => bo (decide (lo + (os.size : Int) = hi + 1) && decide (-2147483649 < lo) && decide (hi < 2147483648)) (swc x df pc (fun t => K t lv st w) (tab lo os.toList))
  | .lookupswitch df ps => pI st fun x st => bo ((ps.toList.zip (ps.toList.drop 1)).all (fun (a, next) => a.1 < next.1) && ps.toList.all (fun q => decide (-2147483649 < q.1) && decide (q.1 < 2147483648))) (swc x df pc (fun t => K t lv st w) ps.toList)
  | .getfield x => pR st fun a st => ot (tget (FR (mK μ)) x) fun q => ot (gv w a q.1 q.2) fun v => K (pc + 3) lv (v :: st) w
  | .putfield x => pI st fun v st => pR st fun a st => ot (tget (PR (mK μ)) x) fun q => bo (gp a q.1 q.2.1) (rok (if q.2.2 = 0 then .int else .boolean) v (K (pc + 3) lv st (up1 w a q.2.1 v)))
  | .iaload => pI st fun i st => pR st fun a st => ot (ga a) fun q => aok q.1 .int (plc i q.2 fun j => K (pc + 1) lv (.int (w.1 a j) :: st) w)
  | .baload => pI st fun i st => pR st fun a st => ot (ga a) fun q => aok q.1 .boolean (plc i q.2 fun j => K (pc + 1) lv (.int (w.1 a j) :: st) w)
  | .caload => pI st fun i st => pR st fun a st => ot (ga a) fun q => aok q.1 .char (plc i q.2 fun j => K (pc + 1) lv (.int (w.1 a j) :: st) w)
  | .laload => pI st fun i st => pR st fun a st => ot (ga a) fun q => aok q.1 .long (plc i q.2 fun j => K (pc + 1) lv (.long (w.2 a j) :: st) w)
  | .iastore => pI st fun v st => pI st fun i st => pR st fun a st => ot (ga a) fun q => aok q.1 .int (plc i q.2 fun j => K (pc + 1) lv st (up1 w a j v))
  | .bastore => pI st fun v st => pI st fun i st => pR st fun a st => ot (ga a) fun q => aok q.1 .boolean (plc i q.2 fun j => rok .boolean v (K (pc + 1) lv st (up1 w a j v)))
  | .castore => pI st fun v st => pI st fun i st => pR st fun a st => ot (ga a) fun q => aok q.1 .char (plc i q.2 fun j => rok .char v (K (pc + 1) lv st (up1 w a j v)))
  | .lastore => pL st fun v st => pI st fun i st => pR st fun a st => ot (ga a) fun q => aok q.1 .long (plc i q.2 fun j => K (pc + 1) lv st (up2 w a j v))
  | .arraylength => pR st fun a st => ot (ga a) fun q => K (pc + 1) lv (.int (nI q.2) :: st) w
  | .invokevirtual x => ot (tget (MR (mK μ)) x) fun q => match q.2 with
    | 0 => ot (MT[q.1]?) fun z => ot (tkA z.2.1 st []) fun u => pR u.2 fun b st => bo (!z.2.2 && isC b (mK z.1) && stW st) (cal z.1 d (.ref b :: u.1) w fun r w' => K (pc + 3) lv (r ++ st) w')
    | 4 => ot (MT[q.1]?) fun z => ot (tkA z.2.1 st []) fun u => pR u.2 fun b st => (∃ k, k < 10 ∧ b = 200 + k) ∧ bo (!z.2.2 && Nat.beq (mK z.1) 17 && stW st) (cal z.1 d (.ref b :: u.1) w fun r w' => K (pc + 3) lv (r ++ st) w')
    | _ => False
  | .invokestatic x => ot (tget (MR (mK μ)) x) fun q => match q.2 with
    | 1 => ot (MT[q.1]?) fun z => ot (tkA z.2.1 st []) fun u => bo (z.2.2 && stW u.2) (cal z.1 d u.1 w fun r w' => K (pc + 3) lv (r ++ u.2) w')
    | 2 => ot (MT[q.1]?) fun z => ot (tkA z.2.1 st []) fun u => bo (z.2.2 && stW u.2) (cal z.1 d u.1 w fun r w' => K (pc + 3) lv (r ++ u.2) w')
    | 3 => pI st fun n st => pI st fun dp st => pR st fun b st => pI st fun sp st => pR st fun a st => ot (ga a) fun qa => ot (ga b) fun qb => aok qa.1 .int (aok qb.1 .int (bo (Nat.blt 0 d && stW st) (∃ j0 j1 m : Nat, sp = nI j0 ∧ dp = nI j1 ∧ n = nI m ∧ j0 + m ≤ qa.2 ∧ j1 + m ≤ qb.2 ∧ K (pc + 3) lv st (upA w b (va_cpy (w.1 a) (w.1 b) j0 j1 m)))))
    | 5 => pI st fun y st => pI st fun x st => bo (Nat.blt 0 d && stW st) (K (pc + 3) lv (.int (if y < x then y else x) :: st) w)
    | 6 => pI st fun y st => pI st fun x st => bo (Nat.blt 0 d && stW st) (K (pc + 3) lv (.int (if x < y then y else x) :: st) w)
    | 7 => pI st fun x st => bo (Nat.blt 0 d && stW st) (K (pc + 3) lv (.int (if 0 ≤ x then x else 0 - x) :: st) w)
    | _ => False
  | .ireturn => pIs st fun v => ot (mR μ) fun ty => rok ty v (Q (some (.int v)) w)
  | .lreturn => match st, mR μ with | [.long v], some .long => Q (some (.long v)) w | _, _ => False
  | .areturn => match st, mR μ with | [.ref v], some (.object _) => Q (some (.ref v)) w | _, _ => False
  | .return_ => match st, mR μ with | [], none => Q none w | _, _ => False
  | _ => False
end
section
theorem pI_inv {st : List Value} {f : Int32 → List Value → Prop} (h : pI st f) : ∃ v t, st = .int v :: t ∧ f v t := by
  unfold pI at h
  split at h
  · exact ⟨_, _, rfl, h⟩
  · exact h.elim
theorem pL_inv {st : List Value} {f : Int64 → List Value → Prop} (h : pL st f) : ∃ v t, st = .long v :: t ∧ f v t := by
  unfold pL at h
  split at h
  · exact ⟨_, _, rfl, h⟩
  · exact h.elim
theorem pR_inv {st : List Value} {f : Nat → List Value → Prop} (h : pR st f) : ∃ v t, st = .ref v :: t ∧ f v t := by
  unfold pR at h
  split at h
  · exact ⟨_, _, rfl, h⟩
  · exact h.elim
theorem pIs_inv {st : List Value} {f : Int32 → Prop} (h : pIs st f) : ∃ v, st = [.int v] ∧ f v := by
  unfold pIs at h
  split at h
  · exact ⟨_, rfl, h⟩
  · exact h.elim
theorem ldI_inv {lv : List (Nat × Value)} {k : Nat} {f : Int32 → Prop} (h : ldI lv k f) : ∃ v, lget lv k = some (.int v) ∧ f v := by
  unfold ldI at h
  split at h
  · exact ⟨_, by assumption, h⟩
  · exact h.elim
theorem ldL_inv {lv : List (Nat × Value)} {k : Nat} {f : Int64 → Prop} (h : ldL lv k f) : ∃ v, lget lv k = some (.long v) ∧ f v := by
  unfold ldL at h
  split at h
  · exact ⟨_, by assumption, h⟩
  · exact h.elim
theorem ldR_inv {lv : List (Nat × Value)} {k : Nat} {f : Nat → Prop} (h : ldR lv k f) : ∃ v, lget lv k = some (.ref v) ∧ f v := by
  unfold ldR at h
  split at h
  · exact ⟨_, by assumption, h⟩
  · exact h.elim
theorem ot_inv {α : Type} {o : Option α} {f : α → Prop} (h : ot o f) : ∃ x, o = some x ∧ f x := by
  unfold ot at h
  split at h
  · exact ⟨_, rfl, h⟩
  · exact h.elim
theorem bo_inv {b : Bool} {P : Prop} (h : bo b P) : b = true ∧ P := by
  cases b
  · exact h.elim
  · exact ⟨rfl, h⟩
theorem jp_inv {pc : Nat} {off : Int} {f : Nat → Prop} (h : jp pc off f) : ∃ t : Nat, (pc : Int) + off = (t : Int) ∧ f t := by
  unfold jp at h
  split at h
  · exact ⟨_, by assumption, h⟩
  · exact h.elim
theorem aok_inv {ty ty2 : FieldType} {P : Prop} (h : aok ty ty2 P) : ty = ty2 ∧ P ∧ (ty = .int ∨ ty = .boolean ∨ ty = .char ∨ ty = .long) := by
  unfold aok at h
  split at h
  · exact ⟨rfl, h, Or.inl rfl⟩
  · exact ⟨rfl, h, Or.inr (Or.inl rfl)⟩
  · exact ⟨rfl, h, Or.inr (Or.inr (Or.inl rfl))⟩
  · exact ⟨rfl, h, Or.inr (Or.inr (Or.inr rfl))⟩
  · exact h.elim
theorem ga_inv {a : Nat} {q : FieldType × Nat} (h : ga a = some q) : shp[a]? = some (.inr q) ∧ q.2 < 2 ^ 31 := by
  unfold ga at h
  cases hx : shp[a]? with
  | none => rw [hx] at h; cases h
  | some z =>
    rw [hx] at h
    cases z with
    | inl z => cases h
    | inr z =>
      cases h
      refine ⟨rfl, ?_⟩
      have h1 := List.all_eq_true.mp shp_small _ (List.mem_of_getElem? hx)
      have h2 : Nat.ble q.2 200000 = true := h1
      have h3 := Nat.le_of_ble_eq_true h2
      omega
theorem shp_id {a : Nat} {x : Shp} (h : shp[a]? = some x) : a < NS := by
  have h1 : a < shp.length := (List.getElem?_eq_some_iff.mp h).1
  rw [shp_len] at h1
  exact h1
theorem isC_inv {a ci : Nat} (h : isC a ci = true) : ∃ fs, shp[a]? = some (.inl (ci, fs)) := by
  unfold isC at h
  split at h
  · rename_i c2 fs hx
    have e := Nat.eq_of_beq_eq_true h
    subst e
    exact ⟨fs, hx⟩
  · cases h
theorem gv_inv {w : Wd} {a ci k : Nat} {v : Value} (h : gv w a ci k = some v) : ∃ fs o, shp[a]? = some (.inl (ci, fs)) ∧ fs[k]? = some o ∧ (∀ ad, cv ad v = fv ad w a k o) := by
  unfold gv at h
  split at h
  · rename_i c2 fs hx
    cases hb : Nat.beq c2 ci with
    | false => rw [hb] at h; cases h
    | true =>
      rw [hb] at h
      have e := Nat.eq_of_beq_eq_true hb
      subst e
      simp only [cond_true] at h
      split at h
      · cases h; exact ⟨fs, _, hx, by assumption, fun _ => rfl⟩
      · cases h; exact ⟨fs, _, hx, by assumption, fun _ => rfl⟩
      · cases h
  · cases h
theorem gp_inv {a ci k : Nat} (h : gp a ci k = true) : ∃ fs, shp[a]? = some (.inl (ci, fs)) ∧ fs[k]? = some none := by
  unfold gp at h
  split at h
  · rename_i c2 fs hx
    rw [Bool.and_eq_true] at h
    have e := Nat.eq_of_beq_eq_true h.1
    subst e
    refine ⟨fs, hx, ?_⟩
    have h2 := h.2
    split at h2
    · assumption
    · cases h2
  · cases h
theorem in_ws {μ : MI} {w : Cond} (h : w ∈ TT) : w ∈ wsM μ := List.mem_cons_of_mem _ h
theorem z_iload_n {μ : MI} {d : Nat} {Q : Option Value → Wd → Prop} {pc : Nat} {lv : List (Nat × Value)} {st : List Value} {w : Wd} {k : Fin 4} {x : Int32} (hd : decode (mB μ) pc = .ok (.iload_n k, 1)) (hg : lget lv k = some (.int x)) (k : Z μ d Q (pc + 1) lv (.int x :: st) w) : Z μ d Q pc lv st w := fun p l e s m args below meth c G cA ad hC hF hI H locs ls hP hS hl => lv_iload_n hC.1 hC.2.1 hd rfl (lvc_get hl hg) (k p l e s m args below meth c G cA ad hC hF hI H locs ls hP hS hl)
theorem z_iload {μ : MI} {d : Nat} {Q : Option Value → Wd → Prop} {pc : Nat} {lv : List (Nat × Value)} {st : List Value} {w : Wd} {k : Nat} {x : Int32} (hd : decode (mB μ) pc = .ok (.iload k, 2)) (hg : lget lv k = some (.int x)) (k : Z μ d Q (pc + 2) lv (.int x :: st) w) : Z μ d Q pc lv st w := fun p l e s m args below meth c G cA ad hC hF hI H locs ls hP hS hl => lv_iload hC.1 hC.2.1 hd (lvc_get hl hg) (k p l e s m args below meth c G cA ad hC hF hI H locs ls hP hS hl)
theorem z_lload_n {μ : MI} {d : Nat} {Q : Option Value → Wd → Prop} {pc : Nat} {lv : List (Nat × Value)} {st : List Value} {w : Wd} {k : Fin 4} {x : Int64} (hd : decode (mB μ) pc = .ok (.lload_n k, 1)) (hg : lget lv k = some (.long x)) (k : Z μ d Q (pc + 1) lv (.long x :: st) w) : Z μ d Q pc lv st w := fun p l e s m args below meth c G cA ad hC hF hI H locs ls hP hS hl => lv_lload_n hC.1 hC.2.1 hd rfl (lvc_get hl hg) (k p l e s m args below meth c G cA ad hC hF hI H locs ls hP hS hl)
theorem z_lload {μ : MI} {d : Nat} {Q : Option Value → Wd → Prop} {pc : Nat} {lv : List (Nat × Value)} {st : List Value} {w : Wd} {k : Nat} {x : Int64} (hd : decode (mB μ) pc = .ok (.lload k, 2)) (hg : lget lv k = some (.long x)) (k : Z μ d Q (pc + 2) lv (.long x :: st) w) : Z μ d Q pc lv st w := fun p l e s m args below meth c G cA ad hC hF hI H locs ls hP hS hl => lv_lload hC.1 hC.2.1 hd (lvc_get hl hg) (k p l e s m args below meth c G cA ad hC hF hI H locs ls hP hS hl)
theorem z_aload_n {μ : MI} {d : Nat} {Q : Option Value → Wd → Prop} {pc : Nat} {lv : List (Nat × Value)} {st : List Value} {w : Wd} {k : Fin 4} {x : Nat} (hd : decode (mB μ) pc = .ok (.aload_n k, 1)) (hg : lget lv k = some (.ref x)) (k : Z μ d Q (pc + 1) lv (.ref x :: st) w) : Z μ d Q pc lv st w := fun p l e s m args below meth c G cA ad hC hF hI H locs ls hP hS hl => lv_aload_n hC.1 hC.2.1 hd rfl (lvc_get hl hg) (k p l e s m args below meth c G cA ad hC hF hI H locs ls hP hS hl)
theorem z_aload {μ : MI} {d : Nat} {Q : Option Value → Wd → Prop} {pc : Nat} {lv : List (Nat × Value)} {st : List Value} {w : Wd} {k : Nat} {x : Nat} (hd : decode (mB μ) pc = .ok (.aload k, 2)) (hg : lget lv k = some (.ref x)) (k : Z μ d Q (pc + 2) lv (.ref x :: st) w) : Z μ d Q pc lv st w := fun p l e s m args below meth c G cA ad hC hF hI H locs ls hP hS hl => lv_aload hC.1 hC.2.1 hd (lvc_get hl hg) (k p l e s m args below meth c G cA ad hC hF hI H locs ls hP hS hl)
theorem z_istore_n {μ : MI} {d : Nat} {Q : Option Value → Wd → Prop} {pc : Nat} {lv : List (Nat × Value)} {st : List Value} {w : Wd} {k : Fin 4} {x : Int32} (hd : decode (mB μ) pc = .ok (.istore_n k, 1)) (hb : (k : Nat) < mL μ) (kk : Z μ d Q (pc + 1) (lput1 lv k (.int x)) st w) : Z μ d Q pc lv (.int x :: st) w := fun p l e s m args below meth c G cA ad hC hF hI H locs ls hP hS hl => lv_istore_n (lv' := lvc ad (lput1 lv k (.int x))) hC.1 hC.2.1 hd rfl hl hb (lvc_put1 ad lv k (.int x)) (fun ls hl => kk p l e s m args below meth c G cA ad hC hF hI H locs ls hP hS hl)
theorem z_istore {μ : MI} {d : Nat} {Q : Option Value → Wd → Prop} {pc : Nat} {lv : List (Nat × Value)} {st : List Value} {w : Wd} {k : Nat} {x : Int32} (hd : decode (mB μ) pc = .ok (.istore k, 2)) (hb : (k : Nat) < mL μ) (kk : Z μ d Q (pc + 2) (lput1 lv k (.int x)) st w) : Z μ d Q pc lv (.int x :: st) w := fun p l e s m args below meth c G cA ad hC hF hI H locs ls hP hS hl => lv_istore (lv' := lvc ad (lput1 lv k (.int x))) hC.1 hC.2.1 hd hl hb (lvc_put1 ad lv k (.int x)) (fun ls hl => kk p l e s m args below meth c G cA ad hC hF hI H locs ls hP hS hl)
theorem z_lstore_n {μ : MI} {d : Nat} {Q : Option Value → Wd → Prop} {pc : Nat} {lv : List (Nat × Value)} {st : List Value} {w : Wd} {k : Fin 4} {x : Int64} (hd : decode (mB μ) pc = .ok (.lstore_n k, 1)) (hb : (k : Nat) + 1 < mL μ) (kk : Z μ d Q (pc + 1) (lput2 lv k (.long x)) st w) : Z μ d Q pc lv (.long x :: st) w := fun p l e s m args below meth c G cA ad hC hF hI H locs ls hP hS hl => lv_lstore_n (lv' := lvc ad (lput2 lv k (.long x))) hC.1 hC.2.1 hd rfl hl hb (lvc_put2 ad lv k (.long x)) (fun ls hl => kk p l e s m args below meth c G cA ad hC hF hI H locs ls hP hS hl)
theorem z_lstore {μ : MI} {d : Nat} {Q : Option Value → Wd → Prop} {pc : Nat} {lv : List (Nat × Value)} {st : List Value} {w : Wd} {k : Nat} {x : Int64} (hd : decode (mB μ) pc = .ok (.lstore k, 2)) (hb : (k : Nat) + 1 < mL μ) (kk : Z μ d Q (pc + 2) (lput2 lv k (.long x)) st w) : Z μ d Q pc lv (.long x :: st) w := fun p l e s m args below meth c G cA ad hC hF hI H locs ls hP hS hl => lv_lstore (lv' := lvc ad (lput2 lv k (.long x))) hC.1 hC.2.1 hd hl hb (lvc_put2 ad lv k (.long x)) (fun ls hl => kk p l e s m args below meth c G cA ad hC hF hI H locs ls hP hS hl)
theorem lv_pos {ad : Nat → Nat} {lv : List (Nat × Value)} {k : Nat} {x : Int32} (hg : lget lv k = some (.int x)) : ∃ j : Nat, (lvc ad lv)[j]? = some (k, .int x) := by
  have h : (k, cv ad (.int x)) ∈ lvc ad lv := List.mem_map.mpr ⟨(k, .int x), lget_mem hg, rfl⟩
  exact List.getElem?_of_mem h
theorem z_iinc {μ : MI} {d : Nat} {Q : Option Value → Wd → Prop} {pc : Nat} {lv : List (Nat × Value)} {st : List Value} {w : Wd} {k : Nat} {n : Int} {x : Int32} (hd : decode (mB μ) pc = .ok (.iinc k n, 3)) (hg : lget lv k = some (.int x)) (hb : k < mL μ) (kk : Z μ d Q (pc + 3) (lput1 lv k (.int (x + iI n))) st w) : Z μ d Q pc lv st w := by
  intro p l e s m args below meth c G cA ad hC hF hI H locs ls hP hS hl
  obtain ⟨j, hj⟩ := lv_pos (ad := ad) hg
  exact lv_iinc (v := x + iI n) (lv' := lvc ad (lput1 lv k (.int (x + iI n)))) hC.1 hC.2.1 hd hl hj (by rw [iI_eq]) hb (lvc_put1 ad lv k (.int (x + iI n))) (fun ls hl => kk p l e s m args below meth c G cA ad hC hF hI H locs ls hP hS hl)
theorem z_iconst {μ : MI} {d : Nat} {Q : Option Value → Wd → Prop} {pc : Nat} {lv : List (Nat × Value)} {st : List Value} {w : Wd} {n : Int} (hd : decode (mB μ) pc = .ok (.iconst n, 1)) (k : Z μ d Q (pc + 1) lv (.int (iI n) :: st) w) : Z μ d Q pc lv (st) w := fun p l e s m args below meth c G cA ad hC hF hI H locs ls hP hS hl => lv_iconst hC.1 hC.2.1 hd (iI_eq n) (k p l e s m args below meth c G cA ad hC hF hI H locs ls hP hS hl)
theorem z_bipush {μ : MI} {d : Nat} {Q : Option Value → Wd → Prop} {pc : Nat} {lv : List (Nat × Value)} {st : List Value} {w : Wd} {n : Int} (h1 : -129 < n) (h2 : n < 128) (hd : decode (mB μ) pc = .ok (.bipush n, 2)) (k : Z μ d Q (pc + 2) lv (.int (iI n) :: st) w) : Z μ d Q pc lv (st) w := fun p l e s m args below meth c G cA ad hC hF hI H locs ls hP hS hl => lv_bipush hC.1 hC.2.1 hd (iI_b (by omega) h2) (k p l e s m args below meth c G cA ad hC hF hI H locs ls hP hS hl)
theorem z_sipush {μ : MI} {d : Nat} {Q : Option Value → Wd → Prop} {pc : Nat} {lv : List (Nat × Value)} {st : List Value} {w : Wd} {n : Int} (h1 : -32769 < n) (h2 : n < 32768) (hd : decode (mB μ) pc = .ok (.sipush n, 3)) (k : Z μ d Q (pc + 3) lv (.int (iI n) :: st) w) : Z μ d Q pc lv (st) w := fun p l e s m args below meth c G cA ad hC hF hI H locs ls hP hS hl => lv_sipush hC.1 hC.2.1 hd (iI_s (by omega) h2) (k p l e s m args below meth c G cA ad hC hF hI H locs ls hP hS hl)
theorem z_lconst {μ : MI} {d : Nat} {Q : Option Value → Wd → Prop} {pc : Nat} {lv : List (Nat × Value)} {st : List Value} {w : Wd} {n : Fin 2} (hd : decode (mB μ) pc = .ok (.lconst n, 1)) (k : Z μ d Q (pc + 1) lv (.long (lN n) :: st) w) : Z μ d Q pc lv (st) w := fun p l e s m args below meth c G cA ad hC hF hI H locs ls hP hS hl => lv_lconst hC.1 hC.2.1 hd rfl (k p l e s m args below meth c G cA ad hC hF hI H locs ls hP hS hl)
theorem z_ldc {μ : MI} {d : Nat} {Q : Option Value → Wd → Prop} {pc : Nat} {lv : List (Nat × Value)} {st : List Value} {w : Wd} {x : Nat} {v : Int32} (ho : (mY μ).cls = clN.getD (mK μ) "") (hd : decode (mB μ) pc = .ok (.ldc x, 2)) (hx : tget (LI (mK μ)) x = some v) (k : Z μ d Q (pc + 2) lv (.int v :: st) w) : Z μ d Q pc lv st w := fun p l e s m args below meth c G cA ad hC hF hI H locs ls hP hS hl => lv_ldc hC.1 hC.2.1 hC.2.2.2.2.1 (hC.2.2.2.2.2.1 _ (in_ws (by rw [ho]; exact LI_ok _ _ (tget_mem hx)))) hd (k p l e s m args below meth c G cA ad hC hF hI H locs ls hP hS hl)
theorem SRt_ok : ∀ (m : Nat) (q : Nat × Nat), q ∈ SRt m → m = 10 ∧ q.2 < 10 ∧ sIdx q.2 = q.1
  | 10, q, h => by
    have h2 : ∀ q ∈ SRt 10, q.2 < 10 ∧ sIdx q.2 = q.1 := by decide
    exact ⟨rfl, h2 q h⟩
  | 0, q, h => absurd h List.not_mem_nil
  | 1, q, h => absurd h List.not_mem_nil
  | 2, q, h => absurd h List.not_mem_nil
  | 3, q, h => absurd h List.not_mem_nil
  | 4, q, h => absurd h List.not_mem_nil
  | 5, q, h => absurd h List.not_mem_nil
  | 6, q, h => absurd h List.not_mem_nil
  | 7, q, h => absurd h List.not_mem_nil
  | 8, q, h => absurd h List.not_mem_nil
  | 9, q, h => absurd h List.not_mem_nil
  | _ + 11, q, h => absurd h List.not_mem_nil
theorem z_ldcS {μ : MI} {d : Nat} {Q : Option Value → Wd → Prop} {pc : Nat} {lv : List (Nat × Value)} {st : List Value} {w : Wd} {x k0 : Nat} (ho : (mY μ).cls = clN.getD (mK μ) "") (hd : decode (mB μ) pc = .ok (.ldc x, 2)) (hx : tget (SRt (mK μ)) x = some k0) (k : Z μ d Q (pc + 2) lv (.ref (200 + k0) :: st) w) : Z μ d Q pc lv st w := by
  intro p l e s m args below meth c G cA ad hC hF hI H locs ls hP hS hl
  obtain ⟨h1, h2, h3⟩ := SRt_ok _ _ (tget_mem hx)
  have hR := hF.2.2.1 k0 h2
  dsimp only at h3
  rw [h3] at hR
  have hown := hC.2.2.2.2.1
  rw [ho, h1] at hown
  exact va_ldcS hC.1 hC.2.1 hown hR hd (k p l e s m args below meth c G cA ad hC hF hI H locs ls hP hS hl)
theorem z_ldc_w {μ : MI} {d : Nat} {Q : Option Value → Wd → Prop} {pc : Nat} {lv : List (Nat × Value)} {st : List Value} {w : Wd} {x : Nat} {v : Int32} (ho : (mY μ).cls = clN.getD (mK μ) "") (hd : decode (mB μ) pc = .ok (.ldc_w x, 3)) (hx : tget (LI (mK μ)) x = some v) (k : Z μ d Q (pc + 3) lv (.int v :: st) w) : Z μ d Q pc lv st w := fun p l e s m args below meth c G cA ad hC hF hI H locs ls hP hS hl => lv_ldcw hC.1 hC.2.1 hC.2.2.2.2.1 (hC.2.2.2.2.2.1 _ (in_ws (by rw [ho]; exact LI_ok _ _ (tget_mem hx)))) hd (k p l e s m args below meth c G cA ad hC hF hI H locs ls hP hS hl)
theorem z_ldc2 {μ : MI} {d : Nat} {Q : Option Value → Wd → Prop} {pc : Nat} {lv : List (Nat × Value)} {st : List Value} {w : Wd} {x : Nat} {v : Int64} (ho : (mY μ).cls = clN.getD (mK μ) "") (hd : decode (mB μ) pc = .ok (.ldc2_w x, 3)) (hx : tget (LL (mK μ)) x = some v) (k : Z μ d Q (pc + 3) lv (.long v :: st) w) : Z μ d Q pc lv st w := fun p l e s m args below meth c G cA ad hC hF hI H locs ls hP hS hl => lv_ldc2 hC.1 hC.2.1 hC.2.2.2.2.1 (hC.2.2.2.2.2.1 _ (in_ws (by rw [ho]; exact LL_ok _ _ (tget_mem hx)))) hd (k p l e s m args below meth c G cA ad hC hF hI H locs ls hP hS hl)
theorem z_iadd {μ : MI} {d : Nat} {Q : Option Value → Wd → Prop} {pc : Nat} {lv : List (Nat × Value)} {st : List Value} {w : Wd} {x y : Int32} (hd : decode (mB μ) pc = .ok (.iadd, 1)) (k : Z μ d Q (pc + 1) lv (.int (x + y) :: st) w) : Z μ d Q pc lv (.int y :: .int x :: st) w := fun p l e s m args below meth c G cA ad hC hF hI H locs ls hP hS hl => lv_iadd hC.1 hC.2.1 hd  (k p l e s m args below meth c G cA ad hC hF hI H locs ls hP hS hl)
theorem z_isub {μ : MI} {d : Nat} {Q : Option Value → Wd → Prop} {pc : Nat} {lv : List (Nat × Value)} {st : List Value} {w : Wd} {x y : Int32} (hd : decode (mB μ) pc = .ok (.isub, 1)) (k : Z μ d Q (pc + 1) lv (.int (x - y) :: st) w) : Z μ d Q pc lv (.int y :: .int x :: st) w := fun p l e s m args below meth c G cA ad hC hF hI H locs ls hP hS hl => lv_isub hC.1 hC.2.1 hd  (k p l e s m args below meth c G cA ad hC hF hI H locs ls hP hS hl)
theorem z_imul {μ : MI} {d : Nat} {Q : Option Value → Wd → Prop} {pc : Nat} {lv : List (Nat × Value)} {st : List Value} {w : Wd} {x y : Int32} (hd : decode (mB μ) pc = .ok (.imul, 1)) (k : Z μ d Q (pc + 1) lv (.int (x * y) :: st) w) : Z μ d Q pc lv (.int y :: .int x :: st) w := fun p l e s m args below meth c G cA ad hC hF hI H locs ls hP hS hl => lv_imul hC.1 hC.2.1 hd  (k p l e s m args below meth c G cA ad hC hF hI H locs ls hP hS hl)
theorem z_iand {μ : MI} {d : Nat} {Q : Option Value → Wd → Prop} {pc : Nat} {lv : List (Nat × Value)} {st : List Value} {w : Wd} {x y : Int32} (hd : decode (mB μ) pc = .ok (.iand, 1)) (k : Z μ d Q (pc + 1) lv (.int (x &&& y) :: st) w) : Z μ d Q pc lv (.int y :: .int x :: st) w := fun p l e s m args below meth c G cA ad hC hF hI H locs ls hP hS hl => lv_iand hC.1 hC.2.1 hd  (k p l e s m args below meth c G cA ad hC hF hI H locs ls hP hS hl)
theorem z_ior {μ : MI} {d : Nat} {Q : Option Value → Wd → Prop} {pc : Nat} {lv : List (Nat × Value)} {st : List Value} {w : Wd} {x y : Int32} (hd : decode (mB μ) pc = .ok (.ior, 1)) (k : Z μ d Q (pc + 1) lv (.int (x ||| y) :: st) w) : Z μ d Q pc lv (.int y :: .int x :: st) w := fun p l e s m args below meth c G cA ad hC hF hI H locs ls hP hS hl => lv_ior hC.1 hC.2.1 hd  (k p l e s m args below meth c G cA ad hC hF hI H locs ls hP hS hl)
theorem z_ishl {μ : MI} {d : Nat} {Q : Option Value → Wd → Prop} {pc : Nat} {lv : List (Nat × Value)} {st : List Value} {w : Wd} {x y : Int32} (hd : decode (mB μ) pc = .ok (.ishl, 1)) (k : Z μ d Q (pc + 1) lv (.int (x <<< (y &&& 31)) :: st) w) : Z μ d Q pc lv (.int y :: .int x :: st) w := fun p l e s m args below meth c G cA ad hC hF hI H locs ls hP hS hl => lv_ishl hC.1 hC.2.1 hd  (k p l e s m args below meth c G cA ad hC hF hI H locs ls hP hS hl)
theorem z_ishr {μ : MI} {d : Nat} {Q : Option Value → Wd → Prop} {pc : Nat} {lv : List (Nat × Value)} {st : List Value} {w : Wd} {x y : Int32} (hd : decode (mB μ) pc = .ok (.ishr, 1)) (k : Z μ d Q (pc + 1) lv (.int (x >>> (y &&& 31)) :: st) w) : Z μ d Q pc lv (.int y :: .int x :: st) w := fun p l e s m args below meth c G cA ad hC hF hI H locs ls hP hS hl => lv_ishr hC.1 hC.2.1 hd  (k p l e s m args below meth c G cA ad hC hF hI H locs ls hP hS hl)
theorem z_iushr {μ : MI} {d : Nat} {Q : Option Value → Wd → Prop} {pc : Nat} {lv : List (Nat × Value)} {st : List Value} {w : Wd} {x y : Int32} (hd : decode (mB μ) pc = .ok (.iushr, 1)) (k : Z μ d Q (pc + 1) lv (.int ((x.toUInt32 >>> (y.toUInt32 &&& Int32.toUInt32 31)).toInt32) :: st) w) : Z μ d Q pc lv (.int y :: .int x :: st) w := fun p l e s m args below meth c G cA ad hC hF hI H locs ls hP hS hl => lv_iushr hC.1 hC.2.1 hd rfl (k p l e s m args below meth c G cA ad hC hF hI H locs ls hP hS hl)
theorem z_idiv {μ : MI} {d : Nat} {Q : Option Value → Wd → Prop} {pc : Nat} {lv : List (Nat × Value)} {st : List Value} {w : Wd} {x y : Int32} (hne : ¬ y = 0) (hd : decode (mB μ) pc = .ok (.idiv, 1)) (k : Z μ d Q (pc + 1) lv (.int (x / y) :: st) w) : Z μ d Q pc lv (.int y :: .int x :: st) w := fun p l e s m args below meth c G cA ad hC hF hI H locs ls hP hS hl => lv_idiv hC.1 hC.2.1 hd hne (k p l e s m args below meth c G cA ad hC hF hI H locs ls hP hS hl)
theorem z_irem {μ : MI} {d : Nat} {Q : Option Value → Wd → Prop} {pc : Nat} {lv : List (Nat × Value)} {st : List Value} {w : Wd} {x y : Int32} (hne : ¬ y = 0) (hd : decode (mB μ) pc = .ok (.irem, 1)) (k : Z μ d Q (pc + 1) lv (.int (x - x / y * y) :: st) w) : Z μ d Q pc lv (.int y :: .int x :: st) w := fun p l e s m args below meth c G cA ad hC hF hI H locs ls hP hS hl => lv_irem hC.1 hC.2.1 hd hne (k p l e s m args below meth c G cA ad hC hF hI H locs ls hP hS hl)
theorem z_ineg {μ : MI} {d : Nat} {Q : Option Value → Wd → Prop} {pc : Nat} {lv : List (Nat × Value)} {st : List Value} {w : Wd} {x : Int32} (hd : decode (mB μ) pc = .ok (.ineg, 1)) (k : Z μ d Q (pc + 1) lv (.int (-x) :: st) w) : Z μ d Q pc lv (.int x :: st) w := fun p l e s m args below meth c G cA ad hC hF hI H locs ls hP hS hl => lv_ineg hC.1 hC.2.1 hd  (k p l e s m args below meth c G cA ad hC hF hI H locs ls hP hS hl)
theorem z_ladd {μ : MI} {d : Nat} {Q : Option Value → Wd → Prop} {pc : Nat} {lv : List (Nat × Value)} {st : List Value} {w : Wd} {x y : Int64} (hd : decode (mB μ) pc = .ok (.ladd, 1)) (k : Z μ d Q (pc + 1) lv (.long (x + y) :: st) w) : Z μ d Q pc lv (.long y :: .long x :: st) w := fun p l e s m args below meth c G cA ad hC hF hI H locs ls hP hS hl => lv_ladd hC.1 hC.2.1 hd  (k p l e s m args below meth c G cA ad hC hF hI H locs ls hP hS hl)
theorem z_lsub {μ : MI} {d : Nat} {Q : Option Value → Wd → Prop} {pc : Nat} {lv : List (Nat × Value)} {st : List Value} {w : Wd} {x y : Int64} (hd : decode (mB μ) pc = .ok (.lsub, 1)) (k : Z μ d Q (pc + 1) lv (.long (x - y) :: st) w) : Z μ d Q pc lv (.long y :: .long x :: st) w := fun p l e s m args below meth c G cA ad hC hF hI H locs ls hP hS hl => lv_lsub hC.1 hC.2.1 hd  (k p l e s m args below meth c G cA ad hC hF hI H locs ls hP hS hl)
theorem z_lmul {μ : MI} {d : Nat} {Q : Option Value → Wd → Prop} {pc : Nat} {lv : List (Nat × Value)} {st : List Value} {w : Wd} {x y : Int64} (hd : decode (mB μ) pc = .ok (.lmul, 1)) (k : Z μ d Q (pc + 1) lv (.long (x * y) :: st) w) : Z μ d Q pc lv (.long y :: .long x :: st) w := fun p l e s m args below meth c G cA ad hC hF hI H locs ls hP hS hl => lv_lmul hC.1 hC.2.1 hd  (k p l e s m args below meth c G cA ad hC hF hI H locs ls hP hS hl)
theorem z_land {μ : MI} {d : Nat} {Q : Option Value → Wd → Prop} {pc : Nat} {lv : List (Nat × Value)} {st : List Value} {w : Wd} {x y : Int64} (hd : decode (mB μ) pc = .ok (.land, 1)) (k : Z μ d Q (pc + 1) lv (.long (x &&& y) :: st) w) : Z μ d Q pc lv (.long y :: .long x :: st) w := fun p l e s m args below meth c G cA ad hC hF hI H locs ls hP hS hl => lv_land hC.1 hC.2.1 hd  (k p l e s m args below meth c G cA ad hC hF hI H locs ls hP hS hl)
theorem z_lor {μ : MI} {d : Nat} {Q : Option Value → Wd → Prop} {pc : Nat} {lv : List (Nat × Value)} {st : List Value} {w : Wd} {x y : Int64} (hd : decode (mB μ) pc = .ok (.lor, 1)) (k : Z μ d Q (pc + 1) lv (.long (x ||| y) :: st) w) : Z μ d Q pc lv (.long y :: .long x :: st) w := fun p l e s m args below meth c G cA ad hC hF hI H locs ls hP hS hl => lv_lor hC.1 hC.2.1 hd  (k p l e s m args below meth c G cA ad hC hF hI H locs ls hP hS hl)
theorem z_lxor {μ : MI} {d : Nat} {Q : Option Value → Wd → Prop} {pc : Nat} {lv : List (Nat × Value)} {st : List Value} {w : Wd} {x y : Int64} (hd : decode (mB μ) pc = .ok (.lxor, 1)) (k : Z μ d Q (pc + 1) lv (.long (x ^^^ y) :: st) w) : Z μ d Q pc lv (.long y :: .long x :: st) w := fun p l e s m args below meth c G cA ad hC hF hI H locs ls hP hS hl => lv_lxor hC.1 hC.2.1 hd  (k p l e s m args below meth c G cA ad hC hF hI H locs ls hP hS hl)
theorem z_lshl {μ : MI} {d : Nat} {Q : Option Value → Wd → Prop} {pc : Nat} {lv : List (Nat × Value)} {st : List Value} {w : Wd} {x : Int64} {y : Int32} (hd : decode (mB μ) pc = .ok (.lshl, 1)) (k : Z μ d Q (pc + 1) lv (.long (x <<< (y.toInt64 &&& 63)) :: st) w) : Z μ d Q pc lv (.int y :: .long x :: st) w := fun p l e s m args below meth c G cA ad hC hF hI H locs ls hP hS hl => lv_lshl hC.1 hC.2.1 hd rfl (k p l e s m args below meth c G cA ad hC hF hI H locs ls hP hS hl)
theorem z_lshr {μ : MI} {d : Nat} {Q : Option Value → Wd → Prop} {pc : Nat} {lv : List (Nat × Value)} {st : List Value} {w : Wd} {x : Int64} {y : Int32} (hd : decode (mB μ) pc = .ok (.lshr, 1)) (k : Z μ d Q (pc + 1) lv (.long (x >>> (y.toInt64 &&& 63)) :: st) w) : Z μ d Q pc lv (.int y :: .long x :: st) w := fun p l e s m args below meth c G cA ad hC hF hI H locs ls hP hS hl => lv_lshr hC.1 hC.2.1 hd rfl (k p l e s m args below meth c G cA ad hC hF hI H locs ls hP hS hl)
theorem z_lushr {μ : MI} {d : Nat} {Q : Option Value → Wd → Prop} {pc : Nat} {lv : List (Nat × Value)} {st : List Value} {w : Wd} {x : Int64} {y : Int32} (hd : decode (mB μ) pc = .ok (.lushr, 1)) (k : Z μ d Q (pc + 1) lv (.long ((x.toUInt64 >>> (y.toInt64.toUInt64 &&& Int64.toUInt64 63)).toInt64) :: st) w) : Z μ d Q pc lv (.int y :: .long x :: st) w := fun p l e s m args below meth c G cA ad hC hF hI H locs ls hP hS hl => lv_lushr hC.1 hC.2.1 hd rfl (k p l e s m args below meth c G cA ad hC hF hI H locs ls hP hS hl)
theorem z_lcmp {μ : MI} {d : Nat} {Q : Option Value → Wd → Prop} {pc : Nat} {lv : List (Nat × Value)} {st : List Value} {w : Wd} {x y : Int64} (hd : decode (mB μ) pc = .ok (.lcmp, 1)) (k : Z μ d Q (pc + 1) lv (.int (lg_cmp x y) :: st) w) : Z μ d Q pc lv (.long y :: .long x :: st) w := fun p l e s m args below meth c G cA ad hC hF hI H locs ls hP hS hl => W.lcmp hC.1 hC.2.1 hd  (k p l e s m args below meth c G cA ad hC hF hI H locs ls hP hS hl)
theorem z_i2l {μ : MI} {d : Nat} {Q : Option Value → Wd → Prop} {pc : Nat} {lv : List (Nat × Value)} {st : List Value} {w : Wd} {x : Int32} (hd : decode (mB μ) pc = .ok (.i2l, 1)) (k : Z μ d Q (pc + 1) lv (.long x.toInt64 :: st) w) : Z μ d Q pc lv (.int x :: st) w := fun p l e s m args below meth c G cA ad hC hF hI H locs ls hP hS hl => lv_i2l hC.1 hC.2.1 hd rfl (k p l e s m args below meth c G cA ad hC hF hI H locs ls hP hS hl)
theorem z_l2i {μ : MI} {d : Nat} {Q : Option Value → Wd → Prop} {pc : Nat} {lv : List (Nat × Value)} {st : List Value} {w : Wd} {x : Int64} (hd : decode (mB μ) pc = .ok (.l2i, 1)) (k : Z μ d Q (pc + 1) lv (.int x.toInt32 :: st) w) : Z μ d Q pc lv (.long x :: st) w := fun p l e s m args below meth c G cA ad hC hF hI H locs ls hP hS hl => lv_l2i hC.1 hC.2.1 hd rfl (k p l e s m args below meth c G cA ad hC hF hI H locs ls hP hS hl)
theorem z_i2c {μ : MI} {d : Nat} {Q : Option Value → Wd → Prop} {pc : Nat} {lv : List (Nat × Value)} {st : List Value} {w : Wd} {x : Int32} (hd : decode (mB μ) pc = .ok (.i2c, 1)) (k : Z μ d Q (pc + 1) lv (.int ((x.toUInt32 % 65536).toInt32) :: st) w) : Z μ d Q pc lv (.int x :: st) w := fun p l e s m args below meth c G cA ad hC hF hI H locs ls hP hS hl => lv_i2c hC.1 hC.2.1 hd rfl (k p l e s m args below meth c G cA ad hC hF hI H locs ls hP hS hl)
theorem z_dup {μ : MI} {d : Nat} {Q : Option Value → Wd → Prop} {pc : Nat} {lv : List (Nat × Value)} {st : List Value} {w : Wd} {v : Value} (hc : v.category = 1) (hd : decode (mB μ) pc = .ok (.dup, 1)) (k : Z μ d Q (pc + 1) lv (v :: v :: st) w) : Z μ d Q pc lv (v :: st) w := fun p l e s m args below meth c G cA ad hC hF hI H locs ls hP hS hl => lv_dup hC.1 hC.2.1 hd ((cv_cat ad v).trans hc) (k p l e s m args below meth c G cA ad hC hF hI H locs ls hP hS hl)
theorem z_pop {μ : MI} {d : Nat} {Q : Option Value → Wd → Prop} {pc : Nat} {lv : List (Nat × Value)} {st : List Value} {w : Wd} {v : Value} (hc : v.category = 1) (hd : decode (mB μ) pc = .ok (.pop, 1)) (k : Z μ d Q (pc + 1) lv (st) w) : Z μ d Q pc lv (v :: st) w := fun p l e s m args below meth c G cA ad hC hF hI H locs ls hP hS hl => lv_pop hC.1 hC.2.1 hd ((cv_cat ad v).trans hc) (k p l e s m args below meth c G cA ad hC hF hI H locs ls hP hS hl)
theorem z_dup2 {μ : MI} {d : Nat} {Q : Option Value → Wd → Prop} {pc : Nat} {lv : List (Nat × Value)} {st : List Value} {w : Wd} {v u : Value} (hc : v.category = 1) (hc2 : u.category = 1) (hd : decode (mB μ) pc = .ok (.dup2, 1)) (k : Z μ d Q (pc + 1) lv (v :: u :: v :: u :: st) w) : Z μ d Q pc lv (v :: u :: st) w := fun p l e s m args below meth c G cA ad hC hF hI H locs ls hP hS hl => lv_dup2_11 hC.1 hC.2.1 hd ((cv_cat ad v).trans hc) ((cv_cat ad u).trans hc2) (k p l e s m args below meth c G cA ad hC hF hI H locs ls hP hS hl)
theorem z_if {μ : MI} {d : Nat} {Q : Option Value → Wd → Prop} {pc : Nat} {lv : List (Nat × Value)} {st : List Value} {w : Wd} {x : Int32} {cd : ClassFile.Cond} {off : Int} {tgt : Nat} (hd : decode (mB μ) pc = .ok (.ifCond cd off, 3)) (ht : (pc : Int) + off = (tgt : Int)) (kt : cT cd x 0 → Z μ d Q tgt lv st w) (kf : cF cd x 0 → Z μ d Q (pc + 3) lv st w) : Z μ d Q pc lv (.int x :: st) w := by
  intro p l e s m args below meth c G cA ad hC hF hI H locs ls hP hS hl
  cases cd with
  | eq => exact lv_if_eq hC.1 hC.2.1 hd ht (fun h => kt h p l e s m args below meth c G cA ad hC hF hI H locs ls hP hS hl) (fun h => kf h p l e s m args below meth c G cA ad hC hF hI H locs ls hP hS hl)
  | ne => exact lv_if_ne hC.1 hC.2.1 hd ht (fun h => kt h p l e s m args below meth c G cA ad hC hF hI H locs ls hP hS hl) (fun h => kf h p l e s m args below meth c G cA ad hC hF hI H locs ls hP hS hl)
  | lt => exact lv_if_lt hC.1 hC.2.1 hd ht (fun h => kt h p l e s m args below meth c G cA ad hC hF hI H locs ls hP hS hl) (fun h => kf h p l e s m args below meth c G cA ad hC hF hI H locs ls hP hS hl)
  | ge => exact lv_if_ge hC.1 hC.2.1 hd ht (fun h => kt h p l e s m args below meth c G cA ad hC hF hI H locs ls hP hS hl) (fun h => kf h p l e s m args below meth c G cA ad hC hF hI H locs ls hP hS hl)
  | gt => exact lv_if_gt hC.1 hC.2.1 hd ht (fun h => kt h p l e s m args below meth c G cA ad hC hF hI H locs ls hP hS hl) (fun h => kf h p l e s m args below meth c G cA ad hC hF hI H locs ls hP hS hl)
  | le => exact lv_if_le hC.1 hC.2.1 hd ht (fun h => kt h p l e s m args below meth c G cA ad hC hF hI H locs ls hP hS hl) (fun h => kf h p l e s m args below meth c G cA ad hC hF hI H locs ls hP hS hl)
theorem z_icmp {μ : MI} {d : Nat} {Q : Option Value → Wd → Prop} {pc : Nat} {lv : List (Nat × Value)} {st : List Value} {w : Wd} {x y : Int32} {cd : ClassFile.Cond} {off : Int} {tgt : Nat} (hd : decode (mB μ) pc = .ok (.if_icmp cd off, 3)) (ht : (pc : Int) + off = (tgt : Int)) (kt : cT cd x y → Z μ d Q tgt lv st w) (kf : cF cd x y → Z μ d Q (pc + 3) lv st w) : Z μ d Q pc lv (.int y :: .int x :: st) w := by
  intro p l e s m args below meth c G cA ad hC hF hI H locs ls hP hS hl
  cases cd with
  | eq => exact lv_icmp_eq hC.1 hC.2.1 hd ht (fun h => kt h p l e s m args below meth c G cA ad hC hF hI H locs ls hP hS hl) (fun h => kf h p l e s m args below meth c G cA ad hC hF hI H locs ls hP hS hl)
  | ne => exact lv_icmp_ne hC.1 hC.2.1 hd ht (fun h => kt h p l e s m args below meth c G cA ad hC hF hI H locs ls hP hS hl) (fun h => kf h p l e s m args below meth c G cA ad hC hF hI H locs ls hP hS hl)
  | lt => exact lv_icmp_lt hC.1 hC.2.1 hd ht (fun h => kt h p l e s m args below meth c G cA ad hC hF hI H locs ls hP hS hl) (fun h => kf h p l e s m args below meth c G cA ad hC hF hI H locs ls hP hS hl)
  | ge => exact lv_icmp_ge hC.1 hC.2.1 hd ht (fun h => kt h p l e s m args below meth c G cA ad hC hF hI H locs ls hP hS hl) (fun h => kf h p l e s m args below meth c G cA ad hC hF hI H locs ls hP hS hl)
  | gt => exact lv_icmp_gt hC.1 hC.2.1 hd ht (fun h => kt h p l e s m args below meth c G cA ad hC hF hI H locs ls hP hS hl) (fun h => kf h p l e s m args below meth c G cA ad hC hF hI H locs ls hP hS hl)
  | le => exact lv_icmp_le hC.1 hC.2.1 hd ht (fun h => kt h p l e s m args below meth c G cA ad hC hF hI H locs ls hP hS hl) (fun h => kf h p l e s m args below meth c G cA ad hC hF hI H locs ls hP hS hl)
theorem z_goto {μ : MI} {d : Nat} {Q : Option Value → Wd → Prop} {pc : Nat} {lv : List (Nat × Value)} {st : List Value} {w : Wd} {off : Int} {tgt : Nat} (hd : decode (mB μ) pc = .ok (.goto off, 3)) (ht : (pc : Int) + off = (tgt : Int)) (k : Z μ d Q tgt lv st w) : Z μ d Q pc lv st w := fun p l e s m args below meth c G cA ad hC hF hI H locs ls hP hS hl => lv_goto hC.1 hC.2.1 hd ht (k p l e s m args below meth c G cA ad hC hF hI H locs ls hP hS hl)
theorem iI_of {x : Int32} {v : Int} (h : x.toInt = v) : x = iI v := by
  rw [← iI_eq, ← h, Int32.ofInt_toInt]
theorem iI_ne {x : Int32} {v : Int} (h1 : -2147483648 ≤ v) (h2 : v < 2147483648) (h : ¬ x.toInt = v) : ¬ x = iI v := fun e => h (by rw [e]; exact iI_toInt h1 h2)
theorem sw_key {μ : MI} {d : Nat} {Q : Option Value → Wd → Prop} {pc : Nat} {lv : List (Nat × Value)} {st : List Value} {w : Wd} {x : Int32} {df : Int} : ∀ (l : List Int) (v : Int), -2147483648 ≤ v → v + (l.length : Int) ≤ 2147483648 → swc x df pc (fun t => Z μ d Q t lv st w) (tab v l) → (∃ (j : Nat) (off : Int) (tg : Nat), l[j]? = some off ∧ x.toInt = v + (j : Int) ∧ (pc : Int) + off = (tg : Int) ∧ Z μ d Q tg lv st w) ∨ ((∀ j : Nat, j < l.length → ¬ x.toInt = v + (j : Int)) ∧ ∃ tg : Nat, (pc : Int) + df = (tg : Int) ∧ Z μ d Q tg lv st w) := by
  intro l
  induction l with
  | nil =>
    intro v _ _ h
    obtain ⟨tg, a, b⟩ := jp_inv h
    exact Or.inr ⟨fun j hj => absurd hj (Nat.not_lt_zero j), tg, a, b⟩
  | cons a t ih =>
    intro v r1 r2 h
    obtain ⟨tg, hj, h1, h2⟩ := jp_inv h
    simp only [List.length_cons] at r2
    by_cases hx : x.toInt = v
    · exact Or.inl ⟨0, a, tg, rfl, by simpa using hx, hj, h1 (iI_of hx)⟩
    · rcases ih (v + 1) (by omega) (by omega) (h2 (iI_ne r1 (by omega) hx)) with ⟨j, off, tg2, q1, q2, q3, q4⟩ | ⟨q1, tg2, q3, q4⟩
      · exact Or.inl ⟨j + 1, off, tg2, by simpa using q1, by omega, q3, q4⟩
      · refine Or.inr ⟨fun j hj => ?_, tg2, q3, q4⟩
        cases j with
        | zero => simpa using hx
        | succ j =>
          have h9 := q1 j (by simpa using hj)
          omega
theorem z_table {μ : MI} {d : Nat} {Q : Option Value → Wd → Prop} {pc : Nat} {lv : List (Nat × Value)} {st : List Value} {w : Wd} {x : Int32} {df lo hi : Int} {os : Array Int} {len : Nat} (hd : decode (mB μ) pc = .ok (.tableswitch df lo hi os, len)) (h1 : lo + (os.size : Int) = hi + 1) (h2 : -2147483649 < lo) (h3 : hi < 2147483648) (h : swc x df pc (fun t => Z μ d Q t lv st w) (tab lo os.toList)) : Z μ d Q pc lv (.int x :: st) w := by
  have hl : (os.toList.length : Int) = (os.size : Int) := by rw [Array.length_toList]
  rcases sw_key os.toList lo (by omega) (by omega) h with ⟨j, off, tg, q1, q2, q3, q4⟩ | ⟨q1, tg, q3, q4⟩
  · have hj : j < os.toList.length := (List.getElem?_eq_some_iff.mp q1).1
    intro p l e s m args below meth c G cA ad hC hF hI H locs ls hP hS hl
    refine lv_tableIn (off := off) hC.1 hC.2.1 hd (by omega) (by omega) ?_ q3 (q4 p l e s m args below meth c G cA ad hC hF hI H locs ls hP hS hl)
    have e1 : (x.toInt - lo).toNat = j := by omega
    rw [e1, ← Array.getElem?_toList]
    exact q1
  · intro p l e s m args below meth c G cA ad hC hF hI H locs ls hP hS hl2
    refine lv_tableOut hC.1 hC.2.1 hd ?_ q3 (q4 p l e s m args below meth c G cA ad hC hF hI H locs ls hP hS hl2)
    by_cases hz : x.toInt < lo
    · exact Or.inl hz
    · refine Or.inr ?_
      by_cases hy : hi < x.toInt
      · exact hy
      · exact absurd (by omega) (q1 (x.toInt - lo).toNat (by omega))
theorem sl_key {μ : MI} {d : Nat} {Q : Option Value → Wd → Prop} {pc : Nat} {lv : List (Nat × Value)} {st : List Value} {w : Wd} {x : Int32} {df : Int} : ∀ (l : List (Int × Int)), (∀ q ∈ l, -2147483649 < q.1 ∧ q.1 < 2147483648) → swc x df pc (fun t => Z μ d Q t lv st w) l → ∃ tg : Nat, (pc : Int) + Op.lookupswitch.offset l df x.toInt = (tg : Int) ∧ Z μ d Q tg lv st w := by
  intro l
  induction l with
  | nil =>
    intro _ h
    obtain ⟨tg, a, b⟩ := jp_inv h
    exact ⟨tg, a, b⟩
  | cons a t ih =>
    intro r h
    obtain ⟨tg, hj, h1, h2⟩ := jp_inv h
    obtain ⟨k, off⟩ := a
    have hr := r (k, off) List.mem_cons_self
    dsimp only at hr h1 h2 hj
    by_cases hx : k = x.toInt
    · exact ⟨tg, by rw [Op.lookupswitch.offset_cons, if_pos hx]; exact hj, h1 (iI_of hx.symm)⟩
    · obtain ⟨t2, a1, a2⟩ := ih (fun q hq => r q (List.mem_cons_of_mem _ hq)) (h2 (iI_ne (by omega) hr.2 (fun e => hx e.symm)))
      exact ⟨t2, by rw [Op.lookupswitch.offset_cons, if_neg hx]; exact a1, a2⟩
theorem z_lookup {μ : MI} {d : Nat} {Q : Option Value → Wd → Prop} {pc : Nat} {lv : List (Nat × Value)} {st : List Value} {w : Wd} {x : Int32} {df : Int} {ps : Array (Int × Int)} {len : Nat} (hd : decode (mB μ) pc = .ok (.lookupswitch df ps, len)) (h1 : (ps.toList.zip (ps.toList.drop 1)).all (fun (a, next) => a.1 < next.1) = true) (h2 : ∀ q ∈ ps.toList, -2147483649 < q.1 ∧ q.1 < 2147483648) (h : swc x df pc (fun t => Z μ d Q t lv st w) ps.toList) : Z μ d Q pc lv (.int x :: st) w := by
  obtain ⟨tg, a1, a2⟩ := sl_key ps.toList h2 h
  intro p l e s m args below meth c G cA ad hC hF hI H locs ls hP hS hl
  exact lv_lookup hC.1 hC.2.1 hd h1 rfl a1 (a2 p l e s m args below meth c G cA ad hC hF hI H locs ls hP hS hl)
theorem swc_mono {x : Int32} {df : Int} {pc : Nat} {K K' : Nat → Prop} (hk : ∀ t, K t → K' t) : ∀ l : List (Int × Int), swc x df pc K l → swc x df pc K' l := by
  intro l
  induction l with
  | nil =>
    intro h
    obtain ⟨tg, a, b⟩ := jp_inv h
    unfold swc jp
    rw [a]
    exact hk _ b
  | cons a t ih =>
    intro h
    obtain ⟨tg, hj, h1, h2⟩ := jp_inv h
    unfold swc jp
    rw [hj]
    exact ⟨fun e => hk _ (h1 e), fun e => ih (h2 e)⟩
theorem z_get {μ : MI} {d : Nat} {Q : Option Value → Wd → Prop} {pc : Nat} {lv : List (Nat × Value)} {st : List Value} {w : Wd} {x a : Nat} {q : Nat × Nat} {v : Value} (ho : (mY μ).cls = clN.getD (mK μ) "") (hd : decode (mB μ) pc = .ok (.getfield x, 3)) (hx : tget (FR (mK μ)) x = some q) (hg : gv w a q.1 q.2 = some v) (k : Z μ d Q (pc + 3) lv (v :: st) w) : Z μ d Q pc lv (.ref a :: st) w := by
  intro p l e s m args below meth c G cA ad hC hF hI H locs ls hP hS hl
  obtain ⟨C, Tb, N, h1, h2, h3, h4⟩ := FR_ok _ _ (tget_mem hx)
  obtain ⟨fs, o, g1, g2, g3⟩ := gv_inv hg
  have he := wsl_at (ad := ad) (cA := cA) (w := w) g1
  refine va_get (D := G) (cl := vwCl) (C := C) (T := Tb) (N := N) (ci := q.1) (v := cv ad v) (fs := fs.mapIdx (fv ad w a)) hC.1 hC.2.1 hC.2.2.2.2.2.1 (fun z hz => in_ws (h4 z hz)) hC.2.2.2.2.1 hF.1 hP a he h1 q.2 h2 (hC.2.2.2.2.2.1 _ (in_ws (by rw [ho]; exact h3))) (fun _ h9 => h9) ?_ hd (k p l e s m args below meth c G cA ad hC hF hI H locs ls hP hS hl)
  rw [List.getElem?_mapIdx, g2, g3]
  rfl
theorem z_put {μ : MI} {d : Nat} {Q : Option Value → Wd → Prop} {pc : Nat} {lv : List (Nat × Value)} {st : List Value} {w : Wd} {x a : Nat} {q : Nat × Nat × Nat} {v : Int32} (ho : (mY μ).cls = clN.getD (mK μ) "") (hd : decode (mB μ) pc = .ok (.putfield x, 3)) (hx : tget (PR (mK μ)) x = some q) (hg : gp a q.1 q.2.1 = true) (hv : q.2.2 = 0 ∨ v = 0 ∨ v = 1) (k : Z μ d Q (pc + 3) lv st (up1 w a q.2.1 v)) : Z μ d Q pc lv (.int v :: .ref a :: st) w := by
  intro p l e s m args below meth c G cA ad hC hF hI H locs ls hP hS hl
  obtain ⟨C, Tb, N, ty0, h1, h2, h3, h4, h5, h6, h7, h8⟩ := PR_ok _ _ (tget_mem hx)
  obtain ⟨fs, g1, g2⟩ := gp_inv hg
  have he := wsl_at (ad := ad) (cA := cA) (w := w) g1
  have hD := wsl_D (cA := cA) (w := w) (sz := s.heap.size) hI
  have hfl : q.2.1 < fs.length := (List.getElem?_eq_some_iff.mp g2).1
  refine va_put (D := G) (cl := vwCl) (C := C) (T := Tb) (N := N) (ci := q.1) (v := .int v) (fs := fs.mapIdx (fv ad w a)) hC.1 hC.2.1 hC.2.2.2.2.2.1 (fun z hz => in_ws (h4 z hz)) ty0 h5 h6 hC.2.2.2.2.1 hF.1 hP hD hS a he h1 q.2.1 h2 (hC.2.2.2.2.2.1 _ (in_ws (by rw [ho]; exact h3))) (fun _ h9 => h9) h7 h8 ?_ ?_ (by simpa using hfl) hd (fun H1 locs1 hP1 hD1 hS1 => ?_)
  · rcases hv with hv | rfl | rfl
    · dsimp only at hv ⊢
      rw [if_pos hv]; rfl
    · dsimp only
      split <;> rfl
    · dsimp only
      split <;> rfl
  · rcases hv with hv | rfl | rfl
    · dsimp only at hv ⊢
      rw [if_pos hv]; rfl
    · dsimp only
      split <;> rfl
    · dsimp only
      split <;> rfl
  · have e9 : (wsl ad cA w).set a (ad a, .inr (q.1, (fs.mapIdx (fv ad w a)).set q.2.1 (.int v))) = wsl ad cA (up1 w a q.2.1 v) := wsl_set g1 (by rw [set_fld g2]; rfl) up1_off (fun _ _ => rfl)
    rw [e9] at hP1
    exact k p l e s m args below meth c G cA ad hC hF hI H1 locs1 ls hP1 hS1 hl
theorem nI_vp {j n : Nat} (h : j < n) (hn : n < 2 ^ 31) : vp_in (nI j) n ∧ (nI j).toNatClampNeg = j := ⟨vp_in_nI h hn, nI_clamp (by omega)⟩
theorem z_ret {μ : MI} {d : Nat} {Q : Option Value → Wd → Prop} {pc : Nat} {lv : List (Nat × Value)} {st : List Value} {w : Wd} {v : Int32} {ty : FieldType} (hd : decode (mB μ) pc = .ok (.ireturn, 1)) (hr : mR μ = some ty) (hn : narrow ty (.int v) = .int v) (h : Q (some (.int v)) w) : Z μ d Q pc lv [.int v] w := by
  intro p l e s m args below meth c G cA ad hC hF hI H locs ls hP hS hl
  have hlocks := hC.2.2.2.2.2.2
  exact W.zret (Qc := Qw G cA ad s.heap.size Q) hC.1 hC.2.1 (hC.2.2.1.trans hr) hn (fun t ht hW => ⟨⟨some (.int v), w, rfl, h, by rw [ht]; exact hP⟩, hS.F ht⟩) hS.2.2 hd
theorem z_lret {μ : MI} {d : Nat} {Q : Option Value → Wd → Prop} {pc : Nat} {lv : List (Nat × Value)} {st : List Value} {w : Wd} {v : Int64} (hd : decode (mB μ) pc = .ok (.lreturn, 1)) (hr : mR μ = some .long) (h : Q (some (.long v)) w) : Z μ d Q pc lv [.long v] w := by
  intro p l e s m args below meth c G cA ad hC hF hI H locs ls hP hS hl
  have hlocks := hC.2.2.2.2.2.2
  exact W.lret (Qc := Qw G cA ad s.heap.size Q) hC.1 hC.2.1 (hC.2.2.1.trans hr) (fun t ht hW => ⟨⟨some (.long v), w, rfl, h, by rw [ht]; exact hP⟩, hS.F ht⟩) hS.2.2 hd
theorem z_aret {μ : MI} {d : Nat} {Q : Option Value → Wd → Prop} {pc : Nat} {lv : List (Nat × Value)} {st : List Value} {w : Wd} {v : Nat} {n : String} (hd : decode (mB μ) pc = .ok (.areturn, 1)) (hr : mR μ = some (.object n)) (h : Q (some (.ref v)) w) : Z μ d Q pc lv [.ref v] w := by
  intro p l e s m args below meth c G cA ad hC hF hI H locs ls hP hS hl
  have hlocks := hC.2.2.2.2.2.2
  exact W.aret (Qc := Qw G cA ad s.heap.size Q) (v := .ref (ad v)) hC.1 hC.2.1 (hC.2.2.1.trans hr) (Or.inl ⟨n, rfl⟩) (Or.inr ⟨_, rfl⟩) (fun t ht hW => ⟨⟨some (.ref v), w, rfl, h, by rw [ht]; exact hP⟩, hS.F ht⟩) hS.2.2 hd
theorem z_vret {μ : MI} {d : Nat} {Q : Option Value → Wd → Prop} {pc : Nat} {lv : List (Nat × Value)} {st : List Value} {w : Wd} (hd : decode (mB μ) pc = .ok (.return_, 1)) (hr : mR μ = none) (h : Q none w) : Z μ d Q pc lv [] w := by
  intro p l e s m args below meth c G cA ad hC hF hI H locs ls hP hS hl
  have hlocks := hC.2.2.2.2.2.2
  exact W.vret (Qc := Qw G cA ad s.heap.size Q) hC.1 hC.2.1 (hC.2.2.1.trans hr) (fun t ht hW => ⟨⟨none, w, rfl, h, by rw [ht]; exact hP⟩, hS.F ht⟩) hS.2.2 hd
theorem z_iaload {μ : MI} {d : Nat} {Q : Option Value → Wd → Prop} {pc : Nat} {lv : List (Nat × Value)} {st : List Value} {w : Wd} {i : Int32} {a n j : Nat} (hd : decode (mB μ) pc = .ok (.iaload, 1)) (hg : ga a = some (.int, n)) (hi : i = nI j) (hj : j < n) (k : Z μ d Q (pc + 1) lv (.int (w.1 a j) :: st) w) : Z μ d Q pc lv (.int i :: .ref a :: st) w := by
  subst hi
  intro p l e s m args below meth c G cA ad hC hF hI H locs ls hP hS hl
  obtain ⟨g1, g2⟩ := ga_inv hg
  obtain ⟨v1, v2⟩ := nI_vp hj g2
  have he : (wsl ad cA w)[a]? = some (ad a, .inl (cA .int, n, .inl (w.1 a))) := wsl_at g1
  refine va_iald (D := G) (cl := vwCl) hC.1 hC.2.1 hF.1 hP a 0 he rfl v1 hd ?_
  rw [v2]
  exact k p l e s m args below meth c G cA ad hC hF hI H locs ls hP hS hl
theorem z_iastore {μ : MI} {d : Nat} {Q : Option Value → Wd → Prop} {pc : Nat} {lv : List (Nat × Value)} {st : List Value} {w : Wd} {i : Int32} {v : Int32} {a n j : Nat} (hd : decode (mB μ) pc = .ok (.iastore, 1)) (hg : ga a = some (.int, n)) (hi : i = nI j) (hj : j < n) (k : Z μ d Q (pc + 1) lv st (up1 w a j v)) : Z μ d Q pc lv (.int v :: .int i :: .ref a :: st) w := by
  subst hi
  intro p l e s m args below meth c G cA ad hC hF hI H locs ls hP hS hl
  obtain ⟨g1, g2⟩ := ga_inv hg
  obtain ⟨v1, v2⟩ := nI_vp hj g2
  have he : (wsl ad cA w)[a]? = some (ad a, .inl (cA .int, n, .inl (w.1 a))) := wsl_at g1
  have hD := wsl_D (cA := cA) (w := w) (sz := s.heap.size) hI
  refine va_iast (D := G) (cl := vwCl) hC.1 hC.2.1 hF.1 hP hD hS a 0 he rfl v1 hd (fun H1 locs1 hP1 hD1 hS1 => ?_)
  rw [v2] at hP1
  have e9 : (wsl ad cA w).set a (ad a, .inl (cA .int, n, .inl (upd (w.1 a) j v))) = wsl ad cA (up1 w a j v) := wsl_set g1 (by simp only [cont, up1_on]) up1_off (fun _ _ => rfl)
  rw [e9] at hP1
  exact k p l e s m args below meth c G cA ad hC hF hI H1 locs1 ls hP1 hS1 hl
theorem z_baload {μ : MI} {d : Nat} {Q : Option Value → Wd → Prop} {pc : Nat} {lv : List (Nat × Value)} {st : List Value} {w : Wd} {i : Int32} {a n j : Nat} (hd : decode (mB μ) pc = .ok (.baload, 1)) (hg : ga a = some (.boolean, n)) (hi : i = nI j) (hj : j < n) (k : Z μ d Q (pc + 1) lv (.int (w.1 a j) :: st) w) : Z μ d Q pc lv (.int i :: .ref a :: st) w := by
  subst hi
  intro p l e s m args below meth c G cA ad hC hF hI H locs ls hP hS hl
  obtain ⟨g1, g2⟩ := ga_inv hg
  obtain ⟨v1, v2⟩ := nI_vp hj g2
  have he : (wsl ad cA w)[a]? = some (ad a, .inl (cA .boolean, n, .inl (w.1 a))) := wsl_at g1
  refine va_zald (D := G) (cl := vwCl) hC.1 hC.2.1 hF.1 hP a 1 he rfl v1 hd ?_
  rw [v2]
  exact k p l e s m args below meth c G cA ad hC hF hI H locs ls hP hS hl
theorem z_bastore {μ : MI} {d : Nat} {Q : Option Value → Wd → Prop} {pc : Nat} {lv : List (Nat × Value)} {st : List Value} {w : Wd} {i : Int32} {v : Int32} {a n j : Nat} (hd : decode (mB μ) pc = .ok (.bastore, 1)) (hg : ga a = some (.boolean, n)) (hi : i = nI j) (hj : j < n) (hv : v = 0 ∨ v = 1) (k : Z μ d Q (pc + 1) lv st (up1 w a j v)) : Z μ d Q pc lv (.int v :: .int i :: .ref a :: st) w := by
  subst hi
  intro p l e s m args below meth c G cA ad hC hF hI H locs ls hP hS hl
  obtain ⟨g1, g2⟩ := ga_inv hg
  obtain ⟨v1, v2⟩ := nI_vp hj g2
  have he : (wsl ad cA w)[a]? = some (ad a, .inl (cA .boolean, n, .inl (w.1 a))) := wsl_at g1
  have hD := wsl_D (cA := cA) (w := w) (sz := s.heap.size) hI
  have hn : vp_nar .boolean v = v := by rcases hv with rfl | rfl <;> rfl
  refine va_zast (D := G) (cl := vwCl) hC.1 hC.2.1 hF.1 hP hD hS a 1 he rfl v1 hd (fun H1 locs1 hP1 hD1 hS1 => ?_)
  rw [v2, hn] at hP1
  have e9 : (wsl ad cA w).set a (ad a, .inl (cA .boolean, n, .inl (upd (w.1 a) j v))) = wsl ad cA (up1 w a j v) := wsl_set g1 (by simp only [cont, up1_on]) up1_off (fun _ _ => rfl)
  rw [e9] at hP1
  exact k p l e s m args below meth c G cA ad hC hF hI H1 locs1 ls hP1 hS1 hl
theorem z_caload {μ : MI} {d : Nat} {Q : Option Value → Wd → Prop} {pc : Nat} {lv : List (Nat × Value)} {st : List Value} {w : Wd} {i : Int32} {a n j : Nat} (hd : decode (mB μ) pc = .ok (.caload, 1)) (hg : ga a = some (.char, n)) (hi : i = nI j) (hj : j < n) (k : Z μ d Q (pc + 1) lv (.int (w.1 a j) :: st) w) : Z μ d Q pc lv (.int i :: .ref a :: st) w := by
  subst hi
  intro p l e s m args below meth c G cA ad hC hF hI H locs ls hP hS hl
  obtain ⟨g1, g2⟩ := ga_inv hg
  obtain ⟨v1, v2⟩ := nI_vp hj g2
  have he : (wsl ad cA w)[a]? = some (ad a, .inl (cA .char, n, .inl (w.1 a))) := wsl_at g1
  refine va_cald (D := G) (cl := vwCl) hC.1 hC.2.1 hF.1 hP a 2 he rfl v1 hd ?_
  rw [v2]
  exact k p l e s m args below meth c G cA ad hC hF hI H locs ls hP hS hl
theorem z_castore {μ : MI} {d : Nat} {Q : Option Value → Wd → Prop} {pc : Nat} {lv : List (Nat × Value)} {st : List Value} {w : Wd} {i : Int32} {v : Int32} {a n j : Nat} (hd : decode (mB μ) pc = .ok (.castore, 1)) (hg : ga a = some (.char, n)) (hi : i = nI j) (hj : j < n) (hv : ∃ j : Nat, j < 65536 ∧ v = nI j) (k : Z μ d Q (pc + 1) lv st (up1 w a j v)) : Z μ d Q pc lv (.int v :: .int i :: .ref a :: st) w := by
  subst hi
  intro p l e s m args below meth c G cA ad hC hF hI H locs ls hP hS hl
  obtain ⟨g1, g2⟩ := ga_inv hg
  obtain ⟨v1, v2⟩ := nI_vp hj g2
  have he : (wsl ad cA w)[a]? = some (ad a, .inl (cA .char, n, .inl (w.1 a))) := wsl_at g1
  have hD := wsl_D (cA := cA) (w := w) (sz := s.heap.size) hI
  have hn : vp_nar .char v = v := by
    obtain ⟨z, hz, rfl⟩ := hv
    have h9 := (pk_charN hz).1
    unfold vp_nar
    rw [h9]
  refine va_cast (D := G) (cl := vwCl) hC.1 hC.2.1 hF.1 hP hD hS a 2 he rfl v1 hd (fun H1 locs1 hP1 hD1 hS1 => ?_)
  rw [v2, hn] at hP1
  have e9 : (wsl ad cA w).set a (ad a, .inl (cA .char, n, .inl (upd (w.1 a) j v))) = wsl ad cA (up1 w a j v) := wsl_set g1 (by simp only [cont, up1_on]) up1_off (fun _ _ => rfl)
  rw [e9] at hP1
  exact k p l e s m args below meth c G cA ad hC hF hI H1 locs1 ls hP1 hS1 hl
theorem z_laload {μ : MI} {d : Nat} {Q : Option Value → Wd → Prop} {pc : Nat} {lv : List (Nat × Value)} {st : List Value} {w : Wd} {i : Int32} {a n j : Nat} (hd : decode (mB μ) pc = .ok (.laload, 1)) (hg : ga a = some (.long, n)) (hi : i = nI j) (hj : j < n) (k : Z μ d Q (pc + 1) lv (.long (w.2 a j) :: st) w) : Z μ d Q pc lv (.int i :: .ref a :: st) w := by
  subst hi
  intro p l e s m args below meth c G cA ad hC hF hI H locs ls hP hS hl
  obtain ⟨g1, g2⟩ := ga_inv hg
  obtain ⟨v1, v2⟩ := nI_vp hj g2
  have he : (wsl ad cA w)[a]? = some (ad a, .inl (cA .long, n, .inr (.inl (w.2 a)))) := wsl_at g1
  refine va_lald (D := G) (cl := vwCl) hC.1 hC.2.1 hF.1 hP a 3 he rfl v1 hd ?_
  rw [v2]
  exact k p l e s m args below meth c G cA ad hC hF hI H locs ls hP hS hl
theorem z_lastore {μ : MI} {d : Nat} {Q : Option Value → Wd → Prop} {pc : Nat} {lv : List (Nat × Value)} {st : List Value} {w : Wd} {i : Int32} {v : Int64} {a n j : Nat} (hd : decode (mB μ) pc = .ok (.lastore, 1)) (hg : ga a = some (.long, n)) (hi : i = nI j) (hj : j < n) (k : Z μ d Q (pc + 1) lv st (up2 w a j v)) : Z μ d Q pc lv (.long v :: .int i :: .ref a :: st) w := by
  subst hi
  intro p l e s m args below meth c G cA ad hC hF hI H locs ls hP hS hl
  obtain ⟨g1, g2⟩ := ga_inv hg
  obtain ⟨v1, v2⟩ := nI_vp hj g2
  have he : (wsl ad cA w)[a]? = some (ad a, .inl (cA .long, n, .inr (.inl (w.2 a)))) := wsl_at g1
  have hD := wsl_D (cA := cA) (w := w) (sz := s.heap.size) hI
  refine va_last (D := G) (cl := vwCl) hC.1 hC.2.1 hF.1 hP hD hS a 3 he rfl v1 hd (fun H1 locs1 hP1 hD1 hS1 => ?_)
  rw [v2] at hP1
  have e9 : (wsl ad cA w).set a (ad a, .inl (cA .long, n, .inr (.inl (vp_updL (w.2 a) j v)))) = wsl ad cA (up2 w a j v) := wsl_set g1 (by simp only [cont, up2_on]) (fun _ _ => rfl) up2_off
  rw [e9] at hP1
  exact k p l e s m args below meth c G cA ad hC hF hI H1 locs1 ls hP1 hS1 hl
theorem z_alen {μ : MI} {d : Nat} {Q : Option Value → Wd → Prop} {pc : Nat} {lv : List (Nat × Value)} {st : List Value} {w : Wd} {a : Nat} {q : FieldType × Nat} (hd : decode (mB μ) pc = .ok (.arraylength, 1)) (hg : ga a = some q) (hq : q.1 = .int ∨ q.1 = .boolean ∨ q.1 = .char ∨ q.1 = .long) (k : Z μ d Q (pc + 1) lv (.int (nI q.2) :: st) w) : Z μ d Q pc lv (.ref a :: st) w := by
  intro p l e s m args below meth c G cA ad hC hF hI H locs ls hP hS hl
  obtain ⟨g1, g2⟩ := ga_inv hg
  obtain ⟨ty, n⟩ := q
  have he := wsl_at (ad := ad) (cA := cA) (w := w) g1
  rcases hq with hq | hq | hq | hq <;> cases hq
  · exact va_alen (D := G) (cl := vwCl) hC.1 hC.2.1 hF.1 hP a 0 he rfl rfl hd (k p l e s m args below meth c G cA ad hC hF hI H locs ls hP hS hl)
  · exact va_alen (D := G) (cl := vwCl) hC.1 hC.2.1 hF.1 hP a 1 he rfl rfl hd (k p l e s m args below meth c G cA ad hC hF hI H locs ls hP hS hl)
  · exact va_alen (D := G) (cl := vwCl) hC.1 hC.2.1 hF.1 hP a 2 he rfl rfl hd (k p l e s m args below meth c G cA ad hC hF hI H locs ls hP hS hl)
  · exact va_alen (D := G) (cl := vwCl) hC.1 hC.2.1 hF.1 hP a 3 he rfl rfl hd (k p l e s m args below meth c G cA ad hC hF hI H locs ls hP hS hl)
theorem shp_tys : (shp.all fun x => match x with | .inr (.int, _) => true | .inr (.boolean, _) => true | .inr (.char, _) => true | .inr (.long, _) => true | .inr _ => false | _ => true) = true := by decide +kernel
theorem shp_ty {a : Nat} {q : FieldType × Nat} (h : ga a = some q) : q.1 = .int ∨ q.1 = .boolean ∨ q.1 = .char ∨ q.1 = .long := by
  obtain ⟨h1, -⟩ := ga_inv h
  have h3 := List.all_eq_true.mp shp_tys _ (List.mem_of_getElem? h1)
  obtain ⟨ty, n⟩ := q
  cases ty <;> first | exact Or.inl rfl | exact Or.inr (Or.inl rfl) | exact Or.inr (Or.inr (Or.inl rfl)) | exact Or.inr (Or.inr (Or.inr rfl)) | (cases h3)
theorem cl_name {k : Nat} {q : vw_C} (h : vwCl[k]? = some q) : q.1 = clN.getD k "" := by
  match k, h with
  | 0, h => cases h; rfl
  | 1, h => cases h; rfl
  | 2, h => cases h; rfl
  | 3, h => cases h; rfl
  | 4, h => cases h; rfl
  | 5, h => cases h; rfl
  | 6, h => cases h; rfl
  | 7, h => cases h; rfl
  | 8, h => cases h; rfl
  | 9, h => cases h; rfl
  | 10, h => cases h; rfl
  | 11, h => cases h; rfl
  | 12, h => cases h; rfl
  | k + 13, h => simp [vwCl] at h
theorem stW_le {st : List Value} (ad : Nat → Nat) (h : stW st = true) : ((st.map (cv ad)).map fun v => v.category).sum ≤ 8 := by
  have h9 := Nat.le_of_ble_eq_true h
  rw [List.map_map, show ((fun v : Value => v.category) ∘ cv ad) = (fun v => v.category) from funext (cv_cat ad)]
  exact h9
theorem z_copy {μ : MI} {d : Nat} {Q : Option Value → Wd → Prop} {pc : Nat} {lv : List (Nat × Value)} {st : List Value} {w : Wd} {x a b n0 n1 j0 j1 k : Nat} (ho : (mY μ).cls = clN.getD (mK μ) "") {i : Nat} (hd : decode (mB μ) pc = .ok (.invokestatic x, 3)) (hx : tget (MR (mK μ)) x = some (i, 3)) (ha : ga a = some (.int, n0)) (hb : ga b = some (.int, n1)) (h4 : j0 + k ≤ n0) (h5 : j1 + k ≤ n1) (hd0 : 0 < d) (hst : stW st = true) (kk : Z μ d Q (pc + 3) lv st (upA w b (va_cpy (w.1 a) (w.1 b) j0 j1 k))) : Z μ d Q pc lv (.int (nI k) :: .int (nI j1) :: .ref b :: .int (nI j0) :: .ref a :: st) w := by
  intro p l e s m args below meth c G cA ad hC hF hI H locs ls hP hS hl
  obtain ⟨g1, g2⟩ := ga_inv ha
  obtain ⟨g3, g4⟩ := ga_inv hb
  have hea : (wsl ad cA w)[a]? = some (ad a, .inl (cA .int, n0, .inl (w.1 a))) := wsl_at g1
  have heb : (wsl ad cA w)[b]? = some (ad b, .inl (cA .int, n1, .inl (w.1 b))) := wsl_at g3
  have hD := wsl_D (cA := cA) (w := w) (sz := s.heap.size) hI
  have hlk : Cond.methodLink (clN.getD (mK μ) "") x arraycopyName ∈ TT := MR_ok _ _ (tget_mem hx)
  have hts := hC.2.2.2.2.2.1
  dsimp only at g2 g4
  have c0 : (nI j0).toNatClampNeg = j0 := nI_clamp (by omega)
  have c1 : (nI j1).toNatClampNeg = j1 := nI_clamp (by omega)
  have c2 : (nI k).toNatClampNeg = k := nI_clamp (by omega)
  have hw := stW_le ad hst
  refine va_copyi (D := G) (cl := vwCl) (ty := .int) hC.1 hC.2.1 (hC.2.2.2.1.trans hl.1.symm) hC.2.2.2.2.1 (hts _ (in_ws (by rw [ho]; exact hlk))) (hts _ (in_ws tt_ac_n)) (hts _ (in_ws tt_ac_s)) (hts _ (in_ws tt_sys)) hF.1 hP hD hS a b 0 0 hea heb rfl rfl rfl (nI_pos (by omega)) (nI_pos (by omega)) (nI_pos (by omega)) (by rw [c0, c2]; exact h4) (by rw [c1, c2]; exact h5) (fun _ _ => rfl) (show 1 ≤ (rmD d).frames from hd0) ?_ hd (fun H1 locs1 hP1 hD1 hS1 => ?_)
  · have e1 : nativeFrameWords "java/lang/System" "arraycopy" 5 = 7 := by decide +kernel
    rw [e1]
    show _ ≤ 40 * d
    omega
  · rw [c0, c1, c2] at hP1
    have e9 : (wsl ad cA w).set b (ad b, .inl (cA .int, n1, .inl (va_cpy (w.1 a) (w.1 b) j0 j1 k))) = wsl ad cA (upA w b (va_cpy (w.1 a) (w.1 b) j0 j1 k)) := wsl_set g3 (by simp [cont, upA]) (fun z hz => by funext j; simp [upA, hz]) (fun _ _ => rfl)
    rw [e9] at hP1
    exact kk p l e s m args below meth c G cA ad hC hF hI H1 locs1 ls hP1 hS1 hl
theorem z_min {μ : MI} {d : Nat} {Q : Option Value → Wd → Prop} {pc : Nat} {lv : List (Nat × Value)} {st : List Value} {w : Wd} {x i : Nat} {u v : Int32} (ho : (mY μ).cls = clN.getD (mK μ) "") (hd : decode (mB μ) pc = .ok (.invokestatic x, 3)) (hx : tget (MR (mK μ)) x = some (i, 5)) (hd0 : 0 < d) (hst : stW st = true) (kk : Z μ d Q (pc + 3) lv (.int (if v < u then v else u) :: st) w) : Z μ d Q pc lv (.int v :: .int u :: st) w := by
  intro p l e s m args below meth c G cA ad hC hF hI H locs ls hP hS hl
  have hlk : Cond.methodLink (clN.getD (mK μ) "") x Lib.Math.min.name ∈ TT := MR_ok _ _ (tget_mem hx)
  have hts := hC.2.2.2.2.2.1
  have hw := stW_le ad hst
  exact va_mmin hC.1 hC.2.1 (hC.2.2.2.1.trans hl.1.symm) hC.2.2.2.2.1 (hts _ (in_ws (by rw [ho]; exact hlk))) (hts _ (in_ws tt_min_s)) (hts _ (in_ws tt_math)) (hts _ (in_ws tt_min_c)) (show 1 ≤ (rmD d).frames from hd0) (by show _ ≤ 40 * d; omega) (Nat.zero_le _) (Nat.zero_le _) hd (kk p l e s m args below meth c G cA ad hC hF hI H locs ls hP hS hl)
theorem z_max {μ : MI} {d : Nat} {Q : Option Value → Wd → Prop} {pc : Nat} {lv : List (Nat × Value)} {st : List Value} {w : Wd} {x i : Nat} {u v : Int32} (ho : (mY μ).cls = clN.getD (mK μ) "") (hd : decode (mB μ) pc = .ok (.invokestatic x, 3)) (hx : tget (MR (mK μ)) x = some (i, 6)) (hd0 : 0 < d) (hst : stW st = true) (kk : Z μ d Q (pc + 3) lv (.int (if u < v then v else u) :: st) w) : Z μ d Q pc lv (.int v :: .int u :: st) w := by
  intro p l e s m args below meth c G cA ad hC hF hI H locs ls hP hS hl
  have hlk : Cond.methodLink (clN.getD (mK μ) "") x Lib.Math.max.name ∈ TT := MR_ok _ _ (tget_mem hx)
  have hts := hC.2.2.2.2.2.1
  have hw := stW_le ad hst
  exact va_mmax hC.1 hC.2.1 (hC.2.2.2.1.trans hl.1.symm) hC.2.2.2.2.1 (hts _ (in_ws (by rw [ho]; exact hlk))) (hts _ (in_ws tt_max_s)) (hts _ (in_ws tt_math)) (hts _ (in_ws tt_max_c)) (show 1 ≤ (rmD d).frames from hd0) (by show _ ≤ 40 * d; omega) (Nat.zero_le _) (Nat.zero_le _) hd (kk p l e s m args below meth c G cA ad hC hF hI H locs ls hP hS hl)
theorem z_abs {μ : MI} {d : Nat} {Q : Option Value → Wd → Prop} {pc : Nat} {lv : List (Nat × Value)} {st : List Value} {w : Wd} {x i : Nat} {u : Int32} (ho : (mY μ).cls = clN.getD (mK μ) "") (hd : decode (mB μ) pc = .ok (.invokestatic x, 3)) (hx : tget (MR (mK μ)) x = some (i, 7)) (hd0 : 0 < d) (hst : stW st = true) (kk : Z μ d Q (pc + 3) lv (.int (if 0 ≤ u then u else 0 - u) :: st) w) : Z μ d Q pc lv (.int u :: st) w := by
  intro p l e s m args below meth c G cA ad hC hF hI H locs ls hP hS hl
  have hlk : Cond.methodLink (clN.getD (mK μ) "") x Lib.Math.abs.name ∈ TT := MR_ok _ _ (tget_mem hx)
  have hts := hC.2.2.2.2.2.1
  have hw := stW_le ad hst
  exact va_mabs hC.1 hC.2.1 (hC.2.2.2.1.trans hl.1.symm) hC.2.2.2.2.1 (hts _ (in_ws (by rw [ho]; exact hlk))) (hts _ (in_ws tt_abs_s)) (hts _ (in_ws tt_math)) (hts _ (in_ws tt_abs_c)) (show 1 ≤ (rmD d).frames from hd0) (by show _ ≤ 40 * d; omega) (Nat.zero_le _) (Nat.zero_le _) hd (kk p l e s m args below meth c G cA ad hC hF hI H locs ls hP hS hl)
/-- behind a call -/
theorem z_back {μ : MI} {d : Nat} {Q : Option Value → Wd → Prop} {pc : Nat} {lv : List (Nat × Value)} {st : List Value} {w : Wd} {as : List Value} {Q' : Option Value → Wd → Prop} {st0 : List Value}
    (hr : ∀ (p : Program) (l : Launch) (e : Env) (s : State) (m : MethodId) (args : Array Value) (below : List Frame) (meth : Method) (c : Code) (G : va_G) (cA : FieldType → ClassId) (ad : Nat → Nat), Cx μ p s m args meth c → Fx G cA ad s.heap.size s → Inj ad → ∀ (H : Heap) (locs : List Loc) (ls : Array Slot), va_P G vwCl (wsl ad cA w) H → va_S (AA ad s.heap.size) s.heap H locs → lv_has ls (mL μ) (lvc ad lv) →
      va_Run p l e (rmD d) s m args below meth c H locs 0 0 0 0 (F0 m pc ls (st0.map (cv ad))) (st.map (cv ad)) (Qw G cA ad H.size Q' (as.map (cv ad)).toArray) (AA ad H.size))
    (kk : ∀ (r : Option Value) (w' : Wd), Q' r w' → Z μ d Q (pc + 3) lv (r.toList ++ st) w') : Z μ d Q pc lv st0 w := by
  intro p l e s m args below meth c G cA ad hC hF hI H locs ls hP hS hl T hT X
  obtain ⟨v, st₀, t, T', L, h0, X', hL, e1, e2, ⟨⟨r, w', hv, hq, hP'⟩, hz, hk⟩, sg⟩ := hr p l e s m args below meth c G cA ad hC hF hI H locs ls hP hS hl T hT X
  have hv' : v = r.map (cv ad) := by cases hv; rfl
  subst hv'
  rw [h0] at hz hk
  have hn : ∀ q, AA ad H.size q → AA ad s.heap.size q := fun q hq => hq.elim Or.inl (fun z => Or.inr (Nat.le_trans hS.1 z))
  have hS' : va_S (AA ad s.heap.size) s.heap T'.heap (locs ++ L) := ⟨Nat.le_trans hS.1 (by rw [e1]; exact hz), fun q h1 h2 => by rw [e1, hk q (Nat.lt_of_lt_of_le h1 hS.1) (fun z => h2 (hn q z))]; exact hS.2.1 q h1 h2, fun q hq => by
      rcases List.mem_append.mp hq with h | h
      · exact hS.2.2 q h
      · exact hn _ (hL q h)⟩
  have hst : (r.map (cv ad)).toList ++ st.map (cv ad) = (r.toList ++ st).map (cv ad) := by cases r <;> rfl
  obtain ⟨t2, a1, b1⟩ := kk r w' hq p l e s m args below meth c G cA ad hC hF hI T'.heap (locs ++ L) ls (by rw [e1]; exact hP') hS' hl T' rfl X'
  rw [← hst] at a1
  exact ⟨t2, sg t2 a1, b1⟩
theorem Pw_blind {G : va_G} {cA : FieldType → ClassId} {ad : Nat → Nat} {sz : Nat} {as : List Value} {w : Wd} : FrameBlind (Pw G cA ad sz as w) := fun a U g mk h => by
  obtain ⟨h1, h2, h3, h4, h5⟩ := h
  exact ⟨h1, h2, h3, h4.calling g mk a, h5⟩
theorem good_ws {μ μ' : MI} (h : Cond.code (mY μ') (mB μ') (mL μ') (mR μ') ∈ TT) : GoodIn (wsM μ) (wsM μ') := by
  intro z hz
  rcases List.mem_cons.mp hz with e | hz
  · subst e
    exact ⟨in_ws h, tt_good h⟩
  · exact ⟨in_ws hz, tt_good hz⟩
theorem rm_fit {d L : Nat} (h : L ≤ 21) : (rmD d).frames + 1 ≤ (rmD (d + 1)).frames ∧ 8 + (L + 11) + (rmD d).locals ≤ (rmD (d + 1)).locals := by
  refine ⟨Nat.le_refl _, ?_⟩
  show 8 + (L + 11) + 40 * d ≤ 40 * (d + 1)
  omega
theorem cw_V {μ μ' : MI} {d x n : Nat} {s : State} {args : Array Value} (ho : (mY μ).cls = clN.getD (mK μ) "") (hts : ∀ w ∈ wsM μ, w.before args s = true) (hlk : Cond.methodLink (clN.getD (mK μ) "") x (mY μ') ∈ TT) (hM : MOK (μ', n, false)) : CallW (rmD (d + 1)) s args (mY μ).cls (mY μ').cls x (mY μ') (mB μ') (mL μ') (mR μ') (wsM μ') (rmD d) 0 0 n := by
  obtain ⟨m1, m2, m3, m4, m5, m67, m8, m9, m10⟩ := hM
  dsimp only at m1 m2 m3 m4 m5 m67 m8 m9 m10
  rw [if_neg (by decide)] at m67
  obtain ⟨m6, m7⟩ := m67
  refine cwV (Ts := wsM μ) n hts ?_ rfl rfl rfl ⟨rfl, m3, m4, m5⟩ (rm_fit m9)
  intro z hz
  rcases List.mem_append.mp hz with hz | hz
  · simp only [List.mem_cons, List.not_mem_nil, or_false] at hz
    rcases hz with e | e | e | e <;> subst e
    · rw [ho]; exact ⟨in_ws hlk, tt_good hlk⟩
    · exact ⟨in_ws m6, tt_good m6⟩
    · exact ⟨in_ws m7, tt_good m7⟩
    · exact ⟨in_ws m2, tt_good m2⟩
  · exact good_ws m1 z hz
theorem z_callV {μ : MI} {d : Nat} {Q : Option Value → Wd → Prop} {pc : Nat} {lv : List (Nat × Value)} {st : List Value} {w : Wd} {x b i n : Nat} {μ' : MI} {as : List Value} {Q' : Option Value → Wd → Prop} (ho : (mY μ).cls = clN.getD (mK μ) "") (hd : decode (mB μ) pc = .ok (.invokevirtual x, 3)) (hx : tget (MR (mK μ)) x = some (i, 0)) (hm : MT[i]? = some (μ', n, false)) (has : as.length = n) (hc : isC b (mK μ') = true) (hst : stW st = true) (hE : Ev μ' d (.ref b :: as) w Q')
    (kk : ∀ (r : Option Value) (w' : Wd), Q' r w' → Z μ (d + 1) Q (pc + 3) lv (r.toList ++ st) w') : Z μ (d + 1) Q pc lv (as.reverse ++ .ref b :: st) w := by
  refine z_back (as := .ref b :: as) (Q' := Q') ?_ kk
  intro p l e s m args below meth c G cA ad hC hF hI H locs ls hP hS hl
  have hM := MT_ok _ (List.mem_of_getElem? hm)
  obtain ⟨y, hy, hlk⟩ := MR_ok _ _ (tget_mem hx)
  cases hm.symm.trans hy
  obtain ⟨fs, g1⟩ := isC_inv hc
  have he : (wsl ad cA w)[b]? = some (ad b, .inr (mK μ', fs.mapIdx (fv ad w b))) := wsl_at g1
  obtain ⟨r0, h1, -⟩ := id (hP b _ he)
  have hq1 : r0.1 = (mY μ').cls := (cl_name h1).trans hM.2.2.2.2.2.2.2.2.symm
  refine va_runV (As := as.map (cv ad)) (b := ad b) (n := n) (nL := mL μ) (Ts := wsM μ) ⟨hC.1, hC.2.1, hC.2.2.2.1, hC.2.2.2.2.1, hC.2.2.2.2.2.1⟩ (hE l G cA ad H.size) (cw_V ho hC.2.2.2.2.2.1 hlk hM) ⟨Pw_blind, ?_, fun U hU hW => ⟨rfl, by rw [hU], by rw [hU]; exact hP, hF.go hS hU hW, hI⟩⟩ rfl (by simpa using has) hl.1 (by simp [List.map_reverse, cv]) (lv_room (stW_le ad hst)) hd ⟨Nat.zero_le _, Nat.zero_le _⟩
  rw [← hq1]
  exact va_recv hF.1 hP h1 he
theorem z_callS {μ : MI} {d : Nat} {Q : Option Value → Wd → Prop} {pc : Nat} {lv : List (Nat × Value)} {st : List Value} {w : Wd} {x i n kd : Nat} {μ' : MI} {as : List Value} {Q' : Option Value → Wd → Prop} (ho : (mY μ).cls = clN.getD (mK μ) "") (hd : decode (mB μ) pc = .ok (.invokestatic x, 3)) (hx : tget (MR (mK μ)) x = some (i, kd)) (hkd : kd = 1 ∨ kd = 2) (hm : MT[i]? = some (μ', n, true)) (has : as.length = n) (hst : stW st = true) (hE : Ev μ' d as w Q')
    (kk : ∀ (r : Option Value) (w' : Wd), Q' r w' → Z μ (d + 1) Q (pc + 3) lv (r.toList ++ st) w') : Z μ (d + 1) Q pc lv (as.reverse ++ st) w := by
  refine z_back (as := as) (Q' := Q') ?_ kk
  intro p l e s m args below meth c G cA ad hC hF hI H locs ls hP hS hl
  obtain ⟨m1, m2, m3, m4, m5, m6, m8, m9, m10⟩ := MT_ok _ (List.mem_of_getElem? hm)
  dsimp only at m1 m2 m3 m4 m5 m6 m8 m9 m10
  rw [if_pos rfl] at m6
  rcases hkd with rfl | rfl
  · obtain ⟨y, hy, hlk⟩ := MR_ok _ _ (tget_mem hx)
    cases hm.symm.trans hy
    have hcw : CallB (rmD (d + 1)) s args (mY μ).cls x (mY μ') (mB μ') (mL μ') (mR μ') (wsM μ') (rmD d) 0 0 n ∧ (Cond.static (mY μ')).before args s = true := by
      refine va_cwS (Ts := wsM μ) n hC.2.2.2.2.2.1 ?_ rfl rfl rfl ⟨m3, m4, m5⟩ (rm_fit m9)
      intro z hz
      rcases List.mem_append.mp hz with hz | hz
      · simp only [List.mem_cons, List.not_mem_nil, or_false] at hz
        rcases hz with e | e | e <;> subst e
        · rw [ho]; exact ⟨in_ws hlk, tt_good hlk⟩
        · exact ⟨in_ws m6, tt_good m6⟩
        · exact ⟨in_ws m2, tt_good m2⟩
      · exact good_ws m1 z hz
    exact va_runS (As := as.map (cv ad)) (n := n) (nL := mL μ) (Ts := wsM μ) ⟨hC.1, hC.2.1, hC.2.2.2.1, hC.2.2.2.2.1, hC.2.2.2.2.2.1⟩ (hE l G cA ad H.size) hcw ⟨Pw_blind, fun U hU hW => ⟨rfl, by rw [hU], by rw [hU]; exact hP, hF.go hS hU hW, hI⟩⟩ rfl (by simpa using has) hl.1 (by simp [List.map_reverse]) (lv_room (stW_le ad hst)) hd ⟨Nat.zero_le _, Nat.zero_le _⟩
  · obtain ⟨y, hy, host, hlk⟩ := MR_ok _ _ (tget_mem hx)
    cases hm.symm.trans hy
    have hN := hF.2.1 _ hlk
    dsimp only at hN
    rw [← ho] at hN
    have hcw : va_CN (rmD (d + 1)) s args (mY μ).cls x (mY μ') host (mB μ') (mL μ') (mR μ') (wsM μ') (rmD d) 0 0 n := va_cnB (Ts := wsM μ) n hC.2.2.2.2.2.1 (good_ws m1) rfl rfl rfl hN (hC.2.2.2.2.2.1 _ (in_ws m2)) ⟨m3, m4, m5⟩ (rm_fit m9)
    exact va_runSN (As := as.map (cv ad)) (n := n) (nL := mL μ) (Ts := wsM μ) ⟨hC.1, hC.2.1, hC.2.2.2.1, hC.2.2.2.2.1, hC.2.2.2.2.2.1⟩ (hE l G cA ad H.size) ⟨hcw, hC.2.2.2.2.2.1 _ (in_ws m6), trivial⟩ ⟨Pw_blind, fun U hU hW => ⟨rfl, by rw [hU], by rw [hU]; exact hP, hF.go hS hU hW, hI⟩⟩ rfl (by simpa using has) hl.1 (by simp [List.map_reverse]) (lv_room (stW_le ad hst)) hd ⟨Nat.zero_le _, Nat.zero_le _⟩
theorem z_callT {μ : MI} {d : Nat} {Q : Option Value → Wd → Prop} {pc : Nat} {lv : List (Nat × Value)} {st : List Value} {w : Wd} {x i n k : Nat} {μ' : MI} {as : List Value} {Q' : Option Value → Wd → Prop} (ho : (mY μ).cls = clN.getD (mK μ) "") (hd : decode (mB μ) pc = .ok (.invokevirtual x, 3)) (hx : tget (MR (mK μ)) x = some (i, 4)) (hm : MT[i]? = some (μ', n, false)) (has : as.length = n) (hk : k < 10) (hc : mK μ' = 17) (hst : stW st = true) (hE : Ev μ' d (.ref (200 + k) :: as) w Q')
    (kk : ∀ (r : Option Value) (w' : Wd), Q' r w' → Z μ (d + 1) Q (pc + 3) lv (r.toList ++ st) w') : Z μ (d + 1) Q pc lv (as.reverse ++ .ref (200 + k) :: st) w := by
  refine z_back (as := .ref (200 + k) :: as) (Q' := Q') ?_ kk
  intro p l e s m args below meth c G cA ad hC hF hI H locs ls hP hS hl
  have hM := MT_ok _ (List.mem_of_getElem? hm)
  obtain ⟨y, hy, hlk⟩ := MR_ok _ _ (tget_mem hx)
  cases hm.symm.trans hy
  have hcl : (mY μ').cls = "java/lang/String" := hM.2.2.2.2.2.2.2.2.trans (by dsimp only; rw [hc]; rfl)
  refine va_runV (As := as.map (cv ad)) (b := ad (200 + k)) (n := n) (nL := mL μ) (Ts := wsM μ) ⟨hC.1, hC.2.1, hC.2.2.2.1, hC.2.2.2.2.1, hC.2.2.2.2.2.1⟩ (hE l G cA ad H.size) (cw_V ho hC.2.2.2.2.2.1 hlk hM) ⟨Pw_blind, ?_, fun U hU hW => ⟨rfl, by rw [hU], by rw [hU]; exact hP, hF.go hS hU hW, hI⟩⟩ rfl (by simpa using has) hl.1 (by simp [List.map_reverse, cv]) (lv_room (stW_le ad hst)) hd ⟨Nat.zero_le _, Nat.zero_le _⟩
  rw [hcl]
  exact vk_recv (adK := fun k => ad (200 + k)) hF.2.2.2.1 hk hS
/-- a call by the type of its answer -/
theorem cal_inv {μ' : MI} {d : Nat} {as : List Value} {w : Wd} {K : List Value → Wd → Prop} (h : cal μ' d as w K) : ∃ (d' : Nat) (Q' : Option Value → Wd → Prop), d = d' + 1 ∧ Ev μ' d' as w Q' ∧ ∀ (r : Option Value) (w' : Wd), Q' r w' → K r.toList w' := by
  cases d with
  | zero => exact h.elim
  | succ d =>
    unfold cal at h
    dsimp only at h
    split at h
    · obtain ⟨Q, h1, h2⟩ := h
      exact ⟨d, _, rfl, h1, fun r w' hq => by
        cases r with
        | none => exact h2 w' hq
        | some v => exact hq.elim⟩
    · obtain ⟨Q, h1, h2⟩ := h
      exact ⟨d, _, rfl, h1, fun r w' hq => by
        cases r with
        | none => exact hq.elim
        | some v => cases v <;> first | exact h2 _ w' hq | exact hq.elim⟩
    · obtain ⟨Q, h1, h2⟩ := h
      exact ⟨d, _, rfl, h1, fun r w' hq => by
        cases r with
        | none => exact hq.elim
        | some v => cases v <;> first | exact h2 _ w' hq | exact hq.elim⟩
    · obtain ⟨Q, h1, h2⟩ := h
      exact ⟨d, _, rfl, h1, fun r w' hq => by
        cases r with
        | none => exact hq.elim
        | some v => cases v <;> first | exact h2 _ w' hq | exact hq.elim⟩
theorem rok_inv {ty : FieldType} {v : Int32} {P : Prop} (h : rok ty v P) : narrow ty (.int v) = .int v ∧ P := by
  unfold rok at h
  split at h
  · exact ⟨rfl, h⟩
  · refine ⟨?_, h.2⟩
    rcases h.1 with e | e <;> subst e <;> rfl
  · obtain ⟨⟨j, hj, rfl⟩, h⟩ := h
    exact ⟨(pk_charN hj).1, h⟩
  · exact h.elim
def ln : Instr → Nat
  | .aload_n _ | .iload_n _ | .lload_n _ | .istore_n _ | .lstore_n _ | .iconst _ | .lconst _ => 1
  | .aload _ | .iload _ | .lload _ | .istore _ | .lstore _ | .bipush _ | .ldc _ => 2
  | .iinc _ _ | .sipush _ | .ldc_w _ | .ldc2_w _ | .ifCond _ _ | .if_icmp _ _ | .goto _ | .getfield _ | .putfield _ | .invokevirtual _ | .invokestatic _ => 3
  | .tableswitch _ _ _ _ | .lookupswitch _ _ => 0
  | _ => 1
set_option maxHeartbeats 4000000 in
set_option maxRecDepth 100000 in
/-- ONE STEP IS SOUND -/
theorem stp_ok {μ : MI} {d : Nat} {Q : Option Value → Wd → Prop} {pc : Nat} {lv : List (Nat × Value)} {st : List Value} {w : Wd} (ho : (mY μ).cls = clN.getD (mK μ) "") {i : Instr} {len : Nat} {K : Nat → List (Nat × Value) → List Value → Wd → Prop} (hd : decode (mB μ) pc = .ok (i, len)) (hln : ln i = 0 ∨ len = ln i) (hK : ∀ pc lv st w, K pc lv st w → Z μ d Q pc lv st w) (h : stp μ d Q i pc lv st w K) : Z μ d Q pc lv st w := by
  have hl : ∀ {n : Nat}, ln i = n + 1 → decode (mB μ) pc = .ok (i, n + 1) := by
    intro n hn
    rcases hln with h9 | h9
    · omega
    · rw [hd, h9, hn]
  cases i with
  | iload_n k =>
    obtain ⟨v, hg, h⟩ := ldI_inv h; exact z_iload_n (hl rfl) hg (hK _ _ _ _ h)
  | iload k =>
    obtain ⟨v, hg, h⟩ := ldI_inv h; exact z_iload (hl rfl) hg (hK _ _ _ _ h)
  | lload_n k =>
    obtain ⟨v, hg, h⟩ := ldL_inv h; exact z_lload_n (hl rfl) hg (hK _ _ _ _ h)
  | lload k =>
    obtain ⟨v, hg, h⟩ := ldL_inv h; exact z_lload (hl rfl) hg (hK _ _ _ _ h)
  | aload_n k =>
    obtain ⟨v, hg, h⟩ := ldR_inv h; exact z_aload_n (hl rfl) hg (hK _ _ _ _ h)
  | aload k =>
    obtain ⟨v, hg, h⟩ := ldR_inv h; exact z_aload (hl rfl) hg (hK _ _ _ _ h)
  | istore_n k =>
    obtain ⟨v, t, rfl, h⟩ := pI_inv h; obtain ⟨hb, h⟩ := bo_inv h; exact z_istore_n (hl rfl) (Nat.le_of_ble_eq_true hb) (hK _ _ _ _ h)
  | istore k =>
    obtain ⟨v, t, rfl, h⟩ := pI_inv h; obtain ⟨hb, h⟩ := bo_inv h; exact z_istore (hl rfl) (Nat.le_of_ble_eq_true hb) (hK _ _ _ _ h)
  | lstore_n k =>
    obtain ⟨v, t, rfl, h⟩ := pL_inv h; obtain ⟨hb, h⟩ := bo_inv h; exact z_lstore_n (hl rfl) (Nat.le_of_ble_eq_true hb) (hK _ _ _ _ h)
  | lstore k =>
    obtain ⟨v, t, rfl, h⟩ := pL_inv h; obtain ⟨hb, h⟩ := bo_inv h; exact z_lstore (hl rfl) (Nat.le_of_ble_eq_true hb) (hK _ _ _ _ h)
  | iinc k n =>
    obtain ⟨v, hg, h⟩ := ldI_inv h; obtain ⟨hb, h⟩ := bo_inv h; exact z_iinc (hl rfl) hg (Nat.le_of_ble_eq_true hb) (hK _ _ _ _ h)
  | iconst n =>
    exact z_iconst (hl rfl) (hK _ _ _ _ h)
  | bipush n =>
    obtain ⟨hb, h⟩ := bo_inv h; rw [Bool.and_eq_true, decide_eq_true_eq, decide_eq_true_eq] at hb; exact z_bipush hb.1 hb.2 (hl rfl) (hK _ _ _ _ h)
  | sipush n =>
    obtain ⟨hb, h⟩ := bo_inv h; rw [Bool.and_eq_true, decide_eq_true_eq, decide_eq_true_eq] at hb; exact z_sipush hb.1 hb.2 (hl rfl) (hK _ _ _ _ h)
  | lconst n =>
    exact z_lconst (hl rfl) (hK _ _ _ _ h)
  | ldc x =>
    unfold stp at h; dsimp only at h; split at h
    · exact z_ldc ho (hl rfl) (by assumption) (hK _ _ _ _ h)
    · obtain ⟨k, hx, h⟩ := ot_inv h; exact z_ldcS ho (hl rfl) hx (hK _ _ _ _ h)
  | ldc_w x =>
    obtain ⟨v, hx, h⟩ := ot_inv h; exact z_ldc_w ho (hl rfl) hx (hK _ _ _ _ h)
  | ldc2_w x =>
    obtain ⟨v, hx, h⟩ := ot_inv h; exact z_ldc2 ho (hl rfl) hx (hK _ _ _ _ h)
  | iadd =>
    obtain ⟨y, t, rfl, h⟩ := pI_inv h; obtain ⟨x, t, rfl, h⟩ := pI_inv h; exact z_iadd (hl rfl) (hK _ _ _ _ h)
  | isub =>
    obtain ⟨y, t, rfl, h⟩ := pI_inv h; obtain ⟨x, t, rfl, h⟩ := pI_inv h; exact z_isub (hl rfl) (hK _ _ _ _ h)
  | imul =>
    obtain ⟨y, t, rfl, h⟩ := pI_inv h; obtain ⟨x, t, rfl, h⟩ := pI_inv h; exact z_imul (hl rfl) (hK _ _ _ _ h)
  | iand =>
    obtain ⟨y, t, rfl, h⟩ := pI_inv h; obtain ⟨x, t, rfl, h⟩ := pI_inv h; exact z_iand (hl rfl) (hK _ _ _ _ h)
  | ior =>
    obtain ⟨y, t, rfl, h⟩ := pI_inv h; obtain ⟨x, t, rfl, h⟩ := pI_inv h; exact z_ior (hl rfl) (hK _ _ _ _ h)
  | ishl =>
    obtain ⟨y, t, rfl, h⟩ := pI_inv h; obtain ⟨x, t, rfl, h⟩ := pI_inv h; exact z_ishl (hl rfl) (hK _ _ _ _ h)
  | ishr =>
    obtain ⟨y, t, rfl, h⟩ := pI_inv h; obtain ⟨x, t, rfl, h⟩ := pI_inv h; exact z_ishr (hl rfl) (hK _ _ _ _ h)
  | iushr =>
    obtain ⟨y, t, rfl, h⟩ := pI_inv h; obtain ⟨x, t, rfl, h⟩ := pI_inv h; exact z_iushr (hl rfl) (hK _ _ _ _ h)
  | idiv =>
    obtain ⟨y, t, rfl, h⟩ := pI_inv h; obtain ⟨x, t, rfl, h⟩ := pI_inv h; exact z_idiv h.1 (hl rfl) (hK _ _ _ _ h.2)
  | irem =>
    obtain ⟨y, t, rfl, h⟩ := pI_inv h; obtain ⟨x, t, rfl, h⟩ := pI_inv h; exact z_irem h.1 (hl rfl) (hK _ _ _ _ h.2)
  | ineg =>
    obtain ⟨x, t, rfl, h⟩ := pI_inv h; exact z_ineg (hl rfl) (hK _ _ _ _ h)
  | ladd =>
    obtain ⟨y, t, rfl, h⟩ := pL_inv h; obtain ⟨x, t, rfl, h⟩ := pL_inv h; exact z_ladd (hl rfl) (hK _ _ _ _ h)
  | lsub =>
    obtain ⟨y, t, rfl, h⟩ := pL_inv h; obtain ⟨x, t, rfl, h⟩ := pL_inv h; exact z_lsub (hl rfl) (hK _ _ _ _ h)
  | lmul =>
    obtain ⟨y, t, rfl, h⟩ := pL_inv h; obtain ⟨x, t, rfl, h⟩ := pL_inv h; exact z_lmul (hl rfl) (hK _ _ _ _ h)
  | land =>
    obtain ⟨y, t, rfl, h⟩ := pL_inv h; obtain ⟨x, t, rfl, h⟩ := pL_inv h; exact z_land (hl rfl) (hK _ _ _ _ h)
  | lor =>
    obtain ⟨y, t, rfl, h⟩ := pL_inv h; obtain ⟨x, t, rfl, h⟩ := pL_inv h; exact z_lor (hl rfl) (hK _ _ _ _ h)
  | lxor =>
    obtain ⟨y, t, rfl, h⟩ := pL_inv h; obtain ⟨x, t, rfl, h⟩ := pL_inv h; exact z_lxor (hl rfl) (hK _ _ _ _ h)
  | lshl =>
    obtain ⟨y, t, rfl, h⟩ := pI_inv h; obtain ⟨x, t, rfl, h⟩ := pL_inv h; exact z_lshl (hl rfl) (hK _ _ _ _ h)
  | lshr =>
    obtain ⟨y, t, rfl, h⟩ := pI_inv h; obtain ⟨x, t, rfl, h⟩ := pL_inv h; exact z_lshr (hl rfl) (hK _ _ _ _ h)
  | lushr =>
    obtain ⟨y, t, rfl, h⟩ := pI_inv h; obtain ⟨x, t, rfl, h⟩ := pL_inv h; exact z_lushr (hl rfl) (hK _ _ _ _ h)
  | lcmp =>
    obtain ⟨y, t, rfl, h⟩ := pL_inv h; obtain ⟨x, t, rfl, h⟩ := pL_inv h; exact z_lcmp (hl rfl) (hK _ _ _ _ h)
  | i2l =>
    obtain ⟨x, t, rfl, h⟩ := pI_inv h; exact z_i2l (hl rfl) (hK _ _ _ _ h)
  | l2i =>
    obtain ⟨x, t, rfl, h⟩ := pL_inv h; exact z_l2i (hl rfl) (hK _ _ _ _ h)
  | i2c =>
    obtain ⟨x, t, rfl, h⟩ := pI_inv h; exact z_i2c (hl rfl) (hK _ _ _ _ h)
  | dup =>
    cases st with
    | nil => exact h.elim
    | cons v t => obtain ⟨hb, h⟩ := bo_inv h; exact z_dup (Nat.eq_of_beq_eq_true hb) (hl rfl) (hK _ _ _ _ h)
  | pop =>
    cases st with
    | nil => exact h.elim
    | cons v t => obtain ⟨hb, h⟩ := bo_inv h; exact z_pop (Nat.eq_of_beq_eq_true hb) (hl rfl) (hK _ _ _ _ h)
  | dup2 =>
    match st, h with
    | v :: u :: t, h => obtain ⟨hb, h⟩ := bo_inv h; rw [Bool.and_eq_true] at hb; exact z_dup2 (Nat.eq_of_beq_eq_true hb.1) (Nat.eq_of_beq_eq_true hb.2) (hl rfl) (hK _ _ _ _ h)
    | [v], h => exact h.elim
    | [], h => exact h.elim
  | goto o =>
    obtain ⟨tg, hj, h⟩ := jp_inv h; exact z_goto (hl rfl) hj (hK _ _ _ _ h)
  | ifCond c o =>
    obtain ⟨x, t, rfl, h⟩ := pI_inv h; obtain ⟨tg, hj, h⟩ := jp_inv h; exact z_if (hl rfl) hj (fun hc => hK _ _ _ _ (h.1 hc)) (fun hc => hK _ _ _ _ (h.2 hc))
  | if_icmp c o =>
    obtain ⟨y, t, rfl, h⟩ := pI_inv h; obtain ⟨x, t, rfl, h⟩ := pI_inv h; obtain ⟨tg, hj, h⟩ := jp_inv h; exact z_icmp (hl rfl) hj (fun hc => hK _ _ _ _ (h.1 hc)) (fun hc => hK _ _ _ _ (h.2 hc))
  | iaload =>
    obtain ⟨i, t, rfl, h⟩ := pI_inv h; obtain ⟨a, t, rfl, h⟩ := pR_inv h; obtain ⟨q, hq, h⟩ := ot_inv h; obtain ⟨e1, ⟨j, hi, hj, k9⟩, -⟩ := aok_inv h; obtain ⟨ty, n⟩ := q; cases e1; exact z_iaload (hl rfl) hq hi hj (hK _ _ _ _ k9)
  | iastore =>
    obtain ⟨v, t, rfl, h⟩ := pI_inv h; obtain ⟨i, t, rfl, h⟩ := pI_inv h; obtain ⟨a, t, rfl, h⟩ := pR_inv h; obtain ⟨q, hq, h⟩ := ot_inv h; obtain ⟨e1, ⟨j, hi, hj, k9⟩, -⟩ := aok_inv h; obtain ⟨ty, n⟩ := q; cases e1; exact z_iastore (hl rfl) hq hi hj (hK _ _ _ _ k9)
  | baload =>
    obtain ⟨i, t, rfl, h⟩ := pI_inv h; obtain ⟨a, t, rfl, h⟩ := pR_inv h; obtain ⟨q, hq, h⟩ := ot_inv h; obtain ⟨e1, ⟨j, hi, hj, k9⟩, -⟩ := aok_inv h; obtain ⟨ty, n⟩ := q; cases e1; exact z_baload (hl rfl) hq hi hj (hK _ _ _ _ k9)
  | bastore =>
    obtain ⟨v, t, rfl, h⟩ := pI_inv h; obtain ⟨i, t, rfl, h⟩ := pI_inv h; obtain ⟨a, t, rfl, h⟩ := pR_inv h; obtain ⟨q, hq, h⟩ := ot_inv h; obtain ⟨e1, ⟨j, hi, hj, k9⟩, -⟩ := aok_inv h; obtain ⟨ty, n⟩ := q; cases e1; exact z_bastore (hl rfl) hq hi hj k9.1 (hK _ _ _ _ k9.2)
  | caload =>
    obtain ⟨i, t, rfl, h⟩ := pI_inv h; obtain ⟨a, t, rfl, h⟩ := pR_inv h; obtain ⟨q, hq, h⟩ := ot_inv h; obtain ⟨e1, ⟨j, hi, hj, k9⟩, -⟩ := aok_inv h; obtain ⟨ty, n⟩ := q; cases e1; exact z_caload (hl rfl) hq hi hj (hK _ _ _ _ k9)
  | castore =>
    obtain ⟨v, t, rfl, h⟩ := pI_inv h; obtain ⟨i, t, rfl, h⟩ := pI_inv h; obtain ⟨a, t, rfl, h⟩ := pR_inv h; obtain ⟨q, hq, h⟩ := ot_inv h; obtain ⟨e1, ⟨j, hi, hj, k9⟩, -⟩ := aok_inv h; obtain ⟨ty, n⟩ := q; cases e1; exact z_castore (hl rfl) hq hi hj k9.1 (hK _ _ _ _ k9.2)
  | laload =>
    obtain ⟨i, t, rfl, h⟩ := pI_inv h; obtain ⟨a, t, rfl, h⟩ := pR_inv h; obtain ⟨q, hq, h⟩ := ot_inv h; obtain ⟨e1, ⟨j, hi, hj, k9⟩, -⟩ := aok_inv h; obtain ⟨ty, n⟩ := q; cases e1; exact z_laload (hl rfl) hq hi hj (hK _ _ _ _ k9)
  | lastore =>
    obtain ⟨v, t, rfl, h⟩ := pL_inv h; obtain ⟨i, t, rfl, h⟩ := pI_inv h; obtain ⟨a, t, rfl, h⟩ := pR_inv h; obtain ⟨q, hq, h⟩ := ot_inv h; obtain ⟨e1, ⟨j, hi, hj, k9⟩, -⟩ := aok_inv h; obtain ⟨ty, n⟩ := q; cases e1; exact z_lastore (hl rfl) hq hi hj (hK _ _ _ _ k9)
  | tableswitch df lo hi os =>
    obtain ⟨x, t, rfl, h⟩ := pI_inv h; obtain ⟨hb, h⟩ := bo_inv h; rw [Bool.and_eq_true, Bool.and_eq_true, decide_eq_true_eq, decide_eq_true_eq, decide_eq_true_eq] at hb; exact z_table hd hb.1.1 hb.1.2 hb.2 (swc_mono (fun _ hh => hK _ _ _ _ hh) _ h)
  | lookupswitch df ps =>
    obtain ⟨x, t, rfl, h⟩ := pI_inv h; obtain ⟨hb, h⟩ := bo_inv h; rw [Bool.and_eq_true] at hb; exact z_lookup hd hb.1 (fun q hq => by have h9 := List.all_eq_true.mp hb.2 q hq; rw [Bool.and_eq_true, decide_eq_true_eq, decide_eq_true_eq] at h9; exact h9) (swc_mono (fun _ hh => hK _ _ _ _ hh) _ h)
  | getfield x =>
    obtain ⟨a, t, rfl, h⟩ := pR_inv h; obtain ⟨q, hx, h⟩ := ot_inv h; obtain ⟨v, hg, h⟩ := ot_inv h; exact z_get ho (hl rfl) hx hg (hK _ _ _ _ h)
  | putfield x =>
    obtain ⟨v, t, rfl, h⟩ := pI_inv h; obtain ⟨a, t, rfl, h⟩ := pR_inv h; obtain ⟨q, hx, h⟩ := ot_inv h; obtain ⟨hb, h⟩ := bo_inv h
    by_cases h0 : q.2.2 = 0
    · rw [if_pos h0] at h; exact z_put ho (hl rfl) hx hb (Or.inl h0) (hK _ _ _ _ h)
    · rw [if_neg h0] at h; exact z_put ho (hl rfl) hx hb (Or.inr h.1) (hK _ _ _ _ h.2)
  | arraylength =>
    obtain ⟨a, t, rfl, h⟩ := pR_inv h; obtain ⟨q, hq, h⟩ := ot_inv h; exact z_alen (hl rfl) hq (shp_ty hq) (hK _ _ _ _ h)
  | ireturn =>
    obtain ⟨v, rfl, h⟩ := pIs_inv h; obtain ⟨ty, hr, h⟩ := ot_inv h; obtain ⟨hn, h⟩ := rok_inv h; exact z_ret (st := []) (hl rfl) hr hn h
  | lreturn =>
    unfold stp at h; dsimp only at h; split at h
    · exact z_lret (st := []) (hl rfl) (by assumption) h
    · exact h.elim
  | areturn =>
    unfold stp at h; dsimp only at h; split at h
    · exact z_aret (st := []) (hl rfl) (by assumption) h
    · exact h.elim
  | return_ =>
    unfold stp at h; dsimp only at h; split at h
    · exact z_vret (st := []) (hl rfl) (by assumption) h
    · exact h.elim
  | invokevirtual x =>
    obtain ⟨q, hx, h21⟩ := ot_inv h
    obtain ⟨i, kd⟩ := q
    dsimp only at h21
    split at h21
    · obtain ⟨⟨μ', n, sb⟩, hm, h22⟩ := ot_inv h21
      obtain ⟨⟨as, rest⟩, hu, h23⟩ := ot_inv h22
      obtain ⟨b, t, hb2, h24⟩ := pR_inv h23
      obtain ⟨hb, h25⟩ := bo_inv h24
      dsimp only at hm hu hb2 hb h25
      rw [Bool.and_eq_true, Bool.and_eq_true] at hb
      obtain ⟨⟨hb3, hb4⟩, hb5⟩ := hb
      cases sb
      · obtain ⟨bs, e1, e2, e3⟩ := tkA_spec _ _ _ _ _ hu
        rw [List.append_nil] at e1
        subst e1
        subst hb2
        subst e2
        obtain ⟨d', Q', e4, hE, h26⟩ := cal_inv h25
        subst e4
        exact z_callV ho (hl rfl) hx hm e3 hb4 hb5 hE (fun r w' hq => hK _ _ _ _ (h26 r w' hq))
      · cases hb3
    · obtain ⟨⟨μ', n, sb⟩, hm, h27⟩ := ot_inv h21
      obtain ⟨⟨as, rest⟩, hu, h28⟩ := ot_inv h27
      obtain ⟨b, t, hb2, h29⟩ := pR_inv h28
      obtain ⟨⟨k, hk, hbk⟩, h30⟩ := h29
      obtain ⟨hb, h31⟩ := bo_inv h30
      dsimp only at hm hu hb2 hb h31
      rw [Bool.and_eq_true, Bool.and_eq_true] at hb
      obtain ⟨⟨hb3, hb4⟩, hb5⟩ := hb
      cases sb
      · obtain ⟨bs, e1, e2, e3⟩ := tkA_spec _ _ _ _ _ hu
        rw [List.append_nil] at e1
        subst e1
        subst hb2
        subst e2
        subst hbk
        obtain ⟨d', Q', e4, hE, h32⟩ := cal_inv h31
        subst e4
        exact z_callT ho (hl rfl) hx hm e3 hk (Nat.eq_of_beq_eq_true hb4) hb5 hE (fun r w' hq => hK _ _ _ _ (h32 r w' hq))
      · cases hb3
    · exact h21.elim
  | invokestatic x =>
    obtain ⟨q, hx, h21⟩ := ot_inv h
    obtain ⟨i, kd⟩ := q
    dsimp only at h21
    split at h21
    · obtain ⟨⟨μ', n, sb⟩, hm, h22⟩ := ot_inv h21
      obtain ⟨⟨as, rest⟩, hu, h23⟩ := ot_inv h22
      obtain ⟨hb, h24⟩ := bo_inv h23
      dsimp only at hm hu hb h24
      rw [Bool.and_eq_true] at hb
      obtain ⟨hb3, hb5⟩ := hb
      subst hb3
      obtain ⟨bs, e1, e2, e3⟩ := tkA_spec _ _ _ _ _ hu
      rw [List.append_nil] at e1
      subst e1
      subst e2
      obtain ⟨d', Q', e4, hE, h25⟩ := cal_inv h24
      subst e4
      exact z_callS ho (hl rfl) hx (Or.inl rfl) hm e3 hb5 hE (fun r w' hq => hK _ _ _ _ (h25 r w' hq))
    · obtain ⟨⟨μ', n, sb⟩, hm, h26⟩ := ot_inv h21
      obtain ⟨⟨as, rest⟩, hu, h27⟩ := ot_inv h26
      obtain ⟨hb, h28⟩ := bo_inv h27
      dsimp only at hm hu hb h28
      rw [Bool.and_eq_true] at hb
      obtain ⟨hb3, hb5⟩ := hb
      subst hb3
      obtain ⟨bs, e1, e2, e3⟩ := tkA_spec _ _ _ _ _ hu
      rw [List.append_nil] at e1
      subst e1
      subst e2
      obtain ⟨d', Q', e4, hE, h29⟩ := cal_inv h28
      subst e4
      exact z_callS ho (hl rfl) hx (Or.inr rfl) hm e3 hb5 hE (fun r w' hq => hK _ _ _ _ (h29 r w' hq))
    · obtain ⟨n, t, rfl, h30⟩ := pI_inv h21
      obtain ⟨dp, t, rfl, h31⟩ := pI_inv h30
      obtain ⟨b, t, rfl, h32⟩ := pR_inv h31
      obtain ⟨sp, t, rfl, h33⟩ := pI_inv h32
      obtain ⟨a, t, rfl, h34⟩ := pR_inv h33
      obtain ⟨qa, ha, h35⟩ := ot_inv h34
      obtain ⟨qb, hb, h36⟩ := ot_inv h35
      obtain ⟨e1, h36, -⟩ := aok_inv h36
      obtain ⟨e2, h36, -⟩ := aok_inv h36
      obtain ⟨hc, j0, j1, k, rfl, rfl, rfl, h4, h5, h37⟩ := bo_inv h36
      obtain ⟨ta, na⟩ := qa
      obtain ⟨tb, nb⟩ := qb
      cases e1
      cases e2
      rw [Bool.and_eq_true] at hc
      exact z_copy ho (hl rfl) hx ha hb h4 h5 (Nat.le_of_ble_eq_true hc.1) hc.2 (hK _ _ _ _ h37)
    · obtain ⟨y, t, rfl, h38⟩ := pI_inv h21
      obtain ⟨x, t, rfl, h39⟩ := pI_inv h38
      obtain ⟨hc, h40⟩ := bo_inv h39
      rw [Bool.and_eq_true] at hc
      exact z_min ho (hl rfl) hx (Nat.le_of_ble_eq_true hc.1) hc.2 (hK _ _ _ _ h40)
    · obtain ⟨y, t, rfl, h41⟩ := pI_inv h21
      obtain ⟨x, t, rfl, h42⟩ := pI_inv h41
      obtain ⟨hc, h43⟩ := bo_inv h42
      rw [Bool.and_eq_true] at hc
      exact z_max ho (hl rfl) hx (Nat.le_of_ble_eq_true hc.1) hc.2 (hK _ _ _ _ h43)
    · obtain ⟨x, t, rfl, h44⟩ := pI_inv h21
      obtain ⟨hc, h45⟩ := bo_inv h44
      rw [Bool.and_eq_true] at hc
      exact z_abs ho (hl rfl) hx (Nat.le_of_ble_eq_true hc.1) hc.2 (hK _ _ _ _ h45)
    · exact h21.elim
  | aaload => exact h.elim
  | aastore => exact h.elim
  | aconst_null => exact h.elim
  | anewarray x => exact h.elim
  | astore x => exact h.elim
  | astore_n x => exact h.elim
  | athrow => exact h.elim
  | checkcast x => exact h.elim
  | d2f => exact h.elim
  | d2i => exact h.elim
  | d2l => exact h.elim
  | dadd => exact h.elim
  | daload => exact h.elim
  | dastore => exact h.elim
  | dcmp x => exact h.elim
  | dconst x => exact h.elim
  | ddiv => exact h.elim
  | dload x => exact h.elim
  | dload_n x => exact h.elim
  | dmul => exact h.elim
  | dneg => exact h.elim
  | drem => exact h.elim
  | dreturn => exact h.elim
  | dstore x => exact h.elim
  | dstore_n x => exact h.elim
  | dsub => exact h.elim
  | dup_x1 => exact h.elim
  | dup_x2 => exact h.elim
  | dup2_x1 => exact h.elim
  | dup2_x2 => exact h.elim
  | f2d => exact h.elim
  | f2i => exact h.elim
  | f2l => exact h.elim
  | fadd => exact h.elim
  | faload => exact h.elim
  | fastore => exact h.elim
  | fcmp x => exact h.elim
  | fconst x => exact h.elim
  | fdiv => exact h.elim
  | fload x => exact h.elim
  | fload_n x => exact h.elim
  | fmul => exact h.elim
  | fneg => exact h.elim
  | frem => exact h.elim
  | freturn => exact h.elim
  | fstore x => exact h.elim
  | fstore_n x => exact h.elim
  | fsub => exact h.elim
  | getstatic x => exact h.elim
  | goto_w x => exact h.elim
  | i2b => exact h.elim
  | i2d => exact h.elim
  | i2f => exact h.elim
  | i2s => exact h.elim
  | if_acmp x y => exact h.elim
  | ifnonnull x => exact h.elim
  | ifnull x => exact h.elim
  | instanceof x => exact h.elim
  | invokedynamic x => exact h.elim
  | invokeinterface x y => exact h.elim
  | invokespecial x => exact h.elim
  | ixor => exact h.elim
  | jsr x => exact h.elim
  | jsr_w x => exact h.elim
  | l2d => exact h.elim
  | l2f => exact h.elim
  | ldiv => exact h.elim
  | lneg => exact h.elim
  | lrem => exact h.elim
  | monitorenter => exact h.elim
  | monitorexit => exact h.elim
  | multianewarray x y => exact h.elim
  | new x => exact h.elim
  | newarray x => exact h.elim
  | nop => exact h.elim
  | pop2 => exact h.elim
  | putstatic x => exact h.elim
  | ret x => exact h.elim
  | saload => exact h.elim
  | sastore => exact h.elim
  | swap => exact h.elim
end
section
/-! MANY STEPS: 'wp .. n pc': from pc on, up to a stop, at most n steps -/
abbrev Prog : Type := List (Nat × Instr)
def prOK (μ : MI) (P : Prog) : Bool := P.all fun q => match decode (mB μ) q.1 with
  | .ok (i, len) => decide (i = q.2) && (Nat.beq (ln i) 0 || Nat.beq len (ln i))
  | _ => false
def wp (μ : MI) (P : Prog) (S : List (Nat × List Nat)) (d : Nat) (Q : Option Value → Wd → Prop) : Nat → Nat → List (Nat × Value) → List Value → Wd → Prop
  | 0, _, _, _, _ => False
  | n + 1, pc, lv, st, w => ot (tget P pc) fun i => stp μ d Q i pc lv st w fun pc' lv' st' w' => match tget S pc' with
    | some ks => Z μ d Q pc' (lpick lv' ks) st' w'
    | none => wp μ P S d Q n pc' lv' st' w'
theorem z_pick {μ : MI} {d : Nat} {Q : Option Value → Wd → Prop} {pc : Nat} {lv : List (Nat × Value)} {st : List Value} {w : Wd} (ks : List Nat) (h : Z μ d Q pc (lpick lv ks) st w) : Z μ d Q pc lv st w :=
  fun p l e s m args below meth c G cA ad hC hF hI H locs ls hP hS hl => h p l e s m args below meth c G cA ad hC hF hI H locs ls hP hS (lvc_pick ks hl)
theorem wp_ok {μ : MI} {P : Prog} {S : List (Nat × List Nat)} {d : Nat} {Q : Option Value → Wd → Prop} (ho : (mY μ).cls = clN.getD (mK μ) "") (hP : prOK μ P = true) : ∀ (n pc : Nat) (lv : List (Nat × Value)) (st : List Value) (w : Wd), wp μ P S d Q n pc lv st w → Z μ d Q pc lv st w := by
  intro n
  induction n with
  | zero => intro pc lv st w h; exact h.elim
  | succ n ih =>
    intro pc lv st w h
    obtain ⟨i, hi, h⟩ := ot_inv h
    have h1 := List.all_eq_true.mp hP _ (tget_mem hi)
    dsimp only at h1
    split at h1
    · rename_i i2 len hd
      rw [Bool.and_eq_true, decide_eq_true_eq, Bool.or_eq_true] at h1
      obtain ⟨e1, h2⟩ := h1
      subst e1
      refine stp_ok ho hd (h2.imp Nat.eq_of_beq_eq_true Nat.eq_of_beq_eq_true) ?_ h
      intro pc' lv' st' w' hk
      split at hk
      · exact z_pick _ hk
      · exact ih _ _ _ _ hk
    · cases h1
end
section
def P_Lexicon_has : Prog := [(0, .iload_n 0), (1, .iconst 1), (2, .if_icmp .lt 13), (5, .iload_n 0), (6, .bipush 100), (8, .if_icmp .gt 7), (11, .iconst 1), (12, .goto 4), (15, .iconst 0), (16, .ireturn)]
theorem pr_Lexicon_has : prOK m_Lexicon_has P_Lexicon_has = true := by decide +kernel
def S_Lexicon_has : List (Nat × List Nat) := []
theorem ev_Lexicon_has {d : Nat} {w : Wd} {Q : Int32 → Wd → Prop} (x0 : Int32) (h : Z m_Lexicon_has d (qI Q) 0 [(0, .int x0)] [] w) : EvI m_Lexicon_has d [.int x0] w Q := Ev.ofZ (by decide +kernel) (Nat.le_of_ble_eq_true rfl) h
set_option maxRecDepth 20000 in
set_option maxHeartbeats 1000000 in
theorem vc_Lexicon_has_0 {d : Nat} {w : Wd} {Q : Int32 → Wd → Prop} (x0 : Int32) (h : ((x0 < (nI 1) → ((nI 0) = 0 ∨ (nI 0) = 1) ∧ Q (nI 0) w) ∧ (¬ x0 < (nI 1) → (((nI 100) < x0 → ((nI 0) = 0 ∨ (nI 0) = 1) ∧ Q (nI 0) w) ∧ (¬ (nI 100) < x0 → ((nI 1) = 0 ∨ (nI 1) = 1) ∧ Q (nI 1) w))))) : Z m_Lexicon_has d (qI Q) 0 [(0, .int x0)] [] w := wp_ok (P := P_Lexicon_has) (S := S_Lexicon_has) rfl pr_Lexicon_has 10 _ _ _ _ h
def P_Lexicon_setSort : Prog := [(0, .iload_n 1), (1, .invokestatic 18), (4, .ifCond .eq 13), (7, .iload_n 2), (8, .ifCond .lt 9), (11, .iload_n 2), (12, .bipush 10), (14, .if_icmp .lt 5), (17, .iconst 0), (18, .ireturn), (19, .aload_n 0), (20, .getfield 9), (23, .iload_n 1), (24, .iload_n 2), (25, .iastore), (26, .iconst 1), (27, .ireturn)]
theorem pr_Lexicon_setSort : prOK m_Lexicon_setSort P_Lexicon_setSort = true := by decide +kernel
def S_Lexicon_setSort : List (Nat × List Nat) := []
theorem ev_Lexicon_setSort {d : Nat} {w : Wd} {Q : Int32 → Wd → Prop} (x1 : Int32) (x2 : Int32) (h : Z m_Lexicon_setSort d (qI Q) 0 [(0, .ref 0), (1, .int x1), (2, .int x2)] [] w) : EvI m_Lexicon_setSort d [.ref 0, .int x1, .int x2] w Q := Ev.ofZ (by decide +kernel) (Nat.le_of_ble_eq_true rfl) h
set_option maxRecDepth 20000 in
set_option maxHeartbeats 1000000 in
theorem vc_Lexicon_setSort_0 {d : Nat} {w : Wd} {Q : Int32 → Wd → Prop} (x1 : Int32) (x2 : Int32) (h : ∃ Q1 : Int32 → Wd → Prop, EvI m_Lexicon_has d [.int x1] w Q1 ∧ ∀ (r1 : Int32) (w1 : Wd), Q1 r1 w1 → ((r1 = 0 → ((nI 0) = 0 ∨ (nI 0) = 1) ∧ Q (nI 0) w1) ∧ (¬ r1 = 0 → ((x2 < 0 → ((nI 0) = 0 ∨ (nI 0) = 1) ∧ Q (nI 0) w1) ∧ (¬ x2 < 0 → ((x2 < (nI 10) → ∃ j1 : Nat, x1 = nI j1 ∧ j1 < 101 ∧ ((nI 1) = 0 ∨ (nI 1) = 1) ∧ Q (nI 1) (up1 w1 1 j1 x2)) ∧ (¬ x2 < (nI 10) → ((nI 0) = 0 ∨ (nI 0) = 1) ∧ Q (nI 0) w1))))))) : Z m_Lexicon_setSort (d + 1) (qI Q) 0 [(0, .ref 0), (1, .int x1), (2, .int x2)] [] w := wp_ok (P := P_Lexicon_setSort) (S := S_Lexicon_setSort) rfl pr_Lexicon_setSort 16 _ _ _ _ h
def P_Lexicon_sortOf : Prog := [(0, .iload_n 1), (1, .invokestatic 18), (4, .ifCond .eq 12), (7, .aload_n 0), (8, .getfield 9), (11, .iload_n 1), (12, .iaload), (13, .goto 4), (16, .iconst (-1)), (17, .ireturn)]
theorem pr_Lexicon_sortOf : prOK m_Lexicon_sortOf P_Lexicon_sortOf = true := by decide +kernel
def S_Lexicon_sortOf : List (Nat × List Nat) := []
theorem ev_Lexicon_sortOf {d : Nat} {w : Wd} {Q : Int32 → Wd → Prop} (x1 : Int32) (h : Z m_Lexicon_sortOf d (qI Q) 0 [(0, .ref 0), (1, .int x1)] [] w) : EvI m_Lexicon_sortOf d [.ref 0, .int x1] w Q := Ev.ofZ (by decide +kernel) (Nat.le_of_ble_eq_true rfl) h
set_option maxRecDepth 20000 in
set_option maxHeartbeats 1000000 in
theorem vc_Lexicon_sortOf_0 {d : Nat} {w : Wd} {Q : Int32 → Wd → Prop} (x1 : Int32) (h : ∃ Q1 : Int32 → Wd → Prop, EvI m_Lexicon_has d [.int x1] w Q1 ∧ ∀ (r1 : Int32) (w1 : Wd), Q1 r1 w1 → ((r1 = 0 → Q (-nI 1) w1) ∧ (¬ r1 = 0 → ∃ j1 : Nat, x1 = nI j1 ∧ j1 < 101 ∧ Q (w1.1 1 j1) w1))) : Z m_Lexicon_sortOf (d + 1) (qI Q) 0 [(0, .ref 0), (1, .int x1)] [] w := wp_ok (P := P_Lexicon_sortOf) (S := S_Lexicon_sortOf) rfl pr_Lexicon_sortOf 10 _ _ _ _ h
def P_Lexicon_link : Prog := [(0, .iload_n 1), (1, .invokestatic 18), (4, .ifCond .eq 10), (7, .iload_n 2), (8, .invokestatic 18), (11, .ifCond .ne 5), (14, .iconst 0), (15, .ireturn), (16, .iload_n 1), (17, .iload_n 2), (18, .if_icmp .ne 12), (21, .aload_n 0), (22, .getfield 15), (25, .iload_n 1), (26, .iconst 0), (27, .iastore), (28, .iconst 1), (29, .ireturn), (30, .aload_n 0), (31, .iload_n 2), (32, .iload_n 1), (33, .invokevirtual 22), (36, .ifCond .eq 5), (39, .iconst 0), (40, .ireturn), (41, .aload_n 0), (42, .getfield 15), (45, .iload_n 1), (46, .iload_n 2), (47, .iastore), (48, .iconst 1), (49, .ireturn)]
theorem pr_Lexicon_link : prOK m_Lexicon_link P_Lexicon_link = true := by decide +kernel
def S_Lexicon_link : List (Nat × List Nat) := []
theorem ev_Lexicon_link {d : Nat} {w : Wd} {Q : Int32 → Wd → Prop} (x1 : Int32) (x2 : Int32) (h : Z m_Lexicon_link d (qI Q) 0 [(0, .ref 0), (1, .int x1), (2, .int x2)] [] w) : EvI m_Lexicon_link d [.ref 0, .int x1, .int x2] w Q := Ev.ofZ (by decide +kernel) (Nat.le_of_ble_eq_true rfl) h
set_option maxRecDepth 20000 in
set_option maxHeartbeats 1000000 in
theorem vc_Lexicon_link_0 {d : Nat} {w : Wd} {Q : Int32 → Wd → Prop} (x1 : Int32) (x2 : Int32) (h : ∃ Q1 : Int32 → Wd → Prop, EvI m_Lexicon_has d [.int x1] w Q1 ∧ ∀ (r1 : Int32) (w1 : Wd), Q1 r1 w1 → ((r1 = 0 → ((nI 0) = 0 ∨ (nI 0) = 1) ∧ Q (nI 0) w1) ∧ (¬ r1 = 0 → ∃ Q2 : Int32 → Wd → Prop, EvI m_Lexicon_has d [.int x2] w1 Q2 ∧ ∀ (r2 : Int32) (w2 : Wd), Q2 r2 w2 → ((¬ r2 = 0 → ((¬ x1 = x2 → ∃ Q3 : Int32 → Wd → Prop, EvI m_Lexicon_leadsTo d [.ref 0, .int x2, .int x1] w2 Q3 ∧ ∀ (r3 : Int32) (w3 : Wd), Q3 r3 w3 → ((r3 = 0 → ∃ j1 : Nat, x1 = nI j1 ∧ j1 < 101 ∧ ((nI 1) = 0 ∨ (nI 1) = 1) ∧ Q (nI 1) (up1 w3 2 j1 x2)) ∧ (¬ r3 = 0 → ((nI 0) = 0 ∨ (nI 0) = 1) ∧ Q (nI 0) w3))) ∧ (x1 = x2 → ∃ j2 : Nat, x1 = nI j2 ∧ j2 < 101 ∧ ((nI 1) = 0 ∨ (nI 1) = 1) ∧ Q (nI 1) (up1 w2 2 j2 (nI 0))))) ∧ (r2 = 0 → ((nI 0) = 0 ∨ (nI 0) = 1) ∧ Q (nI 0) w2))))) : Z m_Lexicon_link (d + 1) (qI Q) 0 [(0, .ref 0), (1, .int x1), (2, .int x2)] [] w := wp_ok (P := P_Lexicon_link) (S := S_Lexicon_link) rfl pr_Lexicon_link 22 _ _ _ _ h
def P_Lexicon_leadsTo : Prog := [(0, .iload_n 1), (1, .istore_n 3), (2, .iconst 0), (3, .istore 4), (5, .iload 4), (7, .bipush 100), (9, .if_icmp .ge 30), (12, .iload_n 3), (13, .invokestatic 18), (16, .ifCond .eq 23), (19, .iload_n 3), (20, .iload_n 2), (21, .if_icmp .ne 5), (24, .iconst 1), (25, .ireturn), (26, .aload_n 0), (27, .getfield 15), (30, .iload_n 3), (31, .iaload), (32, .istore_n 3), (33, .iinc 4 1), (36, .goto (-31)), (39, .iconst 0), (40, .ireturn)]
theorem pr_Lexicon_leadsTo : prOK m_Lexicon_leadsTo P_Lexicon_leadsTo = true := by decide +kernel
def S_Lexicon_leadsTo : List (Nat × List Nat) := [(5, [0, 1, 2, 3, 4])]
theorem ev_Lexicon_leadsTo {d : Nat} {w : Wd} {Q : Int32 → Wd → Prop} (x1 : Int32) (x2 : Int32) (h : Z m_Lexicon_leadsTo d (qI Q) 0 [(0, .ref 0), (1, .int x1), (2, .int x2)] [] w) : EvI m_Lexicon_leadsTo d [.ref 0, .int x1, .int x2] w Q := Ev.ofZ (by decide +kernel) (Nat.le_of_ble_eq_true rfl) h
set_option maxRecDepth 20000 in
set_option maxHeartbeats 1000000 in
theorem vc_Lexicon_leadsTo_0 {d : Nat} {w : Wd} {Q : Int32 → Wd → Prop} (x1 : Int32) (x2 : Int32) (h : Z m_Lexicon_leadsTo (d + 1) (qI Q) 5 [(0, .ref 0), (1, .int x1), (2, .int x2), (3, .int x1), (4, .int (nI 0))] [] w) : Z m_Lexicon_leadsTo (d + 1) (qI Q) 0 [(0, .ref 0), (1, .int x1), (2, .int x2)] [] w := wp_ok (P := P_Lexicon_leadsTo) (S := S_Lexicon_leadsTo) rfl pr_Lexicon_leadsTo 5 _ _ _ _ h
set_option maxRecDepth 20000 in
set_option maxHeartbeats 1000000 in
theorem vc_Lexicon_leadsTo_5 {d : Nat} {w : Wd} {Q : Int32 → Wd → Prop} (x1 : Int32) (x2 : Int32) (x3 : Int32) (x4 : Int32) (h : (((nI 100) ≤ x4 → ((nI 0) = 0 ∨ (nI 0) = 1) ∧ Q (nI 0) w) ∧ (¬ (nI 100) ≤ x4 → ∃ Q1 : Int32 → Wd → Prop, EvI m_Lexicon_has d [.int x3] w Q1 ∧ ∀ (r1 : Int32) (w1 : Wd), Q1 r1 w1 → ((r1 = 0 → ((nI 0) = 0 ∨ (nI 0) = 1) ∧ Q (nI 0) w1) ∧ (¬ r1 = 0 → ((¬ x3 = x2 → ∃ j1 : Nat, x3 = nI j1 ∧ j1 < 101 ∧ Z m_Lexicon_leadsTo (d + 1) (qI Q) 5 [(0, .ref 0), (1, .int x1), (2, .int x2), (3, .int (w1.1 2 j1)), (4, .int (x4 + nI 1))] [] w1) ∧ (x3 = x2 → ((nI 1) = 0 ∨ (nI 1) = 1) ∧ Q (nI 1) w1))))))) : Z m_Lexicon_leadsTo (d + 1) (qI Q) 5 [(0, .ref 0), (1, .int x1), (2, .int x2), (3, .int x3), (4, .int x4)] [] w := wp_ok (P := P_Lexicon_leadsTo) (S := S_Lexicon_leadsTo) rfl pr_Lexicon_leadsTo 17 _ _ _ _ h
def P_Lexicon_nameOf : Prog := [(0, .iload_n 1), (1, .invokestatic 18), (4, .ifCond .ne 5), (7, .iconst (-1)), (8, .ireturn), (9, .iload_n 1), (10, .istore_n 2), (11, .iconst 0), (12, .istore_n 3), (13, .iload_n 3), (14, .bipush 100), (16, .if_icmp .ge 28), (19, .aload_n 0), (20, .getfield 15), (23, .iload_n 2), (24, .iaload), (25, .invokestatic 18), (28, .ifCond .eq 16), (31, .aload_n 0), (32, .getfield 15), (35, .iload_n 2), (36, .iaload), (37, .istore_n 2), (38, .iinc 3 1), (41, .goto (-28)), (44, .iload_n 2), (45, .ireturn)]
theorem pr_Lexicon_nameOf : prOK m_Lexicon_nameOf P_Lexicon_nameOf = true := by decide +kernel
def S_Lexicon_nameOf : List (Nat × List Nat) := [(13, [0, 1, 2, 3])]
theorem ev_Lexicon_nameOf {d : Nat} {w : Wd} {Q : Int32 → Wd → Prop} (x1 : Int32) (h : Z m_Lexicon_nameOf d (qI Q) 0 [(0, .ref 0), (1, .int x1)] [] w) : EvI m_Lexicon_nameOf d [.ref 0, .int x1] w Q := Ev.ofZ (by decide +kernel) (Nat.le_of_ble_eq_true rfl) h
set_option maxRecDepth 20000 in
set_option maxHeartbeats 1000000 in
theorem vc_Lexicon_nameOf_0 {d : Nat} {w : Wd} {Q : Int32 → Wd → Prop} (x1 : Int32) (h : ∃ Q1 : Int32 → Wd → Prop, EvI m_Lexicon_has d [.int x1] w Q1 ∧ ∀ (r1 : Int32) (w1 : Wd), Q1 r1 w1 → ((¬ r1 = 0 → Z m_Lexicon_nameOf (d + 1) (qI Q) 13 [(0, .ref 0), (1, .int x1), (2, .int x1), (3, .int (nI 0))] [] w1) ∧ (r1 = 0 → Q (-nI 1) w1))) : Z m_Lexicon_nameOf (d + 1) (qI Q) 0 [(0, .ref 0), (1, .int x1)] [] w := wp_ok (P := P_Lexicon_nameOf) (S := S_Lexicon_nameOf) rfl pr_Lexicon_nameOf 8 _ _ _ _ h
set_option maxRecDepth 20000 in
set_option maxHeartbeats 1000000 in
theorem vc_Lexicon_nameOf_13 {d : Nat} {w : Wd} {Q : Int32 → Wd → Prop} (x1 : Int32) (x2 : Int32) (x3 : Int32) (h : (((nI 100) ≤ x3 → Q x2 w) ∧ (¬ (nI 100) ≤ x3 → ∃ j1 : Nat, x2 = nI j1 ∧ j1 < 101 ∧ ∃ Q1 : Int32 → Wd → Prop, EvI m_Lexicon_has d [.int (w.1 2 j1)] w Q1 ∧ ∀ (r1 : Int32) (w1 : Wd), Q1 r1 w1 → ((r1 = 0 → Q x2 w1) ∧ (¬ r1 = 0 → ∃ j2 : Nat, x2 = nI j2 ∧ j2 < 101 ∧ Z m_Lexicon_nameOf (d + 1) (qI Q) 13 [(0, .ref 0), (1, .int x1), (2, .int (w1.1 2 j2)), (3, .int (x3 + nI 1))] [] w1))))) : Z m_Lexicon_nameOf (d + 1) (qI Q) 13 [(0, .ref 0), (1, .int x1), (2, .int x2), (3, .int x3)] [] w := wp_ok (P := P_Lexicon_nameOf) (S := S_Lexicon_nameOf) rfl pr_Lexicon_nameOf 17 _ _ _ _ h
def P_Lexicon_fits : Prog := [(0, .iload_n 1), (1, .lookupswitch 65 #[(0, 27), (1, 38)]), (28, .iload_n 3), (29, .iload_n 2), (30, .if_icmp .ne 7), (33, .iconst 1), (34, .goto 4), (37, .iconst 0), (38, .ireturn), (39, .iload_n 3), (40, .iconst 1), (41, .if_icmp .lt 23), (44, .iload_n 3), (45, .bipush 100), (47, .if_icmp .gt 17), (50, .aload_n 0), (51, .getfield 9), (54, .iload_n 3), (55, .iaload), (56, .iload_n 2), (57, .if_icmp .ne 7), (60, .iconst 1), (61, .goto 4), (64, .iconst 0), (65, .ireturn), (66, .iconst 1), (67, .ireturn)]
theorem pr_Lexicon_fits : prOK m_Lexicon_fits P_Lexicon_fits = true := by decide +kernel
def S_Lexicon_fits : List (Nat × List Nat) := []
theorem ev_Lexicon_fits {d : Nat} {w : Wd} {Q : Int32 → Wd → Prop} (x1 : Int32) (x2 : Int32) (x3 : Int32) (h : Z m_Lexicon_fits d (qI Q) 0 [(0, .ref 0), (1, .int x1), (2, .int x2), (3, .int x3)] [] w) : EvI m_Lexicon_fits d [.ref 0, .int x1, .int x2, .int x3] w Q := Ev.ofZ (by decide +kernel) (Nat.le_of_ble_eq_true rfl) h
set_option maxRecDepth 20000 in
set_option maxHeartbeats 1000000 in
theorem vc_Lexicon_fits_0 {d : Nat} {w : Wd} {Q : Int32 → Wd → Prop} (x1 : Int32) (x2 : Int32) (x3 : Int32) (h : ((x1 = nI 0 → ((¬ x3 = x2 → ((nI 0) = 0 ∨ (nI 0) = 1) ∧ Q (nI 0) w) ∧ (x3 = x2 → ((nI 1) = 0 ∨ (nI 1) = 1) ∧ Q (nI 1) w))) ∧ (¬ x1 = nI 0 → ((x1 = nI 1 → ((x3 < (nI 1) → ((nI 0) = 0 ∨ (nI 0) = 1) ∧ Q (nI 0) w) ∧ (¬ x3 < (nI 1) → (((nI 100) < x3 → ((nI 0) = 0 ∨ (nI 0) = 1) ∧ Q (nI 0) w) ∧ (¬ (nI 100) < x3 → ∃ j1 : Nat, x3 = nI j1 ∧ j1 < 101 ∧ ((¬ (w.1 1 j1) = x2 → ((nI 0) = 0 ∨ (nI 0) = 1) ∧ Q (nI 0) w) ∧ ((w.1 1 j1) = x2 → ((nI 1) = 0 ∨ (nI 1) = 1) ∧ Q (nI 1) w))))))) ∧ (¬ x1 = nI 1 → ((nI 1) = 0 ∨ (nI 1) = 1) ∧ Q (nI 1) w))))) : Z m_Lexicon_fits d (qI Q) 0 [(0, .ref 0), (1, .int x1), (2, .int x2), (3, .int x3)] [] w := wp_ok (P := P_Lexicon_fits) (S := S_Lexicon_fits) rfl pr_Lexicon_fits 18 _ _ _ _ h
def P_Sentences_tell : Prog := [(0, .aload_n 0), (1, .getfield 25), (4, .bipush 16), (6, .if_icmp .lt 5), (9, .iconst (-1)), (10, .ireturn), (11, .aload_n 0), (12, .getfield 22), (15, .aload_n 0), (16, .getfield 25), (19, .iload_n 1), (20, .iastore), (21, .aload_n 0), (22, .dup), (23, .getfield 25), (26, .iconst 1), (27, .iadd), (28, .putfield 25), (31, .aload_n 0), (32, .getfield 25), (35, .ireturn)]
theorem pr_Sentences_tell : prOK m_Sentences_tell P_Sentences_tell = true := by decide +kernel
def S_Sentences_tell : List (Nat × List Nat) := []
theorem ev_Sentences_tell {d : Nat} {w : Wd} {Q : Int32 → Wd → Prop} (x1 : Int32) (h : Z m_Sentences_tell d (qI Q) 0 [(0, .ref 3), (1, .int x1)] [] w) : EvI m_Sentences_tell d [.ref 3, .int x1] w Q := Ev.ofZ (by decide +kernel) (Nat.le_of_ble_eq_true rfl) h
set_option maxRecDepth 20000 in
set_option maxHeartbeats 1000000 in
theorem vc_Sentences_tell_0 {d : Nat} {w : Wd} {Q : Int32 → Wd → Prop} (x1 : Int32) (h : (((w.1 3 4) < (nI 16) → ∃ j1 : Nat, (w.1 3 4) = nI j1 ∧ j1 < 16 ∧ Q ((w.1 3 4) + (nI 1)) (up1 (up1 w 7 j1 x1) 3 4 ((w.1 3 4) + (nI 1)))) ∧ (¬ (w.1 3 4) < (nI 16) → Q (-nI 1) w))) : Z m_Sentences_tell d (qI Q) 0 [(0, .ref 3), (1, .int x1)] [] w := wp_ok (P := P_Sentences_tell) (S := S_Sentences_tell) rfl pr_Sentences_tell 20 _ _ _ _ h
def P_Sentences_close : Prog := [(0, .aload_n 0), (1, .getfield 25), (4, .ifCond .eq 12), (7, .aload_n 0), (8, .getfield 29), (11, .bipush 40), (13, .if_icmp .lt 5), (16, .iconst (-1)), (17, .ireturn), (18, .aload_n 0), (19, .getfield 29), (22, .istore_n 1), (23, .aload_n 0), (24, .getfield 22), (27, .iconst 0), (28, .aload_n 0), (29, .getfield 9), (32, .iload_n 1), (33, .bipush 16), (35, .imul), (36, .aload_n 0), (37, .getfield 25), (40, .invokestatic 32), (43, .aload_n 0), (44, .getfield 15), (47, .iload_n 1), (48, .aload_n 0), (49, .getfield 25), (52, .iastore), (53, .aload_n 0), (54, .getfield 18), (57, .iload_n 1), (58, .iconst 1), (59, .bastore), (60, .aload_n 0), (61, .iconst 0), (62, .putfield 25), (65, .aload_n 0), (66, .dup), (67, .getfield 29), (70, .iconst 1), (71, .iadd), (72, .putfield 29), (75, .aload_n 0), (76, .dup), (77, .getfield 38), (80, .iconst 1), (81, .iadd), (82, .putfield 38), (85, .iload_n 1), (86, .ireturn)]
theorem pr_Sentences_close : prOK m_Sentences_close P_Sentences_close = true := by decide +kernel
def S_Sentences_close : List (Nat × List Nat) := []
theorem ev_Sentences_close {d : Nat} {w : Wd} {Q : Int32 → Wd → Prop}  (h : Z m_Sentences_close d (qI Q) 0 [(0, .ref 3)] [] w) : EvI m_Sentences_close d [.ref 3] w Q := Ev.ofZ (by decide +kernel) (Nat.le_of_ble_eq_true rfl) h
set_option maxRecDepth 20000 in
set_option maxHeartbeats 1000000 in
theorem vc_Sentences_close_0 {d : Nat} {w : Wd} {Q : Int32 → Wd → Prop}  (h : (((w.1 3 4) = 0 → Q (-nI 1) w) ∧ (¬ (w.1 3 4) = 0 → (((w.1 3 5) < (nI 40) → ∃ j1 j2 m1 : Nat, (nI 0) = nI j1 ∧ ((w.1 3 5) * (nI 16)) = nI j2 ∧ (w.1 3 4) = nI m1 ∧ j1 + m1 ≤ 16 ∧ j2 + m1 ≤ 640 ∧ ∃ j3 : Nat, (w.1 3 5) = nI j3 ∧ j3 < 40 ∧ ∃ j4 : Nat, (w.1 3 5) = nI j4 ∧ j4 < 40 ∧ ((nI 1) = 0 ∨ (nI 1) = 1) ∧ Q (w.1 3 5) (up1 (up1 (up1 (up1 (up1 (upA w 4 (va_cpy (w.1 7) (w.1 4) j1 j2 m1)) 5 j3 (w.1 3 4)) 6 j4 (nI 1)) 3 4 (nI 0)) 3 5 ((w.1 3 5) + (nI 1))) 3 6 ((w.1 3 6) + (nI 1)))) ∧ (¬ (w.1 3 5) < (nI 40) → Q (-nI 1) w))))) : Z m_Sentences_close (d + 1) (qI Q) 0 [(0, .ref 3)] [] w := wp_ok (P := P_Sentences_close) (S := S_Sentences_close) rfl pr_Sentences_close 50 _ _ _ _ h
def P_Sentences_remove : Prog := [(0, .aload_n 0), (1, .iload_n 1), (2, .invokevirtual 41), (5, .ifCond .ne 5), (8, .iconst 0), (9, .ireturn), (10, .aload_n 0), (11, .getfield 18), (14, .iload_n 1), (15, .iconst 0), (16, .bastore), (17, .aload_n 0), (18, .dup), (19, .getfield 38), (22, .iconst 1), (23, .isub), (24, .putfield 38), (27, .iconst 1), (28, .ireturn)]
theorem pr_Sentences_remove : prOK m_Sentences_remove P_Sentences_remove = true := by decide +kernel
def S_Sentences_remove : List (Nat × List Nat) := []
theorem ev_Sentences_remove {d : Nat} {w : Wd} {Q : Int32 → Wd → Prop} (x1 : Int32) (h : Z m_Sentences_remove d (qI Q) 0 [(0, .ref 3), (1, .int x1)] [] w) : EvI m_Sentences_remove d [.ref 3, .int x1] w Q := Ev.ofZ (by decide +kernel) (Nat.le_of_ble_eq_true rfl) h
set_option maxRecDepth 20000 in
set_option maxHeartbeats 1000000 in
theorem vc_Sentences_remove_0 {d : Nat} {w : Wd} {Q : Int32 → Wd → Prop} (x1 : Int32) (h : ∃ Q1 : Int32 → Wd → Prop, EvI m_Sentences_isThere d [.ref 3, .int x1] w Q1 ∧ ∀ (r1 : Int32) (w1 : Wd), Q1 r1 w1 → ((¬ r1 = 0 → ∃ j1 : Nat, x1 = nI j1 ∧ j1 < 40 ∧ ((nI 0) = 0 ∨ (nI 0) = 1) ∧ ((nI 1) = 0 ∨ (nI 1) = 1) ∧ Q (nI 1) (up1 (up1 w1 6 j1 (nI 0)) 3 6 ((w1.1 3 6) - (nI 1)))) ∧ (r1 = 0 → ((nI 0) = 0 ∨ (nI 0) = 1) ∧ Q (nI 0) w1))) : Z m_Sentences_remove (d + 1) (qI Q) 0 [(0, .ref 3), (1, .int x1)] [] w := wp_ok (P := P_Sentences_remove) (S := S_Sentences_remove) rfl pr_Sentences_remove 18 _ _ _ _ h
def P_Sentences_isThere : Prog := [(0, .iload_n 1), (1, .ifCond .lt 24), (4, .iload_n 1), (5, .aload_n 0), (6, .getfield 29), (9, .if_icmp .ge 16), (12, .aload_n 0), (13, .getfield 18), (16, .iload_n 1), (17, .baload), (18, .ifCond .eq 7), (21, .iconst 1), (22, .goto 4), (25, .iconst 0), (26, .ireturn)]
theorem pr_Sentences_isThere : prOK m_Sentences_isThere P_Sentences_isThere = true := by decide +kernel
def S_Sentences_isThere : List (Nat × List Nat) := []
theorem ev_Sentences_isThere {d : Nat} {w : Wd} {Q : Int32 → Wd → Prop} (x1 : Int32) (h : Z m_Sentences_isThere d (qI Q) 0 [(0, .ref 3), (1, .int x1)] [] w) : EvI m_Sentences_isThere d [.ref 3, .int x1] w Q := Ev.ofZ (by decide +kernel) (Nat.le_of_ble_eq_true rfl) h
set_option maxRecDepth 20000 in
set_option maxHeartbeats 1000000 in
theorem vc_Sentences_isThere_0 {d : Nat} {w : Wd} {Q : Int32 → Wd → Prop} (x1 : Int32) (h : ((x1 < 0 → ((nI 0) = 0 ∨ (nI 0) = 1) ∧ Q (nI 0) w) ∧ (¬ x1 < 0 → (((w.1 3 5) ≤ x1 → ((nI 0) = 0 ∨ (nI 0) = 1) ∧ Q (nI 0) w) ∧ (¬ (w.1 3 5) ≤ x1 → ∃ j1 : Nat, x1 = nI j1 ∧ j1 < 40 ∧ (((w.1 6 j1) = 0 → ((nI 0) = 0 ∨ (nI 0) = 1) ∧ Q (nI 0) w) ∧ (¬ (w.1 6 j1) = 0 → ((nI 1) = 0 ∨ (nI 1) = 1) ∧ Q (nI 1) w))))))) : Z m_Sentences_isThere d (qI Q) 0 [(0, .ref 3), (1, .int x1)] [] w := wp_ok (P := P_Sentences_isThere) (S := S_Sentences_isThere) rfl pr_Sentences_isThere 15 _ _ _ _ h
def P_Sentences_lengthOf : Prog := [(0, .iload_n 1), (1, .ifCond .lt 20), (4, .iload_n 1), (5, .aload_n 0), (6, .getfield 29), (9, .if_icmp .ge 12), (12, .aload_n 0), (13, .getfield 15), (16, .iload_n 1), (17, .iaload), (18, .goto 4), (21, .iconst 0), (22, .ireturn)]
theorem pr_Sentences_lengthOf : prOK m_Sentences_lengthOf P_Sentences_lengthOf = true := by decide +kernel
def S_Sentences_lengthOf : List (Nat × List Nat) := []
theorem ev_Sentences_lengthOf {d : Nat} {w : Wd} {Q : Int32 → Wd → Prop} (x1 : Int32) (h : Z m_Sentences_lengthOf d (qI Q) 0 [(0, .ref 3), (1, .int x1)] [] w) : EvI m_Sentences_lengthOf d [.ref 3, .int x1] w Q := Ev.ofZ (by decide +kernel) (Nat.le_of_ble_eq_true rfl) h
set_option maxRecDepth 20000 in
set_option maxHeartbeats 1000000 in
theorem vc_Sentences_lengthOf_0 {d : Nat} {w : Wd} {Q : Int32 → Wd → Prop} (x1 : Int32) (h : ((x1 < 0 → Q (nI 0) w) ∧ (¬ x1 < 0 → (((w.1 3 5) ≤ x1 → Q (nI 0) w) ∧ (¬ (w.1 3 5) ≤ x1 → ∃ j1 : Nat, x1 = nI j1 ∧ j1 < 40 ∧ Q (w.1 5 j1) w))))) : Z m_Sentences_lengthOf d (qI Q) 0 [(0, .ref 3), (1, .int x1)] [] w := wp_ok (P := P_Sentences_lengthOf) (S := S_Sentences_lengthOf) rfl pr_Sentences_lengthOf 13 _ _ _ _ h
def P_Sentences_wordAt : Prog := [(0, .iload_n 1), (1, .ifCond .lt 29), (4, .iload_n 1), (5, .aload_n 0), (6, .getfield 29), (9, .if_icmp .ge 21), (12, .iload_n 2), (13, .ifCond .lt 17), (16, .iload_n 2), (17, .aload_n 0), (18, .getfield 15), (21, .iload_n 1), (22, .iaload), (23, .if_icmp .ge 7), (26, .iconst 1), (27, .goto 4), (30, .iconst 0), (31, .istore_n 3), (32, .iload_n 3), (33, .ifCond .eq 17), (36, .aload_n 0), (37, .getfield 9), (40, .iload_n 1), (41, .bipush 16), (43, .imul), (44, .iload_n 2), (45, .iadd), (46, .iaload), (47, .goto 4), (50, .iconst 0), (51, .ireturn)]
theorem pr_Sentences_wordAt : prOK m_Sentences_wordAt P_Sentences_wordAt = true := by decide +kernel
def S_Sentences_wordAt : List (Nat × List Nat) := []
theorem ev_Sentences_wordAt {d : Nat} {w : Wd} {Q : Int32 → Wd → Prop} (x1 : Int32) (x2 : Int32) (h : Z m_Sentences_wordAt d (qI Q) 0 [(0, .ref 3), (1, .int x1), (2, .int x2)] [] w) : EvI m_Sentences_wordAt d [.ref 3, .int x1, .int x2] w Q := Ev.ofZ (by decide +kernel) (Nat.le_of_ble_eq_true rfl) h
set_option maxRecDepth 20000 in
set_option maxHeartbeats 1000000 in
theorem vc_Sentences_wordAt_0 {d : Nat} {w : Wd} {Q : Int32 → Wd → Prop} (x1 : Int32) (x2 : Int32) (h : ((x1 < 0 → (((nI 0) = 0 → Q (nI 0) w) ∧ (¬ (nI 0) = 0 → ∃ j1 : Nat, ((x1 * (nI 16)) + x2) = nI j1 ∧ j1 < 640 ∧ Q (w.1 4 j1) w))) ∧ (¬ x1 < 0 → (((w.1 3 5) ≤ x1 → (((nI 0) = 0 → Q (nI 0) w) ∧ (¬ (nI 0) = 0 → ∃ j2 : Nat, ((x1 * (nI 16)) + x2) = nI j2 ∧ j2 < 640 ∧ Q (w.1 4 j2) w))) ∧ (¬ (w.1 3 5) ≤ x1 → ((x2 < 0 → (((nI 0) = 0 → Q (nI 0) w) ∧ (¬ (nI 0) = 0 → ∃ j3 : Nat, ((x1 * (nI 16)) + x2) = nI j3 ∧ j3 < 640 ∧ Q (w.1 4 j3) w))) ∧ (¬ x2 < 0 → ∃ j4 : Nat, x1 = nI j4 ∧ j4 < 40 ∧ (((w.1 5 j4) ≤ x2 → (((nI 0) = 0 → Q (nI 0) w) ∧ (¬ (nI 0) = 0 → ∃ j5 : Nat, ((x1 * (nI 16)) + x2) = nI j5 ∧ j5 < 640 ∧ Q (w.1 4 j5) w))) ∧ (¬ (w.1 5 j4) ≤ x2 → (((nI 1) = 0 → Q (nI 0) w) ∧ (¬ (nI 1) = 0 → ∃ j6 : Nat, ((x1 * (nI 16)) + x2) = nI j6 ∧ j6 < 640 ∧ Q (w.1 4 j6) w))))))))))) : Z m_Sentences_wordAt d (qI Q) 0 [(0, .ref 3), (1, .int x1), (2, .int x2)] [] w := wp_ok (P := P_Sentences_wordAt) (S := S_Sentences_wordAt) rfl pr_Sentences_wordAt 30 _ _ _ _ h
def P_Sentences_told : Prog := [(0, .aload_n 0), (1, .getfield 25), (4, .ireturn)]
theorem pr_Sentences_told : prOK m_Sentences_told P_Sentences_told = true := by decide +kernel
def S_Sentences_told : List (Nat × List Nat) := []
theorem ev_Sentences_told {d : Nat} {w : Wd} {Q : Int32 → Wd → Prop}  (h : Z m_Sentences_told d (qI Q) 0 [(0, .ref 3)] [] w) : EvI m_Sentences_told d [.ref 3] w Q := Ev.ofZ (by decide +kernel) (Nat.le_of_ble_eq_true rfl) h
set_option maxRecDepth 20000 in
set_option maxHeartbeats 1000000 in
theorem vc_Sentences_told_0 {d : Nat} {w : Wd} {Q : Int32 → Wd → Prop}  (h : Q (w.1 3 4) w) : Z m_Sentences_told d (qI Q) 0 [(0, .ref 3)] [] w := wp_ok (P := P_Sentences_told) (S := S_Sentences_told) rfl pr_Sentences_told 4 _ _ _ _ h
def P_Sentences_came : Prog := [(0, .aload_n 0), (1, .getfield 29), (4, .ireturn)]
theorem pr_Sentences_came : prOK m_Sentences_came P_Sentences_came = true := by decide +kernel
def S_Sentences_came : List (Nat × List Nat) := []
theorem ev_Sentences_came {d : Nat} {w : Wd} {Q : Int32 → Wd → Prop}  (h : Z m_Sentences_came d (qI Q) 0 [(0, .ref 3)] [] w) : EvI m_Sentences_came d [.ref 3] w Q := Ev.ofZ (by decide +kernel) (Nat.le_of_ble_eq_true rfl) h
set_option maxRecDepth 20000 in
set_option maxHeartbeats 1000000 in
theorem vc_Sentences_came_0 {d : Nat} {w : Wd} {Q : Int32 → Wd → Prop}  (h : Q (w.1 3 5) w) : Z m_Sentences_came d (qI Q) 0 [(0, .ref 3)] [] w := wp_ok (P := P_Sentences_came) (S := S_Sentences_came) rfl pr_Sentences_came 4 _ _ _ _ h
def P_Sentences_present : Prog := [(0, .aload_n 0), (1, .getfield 38), (4, .ireturn)]
theorem pr_Sentences_present : prOK m_Sentences_present P_Sentences_present = true := by decide +kernel
def S_Sentences_present : List (Nat × List Nat) := []
theorem ev_Sentences_present {d : Nat} {w : Wd} {Q : Int32 → Wd → Prop}  (h : Z m_Sentences_present d (qI Q) 0 [(0, .ref 3)] [] w) : EvI m_Sentences_present d [.ref 3] w Q := Ev.ofZ (by decide +kernel) (Nat.le_of_ble_eq_true rfl) h
set_option maxRecDepth 20000 in
set_option maxHeartbeats 1000000 in
theorem vc_Sentences_present_0 {d : Nat} {w : Wd} {Q : Int32 → Wd → Prop}  (h : Q (w.1 3 6) w) : Z m_Sentences_present d (qI Q) 0 [(0, .ref 3)] [] w := wp_ok (P := P_Sentences_present) (S := S_Sentences_present) rfl pr_Sentences_present 4 _ _ _ _ h
def P_Tape_put : Prog := [(0, .bipush 56), (2, .istore_n 3), (3, .iload_n 3), (4, .ifCond .lt 59), (7, .lload_n 1), (8, .iload_n 3), (9, .lushr), (10, .l2i), (11, .sipush 255), (14, .iand), (15, .istore 4), (17, .iload 4), (19, .invokestatic 15), (22, .ifCond .eq 35), (25, .aload_n 0), (26, .getfield 19), (29, .sipush 1200), (32, .if_icmp .ge 25), (35, .aload_n 0), (36, .getfield 9), (39, .aload_n 0), (40, .getfield 19), (43, .iload 4), (45, .i2c), (46, .castore), (47, .aload_n 0), (48, .dup), (49, .getfield 19), (52, .iconst 1), (53, .iadd), (54, .putfield 19), (57, .iinc 3 (-8)), (60, .goto (-57)), (63, .return_)]
theorem pr_Tape_put : prOK m_Tape_put P_Tape_put = true := by decide +kernel
def S_Tape_put : List (Nat × List Nat) := [(3, [0, 1, 3])]
theorem ev_Tape_put {d : Nat} {w : Wd} {Q : Wd → Prop} (x1 : Int64) (h : Z m_Tape_put d (qV Q) 0 [(0, .ref 8), (1, .long x1)] [] w) : EvV m_Tape_put d [.ref 8, .long x1] w Q := Ev.ofZ (by decide +kernel) (Nat.le_of_ble_eq_true rfl) h
set_option maxRecDepth 20000 in
set_option maxHeartbeats 1000000 in
theorem vc_Tape_put_0 {d : Nat} {w : Wd} {Q : Wd → Prop} (x1 : Int64) (h : Z m_Tape_put (d + 1) (qV Q) 3 [(0, .ref 8), (1, .long x1), (3, .int (nI 56))] [] w) : Z m_Tape_put (d + 1) (qV Q) 0 [(0, .ref 8), (1, .long x1)] [] w := wp_ok (P := P_Tape_put) (S := S_Tape_put) rfl pr_Tape_put 3 _ _ _ _ h
set_option maxRecDepth 20000 in
set_option maxHeartbeats 1000000 in
theorem vc_Tape_put_3 {d : Nat} {w : Wd} {Q : Wd → Prop} (x1 : Int64) (x3 : Int32) (h : ((x3 < 0 → Q w) ∧ (¬ x3 < 0 → ∃ Q1 : Int32 → Wd → Prop, EvI m_Tape_isKnown d [.int ((((x1.toUInt64 >>> (x3.toInt64.toUInt64 &&& Int64.toUInt64 63)).toInt64).toInt32) &&& (nI 255))] w Q1 ∧ ∀ (r1 : Int32) (w1 : Wd), Q1 r1 w1 → ((r1 = 0 → Z m_Tape_put (d + 1) (qV Q) 3 [(0, .ref 8), (1, .long x1), (3, .int (x3 + (-nI 8)))] [] w1) ∧ (¬ r1 = 0 → (((nI 1200) ≤ (w1.1 8 1) → Z m_Tape_put (d + 1) (qV Q) 3 [(0, .ref 8), (1, .long x1), (3, .int (x3 + (-nI 8)))] [] w1) ∧ (¬ (nI 1200) ≤ (w1.1 8 1) → ∃ j1 : Nat, (w1.1 8 1) = nI j1 ∧ j1 < 1200 ∧ (∃ z1 : Nat, z1 < 65536 ∧ ((((((x1.toUInt64 >>> (x3.toInt64.toUInt64 &&& Int64.toUInt64 63)).toInt64).toInt32) &&& (nI 255)).toUInt32 % 65536).toInt32) = nI z1) ∧ Z m_Tape_put (d + 1) (qV Q) 3 [(0, .ref 8), (1, .long x1), (3, .int (x3 + (-nI 8)))] [] (up1 (up1 w1 9 j1 ((((((x1.toUInt64 >>> (x3.toInt64.toUInt64 &&& Int64.toUInt64 63)).toInt64).toInt32) &&& (nI 255)).toUInt32 % 65536).toInt32)) 8 1 ((w1.1 8 1) + (nI 1)))))))))) : Z m_Tape_put (d + 1) (qV Q) 3 [(0, .ref 8), (1, .long x1), (3, .int x3)] [] w := wp_ok (P := P_Tape_put) (S := S_Tape_put) rfl pr_Tape_put 32 _ _ _ _ h
def P_Tape_isKnown : Prog := [(0, .iload_n 0), (1, .bipush 10), (3, .if_icmp .eq 15), (6, .iload_n 0), (7, .bipush 32), (9, .if_icmp .lt 13), (12, .iload_n 0), (13, .bipush 126), (15, .if_icmp .gt 7), (18, .iconst 1), (19, .goto 4), (22, .iconst 0), (23, .ireturn)]
theorem pr_Tape_isKnown : prOK m_Tape_isKnown P_Tape_isKnown = true := by decide +kernel
def S_Tape_isKnown : List (Nat × List Nat) := []
theorem ev_Tape_isKnown {d : Nat} {w : Wd} {Q : Int32 → Wd → Prop} (x0 : Int32) (h : Z m_Tape_isKnown d (qI Q) 0 [(0, .int x0)] [] w) : EvI m_Tape_isKnown d [.int x0] w Q := Ev.ofZ (by decide +kernel) (Nat.le_of_ble_eq_true rfl) h
set_option maxRecDepth 20000 in
set_option maxHeartbeats 1000000 in
theorem vc_Tape_isKnown_0 {d : Nat} {w : Wd} {Q : Int32 → Wd → Prop} (x0 : Int32) (h : ((x0 = (nI 10) → ((nI 1) = 0 ∨ (nI 1) = 1) ∧ Q (nI 1) w) ∧ (¬ x0 = (nI 10) → ((x0 < (nI 32) → ((nI 0) = 0 ∨ (nI 0) = 1) ∧ Q (nI 0) w) ∧ (¬ x0 < (nI 32) → (((nI 126) < x0 → ((nI 0) = 0 ∨ (nI 0) = 1) ∧ Q (nI 0) w) ∧ (¬ (nI 126) < x0 → ((nI 1) = 0 ∨ (nI 1) = 1) ∧ Q (nI 1) w))))))) : Z m_Tape_isKnown d (qI Q) 0 [(0, .int x0)] [] w := wp_ok (P := P_Tape_isKnown) (S := S_Tape_isKnown) rfl pr_Tape_isKnown 13 _ _ _ _ h
def P_Tape_length : Prog := [(0, .aload_n 0), (1, .getfield 19), (4, .ireturn)]
theorem pr_Tape_length : prOK m_Tape_length P_Tape_length = true := by decide +kernel
def S_Tape_length : List (Nat × List Nat) := []
theorem ev_Tape_length {d : Nat} {w : Wd} {Q : Int32 → Wd → Prop}  (h : Z m_Tape_length d (qI Q) 0 [(0, .ref 8)] [] w) : EvI m_Tape_length d [.ref 8] w Q := Ev.ofZ (by decide +kernel) (Nat.le_of_ble_eq_true rfl) h
set_option maxRecDepth 20000 in
set_option maxHeartbeats 1000000 in
theorem vc_Tape_length_0 {d : Nat} {w : Wd} {Q : Int32 → Wd → Prop}  (h : Q (w.1 8 1) w) : Z m_Tape_length d (qI Q) 0 [(0, .ref 8)] [] w := wp_ok (P := P_Tape_length) (S := S_Tape_length) rfl pr_Tape_length 4 _ _ _ _ h
def P_Tape_at : Prog := [(0, .iload_n 1), (1, .ifCond .lt 20), (4, .iload_n 1), (5, .aload_n 0), (6, .getfield 19), (9, .if_icmp .ge 12), (12, .aload_n 0), (13, .getfield 9), (16, .iload_n 1), (17, .caload), (18, .goto 4), (21, .iconst 0), (22, .ireturn)]
theorem pr_Tape_at : prOK m_Tape_at P_Tape_at = true := by decide +kernel
def S_Tape_at : List (Nat × List Nat) := []
theorem ev_Tape_at {d : Nat} {w : Wd} {Q : Int32 → Wd → Prop} (x1 : Int32) (h : Z m_Tape_at d (qI Q) 0 [(0, .ref 8), (1, .int x1)] [] w) : EvI m_Tape_at d [.ref 8, .int x1] w Q := Ev.ofZ (by decide +kernel) (Nat.le_of_ble_eq_true rfl) h
set_option maxRecDepth 20000 in
set_option maxHeartbeats 1000000 in
theorem vc_Tape_at_0 {d : Nat} {w : Wd} {Q : Int32 → Wd → Prop} (x1 : Int32) (h : ((x1 < 0 → (∃ z1 : Nat, z1 < 65536 ∧ (nI 0) = nI z1) ∧ Q (nI 0) w) ∧ (¬ x1 < 0 → (((w.1 8 1) ≤ x1 → (∃ z2 : Nat, z2 < 65536 ∧ (nI 0) = nI z2) ∧ Q (nI 0) w) ∧ (¬ (w.1 8 1) ≤ x1 → ∃ j1 : Nat, x1 = nI j1 ∧ j1 < 1200 ∧ (∃ z3 : Nat, z3 < 65536 ∧ (w.1 9 j1) = nI z3) ∧ Q (w.1 9 j1) w))))) : Z m_Tape_at d (qI Q) 0 [(0, .ref 8), (1, .int x1)] [] w := wp_ok (P := P_Tape_at) (S := S_Tape_at) rfl pr_Tape_at 13 _ _ _ _ h
def P_Tape_clear : Prog := [(0, .aload_n 0), (1, .iconst 0), (2, .putfield 19), (5, .return_)]
theorem pr_Tape_clear : prOK m_Tape_clear P_Tape_clear = true := by decide +kernel
def S_Tape_clear : List (Nat × List Nat) := []
theorem ev_Tape_clear {d : Nat} {w : Wd} {Q : Wd → Prop}  (h : Z m_Tape_clear d (qV Q) 0 [(0, .ref 8)] [] w) : EvV m_Tape_clear d [.ref 8] w Q := Ev.ofZ (by decide +kernel) (Nat.le_of_ble_eq_true rfl) h
set_option maxRecDepth 20000 in
set_option maxHeartbeats 1000000 in
theorem vc_Tape_clear_0 {d : Nat} {w : Wd} {Q : Wd → Prop}  (h : Q (up1 w 8 1 (nI 0))) : Z m_Tape_clear d (qV Q) 0 [(0, .ref 8)] [] w := wp_ok (P := P_Tape_clear) (S := S_Tape_clear) rfl pr_Tape_clear 5 _ _ _ _ h
end
section
def P_Tokens_scan : Prog := [(0, .aload_n 0), (1, .iconst 0), (2, .putfield 18), (5, .aload_n 0), (6, .iconst 0), (7, .putfield 22), (10, .iconst 0), (11, .istore_n 2), (12, .iload_n 2), (13, .aload_n 1), (14, .invokevirtual 25), (17, .if_icmp .ge 38), (20, .aload_n 1), (21, .iload_n 2), (22, .invokevirtual 31), (25, .invokestatic 35), (28, .ifCond .ne 21), (31, .aload_n 1), (32, .iload_n 2), (33, .invokestatic 39), (36, .ifCond .ne 13), (39, .aload_n 0), (40, .aload_n 1), (41, .iload_n 2), (42, .invokestatic 43), (45, .iload_n 2), (46, .invokevirtual 47), (49, .iinc 2 1), (52, .goto (-40)), (55, .aload_n 0), (56, .iconst (-1)), (57, .aload_n 1), (58, .invokevirtual 25), (61, .invokevirtual 47), (64, .return_)]
theorem pr_Tokens_scan : prOK m_Tokens_scan P_Tokens_scan = true := by decide +kernel
def S_Tokens_scan : List (Nat × List Nat) := [(12, [0, 1, 2])]
theorem ev_Tokens_scan {d : Nat} {w : Wd} {Q : Wd → Prop}  (h : Z m_Tokens_scan d (qV Q) 0 [(0, .ref 10), (1, .ref 8)] [] w) : EvV m_Tokens_scan d [.ref 10, .ref 8] w Q := Ev.ofZ (by decide +kernel) (Nat.le_of_ble_eq_true rfl) h
set_option maxRecDepth 20000 in
set_option maxHeartbeats 1000000 in
theorem vc_Tokens_scan_0 {d : Nat} {w : Wd} {Q : Wd → Prop}  (h : Z m_Tokens_scan (d + 1) (qV Q) 12 [(0, .ref 10), (1, .ref 8), (2, .int (nI 0))] [] (up1 (up1 w 10 2 (nI 0)) 10 3 (nI 0))) : Z m_Tokens_scan (d + 1) (qV Q) 0 [(0, .ref 10), (1, .ref 8)] [] w := wp_ok (P := P_Tokens_scan) (S := S_Tokens_scan) rfl pr_Tokens_scan 9 _ _ _ _ h
set_option maxRecDepth 20000 in
set_option maxHeartbeats 1000000 in
theorem vc_Tokens_scan_12 {d : Nat} {w : Wd} {Q : Wd → Prop} (x2 : Int32) (h : ∃ Q1 : Int32 → Wd → Prop, EvI m_Tape_length d [.ref 8] w Q1 ∧ ∀ (r1 : Int32) (w1 : Wd), Q1 r1 w1 → ((r1 ≤ x2 → ∃ Q2 : Int32 → Wd → Prop, EvI m_Tape_length d [.ref 8] w1 Q2 ∧ ∀ (r2 : Int32) (w2 : Wd), Q2 r2 w2 → ∃ Q3 : Wd → Prop, EvV m_Tokens_add d [.ref 10, .int (-nI 1), .int r2] w2 Q3 ∧ ∀ w3 : Wd, Q3 w3 → Q w3) ∧ (¬ r1 ≤ x2 → ∃ Q4 : Int32 → Wd → Prop, EvI m_Tape_at d [.ref 8, .int x2] w1 Q4 ∧ ∀ (r4 : Int32) (w4 : Wd), Q4 r4 w4 → ∃ Q5 : Int32 → Wd → Prop, EvI m_Tokens_isBlank d [.int r4] w4 Q5 ∧ ∀ (r5 : Int32) (w5 : Wd), Q5 r5 w5 → ((¬ r5 = 0 → Z m_Tokens_scan (d + 1) (qV Q) 12 [(0, .ref 10), (1, .ref 8), (2, .int (x2 + nI 1))] [] w5) ∧ (r5 = 0 → ∃ Q6 : Int32 → Wd → Prop, EvI m_Tokens_goesOn d [.ref 8, .int x2] w5 Q6 ∧ ∀ (r6 : Int32) (w6 : Wd), Q6 r6 w6 → ((¬ r6 = 0 → Z m_Tokens_scan (d + 1) (qV Q) 12 [(0, .ref 10), (1, .ref 8), (2, .int (x2 + nI 1))] [] w6) ∧ (r6 = 0 → ∃ Q7 : Int32 → Wd → Prop, EvI m_Tokens_codeAt d [.ref 8, .int x2] w6 Q7 ∧ ∀ (r7 : Int32) (w7 : Wd), Q7 r7 w7 → ∃ Q8 : Wd → Prop, EvV m_Tokens_add d [.ref 10, .int r7, .int x2] w7 Q8 ∧ ∀ w8 : Wd, Q8 w8 → Z m_Tokens_scan (d + 1) (qV Q) 12 [(0, .ref 10), (1, .ref 8), (2, .int (x2 + nI 1))] [] w8))))))) : Z m_Tokens_scan (d + 1) (qV Q) 12 [(0, .ref 10), (1, .ref 8), (2, .int x2)] [] w := wp_ok (P := P_Tokens_scan) (S := S_Tokens_scan) rfl pr_Tokens_scan 22 _ _ _ _ h
def P_Tokens_add : Prog := [(0, .aload_n 0), (1, .getfield 18), (4, .sipush 1200), (7, .if_icmp .gt 33), (10, .aload_n 0), (11, .getfield 9), (14, .aload_n 0), (15, .getfield 18), (18, .iload_n 1), (19, .iastore), (20, .aload_n 0), (21, .getfield 15), (24, .aload_n 0), (25, .getfield 18), (28, .iload_n 2), (29, .iastore), (30, .aload_n 0), (31, .dup), (32, .getfield 18), (35, .iconst 1), (36, .iadd), (37, .putfield 18), (40, .return_)]
theorem pr_Tokens_add : prOK m_Tokens_add P_Tokens_add = true := by decide +kernel
def S_Tokens_add : List (Nat × List Nat) := []
theorem ev_Tokens_add {d : Nat} {w : Wd} {Q : Wd → Prop} (x1 : Int32) (x2 : Int32) (h : Z m_Tokens_add d (qV Q) 0 [(0, .ref 10), (1, .int x1), (2, .int x2)] [] w) : EvV m_Tokens_add d [.ref 10, .int x1, .int x2] w Q := Ev.ofZ (by decide +kernel) (Nat.le_of_ble_eq_true rfl) h
set_option maxRecDepth 20000 in
set_option maxHeartbeats 1000000 in
theorem vc_Tokens_add_0 {d : Nat} {w : Wd} {Q : Wd → Prop} (x1 : Int32) (x2 : Int32) (h : (((nI 1200) < (w.1 10 2) → Q w) ∧ (¬ (nI 1200) < (w.1 10 2) → ∃ j1 : Nat, (w.1 10 2) = nI j1 ∧ j1 < 1201 ∧ ∃ j2 : Nat, (w.1 10 2) = nI j2 ∧ j2 < 1201 ∧ Q (up1 (up1 (up1 w 11 j1 x1) 12 j2 x2) 10 2 ((w.1 10 2) + (nI 1)))))) : Z m_Tokens_add d (qV Q) 0 [(0, .ref 10), (1, .int x1), (2, .int x2)] [] w := wp_ok (P := P_Tokens_add) (S := S_Tokens_add) rfl pr_Tokens_add 24 _ _ _ _ h
def P_Tokens_code : Prog := [(0, .aload_n 0), (1, .getfield 22), (4, .aload_n 0), (5, .getfield 18), (8, .if_icmp .ge 25), (11, .aload_n 0), (12, .getfield 22), (15, .sipush 1200), (18, .if_icmp .gt 15), (21, .aload_n 0), (22, .getfield 9), (25, .aload_n 0), (26, .getfield 22), (29, .iaload), (30, .goto 4), (33, .iconst (-1)), (34, .ireturn)]
theorem pr_Tokens_code : prOK m_Tokens_code P_Tokens_code = true := by decide +kernel
def S_Tokens_code : List (Nat × List Nat) := []
theorem ev_Tokens_code {d : Nat} {w : Wd} {Q : Int32 → Wd → Prop}  (h : Z m_Tokens_code d (qI Q) 0 [(0, .ref 10)] [] w) : EvI m_Tokens_code d [.ref 10] w Q := Ev.ofZ (by decide +kernel) (Nat.le_of_ble_eq_true rfl) h
set_option maxRecDepth 20000 in
set_option maxHeartbeats 1000000 in
theorem vc_Tokens_code_0 {d : Nat} {w : Wd} {Q : Int32 → Wd → Prop}  (h : (((w.1 10 2) ≤ (w.1 10 3) → Q (-nI 1) w) ∧ (¬ (w.1 10 2) ≤ (w.1 10 3) → (((nI 1200) < (w.1 10 3) → Q (-nI 1) w) ∧ (¬ (nI 1200) < (w.1 10 3) → ∃ j1 : Nat, (w.1 10 3) = nI j1 ∧ j1 < 1201 ∧ Q (w.1 11 j1) w))))) : Z m_Tokens_code d (qI Q) 0 [(0, .ref 10)] [] w := wp_ok (P := P_Tokens_code) (S := S_Tokens_code) rfl pr_Tokens_code 17 _ _ _ _ h
def P_Tokens_place : Prog := [(0, .aload_n 0), (1, .getfield 22), (4, .aload_n 0), (5, .getfield 18), (8, .if_icmp .ge 25), (11, .aload_n 0), (12, .getfield 22), (15, .sipush 1200), (18, .if_icmp .gt 15), (21, .aload_n 0), (22, .getfield 15), (25, .aload_n 0), (26, .getfield 22), (29, .iaload), (30, .goto 4), (33, .iconst 0), (34, .ireturn)]
theorem pr_Tokens_place : prOK m_Tokens_place P_Tokens_place = true := by decide +kernel
def S_Tokens_place : List (Nat × List Nat) := []
theorem ev_Tokens_place {d : Nat} {w : Wd} {Q : Int32 → Wd → Prop}  (h : Z m_Tokens_place d (qI Q) 0 [(0, .ref 10)] [] w) : EvI m_Tokens_place d [.ref 10] w Q := Ev.ofZ (by decide +kernel) (Nat.le_of_ble_eq_true rfl) h
set_option maxRecDepth 20000 in
set_option maxHeartbeats 1000000 in
theorem vc_Tokens_place_0 {d : Nat} {w : Wd} {Q : Int32 → Wd → Prop}  (h : (((w.1 10 2) ≤ (w.1 10 3) → Q (nI 0) w) ∧ (¬ (w.1 10 2) ≤ (w.1 10 3) → (((nI 1200) < (w.1 10 3) → Q (nI 0) w) ∧ (¬ (nI 1200) < (w.1 10 3) → ∃ j1 : Nat, (w.1 10 3) = nI j1 ∧ j1 < 1201 ∧ Q (w.1 12 j1) w))))) : Z m_Tokens_place d (qI Q) 0 [(0, .ref 10)] [] w := wp_ok (P := P_Tokens_place) (S := S_Tokens_place) rfl pr_Tokens_place 17 _ _ _ _ h
def P_Tokens_advance : Prog := [(0, .aload_n 0), (1, .getfield 22), (4, .aload_n 0), (5, .getfield 18), (8, .if_icmp .ge 13), (11, .aload_n 0), (12, .dup), (13, .getfield 22), (16, .iconst 1), (17, .iadd), (18, .putfield 22), (21, .return_)]
theorem pr_Tokens_advance : prOK m_Tokens_advance P_Tokens_advance = true := by decide +kernel
def S_Tokens_advance : List (Nat × List Nat) := []
theorem ev_Tokens_advance {d : Nat} {w : Wd} {Q : Wd → Prop}  (h : Z m_Tokens_advance d (qV Q) 0 [(0, .ref 10)] [] w) : EvV m_Tokens_advance d [.ref 10] w Q := Ev.ofZ (by decide +kernel) (Nat.le_of_ble_eq_true rfl) h
set_option maxRecDepth 20000 in
set_option maxHeartbeats 1000000 in
theorem vc_Tokens_advance_0 {d : Nat} {w : Wd} {Q : Wd → Prop}  (h : (((w.1 10 2) ≤ (w.1 10 3) → Q w) ∧ (¬ (w.1 10 2) ≤ (w.1 10 3) → Q (up1 w 10 3 ((w.1 10 3) + (nI 1)))))) : Z m_Tokens_advance d (qV Q) 0 [(0, .ref 10)] [] w := wp_ok (P := P_Tokens_advance) (S := S_Tokens_advance) rfl pr_Tokens_advance 13 _ _ _ _ h
def P_Tokens_goesOn : Prog := [(0, .aload_n 0), (1, .iload_n 1), (2, .iconst 1), (3, .isub), (4, .invokevirtual 31), (7, .istore_n 2), (8, .aload_n 0), (9, .iload_n 1), (10, .invokevirtual 31), (13, .istore_n 3), (14, .iload_n 2), (15, .invokestatic 51), (18, .ifCond .eq 10), (21, .iload_n 3), (22, .invokestatic 51), (25, .ifCond .ne 17), (28, .iload_n 2), (29, .invokestatic 54), (32, .ifCond .eq 14), (35, .iload_n 3), (36, .invokestatic 54), (39, .ifCond .eq 7), (42, .iconst 1), (43, .goto 4), (46, .iconst 0), (47, .ireturn)]
theorem pr_Tokens_goesOn : prOK m_Tokens_goesOn P_Tokens_goesOn = true := by decide +kernel
def S_Tokens_goesOn : List (Nat × List Nat) := []
theorem ev_Tokens_goesOn {d : Nat} {w : Wd} {Q : Int32 → Wd → Prop} (x1 : Int32) (h : Z m_Tokens_goesOn d (qI Q) 0 [(0, .ref 8), (1, .int x1)] [] w) : EvI m_Tokens_goesOn d [.ref 8, .int x1] w Q := Ev.ofZ (by decide +kernel) (Nat.le_of_ble_eq_true rfl) h
set_option maxRecDepth 20000 in
set_option maxHeartbeats 1000000 in
theorem vc_Tokens_goesOn_0 {d : Nat} {w : Wd} {Q : Int32 → Wd → Prop} (x1 : Int32) (h : ∃ Q1 : Int32 → Wd → Prop, EvI m_Tape_at d [.ref 8, .int (x1 - (nI 1))] w Q1 ∧ ∀ (r1 : Int32) (w1 : Wd), Q1 r1 w1 → ∃ Q2 : Int32 → Wd → Prop, EvI m_Tape_at d [.ref 8, .int x1] w1 Q2 ∧ ∀ (r2 : Int32) (w2 : Wd), Q2 r2 w2 → ∃ Q3 : Int32 → Wd → Prop, EvI m_Tokens_isLetter d [.int r1] w2 Q3 ∧ ∀ (r3 : Int32) (w3 : Wd), Q3 r3 w3 → ((r3 = 0 → ∃ Q4 : Int32 → Wd → Prop, EvI m_Tokens_isDigit d [.int r1] w3 Q4 ∧ ∀ (r4 : Int32) (w4 : Wd), Q4 r4 w4 → ((r4 = 0 → ((nI 0) = 0 ∨ (nI 0) = 1) ∧ Q (nI 0) w4) ∧ (¬ r4 = 0 → ∃ Q5 : Int32 → Wd → Prop, EvI m_Tokens_isDigit d [.int r2] w4 Q5 ∧ ∀ (r5 : Int32) (w5 : Wd), Q5 r5 w5 → ((r5 = 0 → ((nI 0) = 0 ∨ (nI 0) = 1) ∧ Q (nI 0) w5) ∧ (¬ r5 = 0 → ((nI 1) = 0 ∨ (nI 1) = 1) ∧ Q (nI 1) w5))))) ∧ (¬ r3 = 0 → ∃ Q6 : Int32 → Wd → Prop, EvI m_Tokens_isLetter d [.int r2] w3 Q6 ∧ ∀ (r6 : Int32) (w6 : Wd), Q6 r6 w6 → ((¬ r6 = 0 → ((nI 1) = 0 ∨ (nI 1) = 1) ∧ Q (nI 1) w6) ∧ (r6 = 0 → ∃ Q7 : Int32 → Wd → Prop, EvI m_Tokens_isDigit d [.int r1] w6 Q7 ∧ ∀ (r7 : Int32) (w7 : Wd), Q7 r7 w7 → ((r7 = 0 → ((nI 0) = 0 ∨ (nI 0) = 1) ∧ Q (nI 0) w7) ∧ (¬ r7 = 0 → ∃ Q8 : Int32 → Wd → Prop, EvI m_Tokens_isDigit d [.int r2] w7 Q8 ∧ ∀ (r8 : Int32) (w8 : Wd), Q8 r8 w8 → ((r8 = 0 → ((nI 0) = 0 ∨ (nI 0) = 1) ∧ Q (nI 0) w8) ∧ (¬ r8 = 0 → ((nI 1) = 0 ∨ (nI 1) = 1) ∧ Q (nI 1) w8))))))))) : Z m_Tokens_goesOn (d + 1) (qI Q) 0 [(0, .ref 8), (1, .int x1)] [] w := wp_ok (P := P_Tokens_goesOn) (S := S_Tokens_goesOn) rfl pr_Tokens_goesOn 26 _ _ _ _ h
def P_Tokens_codeAt : Prog := [(0, .aload_n 0), (1, .iload_n 1), (2, .invokevirtual 31), (5, .invokestatic 54), (8, .ifCond .eq 9), (11, .aload_n 0), (12, .iload_n 1), (13, .invokestatic 57), (16, .ireturn), (17, .aload_n 0), (18, .iload_n 1), (19, .invokevirtual 31), (22, .istore_n 2), (23, .iload_n 2), (24, .tableswitch 41 58 61 #[32, 38, 41, 35]), (56, .bipush (-3)), (58, .ireturn), (59, .bipush (-4)), (61, .ireturn), (62, .bipush (-5)), (64, .ireturn), (65, .aload_n 0), (66, .iload_n 1), (67, .invokestatic 60), (70, .ireturn)]
theorem pr_Tokens_codeAt : prOK m_Tokens_codeAt P_Tokens_codeAt = true := by decide +kernel
def S_Tokens_codeAt : List (Nat × List Nat) := []
theorem ev_Tokens_codeAt {d : Nat} {w : Wd} {Q : Int32 → Wd → Prop} (x1 : Int32) (h : Z m_Tokens_codeAt d (qI Q) 0 [(0, .ref 8), (1, .int x1)] [] w) : EvI m_Tokens_codeAt d [.ref 8, .int x1] w Q := Ev.ofZ (by decide +kernel) (Nat.le_of_ble_eq_true rfl) h
set_option maxRecDepth 20000 in
set_option maxHeartbeats 1000000 in
theorem vc_Tokens_codeAt_0 {d : Nat} {w : Wd} {Q : Int32 → Wd → Prop} (x1 : Int32) (h : ∃ Q1 : Int32 → Wd → Prop, EvI m_Tape_at d [.ref 8, .int x1] w Q1 ∧ ∀ (r1 : Int32) (w1 : Wd), Q1 r1 w1 → ∃ Q2 : Int32 → Wd → Prop, EvI m_Tokens_isDigit d [.int r1] w1 Q2 ∧ ∀ (r2 : Int32) (w2 : Wd), Q2 r2 w2 → ((r2 = 0 → ∃ Q3 : Int32 → Wd → Prop, EvI m_Tape_at d [.ref 8, .int x1] w2 Q3 ∧ ∀ (r3 : Int32) (w3 : Wd), Q3 r3 w3 → ((r3 = nI 58 → Q (-nI 3) w3) ∧ (¬ r3 = nI 58 → ((r3 = nI 59 → Q (-nI 5) w3) ∧ (¬ r3 = nI 59 → ((r3 = nI 60 → ∃ Q4 : Int32 → Wd → Prop, EvI m_Tokens_wordCode d [.ref 8, .int x1] w3 Q4 ∧ ∀ (r4 : Int32) (w4 : Wd), Q4 r4 w4 → Q r4 w4) ∧ (¬ r3 = nI 60 → ((r3 = nI 61 → Q (-nI 4) w3) ∧ (¬ r3 = nI 61 → ∃ Q5 : Int32 → Wd → Prop, EvI m_Tokens_wordCode d [.ref 8, .int x1] w3 Q5 ∧ ∀ (r5 : Int32) (w5 : Wd), Q5 r5 w5 → Q r5 w5))))))))) ∧ (¬ r2 = 0 → ∃ Q6 : Int32 → Wd → Prop, EvI m_Tokens_numberCode d [.ref 8, .int x1] w2 Q6 ∧ ∀ (r6 : Int32) (w6 : Wd), Q6 r6 w6 → Q r6 w6))) : Z m_Tokens_codeAt (d + 1) (qI Q) 0 [(0, .ref 8), (1, .int x1)] [] w := wp_ok (P := P_Tokens_codeAt) (S := S_Tokens_codeAt) rfl pr_Tokens_codeAt 16 _ _ _ _ h
def P_Tokens_numberCode : Prog := [(0, .iconst 0), (1, .istore_n 2), (2, .iconst 0), (3, .istore_n 3), (4, .iload_n 3), (5, .iconst 4), (6, .if_icmp .gt 39), (9, .aload_n 0), (10, .iload_n 1), (11, .iload_n 3), (12, .iadd), (13, .invokevirtual 31), (16, .istore 4), (18, .iload 4), (20, .invokestatic 54), (23, .ifCond .ne 5), (26, .iload_n 2), (27, .ireturn), (28, .iload_n 2), (29, .bipush 10), (31, .imul), (32, .iload 4), (34, .bipush 48), (36, .isub), (37, .iadd), (38, .istore_n 2), (39, .iinc 3 1), (42, .goto (-38)), (45, .bipush (-2)), (47, .ireturn)]
theorem pr_Tokens_numberCode : prOK m_Tokens_numberCode P_Tokens_numberCode = true := by decide +kernel
def S_Tokens_numberCode : List (Nat × List Nat) := [(4, [0, 1, 2, 3])]
theorem ev_Tokens_numberCode {d : Nat} {w : Wd} {Q : Int32 → Wd → Prop} (x1 : Int32) (h : Z m_Tokens_numberCode d (qI Q) 0 [(0, .ref 8), (1, .int x1)] [] w) : EvI m_Tokens_numberCode d [.ref 8, .int x1] w Q := Ev.ofZ (by decide +kernel) (Nat.le_of_ble_eq_true rfl) h
set_option maxRecDepth 20000 in
set_option maxHeartbeats 1000000 in
theorem vc_Tokens_numberCode_0 {d : Nat} {w : Wd} {Q : Int32 → Wd → Prop} (x1 : Int32) (h : Z m_Tokens_numberCode (d + 1) (qI Q) 4 [(0, .ref 8), (1, .int x1), (2, .int (nI 0)), (3, .int (nI 0))] [] w) : Z m_Tokens_numberCode (d + 1) (qI Q) 0 [(0, .ref 8), (1, .int x1)] [] w := wp_ok (P := P_Tokens_numberCode) (S := S_Tokens_numberCode) rfl pr_Tokens_numberCode 5 _ _ _ _ h
set_option maxRecDepth 20000 in
set_option maxHeartbeats 1000000 in
theorem vc_Tokens_numberCode_4 {d : Nat} {w : Wd} {Q : Int32 → Wd → Prop} (x1 : Int32) (x2 : Int32) (x3 : Int32) (h : (((nI 4) < x3 → Q (-nI 2) w) ∧ (¬ (nI 4) < x3 → ∃ Q1 : Int32 → Wd → Prop, EvI m_Tape_at d [.ref 8, .int (x1 + x3)] w Q1 ∧ ∀ (r1 : Int32) (w1 : Wd), Q1 r1 w1 → ∃ Q2 : Int32 → Wd → Prop, EvI m_Tokens_isDigit d [.int r1] w1 Q2 ∧ ∀ (r2 : Int32) (w2 : Wd), Q2 r2 w2 → ((¬ r2 = 0 → Z m_Tokens_numberCode (d + 1) (qI Q) 4 [(0, .ref 8), (1, .int x1), (2, .int ((x2 * (nI 10)) + (r1 - (nI 48)))), (3, .int (x3 + nI 1))] [] w2) ∧ (r2 = 0 → Q x2 w2))))) : Z m_Tokens_numberCode (d + 1) (qI Q) 4 [(0, .ref 8), (1, .int x1), (2, .int x2), (3, .int x3)] [] w := wp_ok (P := P_Tokens_numberCode) (S := S_Tokens_numberCode) rfl pr_Tokens_numberCode 23 _ _ _ _ h
def P_Tokens_wordCode : Prog := [(0, .aload_n 0), (1, .iload_n 1), (2, .invokevirtual 31), (5, .istore_n 2), (6, .iload_n 2), (7, .tableswitch 234 97 119 #[105, 123, 141, 234, 234, 234, 234, 234, 234, 234, 234, 159, 234, 234, 234, 234, 234, 177, 210, 234, 234, 234, 216]), (112, .aload_n 0), (113, .iload_n 1), (114, .ldc 63), (116, .invokestatic 65), (119, .ifCond .eq 8), (122, .bipush (-15)), (124, .goto 5), (127, .bipush (-2)), (129, .ireturn), (130, .aload_n 0), (131, .iload_n 1), (132, .ldc 69), (134, .invokestatic 65), (137, .ifCond .eq 8), (140, .bipush (-7)), (142, .goto 5), (145, .bipush (-2)), (147, .ireturn), (148, .aload_n 0), (149, .iload_n 1), (150, .ldc 71), (152, .invokestatic 65), (155, .ifCond .eq 8), (158, .bipush (-8)), (160, .goto 5), (163, .bipush (-2)), (165, .ireturn), (166, .aload_n 0), (167, .iload_n 1), (168, .ldc 73), (170, .invokestatic 65), (173, .ifCond .eq 8), (176, .bipush (-10)), (178, .goto 5), (181, .bipush (-2)), (183, .ireturn), (184, .aload_n 0), (185, .iload_n 1), (186, .ldc 75), (188, .invokestatic 65), (191, .ifCond .eq 8), (194, .bipush (-6)), (196, .goto 20), (199, .aload_n 0), (200, .iload_n 1), (201, .ldc 77), (203, .invokestatic 65), (206, .ifCond .eq 8), (209, .bipush (-11)), (211, .goto 5), (214, .bipush (-2)), (216, .ireturn), (217, .aload_n 0), (218, .iload_n 1), (219, .invokestatic 79), (222, .ireturn), (223, .aload_n 0), (224, .iload_n 1), (225, .ldc 82), (227, .invokestatic 65), (230, .ifCond .eq 8), (233, .bipush (-13)), (235, .goto 5), (238, .bipush (-2)), (240, .ireturn), (241, .bipush (-2)), (243, .ireturn)]
theorem pr_Tokens_wordCode : prOK m_Tokens_wordCode P_Tokens_wordCode = true := by decide +kernel
def S_Tokens_wordCode : List (Nat × List Nat) := []
theorem ev_Tokens_wordCode {d : Nat} {w : Wd} {Q : Int32 → Wd → Prop} (x1 : Int32) (h : Z m_Tokens_wordCode d (qI Q) 0 [(0, .ref 8), (1, .int x1)] [] w) : EvI m_Tokens_wordCode d [.ref 8, .int x1] w Q := Ev.ofZ (by decide +kernel) (Nat.le_of_ble_eq_true rfl) h
set_option maxRecDepth 20000 in
set_option maxHeartbeats 1000000 in
theorem vc_Tokens_wordCode_0 {d : Nat} {w : Wd} {Q : Int32 → Wd → Prop} (x1 : Int32) (h : ∃ Q1 : Int32 → Wd → Prop, EvI m_Tape_at d [.ref 8, .int x1] w Q1 ∧ ∀ (r1 : Int32) (w1 : Wd), Q1 r1 w1 → ((r1 = nI 97 → ∃ Q2 : Int32 → Wd → Prop, EvI m_Tokens_stands d [.ref 8, .int x1, .ref 200] w1 Q2 ∧ ∀ (r2 : Int32) (w2 : Wd), Q2 r2 w2 → ((r2 = 0 → Q (-nI 2) w2) ∧ (¬ r2 = 0 → Q (-nI 15) w2))) ∧ (¬ r1 = nI 97 → ((r1 = nI 98 → ∃ Q3 : Int32 → Wd → Prop, EvI m_Tokens_stands d [.ref 8, .int x1, .ref 201] w1 Q3 ∧ ∀ (r3 : Int32) (w3 : Wd), Q3 r3 w3 → ((r3 = 0 → Q (-nI 2) w3) ∧ (¬ r3 = 0 → Q (-nI 7) w3))) ∧ (¬ r1 = nI 98 → ((r1 = nI 99 → ∃ Q4 : Int32 → Wd → Prop, EvI m_Tokens_stands d [.ref 8, .int x1, .ref 202] w1 Q4 ∧ ∀ (r4 : Int32) (w4 : Wd), Q4 r4 w4 → ((r4 = 0 → Q (-nI 2) w4) ∧ (¬ r4 = 0 → Q (-nI 8) w4))) ∧ (¬ r1 = nI 99 → ((r1 = nI 100 → Q (-nI 2) w1) ∧ (¬ r1 = nI 100 → ((r1 = nI 101 → Q (-nI 2) w1) ∧ (¬ r1 = nI 101 → ((r1 = nI 102 → Q (-nI 2) w1) ∧ (¬ r1 = nI 102 → ((r1 = nI 103 → Q (-nI 2) w1) ∧ (¬ r1 = nI 103 → ((r1 = nI 104 → Q (-nI 2) w1) ∧ (¬ r1 = nI 104 → ((r1 = nI 105 → Q (-nI 2) w1) ∧ (¬ r1 = nI 105 → ((r1 = nI 106 → Q (-nI 2) w1) ∧ (¬ r1 = nI 106 → ((r1 = nI 107 → Q (-nI 2) w1) ∧ (¬ r1 = nI 107 → ((r1 = nI 108 → ∃ Q5 : Int32 → Wd → Prop, EvI m_Tokens_stands d [.ref 8, .int x1, .ref 203] w1 Q5 ∧ ∀ (r5 : Int32) (w5 : Wd), Q5 r5 w5 → ((r5 = 0 → Q (-nI 2) w5) ∧ (¬ r5 = 0 → Q (-nI 10) w5))) ∧ (¬ r1 = nI 108 → ((r1 = nI 109 → Q (-nI 2) w1) ∧ (¬ r1 = nI 109 → ((r1 = nI 110 → Q (-nI 2) w1) ∧ (¬ r1 = nI 110 → ((r1 = nI 111 → Q (-nI 2) w1) ∧ (¬ r1 = nI 111 → ((r1 = nI 112 → Q (-nI 2) w1) ∧ (¬ r1 = nI 112 → ((r1 = nI 113 → Q (-nI 2) w1) ∧ (¬ r1 = nI 113 → ((r1 = nI 114 → ∃ Q6 : Int32 → Wd → Prop, EvI m_Tokens_stands d [.ref 8, .int x1, .ref 204] w1 Q6 ∧ ∀ (r6 : Int32) (w6 : Wd), Q6 r6 w6 → ((r6 = 0 → ∃ Q7 : Int32 → Wd → Prop, EvI m_Tokens_stands d [.ref 8, .int x1, .ref 205] w6 Q7 ∧ ∀ (r7 : Int32) (w7 : Wd), Q7 r7 w7 → ((r7 = 0 → Q (-nI 2) w7) ∧ (¬ r7 = 0 → Q (-nI 11) w7))) ∧ (¬ r6 = 0 → Q (-nI 6) w6))) ∧ (¬ r1 = nI 114 → ((r1 = nI 115 → ∃ Q8 : Int32 → Wd → Prop, EvI m_Tokens_sWordCode d [.ref 8, .int x1] w1 Q8 ∧ ∀ (r8 : Int32) (w8 : Wd), Q8 r8 w8 → Q r8 w8) ∧ (¬ r1 = nI 115 → ((r1 = nI 116 → Q (-nI 2) w1) ∧ (¬ r1 = nI 116 → ((r1 = nI 117 → Q (-nI 2) w1) ∧ (¬ r1 = nI 117 → ((r1 = nI 118 → Q (-nI 2) w1) ∧ (¬ r1 = nI 118 → ((r1 = nI 119 → ∃ Q9 : Int32 → Wd → Prop, EvI m_Tokens_stands d [.ref 8, .int x1, .ref 209] w1 Q9 ∧ ∀ (r9 : Int32) (w9 : Wd), Q9 r9 w9 → ((r9 = 0 → Q (-nI 2) w9) ∧ (¬ r9 = 0 → Q (-nI 13) w9))) ∧ (¬ r1 = nI 119 → Q (-nI 2) w1))))))))))))))))))))))))))))))))))))))))))))))) : Z m_Tokens_wordCode (d + 1) (qI Q) 0 [(0, .ref 8), (1, .int x1)] [] w := wp_ok (P := P_Tokens_wordCode) (S := S_Tokens_wordCode) rfl pr_Tokens_wordCode 20 _ _ _ _ h
def P_Tokens_sWordCode : Prog := [(0, .aload_n 0), (1, .iload_n 1), (2, .ldc 84), (4, .invokestatic 65), (7, .ifCond .eq 6), (10, .bipush (-12)), (12, .ireturn), (13, .aload_n 0), (14, .iload_n 1), (15, .ldc 86), (17, .invokestatic 65), (20, .ifCond .eq 6), (23, .bipush (-14)), (25, .ireturn), (26, .aload_n 0), (27, .iload_n 1), (28, .ldc 88), (30, .invokestatic 65), (33, .ifCond .eq 8), (36, .bipush (-9)), (38, .goto 5), (41, .bipush (-2)), (43, .ireturn)]
theorem pr_Tokens_sWordCode : prOK m_Tokens_sWordCode P_Tokens_sWordCode = true := by decide +kernel
def S_Tokens_sWordCode : List (Nat × List Nat) := []
theorem ev_Tokens_sWordCode {d : Nat} {w : Wd} {Q : Int32 → Wd → Prop} (x1 : Int32) (h : Z m_Tokens_sWordCode d (qI Q) 0 [(0, .ref 8), (1, .int x1)] [] w) : EvI m_Tokens_sWordCode d [.ref 8, .int x1] w Q := Ev.ofZ (by decide +kernel) (Nat.le_of_ble_eq_true rfl) h
set_option maxRecDepth 20000 in
set_option maxHeartbeats 1000000 in
theorem vc_Tokens_sWordCode_0 {d : Nat} {w : Wd} {Q : Int32 → Wd → Prop} (x1 : Int32) (h : ∃ Q1 : Int32 → Wd → Prop, EvI m_Tokens_stands d [.ref 8, .int x1, .ref 206] w Q1 ∧ ∀ (r1 : Int32) (w1 : Wd), Q1 r1 w1 → ((r1 = 0 → ∃ Q2 : Int32 → Wd → Prop, EvI m_Tokens_stands d [.ref 8, .int x1, .ref 207] w1 Q2 ∧ ∀ (r2 : Int32) (w2 : Wd), Q2 r2 w2 → ((r2 = 0 → ∃ Q3 : Int32 → Wd → Prop, EvI m_Tokens_stands d [.ref 8, .int x1, .ref 208] w2 Q3 ∧ ∀ (r3 : Int32) (w3 : Wd), Q3 r3 w3 → ((r3 = 0 → Q (-nI 2) w3) ∧ (¬ r3 = 0 → Q (-nI 9) w3))) ∧ (¬ r2 = 0 → Q (-nI 14) w2))) ∧ (¬ r1 = 0 → Q (-nI 12) w1))) : Z m_Tokens_sWordCode (d + 1) (qI Q) 0 [(0, .ref 8), (1, .int x1)] [] w := wp_ok (P := P_Tokens_sWordCode) (S := S_Tokens_sWordCode) rfl pr_Tokens_sWordCode 19 _ _ _ _ h
def P_Tokens_stands : Prog := [(0, .iconst 0), (1, .istore_n 3), (2, .iload_n 3), (3, .aload_n 2), (4, .invokevirtual 90), (7, .if_icmp .ge 26), (10, .aload_n 0), (11, .iload_n 1), (12, .iload_n 3), (13, .iadd), (14, .invokevirtual 31), (17, .aload_n 2), (18, .iload_n 3), (19, .invokevirtual 93), (22, .if_icmp .eq 5), (25, .iconst 0), (26, .ireturn), (27, .iinc 3 1), (30, .goto (-28)), (33, .aload_n 0), (34, .iload_n 1), (35, .aload_n 2), (36, .invokevirtual 90), (39, .iadd), (40, .invokevirtual 31), (43, .invokestatic 51), (46, .ifCond .ne 7), (49, .iconst 1), (50, .goto 4), (53, .iconst 0), (54, .ireturn)]
theorem pr_Tokens_stands : prOK m_Tokens_stands P_Tokens_stands = true := by decide +kernel
def S_Tokens_stands : List (Nat × List Nat) := [(2, [0, 1, 2, 3])]
theorem ev_Tokens_stands {d : Nat} {w : Wd} {Q : Int32 → Wd → Prop} (x1 : Int32) (t : Nat) (h : Z m_Tokens_stands d (qI Q) 0 [(0, .ref 8), (1, .int x1), (2, .ref t)] [] w) : EvI m_Tokens_stands d [.ref 8, .int x1, .ref t] w Q := Ev.ofZ (by decide +kernel) (Nat.le_of_ble_eq_true rfl) h
set_option maxRecDepth 20000 in
set_option maxHeartbeats 1000000 in
theorem vc_Tokens_stands_0 {d : Nat} {w : Wd} {Q : Int32 → Wd → Prop} (x1 : Int32) (t : Nat) (h : Z m_Tokens_stands (d + 1) (qI Q) 2 [(0, .ref 8), (1, .int x1), (2, .ref t), (3, .int (nI 0))] [] w) : Z m_Tokens_stands (d + 1) (qI Q) 0 [(0, .ref 8), (1, .int x1), (2, .ref t)] [] w := wp_ok (P := P_Tokens_stands) (S := S_Tokens_stands) rfl pr_Tokens_stands 3 _ _ _ _ h
set_option maxRecDepth 20000 in
set_option maxHeartbeats 1000000 in
theorem vc_Tokens_stands_2 {d : Nat} {w : Wd} {Q : Int32 → Wd → Prop} (x1 : Int32) (t : Nat) (x3 : Int32) (h : (∃ k : Nat, k < 10 ∧ t = 200 + k) ∧ ∃ Q1 : Int32 → Wd → Prop, EvI m_String_length d [.ref t] w Q1 ∧ ∀ (r1 : Int32) (w1 : Wd), Q1 r1 w1 → ((r1 ≤ x3 → (∃ k : Nat, k < 10 ∧ t = 200 + k) ∧ ∃ Q2 : Int32 → Wd → Prop, EvI m_String_length d [.ref t] w1 Q2 ∧ ∀ (r2 : Int32) (w2 : Wd), Q2 r2 w2 → ∃ Q3 : Int32 → Wd → Prop, EvI m_Tape_at d [.ref 8, .int (x1 + r2)] w2 Q3 ∧ ∀ (r3 : Int32) (w3 : Wd), Q3 r3 w3 → ∃ Q4 : Int32 → Wd → Prop, EvI m_Tokens_isLetter d [.int r3] w3 Q4 ∧ ∀ (r4 : Int32) (w4 : Wd), Q4 r4 w4 → ((¬ r4 = 0 → ((nI 0) = 0 ∨ (nI 0) = 1) ∧ Q (nI 0) w4) ∧ (r4 = 0 → ((nI 1) = 0 ∨ (nI 1) = 1) ∧ Q (nI 1) w4))) ∧ (¬ r1 ≤ x3 → ∃ Q5 : Int32 → Wd → Prop, EvI m_Tape_at d [.ref 8, .int (x1 + x3)] w1 Q5 ∧ ∀ (r5 : Int32) (w5 : Wd), Q5 r5 w5 → (∃ k : Nat, k < 10 ∧ t = 200 + k) ∧ ∃ Q6 : Int32 → Wd → Prop, EvI m_String_charAt d [.ref t, .int x3] w5 Q6 ∧ ∀ (r6 : Int32) (w6 : Wd), Q6 r6 w6 → ((r5 = r6 → Z m_Tokens_stands (d + 1) (qI Q) 2 [(0, .ref 8), (1, .int x1), (2, .ref t), (3, .int (x3 + nI 1))] [] w6) ∧ (¬ r5 = r6 → ((nI 0) = 0 ∨ (nI 0) = 1) ∧ Q (nI 0) w6))))) : Z m_Tokens_stands (d + 1) (qI Q) 2 [(0, .ref 8), (1, .int x1), (2, .ref t), (3, .int x3)] [] w := wp_ok (P := P_Tokens_stands) (S := S_Tokens_stands) rfl pr_Tokens_stands 16 _ _ _ _ h
def P_Tokens_isBlank : Prog := [(0, .iload_n 0), (1, .bipush 10), (3, .if_icmp .eq 9), (6, .iload_n 0), (7, .bipush 32), (9, .if_icmp .ne 7), (12, .iconst 1), (13, .goto 4), (16, .iconst 0), (17, .ireturn)]
theorem pr_Tokens_isBlank : prOK m_Tokens_isBlank P_Tokens_isBlank = true := by decide +kernel
def S_Tokens_isBlank : List (Nat × List Nat) := []
theorem ev_Tokens_isBlank {d : Nat} {w : Wd} {Q : Int32 → Wd → Prop} (x0 : Int32) (h : Z m_Tokens_isBlank d (qI Q) 0 [(0, .int x0)] [] w) : EvI m_Tokens_isBlank d [.int x0] w Q := Ev.ofZ (by decide +kernel) (Nat.le_of_ble_eq_true rfl) h
set_option maxRecDepth 20000 in
set_option maxHeartbeats 1000000 in
theorem vc_Tokens_isBlank_0 {d : Nat} {w : Wd} {Q : Int32 → Wd → Prop} (x0 : Int32) (h : ((x0 = (nI 10) → ((nI 1) = 0 ∨ (nI 1) = 1) ∧ Q (nI 1) w) ∧ (¬ x0 = (nI 10) → ((¬ x0 = (nI 32) → ((nI 0) = 0 ∨ (nI 0) = 1) ∧ Q (nI 0) w) ∧ (x0 = (nI 32) → ((nI 1) = 0 ∨ (nI 1) = 1) ∧ Q (nI 1) w))))) : Z m_Tokens_isBlank d (qI Q) 0 [(0, .int x0)] [] w := wp_ok (P := P_Tokens_isBlank) (S := S_Tokens_isBlank) rfl pr_Tokens_isBlank 10 _ _ _ _ h
def P_Tokens_isLetter : Prog := [(0, .iload_n 0), (1, .bipush 97), (3, .if_icmp .lt 13), (6, .iload_n 0), (7, .bipush 122), (9, .if_icmp .gt 7), (12, .iconst 1), (13, .goto 4), (16, .iconst 0), (17, .ireturn)]
theorem pr_Tokens_isLetter : prOK m_Tokens_isLetter P_Tokens_isLetter = true := by decide +kernel
def S_Tokens_isLetter : List (Nat × List Nat) := []
theorem ev_Tokens_isLetter {d : Nat} {w : Wd} {Q : Int32 → Wd → Prop} (x0 : Int32) (h : Z m_Tokens_isLetter d (qI Q) 0 [(0, .int x0)] [] w) : EvI m_Tokens_isLetter d [.int x0] w Q := Ev.ofZ (by decide +kernel) (Nat.le_of_ble_eq_true rfl) h
set_option maxRecDepth 20000 in
set_option maxHeartbeats 1000000 in
theorem vc_Tokens_isLetter_0 {d : Nat} {w : Wd} {Q : Int32 → Wd → Prop} (x0 : Int32) (h : ((x0 < (nI 97) → ((nI 0) = 0 ∨ (nI 0) = 1) ∧ Q (nI 0) w) ∧ (¬ x0 < (nI 97) → (((nI 122) < x0 → ((nI 0) = 0 ∨ (nI 0) = 1) ∧ Q (nI 0) w) ∧ (¬ (nI 122) < x0 → ((nI 1) = 0 ∨ (nI 1) = 1) ∧ Q (nI 1) w))))) : Z m_Tokens_isLetter d (qI Q) 0 [(0, .int x0)] [] w := wp_ok (P := P_Tokens_isLetter) (S := S_Tokens_isLetter) rfl pr_Tokens_isLetter 10 _ _ _ _ h
def P_Tokens_isDigit : Prog := [(0, .iload_n 0), (1, .bipush 48), (3, .if_icmp .lt 13), (6, .iload_n 0), (7, .bipush 57), (9, .if_icmp .gt 7), (12, .iconst 1), (13, .goto 4), (16, .iconst 0), (17, .ireturn)]
theorem pr_Tokens_isDigit : prOK m_Tokens_isDigit P_Tokens_isDigit = true := by decide +kernel
def S_Tokens_isDigit : List (Nat × List Nat) := []
theorem ev_Tokens_isDigit {d : Nat} {w : Wd} {Q : Int32 → Wd → Prop} (x0 : Int32) (h : Z m_Tokens_isDigit d (qI Q) 0 [(0, .int x0)] [] w) : EvI m_Tokens_isDigit d [.int x0] w Q := Ev.ofZ (by decide +kernel) (Nat.le_of_ble_eq_true rfl) h
set_option maxRecDepth 20000 in
set_option maxHeartbeats 1000000 in
theorem vc_Tokens_isDigit_0 {d : Nat} {w : Wd} {Q : Int32 → Wd → Prop} (x0 : Int32) (h : ((x0 < (nI 48) → ((nI 0) = 0 ∨ (nI 0) = 1) ∧ Q (nI 0) w) ∧ (¬ x0 < (nI 48) → (((nI 57) < x0 → ((nI 0) = 0 ∨ (nI 0) = 1) ∧ Q (nI 0) w) ∧ (¬ (nI 57) < x0 → ((nI 1) = 0 ∨ (nI 1) = 1) ∧ Q (nI 1) w))))) : Z m_Tokens_isDigit d (qI Q) 0 [(0, .int x0)] [] w := wp_ok (P := P_Tokens_isDigit) (S := S_Tokens_isDigit) rfl pr_Tokens_isDigit 10 _ _ _ _ h
def P_Book_clear : Prog := [(0, .aload_n 0), (1, .iconst 0), (2, .putfield 42), (5, .aload_n 0), (6, .iconst 0), (7, .putfield 46), (10, .aload_n 0), (11, .iconst 0), (12, .putfield 49), (15, .aload_n 0), (16, .iconst 0), (17, .putfield 52), (20, .return_)]
theorem pr_Book_clear : prOK m_Book_clear P_Book_clear = true := by decide +kernel
def S_Book_clear : List (Nat × List Nat) := []
theorem ev_Book_clear {d : Nat} {w : Wd} {Q : Wd → Prop}  (h : Z m_Book_clear d (qV Q) 0 [(0, .ref 25)] [] w) : EvV m_Book_clear d [.ref 25] w Q := Ev.ofZ (by decide +kernel) (Nat.le_of_ble_eq_true rfl) h
set_option maxRecDepth 20000 in
set_option maxHeartbeats 1000000 in
theorem vc_Book_clear_0 {d : Nat} {w : Wd} {Q : Wd → Prop}  (h : Q (up1 (up1 (up1 (up1 w 25 0 (nI 0)) 25 7 (nI 0)) 25 9 (nI 0)) 25 13 (nI 0))) : Z m_Book_clear d (qV Q) 0 [(0, .ref 25)] [] w := wp_ok (P := P_Book_clear) (S := S_Book_clear) rfl pr_Book_clear 14 _ _ _ _ h
def S_Book_clear_d : List (Nat × List Nat) := []
theorem ev_Book_clear_d {d : Nat} {w : Wd} {Q : Wd → Prop}  (h : Z m_Book_clear d (qV Q) 0 [(0, .ref 13)] [] w) : EvV m_Book_clear d [.ref 13] w Q := Ev.ofZ (by decide +kernel) (Nat.le_of_ble_eq_true rfl) h
set_option maxRecDepth 20000 in
set_option maxHeartbeats 1000000 in
theorem vc_Book_clear_d_0 {d : Nat} {w : Wd} {Q : Wd → Prop}  (h : Q (up1 (up1 (up1 (up1 w 13 0 (nI 0)) 13 7 (nI 0)) 13 9 (nI 0)) 13 13 (nI 0))) : Z m_Book_clear d (qV Q) 0 [(0, .ref 13)] [] w := wp_ok (P := P_Book_clear) (S := S_Book_clear_d) rfl pr_Book_clear 14 _ _ _ _ h
def P_Book_become : Prog := [(0, .aload_n 0), (1, .aload_n 1), (2, .getfield 42), (5, .putfield 42), (8, .aload_n 0), (9, .aload_n 1), (10, .getfield 46), (13, .putfield 46), (16, .aload_n 0), (17, .aload_n 1), (18, .getfield 49), (21, .putfield 49), (24, .aload_n 0), (25, .aload_n 1), (26, .getfield 52), (29, .putfield 52), (32, .aload_n 1), (33, .getfield 9), (36, .iconst 0), (37, .aload_n 0), (38, .getfield 9), (41, .iconst 0), (42, .bipush 12), (44, .invokestatic 55), (47, .aload_n 1), (48, .getfield 15), (51, .iconst 0), (52, .aload_n 0), (53, .getfield 15), (56, .iconst 0), (57, .bipush 12), (59, .invokestatic 55), (62, .aload_n 1), (63, .getfield 18), (66, .iconst 0), (67, .aload_n 0), (68, .getfield 18), (71, .iconst 0), (72, .bipush 12), (74, .invokestatic 55), (77, .aload_n 1), (78, .getfield 21), (81, .iconst 0), (82, .aload_n 0), (83, .getfield 21), (86, .iconst 0), (87, .bipush 12), (89, .invokestatic 55), (92, .aload_n 1), (93, .getfield 24), (96, .iconst 0), (97, .aload_n 0), (98, .getfield 24), (101, .iconst 0), (102, .bipush 120), (104, .invokestatic 55), (107, .aload_n 1), (108, .getfield 27), (111, .iconst 0), (112, .aload_n 0), (113, .getfield 27), (116, .iconst 0), (117, .bipush 120), (119, .invokestatic 55), (122, .aload_n 1), (123, .getfield 30), (126, .iconst 0), (127, .aload_n 0), (128, .getfield 30), (131, .iconst 0), (132, .bipush 10), (134, .invokestatic 55), (137, .aload_n 1), (138, .getfield 33), (141, .iconst 0), (142, .aload_n 0), (143, .getfield 33), (146, .iconst 0), (147, .bipush 6), (149, .invokestatic 55), (152, .aload_n 1), (153, .getfield 36), (156, .iconst 0), (157, .aload_n 0), (158, .getfield 36), (161, .iconst 0), (162, .bipush 6), (164, .invokestatic 55), (167, .aload_n 1), (168, .getfield 39), (171, .iconst 0), (172, .aload_n 0), (173, .getfield 39), (176, .iconst 0), (177, .bipush 6), (179, .invokestatic 55), (182, .return_)]
theorem pr_Book_become : prOK m_Book_become P_Book_become = true := by decide +kernel
def S_Book_become : List (Nat × List Nat) := [(32, [0, 1]), (47, [0, 1]), (62, [0, 1]), (77, [0, 1]), (92, [0, 1]), (107, [0, 1]), (122, [0, 1]), (137, [0, 1]), (152, [0, 1]), (167, [0, 1])]
theorem ev_Book_become {d : Nat} {w : Wd} {Q : Wd → Prop}  (h : Z m_Book_become d (qV Q) 0 [(0, .ref 25), (1, .ref 13)] [] w) : EvV m_Book_become d [.ref 25, .ref 13] w Q := Ev.ofZ (by decide +kernel) (Nat.le_of_ble_eq_true rfl) h
set_option maxRecDepth 20000 in
set_option maxHeartbeats 1000000 in
theorem vc_Book_become_0 {d : Nat} {w : Wd} {Q : Wd → Prop}  (h : Z m_Book_become (d + 1) (qV Q) 32 [(0, .ref 25), (1, .ref 13)] [] (up1 (up1 (up1 (up1 w 25 0 (w.1 13 0)) 25 7 (w.1 13 7)) 25 9 (w.1 13 9)) 25 13 (w.1 13 13))) : Z m_Book_become (d + 1) (qV Q) 0 [(0, .ref 25), (1, .ref 13)] [] w := wp_ok (P := P_Book_become) (S := S_Book_become) rfl pr_Book_become 17 _ _ _ _ h
set_option maxRecDepth 20000 in
set_option maxHeartbeats 1000000 in
theorem vc_Book_become_32 {d : Nat} {w : Wd} {Q : Wd → Prop}  (h : ∃ j1 j2 m1 : Nat, (nI 0) = nI j1 ∧ (nI 0) = nI j2 ∧ (nI 12) = nI m1 ∧ j1 + m1 ≤ 12 ∧ j2 + m1 ≤ 12 ∧ Z m_Book_become (d + 1) (qV Q) 47 [(0, .ref 25), (1, .ref 13)] [] (upA w 26 (va_cpy (w.1 14) (w.1 26) j1 j2 m1))) : Z m_Book_become (d + 1) (qV Q) 32 [(0, .ref 25), (1, .ref 13)] [] w := wp_ok (P := P_Book_become) (S := S_Book_become) rfl pr_Book_become 9 _ _ _ _ h
set_option maxRecDepth 20000 in
set_option maxHeartbeats 1000000 in
theorem vc_Book_become_47 {d : Nat} {w : Wd} {Q : Wd → Prop}  (h : ∃ j1 j2 m1 : Nat, (nI 0) = nI j1 ∧ (nI 0) = nI j2 ∧ (nI 12) = nI m1 ∧ j1 + m1 ≤ 12 ∧ j2 + m1 ≤ 12 ∧ Z m_Book_become (d + 1) (qV Q) 62 [(0, .ref 25), (1, .ref 13)] [] (upA w 27 (va_cpy (w.1 15) (w.1 27) j1 j2 m1))) : Z m_Book_become (d + 1) (qV Q) 47 [(0, .ref 25), (1, .ref 13)] [] w := wp_ok (P := P_Book_become) (S := S_Book_become) rfl pr_Book_become 9 _ _ _ _ h
set_option maxRecDepth 20000 in
set_option maxHeartbeats 1000000 in
theorem vc_Book_become_62 {d : Nat} {w : Wd} {Q : Wd → Prop}  (h : ∃ j1 j2 m1 : Nat, (nI 0) = nI j1 ∧ (nI 0) = nI j2 ∧ (nI 12) = nI m1 ∧ j1 + m1 ≤ 12 ∧ j2 + m1 ≤ 12 ∧ Z m_Book_become (d + 1) (qV Q) 77 [(0, .ref 25), (1, .ref 13)] [] (upA w 28 (va_cpy (w.1 16) (w.1 28) j1 j2 m1))) : Z m_Book_become (d + 1) (qV Q) 62 [(0, .ref 25), (1, .ref 13)] [] w := wp_ok (P := P_Book_become) (S := S_Book_become) rfl pr_Book_become 9 _ _ _ _ h
set_option maxRecDepth 20000 in
set_option maxHeartbeats 1000000 in
theorem vc_Book_become_77 {d : Nat} {w : Wd} {Q : Wd → Prop}  (h : ∃ j1 j2 m1 : Nat, (nI 0) = nI j1 ∧ (nI 0) = nI j2 ∧ (nI 12) = nI m1 ∧ j1 + m1 ≤ 12 ∧ j2 + m1 ≤ 12 ∧ Z m_Book_become (d + 1) (qV Q) 92 [(0, .ref 25), (1, .ref 13)] [] (upA w 29 (va_cpy (w.1 17) (w.1 29) j1 j2 m1))) : Z m_Book_become (d + 1) (qV Q) 77 [(0, .ref 25), (1, .ref 13)] [] w := wp_ok (P := P_Book_become) (S := S_Book_become) rfl pr_Book_become 9 _ _ _ _ h
set_option maxRecDepth 20000 in
set_option maxHeartbeats 1000000 in
theorem vc_Book_become_92 {d : Nat} {w : Wd} {Q : Wd → Prop}  (h : ∃ j1 j2 m1 : Nat, (nI 0) = nI j1 ∧ (nI 0) = nI j2 ∧ (nI 120) = nI m1 ∧ j1 + m1 ≤ 120 ∧ j2 + m1 ≤ 120 ∧ Z m_Book_become (d + 1) (qV Q) 107 [(0, .ref 25), (1, .ref 13)] [] (upA w 30 (va_cpy (w.1 18) (w.1 30) j1 j2 m1))) : Z m_Book_become (d + 1) (qV Q) 92 [(0, .ref 25), (1, .ref 13)] [] w := wp_ok (P := P_Book_become) (S := S_Book_become) rfl pr_Book_become 9 _ _ _ _ h
set_option maxRecDepth 20000 in
set_option maxHeartbeats 1000000 in
theorem vc_Book_become_107 {d : Nat} {w : Wd} {Q : Wd → Prop}  (h : ∃ j1 j2 m1 : Nat, (nI 0) = nI j1 ∧ (nI 0) = nI j2 ∧ (nI 120) = nI m1 ∧ j1 + m1 ≤ 120 ∧ j2 + m1 ≤ 120 ∧ Z m_Book_become (d + 1) (qV Q) 122 [(0, .ref 25), (1, .ref 13)] [] (upA w 31 (va_cpy (w.1 19) (w.1 31) j1 j2 m1))) : Z m_Book_become (d + 1) (qV Q) 107 [(0, .ref 25), (1, .ref 13)] [] w := wp_ok (P := P_Book_become) (S := S_Book_become) rfl pr_Book_become 9 _ _ _ _ h
set_option maxRecDepth 20000 in
set_option maxHeartbeats 1000000 in
theorem vc_Book_become_122 {d : Nat} {w : Wd} {Q : Wd → Prop}  (h : ∃ j1 j2 m1 : Nat, (nI 0) = nI j1 ∧ (nI 0) = nI j2 ∧ (nI 10) = nI m1 ∧ j1 + m1 ≤ 10 ∧ j2 + m1 ≤ 10 ∧ Z m_Book_become (d + 1) (qV Q) 137 [(0, .ref 25), (1, .ref 13)] [] (upA w 32 (va_cpy (w.1 20) (w.1 32) j1 j2 m1))) : Z m_Book_become (d + 1) (qV Q) 122 [(0, .ref 25), (1, .ref 13)] [] w := wp_ok (P := P_Book_become) (S := S_Book_become) rfl pr_Book_become 9 _ _ _ _ h
set_option maxRecDepth 20000 in
set_option maxHeartbeats 1000000 in
theorem vc_Book_become_137 {d : Nat} {w : Wd} {Q : Wd → Prop}  (h : ∃ j1 j2 m1 : Nat, (nI 0) = nI j1 ∧ (nI 0) = nI j2 ∧ (nI 6) = nI m1 ∧ j1 + m1 ≤ 6 ∧ j2 + m1 ≤ 6 ∧ Z m_Book_become (d + 1) (qV Q) 152 [(0, .ref 25), (1, .ref 13)] [] (upA w 33 (va_cpy (w.1 21) (w.1 33) j1 j2 m1))) : Z m_Book_become (d + 1) (qV Q) 137 [(0, .ref 25), (1, .ref 13)] [] w := wp_ok (P := P_Book_become) (S := S_Book_become) rfl pr_Book_become 9 _ _ _ _ h
set_option maxRecDepth 20000 in
set_option maxHeartbeats 1000000 in
theorem vc_Book_become_152 {d : Nat} {w : Wd} {Q : Wd → Prop}  (h : ∃ j1 j2 m1 : Nat, (nI 0) = nI j1 ∧ (nI 0) = nI j2 ∧ (nI 6) = nI m1 ∧ j1 + m1 ≤ 6 ∧ j2 + m1 ≤ 6 ∧ Z m_Book_become (d + 1) (qV Q) 167 [(0, .ref 25), (1, .ref 13)] [] (upA w 34 (va_cpy (w.1 22) (w.1 34) j1 j2 m1))) : Z m_Book_become (d + 1) (qV Q) 152 [(0, .ref 25), (1, .ref 13)] [] w := wp_ok (P := P_Book_become) (S := S_Book_become) rfl pr_Book_become 9 _ _ _ _ h
set_option maxRecDepth 20000 in
set_option maxHeartbeats 1000000 in
theorem vc_Book_become_167 {d : Nat} {w : Wd} {Q : Wd → Prop}  (h : ∃ j1 j2 m1 : Nat, (nI 0) = nI j1 ∧ (nI 0) = nI j2 ∧ (nI 6) = nI m1 ∧ j1 + m1 ≤ 6 ∧ j2 + m1 ≤ 6 ∧ Q (upA w 35 (va_cpy (w.1 23) (w.1 35) j1 j2 m1))) : Z m_Book_become (d + 1) (qV Q) 167 [(0, .ref 25), (1, .ref 13)] [] w := wp_ok (P := P_Book_become) (S := S_Book_become) rfl pr_Book_become 10 _ _ _ _ h
def P_Book_openRule : Prog := [(0, .aload_n 0), (1, .getfield 42), (4, .bipush 12), (6, .if_icmp .ge 43), (9, .aload_n 0), (10, .getfield 9), (13, .aload_n 0), (14, .getfield 42), (17, .iload_n 1), (18, .iastore), (19, .aload_n 0), (20, .getfield 15), (23, .aload_n 0), (24, .getfield 42), (27, .iconst 0), (28, .iastore), (29, .aload_n 0), (30, .getfield 18), (33, .aload_n 0), (34, .getfield 42), (37, .iconst (-1)), (38, .iastore), (39, .aload_n 0), (40, .getfield 21), (43, .aload_n 0), (44, .getfield 42), (47, .iconst (-1)), (48, .iastore), (49, .return_)]
theorem pr_Book_openRule : prOK m_Book_openRule P_Book_openRule = true := by decide +kernel
def S_Book_openRule : List (Nat × List Nat) := []
theorem ev_Book_openRule {d : Nat} {w : Wd} {Q : Wd → Prop} (x1 : Int32) (h : Z m_Book_openRule d (qV Q) 0 [(0, .ref 25), (1, .int x1)] [] w) : EvV m_Book_openRule d [.ref 25, .int x1] w Q := Ev.ofZ (by decide +kernel) (Nat.le_of_ble_eq_true rfl) h
set_option maxRecDepth 20000 in
set_option maxHeartbeats 1000000 in
theorem vc_Book_openRule_0 {d : Nat} {w : Wd} {Q : Wd → Prop} (x1 : Int32) (h : (((nI 12) ≤ (w.1 25 0) → Q w) ∧ (¬ (nI 12) ≤ (w.1 25 0) → ∃ j1 : Nat, (w.1 25 0) = nI j1 ∧ j1 < 12 ∧ ∃ j2 : Nat, (w.1 25 0) = nI j2 ∧ j2 < 12 ∧ ∃ j3 : Nat, (w.1 25 0) = nI j3 ∧ j3 < 12 ∧ ∃ j4 : Nat, (w.1 25 0) = nI j4 ∧ j4 < 12 ∧ Q (up1 (up1 (up1 (up1 w 26 j1 x1) 27 j2 (nI 0)) 28 j3 (-nI 1)) 29 j4 (-nI 1))))) : Z m_Book_openRule d (qV Q) 0 [(0, .ref 25), (1, .int x1)] [] w := wp_ok (P := P_Book_openRule) (S := S_Book_openRule) rfl pr_Book_openRule 30 _ _ _ _ h
def S_Book_openRule_d : List (Nat × List Nat) := []
theorem ev_Book_openRule_d {d : Nat} {w : Wd} {Q : Wd → Prop} (x1 : Int32) (h : Z m_Book_openRule d (qV Q) 0 [(0, .ref 13), (1, .int x1)] [] w) : EvV m_Book_openRule d [.ref 13, .int x1] w Q := Ev.ofZ (by decide +kernel) (Nat.le_of_ble_eq_true rfl) h
set_option maxRecDepth 20000 in
set_option maxHeartbeats 1000000 in
theorem vc_Book_openRule_d_0 {d : Nat} {w : Wd} {Q : Wd → Prop} (x1 : Int32) (h : (((nI 12) ≤ (w.1 13 0) → Q w) ∧ (¬ (nI 12) ≤ (w.1 13 0) → ∃ j1 : Nat, (w.1 13 0) = nI j1 ∧ j1 < 12 ∧ ∃ j2 : Nat, (w.1 13 0) = nI j2 ∧ j2 < 12 ∧ ∃ j3 : Nat, (w.1 13 0) = nI j3 ∧ j3 < 12 ∧ ∃ j4 : Nat, (w.1 13 0) = nI j4 ∧ j4 < 12 ∧ Q (up1 (up1 (up1 (up1 w 14 j1 x1) 15 j2 (nI 0)) 16 j3 (-nI 1)) 17 j4 (-nI 1))))) : Z m_Book_openRule d (qV Q) 0 [(0, .ref 13), (1, .int x1)] [] w := wp_ok (P := P_Book_openRule) (S := S_Book_openRule_d) rfl pr_Book_openRule 30 _ _ _ _ h
def P_Book_openRuleHas : Prog := [(0, .aload_n 0), (1, .getfield 42), (4, .bipush 12), (6, .if_icmp .lt 5), (9, .iconst 0), (10, .ireturn), (11, .iload_n 1), (12, .iconst 1), (13, .if_icmp .ne 15), (16, .aload_n 0), (17, .getfield 18), (20, .aload_n 0), (21, .getfield 42), (24, .iaload), (25, .goto 12), (28, .aload_n 0), (29, .getfield 21), (32, .aload_n 0), (33, .getfield 42), (36, .iaload), (37, .iconst (-1)), (38, .if_icmp .eq 7), (41, .iconst 1), (42, .goto 4), (45, .iconst 0), (46, .ireturn)]
theorem pr_Book_openRuleHas : prOK m_Book_openRuleHas P_Book_openRuleHas = true := by decide +kernel
def S_Book_openRuleHas : List (Nat × List Nat) := []
theorem ev_Book_openRuleHas {d : Nat} {w : Wd} {Q : Int32 → Wd → Prop} (x1 : Int32) (h : Z m_Book_openRuleHas d (qI Q) 0 [(0, .ref 25), (1, .int x1)] [] w) : EvI m_Book_openRuleHas d [.ref 25, .int x1] w Q := Ev.ofZ (by decide +kernel) (Nat.le_of_ble_eq_true rfl) h
set_option maxRecDepth 20000 in
set_option maxHeartbeats 1000000 in
theorem vc_Book_openRuleHas_0 {d : Nat} {w : Wd} {Q : Int32 → Wd → Prop} (x1 : Int32) (h : (((w.1 25 0) < (nI 12) → ((¬ x1 = (nI 1) → ∃ j1 : Nat, (w.1 25 0) = nI j1 ∧ j1 < 12 ∧ (((w.1 29 j1) = (-nI 1) → ((nI 0) = 0 ∨ (nI 0) = 1) ∧ Q (nI 0) w) ∧ (¬ (w.1 29 j1) = (-nI 1) → ((nI 1) = 0 ∨ (nI 1) = 1) ∧ Q (nI 1) w))) ∧ (x1 = (nI 1) → ∃ j2 : Nat, (w.1 25 0) = nI j2 ∧ j2 < 12 ∧ (((w.1 28 j2) = (-nI 1) → ((nI 0) = 0 ∨ (nI 0) = 1) ∧ Q (nI 0) w) ∧ (¬ (w.1 28 j2) = (-nI 1) → ((nI 1) = 0 ∨ (nI 1) = 1) ∧ Q (nI 1) w))))) ∧ (¬ (w.1 25 0) < (nI 12) → ((nI 0) = 0 ∨ (nI 0) = 1) ∧ Q (nI 0) w))) : Z m_Book_openRuleHas d (qI Q) 0 [(0, .ref 25), (1, .int x1)] [] w := wp_ok (P := P_Book_openRuleHas) (S := S_Book_openRuleHas) rfl pr_Book_openRuleHas 19 _ _ _ _ h
def S_Book_openRuleHas_d : List (Nat × List Nat) := []
theorem ev_Book_openRuleHas_d {d : Nat} {w : Wd} {Q : Int32 → Wd → Prop} (x1 : Int32) (h : Z m_Book_openRuleHas d (qI Q) 0 [(0, .ref 13), (1, .int x1)] [] w) : EvI m_Book_openRuleHas d [.ref 13, .int x1] w Q := Ev.ofZ (by decide +kernel) (Nat.le_of_ble_eq_true rfl) h
set_option maxRecDepth 20000 in
set_option maxHeartbeats 1000000 in
theorem vc_Book_openRuleHas_d_0 {d : Nat} {w : Wd} {Q : Int32 → Wd → Prop} (x1 : Int32) (h : (((w.1 13 0) < (nI 12) → ((¬ x1 = (nI 1) → ∃ j1 : Nat, (w.1 13 0) = nI j1 ∧ j1 < 12 ∧ (((w.1 17 j1) = (-nI 1) → ((nI 0) = 0 ∨ (nI 0) = 1) ∧ Q (nI 0) w) ∧ (¬ (w.1 17 j1) = (-nI 1) → ((nI 1) = 0 ∨ (nI 1) = 1) ∧ Q (nI 1) w))) ∧ (x1 = (nI 1) → ∃ j2 : Nat, (w.1 13 0) = nI j2 ∧ j2 < 12 ∧ (((w.1 16 j2) = (-nI 1) → ((nI 0) = 0 ∨ (nI 0) = 1) ∧ Q (nI 0) w) ∧ (¬ (w.1 16 j2) = (-nI 1) → ((nI 1) = 0 ∨ (nI 1) = 1) ∧ Q (nI 1) w))))) ∧ (¬ (w.1 13 0) < (nI 12) → ((nI 0) = 0 ∨ (nI 0) = 1) ∧ Q (nI 0) w))) : Z m_Book_openRuleHas d (qI Q) 0 [(0, .ref 13), (1, .int x1)] [] w := wp_ok (P := P_Book_openRuleHas) (S := S_Book_openRuleHas_d) rfl pr_Book_openRuleHas 19 _ _ _ _ h
def P_Book_addItem : Prog := [(0, .aload_n 0), (1, .getfield 42), (4, .bipush 12), (6, .if_icmp .ge 17), (9, .aload_n 0), (10, .getfield 15), (13, .aload_n 0), (14, .getfield 42), (17, .iaload), (18, .bipush 10), (20, .if_icmp .lt 4), (23, .return_), (24, .aload_n 0), (25, .getfield 15), (28, .aload_n 0), (29, .getfield 42), (32, .iaload), (33, .istore 4), (35, .aload_n 0), (36, .getfield 24), (39, .aload_n 0), (40, .getfield 42), (43, .bipush 10), (45, .imul), (46, .iload 4), (48, .iadd), (49, .iload_n 1), (50, .iastore), (51, .aload_n 0), (52, .getfield 27), (55, .aload_n 0), (56, .getfield 42), (59, .bipush 10), (61, .imul), (62, .iload 4), (64, .iadd), (65, .iload_n 2), (66, .iastore), (67, .iload_n 3), (68, .iconst 1), (69, .if_icmp .ne 17), (72, .aload_n 0), (73, .getfield 18), (76, .aload_n 0), (77, .getfield 42), (80, .iload 4), (82, .iastore), (83, .goto 19), (86, .iload_n 3), (87, .iconst 2), (88, .if_icmp .ne 14), (91, .aload_n 0), (92, .getfield 21), (95, .aload_n 0), (96, .getfield 42), (99, .iload 4), (101, .iastore), (102, .aload_n 0), (103, .getfield 15), (106, .aload_n 0), (107, .getfield 42), (110, .dup2), (111, .iaload), (112, .iconst 1), (113, .iadd), (114, .iastore), (115, .return_)]
theorem pr_Book_addItem : prOK m_Book_addItem P_Book_addItem = true := by decide +kernel
def S_Book_addItem : List (Nat × List Nat) := []
theorem ev_Book_addItem {d : Nat} {w : Wd} {Q : Wd → Prop} (x1 : Int32) (x2 : Int32) (x3 : Int32) (h : Z m_Book_addItem d (qV Q) 0 [(0, .ref 25), (1, .int x1), (2, .int x2), (3, .int x3)] [] w) : EvV m_Book_addItem d [.ref 25, .int x1, .int x2, .int x3] w Q := Ev.ofZ (by decide +kernel) (Nat.le_of_ble_eq_true rfl) h
set_option maxRecDepth 20000 in
set_option maxHeartbeats 1000000 in
theorem vc_Book_addItem_0 {d : Nat} {w : Wd} {Q : Wd → Prop} (x1 : Int32) (x2 : Int32) (x3 : Int32) (h : (((nI 12) ≤ (w.1 25 0) → Q w) ∧ (¬ (nI 12) ≤ (w.1 25 0) → ∃ j1 : Nat, (w.1 25 0) = nI j1 ∧ j1 < 12 ∧ (((w.1 27 j1) < (nI 10) → ∃ j2 : Nat, (w.1 25 0) = nI j2 ∧ j2 < 12 ∧ ∃ j3 : Nat, (((w.1 25 0) * (nI 10)) + (w.1 27 j2)) = nI j3 ∧ j3 < 120 ∧ ∃ j4 : Nat, (((w.1 25 0) * (nI 10)) + (w.1 27 j2)) = nI j4 ∧ j4 < 120 ∧ ((¬ x3 = (nI 1) → ((¬ x3 = (nI 2) → ∃ j5 : Nat, (w.1 25 0) = nI j5 ∧ j5 < 12 ∧ ∃ j6 : Nat, (w.1 25 0) = nI j6 ∧ j6 < 12 ∧ Q (up1 (up1 (up1 w 30 j3 x1) 31 j4 x2) 27 j6 ((w.1 27 j5) + (nI 1)))) ∧ (x3 = (nI 2) → ∃ j7 : Nat, (w.1 25 0) = nI j7 ∧ j7 < 12 ∧ ∃ j8 : Nat, (w.1 25 0) = nI j8 ∧ j8 < 12 ∧ ∃ j9 : Nat, (w.1 25 0) = nI j9 ∧ j9 < 12 ∧ Q (up1 (up1 (up1 (up1 w 30 j3 x1) 31 j4 x2) 29 j7 (w.1 27 j2)) 27 j9 ((w.1 27 j8) + (nI 1)))))) ∧ (x3 = (nI 1) → ∃ j10 : Nat, (w.1 25 0) = nI j10 ∧ j10 < 12 ∧ ∃ j11 : Nat, (w.1 25 0) = nI j11 ∧ j11 < 12 ∧ ∃ j12 : Nat, (w.1 25 0) = nI j12 ∧ j12 < 12 ∧ Q (up1 (up1 (up1 (up1 w 30 j3 x1) 31 j4 x2) 28 j10 (w.1 27 j2)) 27 j12 ((w.1 27 j11) + (nI 1)))))) ∧ (¬ (w.1 27 j1) < (nI 10) → Q w))))) : Z m_Book_addItem d (qV Q) 0 [(0, .ref 25), (1, .int x1), (2, .int x2), (3, .int x3)] [] w := wp_ok (P := P_Book_addItem) (S := S_Book_addItem) rfl pr_Book_addItem 60 _ _ _ _ h
def S_Book_addItem_d : List (Nat × List Nat) := []
theorem ev_Book_addItem_d {d : Nat} {w : Wd} {Q : Wd → Prop} (x1 : Int32) (x2 : Int32) (x3 : Int32) (h : Z m_Book_addItem d (qV Q) 0 [(0, .ref 13), (1, .int x1), (2, .int x2), (3, .int x3)] [] w) : EvV m_Book_addItem d [.ref 13, .int x1, .int x2, .int x3] w Q := Ev.ofZ (by decide +kernel) (Nat.le_of_ble_eq_true rfl) h
set_option maxRecDepth 20000 in
set_option maxHeartbeats 1000000 in
theorem vc_Book_addItem_d_0 {d : Nat} {w : Wd} {Q : Wd → Prop} (x1 : Int32) (x2 : Int32) (x3 : Int32) (h : (((nI 12) ≤ (w.1 13 0) → Q w) ∧ (¬ (nI 12) ≤ (w.1 13 0) → ∃ j1 : Nat, (w.1 13 0) = nI j1 ∧ j1 < 12 ∧ (((w.1 15 j1) < (nI 10) → ∃ j2 : Nat, (w.1 13 0) = nI j2 ∧ j2 < 12 ∧ ∃ j3 : Nat, (((w.1 13 0) * (nI 10)) + (w.1 15 j2)) = nI j3 ∧ j3 < 120 ∧ ∃ j4 : Nat, (((w.1 13 0) * (nI 10)) + (w.1 15 j2)) = nI j4 ∧ j4 < 120 ∧ ((¬ x3 = (nI 1) → ((¬ x3 = (nI 2) → ∃ j5 : Nat, (w.1 13 0) = nI j5 ∧ j5 < 12 ∧ ∃ j6 : Nat, (w.1 13 0) = nI j6 ∧ j6 < 12 ∧ Q (up1 (up1 (up1 w 18 j3 x1) 19 j4 x2) 15 j6 ((w.1 15 j5) + (nI 1)))) ∧ (x3 = (nI 2) → ∃ j7 : Nat, (w.1 13 0) = nI j7 ∧ j7 < 12 ∧ ∃ j8 : Nat, (w.1 13 0) = nI j8 ∧ j8 < 12 ∧ ∃ j9 : Nat, (w.1 13 0) = nI j9 ∧ j9 < 12 ∧ Q (up1 (up1 (up1 (up1 w 18 j3 x1) 19 j4 x2) 17 j7 (w.1 15 j2)) 15 j9 ((w.1 15 j8) + (nI 1)))))) ∧ (x3 = (nI 1) → ∃ j10 : Nat, (w.1 13 0) = nI j10 ∧ j10 < 12 ∧ ∃ j11 : Nat, (w.1 13 0) = nI j11 ∧ j11 < 12 ∧ ∃ j12 : Nat, (w.1 13 0) = nI j12 ∧ j12 < 12 ∧ Q (up1 (up1 (up1 (up1 w 18 j3 x1) 19 j4 x2) 16 j10 (w.1 15 j2)) 15 j12 ((w.1 15 j11) + (nI 1)))))) ∧ (¬ (w.1 15 j1) < (nI 10) → Q w))))) : Z m_Book_addItem d (qV Q) 0 [(0, .ref 13), (1, .int x1), (2, .int x2), (3, .int x3)] [] w := wp_ok (P := P_Book_addItem) (S := S_Book_addItem_d) rfl pr_Book_addItem 60 _ _ _ _ h
def P_Book_closeRule : Prog := [(0, .aload_n 0), (1, .getfield 42), (4, .bipush 12), (6, .if_icmp .ge 13), (9, .aload_n 0), (10, .dup), (11, .getfield 42), (14, .iconst 1), (15, .iadd), (16, .putfield 42), (19, .return_)]
theorem pr_Book_closeRule : prOK m_Book_closeRule P_Book_closeRule = true := by decide +kernel
def S_Book_closeRule : List (Nat × List Nat) := []
theorem ev_Book_closeRule {d : Nat} {w : Wd} {Q : Wd → Prop}  (h : Z m_Book_closeRule d (qV Q) 0 [(0, .ref 25)] [] w) : EvV m_Book_closeRule d [.ref 25] w Q := Ev.ofZ (by decide +kernel) (Nat.le_of_ble_eq_true rfl) h
set_option maxRecDepth 20000 in
set_option maxHeartbeats 1000000 in
theorem vc_Book_closeRule_0 {d : Nat} {w : Wd} {Q : Wd → Prop}  (h : (((nI 12) ≤ (w.1 25 0) → Q w) ∧ (¬ (nI 12) ≤ (w.1 25 0) → Q (up1 w 25 0 ((w.1 25 0) + (nI 1)))))) : Z m_Book_closeRule d (qV Q) 0 [(0, .ref 25)] [] w := wp_ok (P := P_Book_closeRule) (S := S_Book_closeRule) rfl pr_Book_closeRule 12 _ _ _ _ h
def S_Book_closeRule_d : List (Nat × List Nat) := []
theorem ev_Book_closeRule_d {d : Nat} {w : Wd} {Q : Wd → Prop}  (h : Z m_Book_closeRule d (qV Q) 0 [(0, .ref 13)] [] w) : EvV m_Book_closeRule d [.ref 13] w Q := Ev.ofZ (by decide +kernel) (Nat.le_of_ble_eq_true rfl) h
set_option maxRecDepth 20000 in
set_option maxHeartbeats 1000000 in
theorem vc_Book_closeRule_d_0 {d : Nat} {w : Wd} {Q : Wd → Prop}  (h : (((nI 12) ≤ (w.1 13 0) → Q w) ∧ (¬ (nI 12) ≤ (w.1 13 0) → Q (up1 w 13 0 ((w.1 13 0) + (nI 1)))))) : Z m_Book_closeRule d (qV Q) 0 [(0, .ref 13)] [] w := wp_ok (P := P_Book_closeRule) (S := S_Book_closeRule_d) rfl pr_Book_closeRule 12 _ _ _ _ h
def P_Book_addBar : Prog := [(0, .aload_n 0), (1, .getfield 46), (4, .bipush 10), (6, .if_icmp .ge 23), (9, .aload_n 0), (10, .getfield 30), (13, .aload_n 0), (14, .getfield 46), (17, .iload_n 1), (18, .iastore), (19, .aload_n 0), (20, .dup), (21, .getfield 46), (24, .iconst 1), (25, .iadd), (26, .putfield 46), (29, .return_)]
theorem pr_Book_addBar : prOK m_Book_addBar P_Book_addBar = true := by decide +kernel
def S_Book_addBar : List (Nat × List Nat) := []
theorem ev_Book_addBar {d : Nat} {w : Wd} {Q : Wd → Prop} (x1 : Int32) (h : Z m_Book_addBar d (qV Q) 0 [(0, .ref 25), (1, .int x1)] [] w) : EvV m_Book_addBar d [.ref 25, .int x1] w Q := Ev.ofZ (by decide +kernel) (Nat.le_of_ble_eq_true rfl) h
set_option maxRecDepth 20000 in
set_option maxHeartbeats 1000000 in
theorem vc_Book_addBar_0 {d : Nat} {w : Wd} {Q : Wd → Prop} (x1 : Int32) (h : (((nI 10) ≤ (w.1 25 7) → Q w) ∧ (¬ (nI 10) ≤ (w.1 25 7) → ∃ j1 : Nat, (w.1 25 7) = nI j1 ∧ j1 < 10 ∧ Q (up1 (up1 w 32 j1 x1) 25 7 ((w.1 25 7) + (nI 1)))))) : Z m_Book_addBar d (qV Q) 0 [(0, .ref 25), (1, .int x1)] [] w := wp_ok (P := P_Book_addBar) (S := S_Book_addBar) rfl pr_Book_addBar 18 _ _ _ _ h
def S_Book_addBar_d : List (Nat × List Nat) := []
theorem ev_Book_addBar_d {d : Nat} {w : Wd} {Q : Wd → Prop} (x1 : Int32) (h : Z m_Book_addBar d (qV Q) 0 [(0, .ref 13), (1, .int x1)] [] w) : EvV m_Book_addBar d [.ref 13, .int x1] w Q := Ev.ofZ (by decide +kernel) (Nat.le_of_ble_eq_true rfl) h
set_option maxRecDepth 20000 in
set_option maxHeartbeats 1000000 in
theorem vc_Book_addBar_d_0 {d : Nat} {w : Wd} {Q : Wd → Prop} (x1 : Int32) (h : (((nI 10) ≤ (w.1 13 7) → Q w) ∧ (¬ (nI 10) ≤ (w.1 13 7) → ∃ j1 : Nat, (w.1 13 7) = nI j1 ∧ j1 < 10 ∧ Q (up1 (up1 w 20 j1 x1) 13 7 ((w.1 13 7) + (nI 1)))))) : Z m_Book_addBar d (qV Q) 0 [(0, .ref 13), (1, .int x1)] [] w := wp_ok (P := P_Book_addBar) (S := S_Book_addBar_d) rfl pr_Book_addBar 18 _ _ _ _ h
def P_Book_addChain : Prog := [(0, .aload_n 0), (1, .getfield 49), (4, .bipush 6), (6, .if_icmp .ge 43), (9, .aload_n 0), (10, .getfield 33), (13, .aload_n 0), (14, .getfield 49), (17, .iload_n 1), (18, .iastore), (19, .aload_n 0), (20, .getfield 36), (23, .aload_n 0), (24, .getfield 49), (27, .iload_n 2), (28, .iastore), (29, .aload_n 0), (30, .getfield 39), (33, .aload_n 0), (34, .getfield 49), (37, .iload_n 3), (38, .iastore), (39, .aload_n 0), (40, .dup), (41, .getfield 49), (44, .iconst 1), (45, .iadd), (46, .putfield 49), (49, .return_)]
theorem pr_Book_addChain : prOK m_Book_addChain P_Book_addChain = true := by decide +kernel
def S_Book_addChain : List (Nat × List Nat) := []
theorem ev_Book_addChain {d : Nat} {w : Wd} {Q : Wd → Prop} (x1 : Int32) (x2 : Int32) (x3 : Int32) (h : Z m_Book_addChain d (qV Q) 0 [(0, .ref 25), (1, .int x1), (2, .int x2), (3, .int x3)] [] w) : EvV m_Book_addChain d [.ref 25, .int x1, .int x2, .int x3] w Q := Ev.ofZ (by decide +kernel) (Nat.le_of_ble_eq_true rfl) h
set_option maxRecDepth 20000 in
set_option maxHeartbeats 1000000 in
theorem vc_Book_addChain_0 {d : Nat} {w : Wd} {Q : Wd → Prop} (x1 : Int32) (x2 : Int32) (x3 : Int32) (h : (((nI 6) ≤ (w.1 25 9) → Q w) ∧ (¬ (nI 6) ≤ (w.1 25 9) → ∃ j1 : Nat, (w.1 25 9) = nI j1 ∧ j1 < 6 ∧ ∃ j2 : Nat, (w.1 25 9) = nI j2 ∧ j2 < 6 ∧ ∃ j3 : Nat, (w.1 25 9) = nI j3 ∧ j3 < 6 ∧ Q (up1 (up1 (up1 (up1 w 33 j1 x1) 34 j2 x2) 35 j3 x3) 25 9 ((w.1 25 9) + (nI 1)))))) : Z m_Book_addChain d (qV Q) 0 [(0, .ref 25), (1, .int x1), (2, .int x2), (3, .int x3)] [] w := wp_ok (P := P_Book_addChain) (S := S_Book_addChain) rfl pr_Book_addChain 30 _ _ _ _ h
def S_Book_addChain_d : List (Nat × List Nat) := []
theorem ev_Book_addChain_d {d : Nat} {w : Wd} {Q : Wd → Prop} (x1 : Int32) (x2 : Int32) (x3 : Int32) (h : Z m_Book_addChain d (qV Q) 0 [(0, .ref 13), (1, .int x1), (2, .int x2), (3, .int x3)] [] w) : EvV m_Book_addChain d [.ref 13, .int x1, .int x2, .int x3] w Q := Ev.ofZ (by decide +kernel) (Nat.le_of_ble_eq_true rfl) h
set_option maxRecDepth 20000 in
set_option maxHeartbeats 1000000 in
theorem vc_Book_addChain_d_0 {d : Nat} {w : Wd} {Q : Wd → Prop} (x1 : Int32) (x2 : Int32) (x3 : Int32) (h : (((nI 6) ≤ (w.1 13 9) → Q w) ∧ (¬ (nI 6) ≤ (w.1 13 9) → ∃ j1 : Nat, (w.1 13 9) = nI j1 ∧ j1 < 6 ∧ ∃ j2 : Nat, (w.1 13 9) = nI j2 ∧ j2 < 6 ∧ ∃ j3 : Nat, (w.1 13 9) = nI j3 ∧ j3 < 6 ∧ Q (up1 (up1 (up1 (up1 w 21 j1 x1) 22 j2 x2) 23 j3 x3) 13 9 ((w.1 13 9) + (nI 1)))))) : Z m_Book_addChain d (qV Q) 0 [(0, .ref 13), (1, .int x1), (2, .int x2), (3, .int x3)] [] w := wp_ok (P := P_Book_addChain) (S := S_Book_addChain_d) rfl pr_Book_addChain 30 _ _ _ _ h
def P_Book_addSingle : Prog := [(0, .iload_n 1), (1, .invokestatic 61), (4, .ifCond .eq 15), (7, .aload_n 0), (8, .dup), (9, .getfield 52), (12, .iconst 1), (13, .iload_n 1), (14, .ishl), (15, .ior), (16, .putfield 52), (19, .return_)]
theorem pr_Book_addSingle : prOK m_Book_addSingle P_Book_addSingle = true := by decide +kernel
def S_Book_addSingle : List (Nat × List Nat) := []
theorem ev_Book_addSingle {d : Nat} {w : Wd} {Q : Wd → Prop} (x1 : Int32) (h : Z m_Book_addSingle d (qV Q) 0 [(0, .ref 25), (1, .int x1)] [] w) : EvV m_Book_addSingle d [.ref 25, .int x1] w Q := Ev.ofZ (by decide +kernel) (Nat.le_of_ble_eq_true rfl) h
set_option maxRecDepth 20000 in
set_option maxHeartbeats 1000000 in
theorem vc_Book_addSingle_0 {d : Nat} {w : Wd} {Q : Wd → Prop} (x1 : Int32) (h : ∃ Q1 : Int32 → Wd → Prop, EvI m_D_isRelation d [.int x1] w Q1 ∧ ∀ (r1 : Int32) (w1 : Wd), Q1 r1 w1 → ((r1 = 0 → Q w1) ∧ (¬ r1 = 0 → Q (up1 w1 25 13 ((w1.1 25 13) ||| ((nI 1) <<< (x1 &&& 31))))))) : Z m_Book_addSingle (d + 1) (qV Q) 0 [(0, .ref 25), (1, .int x1)] [] w := wp_ok (P := P_Book_addSingle) (S := S_Book_addSingle) rfl pr_Book_addSingle 13 _ _ _ _ h
def S_Book_addSingle_d : List (Nat × List Nat) := []
theorem ev_Book_addSingle_d {d : Nat} {w : Wd} {Q : Wd → Prop} (x1 : Int32) (h : Z m_Book_addSingle d (qV Q) 0 [(0, .ref 13), (1, .int x1)] [] w) : EvV m_Book_addSingle d [.ref 13, .int x1] w Q := Ev.ofZ (by decide +kernel) (Nat.le_of_ble_eq_true rfl) h
set_option maxRecDepth 20000 in
set_option maxHeartbeats 1000000 in
theorem vc_Book_addSingle_d_0 {d : Nat} {w : Wd} {Q : Wd → Prop} (x1 : Int32) (h : ∃ Q1 : Int32 → Wd → Prop, EvI m_D_isRelation d [.int x1] w Q1 ∧ ∀ (r1 : Int32) (w1 : Wd), Q1 r1 w1 → ((r1 = 0 → Q w1) ∧ (¬ r1 = 0 → Q (up1 w1 13 13 ((w1.1 13 13) ||| ((nI 1) <<< (x1 &&& 31))))))) : Z m_Book_addSingle (d + 1) (qV Q) 0 [(0, .ref 13), (1, .int x1)] [] w := wp_ok (P := P_Book_addSingle) (S := S_Book_addSingle_d) rfl pr_Book_addSingle 13 _ _ _ _ h
def P_Book_rules : Prog := [(0, .aload_n 0), (1, .getfield 42), (4, .ireturn)]
theorem pr_Book_rules : prOK m_Book_rules P_Book_rules = true := by decide +kernel
def S_Book_rules : List (Nat × List Nat) := []
theorem ev_Book_rules {d : Nat} {w : Wd} {Q : Int32 → Wd → Prop}  (h : Z m_Book_rules d (qI Q) 0 [(0, .ref 25)] [] w) : EvI m_Book_rules d [.ref 25] w Q := Ev.ofZ (by decide +kernel) (Nat.le_of_ble_eq_true rfl) h
set_option maxRecDepth 20000 in
set_option maxHeartbeats 1000000 in
theorem vc_Book_rules_0 {d : Nat} {w : Wd} {Q : Int32 → Wd → Prop}  (h : Q (w.1 25 0) w) : Z m_Book_rules d (qI Q) 0 [(0, .ref 25)] [] w := wp_ok (P := P_Book_rules) (S := S_Book_rules) rfl pr_Book_rules 4 _ _ _ _ h
def S_Book_rules_d : List (Nat × List Nat) := []
theorem ev_Book_rules_d {d : Nat} {w : Wd} {Q : Int32 → Wd → Prop}  (h : Z m_Book_rules d (qI Q) 0 [(0, .ref 13)] [] w) : EvI m_Book_rules d [.ref 13] w Q := Ev.ofZ (by decide +kernel) (Nat.le_of_ble_eq_true rfl) h
set_option maxRecDepth 20000 in
set_option maxHeartbeats 1000000 in
theorem vc_Book_rules_d_0 {d : Nat} {w : Wd} {Q : Int32 → Wd → Prop}  (h : Q (w.1 13 0) w) : Z m_Book_rules d (qI Q) 0 [(0, .ref 13)] [] w := wp_ok (P := P_Book_rules) (S := S_Book_rules_d) rfl pr_Book_rules 4 _ _ _ _ h
def P_Book_bars : Prog := [(0, .aload_n 0), (1, .getfield 46), (4, .ireturn)]
theorem pr_Book_bars : prOK m_Book_bars P_Book_bars = true := by decide +kernel
def S_Book_bars : List (Nat × List Nat) := []
theorem ev_Book_bars {d : Nat} {w : Wd} {Q : Int32 → Wd → Prop}  (h : Z m_Book_bars d (qI Q) 0 [(0, .ref 25)] [] w) : EvI m_Book_bars d [.ref 25] w Q := Ev.ofZ (by decide +kernel) (Nat.le_of_ble_eq_true rfl) h
set_option maxRecDepth 20000 in
set_option maxHeartbeats 1000000 in
theorem vc_Book_bars_0 {d : Nat} {w : Wd} {Q : Int32 → Wd → Prop}  (h : Q (w.1 25 7) w) : Z m_Book_bars d (qI Q) 0 [(0, .ref 25)] [] w := wp_ok (P := P_Book_bars) (S := S_Book_bars) rfl pr_Book_bars 4 _ _ _ _ h
def S_Book_bars_d : List (Nat × List Nat) := []
theorem ev_Book_bars_d {d : Nat} {w : Wd} {Q : Int32 → Wd → Prop}  (h : Z m_Book_bars d (qI Q) 0 [(0, .ref 13)] [] w) : EvI m_Book_bars d [.ref 13] w Q := Ev.ofZ (by decide +kernel) (Nat.le_of_ble_eq_true rfl) h
set_option maxRecDepth 20000 in
set_option maxHeartbeats 1000000 in
theorem vc_Book_bars_d_0 {d : Nat} {w : Wd} {Q : Int32 → Wd → Prop}  (h : Q (w.1 13 7) w) : Z m_Book_bars d (qI Q) 0 [(0, .ref 13)] [] w := wp_ok (P := P_Book_bars) (S := S_Book_bars_d) rfl pr_Book_bars 4 _ _ _ _ h
def P_Book_chains : Prog := [(0, .aload_n 0), (1, .getfield 49), (4, .ireturn)]
theorem pr_Book_chains : prOK m_Book_chains P_Book_chains = true := by decide +kernel
def S_Book_chains : List (Nat × List Nat) := []
theorem ev_Book_chains {d : Nat} {w : Wd} {Q : Int32 → Wd → Prop}  (h : Z m_Book_chains d (qI Q) 0 [(0, .ref 25)] [] w) : EvI m_Book_chains d [.ref 25] w Q := Ev.ofZ (by decide +kernel) (Nat.le_of_ble_eq_true rfl) h
set_option maxRecDepth 20000 in
set_option maxHeartbeats 1000000 in
theorem vc_Book_chains_0 {d : Nat} {w : Wd} {Q : Int32 → Wd → Prop}  (h : Q (w.1 25 9) w) : Z m_Book_chains d (qI Q) 0 [(0, .ref 25)] [] w := wp_ok (P := P_Book_chains) (S := S_Book_chains) rfl pr_Book_chains 4 _ _ _ _ h
def S_Book_chains_d : List (Nat × List Nat) := []
theorem ev_Book_chains_d {d : Nat} {w : Wd} {Q : Int32 → Wd → Prop}  (h : Z m_Book_chains d (qI Q) 0 [(0, .ref 13)] [] w) : EvI m_Book_chains d [.ref 13] w Q := Ev.ofZ (by decide +kernel) (Nat.le_of_ble_eq_true rfl) h
set_option maxRecDepth 20000 in
set_option maxHeartbeats 1000000 in
theorem vc_Book_chains_d_0 {d : Nat} {w : Wd} {Q : Int32 → Wd → Prop}  (h : Q (w.1 13 9) w) : Z m_Book_chains d (qI Q) 0 [(0, .ref 13)] [] w := wp_ok (P := P_Book_chains) (S := S_Book_chains_d) rfl pr_Book_chains 4 _ _ _ _ h
def P_Book_hasRule : Prog := [(0, .iload_n 1), (1, .ifCond .lt 15), (4, .iload_n 1), (5, .aload_n 0), (6, .getfield 42), (9, .if_icmp .ge 7), (12, .iconst 1), (13, .goto 4), (16, .iconst 0), (17, .ireturn)]
theorem pr_Book_hasRule : prOK m_Book_hasRule P_Book_hasRule = true := by decide +kernel
def S_Book_hasRule : List (Nat × List Nat) := []
theorem ev_Book_hasRule {d : Nat} {w : Wd} {Q : Int32 → Wd → Prop} (x1 : Int32) (h : Z m_Book_hasRule d (qI Q) 0 [(0, .ref 25), (1, .int x1)] [] w) : EvI m_Book_hasRule d [.ref 25, .int x1] w Q := Ev.ofZ (by decide +kernel) (Nat.le_of_ble_eq_true rfl) h
set_option maxRecDepth 20000 in
set_option maxHeartbeats 1000000 in
theorem vc_Book_hasRule_0 {d : Nat} {w : Wd} {Q : Int32 → Wd → Prop} (x1 : Int32) (h : ((x1 < 0 → ((nI 0) = 0 ∨ (nI 0) = 1) ∧ Q (nI 0) w) ∧ (¬ x1 < 0 → (((w.1 25 0) ≤ x1 → ((nI 0) = 0 ∨ (nI 0) = 1) ∧ Q (nI 0) w) ∧ (¬ (w.1 25 0) ≤ x1 → ((nI 1) = 0 ∨ (nI 1) = 1) ∧ Q (nI 1) w))))) : Z m_Book_hasRule d (qI Q) 0 [(0, .ref 25), (1, .int x1)] [] w := wp_ok (P := P_Book_hasRule) (S := S_Book_hasRule) rfl pr_Book_hasRule 10 _ _ _ _ h
def P_Book_relationOf : Prog := [(0, .aload_n 0), (1, .iload_n 1), (2, .invokevirtual 65), (5, .ifCond .eq 12), (8, .aload_n 0), (9, .getfield 9), (12, .iload_n 1), (13, .iaload), (14, .goto 4), (17, .iconst (-1)), (18, .ireturn)]
theorem pr_Book_relationOf : prOK m_Book_relationOf P_Book_relationOf = true := by decide +kernel
def S_Book_relationOf : List (Nat × List Nat) := []
theorem ev_Book_relationOf {d : Nat} {w : Wd} {Q : Int32 → Wd → Prop} (x1 : Int32) (h : Z m_Book_relationOf d (qI Q) 0 [(0, .ref 25), (1, .int x1)] [] w) : EvI m_Book_relationOf d [.ref 25, .int x1] w Q := Ev.ofZ (by decide +kernel) (Nat.le_of_ble_eq_true rfl) h
set_option maxRecDepth 20000 in
set_option maxHeartbeats 1000000 in
theorem vc_Book_relationOf_0 {d : Nat} {w : Wd} {Q : Int32 → Wd → Prop} (x1 : Int32) (h : ∃ Q1 : Int32 → Wd → Prop, EvI m_Book_hasRule d [.ref 25, .int x1] w Q1 ∧ ∀ (r1 : Int32) (w1 : Wd), Q1 r1 w1 → ((r1 = 0 → Q (-nI 1) w1) ∧ (¬ r1 = 0 → ∃ j1 : Nat, x1 = nI j1 ∧ j1 < 12 ∧ Q (w1.1 26 j1) w1))) : Z m_Book_relationOf (d + 1) (qI Q) 0 [(0, .ref 25), (1, .int x1)] [] w := wp_ok (P := P_Book_relationOf) (S := S_Book_relationOf) rfl pr_Book_relationOf 11 _ _ _ _ h
def P_Book_itemsOf : Prog := [(0, .aload_n 0), (1, .iload_n 1), (2, .invokevirtual 65), (5, .ifCond .eq 12), (8, .aload_n 0), (9, .getfield 15), (12, .iload_n 1), (13, .iaload), (14, .goto 4), (17, .iconst 0), (18, .ireturn)]
theorem pr_Book_itemsOf : prOK m_Book_itemsOf P_Book_itemsOf = true := by decide +kernel
def S_Book_itemsOf : List (Nat × List Nat) := []
theorem ev_Book_itemsOf {d : Nat} {w : Wd} {Q : Int32 → Wd → Prop} (x1 : Int32) (h : Z m_Book_itemsOf d (qI Q) 0 [(0, .ref 25), (1, .int x1)] [] w) : EvI m_Book_itemsOf d [.ref 25, .int x1] w Q := Ev.ofZ (by decide +kernel) (Nat.le_of_ble_eq_true rfl) h
set_option maxRecDepth 20000 in
set_option maxHeartbeats 1000000 in
theorem vc_Book_itemsOf_0 {d : Nat} {w : Wd} {Q : Int32 → Wd → Prop} (x1 : Int32) (h : ∃ Q1 : Int32 → Wd → Prop, EvI m_Book_hasRule d [.ref 25, .int x1] w Q1 ∧ ∀ (r1 : Int32) (w1 : Wd), Q1 r1 w1 → ((r1 = 0 → Q (nI 0) w1) ∧ (¬ r1 = 0 → ∃ j1 : Nat, x1 = nI j1 ∧ j1 < 12 ∧ Q (w1.1 27 j1) w1))) : Z m_Book_itemsOf (d + 1) (qI Q) 0 [(0, .ref 25), (1, .int x1)] [] w := wp_ok (P := P_Book_itemsOf) (S := S_Book_itemsOf) rfl pr_Book_itemsOf 11 _ _ _ _ h
def P_Book_leftItem : Prog := [(0, .aload_n 0), (1, .iload_n 1), (2, .invokevirtual 65), (5, .ifCond .eq 12), (8, .aload_n 0), (9, .getfield 18), (12, .iload_n 1), (13, .iaload), (14, .goto 4), (17, .iconst (-1)), (18, .ireturn)]
theorem pr_Book_leftItem : prOK m_Book_leftItem P_Book_leftItem = true := by decide +kernel
def S_Book_leftItem : List (Nat × List Nat) := []
theorem ev_Book_leftItem {d : Nat} {w : Wd} {Q : Int32 → Wd → Prop} (x1 : Int32) (h : Z m_Book_leftItem d (qI Q) 0 [(0, .ref 25), (1, .int x1)] [] w) : EvI m_Book_leftItem d [.ref 25, .int x1] w Q := Ev.ofZ (by decide +kernel) (Nat.le_of_ble_eq_true rfl) h
set_option maxRecDepth 20000 in
set_option maxHeartbeats 1000000 in
theorem vc_Book_leftItem_0 {d : Nat} {w : Wd} {Q : Int32 → Wd → Prop} (x1 : Int32) (h : ∃ Q1 : Int32 → Wd → Prop, EvI m_Book_hasRule d [.ref 25, .int x1] w Q1 ∧ ∀ (r1 : Int32) (w1 : Wd), Q1 r1 w1 → ((r1 = 0 → Q (-nI 1) w1) ∧ (¬ r1 = 0 → ∃ j1 : Nat, x1 = nI j1 ∧ j1 < 12 ∧ Q (w1.1 28 j1) w1))) : Z m_Book_leftItem (d + 1) (qI Q) 0 [(0, .ref 25), (1, .int x1)] [] w := wp_ok (P := P_Book_leftItem) (S := S_Book_leftItem) rfl pr_Book_leftItem 11 _ _ _ _ h
def P_Book_rightItem : Prog := [(0, .aload_n 0), (1, .iload_n 1), (2, .invokevirtual 65), (5, .ifCond .eq 12), (8, .aload_n 0), (9, .getfield 21), (12, .iload_n 1), (13, .iaload), (14, .goto 4), (17, .iconst (-1)), (18, .ireturn)]
theorem pr_Book_rightItem : prOK m_Book_rightItem P_Book_rightItem = true := by decide +kernel
def S_Book_rightItem : List (Nat × List Nat) := []
theorem ev_Book_rightItem {d : Nat} {w : Wd} {Q : Int32 → Wd → Prop} (x1 : Int32) (h : Z m_Book_rightItem d (qI Q) 0 [(0, .ref 25), (1, .int x1)] [] w) : EvI m_Book_rightItem d [.ref 25, .int x1] w Q := Ev.ofZ (by decide +kernel) (Nat.le_of_ble_eq_true rfl) h
set_option maxRecDepth 20000 in
set_option maxHeartbeats 1000000 in
theorem vc_Book_rightItem_0 {d : Nat} {w : Wd} {Q : Int32 → Wd → Prop} (x1 : Int32) (h : ∃ Q1 : Int32 → Wd → Prop, EvI m_Book_hasRule d [.ref 25, .int x1] w Q1 ∧ ∀ (r1 : Int32) (w1 : Wd), Q1 r1 w1 → ((r1 = 0 → Q (-nI 1) w1) ∧ (¬ r1 = 0 → ∃ j1 : Nat, x1 = nI j1 ∧ j1 < 12 ∧ Q (w1.1 29 j1) w1))) : Z m_Book_rightItem (d + 1) (qI Q) 0 [(0, .ref 25), (1, .int x1)] [] w := wp_ok (P := P_Book_rightItem) (S := S_Book_rightItem) rfl pr_Book_rightItem 11 _ _ _ _ h
def P_Book_kindOf : Prog := [(0, .aload_n 0), (1, .iload_n 1), (2, .iload_n 2), (3, .invokevirtual 68), (6, .ifCond .eq 17), (9, .aload_n 0), (10, .getfield 24), (13, .iload_n 1), (14, .bipush 10), (16, .imul), (17, .iload_n 2), (18, .iadd), (19, .iaload), (20, .goto 4), (23, .iconst (-1)), (24, .ireturn)]
theorem pr_Book_kindOf : prOK m_Book_kindOf P_Book_kindOf = true := by decide +kernel
def S_Book_kindOf : List (Nat × List Nat) := []
theorem ev_Book_kindOf {d : Nat} {w : Wd} {Q : Int32 → Wd → Prop} (x1 : Int32) (x2 : Int32) (h : Z m_Book_kindOf d (qI Q) 0 [(0, .ref 25), (1, .int x1), (2, .int x2)] [] w) : EvI m_Book_kindOf d [.ref 25, .int x1, .int x2] w Q := Ev.ofZ (by decide +kernel) (Nat.le_of_ble_eq_true rfl) h
set_option maxRecDepth 20000 in
set_option maxHeartbeats 1000000 in
theorem vc_Book_kindOf_0 {d : Nat} {w : Wd} {Q : Int32 → Wd → Prop} (x1 : Int32) (x2 : Int32) (h : ∃ Q1 : Int32 → Wd → Prop, EvI m_Book_hasItem d [.ref 25, .int x1, .int x2] w Q1 ∧ ∀ (r1 : Int32) (w1 : Wd), Q1 r1 w1 → ((r1 = 0 → Q (-nI 1) w1) ∧ (¬ r1 = 0 → ∃ j1 : Nat, ((x1 * (nI 10)) + x2) = nI j1 ∧ j1 < 120 ∧ Q (w1.1 30 j1) w1))) : Z m_Book_kindOf (d + 1) (qI Q) 0 [(0, .ref 25), (1, .int x1), (2, .int x2)] [] w := wp_ok (P := P_Book_kindOf) (S := S_Book_kindOf) rfl pr_Book_kindOf 16 _ _ _ _ h
def P_Book_numberOf : Prog := [(0, .aload_n 0), (1, .iload_n 1), (2, .iload_n 2), (3, .invokevirtual 68), (6, .ifCond .eq 17), (9, .aload_n 0), (10, .getfield 27), (13, .iload_n 1), (14, .bipush 10), (16, .imul), (17, .iload_n 2), (18, .iadd), (19, .iaload), (20, .goto 4), (23, .iconst 0), (24, .ireturn)]
theorem pr_Book_numberOf : prOK m_Book_numberOf P_Book_numberOf = true := by decide +kernel
def S_Book_numberOf : List (Nat × List Nat) := []
theorem ev_Book_numberOf {d : Nat} {w : Wd} {Q : Int32 → Wd → Prop} (x1 : Int32) (x2 : Int32) (h : Z m_Book_numberOf d (qI Q) 0 [(0, .ref 25), (1, .int x1), (2, .int x2)] [] w) : EvI m_Book_numberOf d [.ref 25, .int x1, .int x2] w Q := Ev.ofZ (by decide +kernel) (Nat.le_of_ble_eq_true rfl) h
set_option maxRecDepth 20000 in
set_option maxHeartbeats 1000000 in
theorem vc_Book_numberOf_0 {d : Nat} {w : Wd} {Q : Int32 → Wd → Prop} (x1 : Int32) (x2 : Int32) (h : ∃ Q1 : Int32 → Wd → Prop, EvI m_Book_hasItem d [.ref 25, .int x1, .int x2] w Q1 ∧ ∀ (r1 : Int32) (w1 : Wd), Q1 r1 w1 → ((r1 = 0 → Q (nI 0) w1) ∧ (¬ r1 = 0 → ∃ j1 : Nat, ((x1 * (nI 10)) + x2) = nI j1 ∧ j1 < 120 ∧ Q (w1.1 31 j1) w1))) : Z m_Book_numberOf (d + 1) (qI Q) 0 [(0, .ref 25), (1, .int x1), (2, .int x2)] [] w := wp_ok (P := P_Book_numberOf) (S := S_Book_numberOf) rfl pr_Book_numberOf 16 _ _ _ _ h
def P_Book_hasItem : Prog := [(0, .iload_n 1), (1, .ifCond .lt 29), (4, .iload_n 1), (5, .aload_n 0), (6, .getfield 42), (9, .if_icmp .ge 21), (12, .iload_n 2), (13, .ifCond .lt 17), (16, .iload_n 2), (17, .aload_n 0), (18, .getfield 15), (21, .iload_n 1), (22, .iaload), (23, .if_icmp .ge 7), (26, .iconst 1), (27, .goto 4), (30, .iconst 0), (31, .ireturn)]
theorem pr_Book_hasItem : prOK m_Book_hasItem P_Book_hasItem = true := by decide +kernel
def S_Book_hasItem : List (Nat × List Nat) := []
theorem ev_Book_hasItem {d : Nat} {w : Wd} {Q : Int32 → Wd → Prop} (x1 : Int32) (x2 : Int32) (h : Z m_Book_hasItem d (qI Q) 0 [(0, .ref 25), (1, .int x1), (2, .int x2)] [] w) : EvI m_Book_hasItem d [.ref 25, .int x1, .int x2] w Q := Ev.ofZ (by decide +kernel) (Nat.le_of_ble_eq_true rfl) h
set_option maxRecDepth 20000 in
set_option maxHeartbeats 1000000 in
theorem vc_Book_hasItem_0 {d : Nat} {w : Wd} {Q : Int32 → Wd → Prop} (x1 : Int32) (x2 : Int32) (h : ((x1 < 0 → ((nI 0) = 0 ∨ (nI 0) = 1) ∧ Q (nI 0) w) ∧ (¬ x1 < 0 → (((w.1 25 0) ≤ x1 → ((nI 0) = 0 ∨ (nI 0) = 1) ∧ Q (nI 0) w) ∧ (¬ (w.1 25 0) ≤ x1 → ((x2 < 0 → ((nI 0) = 0 ∨ (nI 0) = 1) ∧ Q (nI 0) w) ∧ (¬ x2 < 0 → ∃ j1 : Nat, x1 = nI j1 ∧ j1 < 12 ∧ (((w.1 27 j1) ≤ x2 → ((nI 0) = 0 ∨ (nI 0) = 1) ∧ Q (nI 0) w) ∧ (¬ (w.1 27 j1) ≤ x2 → ((nI 1) = 0 ∨ (nI 1) = 1) ∧ Q (nI 1) w))))))))) : Z m_Book_hasItem d (qI Q) 0 [(0, .ref 25), (1, .int x1), (2, .int x2)] [] w := wp_ok (P := P_Book_hasItem) (S := S_Book_hasItem) rfl pr_Book_hasItem 18 _ _ _ _ h
def P_Book_isBarred : Prog := [(0, .iconst 0), (1, .istore_n 2), (2, .iload_n 2), (3, .aload_n 0), (4, .getfield 46), (7, .if_icmp .ge 27), (10, .iload_n 2), (11, .bipush 10), (13, .if_icmp .ge 21), (16, .aload_n 0), (17, .getfield 30), (20, .iload_n 2), (21, .iaload), (22, .iload_n 1), (23, .if_icmp .ne 5), (26, .iconst 1), (27, .ireturn), (28, .iinc 2 1), (31, .goto (-29)), (34, .iconst 0), (35, .ireturn)]
theorem pr_Book_isBarred : prOK m_Book_isBarred P_Book_isBarred = true := by decide +kernel
def S_Book_isBarred : List (Nat × List Nat) := [(2, [0, 1, 2])]
theorem ev_Book_isBarred {d : Nat} {w : Wd} {Q : Int32 → Wd → Prop} (x1 : Int32) (h : Z m_Book_isBarred d (qI Q) 0 [(0, .ref 25), (1, .int x1)] [] w) : EvI m_Book_isBarred d [.ref 25, .int x1] w Q := Ev.ofZ (by decide +kernel) (Nat.le_of_ble_eq_true rfl) h
set_option maxRecDepth 20000 in
set_option maxHeartbeats 1000000 in
theorem vc_Book_isBarred_0 {d : Nat} {w : Wd} {Q : Int32 → Wd → Prop} (x1 : Int32) (h : Z m_Book_isBarred d (qI Q) 2 [(0, .ref 25), (1, .int x1), (2, .int (nI 0))] [] w) : Z m_Book_isBarred d (qI Q) 0 [(0, .ref 25), (1, .int x1)] [] w := wp_ok (P := P_Book_isBarred) (S := S_Book_isBarred) rfl pr_Book_isBarred 3 _ _ _ _ h
set_option maxRecDepth 20000 in
set_option maxHeartbeats 1000000 in
theorem vc_Book_isBarred_2 {d : Nat} {w : Wd} {Q : Int32 → Wd → Prop} (x1 : Int32) (x2 : Int32) (h : (((w.1 25 7) ≤ x2 → ((nI 0) = 0 ∨ (nI 0) = 1) ∧ Q (nI 0) w) ∧ (¬ (w.1 25 7) ≤ x2 → (((nI 10) ≤ x2 → ((nI 0) = 0 ∨ (nI 0) = 1) ∧ Q (nI 0) w) ∧ (¬ (nI 10) ≤ x2 → ∃ j1 : Nat, x2 = nI j1 ∧ j1 < 10 ∧ ((¬ (w.1 32 j1) = x1 → Z m_Book_isBarred d (qI Q) 2 [(0, .ref 25), (1, .int x1), (2, .int (x2 + nI 1))] [] w) ∧ ((w.1 32 j1) = x1 → ((nI 1) = 0 ∨ (nI 1) = 1) ∧ Q (nI 1) w))))))) : Z m_Book_isBarred d (qI Q) 2 [(0, .ref 25), (1, .int x1), (2, .int x2)] [] w := wp_ok (P := P_Book_isBarred) (S := S_Book_isBarred) rfl pr_Book_isBarred 16 _ _ _ _ h
def P_Book_chainGoal : Prog := [(0, .iload_n 1), (1, .ifCond .lt 20), (4, .iload_n 1), (5, .aload_n 0), (6, .getfield 49), (9, .if_icmp .ge 12), (12, .aload_n 0), (13, .getfield 33), (16, .iload_n 1), (17, .iaload), (18, .goto 4), (21, .iconst (-1)), (22, .ireturn)]
theorem pr_Book_chainGoal : prOK m_Book_chainGoal P_Book_chainGoal = true := by decide +kernel
def S_Book_chainGoal : List (Nat × List Nat) := []
theorem ev_Book_chainGoal {d : Nat} {w : Wd} {Q : Int32 → Wd → Prop} (x1 : Int32) (h : Z m_Book_chainGoal d (qI Q) 0 [(0, .ref 25), (1, .int x1)] [] w) : EvI m_Book_chainGoal d [.ref 25, .int x1] w Q := Ev.ofZ (by decide +kernel) (Nat.le_of_ble_eq_true rfl) h
set_option maxRecDepth 20000 in
set_option maxHeartbeats 1000000 in
theorem vc_Book_chainGoal_0 {d : Nat} {w : Wd} {Q : Int32 → Wd → Prop} (x1 : Int32) (h : ((x1 < 0 → Q (-nI 1) w) ∧ (¬ x1 < 0 → (((w.1 25 9) ≤ x1 → Q (-nI 1) w) ∧ (¬ (w.1 25 9) ≤ x1 → ∃ j1 : Nat, x1 = nI j1 ∧ j1 < 6 ∧ Q (w.1 33 j1) w))))) : Z m_Book_chainGoal d (qI Q) 0 [(0, .ref 25), (1, .int x1)] [] w := wp_ok (P := P_Book_chainGoal) (S := S_Book_chainGoal) rfl pr_Book_chainGoal 13 _ _ _ _ h
def P_Book_chainFirst : Prog := [(0, .iload_n 1), (1, .ifCond .lt 20), (4, .iload_n 1), (5, .aload_n 0), (6, .getfield 49), (9, .if_icmp .ge 12), (12, .aload_n 0), (13, .getfield 36), (16, .iload_n 1), (17, .iaload), (18, .goto 4), (21, .iconst (-1)), (22, .ireturn)]
theorem pr_Book_chainFirst : prOK m_Book_chainFirst P_Book_chainFirst = true := by decide +kernel
def S_Book_chainFirst : List (Nat × List Nat) := []
theorem ev_Book_chainFirst {d : Nat} {w : Wd} {Q : Int32 → Wd → Prop} (x1 : Int32) (h : Z m_Book_chainFirst d (qI Q) 0 [(0, .ref 25), (1, .int x1)] [] w) : EvI m_Book_chainFirst d [.ref 25, .int x1] w Q := Ev.ofZ (by decide +kernel) (Nat.le_of_ble_eq_true rfl) h
set_option maxRecDepth 20000 in
set_option maxHeartbeats 1000000 in
theorem vc_Book_chainFirst_0 {d : Nat} {w : Wd} {Q : Int32 → Wd → Prop} (x1 : Int32) (h : ((x1 < 0 → Q (-nI 1) w) ∧ (¬ x1 < 0 → (((w.1 25 9) ≤ x1 → Q (-nI 1) w) ∧ (¬ (w.1 25 9) ≤ x1 → ∃ j1 : Nat, x1 = nI j1 ∧ j1 < 6 ∧ Q (w.1 34 j1) w))))) : Z m_Book_chainFirst d (qI Q) 0 [(0, .ref 25), (1, .int x1)] [] w := wp_ok (P := P_Book_chainFirst) (S := S_Book_chainFirst) rfl pr_Book_chainFirst 13 _ _ _ _ h
def P_Book_chainSecond : Prog := [(0, .iload_n 1), (1, .ifCond .lt 20), (4, .iload_n 1), (5, .aload_n 0), (6, .getfield 49), (9, .if_icmp .ge 12), (12, .aload_n 0), (13, .getfield 39), (16, .iload_n 1), (17, .iaload), (18, .goto 4), (21, .iconst (-1)), (22, .ireturn)]
theorem pr_Book_chainSecond : prOK m_Book_chainSecond P_Book_chainSecond = true := by decide +kernel
def S_Book_chainSecond : List (Nat × List Nat) := []
theorem ev_Book_chainSecond {d : Nat} {w : Wd} {Q : Int32 → Wd → Prop} (x1 : Int32) (h : Z m_Book_chainSecond d (qI Q) 0 [(0, .ref 25), (1, .int x1)] [] w) : EvI m_Book_chainSecond d [.ref 25, .int x1] w Q := Ev.ofZ (by decide +kernel) (Nat.le_of_ble_eq_true rfl) h
set_option maxRecDepth 20000 in
set_option maxHeartbeats 1000000 in
theorem vc_Book_chainSecond_0 {d : Nat} {w : Wd} {Q : Int32 → Wd → Prop} (x1 : Int32) (h : ((x1 < 0 → Q (-nI 1) w) ∧ (¬ x1 < 0 → (((w.1 25 9) ≤ x1 → Q (-nI 1) w) ∧ (¬ (w.1 25 9) ≤ x1 → ∃ j1 : Nat, x1 = nI j1 ∧ j1 < 6 ∧ Q (w.1 35 j1) w))))) : Z m_Book_chainSecond d (qI Q) 0 [(0, .ref 25), (1, .int x1)] [] w := wp_ok (P := P_Book_chainSecond) (S := S_Book_chainSecond) rfl pr_Book_chainSecond 13 _ _ _ _ h
def P_Book_isSingle : Prog := [(0, .iload_n 1), (1, .invokestatic 61), (4, .ifCond .eq 18), (7, .aload_n 0), (8, .getfield 52), (11, .iload_n 1), (12, .ishr), (13, .iconst 1), (14, .iand), (15, .ifCond .eq 7), (18, .iconst 1), (19, .goto 4), (22, .iconst 0), (23, .ireturn)]
theorem pr_Book_isSingle : prOK m_Book_isSingle P_Book_isSingle = true := by decide +kernel
def S_Book_isSingle : List (Nat × List Nat) := []
theorem ev_Book_isSingle {d : Nat} {w : Wd} {Q : Int32 → Wd → Prop} (x1 : Int32) (h : Z m_Book_isSingle d (qI Q) 0 [(0, .ref 25), (1, .int x1)] [] w) : EvI m_Book_isSingle d [.ref 25, .int x1] w Q := Ev.ofZ (by decide +kernel) (Nat.le_of_ble_eq_true rfl) h
set_option maxRecDepth 20000 in
set_option maxHeartbeats 1000000 in
theorem vc_Book_isSingle_0 {d : Nat} {w : Wd} {Q : Int32 → Wd → Prop} (x1 : Int32) (h : ∃ Q1 : Int32 → Wd → Prop, EvI m_D_isRelation d [.int x1] w Q1 ∧ ∀ (r1 : Int32) (w1 : Wd), Q1 r1 w1 → ((r1 = 0 → ((nI 0) = 0 ∨ (nI 0) = 1) ∧ Q (nI 0) w1) ∧ (¬ r1 = 0 → (((((w1.1 25 13) >>> (x1 &&& 31)) &&& (nI 1)) = 0 → ((nI 0) = 0 ∨ (nI 0) = 1) ∧ Q (nI 0) w1) ∧ (¬ (((w1.1 25 13) >>> (x1 &&& 31)) &&& (nI 1)) = 0 → ((nI 1) = 0 ∨ (nI 1) = 1) ∧ Q (nI 1) w1))))) : Z m_Book_isSingle (d + 1) (qI Q) 0 [(0, .ref 25), (1, .int x1)] [] w := wp_ok (P := P_Book_isSingle) (S := S_Book_isSingle) rfl pr_Book_isSingle 14 _ _ _ _ h
end
section
def P_Reader_draft : Prog := [(0, .aload_n 0), (1, .getfield 21), (4, .areturn)]
theorem pr_Reader_draft : prOK m_Reader_draft P_Reader_draft = true := by decide +kernel
def S_Reader_draft : List (Nat × List Nat) := []
theorem ev_Reader_draft {d : Nat} {w : Wd} {Q : Nat → Wd → Prop}  (h : Z m_Reader_draft d (qR Q) 0 [(0, .ref 24)] [] w) : EvR m_Reader_draft d [.ref 24] w Q := Ev.ofZ (by decide +kernel) (Nat.le_of_ble_eq_true rfl) h
set_option maxRecDepth 20000 in
set_option maxHeartbeats 1000000 in
theorem vc_Reader_draft_0 {d : Nat} {w : Wd} {Q : Nat → Wd → Prop}  (h : Q 13 w) : Z m_Reader_draft d (qR Q) 0 [(0, .ref 24)] [] w := wp_ok (P := P_Reader_draft) (S := S_Reader_draft) rfl pr_Reader_draft 4 _ _ _ _ h
def P_Reader_read : Prog := [(0, .aload_n 0), (1, .getfield 12), (4, .aload_n 0), (5, .getfield 25), (8, .invokevirtual 29), (11, .aload_n 0), (12, .getfield 25), (15, .invokevirtual 33), (18, .aload_n 0), (19, .getfield 21), (22, .invokevirtual 38), (25, .aload_n 0), (26, .iconst 0), (27, .putfield 39), (30, .iconst 0), (31, .istore_n 1), (32, .iload_n 1), (33, .sipush 1200), (36, .if_icmp .ge 100), (39, .aload_n 0), (40, .getfield 39), (43, .ifCond .ne 93), (46, .aload_n 0), (47, .getfield 12), (50, .invokevirtual 43), (53, .iconst (-1)), (54, .if_icmp .eq 82), (57, .aload_n 0), (58, .getfield 12), (61, .invokevirtual 43), (64, .tableswitch 60 (-9) (-6) #[53, 46, 39, 32]), (96, .aload_n 0), (97, .invokevirtual 47), (100, .goto 30), (103, .aload_n 0), (104, .invokevirtual 50), (107, .goto 23), (110, .aload_n 0), (111, .invokevirtual 53), (114, .goto 16), (117, .aload_n 0), (118, .invokevirtual 56), (121, .goto 9), (124, .aload_n 0), (125, .iconst 1), (126, .invokevirtual 59), (129, .pop), (130, .iinc 1 1), (133, .goto (-101)), (136, .aload_n 0), (137, .getfield 39), (140, .ireturn)]
theorem pr_Reader_read : prOK m_Reader_read P_Reader_read = true := by decide +kernel
def S_Reader_read : List (Nat × List Nat) := [(32, [0, 1])]
theorem ev_Reader_read {d : Nat} {w : Wd} {Q : Int32 → Wd → Prop}  (h : Z m_Reader_read d (qI Q) 0 [(0, .ref 24)] [] w) : EvI m_Reader_read d [.ref 24] w Q := Ev.ofZ (by decide +kernel) (Nat.le_of_ble_eq_true rfl) h
set_option maxRecDepth 20000 in
set_option maxHeartbeats 1000000 in
theorem vc_Reader_read_0 {d : Nat} {w : Wd} {Q : Int32 → Wd → Prop}  (h : ∃ Q1 : Wd → Prop, EvV m_Tokens_scan d [.ref 10, .ref 8] w Q1 ∧ ∀ w1 : Wd, Q1 w1 → ∃ Q2 : Wd → Prop, EvV m_Tape_clear d [.ref 8] w1 Q2 ∧ ∀ w2 : Wd, Q2 w2 → ∃ Q3 : Wd → Prop, EvV m_Book_clear d [.ref 13] w2 Q3 ∧ ∀ w3 : Wd, Q3 w3 → Z m_Reader_read (d + 1) (qI Q) 32 [(0, .ref 24), (1, .int (nI 0))] [] (up1 w3 24 3 (nI 0))) : Z m_Reader_read (d + 1) (qI Q) 0 [(0, .ref 24)] [] w := wp_ok (P := P_Reader_read) (S := S_Reader_read) rfl pr_Reader_read 17 _ _ _ _ h
set_option maxRecDepth 20000 in
set_option maxHeartbeats 1000000 in
theorem vc_Reader_read_32 {d : Nat} {w : Wd} {Q : Int32 → Wd → Prop} (x1 : Int32) (h : (((nI 1200) ≤ x1 → Q (w.1 24 3) w) ∧ (¬ (nI 1200) ≤ x1 → ((¬ (w.1 24 3) = 0 → Q (w.1 24 3) w) ∧ ((w.1 24 3) = 0 → ∃ Q1 : Int32 → Wd → Prop, EvI m_Tokens_code d [.ref 10] w Q1 ∧ ∀ (r1 : Int32) (w1 : Wd), Q1 r1 w1 → ((r1 = (-nI 1) → Q (w1.1 24 3) w1) ∧ (¬ r1 = (-nI 1) → ∃ Q2 : Int32 → Wd → Prop, EvI m_Tokens_code d [.ref 10] w1 Q2 ∧ ∀ (r2 : Int32) (w2 : Wd), Q2 r2 w2 → ((r2 = (-nI 9) → ∃ Q3 : Wd → Prop, EvV m_Reader_readSingle d [.ref 24] w2 Q3 ∧ ∀ w3 : Wd, Q3 w3 → Z m_Reader_read (d + 1) (qI Q) 32 [(0, .ref 24), (1, .int (x1 + nI 1))] [] w3) ∧ (¬ r2 = (-nI 9) → ((r2 = (-nI 8) → ∃ Q4 : Wd → Prop, EvV m_Reader_readChain d [.ref 24] w2 Q4 ∧ ∀ w4 : Wd, Q4 w4 → Z m_Reader_read (d + 1) (qI Q) 32 [(0, .ref 24), (1, .int (x1 + nI 1))] [] w4) ∧ (¬ r2 = (-nI 8) → ((r2 = (-nI 7) → ∃ Q5 : Wd → Prop, EvV m_Reader_readBar d [.ref 24] w2 Q5 ∧ ∀ w5 : Wd, Q5 w5 → Z m_Reader_read (d + 1) (qI Q) 32 [(0, .ref 24), (1, .int (x1 + nI 1))] [] w5) ∧ (¬ r2 = (-nI 7) → ((r2 = (-nI 6) → ∃ Q6 : Wd → Prop, EvV m_Reader_readRule d [.ref 24] w2 Q6 ∧ ∀ w6 : Wd, Q6 w6 → Z m_Reader_read (d + 1) (qI Q) 32 [(0, .ref 24), (1, .int (x1 + nI 1))] [] w6) ∧ (¬ r2 = (-nI 6) → ∃ Q7 : Int32 → Wd → Prop, EvI m_Reader_fail d [.ref 24, .int (nI 1)] w2 Q7 ∧ ∀ (r7 : Int32) (w7 : Wd), Q7 r7 w7 → Z m_Reader_read (d + 1) (qI Q) 32 [(0, .ref 24), (1, .int (x1 + nI 1))] [] w7))))))))))))))) : Z m_Reader_read (d + 1) (qI Q) 32 [(0, .ref 24), (1, .int x1)] [] w := wp_ok (P := P_Reader_read) (S := S_Reader_read) rfl pr_Reader_read 22 _ _ _ _ h
def P_Reader_readRule : Prog := [(0, .aload_n 0), (1, .getfield 21), (4, .invokevirtual 63), (7, .bipush 12), (9, .if_icmp .lt 10), (12, .aload_n 0), (13, .iconst 5), (14, .invokevirtual 59), (17, .pop), (18, .return_), (19, .aload_n 0), (20, .getfield 12), (23, .invokevirtual 66), (26, .aload_n 0), (27, .iconst 0), (28, .bipush 9), (30, .invokevirtual 69), (33, .istore_n 1), (34, .iload_n 1), (35, .iconst (-1)), (36, .if_icmp .eq 12), (39, .aload_n 0), (40, .bipush (-3)), (42, .invokevirtual 73), (45, .ifCond .ne 4), (48, .return_), (49, .aload_n 0), (50, .getfield 21), (53, .iload_n 1), (54, .invokevirtual 76), (57, .iconst 0), (58, .istore_n 2), (59, .iload_n 2), (60, .bipush 10), (62, .if_icmp .gt 30), (65, .aload_n 0), (66, .getfield 12), (69, .invokevirtual 43), (72, .bipush (-5)), (74, .if_icmp .eq 18), (77, .aload_n 0), (78, .iload_n 2), (79, .invokevirtual 80), (82, .ifCond .ne 4), (85, .return_), (86, .iinc 2 1), (89, .goto (-30)), (92, .aload_n 0), (93, .getfield 21), (96, .iconst 1), (97, .invokevirtual 83), (100, .ifCond .eq 14), (103, .aload_n 0), (104, .getfield 21), (107, .iconst 2), (108, .invokevirtual 83), (111, .ifCond .ne 12), (114, .aload_n 0), (115, .iconst 1), (116, .invokevirtual 59), (119, .pop), (120, .goto 19), (123, .aload_n 0), (124, .bipush (-5)), (126, .invokevirtual 73), (129, .ifCond .eq 10), (132, .aload_n 0), (133, .getfield 21), (136, .invokevirtual 86), (139, .return_)]
theorem pr_Reader_readRule : prOK m_Reader_readRule P_Reader_readRule = true := by decide +kernel
def S_Reader_readRule : List (Nat × List Nat) := [(59, [0, 1, 2])]
theorem ev_Reader_readRule {d : Nat} {w : Wd} {Q : Wd → Prop}  (h : Z m_Reader_readRule d (qV Q) 0 [(0, .ref 24)] [] w) : EvV m_Reader_readRule d [.ref 24] w Q := Ev.ofZ (by decide +kernel) (Nat.le_of_ble_eq_true rfl) h
set_option maxRecDepth 20000 in
set_option maxHeartbeats 1000000 in
theorem vc_Reader_readRule_0 {d : Nat} {w : Wd} {Q : Wd → Prop}  (h : ∃ Q1 : Int32 → Wd → Prop, EvI m_Book_rules d [.ref 13] w Q1 ∧ ∀ (r1 : Int32) (w1 : Wd), Q1 r1 w1 → ((r1 < (nI 12) → ∃ Q2 : Wd → Prop, EvV m_Tokens_advance d [.ref 10] w1 Q2 ∧ ∀ w2 : Wd, Q2 w2 → ∃ Q3 : Int32 → Wd → Prop, EvI m_Reader_readNumber d [.ref 24, .int (nI 0), .int (nI 9)] w2 Q3 ∧ ∀ (r3 : Int32) (w3 : Wd), Q3 r3 w3 → ((r3 = (-nI 1) → Q w3) ∧ (¬ r3 = (-nI 1) → ∃ Q4 : Int32 → Wd → Prop, EvI m_Reader_readSign d [.ref 24, .int (-nI 3)] w3 Q4 ∧ ∀ (r4 : Int32) (w4 : Wd), Q4 r4 w4 → ((¬ r4 = 0 → ∃ Q5 : Wd → Prop, EvV m_Book_openRule d [.ref 13, .int r3] w4 Q5 ∧ ∀ w5 : Wd, Q5 w5 → Z m_Reader_readRule (d + 1) (qV Q) 59 [(0, .ref 24), (1, .int r3), (2, .int (nI 0))] [] w5) ∧ (r4 = 0 → Q w4))))) ∧ (¬ r1 < (nI 12) → ∃ Q6 : Int32 → Wd → Prop, EvI m_Reader_fail d [.ref 24, .int (nI 5)] w1 Q6 ∧ ∀ (r6 : Int32) (w6 : Wd), Q6 r6 w6 → Q w6))) : Z m_Reader_readRule (d + 1) (qV Q) 0 [(0, .ref 24)] [] w := wp_ok (P := P_Reader_readRule) (S := S_Reader_readRule) rfl pr_Reader_readRule 27 _ _ _ _ h
set_option maxRecDepth 20000 in
set_option maxHeartbeats 1000000 in
theorem vc_Reader_readRule_59 {d : Nat} {w : Wd} {Q : Wd → Prop} (x1 : Int32) (x2 : Int32) (h : (((nI 10) < x2 → ∃ Q1 : Int32 → Wd → Prop, EvI m_Book_openRuleHas d [.ref 13, .int (nI 1)] w Q1 ∧ ∀ (r1 : Int32) (w1 : Wd), Q1 r1 w1 → ((r1 = 0 → ∃ Q2 : Int32 → Wd → Prop, EvI m_Reader_fail d [.ref 24, .int (nI 1)] w1 Q2 ∧ ∀ (r2 : Int32) (w2 : Wd), Q2 r2 w2 → Q w2) ∧ (¬ r1 = 0 → ∃ Q3 : Int32 → Wd → Prop, EvI m_Book_openRuleHas d [.ref 13, .int (nI 2)] w1 Q3 ∧ ∀ (r3 : Int32) (w3 : Wd), Q3 r3 w3 → ((¬ r3 = 0 → ∃ Q4 : Int32 → Wd → Prop, EvI m_Reader_readSign d [.ref 24, .int (-nI 5)] w3 Q4 ∧ ∀ (r4 : Int32) (w4 : Wd), Q4 r4 w4 → ((r4 = 0 → Q w4) ∧ (¬ r4 = 0 → ∃ Q5 : Wd → Prop, EvV m_Book_closeRule d [.ref 13] w4 Q5 ∧ ∀ w5 : Wd, Q5 w5 → Q w5))) ∧ (r3 = 0 → ∃ Q6 : Int32 → Wd → Prop, EvI m_Reader_fail d [.ref 24, .int (nI 1)] w3 Q6 ∧ ∀ (r6 : Int32) (w6 : Wd), Q6 r6 w6 → Q w6))))) ∧ (¬ (nI 10) < x2 → ∃ Q7 : Int32 → Wd → Prop, EvI m_Tokens_code d [.ref 10] w Q7 ∧ ∀ (r7 : Int32) (w7 : Wd), Q7 r7 w7 → ((r7 = (-nI 5) → ∃ Q8 : Int32 → Wd → Prop, EvI m_Book_openRuleHas d [.ref 13, .int (nI 1)] w7 Q8 ∧ ∀ (r8 : Int32) (w8 : Wd), Q8 r8 w8 → ((r8 = 0 → ∃ Q9 : Int32 → Wd → Prop, EvI m_Reader_fail d [.ref 24, .int (nI 1)] w8 Q9 ∧ ∀ (r9 : Int32) (w9 : Wd), Q9 r9 w9 → Q w9) ∧ (¬ r8 = 0 → ∃ Q10 : Int32 → Wd → Prop, EvI m_Book_openRuleHas d [.ref 13, .int (nI 2)] w8 Q10 ∧ ∀ (r10 : Int32) (w10 : Wd), Q10 r10 w10 → ((¬ r10 = 0 → ∃ Q11 : Int32 → Wd → Prop, EvI m_Reader_readSign d [.ref 24, .int (-nI 5)] w10 Q11 ∧ ∀ (r11 : Int32) (w11 : Wd), Q11 r11 w11 → ((r11 = 0 → Q w11) ∧ (¬ r11 = 0 → ∃ Q12 : Wd → Prop, EvV m_Book_closeRule d [.ref 13] w11 Q12 ∧ ∀ w12 : Wd, Q12 w12 → Q w12))) ∧ (r10 = 0 → ∃ Q13 : Int32 → Wd → Prop, EvI m_Reader_fail d [.ref 24, .int (nI 1)] w10 Q13 ∧ ∀ (r13 : Int32) (w13 : Wd), Q13 r13 w13 → Q w13))))) ∧ (¬ r7 = (-nI 5) → ∃ Q14 : Int32 → Wd → Prop, EvI m_Reader_readItem d [.ref 24, .int x2] w7 Q14 ∧ ∀ (r14 : Int32) (w14 : Wd), Q14 r14 w14 → ((¬ r14 = 0 → Z m_Reader_readRule (d + 1) (qV Q) 59 [(0, .ref 24), (1, .int x1), (2, .int (x2 + nI 1))] [] w14) ∧ (r14 = 0 → Q w14))))))) : Z m_Reader_readRule (d + 1) (qV Q) 59 [(0, .ref 24), (1, .int x1), (2, .int x2)] [] w := wp_ok (P := P_Reader_readRule) (S := S_Reader_readRule) rfl pr_Reader_readRule 27 _ _ _ _ h
def P_Reader_readItem : Prog := [(0, .aload_n 0), (1, .getfield 12), (4, .invokevirtual 43), (7, .istore_n 2), (8, .iload_n 2), (9, .bipush (-10)), (11, .if_icmp .ne 7), (14, .iconst 1), (15, .goto 14), (18, .iload_n 2), (19, .bipush (-11)), (21, .if_icmp .ne 7), (24, .iconst 2), (25, .goto 4), (28, .iconst 0), (29, .istore_n 3), (30, .iload_n 3), (31, .ifCond .eq 17), (34, .aload_n 0), (35, .getfield 21), (38, .iload_n 3), (39, .invokevirtual 83), (42, .ifCond .eq 25), (45, .goto 16), (48, .iload_n 2), (49, .bipush (-12)), (51, .if_icmp .eq 16), (54, .iload_n 2), (55, .invokestatic 89), (58, .ifCond .ne 9), (61, .aload_n 0), (62, .iconst 1), (63, .invokevirtual 59), (66, .ireturn), (67, .iload_n 1), (68, .bipush 10), (70, .if_icmp .lt 9), (73, .aload_n 0), (74, .iconst 5), (75, .invokevirtual 59), (78, .ireturn), (79, .iload_n 2), (80, .bipush (-12)), (82, .if_icmp .ne 22), (85, .aload_n 0), (86, .getfield 12), (89, .invokevirtual 66), (92, .aload_n 0), (93, .getfield 21), (96, .iconst 3), (97, .iconst 0), (98, .iconst 0), (99, .invokevirtual 92), (102, .iconst 1), (103, .ireturn), (104, .iload_n 3), (105, .ifCond .eq 10), (108, .aload_n 0), (109, .getfield 12), (112, .invokevirtual 66), (115, .aload_n 0), (116, .iload_n 3), (117, .invokevirtual 96), (120, .ireturn)]
theorem pr_Reader_readItem : prOK m_Reader_readItem P_Reader_readItem = true := by decide +kernel
def S_Reader_readItem : List (Nat × List Nat) := []
theorem ev_Reader_readItem {d : Nat} {w : Wd} {Q : Int32 → Wd → Prop} (x1 : Int32) (h : Z m_Reader_readItem d (qI Q) 0 [(0, .ref 24), (1, .int x1)] [] w) : EvI m_Reader_readItem d [.ref 24, .int x1] w Q := Ev.ofZ (by decide +kernel) (Nat.le_of_ble_eq_true rfl) h
set_option maxRecDepth 20000 in
set_option maxHeartbeats 1000000 in
theorem vc_Reader_readItem_0 {d : Nat} {w : Wd} {Q : Int32 → Wd → Prop} (x1 : Int32) (h : ∃ Q1 : Int32 → Wd → Prop, EvI m_Tokens_code d [.ref 10] w Q1 ∧ ∀ (r1 : Int32) (w1 : Wd), Q1 r1 w1 → ((¬ r1 = (-nI 10) → ((¬ r1 = (-nI 11) → (((nI 0) = 0 → ((r1 = (-nI 12) → ((x1 < (nI 10) → ((¬ r1 = (-nI 12) → (((nI 0) = 0 → ∃ Q2 : Int32 → Wd → Prop, EvI m_Reader_readSpec d [.ref 24, .int (nI 0)] w1 Q2 ∧ ∀ (r2 : Int32) (w2 : Wd), Q2 r2 w2 → (r2 = 0 ∨ r2 = 1) ∧ Q r2 w2) ∧ (¬ (nI 0) = 0 → ∃ Q3 : Wd → Prop, EvV m_Tokens_advance d [.ref 10] w1 Q3 ∧ ∀ w3 : Wd, Q3 w3 → ∃ Q4 : Int32 → Wd → Prop, EvI m_Reader_readSpec d [.ref 24, .int (nI 0)] w3 Q4 ∧ ∀ (r4 : Int32) (w4 : Wd), Q4 r4 w4 → (r4 = 0 ∨ r4 = 1) ∧ Q r4 w4))) ∧ (r1 = (-nI 12) → ∃ Q5 : Wd → Prop, EvV m_Tokens_advance d [.ref 10] w1 Q5 ∧ ∀ w5 : Wd, Q5 w5 → ∃ Q6 : Wd → Prop, EvV m_Book_addItem d [.ref 13, .int (nI 3), .int (nI 0), .int (nI 0)] w5 Q6 ∧ ∀ w6 : Wd, Q6 w6 → ((nI 1) = 0 ∨ (nI 1) = 1) ∧ Q (nI 1) w6))) ∧ (¬ x1 < (nI 10) → ∃ Q7 : Int32 → Wd → Prop, EvI m_Reader_fail d [.ref 24, .int (nI 5)] w1 Q7 ∧ ∀ (r7 : Int32) (w7 : Wd), Q7 r7 w7 → (r7 = 0 ∨ r7 = 1) ∧ Q r7 w7))) ∧ (¬ r1 = (-nI 12) → ∃ Q8 : Int32 → Wd → Prop, EvI m_Reader_isSpec d [.int r1] w1 Q8 ∧ ∀ (r8 : Int32) (w8 : Wd), Q8 r8 w8 → ((¬ r8 = 0 → ((x1 < (nI 10) → ((¬ r1 = (-nI 12) → (((nI 0) = 0 → ∃ Q9 : Int32 → Wd → Prop, EvI m_Reader_readSpec d [.ref 24, .int (nI 0)] w8 Q9 ∧ ∀ (r9 : Int32) (w9 : Wd), Q9 r9 w9 → (r9 = 0 ∨ r9 = 1) ∧ Q r9 w9) ∧ (¬ (nI 0) = 0 → ∃ Q10 : Wd → Prop, EvV m_Tokens_advance d [.ref 10] w8 Q10 ∧ ∀ w10 : Wd, Q10 w10 → ∃ Q11 : Int32 → Wd → Prop, EvI m_Reader_readSpec d [.ref 24, .int (nI 0)] w10 Q11 ∧ ∀ (r11 : Int32) (w11 : Wd), Q11 r11 w11 → (r11 = 0 ∨ r11 = 1) ∧ Q r11 w11))) ∧ (r1 = (-nI 12) → ∃ Q12 : Wd → Prop, EvV m_Tokens_advance d [.ref 10] w8 Q12 ∧ ∀ w12 : Wd, Q12 w12 → ∃ Q13 : Wd → Prop, EvV m_Book_addItem d [.ref 13, .int (nI 3), .int (nI 0), .int (nI 0)] w12 Q13 ∧ ∀ w13 : Wd, Q13 w13 → ((nI 1) = 0 ∨ (nI 1) = 1) ∧ Q (nI 1) w13))) ∧ (¬ x1 < (nI 10) → ∃ Q14 : Int32 → Wd → Prop, EvI m_Reader_fail d [.ref 24, .int (nI 5)] w8 Q14 ∧ ∀ (r14 : Int32) (w14 : Wd), Q14 r14 w14 → (r14 = 0 ∨ r14 = 1) ∧ Q r14 w14))) ∧ (r8 = 0 → ∃ Q15 : Int32 → Wd → Prop, EvI m_Reader_fail d [.ref 24, .int (nI 1)] w8 Q15 ∧ ∀ (r15 : Int32) (w15 : Wd), Q15 r15 w15 → (r15 = 0 ∨ r15 = 1) ∧ Q r15 w15))))) ∧ (¬ (nI 0) = 0 → ∃ Q16 : Int32 → Wd → Prop, EvI m_Book_openRuleHas d [.ref 13, .int (nI 0)] w1 Q16 ∧ ∀ (r16 : Int32) (w16 : Wd), Q16 r16 w16 → ((r16 = 0 → ((x1 < (nI 10) → ((¬ r1 = (-nI 12) → (((nI 0) = 0 → ∃ Q17 : Int32 → Wd → Prop, EvI m_Reader_readSpec d [.ref 24, .int (nI 0)] w16 Q17 ∧ ∀ (r17 : Int32) (w17 : Wd), Q17 r17 w17 → (r17 = 0 ∨ r17 = 1) ∧ Q r17 w17) ∧ (¬ (nI 0) = 0 → ∃ Q18 : Wd → Prop, EvV m_Tokens_advance d [.ref 10] w16 Q18 ∧ ∀ w18 : Wd, Q18 w18 → ∃ Q19 : Int32 → Wd → Prop, EvI m_Reader_readSpec d [.ref 24, .int (nI 0)] w18 Q19 ∧ ∀ (r19 : Int32) (w19 : Wd), Q19 r19 w19 → (r19 = 0 ∨ r19 = 1) ∧ Q r19 w19))) ∧ (r1 = (-nI 12) → ∃ Q20 : Wd → Prop, EvV m_Tokens_advance d [.ref 10] w16 Q20 ∧ ∀ w20 : Wd, Q20 w20 → ∃ Q21 : Wd → Prop, EvV m_Book_addItem d [.ref 13, .int (nI 3), .int (nI 0), .int (nI 0)] w20 Q21 ∧ ∀ w21 : Wd, Q21 w21 → ((nI 1) = 0 ∨ (nI 1) = 1) ∧ Q (nI 1) w21))) ∧ (¬ x1 < (nI 10) → ∃ Q22 : Int32 → Wd → Prop, EvI m_Reader_fail d [.ref 24, .int (nI 5)] w16 Q22 ∧ ∀ (r22 : Int32) (w22 : Wd), Q22 r22 w22 → (r22 = 0 ∨ r22 = 1) ∧ Q r22 w22))) ∧ (¬ r16 = 0 → ∃ Q23 : Int32 → Wd → Prop, EvI m_Reader_fail d [.ref 24, .int (nI 1)] w16 Q23 ∧ ∀ (r23 : Int32) (w23 : Wd), Q23 r23 w23 → (r23 = 0 ∨ r23 = 1) ∧ Q r23 w23))))) ∧ (r1 = (-nI 11) → (((nI 2) = 0 → ((r1 = (-nI 12) → ((x1 < (nI 10) → ((¬ r1 = (-nI 12) → (((nI 2) = 0 → ∃ Q24 : Int32 → Wd → Prop, EvI m_Reader_readSpec d [.ref 24, .int (nI 2)] w1 Q24 ∧ ∀ (r24 : Int32) (w24 : Wd), Q24 r24 w24 → (r24 = 0 ∨ r24 = 1) ∧ Q r24 w24) ∧ (¬ (nI 2) = 0 → ∃ Q25 : Wd → Prop, EvV m_Tokens_advance d [.ref 10] w1 Q25 ∧ ∀ w25 : Wd, Q25 w25 → ∃ Q26 : Int32 → Wd → Prop, EvI m_Reader_readSpec d [.ref 24, .int (nI 2)] w25 Q26 ∧ ∀ (r26 : Int32) (w26 : Wd), Q26 r26 w26 → (r26 = 0 ∨ r26 = 1) ∧ Q r26 w26))) ∧ (r1 = (-nI 12) → ∃ Q27 : Wd → Prop, EvV m_Tokens_advance d [.ref 10] w1 Q27 ∧ ∀ w27 : Wd, Q27 w27 → ∃ Q28 : Wd → Prop, EvV m_Book_addItem d [.ref 13, .int (nI 3), .int (nI 0), .int (nI 0)] w27 Q28 ∧ ∀ w28 : Wd, Q28 w28 → ((nI 1) = 0 ∨ (nI 1) = 1) ∧ Q (nI 1) w28))) ∧ (¬ x1 < (nI 10) → ∃ Q29 : Int32 → Wd → Prop, EvI m_Reader_fail d [.ref 24, .int (nI 5)] w1 Q29 ∧ ∀ (r29 : Int32) (w29 : Wd), Q29 r29 w29 → (r29 = 0 ∨ r29 = 1) ∧ Q r29 w29))) ∧ (¬ r1 = (-nI 12) → ∃ Q30 : Int32 → Wd → Prop, EvI m_Reader_isSpec d [.int r1] w1 Q30 ∧ ∀ (r30 : Int32) (w30 : Wd), Q30 r30 w30 → ((¬ r30 = 0 → ((x1 < (nI 10) → ((¬ r1 = (-nI 12) → (((nI 2) = 0 → ∃ Q31 : Int32 → Wd → Prop, EvI m_Reader_readSpec d [.ref 24, .int (nI 2)] w30 Q31 ∧ ∀ (r31 : Int32) (w31 : Wd), Q31 r31 w31 → (r31 = 0 ∨ r31 = 1) ∧ Q r31 w31) ∧ (¬ (nI 2) = 0 → ∃ Q32 : Wd → Prop, EvV m_Tokens_advance d [.ref 10] w30 Q32 ∧ ∀ w32 : Wd, Q32 w32 → ∃ Q33 : Int32 → Wd → Prop, EvI m_Reader_readSpec d [.ref 24, .int (nI 2)] w32 Q33 ∧ ∀ (r33 : Int32) (w33 : Wd), Q33 r33 w33 → (r33 = 0 ∨ r33 = 1) ∧ Q r33 w33))) ∧ (r1 = (-nI 12) → ∃ Q34 : Wd → Prop, EvV m_Tokens_advance d [.ref 10] w30 Q34 ∧ ∀ w34 : Wd, Q34 w34 → ∃ Q35 : Wd → Prop, EvV m_Book_addItem d [.ref 13, .int (nI 3), .int (nI 0), .int (nI 0)] w34 Q35 ∧ ∀ w35 : Wd, Q35 w35 → ((nI 1) = 0 ∨ (nI 1) = 1) ∧ Q (nI 1) w35))) ∧ (¬ x1 < (nI 10) → ∃ Q36 : Int32 → Wd → Prop, EvI m_Reader_fail d [.ref 24, .int (nI 5)] w30 Q36 ∧ ∀ (r36 : Int32) (w36 : Wd), Q36 r36 w36 → (r36 = 0 ∨ r36 = 1) ∧ Q r36 w36))) ∧ (r30 = 0 → ∃ Q37 : Int32 → Wd → Prop, EvI m_Reader_fail d [.ref 24, .int (nI 1)] w30 Q37 ∧ ∀ (r37 : Int32) (w37 : Wd), Q37 r37 w37 → (r37 = 0 ∨ r37 = 1) ∧ Q r37 w37))))) ∧ (¬ (nI 2) = 0 → ∃ Q38 : Int32 → Wd → Prop, EvI m_Book_openRuleHas d [.ref 13, .int (nI 2)] w1 Q38 ∧ ∀ (r38 : Int32) (w38 : Wd), Q38 r38 w38 → ((r38 = 0 → ((x1 < (nI 10) → ((¬ r1 = (-nI 12) → (((nI 2) = 0 → ∃ Q39 : Int32 → Wd → Prop, EvI m_Reader_readSpec d [.ref 24, .int (nI 2)] w38 Q39 ∧ ∀ (r39 : Int32) (w39 : Wd), Q39 r39 w39 → (r39 = 0 ∨ r39 = 1) ∧ Q r39 w39) ∧ (¬ (nI 2) = 0 → ∃ Q40 : Wd → Prop, EvV m_Tokens_advance d [.ref 10] w38 Q40 ∧ ∀ w40 : Wd, Q40 w40 → ∃ Q41 : Int32 → Wd → Prop, EvI m_Reader_readSpec d [.ref 24, .int (nI 2)] w40 Q41 ∧ ∀ (r41 : Int32) (w41 : Wd), Q41 r41 w41 → (r41 = 0 ∨ r41 = 1) ∧ Q r41 w41))) ∧ (r1 = (-nI 12) → ∃ Q42 : Wd → Prop, EvV m_Tokens_advance d [.ref 10] w38 Q42 ∧ ∀ w42 : Wd, Q42 w42 → ∃ Q43 : Wd → Prop, EvV m_Book_addItem d [.ref 13, .int (nI 3), .int (nI 0), .int (nI 0)] w42 Q43 ∧ ∀ w43 : Wd, Q43 w43 → ((nI 1) = 0 ∨ (nI 1) = 1) ∧ Q (nI 1) w43))) ∧ (¬ x1 < (nI 10) → ∃ Q44 : Int32 → Wd → Prop, EvI m_Reader_fail d [.ref 24, .int (nI 5)] w38 Q44 ∧ ∀ (r44 : Int32) (w44 : Wd), Q44 r44 w44 → (r44 = 0 ∨ r44 = 1) ∧ Q r44 w44))) ∧ (¬ r38 = 0 → ∃ Q45 : Int32 → Wd → Prop, EvI m_Reader_fail d [.ref 24, .int (nI 1)] w38 Q45 ∧ ∀ (r45 : Int32) (w45 : Wd), Q45 r45 w45 → (r45 = 0 ∨ r45 = 1) ∧ Q r45 w45))))))) ∧ (r1 = (-nI 10) → (((nI 1) = 0 → ((r1 = (-nI 12) → ((x1 < (nI 10) → ((¬ r1 = (-nI 12) → (((nI 1) = 0 → ∃ Q46 : Int32 → Wd → Prop, EvI m_Reader_readSpec d [.ref 24, .int (nI 1)] w1 Q46 ∧ ∀ (r46 : Int32) (w46 : Wd), Q46 r46 w46 → (r46 = 0 ∨ r46 = 1) ∧ Q r46 w46) ∧ (¬ (nI 1) = 0 → ∃ Q47 : Wd → Prop, EvV m_Tokens_advance d [.ref 10] w1 Q47 ∧ ∀ w47 : Wd, Q47 w47 → ∃ Q48 : Int32 → Wd → Prop, EvI m_Reader_readSpec d [.ref 24, .int (nI 1)] w47 Q48 ∧ ∀ (r48 : Int32) (w48 : Wd), Q48 r48 w48 → (r48 = 0 ∨ r48 = 1) ∧ Q r48 w48))) ∧ (r1 = (-nI 12) → ∃ Q49 : Wd → Prop, EvV m_Tokens_advance d [.ref 10] w1 Q49 ∧ ∀ w49 : Wd, Q49 w49 → ∃ Q50 : Wd → Prop, EvV m_Book_addItem d [.ref 13, .int (nI 3), .int (nI 0), .int (nI 0)] w49 Q50 ∧ ∀ w50 : Wd, Q50 w50 → ((nI 1) = 0 ∨ (nI 1) = 1) ∧ Q (nI 1) w50))) ∧ (¬ x1 < (nI 10) → ∃ Q51 : Int32 → Wd → Prop, EvI m_Reader_fail d [.ref 24, .int (nI 5)] w1 Q51 ∧ ∀ (r51 : Int32) (w51 : Wd), Q51 r51 w51 → (r51 = 0 ∨ r51 = 1) ∧ Q r51 w51))) ∧ (¬ r1 = (-nI 12) → ∃ Q52 : Int32 → Wd → Prop, EvI m_Reader_isSpec d [.int r1] w1 Q52 ∧ ∀ (r52 : Int32) (w52 : Wd), Q52 r52 w52 → ((¬ r52 = 0 → ((x1 < (nI 10) → ((¬ r1 = (-nI 12) → (((nI 1) = 0 → ∃ Q53 : Int32 → Wd → Prop, EvI m_Reader_readSpec d [.ref 24, .int (nI 1)] w52 Q53 ∧ ∀ (r53 : Int32) (w53 : Wd), Q53 r53 w53 → (r53 = 0 ∨ r53 = 1) ∧ Q r53 w53) ∧ (¬ (nI 1) = 0 → ∃ Q54 : Wd → Prop, EvV m_Tokens_advance d [.ref 10] w52 Q54 ∧ ∀ w54 : Wd, Q54 w54 → ∃ Q55 : Int32 → Wd → Prop, EvI m_Reader_readSpec d [.ref 24, .int (nI 1)] w54 Q55 ∧ ∀ (r55 : Int32) (w55 : Wd), Q55 r55 w55 → (r55 = 0 ∨ r55 = 1) ∧ Q r55 w55))) ∧ (r1 = (-nI 12) → ∃ Q56 : Wd → Prop, EvV m_Tokens_advance d [.ref 10] w52 Q56 ∧ ∀ w56 : Wd, Q56 w56 → ∃ Q57 : Wd → Prop, EvV m_Book_addItem d [.ref 13, .int (nI 3), .int (nI 0), .int (nI 0)] w56 Q57 ∧ ∀ w57 : Wd, Q57 w57 → ((nI 1) = 0 ∨ (nI 1) = 1) ∧ Q (nI 1) w57))) ∧ (¬ x1 < (nI 10) → ∃ Q58 : Int32 → Wd → Prop, EvI m_Reader_fail d [.ref 24, .int (nI 5)] w52 Q58 ∧ ∀ (r58 : Int32) (w58 : Wd), Q58 r58 w58 → (r58 = 0 ∨ r58 = 1) ∧ Q r58 w58))) ∧ (r52 = 0 → ∃ Q59 : Int32 → Wd → Prop, EvI m_Reader_fail d [.ref 24, .int (nI 1)] w52 Q59 ∧ ∀ (r59 : Int32) (w59 : Wd), Q59 r59 w59 → (r59 = 0 ∨ r59 = 1) ∧ Q r59 w59))))) ∧ (¬ (nI 1) = 0 → ∃ Q60 : Int32 → Wd → Prop, EvI m_Book_openRuleHas d [.ref 13, .int (nI 1)] w1 Q60 ∧ ∀ (r60 : Int32) (w60 : Wd), Q60 r60 w60 → ((r60 = 0 → ((x1 < (nI 10) → ((¬ r1 = (-nI 12) → (((nI 1) = 0 → ∃ Q61 : Int32 → Wd → Prop, EvI m_Reader_readSpec d [.ref 24, .int (nI 1)] w60 Q61 ∧ ∀ (r61 : Int32) (w61 : Wd), Q61 r61 w61 → (r61 = 0 ∨ r61 = 1) ∧ Q r61 w61) ∧ (¬ (nI 1) = 0 → ∃ Q62 : Wd → Prop, EvV m_Tokens_advance d [.ref 10] w60 Q62 ∧ ∀ w62 : Wd, Q62 w62 → ∃ Q63 : Int32 → Wd → Prop, EvI m_Reader_readSpec d [.ref 24, .int (nI 1)] w62 Q63 ∧ ∀ (r63 : Int32) (w63 : Wd), Q63 r63 w63 → (r63 = 0 ∨ r63 = 1) ∧ Q r63 w63))) ∧ (r1 = (-nI 12) → ∃ Q64 : Wd → Prop, EvV m_Tokens_advance d [.ref 10] w60 Q64 ∧ ∀ w64 : Wd, Q64 w64 → ∃ Q65 : Wd → Prop, EvV m_Book_addItem d [.ref 13, .int (nI 3), .int (nI 0), .int (nI 0)] w64 Q65 ∧ ∀ w65 : Wd, Q65 w65 → ((nI 1) = 0 ∨ (nI 1) = 1) ∧ Q (nI 1) w65))) ∧ (¬ x1 < (nI 10) → ∃ Q66 : Int32 → Wd → Prop, EvI m_Reader_fail d [.ref 24, .int (nI 5)] w60 Q66 ∧ ∀ (r66 : Int32) (w66 : Wd), Q66 r66 w66 → (r66 = 0 ∨ r66 = 1) ∧ Q r66 w66))) ∧ (¬ r60 = 0 → ∃ Q67 : Int32 → Wd → Prop, EvI m_Reader_fail d [.ref 24, .int (nI 1)] w60 Q67 ∧ ∀ (r67 : Int32) (w67 : Wd), Q67 r67 w67 → (r67 = 0 ∨ r67 = 1) ∧ Q r67 w67))))))) : Z m_Reader_readItem (d + 1) (qI Q) 0 [(0, .ref 24), (1, .int x1)] [] w := wp_ok (P := P_Reader_readItem) (S := S_Reader_readItem) rfl pr_Reader_readItem 39 _ _ _ _ h
def P_Reader_isSpec : Prog := [(0, .iload_n 0), (1, .bipush (-13)), (3, .if_icmp .eq 15), (6, .iload_n 0), (7, .bipush (-14)), (9, .if_icmp .eq 9), (12, .iload_n 0), (13, .bipush (-15)), (15, .if_icmp .ne 7), (18, .iconst 1), (19, .goto 4), (22, .iconst 0), (23, .ireturn)]
theorem pr_Reader_isSpec : prOK m_Reader_isSpec P_Reader_isSpec = true := by decide +kernel
def S_Reader_isSpec : List (Nat × List Nat) := []
theorem ev_Reader_isSpec {d : Nat} {w : Wd} {Q : Int32 → Wd → Prop} (x0 : Int32) (h : Z m_Reader_isSpec d (qI Q) 0 [(0, .int x0)] [] w) : EvI m_Reader_isSpec d [.int x0] w Q := Ev.ofZ (by decide +kernel) (Nat.le_of_ble_eq_true rfl) h
set_option maxRecDepth 20000 in
set_option maxHeartbeats 1000000 in
theorem vc_Reader_isSpec_0 {d : Nat} {w : Wd} {Q : Int32 → Wd → Prop} (x0 : Int32) (h : ((x0 = (-nI 13) → ((nI 1) = 0 ∨ (nI 1) = 1) ∧ Q (nI 1) w) ∧ (¬ x0 = (-nI 13) → ((x0 = (-nI 14) → ((nI 1) = 0 ∨ (nI 1) = 1) ∧ Q (nI 1) w) ∧ (¬ x0 = (-nI 14) → ((¬ x0 = (-nI 15) → ((nI 0) = 0 ∨ (nI 0) = 1) ∧ Q (nI 0) w) ∧ (x0 = (-nI 15) → ((nI 1) = 0 ∨ (nI 1) = 1) ∧ Q (nI 1) w))))))) : Z m_Reader_isSpec d (qI Q) 0 [(0, .int x0)] [] w := wp_ok (P := P_Reader_isSpec) (S := S_Reader_isSpec) rfl pr_Reader_isSpec 13 _ _ _ _ h
def P_Reader_readSpec : Prog := [(0, .aload_n 0), (1, .getfield 12), (4, .invokevirtual 43), (7, .istore_n 2), (8, .iload_n 2), (9, .invokestatic 89), (12, .ifCond .ne 9), (15, .aload_n 0), (16, .iconst 1), (17, .invokevirtual 59), (20, .ireturn), (21, .aload_n 0), (22, .getfield 12), (25, .invokevirtual 66), (28, .iload_n 2), (29, .bipush (-15)), (31, .if_icmp .ne 15), (34, .aload_n 0), (35, .getfield 21), (38, .iconst 2), (39, .iconst 0), (40, .iload_n 1), (41, .invokevirtual 92), (44, .iconst 1), (45, .ireturn), (46, .iload_n 2), (47, .bipush (-13)), (49, .if_icmp .ne 7), (52, .iconst 1), (53, .goto 4), (56, .iconst 0), (57, .istore_n 3), (58, .iload_n 3), (59, .ifCond .eq 13), (62, .aload_n 0), (63, .iconst 1), (64, .bipush 100), (66, .invokevirtual 69), (69, .goto 10), (72, .aload_n 0), (73, .iconst 0), (74, .bipush 9), (76, .invokevirtual 69), (79, .istore 4), (81, .iload 4), (83, .iconst (-1)), (84, .if_icmp .ne 5), (87, .iconst 0), (88, .ireturn), (89, .aload_n 0), (90, .getfield 21), (93, .iload_n 3), (94, .ifCond .eq 7), (97, .iconst 0), (98, .goto 4), (101, .iconst 1), (102, .iload 4), (104, .iload_n 1), (105, .invokevirtual 92), (108, .iconst 1), (109, .ireturn)]
theorem pr_Reader_readSpec : prOK m_Reader_readSpec P_Reader_readSpec = true := by decide +kernel
def S_Reader_readSpec : List (Nat × List Nat) := []
theorem ev_Reader_readSpec {d : Nat} {w : Wd} {Q : Int32 → Wd → Prop} (x1 : Int32) (h : Z m_Reader_readSpec d (qI Q) 0 [(0, .ref 24), (1, .int x1)] [] w) : EvI m_Reader_readSpec d [.ref 24, .int x1] w Q := Ev.ofZ (by decide +kernel) (Nat.le_of_ble_eq_true rfl) h
set_option maxRecDepth 20000 in
set_option maxHeartbeats 1000000 in
theorem vc_Reader_readSpec_0 {d : Nat} {w : Wd} {Q : Int32 → Wd → Prop} (x1 : Int32) (h : ∃ Q1 : Int32 → Wd → Prop, EvI m_Tokens_code d [.ref 10] w Q1 ∧ ∀ (r1 : Int32) (w1 : Wd), Q1 r1 w1 → ∃ Q2 : Int32 → Wd → Prop, EvI m_Reader_isSpec d [.int r1] w1 Q2 ∧ ∀ (r2 : Int32) (w2 : Wd), Q2 r2 w2 → ((¬ r2 = 0 → ∃ Q3 : Wd → Prop, EvV m_Tokens_advance d [.ref 10] w2 Q3 ∧ ∀ w3 : Wd, Q3 w3 → ((¬ r1 = (-nI 15) → ((¬ r1 = (-nI 13) → (((nI 0) = 0 → ∃ Q4 : Int32 → Wd → Prop, EvI m_Reader_readNumber d [.ref 24, .int (nI 0), .int (nI 9)] w3 Q4 ∧ ∀ (r4 : Int32) (w4 : Wd), Q4 r4 w4 → ((¬ r4 = (-nI 1) → (((nI 0) = 0 → ∃ Q5 : Wd → Prop, EvV m_Book_addItem d [.ref 13, .int (nI 1), .int r4, .int x1] w4 Q5 ∧ ∀ w5 : Wd, Q5 w5 → ((nI 1) = 0 ∨ (nI 1) = 1) ∧ Q (nI 1) w5) ∧ (¬ (nI 0) = 0 → ∃ Q6 : Wd → Prop, EvV m_Book_addItem d [.ref 13, .int (nI 0), .int r4, .int x1] w4 Q6 ∧ ∀ w6 : Wd, Q6 w6 → ((nI 1) = 0 ∨ (nI 1) = 1) ∧ Q (nI 1) w6))) ∧ (r4 = (-nI 1) → ((nI 0) = 0 ∨ (nI 0) = 1) ∧ Q (nI 0) w4))) ∧ (¬ (nI 0) = 0 → ∃ Q7 : Int32 → Wd → Prop, EvI m_Reader_readNumber d [.ref 24, .int (nI 1), .int (nI 100)] w3 Q7 ∧ ∀ (r7 : Int32) (w7 : Wd), Q7 r7 w7 → ((¬ r7 = (-nI 1) → (((nI 0) = 0 → ∃ Q8 : Wd → Prop, EvV m_Book_addItem d [.ref 13, .int (nI 1), .int r7, .int x1] w7 Q8 ∧ ∀ w8 : Wd, Q8 w8 → ((nI 1) = 0 ∨ (nI 1) = 1) ∧ Q (nI 1) w8) ∧ (¬ (nI 0) = 0 → ∃ Q9 : Wd → Prop, EvV m_Book_addItem d [.ref 13, .int (nI 0), .int r7, .int x1] w7 Q9 ∧ ∀ w9 : Wd, Q9 w9 → ((nI 1) = 0 ∨ (nI 1) = 1) ∧ Q (nI 1) w9))) ∧ (r7 = (-nI 1) → ((nI 0) = 0 ∨ (nI 0) = 1) ∧ Q (nI 0) w7))))) ∧ (r1 = (-nI 13) → (((nI 1) = 0 → ∃ Q10 : Int32 → Wd → Prop, EvI m_Reader_readNumber d [.ref 24, .int (nI 0), .int (nI 9)] w3 Q10 ∧ ∀ (r10 : Int32) (w10 : Wd), Q10 r10 w10 → ((¬ r10 = (-nI 1) → (((nI 1) = 0 → ∃ Q11 : Wd → Prop, EvV m_Book_addItem d [.ref 13, .int (nI 1), .int r10, .int x1] w10 Q11 ∧ ∀ w11 : Wd, Q11 w11 → ((nI 1) = 0 ∨ (nI 1) = 1) ∧ Q (nI 1) w11) ∧ (¬ (nI 1) = 0 → ∃ Q12 : Wd → Prop, EvV m_Book_addItem d [.ref 13, .int (nI 0), .int r10, .int x1] w10 Q12 ∧ ∀ w12 : Wd, Q12 w12 → ((nI 1) = 0 ∨ (nI 1) = 1) ∧ Q (nI 1) w12))) ∧ (r10 = (-nI 1) → ((nI 0) = 0 ∨ (nI 0) = 1) ∧ Q (nI 0) w10))) ∧ (¬ (nI 1) = 0 → ∃ Q13 : Int32 → Wd → Prop, EvI m_Reader_readNumber d [.ref 24, .int (nI 1), .int (nI 100)] w3 Q13 ∧ ∀ (r13 : Int32) (w13 : Wd), Q13 r13 w13 → ((¬ r13 = (-nI 1) → (((nI 1) = 0 → ∃ Q14 : Wd → Prop, EvV m_Book_addItem d [.ref 13, .int (nI 1), .int r13, .int x1] w13 Q14 ∧ ∀ w14 : Wd, Q14 w14 → ((nI 1) = 0 ∨ (nI 1) = 1) ∧ Q (nI 1) w14) ∧ (¬ (nI 1) = 0 → ∃ Q15 : Wd → Prop, EvV m_Book_addItem d [.ref 13, .int (nI 0), .int r13, .int x1] w13 Q15 ∧ ∀ w15 : Wd, Q15 w15 → ((nI 1) = 0 ∨ (nI 1) = 1) ∧ Q (nI 1) w15))) ∧ (r13 = (-nI 1) → ((nI 0) = 0 ∨ (nI 0) = 1) ∧ Q (nI 0) w13))))))) ∧ (r1 = (-nI 15) → ∃ Q16 : Wd → Prop, EvV m_Book_addItem d [.ref 13, .int (nI 2), .int (nI 0), .int x1] w3 Q16 ∧ ∀ w16 : Wd, Q16 w16 → ((nI 1) = 0 ∨ (nI 1) = 1) ∧ Q (nI 1) w16))) ∧ (r2 = 0 → ∃ Q17 : Int32 → Wd → Prop, EvI m_Reader_fail d [.ref 24, .int (nI 1)] w2 Q17 ∧ ∀ (r17 : Int32) (w17 : Wd), Q17 r17 w17 → (r17 = 0 ∨ r17 = 1) ∧ Q r17 w17))) : Z m_Reader_readSpec (d + 1) (qI Q) 0 [(0, .ref 24), (1, .int x1)] [] w := wp_ok (P := P_Reader_readSpec) (S := S_Reader_readSpec) rfl pr_Reader_readSpec 42 _ _ _ _ h
def P_Reader_readBar : Prog := [(0, .aload_n 0), (1, .getfield 21), (4, .invokevirtual 99), (7, .bipush 10), (9, .if_icmp .lt 10), (12, .aload_n 0), (13, .iconst 5), (14, .invokevirtual 59), (17, .pop), (18, .return_), (19, .aload_n 0), (20, .getfield 12), (23, .invokevirtual 66), (26, .aload_n 0), (27, .iconst 1), (28, .bipush 100), (30, .invokevirtual 69), (33, .istore_n 1), (34, .iload_n 1), (35, .iconst (-1)), (36, .if_icmp .eq 20), (39, .aload_n 0), (40, .bipush (-5)), (42, .invokevirtual 73), (45, .ifCond .eq 11), (48, .aload_n 0), (49, .getfield 21), (52, .iload_n 1), (53, .invokevirtual 102), (56, .return_)]
theorem pr_Reader_readBar : prOK m_Reader_readBar P_Reader_readBar = true := by decide +kernel
def S_Reader_readBar : List (Nat × List Nat) := []
theorem ev_Reader_readBar {d : Nat} {w : Wd} {Q : Wd → Prop}  (h : Z m_Reader_readBar d (qV Q) 0 [(0, .ref 24)] [] w) : EvV m_Reader_readBar d [.ref 24] w Q := Ev.ofZ (by decide +kernel) (Nat.le_of_ble_eq_true rfl) h
set_option maxRecDepth 20000 in
set_option maxHeartbeats 1000000 in
theorem vc_Reader_readBar_0 {d : Nat} {w : Wd} {Q : Wd → Prop}  (h : ∃ Q1 : Int32 → Wd → Prop, EvI m_Book_bars d [.ref 13] w Q1 ∧ ∀ (r1 : Int32) (w1 : Wd), Q1 r1 w1 → ((r1 < (nI 10) → ∃ Q2 : Wd → Prop, EvV m_Tokens_advance d [.ref 10] w1 Q2 ∧ ∀ w2 : Wd, Q2 w2 → ∃ Q3 : Int32 → Wd → Prop, EvI m_Reader_readNumber d [.ref 24, .int (nI 1), .int (nI 100)] w2 Q3 ∧ ∀ (r3 : Int32) (w3 : Wd), Q3 r3 w3 → ((r3 = (-nI 1) → Q w3) ∧ (¬ r3 = (-nI 1) → ∃ Q4 : Int32 → Wd → Prop, EvI m_Reader_readSign d [.ref 24, .int (-nI 5)] w3 Q4 ∧ ∀ (r4 : Int32) (w4 : Wd), Q4 r4 w4 → ((r4 = 0 → Q w4) ∧ (¬ r4 = 0 → ∃ Q5 : Wd → Prop, EvV m_Book_addBar d [.ref 13, .int r3] w4 Q5 ∧ ∀ w5 : Wd, Q5 w5 → Q w5))))) ∧ (¬ r1 < (nI 10) → ∃ Q6 : Int32 → Wd → Prop, EvI m_Reader_fail d [.ref 24, .int (nI 5)] w1 Q6 ∧ ∀ (r6 : Int32) (w6 : Wd), Q6 r6 w6 → Q w6))) : Z m_Reader_readBar (d + 1) (qV Q) 0 [(0, .ref 24)] [] w := wp_ok (P := P_Reader_readBar) (S := S_Reader_readBar) rfl pr_Reader_readBar 26 _ _ _ _ h
def P_Reader_readChain : Prog := [(0, .aload_n 0), (1, .getfield 21), (4, .invokevirtual 105), (7, .bipush 6), (9, .if_icmp .lt 10), (12, .aload_n 0), (13, .iconst 5), (14, .invokevirtual 59), (17, .pop), (18, .return_), (19, .aload_n 0), (20, .getfield 12), (23, .invokevirtual 66), (26, .aload_n 0), (27, .iconst 0), (28, .bipush 9), (30, .invokevirtual 69), (33, .istore_n 1), (34, .iload_n 1), (35, .iconst (-1)), (36, .if_icmp .eq 12), (39, .aload_n 0), (40, .bipush (-4)), (42, .invokevirtual 73), (45, .ifCond .ne 4), (48, .return_), (49, .aload_n 0), (50, .iconst 0), (51, .bipush 9), (53, .invokevirtual 69), (56, .istore_n 2), (57, .iload_n 2), (58, .iconst (-1)), (59, .if_icmp .ne 4), (62, .return_), (63, .aload_n 0), (64, .iconst 0), (65, .bipush 9), (67, .invokevirtual 69), (70, .istore_n 3), (71, .iload_n 3), (72, .iconst (-1)), (73, .if_icmp .eq 22), (76, .aload_n 0), (77, .bipush (-5)), (79, .invokevirtual 73), (82, .ifCond .eq 13), (85, .aload_n 0), (86, .getfield 21), (89, .iload_n 1), (90, .iload_n 2), (91, .iload_n 3), (92, .invokevirtual 108), (95, .return_)]
theorem pr_Reader_readChain : prOK m_Reader_readChain P_Reader_readChain = true := by decide +kernel
def S_Reader_readChain : List (Nat × List Nat) := []
theorem ev_Reader_readChain {d : Nat} {w : Wd} {Q : Wd → Prop}  (h : Z m_Reader_readChain d (qV Q) 0 [(0, .ref 24)] [] w) : EvV m_Reader_readChain d [.ref 24] w Q := Ev.ofZ (by decide +kernel) (Nat.le_of_ble_eq_true rfl) h
set_option maxRecDepth 20000 in
set_option maxHeartbeats 1000000 in
theorem vc_Reader_readChain_0 {d : Nat} {w : Wd} {Q : Wd → Prop}  (h : ∃ Q1 : Int32 → Wd → Prop, EvI m_Book_chains d [.ref 13] w Q1 ∧ ∀ (r1 : Int32) (w1 : Wd), Q1 r1 w1 → ((r1 < (nI 6) → ∃ Q2 : Wd → Prop, EvV m_Tokens_advance d [.ref 10] w1 Q2 ∧ ∀ w2 : Wd, Q2 w2 → ∃ Q3 : Int32 → Wd → Prop, EvI m_Reader_readNumber d [.ref 24, .int (nI 0), .int (nI 9)] w2 Q3 ∧ ∀ (r3 : Int32) (w3 : Wd), Q3 r3 w3 → ((r3 = (-nI 1) → Q w3) ∧ (¬ r3 = (-nI 1) → ∃ Q4 : Int32 → Wd → Prop, EvI m_Reader_readSign d [.ref 24, .int (-nI 4)] w3 Q4 ∧ ∀ (r4 : Int32) (w4 : Wd), Q4 r4 w4 → ((¬ r4 = 0 → ∃ Q5 : Int32 → Wd → Prop, EvI m_Reader_readNumber d [.ref 24, .int (nI 0), .int (nI 9)] w4 Q5 ∧ ∀ (r5 : Int32) (w5 : Wd), Q5 r5 w5 → ((¬ r5 = (-nI 1) → ∃ Q6 : Int32 → Wd → Prop, EvI m_Reader_readNumber d [.ref 24, .int (nI 0), .int (nI 9)] w5 Q6 ∧ ∀ (r6 : Int32) (w6 : Wd), Q6 r6 w6 → ((r6 = (-nI 1) → Q w6) ∧ (¬ r6 = (-nI 1) → ∃ Q7 : Int32 → Wd → Prop, EvI m_Reader_readSign d [.ref 24, .int (-nI 5)] w6 Q7 ∧ ∀ (r7 : Int32) (w7 : Wd), Q7 r7 w7 → ((r7 = 0 → Q w7) ∧ (¬ r7 = 0 → ∃ Q8 : Wd → Prop, EvV m_Book_addChain d [.ref 13, .int r3, .int r5, .int r6] w7 Q8 ∧ ∀ w8 : Wd, Q8 w8 → Q w8))))) ∧ (r5 = (-nI 1) → Q w5))) ∧ (r4 = 0 → Q w4))))) ∧ (¬ r1 < (nI 6) → ∃ Q9 : Int32 → Wd → Prop, EvI m_Reader_fail d [.ref 24, .int (nI 5)] w1 Q9 ∧ ∀ (r9 : Int32) (w9 : Wd), Q9 r9 w9 → Q w9))) : Z m_Reader_readChain (d + 1) (qV Q) 0 [(0, .ref 24)] [] w := wp_ok (P := P_Reader_readChain) (S := S_Reader_readChain) rfl pr_Reader_readChain 48 _ _ _ _ h
def P_Reader_readSingle : Prog := [(0, .aload_n 0), (1, .getfield 12), (4, .invokevirtual 66), (7, .aload_n 0), (8, .iconst 0), (9, .bipush 9), (11, .invokevirtual 69), (14, .istore_n 1), (15, .iload_n 1), (16, .iconst (-1)), (17, .if_icmp .eq 20), (20, .aload_n 0), (21, .bipush (-5)), (23, .invokevirtual 73), (26, .ifCond .eq 11), (29, .aload_n 0), (30, .getfield 21), (33, .iload_n 1), (34, .invokevirtual 111), (37, .return_)]
theorem pr_Reader_readSingle : prOK m_Reader_readSingle P_Reader_readSingle = true := by decide +kernel
def S_Reader_readSingle : List (Nat × List Nat) := []
theorem ev_Reader_readSingle {d : Nat} {w : Wd} {Q : Wd → Prop}  (h : Z m_Reader_readSingle d (qV Q) 0 [(0, .ref 24)] [] w) : EvV m_Reader_readSingle d [.ref 24] w Q := Ev.ofZ (by decide +kernel) (Nat.le_of_ble_eq_true rfl) h
set_option maxRecDepth 20000 in
set_option maxHeartbeats 1000000 in
theorem vc_Reader_readSingle_0 {d : Nat} {w : Wd} {Q : Wd → Prop}  (h : ∃ Q1 : Wd → Prop, EvV m_Tokens_advance d [.ref 10] w Q1 ∧ ∀ w1 : Wd, Q1 w1 → ∃ Q2 : Int32 → Wd → Prop, EvI m_Reader_readNumber d [.ref 24, .int (nI 0), .int (nI 9)] w1 Q2 ∧ ∀ (r2 : Int32) (w2 : Wd), Q2 r2 w2 → ((r2 = (-nI 1) → Q w2) ∧ (¬ r2 = (-nI 1) → ∃ Q3 : Int32 → Wd → Prop, EvI m_Reader_readSign d [.ref 24, .int (-nI 5)] w2 Q3 ∧ ∀ (r3 : Int32) (w3 : Wd), Q3 r3 w3 → ((r3 = 0 → Q w3) ∧ (¬ r3 = 0 → ∃ Q4 : Wd → Prop, EvV m_Book_addSingle d [.ref 13, .int r2] w3 Q4 ∧ ∀ w4 : Wd, Q4 w4 → Q w4))))) : Z m_Reader_readSingle (d + 1) (qV Q) 0 [(0, .ref 24)] [] w := wp_ok (P := P_Reader_readSingle) (S := S_Reader_readSingle) rfl pr_Reader_readSingle 21 _ _ _ _ h
def P_Reader_readNumber : Prog := [(0, .aload_n 0), (1, .getfield 12), (4, .invokevirtual 43), (7, .istore_n 3), (8, .iload_n 3), (9, .ifCond .ge 11), (12, .aload_n 0), (13, .iconst 1), (14, .invokevirtual 59), (17, .pop), (18, .iconst (-1)), (19, .ireturn), (20, .iload_n 3), (21, .iload_n 1), (22, .if_icmp .lt 8), (25, .iload_n 3), (26, .iload_n 2), (27, .if_icmp .le 11), (30, .aload_n 0), (31, .iconst 4), (32, .invokevirtual 59), (35, .pop), (36, .iconst (-1)), (37, .ireturn), (38, .aload_n 0), (39, .getfield 12), (42, .invokevirtual 66), (45, .iload_n 3), (46, .ireturn)]
theorem pr_Reader_readNumber : prOK m_Reader_readNumber P_Reader_readNumber = true := by decide +kernel
def S_Reader_readNumber : List (Nat × List Nat) := []
theorem ev_Reader_readNumber {d : Nat} {w : Wd} {Q : Int32 → Wd → Prop} (x1 : Int32) (x2 : Int32) (h : Z m_Reader_readNumber d (qI Q) 0 [(0, .ref 24), (1, .int x1), (2, .int x2)] [] w) : EvI m_Reader_readNumber d [.ref 24, .int x1, .int x2] w Q := Ev.ofZ (by decide +kernel) (Nat.le_of_ble_eq_true rfl) h
set_option maxRecDepth 20000 in
set_option maxHeartbeats 1000000 in
theorem vc_Reader_readNumber_0 {d : Nat} {w : Wd} {Q : Int32 → Wd → Prop} (x1 : Int32) (x2 : Int32) (h : ∃ Q1 : Int32 → Wd → Prop, EvI m_Tokens_code d [.ref 10] w Q1 ∧ ∀ (r1 : Int32) (w1 : Wd), Q1 r1 w1 → ((0 ≤ r1 → ((r1 < x1 → ∃ Q2 : Int32 → Wd → Prop, EvI m_Reader_fail d [.ref 24, .int (nI 4)] w1 Q2 ∧ ∀ (r2 : Int32) (w2 : Wd), Q2 r2 w2 → Q (-nI 1) w2) ∧ (¬ r1 < x1 → ((r1 ≤ x2 → ∃ Q3 : Wd → Prop, EvV m_Tokens_advance d [.ref 10] w1 Q3 ∧ ∀ w3 : Wd, Q3 w3 → Q r1 w3) ∧ (¬ r1 ≤ x2 → ∃ Q4 : Int32 → Wd → Prop, EvI m_Reader_fail d [.ref 24, .int (nI 4)] w1 Q4 ∧ ∀ (r4 : Int32) (w4 : Wd), Q4 r4 w4 → Q (-nI 1) w4))))) ∧ (¬ 0 ≤ r1 → ∃ Q5 : Int32 → Wd → Prop, EvI m_Reader_fail d [.ref 24, .int (nI 1)] w1 Q5 ∧ ∀ (r5 : Int32) (w5 : Wd), Q5 r5 w5 → Q (-nI 1) w5))) : Z m_Reader_readNumber (d + 1) (qI Q) 0 [(0, .ref 24), (1, .int x1), (2, .int x2)] [] w := wp_ok (P := P_Reader_readNumber) (S := S_Reader_readNumber) rfl pr_Reader_readNumber 19 _ _ _ _ h
def P_Reader_readSign : Prog := [(0, .aload_n 0), (1, .getfield 12), (4, .invokevirtual 43), (7, .iload_n 1), (8, .if_icmp .eq 9), (11, .aload_n 0), (12, .iconst 1), (13, .invokevirtual 59), (16, .ireturn), (17, .aload_n 0), (18, .getfield 12), (21, .invokevirtual 66), (24, .iconst 1), (25, .ireturn)]
theorem pr_Reader_readSign : prOK m_Reader_readSign P_Reader_readSign = true := by decide +kernel
def S_Reader_readSign : List (Nat × List Nat) := []
theorem ev_Reader_readSign {d : Nat} {w : Wd} {Q : Int32 → Wd → Prop} (x1 : Int32) (h : Z m_Reader_readSign d (qI Q) 0 [(0, .ref 24), (1, .int x1)] [] w) : EvI m_Reader_readSign d [.ref 24, .int x1] w Q := Ev.ofZ (by decide +kernel) (Nat.le_of_ble_eq_true rfl) h
set_option maxRecDepth 20000 in
set_option maxHeartbeats 1000000 in
theorem vc_Reader_readSign_0 {d : Nat} {w : Wd} {Q : Int32 → Wd → Prop} (x1 : Int32) (h : ∃ Q1 : Int32 → Wd → Prop, EvI m_Tokens_code d [.ref 10] w Q1 ∧ ∀ (r1 : Int32) (w1 : Wd), Q1 r1 w1 → ((r1 = x1 → ∃ Q2 : Wd → Prop, EvV m_Tokens_advance d [.ref 10] w1 Q2 ∧ ∀ w2 : Wd, Q2 w2 → ((nI 1) = 0 ∨ (nI 1) = 1) ∧ Q (nI 1) w2) ∧ (¬ r1 = x1 → ∃ Q3 : Int32 → Wd → Prop, EvI m_Reader_fail d [.ref 24, .int (nI 1)] w1 Q3 ∧ ∀ (r3 : Int32) (w3 : Wd), Q3 r3 w3 → (r3 = 0 ∨ r3 = 1) ∧ Q r3 w3))) : Z m_Reader_readSign (d + 1) (qI Q) 0 [(0, .ref 24), (1, .int x1)] [] w := wp_ok (P := P_Reader_readSign) (S := S_Reader_readSign) rfl pr_Reader_readSign 11 _ _ _ _ h
def P_Reader_fail : Prog := [(0, .aload_n 0), (1, .iload_n 1), (2, .bipush 16), (4, .aload_n 0), (5, .getfield 12), (8, .invokevirtual 114), (11, .imul), (12, .iadd), (13, .putfield 39), (16, .iconst 0), (17, .ireturn)]
theorem pr_Reader_fail : prOK m_Reader_fail P_Reader_fail = true := by decide +kernel
def S_Reader_fail : List (Nat × List Nat) := []
theorem ev_Reader_fail {d : Nat} {w : Wd} {Q : Int32 → Wd → Prop} (x1 : Int32) (h : Z m_Reader_fail d (qI Q) 0 [(0, .ref 24), (1, .int x1)] [] w) : EvI m_Reader_fail d [.ref 24, .int x1] w Q := Ev.ofZ (by decide +kernel) (Nat.le_of_ble_eq_true rfl) h
set_option maxRecDepth 20000 in
set_option maxHeartbeats 1000000 in
theorem vc_Reader_fail_0 {d : Nat} {w : Wd} {Q : Int32 → Wd → Prop} (x1 : Int32) (h : ∃ Q1 : Int32 → Wd → Prop, EvI m_Tokens_place d [.ref 10] w Q1 ∧ ∀ (r1 : Int32) (w1 : Wd), Q1 r1 w1 → ((nI 0) = 0 ∨ (nI 0) = 1) ∧ Q (nI 0) (up1 w1 24 3 (x1 + ((nI 16) * r1)))) : Z m_Reader_fail (d + 1) (qI Q) 0 [(0, .ref 24), (1, .int x1)] [] w := wp_ok (P := P_Reader_fail) (S := S_Reader_fail) rfl pr_Reader_fail 12 _ _ _ _ h
def P_Finder_forget : Prog := [(0, .iload_n 1), (1, .ifCond .lt 16), (4, .iload_n 1), (5, .bipush 40), (7, .if_icmp .ge 10), (10, .aload_n 0), (11, .getfield 22), (14, .iload_n 1), (15, .iconst 1), (16, .bastore), (17, .return_)]
theorem pr_Finder_forget : prOK m_Finder_forget P_Finder_forget = true := by decide +kernel
def S_Finder_forget : List (Nat × List Nat) := []
theorem ev_Finder_forget {d : Nat} {w : Wd} {Q : Wd → Prop} (x1 : Int32) (h : Z m_Finder_forget d (qV Q) 0 [(0, .ref 36), (1, .int x1)] [] w) : EvV m_Finder_forget d [.ref 36, .int x1] w Q := Ev.ofZ (by decide +kernel) (Nat.le_of_ble_eq_true rfl) h
set_option maxRecDepth 20000 in
set_option maxHeartbeats 1000000 in
theorem vc_Finder_forget_0 {d : Nat} {w : Wd} {Q : Wd → Prop} (x1 : Int32) (h : ((x1 < 0 → Q w) ∧ (¬ x1 < 0 → (((nI 40) ≤ x1 → Q w) ∧ (¬ (nI 40) ≤ x1 → ∃ j1 : Nat, x1 = nI j1 ∧ j1 < 40 ∧ ((nI 1) = 0 ∨ (nI 1) = 1) ∧ Q (up1 w 40 j1 (nI 1))))))) : Z m_Finder_forget d (qV Q) 0 [(0, .ref 36), (1, .int x1)] [] w := wp_ok (P := P_Finder_forget) (S := S_Finder_forget) rfl pr_Finder_forget 12 _ _ _ _ h
def P_Finder_forgetThoseWith : Prog := [(0, .iconst 0), (1, .istore_n 2), (2, .iload_n 2), (3, .aload_n 0), (4, .getfield 32), (7, .invokevirtual 40), (10, .if_icmp .ge 68), (13, .iload_n 2), (14, .bipush 40), (16, .if_icmp .ge 62), (19, .iconst 0), (20, .istore_n 3), (21, .iload_n 3), (22, .aload_n 0), (23, .getfield 32), (26, .iload_n 2), (27, .invokevirtual 46), (30, .if_icmp .ge 42), (33, .aload_n 0), (34, .getfield 22), (37, .iload_n 2), (38, .baload), (39, .ifCond .ne 33), (42, .aload_n 0), (43, .getfield 22), (46, .iload_n 2), (47, .aload_n 0), (48, .getfield 32), (51, .iload_n 2), (52, .iload_n 3), (53, .invokevirtual 50), (56, .iload_n 1), (57, .if_icmp .ne 7), (60, .iconst 1), (61, .goto 4), (64, .iconst 0), (65, .bastore), (66, .iinc 3 1), (69, .goto (-48)), (72, .iinc 2 1), (75, .goto (-73)), (78, .return_)]
theorem pr_Finder_forgetThoseWith : prOK m_Finder_forgetThoseWith P_Finder_forgetThoseWith = true := by decide +kernel
def S_Finder_forgetThoseWith : List (Nat × List Nat) := [(2, [0, 1, 2]), (21, [0, 1, 2, 3])]
theorem ev_Finder_forgetThoseWith {d : Nat} {w : Wd} {Q : Wd → Prop} (x1 : Int32) (h : Z m_Finder_forgetThoseWith d (qV Q) 0 [(0, .ref 36), (1, .int x1)] [] w) : EvV m_Finder_forgetThoseWith d [.ref 36, .int x1] w Q := Ev.ofZ (by decide +kernel) (Nat.le_of_ble_eq_true rfl) h
set_option maxRecDepth 20000 in
set_option maxHeartbeats 1000000 in
theorem vc_Finder_forgetThoseWith_0 {d : Nat} {w : Wd} {Q : Wd → Prop} (x1 : Int32) (h : Z m_Finder_forgetThoseWith (d + 1) (qV Q) 2 [(0, .ref 36), (1, .int x1), (2, .int (nI 0))] [] w) : Z m_Finder_forgetThoseWith (d + 1) (qV Q) 0 [(0, .ref 36), (1, .int x1)] [] w := wp_ok (P := P_Finder_forgetThoseWith) (S := S_Finder_forgetThoseWith) rfl pr_Finder_forgetThoseWith 3 _ _ _ _ h
set_option maxRecDepth 20000 in
set_option maxHeartbeats 1000000 in
theorem vc_Finder_forgetThoseWith_2 {d : Nat} {w : Wd} {Q : Wd → Prop} (x1 : Int32) (x2 : Int32) (h : ∃ Q1 : Int32 → Wd → Prop, EvI m_Sentences_came d [.ref 3] w Q1 ∧ ∀ (r1 : Int32) (w1 : Wd), Q1 r1 w1 → ((r1 ≤ x2 → Q w1) ∧ (¬ r1 ≤ x2 → (((nI 40) ≤ x2 → Q w1) ∧ (¬ (nI 40) ≤ x2 → Z m_Finder_forgetThoseWith (d + 1) (qV Q) 21 [(0, .ref 36), (1, .int x1), (2, .int x2), (3, .int (nI 0))] [] w1))))) : Z m_Finder_forgetThoseWith (d + 1) (qV Q) 2 [(0, .ref 36), (1, .int x1), (2, .int x2)] [] w := wp_ok (P := P_Finder_forgetThoseWith) (S := S_Finder_forgetThoseWith) rfl pr_Finder_forgetThoseWith 11 _ _ _ _ h
set_option maxRecDepth 20000 in
set_option maxHeartbeats 1000000 in
theorem vc_Finder_forgetThoseWith_21 {d : Nat} {w : Wd} {Q : Wd → Prop} (x1 : Int32) (x2 : Int32) (x3 : Int32) (h : ∃ Q1 : Int32 → Wd → Prop, EvI m_Sentences_lengthOf d [.ref 3, .int x2] w Q1 ∧ ∀ (r1 : Int32) (w1 : Wd), Q1 r1 w1 → ((r1 ≤ x3 → Z m_Finder_forgetThoseWith (d + 1) (qV Q) 2 [(0, .ref 36), (1, .int x1), (2, .int (x2 + nI 1))] [] w1) ∧ (¬ r1 ≤ x3 → ∃ j1 : Nat, x2 = nI j1 ∧ j1 < 40 ∧ ((¬ (w1.1 40 j1) = 0 → Z m_Finder_forgetThoseWith (d + 1) (qV Q) 2 [(0, .ref 36), (1, .int x1), (2, .int (x2 + nI 1))] [] w1) ∧ ((w1.1 40 j1) = 0 → ∃ Q2 : Int32 → Wd → Prop, EvI m_Sentences_wordAt d [.ref 3, .int x2, .int x3] w1 Q2 ∧ ∀ (r2 : Int32) (w2 : Wd), Q2 r2 w2 → ((¬ r2 = x1 → ∃ j2 : Nat, x2 = nI j2 ∧ j2 < 40 ∧ ((nI 0) = 0 ∨ (nI 0) = 1) ∧ Z m_Finder_forgetThoseWith (d + 1) (qV Q) 21 [(0, .ref 36), (1, .int x1), (2, .int x2), (3, .int (x3 + nI 1))] [] (up1 w2 40 j2 (nI 0))) ∧ (r2 = x1 → ∃ j3 : Nat, x2 = nI j3 ∧ j3 < 40 ∧ ((nI 1) = 0 ∨ (nI 1) = 1) ∧ Z m_Finder_forgetThoseWith (d + 1) (qV Q) 21 [(0, .ref 36), (1, .int x1), (2, .int x2), (3, .int (x3 + nI 1))] [] (up1 w2 40 j3 (nI 1))))))))) : Z m_Finder_forgetThoseWith (d + 1) (qV Q) 21 [(0, .ref 36), (1, .int x1), (2, .int x2), (3, .int x3)] [] w := wp_ok (P := P_Finder_forgetThoseWith) (S := S_Finder_forgetThoseWith) rfl pr_Finder_forgetThoseWith 27 _ _ _ _ h
def P_Finder_forgetAll : Prog := [(0, .iconst 0), (1, .istore_n 1), (2, .iload_n 1), (3, .bipush 40), (5, .if_icmp .ge 16), (8, .aload_n 0), (9, .getfield 22), (12, .iload_n 1), (13, .iconst 1), (14, .bastore), (15, .iinc 1 1), (18, .goto (-16)), (21, .return_)]
theorem pr_Finder_forgetAll : prOK m_Finder_forgetAll P_Finder_forgetAll = true := by decide +kernel
def S_Finder_forgetAll : List (Nat × List Nat) := [(2, [0, 1])]
theorem ev_Finder_forgetAll {d : Nat} {w : Wd} {Q : Wd → Prop}  (h : Z m_Finder_forgetAll d (qV Q) 0 [(0, .ref 36)] [] w) : EvV m_Finder_forgetAll d [.ref 36] w Q := Ev.ofZ (by decide +kernel) (Nat.le_of_ble_eq_true rfl) h
set_option maxRecDepth 20000 in
set_option maxHeartbeats 1000000 in
theorem vc_Finder_forgetAll_0 {d : Nat} {w : Wd} {Q : Wd → Prop}  (h : Z m_Finder_forgetAll d (qV Q) 2 [(0, .ref 36), (1, .int (nI 0))] [] w) : Z m_Finder_forgetAll d (qV Q) 0 [(0, .ref 36)] [] w := wp_ok (P := P_Finder_forgetAll) (S := S_Finder_forgetAll) rfl pr_Finder_forgetAll 3 _ _ _ _ h
set_option maxRecDepth 20000 in
set_option maxHeartbeats 1000000 in
theorem vc_Finder_forgetAll_2 {d : Nat} {w : Wd} {Q : Wd → Prop} (x1 : Int32) (h : (((nI 40) ≤ x1 → Q w) ∧ (¬ (nI 40) ≤ x1 → ∃ j1 : Nat, x1 = nI j1 ∧ j1 < 40 ∧ ((nI 1) = 0 ∨ (nI 1) = 1) ∧ Z m_Finder_forgetAll d (qV Q) 2 [(0, .ref 36), (1, .int (x1 + nI 1))] [] (up1 w 40 j1 (nI 1))))) : Z m_Finder_forgetAll d (qV Q) 2 [(0, .ref 36), (1, .int x1)] [] w := wp_ok (P := P_Finder_forgetAll) (S := S_Finder_forgetAll) rfl pr_Finder_forgetAll 11 _ _ _ _ h
def P_Finder_refresh : Prog := [(0, .iconst 0), (1, .istore_n 1), (2, .iload_n 1), (3, .aload_n 0), (4, .getfield 32), (7, .invokevirtual 40), (10, .if_icmp .ge 36), (13, .iload_n 1), (14, .bipush 40), (16, .if_icmp .ge 30), (19, .aload_n 0), (20, .getfield 22), (23, .iload_n 1), (24, .baload), (25, .ifCond .eq 15), (28, .aload_n 0), (29, .iload_n 1), (30, .invokevirtual 54), (33, .aload_n 0), (34, .getfield 22), (37, .iload_n 1), (38, .iconst 0), (39, .bastore), (40, .iinc 1 1), (43, .goto (-41)), (46, .return_)]
theorem pr_Finder_refresh : prOK m_Finder_refresh P_Finder_refresh = true := by decide +kernel
def S_Finder_refresh : List (Nat × List Nat) := [(2, [0, 1])]
theorem ev_Finder_refresh {d : Nat} {w : Wd} {Q : Wd → Prop}  (h : Z m_Finder_refresh d (qV Q) 0 [(0, .ref 36)] [] w) : EvV m_Finder_refresh d [.ref 36] w Q := Ev.ofZ (by decide +kernel) (Nat.le_of_ble_eq_true rfl) h
set_option maxRecDepth 20000 in
set_option maxHeartbeats 1000000 in
theorem vc_Finder_refresh_0 {d : Nat} {w : Wd} {Q : Wd → Prop}  (h : Z m_Finder_refresh (d + 1) (qV Q) 2 [(0, .ref 36), (1, .int (nI 0))] [] w) : Z m_Finder_refresh (d + 1) (qV Q) 0 [(0, .ref 36)] [] w := wp_ok (P := P_Finder_refresh) (S := S_Finder_refresh) rfl pr_Finder_refresh 3 _ _ _ _ h
set_option maxRecDepth 20000 in
set_option maxHeartbeats 1000000 in
theorem vc_Finder_refresh_2 {d : Nat} {w : Wd} {Q : Wd → Prop} (x1 : Int32) (h : ∃ Q1 : Int32 → Wd → Prop, EvI m_Sentences_came d [.ref 3] w Q1 ∧ ∀ (r1 : Int32) (w1 : Wd), Q1 r1 w1 → ((r1 ≤ x1 → Q w1) ∧ (¬ r1 ≤ x1 → (((nI 40) ≤ x1 → Q w1) ∧ (¬ (nI 40) ≤ x1 → ∃ j1 : Nat, x1 = nI j1 ∧ j1 < 40 ∧ (((w1.1 40 j1) = 0 → Z m_Finder_refresh (d + 1) (qV Q) 2 [(0, .ref 36), (1, .int (x1 + nI 1))] [] w1) ∧ (¬ (w1.1 40 j1) = 0 → ∃ Q2 : Wd → Prop, EvV m_Finder_drawSentence d [.ref 36, .int x1] w1 Q2 ∧ ∀ w2 : Wd, Q2 w2 → ∃ j2 : Nat, x1 = nI j2 ∧ j2 < 40 ∧ ((nI 0) = 0 ∨ (nI 0) = 1) ∧ Z m_Finder_refresh (d + 1) (qV Q) 2 [(0, .ref 36), (1, .int (x1 + nI 1))] [] (up1 w2 40 j2 (nI 0))))))))) : Z m_Finder_refresh (d + 1) (qV Q) 2 [(0, .ref 36), (1, .int x1)] [] w := wp_ok (P := P_Finder_refresh) (S := S_Finder_refresh) rfl pr_Finder_refresh 24 _ _ _ _ h
def P_Finder_drawSentence : Prog := [(0, .aload_n 0), (1, .iload_n 1), (2, .invokevirtual 58), (5, .aload_n 0), (6, .getfield 32), (9, .iload_n 1), (10, .invokevirtual 61), (13, .ifCond .ne 4), (16, .return_), (17, .aload_n 0), (18, .getfield 18), (21, .iload_n 1), (22, .aload_n 0), (23, .iload_n 1), (24, .invokevirtual 65), (27, .bastore), (28, .iconst 0), (29, .istore_n 2), (30, .iload_n 2), (31, .aload_n 0), (32, .getfield 36), (35, .invokevirtual 68), (38, .if_icmp .ge 38), (41, .iload_n 2), (42, .bipush 12), (44, .if_icmp .ge 32), (47, .aload_n 0), (48, .iload_n 1), (49, .iload_n 2), (50, .invokevirtual 73), (53, .aload_n 0), (54, .getfield 15), (57, .iload_n 1), (58, .bipush 12), (60, .imul), (61, .iload_n 2), (62, .iadd), (63, .aload_n 0), (64, .iload_n 1), (65, .iload_n 2), (66, .invokevirtual 77), (69, .iastore), (70, .iinc 2 1), (73, .goto (-43)), (76, .return_)]
theorem pr_Finder_drawSentence : prOK m_Finder_drawSentence P_Finder_drawSentence = true := by decide +kernel
def S_Finder_drawSentence : List (Nat × List Nat) := [(30, [0, 1, 2])]
theorem ev_Finder_drawSentence {d : Nat} {w : Wd} {Q : Wd → Prop} (x1 : Int32) (h : Z m_Finder_drawSentence d (qV Q) 0 [(0, .ref 36), (1, .int x1)] [] w) : EvV m_Finder_drawSentence d [.ref 36, .int x1] w Q := Ev.ofZ (by decide +kernel) (Nat.le_of_ble_eq_true rfl) h
set_option maxRecDepth 20000 in
set_option maxHeartbeats 1000000 in
theorem vc_Finder_drawSentence_0 {d : Nat} {w : Wd} {Q : Wd → Prop} (x1 : Int32) (h : ∃ Q1 : Wd → Prop, EvV m_Finder_clearSentence d [.ref 36, .int x1] w Q1 ∧ ∀ w1 : Wd, Q1 w1 → ∃ Q2 : Int32 → Wd → Prop, EvI m_Sentences_isThere d [.ref 3, .int x1] w1 Q2 ∧ ∀ (r2 : Int32) (w2 : Wd), Q2 r2 w2 → ((¬ r2 = 0 → ∃ Q3 : Int32 → Wd → Prop, EvI m_Finder_hasBarredWord d [.ref 36, .int x1] w2 Q3 ∧ ∀ (r3 : Int32) (w3 : Wd), Q3 r3 w3 → ∃ j1 : Nat, x1 = nI j1 ∧ j1 < 40 ∧ (r3 = 0 ∨ r3 = 1) ∧ Z m_Finder_drawSentence (d + 1) (qV Q) 30 [(0, .ref 36), (1, .int x1), (2, .int (nI 0))] [] (up1 w3 39 j1 r3)) ∧ (r2 = 0 → Q w2))) : Z m_Finder_drawSentence (d + 1) (qV Q) 0 [(0, .ref 36), (1, .int x1)] [] w := wp_ok (P := P_Finder_drawSentence) (S := S_Finder_drawSentence) rfl pr_Finder_drawSentence 18 _ _ _ _ h
set_option maxRecDepth 20000 in
set_option maxHeartbeats 1000000 in
theorem vc_Finder_drawSentence_30 {d : Nat} {w : Wd} {Q : Wd → Prop} (x1 : Int32) (x2 : Int32) (h : ∃ Q1 : Int32 → Wd → Prop, EvI m_Book_rules d [.ref 25] w Q1 ∧ ∀ (r1 : Int32) (w1 : Wd), Q1 r1 w1 → ((r1 ≤ x2 → Q w1) ∧ (¬ r1 ≤ x2 → (((nI 12) ≤ x2 → Q w1) ∧ (¬ (nI 12) ≤ x2 → ∃ Q2 : Wd → Prop, EvV m_Finder_drawRule d [.ref 36, .int x1, .int x2] w1 Q2 ∧ ∀ w2 : Wd, Q2 w2 → ∃ Q3 : Int32 → Wd → Prop, EvI m_Finder_countPairs d [.ref 36, .int x1, .int x2] w2 Q3 ∧ ∀ (r3 : Int32) (w3 : Wd), Q3 r3 w3 → ∃ j1 : Nat, ((x1 * (nI 12)) + x2) = nI j1 ∧ j1 < 480 ∧ Z m_Finder_drawSentence (d + 1) (qV Q) 30 [(0, .ref 36), (1, .int x1), (2, .int (x2 + nI 1))] [] (up1 w3 38 j1 r3)))))) : Z m_Finder_drawSentence (d + 1) (qV Q) 30 [(0, .ref 36), (1, .int x1), (2, .int x2)] [] w := wp_ok (P := P_Finder_drawSentence) (S := S_Finder_drawSentence) rfl pr_Finder_drawSentence 27 _ _ _ _ h
def P_Finder_clearSentence : Prog := [(0, .aload_n 0), (1, .getfield 18), (4, .iload_n 1), (5, .iconst 0), (6, .bastore), (7, .iconst 0), (8, .istore_n 2), (9, .iload_n 2), (10, .bipush 12), (12, .if_icmp .ge 66), (15, .iconst 0), (16, .istore_n 3), (17, .iload_n 3), (18, .bipush 16), (20, .if_icmp .ge 40), (23, .aload_n 0), (24, .getfield 15), (27, .iload_n 1), (28, .bipush 12), (30, .imul), (31, .iload_n 2), (32, .iadd), (33, .iaload), (34, .ifCond .le 26), (37, .aload_n 0), (38, .getfield 9), (41, .iload_n 1), (42, .bipush 12), (44, .imul), (45, .iload_n 2), (46, .iadd), (47, .bipush 16), (49, .imul), (50, .iload_n 3), (51, .iadd), (52, .iconst 0), (53, .iastore), (54, .iinc 3 1), (57, .goto (-40)), (60, .aload_n 0), (61, .getfield 15), (64, .iload_n 1), (65, .bipush 12), (67, .imul), (68, .iload_n 2), (69, .iadd), (70, .iconst 0), (71, .iastore), (72, .iinc 2 1), (75, .goto (-66)), (78, .return_)]
theorem pr_Finder_clearSentence : prOK m_Finder_clearSentence P_Finder_clearSentence = true := by decide +kernel
def S_Finder_clearSentence : List (Nat × List Nat) := [(9, [0, 1, 2]), (17, [0, 1, 2, 3])]
theorem ev_Finder_clearSentence {d : Nat} {w : Wd} {Q : Wd → Prop} (x1 : Int32) (h : Z m_Finder_clearSentence d (qV Q) 0 [(0, .ref 36), (1, .int x1)] [] w) : EvV m_Finder_clearSentence d [.ref 36, .int x1] w Q := Ev.ofZ (by decide +kernel) (Nat.le_of_ble_eq_true rfl) h
set_option maxRecDepth 20000 in
set_option maxHeartbeats 1000000 in
theorem vc_Finder_clearSentence_0 {d : Nat} {w : Wd} {Q : Wd → Prop} (x1 : Int32) (h : ∃ j1 : Nat, x1 = nI j1 ∧ j1 < 40 ∧ ((nI 0) = 0 ∨ (nI 0) = 1) ∧ Z m_Finder_clearSentence d (qV Q) 9 [(0, .ref 36), (1, .int x1), (2, .int (nI 0))] [] (up1 w 39 j1 (nI 0))) : Z m_Finder_clearSentence d (qV Q) 0 [(0, .ref 36), (1, .int x1)] [] w := wp_ok (P := P_Finder_clearSentence) (S := S_Finder_clearSentence) rfl pr_Finder_clearSentence 8 _ _ _ _ h
set_option maxRecDepth 20000 in
set_option maxHeartbeats 1000000 in
theorem vc_Finder_clearSentence_9 {d : Nat} {w : Wd} {Q : Wd → Prop} (x1 : Int32) (x2 : Int32) (h : (((nI 12) ≤ x2 → Q w) ∧ (¬ (nI 12) ≤ x2 → Z m_Finder_clearSentence d (qV Q) 17 [(0, .ref 36), (1, .int x1), (2, .int x2), (3, .int (nI 0))] [] w))) : Z m_Finder_clearSentence d (qV Q) 9 [(0, .ref 36), (1, .int x1), (2, .int x2)] [] w := wp_ok (P := P_Finder_clearSentence) (S := S_Finder_clearSentence) rfl pr_Finder_clearSentence 6 _ _ _ _ h
set_option maxRecDepth 20000 in
set_option maxHeartbeats 1000000 in
theorem vc_Finder_clearSentence_17 {d : Nat} {w : Wd} {Q : Wd → Prop} (x1 : Int32) (x2 : Int32) (x3 : Int32) (h : (((nI 16) ≤ x3 → ∃ j1 : Nat, ((x1 * (nI 12)) + x2) = nI j1 ∧ j1 < 480 ∧ Z m_Finder_clearSentence d (qV Q) 9 [(0, .ref 36), (1, .int x1), (2, .int (x2 + nI 1))] [] (up1 w 38 j1 (nI 0))) ∧ (¬ (nI 16) ≤ x3 → ∃ j2 : Nat, ((x1 * (nI 12)) + x2) = nI j2 ∧ j2 < 480 ∧ (((w.1 38 j2) ≤ 0 → ∃ j3 : Nat, ((x1 * (nI 12)) + x2) = nI j3 ∧ j3 < 480 ∧ Z m_Finder_clearSentence d (qV Q) 9 [(0, .ref 36), (1, .int x1), (2, .int (x2 + nI 1))] [] (up1 w 38 j3 (nI 0))) ∧ (¬ (w.1 38 j2) ≤ 0 → ∃ j4 : Nat, ((((x1 * (nI 12)) + x2) * (nI 16)) + x3) = nI j4 ∧ j4 < 7680 ∧ Z m_Finder_clearSentence d (qV Q) 17 [(0, .ref 36), (1, .int x1), (2, .int x2), (3, .int (x3 + nI 1))] [] (up1 w 37 j4 (nI 0))))))) : Z m_Finder_clearSentence d (qV Q) 17 [(0, .ref 36), (1, .int x1), (2, .int x2), (3, .int x3)] [] w := wp_ok (P := P_Finder_clearSentence) (S := S_Finder_clearSentence) rfl pr_Finder_clearSentence 28 _ _ _ _ h
def P_Finder_hasBarredWord : Prog := [(0, .iconst 0), (1, .istore_n 2), (2, .iload_n 2), (3, .aload_n 0), (4, .getfield 32), (7, .iload_n 1), (8, .invokevirtual 46), (11, .if_icmp .ge 30), (14, .aload_n 0), (15, .getfield 36), (18, .aload_n 0), (19, .getfield 32), (22, .iload_n 1), (23, .iload_n 2), (24, .invokevirtual 50), (27, .invokevirtual 80), (30, .ifCond .eq 5), (33, .iconst 1), (34, .ireturn), (35, .iinc 2 1), (38, .goto (-36)), (41, .iconst 0), (42, .ireturn)]
theorem pr_Finder_hasBarredWord : prOK m_Finder_hasBarredWord P_Finder_hasBarredWord = true := by decide +kernel
def S_Finder_hasBarredWord : List (Nat × List Nat) := [(2, [0, 1, 2])]
theorem ev_Finder_hasBarredWord {d : Nat} {w : Wd} {Q : Int32 → Wd → Prop} (x1 : Int32) (h : Z m_Finder_hasBarredWord d (qI Q) 0 [(0, .ref 36), (1, .int x1)] [] w) : EvI m_Finder_hasBarredWord d [.ref 36, .int x1] w Q := Ev.ofZ (by decide +kernel) (Nat.le_of_ble_eq_true rfl) h
set_option maxRecDepth 20000 in
set_option maxHeartbeats 1000000 in
theorem vc_Finder_hasBarredWord_0 {d : Nat} {w : Wd} {Q : Int32 → Wd → Prop} (x1 : Int32) (h : Z m_Finder_hasBarredWord (d + 1) (qI Q) 2 [(0, .ref 36), (1, .int x1), (2, .int (nI 0))] [] w) : Z m_Finder_hasBarredWord (d + 1) (qI Q) 0 [(0, .ref 36), (1, .int x1)] [] w := wp_ok (P := P_Finder_hasBarredWord) (S := S_Finder_hasBarredWord) rfl pr_Finder_hasBarredWord 3 _ _ _ _ h
set_option maxRecDepth 20000 in
set_option maxHeartbeats 1000000 in
theorem vc_Finder_hasBarredWord_2 {d : Nat} {w : Wd} {Q : Int32 → Wd → Prop} (x1 : Int32) (x2 : Int32) (h : ∃ Q1 : Int32 → Wd → Prop, EvI m_Sentences_lengthOf d [.ref 3, .int x1] w Q1 ∧ ∀ (r1 : Int32) (w1 : Wd), Q1 r1 w1 → ((r1 ≤ x2 → ((nI 0) = 0 ∨ (nI 0) = 1) ∧ Q (nI 0) w1) ∧ (¬ r1 ≤ x2 → ∃ Q2 : Int32 → Wd → Prop, EvI m_Sentences_wordAt d [.ref 3, .int x1, .int x2] w1 Q2 ∧ ∀ (r2 : Int32) (w2 : Wd), Q2 r2 w2 → ∃ Q3 : Int32 → Wd → Prop, EvI m_Book_isBarred d [.ref 25, .int r2] w2 Q3 ∧ ∀ (r3 : Int32) (w3 : Wd), Q3 r3 w3 → ((r3 = 0 → Z m_Finder_hasBarredWord (d + 1) (qI Q) 2 [(0, .ref 36), (1, .int x1), (2, .int (x2 + nI 1))] [] w3) ∧ (¬ r3 = 0 → ((nI 1) = 0 ∨ (nI 1) = 1) ∧ Q (nI 1) w3))))) : Z m_Finder_hasBarredWord (d + 1) (qI Q) 2 [(0, .ref 36), (1, .int x1), (2, .int x2)] [] w := wp_ok (P := P_Finder_hasBarredWord) (S := S_Finder_hasBarredWord) rfl pr_Finder_hasBarredWord 18 _ _ _ _ h
def P_Finder_drawRule : Prog := [(0, .aload_n 0), (1, .getfield 32), (4, .iload_n 1), (5, .invokevirtual 46), (8, .istore_n 3), (9, .iconst 1), (10, .iload_n 3), (11, .iconst 1), (12, .iadd), (13, .ishl), (14, .iconst 1), (15, .isub), (16, .istore 4), (18, .aload_n 0), (19, .getfield 36), (22, .iload_n 2), (23, .invokevirtual 83), (26, .istore 5), (28, .aload_n 0), (29, .getfield 36), (32, .iload_n 2), (33, .invokevirtual 86), (36, .istore 6), (38, .iload 5), (40, .ifCond .lt 22), (43, .iload 5), (45, .bipush 10), (47, .if_icmp .ge 15), (50, .iload 6), (52, .ifCond .lt 10), (55, .iload 6), (57, .bipush 10), (59, .if_icmp .lt 4), (62, .return_), (63, .aload_n 0), (64, .iload_n 1), (65, .iload_n 2), (66, .invokevirtual 89), (69, .iload 5), (71, .iload 6), (73, .invokestatic 92), (76, .istore 7), (78, .iload 5), (80, .iload 6), (82, .invokestatic 97), (85, .istore 8), (87, .aload_n 0), (88, .iload 4), (90, .iconst 0), (91, .iload 7), (93, .iload 4), (95, .invokevirtual 100), (98, .aload_n 0), (99, .getfield 25), (102, .iload 7), (104, .iaload), (105, .iand), (106, .istore 9), (108, .aload_n 0), (109, .iload 4), (111, .iload 8), (113, .iconst 1), (114, .iadd), (115, .aload_n 0), (116, .getfield 36), (119, .iload_n 2), (120, .invokevirtual 104), (123, .invokevirtual 107), (126, .iconst 1), (127, .ishr), (128, .aload_n 0), (129, .getfield 25), (132, .iload 8), (134, .iaload), (135, .iand), (136, .istore 10), (138, .iconst 0), (139, .istore 11), (141, .iload 11), (143, .iload_n 3), (144, .if_icmp .ge 71), (147, .iload 9), (149, .iload 11), (151, .ishr), (152, .iconst 1), (153, .iand), (154, .ifCond .eq 55), (157, .aload_n 0), (158, .iconst 1), (159, .iload 11), (161, .iconst 1), (162, .iadd), (163, .ishl), (164, .iload 7), (166, .iconst 1), (167, .iadd), (168, .iload 8), (170, .iload 4), (172, .invokevirtual 100), (175, .iload 10), (177, .iand), (178, .istore 12), (180, .aload_n 0), (181, .iload_n 1), (182, .bipush 12), (184, .imul), (185, .iload_n 2), (186, .iadd), (187, .bipush 16), (189, .imul), (190, .iload 11), (192, .iload 12), (194, .iload 5), (196, .iload 7), (198, .if_icmp .ne 7), (201, .iconst 1), (202, .goto 4), (205, .iconst 0), (206, .invokevirtual 111), (209, .iinc 11 1), (212, .goto (-71)), (215, .return_)]
theorem pr_Finder_drawRule : prOK m_Finder_drawRule P_Finder_drawRule = true := by decide +kernel
def S_Finder_drawRule : List (Nat × List Nat) := [(141, [0, 1, 2, 3, 4, 5, 6, 7, 8, 9, 10, 11])]
theorem ev_Finder_drawRule {d : Nat} {w : Wd} {Q : Wd → Prop} (x1 : Int32) (x2 : Int32) (h : Z m_Finder_drawRule d (qV Q) 0 [(0, .ref 36), (1, .int x1), (2, .int x2)] [] w) : EvV m_Finder_drawRule d [.ref 36, .int x1, .int x2] w Q := Ev.ofZ (by decide +kernel) (Nat.le_of_ble_eq_true rfl) h
set_option maxRecDepth 20000 in
set_option maxHeartbeats 1000000 in
theorem vc_Finder_drawRule_0 {d : Nat} {w : Wd} {Q : Wd → Prop} (x1 : Int32) (x2 : Int32) (h : ∃ Q1 : Int32 → Wd → Prop, EvI m_Sentences_lengthOf d [.ref 3, .int x1] w Q1 ∧ ∀ (r1 : Int32) (w1 : Wd), Q1 r1 w1 → ∃ Q2 : Int32 → Wd → Prop, EvI m_Book_leftItem d [.ref 25, .int x2] w1 Q2 ∧ ∀ (r2 : Int32) (w2 : Wd), Q2 r2 w2 → ∃ Q3 : Int32 → Wd → Prop, EvI m_Book_rightItem d [.ref 25, .int x2] w2 Q3 ∧ ∀ (r3 : Int32) (w3 : Wd), Q3 r3 w3 → ((r2 < 0 → Q w3) ∧ (¬ r2 < 0 → (((nI 10) ≤ r2 → Q w3) ∧ (¬ (nI 10) ≤ r2 → ((r3 < 0 → Q w3) ∧ (¬ r3 < 0 → ((r3 < (nI 10) → ∃ Q4 : Wd → Prop, EvV m_Finder_fitItems d [.ref 36, .int x1, .int x2] w3 Q4 ∧ ∀ w4 : Wd, Q4 w4 → ∃ Q5 : Int32 → Wd → Prop, EvI m_Finder_forward d [.ref 36, .int (((nI 1) <<< ((r1 + (nI 1)) &&& 31)) - (nI 1)), .int (nI 0), .int (if r3 < r2 then r3 else r2), .int (((nI 1) <<< ((r1 + (nI 1)) &&& 31)) - (nI 1))] w4 Q5 ∧ ∀ (r5 : Int32) (w5 : Wd), Q5 r5 w5 → ∃ j1 : Nat, (if r3 < r2 then r3 else r2) = nI j1 ∧ j1 < 10 ∧ ∃ Q6 : Int32 → Wd → Prop, EvI m_Book_itemsOf d [.ref 25, .int x2] w5 Q6 ∧ ∀ (r6 : Int32) (w6 : Wd), Q6 r6 w6 → ∃ Q7 : Int32 → Wd → Prop, EvI m_Finder_backward d [.ref 36, .int (((nI 1) <<< ((r1 + (nI 1)) &&& 31)) - (nI 1)), .int ((if r2 < r3 then r3 else r2) + (nI 1)), .int r6] w6 Q7 ∧ ∀ (r7 : Int32) (w7 : Wd), Q7 r7 w7 → ∃ j2 : Nat, (if r2 < r3 then r3 else r2) = nI j2 ∧ j2 < 10 ∧ Z m_Finder_drawRule (d + 1) (qV Q) 141 [(0, .ref 36), (1, .int x1), (2, .int x2), (3, .int r1), (4, .int (((nI 1) <<< ((r1 + (nI 1)) &&& 31)) - (nI 1))), (5, .int r2), (6, .int r3), (7, .int (if r3 < r2 then r3 else r2)), (8, .int (if r2 < r3 then r3 else r2)), (9, .int (r5 &&& (w5.1 41 j1))), (10, .int ((r7 >>> ((nI 1) &&& 31)) &&& (w7.1 41 j2))), (11, .int (nI 0))] [] w7) ∧ (¬ r3 < (nI 10) → Q w3))))))))) : Z m_Finder_drawRule (d + 1) (qV Q) 0 [(0, .ref 36), (1, .int x1), (2, .int x2)] [] w := wp_ok (P := P_Finder_drawRule) (S := S_Finder_drawRule) rfl pr_Finder_drawRule 78 _ _ _ _ h
set_option maxRecDepth 20000 in
set_option maxHeartbeats 1000000 in
theorem vc_Finder_drawRule_141 {d : Nat} {w : Wd} {Q : Wd → Prop} (x1 : Int32) (x2 : Int32) (x3 : Int32) (x4 : Int32) (x5 : Int32) (x6 : Int32) (x7 : Int32) (x8 : Int32) (x9 : Int32) (x10 : Int32) (x11 : Int32) (h : ((x3 ≤ x11 → Q w) ∧ (¬ x3 ≤ x11 → ((((x9 >>> (x11 &&& 31)) &&& (nI 1)) = 0 → Z m_Finder_drawRule (d + 1) (qV Q) 141 [(0, .ref 36), (1, .int x1), (2, .int x2), (3, .int x3), (4, .int x4), (5, .int x5), (6, .int x6), (7, .int x7), (8, .int x8), (9, .int x9), (10, .int x10), (11, .int (x11 + nI 1))] [] w) ∧ (¬ ((x9 >>> (x11 &&& 31)) &&& (nI 1)) = 0 → ∃ Q1 : Int32 → Wd → Prop, EvI m_Finder_forward d [.ref 36, .int ((nI 1) <<< ((x11 + (nI 1)) &&& 31)), .int (x7 + (nI 1)), .int x8, .int x4] w Q1 ∧ ∀ (r1 : Int32) (w1 : Wd), Q1 r1 w1 → ((¬ x5 = x7 → ∃ Q2 : Wd → Prop, EvV m_Finder_keepPairs d [.ref 36, .int (((x1 * (nI 12)) + x2) * (nI 16)), .int x11, .int (r1 &&& x10), .int (nI 0)] w1 Q2 ∧ ∀ w2 : Wd, Q2 w2 → Z m_Finder_drawRule (d + 1) (qV Q) 141 [(0, .ref 36), (1, .int x1), (2, .int x2), (3, .int x3), (4, .int x4), (5, .int x5), (6, .int x6), (7, .int x7), (8, .int x8), (9, .int x9), (10, .int x10), (11, .int (x11 + nI 1))] [] w2) ∧ (x5 = x7 → ∃ Q3 : Wd → Prop, EvV m_Finder_keepPairs d [.ref 36, .int (((x1 * (nI 12)) + x2) * (nI 16)), .int x11, .int (r1 &&& x10), .int (nI 1)] w1 Q3 ∧ ∀ w3 : Wd, Q3 w3 → Z m_Finder_drawRule (d + 1) (qV Q) 141 [(0, .ref 36), (1, .int x1), (2, .int x2), (3, .int x3), (4, .int x4), (5, .int x5), (6, .int x6), (7, .int x7), (8, .int x8), (9, .int x9), (10, .int x10), (11, .int (x11 + nI 1))] [] w3))))))) : Z m_Finder_drawRule (d + 1) (qV Q) 141 [(0, .ref 36), (1, .int x1), (2, .int x2), (3, .int x3), (4, .int x4), (5, .int x5), (6, .int x6), (7, .int x7), (8, .int x8), (9, .int x9), (10, .int x10), (11, .int x11)] [] w := wp_ok (P := P_Finder_drawRule) (S := S_Finder_drawRule) rfl pr_Finder_drawRule 43 _ _ _ _ h
def P_Finder_fitItems : Prog := [(0, .iconst 0), (1, .istore_n 3), (2, .iload_n 3), (3, .aload_n 0), (4, .getfield 36), (7, .iload_n 2), (8, .invokevirtual 104), (11, .if_icmp .ge 58), (14, .iload_n 3), (15, .bipush 10), (17, .if_icmp .ge 52), (20, .aload_n 0), (21, .getfield 36), (24, .iload_n 2), (25, .iload_n 3), (26, .invokevirtual 115), (29, .istore 4), (31, .aload_n 0), (32, .getfield 25), (35, .iload_n 3), (36, .iload 4), (38, .iconst 3), (39, .if_icmp .ne 7), (42, .iconst (-1)), (43, .goto 19), (46, .aload_n 0), (47, .iload_n 1), (48, .iload 4), (50, .aload_n 0), (51, .getfield 36), (54, .iload_n 2), (55, .iload_n 3), (56, .invokevirtual 118), (59, .invokevirtual 121), (62, .iastore), (63, .iinc 3 1), (66, .goto (-64)), (69, .return_)]
theorem pr_Finder_fitItems : prOK m_Finder_fitItems P_Finder_fitItems = true := by decide +kernel
def S_Finder_fitItems : List (Nat × List Nat) := [(2, [0, 1, 2, 3])]
theorem ev_Finder_fitItems {d : Nat} {w : Wd} {Q : Wd → Prop} (x1 : Int32) (x2 : Int32) (h : Z m_Finder_fitItems d (qV Q) 0 [(0, .ref 36), (1, .int x1), (2, .int x2)] [] w) : EvV m_Finder_fitItems d [.ref 36, .int x1, .int x2] w Q := Ev.ofZ (by decide +kernel) (Nat.le_of_ble_eq_true rfl) h
set_option maxRecDepth 20000 in
set_option maxHeartbeats 1000000 in
theorem vc_Finder_fitItems_0 {d : Nat} {w : Wd} {Q : Wd → Prop} (x1 : Int32) (x2 : Int32) (h : Z m_Finder_fitItems (d + 1) (qV Q) 2 [(0, .ref 36), (1, .int x1), (2, .int x2), (3, .int (nI 0))] [] w) : Z m_Finder_fitItems (d + 1) (qV Q) 0 [(0, .ref 36), (1, .int x1), (2, .int x2)] [] w := wp_ok (P := P_Finder_fitItems) (S := S_Finder_fitItems) rfl pr_Finder_fitItems 3 _ _ _ _ h
set_option maxRecDepth 20000 in
set_option maxHeartbeats 1000000 in
theorem vc_Finder_fitItems_2 {d : Nat} {w : Wd} {Q : Wd → Prop} (x1 : Int32) (x2 : Int32) (x3 : Int32) (h : ∃ Q1 : Int32 → Wd → Prop, EvI m_Book_itemsOf d [.ref 25, .int x2] w Q1 ∧ ∀ (r1 : Int32) (w1 : Wd), Q1 r1 w1 → ((r1 ≤ x3 → Q w1) ∧ (¬ r1 ≤ x3 → (((nI 10) ≤ x3 → Q w1) ∧ (¬ (nI 10) ≤ x3 → ∃ Q2 : Int32 → Wd → Prop, EvI m_Book_kindOf d [.ref 25, .int x2, .int x3] w1 Q2 ∧ ∀ (r2 : Int32) (w2 : Wd), Q2 r2 w2 → ((¬ r2 = (nI 3) → ∃ Q3 : Int32 → Wd → Prop, EvI m_Book_numberOf d [.ref 25, .int x2, .int x3] w2 Q3 ∧ ∀ (r3 : Int32) (w3 : Wd), Q3 r3 w3 → ∃ Q4 : Int32 → Wd → Prop, EvI m_Finder_placesOf d [.ref 36, .int x1, .int r2, .int r3] w3 Q4 ∧ ∀ (r4 : Int32) (w4 : Wd), Q4 r4 w4 → ∃ j1 : Nat, x3 = nI j1 ∧ j1 < 10 ∧ Z m_Finder_fitItems (d + 1) (qV Q) 2 [(0, .ref 36), (1, .int x1), (2, .int x2), (3, .int (x3 + nI 1))] [] (up1 w4 41 j1 r4)) ∧ (r2 = (nI 3) → ∃ j2 : Nat, x3 = nI j2 ∧ j2 < 10 ∧ Z m_Finder_fitItems (d + 1) (qV Q) 2 [(0, .ref 36), (1, .int x1), (2, .int x2), (3, .int (x3 + nI 1))] [] (up1 w2 41 j2 (-nI 1))))))))) : Z m_Finder_fitItems (d + 1) (qV Q) 2 [(0, .ref 36), (1, .int x1), (2, .int x2), (3, .int x3)] [] w := wp_ok (P := P_Finder_fitItems) (S := S_Finder_fitItems) rfl pr_Finder_fitItems 34 _ _ _ _ h
def P_Finder_placesOf : Prog := [(0, .iconst 0), (1, .istore 4), (3, .iconst 0), (4, .istore 5), (6, .iload 5), (8, .aload_n 0), (9, .getfield 32), (12, .iload_n 1), (13, .invokevirtual 46), (16, .if_icmp .ge 40), (19, .aload_n 0), (20, .getfield 28), (23, .iload_n 2), (24, .iload_n 3), (25, .aload_n 0), (26, .getfield 32), (29, .iload_n 1), (30, .iload 5), (32, .invokevirtual 50), (35, .invokevirtual 124), (38, .ifCond .eq 12), (41, .iload 4), (43, .iconst 1), (44, .iload 5), (46, .ishl), (47, .ior), (48, .istore 4), (50, .iinc 5 1), (53, .goto (-47)), (56, .iload 4), (58, .ireturn)]
theorem pr_Finder_placesOf : prOK m_Finder_placesOf P_Finder_placesOf = true := by decide +kernel
def S_Finder_placesOf : List (Nat × List Nat) := [(6, [0, 1, 2, 3, 4, 5])]
theorem ev_Finder_placesOf {d : Nat} {w : Wd} {Q : Int32 → Wd → Prop} (x1 : Int32) (x2 : Int32) (x3 : Int32) (h : Z m_Finder_placesOf d (qI Q) 0 [(0, .ref 36), (1, .int x1), (2, .int x2), (3, .int x3)] [] w) : EvI m_Finder_placesOf d [.ref 36, .int x1, .int x2, .int x3] w Q := Ev.ofZ (by decide +kernel) (Nat.le_of_ble_eq_true rfl) h
set_option maxRecDepth 20000 in
set_option maxHeartbeats 1000000 in
theorem vc_Finder_placesOf_0 {d : Nat} {w : Wd} {Q : Int32 → Wd → Prop} (x1 : Int32) (x2 : Int32) (x3 : Int32) (h : Z m_Finder_placesOf (d + 1) (qI Q) 6 [(0, .ref 36), (1, .int x1), (2, .int x2), (3, .int x3), (4, .int (nI 0)), (5, .int (nI 0))] [] w) : Z m_Finder_placesOf (d + 1) (qI Q) 0 [(0, .ref 36), (1, .int x1), (2, .int x2), (3, .int x3)] [] w := wp_ok (P := P_Finder_placesOf) (S := S_Finder_placesOf) rfl pr_Finder_placesOf 5 _ _ _ _ h
set_option maxRecDepth 20000 in
set_option maxHeartbeats 1000000 in
theorem vc_Finder_placesOf_6 {d : Nat} {w : Wd} {Q : Int32 → Wd → Prop} (x1 : Int32) (x2 : Int32) (x3 : Int32) (x4 : Int32) (x5 : Int32) (h : ∃ Q1 : Int32 → Wd → Prop, EvI m_Sentences_lengthOf d [.ref 3, .int x1] w Q1 ∧ ∀ (r1 : Int32) (w1 : Wd), Q1 r1 w1 → ((r1 ≤ x5 → Q x4 w1) ∧ (¬ r1 ≤ x5 → ∃ Q2 : Int32 → Wd → Prop, EvI m_Sentences_wordAt d [.ref 3, .int x1, .int x5] w1 Q2 ∧ ∀ (r2 : Int32) (w2 : Wd), Q2 r2 w2 → ∃ Q3 : Int32 → Wd → Prop, EvI m_Lexicon_fits d [.ref 0, .int x2, .int x3, .int r2] w2 Q3 ∧ ∀ (r3 : Int32) (w3 : Wd), Q3 r3 w3 → ((r3 = 0 → Z m_Finder_placesOf (d + 1) (qI Q) 6 [(0, .ref 36), (1, .int x1), (2, .int x2), (3, .int x3), (4, .int x4), (5, .int (x5 + nI 1))] [] w3) ∧ (¬ r3 = 0 → Z m_Finder_placesOf (d + 1) (qI Q) 6 [(0, .ref 36), (1, .int x1), (2, .int x2), (3, .int x3), (4, .int (x4 ||| ((nI 1) <<< (x5 &&& 31)))), (5, .int (x5 + nI 1))] [] w3))))) : Z m_Finder_placesOf (d + 1) (qI Q) 6 [(0, .ref 36), (1, .int x1), (2, .int x2), (3, .int x3), (4, .int x4), (5, .int x5)] [] w := wp_ok (P := P_Finder_placesOf) (S := S_Finder_placesOf) rfl pr_Finder_placesOf 26 _ _ _ _ h
def P_Finder_forward : Prog := [(0, .iload_n 1), (1, .istore 5), (3, .iload_n 2), (4, .istore 6), (6, .iload 6), (8, .iload_n 3), (9, .if_icmp .ge 70), (12, .iload 6), (14, .bipush 10), (16, .if_icmp .ge 63), (19, .aload_n 0), (20, .getfield 25), (23, .iload 6), (25, .iaload), (26, .iconst (-1)), (27, .if_icmp .ne 25), (30, .iload 5), (32, .iload 5), (34, .iconst 1), (35, .ishl), (36, .iload 5), (38, .iconst 2), (39, .ishl), (40, .ior), (41, .iload 5), (43, .iconst 3), (44, .ishl), (45, .ior), (46, .ior), (47, .istore 5), (49, .goto 17), (52, .iload 5), (54, .aload_n 0), (55, .getfield 25), (58, .iload 6), (60, .iaload), (61, .iand), (62, .iconst 1), (63, .ishl), (64, .istore 5), (66, .iload 5), (68, .iload 4), (70, .iand), (71, .istore 5), (73, .iinc 6 1), (76, .goto (-70)), (79, .iload 5), (81, .ireturn)]
theorem pr_Finder_forward : prOK m_Finder_forward P_Finder_forward = true := by decide +kernel
def S_Finder_forward : List (Nat × List Nat) := [(6, [0, 1, 2, 3, 4, 5, 6])]
theorem ev_Finder_forward {d : Nat} {w : Wd} {Q : Int32 → Wd → Prop} (x1 : Int32) (x2 : Int32) (x3 : Int32) (x4 : Int32) (h : Z m_Finder_forward d (qI Q) 0 [(0, .ref 36), (1, .int x1), (2, .int x2), (3, .int x3), (4, .int x4)] [] w) : EvI m_Finder_forward d [.ref 36, .int x1, .int x2, .int x3, .int x4] w Q := Ev.ofZ (by decide +kernel) (Nat.le_of_ble_eq_true rfl) h
set_option maxRecDepth 20000 in
set_option maxHeartbeats 1000000 in
theorem vc_Finder_forward_0 {d : Nat} {w : Wd} {Q : Int32 → Wd → Prop} (x1 : Int32) (x2 : Int32) (x3 : Int32) (x4 : Int32) (h : Z m_Finder_forward d (qI Q) 6 [(0, .ref 36), (1, .int x1), (2, .int x2), (3, .int x3), (4, .int x4), (5, .int x1), (6, .int x2)] [] w) : Z m_Finder_forward d (qI Q) 0 [(0, .ref 36), (1, .int x1), (2, .int x2), (3, .int x3), (4, .int x4)] [] w := wp_ok (P := P_Finder_forward) (S := S_Finder_forward) rfl pr_Finder_forward 5 _ _ _ _ h
set_option maxRecDepth 20000 in
set_option maxHeartbeats 1000000 in
theorem vc_Finder_forward_6 {d : Nat} {w : Wd} {Q : Int32 → Wd → Prop} (x1 : Int32) (x2 : Int32) (x3 : Int32) (x4 : Int32) (x5 : Int32) (x6 : Int32) (h : ((x3 ≤ x6 → Q x5 w) ∧ (¬ x3 ≤ x6 → (((nI 10) ≤ x6 → Q x5 w) ∧ (¬ (nI 10) ≤ x6 → ∃ j1 : Nat, x6 = nI j1 ∧ j1 < 10 ∧ ((¬ (w.1 41 j1) = (-nI 1) → ∃ j2 : Nat, x6 = nI j2 ∧ j2 < 10 ∧ Z m_Finder_forward d (qI Q) 6 [(0, .ref 36), (1, .int x1), (2, .int x2), (3, .int x3), (4, .int x4), (5, .int (((x5 &&& (w.1 41 j2)) <<< ((nI 1) &&& 31)) &&& x4)), (6, .int (x6 + nI 1))] [] w) ∧ ((w.1 41 j1) = (-nI 1) → Z m_Finder_forward d (qI Q) 6 [(0, .ref 36), (1, .int x1), (2, .int x2), (3, .int x3), (4, .int x4), (5, .int ((x5 ||| (((x5 <<< ((nI 1) &&& 31)) ||| (x5 <<< ((nI 2) &&& 31))) ||| (x5 <<< ((nI 3) &&& 31)))) &&& x4)), (6, .int (x6 + nI 1))] [] w))))))) : Z m_Finder_forward d (qI Q) 6 [(0, .ref 36), (1, .int x1), (2, .int x2), (3, .int x3), (4, .int x4), (5, .int x5), (6, .int x6)] [] w := wp_ok (P := P_Finder_forward) (S := S_Finder_forward) rfl pr_Finder_forward 34 _ _ _ _ h
def P_Finder_backward : Prog := [(0, .iload_n 1), (1, .istore 4), (3, .iload_n 3), (4, .bipush 10), (6, .invokestatic 92), (9, .iconst 1), (10, .isub), (11, .istore 5), (13, .iload 5), (15, .iload_n 2), (16, .if_icmp .lt 56), (19, .aload_n 0), (20, .getfield 25), (23, .iload 5), (25, .iaload), (26, .iconst (-1)), (27, .if_icmp .ne 25), (30, .iload 4), (32, .iload 4), (34, .iconst 1), (35, .ishr), (36, .iload 4), (38, .iconst 2), (39, .ishr), (40, .ior), (41, .iload 4), (43, .iconst 3), (44, .ishr), (45, .ior), (46, .ior), (47, .istore 4), (49, .goto 17), (52, .iload 4), (54, .iconst 1), (55, .ishr), (56, .aload_n 0), (57, .getfield 25), (60, .iload 5), (62, .iaload), (63, .iand), (64, .istore 4), (66, .iinc 5 (-1)), (69, .goto (-56)), (72, .iload 4), (74, .ireturn)]
theorem pr_Finder_backward : prOK m_Finder_backward P_Finder_backward = true := by decide +kernel
def S_Finder_backward : List (Nat × List Nat) := [(13, [0, 1, 2, 3, 4, 5])]
theorem ev_Finder_backward {d : Nat} {w : Wd} {Q : Int32 → Wd → Prop} (x1 : Int32) (x2 : Int32) (x3 : Int32) (h : Z m_Finder_backward d (qI Q) 0 [(0, .ref 36), (1, .int x1), (2, .int x2), (3, .int x3)] [] w) : EvI m_Finder_backward d [.ref 36, .int x1, .int x2, .int x3] w Q := Ev.ofZ (by decide +kernel) (Nat.le_of_ble_eq_true rfl) h
set_option maxRecDepth 20000 in
set_option maxHeartbeats 1000000 in
theorem vc_Finder_backward_0 {d : Nat} {w : Wd} {Q : Int32 → Wd → Prop} (x1 : Int32) (x2 : Int32) (x3 : Int32) (h : Z m_Finder_backward (d + 1) (qI Q) 13 [(0, .ref 36), (1, .int x1), (2, .int x2), (3, .int x3), (4, .int x1), (5, .int ((if (nI 10) < x3 then (nI 10) else x3) - (nI 1)))] [] w) : Z m_Finder_backward (d + 1) (qI Q) 0 [(0, .ref 36), (1, .int x1), (2, .int x2), (3, .int x3)] [] w := wp_ok (P := P_Finder_backward) (S := S_Finder_backward) rfl pr_Finder_backward 9 _ _ _ _ h
set_option maxRecDepth 20000 in
set_option maxHeartbeats 1000000 in
theorem vc_Finder_backward_13 {d : Nat} {w : Wd} {Q : Int32 → Wd → Prop} (x1 : Int32) (x2 : Int32) (x3 : Int32) (x4 : Int32) (x5 : Int32) (h : ((x5 < x2 → Q x4 w) ∧ (¬ x5 < x2 → ∃ j1 : Nat, x5 = nI j1 ∧ j1 < 10 ∧ ((¬ (w.1 41 j1) = (-nI 1) → ∃ j2 : Nat, x5 = nI j2 ∧ j2 < 10 ∧ Z m_Finder_backward (d + 1) (qI Q) 13 [(0, .ref 36), (1, .int x1), (2, .int x2), (3, .int x3), (4, .int ((x4 >>> ((nI 1) &&& 31)) &&& (w.1 41 j2))), (5, .int (x5 + (-nI 1)))] [] w) ∧ ((w.1 41 j1) = (-nI 1) → Z m_Finder_backward (d + 1) (qI Q) 13 [(0, .ref 36), (1, .int x1), (2, .int x2), (3, .int x3), (4, .int (x4 ||| (((x4 >>> ((nI 1) &&& 31)) ||| (x4 >>> ((nI 2) &&& 31))) ||| (x4 >>> ((nI 3) &&& 31))))), (5, .int (x5 + (-nI 1)))] [] w))))) : Z m_Finder_backward (d + 1) (qI Q) 13 [(0, .ref 36), (1, .int x1), (2, .int x2), (3, .int x3), (4, .int x4), (5, .int x5)] [] w := wp_ok (P := P_Finder_backward) (S := S_Finder_backward) rfl pr_Finder_backward 27 _ _ _ _ h
def P_Finder_keepPairs : Prog := [(0, .iload 4), (2, .ifCond .eq 13), (5, .aload_n 0), (6, .getfield 9), (9, .iload_n 1), (10, .iload_n 2), (11, .iadd), (12, .iload_n 3), (13, .iastore), (14, .return_), (15, .iconst 0), (16, .istore 5), (18, .iload 5), (20, .bipush 16), (22, .if_icmp .ge 33), (25, .iload_n 3), (26, .iload 5), (28, .ishr), (29, .iconst 1), (30, .iand), (31, .ifCond .eq 18), (34, .aload_n 0), (35, .getfield 9), (38, .iload_n 1), (39, .iload 5), (41, .iadd), (42, .dup2), (43, .iaload), (44, .iconst 1), (45, .iload_n 2), (46, .ishl), (47, .ior), (48, .iastore), (49, .iinc 5 1), (52, .goto (-34)), (55, .return_)]
theorem pr_Finder_keepPairs : prOK m_Finder_keepPairs P_Finder_keepPairs = true := by decide +kernel
def S_Finder_keepPairs : List (Nat × List Nat) := [(18, [0, 1, 2, 3, 4, 5])]
theorem ev_Finder_keepPairs {d : Nat} {w : Wd} {Q : Wd → Prop} (x1 : Int32) (x2 : Int32) (x3 : Int32) (x4 : Int32) (h : Z m_Finder_keepPairs d (qV Q) 0 [(0, .ref 36), (1, .int x1), (2, .int x2), (3, .int x3), (4, .int x4)] [] w) : EvV m_Finder_keepPairs d [.ref 36, .int x1, .int x2, .int x3, .int x4] w Q := Ev.ofZ (by decide +kernel) (Nat.le_of_ble_eq_true rfl) h
set_option maxRecDepth 20000 in
set_option maxHeartbeats 1000000 in
theorem vc_Finder_keepPairs_0 {d : Nat} {w : Wd} {Q : Wd → Prop} (x1 : Int32) (x2 : Int32) (x3 : Int32) (x4 : Int32) (h : ((x4 = 0 → Z m_Finder_keepPairs d (qV Q) 18 [(0, .ref 36), (1, .int x1), (2, .int x2), (3, .int x3), (4, .int x4), (5, .int (nI 0))] [] w) ∧ (¬ x4 = 0 → ∃ j1 : Nat, (x1 + x2) = nI j1 ∧ j1 < 7680 ∧ Q (up1 w 37 j1 x3)))) : Z m_Finder_keepPairs d (qV Q) 0 [(0, .ref 36), (1, .int x1), (2, .int x2), (3, .int x3), (4, .int x4)] [] w := wp_ok (P := P_Finder_keepPairs) (S := S_Finder_keepPairs) rfl pr_Finder_keepPairs 11 _ _ _ _ h
set_option maxRecDepth 20000 in
set_option maxHeartbeats 1000000 in
theorem vc_Finder_keepPairs_18 {d : Nat} {w : Wd} {Q : Wd → Prop} (x1 : Int32) (x2 : Int32) (x3 : Int32) (x4 : Int32) (x5 : Int32) (h : (((nI 16) ≤ x5 → Q w) ∧ (¬ (nI 16) ≤ x5 → ((((x3 >>> (x5 &&& 31)) &&& (nI 1)) = 0 → Z m_Finder_keepPairs d (qV Q) 18 [(0, .ref 36), (1, .int x1), (2, .int x2), (3, .int x3), (4, .int x4), (5, .int (x5 + nI 1))] [] w) ∧ (¬ ((x3 >>> (x5 &&& 31)) &&& (nI 1)) = 0 → ∃ j1 : Nat, (x1 + x5) = nI j1 ∧ j1 < 7680 ∧ ∃ j2 : Nat, (x1 + x5) = nI j2 ∧ j2 < 7680 ∧ Z m_Finder_keepPairs d (qV Q) 18 [(0, .ref 36), (1, .int x1), (2, .int x2), (3, .int x3), (4, .int x4), (5, .int (x5 + nI 1))] [] (up1 w 37 j2 ((w.1 37 j1) ||| ((nI 1) <<< (x2 &&& 31))))))))) : Z m_Finder_keepPairs d (qV Q) 18 [(0, .ref 36), (1, .int x1), (2, .int x2), (3, .int x3), (4, .int x4), (5, .int x5)] [] w := wp_ok (P := P_Finder_keepPairs) (S := S_Finder_keepPairs) rfl pr_Finder_keepPairs 24 _ _ _ _ h
def P_Finder_countPairs : Prog := [(0, .iconst 0), (1, .istore_n 3), (2, .iconst 0), (3, .istore 4), (5, .iload 4), (7, .bipush 16), (9, .if_icmp .ge 23), (12, .iload_n 3), (13, .aload_n 0), (14, .iload_n 1), (15, .iload_n 2), (16, .iload 4), (18, .invokevirtual 130), (21, .invokestatic 133), (24, .iadd), (25, .istore_n 3), (26, .iinc 4 1), (29, .goto (-24)), (32, .iload_n 3), (33, .ireturn)]
theorem pr_Finder_countPairs : prOK m_Finder_countPairs P_Finder_countPairs = true := by decide +kernel
def S_Finder_countPairs : List (Nat × List Nat) := [(5, [0, 1, 2, 3, 4])]
theorem ev_Finder_countPairs {d : Nat} {w : Wd} {Q : Int32 → Wd → Prop} (x1 : Int32) (x2 : Int32) (h : Z m_Finder_countPairs d (qI Q) 0 [(0, .ref 36), (1, .int x1), (2, .int x2)] [] w) : EvI m_Finder_countPairs d [.ref 36, .int x1, .int x2] w Q := Ev.ofZ (by decide +kernel) (Nat.le_of_ble_eq_true rfl) h
set_option maxRecDepth 20000 in
set_option maxHeartbeats 1000000 in
theorem vc_Finder_countPairs_0 {d : Nat} {w : Wd} {Q : Int32 → Wd → Prop} (x1 : Int32) (x2 : Int32) (h : Z m_Finder_countPairs (d + 1) (qI Q) 5 [(0, .ref 36), (1, .int x1), (2, .int x2), (3, .int (nI 0)), (4, .int (nI 0))] [] w) : Z m_Finder_countPairs (d + 1) (qI Q) 0 [(0, .ref 36), (1, .int x1), (2, .int x2)] [] w := wp_ok (P := P_Finder_countPairs) (S := S_Finder_countPairs) rfl pr_Finder_countPairs 5 _ _ _ _ h
set_option maxRecDepth 20000 in
set_option maxHeartbeats 1000000 in
theorem vc_Finder_countPairs_5 {d : Nat} {w : Wd} {Q : Int32 → Wd → Prop} (x1 : Int32) (x2 : Int32) (x3 : Int32) (x4 : Int32) (h : (((nI 16) ≤ x4 → Q x3 w) ∧ (¬ (nI 16) ≤ x4 → ∃ Q1 : Int32 → Wd → Prop, EvI m_Finder_rightPlaces d [.ref 36, .int x1, .int x2, .int x4] w Q1 ∧ ∀ (r1 : Int32) (w1 : Wd), Q1 r1 w1 → ∃ Q2 : Int32 → Wd → Prop, EvI m_Integer_bitCount d [.int r1] w1 Q2 ∧ ∀ (r2 : Int32) (w2 : Wd), Q2 r2 w2 → Z m_Finder_countPairs (d + 1) (qI Q) 5 [(0, .ref 36), (1, .int x1), (2, .int x2), (3, .int (x3 + r2)), (4, .int (x4 + nI 1))] [] w2))) : Z m_Finder_countPairs (d + 1) (qI Q) 5 [(0, .ref 36), (1, .int x1), (2, .int x2), (3, .int x3), (4, .int x4)] [] w := wp_ok (P := P_Finder_countPairs) (S := S_Finder_countPairs) rfl pr_Finder_countPairs 15 _ _ _ _ h
def P_Finder_rightPlaces : Prog := [(0, .iload_n 1), (1, .ifCond .lt 29), (4, .iload_n 1), (5, .bipush 40), (7, .if_icmp .ge 23), (10, .iload_n 2), (11, .ifCond .lt 19), (14, .iload_n 2), (15, .bipush 12), (17, .if_icmp .ge 13), (20, .iload_n 3), (21, .ifCond .lt 9), (24, .iload_n 3), (25, .bipush 16), (27, .if_icmp .lt 5), (30, .iconst 0), (31, .ireturn), (32, .aload_n 0), (33, .getfield 9), (36, .iload_n 1), (37, .bipush 12), (39, .imul), (40, .iload_n 2), (41, .iadd), (42, .bipush 16), (44, .imul), (45, .iload_n 3), (46, .iadd), (47, .iaload), (48, .ireturn)]
theorem pr_Finder_rightPlaces : prOK m_Finder_rightPlaces P_Finder_rightPlaces = true := by decide +kernel
def S_Finder_rightPlaces : List (Nat × List Nat) := []
theorem ev_Finder_rightPlaces {d : Nat} {w : Wd} {Q : Int32 → Wd → Prop} (x1 : Int32) (x2 : Int32) (x3 : Int32) (h : Z m_Finder_rightPlaces d (qI Q) 0 [(0, .ref 36), (1, .int x1), (2, .int x2), (3, .int x3)] [] w) : EvI m_Finder_rightPlaces d [.ref 36, .int x1, .int x2, .int x3] w Q := Ev.ofZ (by decide +kernel) (Nat.le_of_ble_eq_true rfl) h
set_option maxRecDepth 20000 in
set_option maxHeartbeats 1000000 in
theorem vc_Finder_rightPlaces_0 {d : Nat} {w : Wd} {Q : Int32 → Wd → Prop} (x1 : Int32) (x2 : Int32) (x3 : Int32) (h : ((x1 < 0 → Q (nI 0) w) ∧ (¬ x1 < 0 → (((nI 40) ≤ x1 → Q (nI 0) w) ∧ (¬ (nI 40) ≤ x1 → ((x2 < 0 → Q (nI 0) w) ∧ (¬ x2 < 0 → (((nI 12) ≤ x2 → Q (nI 0) w) ∧ (¬ (nI 12) ≤ x2 → ((x3 < 0 → Q (nI 0) w) ∧ (¬ x3 < 0 → ((x3 < (nI 16) → ∃ j1 : Nat, ((((x1 * (nI 12)) + x2) * (nI 16)) + x3) = nI j1 ∧ j1 < 7680 ∧ Q (w.1 37 j1) w) ∧ (¬ x3 < (nI 16) → Q (nI 0) w))))))))))))) : Z m_Finder_rightPlaces d (qI Q) 0 [(0, .ref 36), (1, .int x1), (2, .int x2), (3, .int x3)] [] w := wp_ok (P := P_Finder_rightPlaces) (S := S_Finder_rightPlaces) rfl pr_Finder_rightPlaces 29 _ _ _ _ h
def P_Finder_isBarred : Prog := [(0, .iload_n 1), (1, .ifCond .lt 22), (4, .iload_n 1), (5, .bipush 40), (7, .if_icmp .ge 16), (10, .aload_n 0), (11, .getfield 18), (14, .iload_n 1), (15, .baload), (16, .ifCond .eq 7), (19, .iconst 1), (20, .goto 4), (23, .iconst 0), (24, .ireturn)]
theorem pr_Finder_isBarred : prOK m_Finder_isBarred P_Finder_isBarred = true := by decide +kernel
def S_Finder_isBarred : List (Nat × List Nat) := []
theorem ev_Finder_isBarred {d : Nat} {w : Wd} {Q : Int32 → Wd → Prop} (x1 : Int32) (h : Z m_Finder_isBarred d (qI Q) 0 [(0, .ref 36), (1, .int x1)] [] w) : EvI m_Finder_isBarred d [.ref 36, .int x1] w Q := Ev.ofZ (by decide +kernel) (Nat.le_of_ble_eq_true rfl) h
set_option maxRecDepth 20000 in
set_option maxHeartbeats 1000000 in
theorem vc_Finder_isBarred_0 {d : Nat} {w : Wd} {Q : Int32 → Wd → Prop} (x1 : Int32) (h : ((x1 < 0 → ((nI 0) = 0 ∨ (nI 0) = 1) ∧ Q (nI 0) w) ∧ (¬ x1 < 0 → (((nI 40) ≤ x1 → ((nI 0) = 0 ∨ (nI 0) = 1) ∧ Q (nI 0) w) ∧ (¬ (nI 40) ≤ x1 → ∃ j1 : Nat, x1 = nI j1 ∧ j1 < 40 ∧ (((w.1 39 j1) = 0 → ((nI 0) = 0 ∨ (nI 0) = 1) ∧ Q (nI 0) w) ∧ (¬ (w.1 39 j1) = 0 → ((nI 1) = 0 ∨ (nI 1) = 1) ∧ Q (nI 1) w))))))) : Z m_Finder_isBarred d (qI Q) 0 [(0, .ref 36), (1, .int x1)] [] w := wp_ok (P := P_Finder_isBarred) (S := S_Finder_isBarred) rfl pr_Finder_isBarred 14 _ _ _ _ h
def P_Finder_has : Prog := [(0, .iload 4), (2, .ifCond .lt 29), (5, .iload 4), (7, .bipush 16), (9, .if_icmp .ge 22), (12, .aload_n 0), (13, .iload_n 1), (14, .iload_n 2), (15, .iload_n 3), (16, .invokevirtual 130), (19, .iload 4), (21, .ishr), (22, .iconst 1), (23, .iand), (24, .ifCond .eq 7), (27, .iconst 1), (28, .goto 4), (31, .iconst 0), (32, .ireturn)]
theorem pr_Finder_has : prOK m_Finder_has P_Finder_has = true := by decide +kernel
def S_Finder_has : List (Nat × List Nat) := []
theorem ev_Finder_has {d : Nat} {w : Wd} {Q : Int32 → Wd → Prop} (x1 : Int32) (x2 : Int32) (x3 : Int32) (x4 : Int32) (h : Z m_Finder_has d (qI Q) 0 [(0, .ref 36), (1, .int x1), (2, .int x2), (3, .int x3), (4, .int x4)] [] w) : EvI m_Finder_has d [.ref 36, .int x1, .int x2, .int x3, .int x4] w Q := Ev.ofZ (by decide +kernel) (Nat.le_of_ble_eq_true rfl) h
set_option maxRecDepth 20000 in
set_option maxHeartbeats 1000000 in
theorem vc_Finder_has_0 {d : Nat} {w : Wd} {Q : Int32 → Wd → Prop} (x1 : Int32) (x2 : Int32) (x3 : Int32) (x4 : Int32) (h : ((x4 < 0 → ((nI 0) = 0 ∨ (nI 0) = 1) ∧ Q (nI 0) w) ∧ (¬ x4 < 0 → (((nI 16) ≤ x4 → ((nI 0) = 0 ∨ (nI 0) = 1) ∧ Q (nI 0) w) ∧ (¬ (nI 16) ≤ x4 → ∃ Q1 : Int32 → Wd → Prop, EvI m_Finder_rightPlaces d [.ref 36, .int x1, .int x2, .int x3] w Q1 ∧ ∀ (r1 : Int32) (w1 : Wd), Q1 r1 w1 → ((((r1 >>> (x4 &&& 31)) &&& (nI 1)) = 0 → ((nI 0) = 0 ∨ (nI 0) = 1) ∧ Q (nI 0) w1) ∧ (¬ ((r1 >>> (x4 &&& 31)) &&& (nI 1)) = 0 → ((nI 1) = 0 ∨ (nI 1) = 1) ∧ Q (nI 1) w1))))))) : Z m_Finder_has (d + 1) (qI Q) 0 [(0, .ref 36), (1, .int x1), (2, .int x2), (3, .int x3), (4, .int x4)] [] w := wp_ok (P := P_Finder_has) (S := S_Finder_has) rfl pr_Finder_has 19 _ _ _ _ h
def P_Finder_total : Prog := [(0, .iconst 0), (1, .istore_n 2), (2, .iconst 0), (3, .istore_n 3), (4, .iload_n 3), (5, .aload_n 0), (6, .getfield 32), (9, .invokevirtual 40), (12, .if_icmp .ge 59), (15, .iload_n 3), (16, .bipush 40), (18, .if_icmp .ge 53), (21, .iconst 0), (22, .istore 4), (24, .iload 4), (26, .bipush 12), (28, .if_icmp .ge 37), (31, .aload_n 0), (32, .getfield 18), (35, .iload_n 3), (36, .baload), (37, .ifCond .ne 7), (40, .iload_n 1), (41, .ifCond .ne 24), (44, .iload_n 2), (45, .aload_n 0), (46, .getfield 15), (49, .iload_n 3), (50, .bipush 12), (52, .imul), (53, .iload 4), (55, .iadd), (56, .iaload), (57, .iadd), (58, .istore_n 2), (59, .iinc 4 1), (62, .goto (-38)), (65, .iinc 3 1), (68, .goto (-64)), (71, .iload_n 2), (72, .ireturn)]
theorem pr_Finder_total : prOK m_Finder_total P_Finder_total = true := by decide +kernel
def S_Finder_total : List (Nat × List Nat) := [(4, [0, 1, 2, 3]), (24, [0, 1, 2, 3, 4])]
theorem ev_Finder_total {d : Nat} {w : Wd} {Q : Int32 → Wd → Prop} (x1 : Int32) (h : Z m_Finder_total d (qI Q) 0 [(0, .ref 36), (1, .int x1)] [] w) : EvI m_Finder_total d [.ref 36, .int x1] w Q := Ev.ofZ (by decide +kernel) (Nat.le_of_ble_eq_true rfl) h
set_option maxRecDepth 20000 in
set_option maxHeartbeats 1000000 in
theorem vc_Finder_total_0 {d : Nat} {w : Wd} {Q : Int32 → Wd → Prop} (x1 : Int32) (h : Z m_Finder_total (d + 1) (qI Q) 4 [(0, .ref 36), (1, .int x1), (2, .int (nI 0)), (3, .int (nI 0))] [] w) : Z m_Finder_total (d + 1) (qI Q) 0 [(0, .ref 36), (1, .int x1)] [] w := wp_ok (P := P_Finder_total) (S := S_Finder_total) rfl pr_Finder_total 5 _ _ _ _ h
set_option maxRecDepth 20000 in
set_option maxHeartbeats 1000000 in
theorem vc_Finder_total_4 {d : Nat} {w : Wd} {Q : Int32 → Wd → Prop} (x1 : Int32) (x2 : Int32) (x3 : Int32) (h : ∃ Q1 : Int32 → Wd → Prop, EvI m_Sentences_came d [.ref 3] w Q1 ∧ ∀ (r1 : Int32) (w1 : Wd), Q1 r1 w1 → ((r1 ≤ x3 → Q x2 w1) ∧ (¬ r1 ≤ x3 → (((nI 40) ≤ x3 → Q x2 w1) ∧ (¬ (nI 40) ≤ x3 → Z m_Finder_total (d + 1) (qI Q) 24 [(0, .ref 36), (1, .int x1), (2, .int x2), (3, .int x3), (4, .int (nI 0))] [] w1))))) : Z m_Finder_total (d + 1) (qI Q) 4 [(0, .ref 36), (1, .int x1), (2, .int x2), (3, .int x3)] [] w := wp_ok (P := P_Finder_total) (S := S_Finder_total) rfl pr_Finder_total 11 _ _ _ _ h
set_option maxRecDepth 20000 in
set_option maxHeartbeats 1000000 in
theorem vc_Finder_total_24 {d : Nat} {w : Wd} {Q : Int32 → Wd → Prop} (x1 : Int32) (x2 : Int32) (x3 : Int32) (x4 : Int32) (h : (((nI 12) ≤ x4 → Z m_Finder_total (d + 1) (qI Q) 4 [(0, .ref 36), (1, .int x1), (2, .int x2), (3, .int (x3 + nI 1))] [] w) ∧ (¬ (nI 12) ≤ x4 → ∃ j1 : Nat, x3 = nI j1 ∧ j1 < 40 ∧ ((¬ (w.1 39 j1) = 0 → ∃ j2 : Nat, ((x3 * (nI 12)) + x4) = nI j2 ∧ j2 < 480 ∧ Z m_Finder_total (d + 1) (qI Q) 24 [(0, .ref 36), (1, .int x1), (2, .int (x2 + (w.1 38 j2))), (3, .int x3), (4, .int (x4 + nI 1))] [] w) ∧ ((w.1 39 j1) = 0 → ((¬ x1 = 0 → Z m_Finder_total (d + 1) (qI Q) 4 [(0, .ref 36), (1, .int x1), (2, .int x2), (3, .int (x3 + nI 1))] [] w) ∧ (x1 = 0 → ∃ j3 : Nat, ((x3 * (nI 12)) + x4) = nI j3 ∧ j3 < 480 ∧ Z m_Finder_total (d + 1) (qI Q) 24 [(0, .ref 36), (1, .int x1), (2, .int (x2 + (w.1 38 j3))), (3, .int x3), (4, .int (x4 + nI 1))] [] w))))))) : Z m_Finder_total (d + 1) (qI Q) 24 [(0, .ref 36), (1, .int x1), (2, .int x2), (3, .int x3), (4, .int x4)] [] w := wp_ok (P := P_Finder_total) (S := S_Finder_total) rfl pr_Finder_total 24 _ _ _ _ h
def P_Finder_totalOfRule : Prog := [(0, .iconst 0), (1, .istore_n 2), (2, .iconst 0), (3, .istore_n 3), (4, .iload_n 3), (5, .aload_n 0), (6, .getfield 32), (9, .invokevirtual 40), (12, .if_icmp .ge 39), (15, .iload_n 3), (16, .bipush 40), (18, .if_icmp .ge 33), (21, .iload_n 1), (22, .ifCond .lt 29), (25, .iload_n 1), (26, .bipush 12), (28, .if_icmp .ge 23), (31, .iload_n 2), (32, .aload_n 0), (33, .getfield 15), (36, .iload_n 3), (37, .bipush 12), (39, .imul), (40, .iload_n 1), (41, .iadd), (42, .iaload), (43, .iadd), (44, .istore_n 2), (45, .iinc 3 1), (48, .goto (-44)), (51, .iload_n 2), (52, .ireturn)]
theorem pr_Finder_totalOfRule : prOK m_Finder_totalOfRule P_Finder_totalOfRule = true := by decide +kernel
def S_Finder_totalOfRule : List (Nat × List Nat) := [(4, [0, 1, 2, 3])]
theorem ev_Finder_totalOfRule {d : Nat} {w : Wd} {Q : Int32 → Wd → Prop} (x1 : Int32) (h : Z m_Finder_totalOfRule d (qI Q) 0 [(0, .ref 36), (1, .int x1)] [] w) : EvI m_Finder_totalOfRule d [.ref 36, .int x1] w Q := Ev.ofZ (by decide +kernel) (Nat.le_of_ble_eq_true rfl) h
set_option maxRecDepth 20000 in
set_option maxHeartbeats 1000000 in
theorem vc_Finder_totalOfRule_0 {d : Nat} {w : Wd} {Q : Int32 → Wd → Prop} (x1 : Int32) (h : Z m_Finder_totalOfRule (d + 1) (qI Q) 4 [(0, .ref 36), (1, .int x1), (2, .int (nI 0)), (3, .int (nI 0))] [] w) : Z m_Finder_totalOfRule (d + 1) (qI Q) 0 [(0, .ref 36), (1, .int x1)] [] w := wp_ok (P := P_Finder_totalOfRule) (S := S_Finder_totalOfRule) rfl pr_Finder_totalOfRule 5 _ _ _ _ h
set_option maxRecDepth 20000 in
set_option maxHeartbeats 1000000 in
theorem vc_Finder_totalOfRule_4 {d : Nat} {w : Wd} {Q : Int32 → Wd → Prop} (x1 : Int32) (x2 : Int32) (x3 : Int32) (h : ∃ Q1 : Int32 → Wd → Prop, EvI m_Sentences_came d [.ref 3] w Q1 ∧ ∀ (r1 : Int32) (w1 : Wd), Q1 r1 w1 → ((r1 ≤ x3 → Q x2 w1) ∧ (¬ r1 ≤ x3 → (((nI 40) ≤ x3 → Q x2 w1) ∧ (¬ (nI 40) ≤ x3 → ((x1 < 0 → Q x2 w1) ∧ (¬ x1 < 0 → (((nI 12) ≤ x1 → Q x2 w1) ∧ (¬ (nI 12) ≤ x1 → ∃ j1 : Nat, ((x3 * (nI 12)) + x1) = nI j1 ∧ j1 < 480 ∧ Z m_Finder_totalOfRule (d + 1) (qI Q) 4 [(0, .ref 36), (1, .int x1), (2, .int (x2 + (w1.1 38 j1))), (3, .int (x3 + nI 1))] [] w1))))))))) : Z m_Finder_totalOfRule (d + 1) (qI Q) 4 [(0, .ref 36), (1, .int x1), (2, .int x2), (3, .int x3)] [] w := wp_ok (P := P_Finder_totalOfRule) (S := S_Finder_totalOfRule) rfl pr_Finder_totalOfRule 27 _ _ _ _ h
def P_Finder_tellOf : Prog := [(0, .iload_n 1), (1, .ifCond .ge 5), (4, .iconst (-1)), (5, .ireturn), (6, .iload_n 1), (7, .istore_n 3), (8, .iconst 0), (9, .istore 4), (11, .iload 4), (13, .aload_n 0), (14, .getfield 32), (17, .invokevirtual 40), (20, .if_icmp .ge 69), (23, .iload 4), (25, .bipush 40), (27, .if_icmp .ge 62), (30, .iconst 0), (31, .istore 5), (33, .iload 5), (35, .bipush 12), (37, .if_icmp .ge 46), (40, .aload_n 0), (41, .getfield 15), (44, .iload 4), (46, .bipush 12), (48, .imul), (49, .iload 5), (51, .iadd), (52, .iaload), (53, .istore 6), (55, .iload_n 3), (56, .iload 6), (58, .if_icmp .ge 14), (61, .aload_n 0), (62, .iload 4), (64, .iload 5), (66, .iload_n 3), (67, .iload_n 2), (68, .invokevirtual 138), (71, .ireturn), (72, .iload_n 3), (73, .iload 6), (75, .isub), (76, .istore_n 3), (77, .iinc 5 1), (80, .goto (-47)), (83, .iinc 4 1), (86, .goto (-75)), (89, .iconst (-1)), (90, .ireturn)]
theorem pr_Finder_tellOf : prOK m_Finder_tellOf P_Finder_tellOf = true := by decide +kernel
def S_Finder_tellOf : List (Nat × List Nat) := [(11, [0, 1, 2, 3, 4]), (33, [0, 1, 2, 3, 4, 5])]
theorem ev_Finder_tellOf {d : Nat} {w : Wd} {Q : Int32 → Wd → Prop} (x1 : Int32) (x2 : Int32) (h : Z m_Finder_tellOf d (qI Q) 0 [(0, .ref 36), (1, .int x1), (2, .int x2)] [] w) : EvI m_Finder_tellOf d [.ref 36, .int x1, .int x2] w Q := Ev.ofZ (by decide +kernel) (Nat.le_of_ble_eq_true rfl) h
set_option maxRecDepth 20000 in
set_option maxHeartbeats 1000000 in
theorem vc_Finder_tellOf_0 {d : Nat} {w : Wd} {Q : Int32 → Wd → Prop} (x1 : Int32) (x2 : Int32) (h : ((0 ≤ x1 → Z m_Finder_tellOf (d + 1) (qI Q) 11 [(0, .ref 36), (1, .int x1), (2, .int x2), (3, .int x1), (4, .int (nI 0))] [] w) ∧ (¬ 0 ≤ x1 → Q (-nI 1) w))) : Z m_Finder_tellOf (d + 1) (qI Q) 0 [(0, .ref 36), (1, .int x1), (2, .int x2)] [] w := wp_ok (P := P_Finder_tellOf) (S := S_Finder_tellOf) rfl pr_Finder_tellOf 7 _ _ _ _ h
set_option maxRecDepth 20000 in
set_option maxHeartbeats 1000000 in
theorem vc_Finder_tellOf_11 {d : Nat} {w : Wd} {Q : Int32 → Wd → Prop} (x1 : Int32) (x2 : Int32) (x3 : Int32) (x4 : Int32) (h : ∃ Q1 : Int32 → Wd → Prop, EvI m_Sentences_came d [.ref 3] w Q1 ∧ ∀ (r1 : Int32) (w1 : Wd), Q1 r1 w1 → ((r1 ≤ x4 → Q (-nI 1) w1) ∧ (¬ r1 ≤ x4 → (((nI 40) ≤ x4 → Q (-nI 1) w1) ∧ (¬ (nI 40) ≤ x4 → Z m_Finder_tellOf (d + 1) (qI Q) 33 [(0, .ref 36), (1, .int x1), (2, .int x2), (3, .int x3), (4, .int x4), (5, .int (nI 0))] [] w1))))) : Z m_Finder_tellOf (d + 1) (qI Q) 11 [(0, .ref 36), (1, .int x1), (2, .int x2), (3, .int x3), (4, .int x4)] [] w := wp_ok (P := P_Finder_tellOf) (S := S_Finder_tellOf) rfl pr_Finder_tellOf 11 _ _ _ _ h
set_option maxRecDepth 20000 in
set_option maxHeartbeats 1000000 in
theorem vc_Finder_tellOf_33 {d : Nat} {w : Wd} {Q : Int32 → Wd → Prop} (x1 : Int32) (x2 : Int32) (x3 : Int32) (x4 : Int32) (x5 : Int32) (h : (((nI 12) ≤ x5 → Z m_Finder_tellOf (d + 1) (qI Q) 11 [(0, .ref 36), (1, .int x1), (2, .int x2), (3, .int x3), (4, .int (x4 + nI 1))] [] w) ∧ (¬ (nI 12) ≤ x5 → ∃ j1 : Nat, ((x4 * (nI 12)) + x5) = nI j1 ∧ j1 < 480 ∧ (((w.1 38 j1) ≤ x3 → Z m_Finder_tellOf (d + 1) (qI Q) 33 [(0, .ref 36), (1, .int x1), (2, .int x2), (3, .int (x3 - (w.1 38 j1))), (4, .int x4), (5, .int (x5 + nI 1))] [] w) ∧ (¬ (w.1 38 j1) ≤ x3 → ∃ Q1 : Int32 → Wd → Prop, EvI m_Finder_tellWithin d [.ref 36, .int x4, .int x5, .int x3, .int x2] w Q1 ∧ ∀ (r1 : Int32) (w1 : Wd), Q1 r1 w1 → Q r1 w1))))) : Z m_Finder_tellOf (d + 1) (qI Q) 33 [(0, .ref 36), (1, .int x1), (2, .int x2), (3, .int x3), (4, .int x4), (5, .int x5)] [] w := wp_ok (P := P_Finder_tellOf) (S := S_Finder_tellOf) rfl pr_Finder_tellOf 23 _ _ _ _ h
def P_Finder_tellWithin : Prog := [(0, .iload_n 3), (1, .istore 5), (3, .iconst 0), (4, .istore 6), (6, .iload 6), (8, .bipush 16), (10, .if_icmp .ge 59), (13, .iconst 0), (14, .istore 7), (16, .iload 7), (18, .bipush 16), (20, .if_icmp .ge 43), (23, .aload_n 0), (24, .iload_n 1), (25, .iload_n 2), (26, .iload 6), (28, .iload 7), (30, .invokevirtual 141), (33, .ifCond .eq 24), (36, .iload 5), (38, .ifCond .ne 16), (41, .aload_n 0), (42, .iload_n 1), (43, .iload_n 2), (44, .iload 6), (46, .iload 7), (48, .iload 4), (50, .invokevirtual 145), (53, .ireturn), (54, .iinc 5 (-1)), (57, .iinc 7 1), (60, .goto (-44)), (63, .iinc 6 1), (66, .goto (-60)), (69, .iconst (-1)), (70, .ireturn)]
theorem pr_Finder_tellWithin : prOK m_Finder_tellWithin P_Finder_tellWithin = true := by decide +kernel
def S_Finder_tellWithin : List (Nat × List Nat) := [(6, [0, 1, 2, 3, 4, 5, 6]), (16, [0, 1, 2, 3, 4, 5, 6, 7])]
theorem ev_Finder_tellWithin {d : Nat} {w : Wd} {Q : Int32 → Wd → Prop} (x1 : Int32) (x2 : Int32) (x3 : Int32) (x4 : Int32) (h : Z m_Finder_tellWithin d (qI Q) 0 [(0, .ref 36), (1, .int x1), (2, .int x2), (3, .int x3), (4, .int x4)] [] w) : EvI m_Finder_tellWithin d [.ref 36, .int x1, .int x2, .int x3, .int x4] w Q := Ev.ofZ (by decide +kernel) (Nat.le_of_ble_eq_true rfl) h
set_option maxRecDepth 20000 in
set_option maxHeartbeats 1000000 in
theorem vc_Finder_tellWithin_0 {d : Nat} {w : Wd} {Q : Int32 → Wd → Prop} (x1 : Int32) (x2 : Int32) (x3 : Int32) (x4 : Int32) (h : Z m_Finder_tellWithin (d + 1) (qI Q) 6 [(0, .ref 36), (1, .int x1), (2, .int x2), (3, .int x3), (4, .int x4), (5, .int x3), (6, .int (nI 0))] [] w) : Z m_Finder_tellWithin (d + 1) (qI Q) 0 [(0, .ref 36), (1, .int x1), (2, .int x2), (3, .int x3), (4, .int x4)] [] w := wp_ok (P := P_Finder_tellWithin) (S := S_Finder_tellWithin) rfl pr_Finder_tellWithin 5 _ _ _ _ h
set_option maxRecDepth 20000 in
set_option maxHeartbeats 1000000 in
theorem vc_Finder_tellWithin_6 {d : Nat} {w : Wd} {Q : Int32 → Wd → Prop} (x1 : Int32) (x2 : Int32) (x3 : Int32) (x4 : Int32) (x5 : Int32) (x6 : Int32) (h : (((nI 16) ≤ x6 → Q (-nI 1) w) ∧ (¬ (nI 16) ≤ x6 → Z m_Finder_tellWithin (d + 1) (qI Q) 16 [(0, .ref 36), (1, .int x1), (2, .int x2), (3, .int x3), (4, .int x4), (5, .int x5), (6, .int x6), (7, .int (nI 0))] [] w))) : Z m_Finder_tellWithin (d + 1) (qI Q) 6 [(0, .ref 36), (1, .int x1), (2, .int x2), (3, .int x3), (4, .int x4), (5, .int x5), (6, .int x6)] [] w := wp_ok (P := P_Finder_tellWithin) (S := S_Finder_tellWithin) rfl pr_Finder_tellWithin 6 _ _ _ _ h
set_option maxRecDepth 20000 in
set_option maxHeartbeats 1000000 in
theorem vc_Finder_tellWithin_16 {d : Nat} {w : Wd} {Q : Int32 → Wd → Prop} (x1 : Int32) (x2 : Int32) (x3 : Int32) (x4 : Int32) (x5 : Int32) (x6 : Int32) (x7 : Int32) (h : (((nI 16) ≤ x7 → Z m_Finder_tellWithin (d + 1) (qI Q) 6 [(0, .ref 36), (1, .int x1), (2, .int x2), (3, .int x3), (4, .int x4), (5, .int x5), (6, .int (x6 + nI 1))] [] w) ∧ (¬ (nI 16) ≤ x7 → ∃ Q1 : Int32 → Wd → Prop, EvI m_Finder_has d [.ref 36, .int x1, .int x2, .int x6, .int x7] w Q1 ∧ ∀ (r1 : Int32) (w1 : Wd), Q1 r1 w1 → ((r1 = 0 → Z m_Finder_tellWithin (d + 1) (qI Q) 16 [(0, .ref 36), (1, .int x1), (2, .int x2), (3, .int x3), (4, .int x4), (5, .int x5), (6, .int x6), (7, .int (x7 + nI 1))] [] w1) ∧ (¬ r1 = 0 → ((¬ x5 = 0 → Z m_Finder_tellWithin (d + 1) (qI Q) 16 [(0, .ref 36), (1, .int x1), (2, .int x2), (3, .int x3), (4, .int x4), (5, .int (x5 + (-nI 1))), (6, .int x6), (7, .int (x7 + nI 1))] [] w1) ∧ (x5 = 0 → ∃ Q2 : Int32 → Wd → Prop, EvI m_Finder_part d [.ref 36, .int x1, .int x2, .int x6, .int x7, .int x4] w1 Q2 ∧ ∀ (r2 : Int32) (w2 : Wd), Q2 r2 w2 → Q r2 w2))))))) : Z m_Finder_tellWithin (d + 1) (qI Q) 16 [(0, .ref 36), (1, .int x1), (2, .int x2), (3, .int x3), (4, .int x4), (5, .int x5), (6, .int x6), (7, .int x7)] [] w := wp_ok (P := P_Finder_tellWithin) (S := S_Finder_tellWithin) rfl pr_Finder_tellWithin 21 _ _ _ _ h
def P_Finder_part : Prog := [(0, .iload 5), (2, .tableswitch 70 0 5 #[38, 40, 42, 44, 47, 61]), (40, .iload_n 1), (41, .ireturn), (42, .iload_n 2), (43, .ireturn), (44, .iload_n 3), (45, .ireturn), (46, .iload 4), (48, .ireturn), (49, .aload_n 0), (50, .iload_n 1), (51, .invokevirtual 149), (54, .ifCond .eq 7), (57, .iconst 1), (58, .goto 4), (61, .iconst 0), (62, .ireturn), (63, .aload_n 0), (64, .getfield 36), (67, .iload_n 2), (68, .invokevirtual 150), (71, .ireturn), (72, .iconst (-1)), (73, .ireturn)]
theorem pr_Finder_part : prOK m_Finder_part P_Finder_part = true := by decide +kernel
def S_Finder_part : List (Nat × List Nat) := []
theorem ev_Finder_part {d : Nat} {w : Wd} {Q : Int32 → Wd → Prop} (x1 : Int32) (x2 : Int32) (x3 : Int32) (x4 : Int32) (x5 : Int32) (h : Z m_Finder_part d (qI Q) 0 [(0, .ref 36), (1, .int x1), (2, .int x2), (3, .int x3), (4, .int x4), (5, .int x5)] [] w) : EvI m_Finder_part d [.ref 36, .int x1, .int x2, .int x3, .int x4, .int x5] w Q := Ev.ofZ (by decide +kernel) (Nat.le_of_ble_eq_true rfl) h
set_option maxRecDepth 20000 in
set_option maxHeartbeats 1000000 in
theorem vc_Finder_part_0 {d : Nat} {w : Wd} {Q : Int32 → Wd → Prop} (x1 : Int32) (x2 : Int32) (x3 : Int32) (x4 : Int32) (x5 : Int32) (h : ((x5 = nI 0 → Q x1 w) ∧ (¬ x5 = nI 0 → ((x5 = nI 1 → Q x2 w) ∧ (¬ x5 = nI 1 → ((x5 = nI 2 → Q x3 w) ∧ (¬ x5 = nI 2 → ((x5 = nI 3 → Q x4 w) ∧ (¬ x5 = nI 3 → ((x5 = nI 4 → ∃ Q1 : Int32 → Wd → Prop, EvI m_Finder_isBarred d [.ref 36, .int x1] w Q1 ∧ ∀ (r1 : Int32) (w1 : Wd), Q1 r1 w1 → ((r1 = 0 → Q (nI 0) w1) ∧ (¬ r1 = 0 → Q (nI 1) w1))) ∧ (¬ x5 = nI 4 → ((x5 = nI 5 → ∃ Q2 : Int32 → Wd → Prop, EvI m_Book_relationOf d [.ref 25, .int x2] w Q2 ∧ ∀ (r2 : Int32) (w2 : Wd), Q2 r2 w2 → Q r2 w2) ∧ (¬ x5 = nI 5 → Q (-nI 1) w))))))))))))) : Z m_Finder_part (d + 1) (qI Q) 0 [(0, .ref 36), (1, .int x1), (2, .int x2), (3, .int x3), (4, .int x4), (5, .int x5)] [] w := wp_ok (P := P_Finder_part) (S := S_Finder_part) rfl pr_Finder_part 10 _ _ _ _ h
end
section
def P_Table_forget : Prog := [(0, .aload_n 0), (1, .iconst 1), (2, .putfield 34), (5, .return_)]
theorem pr_Table_forget : prOK m_Table_forget P_Table_forget = true := by decide +kernel
def S_Table_forget : List (Nat × List Nat) := []
theorem ev_Table_forget {d : Nat} {w : Wd} {Q : Wd → Prop}  (h : Z m_Table_forget d (qV Q) 0 [(0, .ref 42)] [] w) : EvV m_Table_forget d [.ref 42] w Q := Ev.ofZ (by decide +kernel) (Nat.le_of_ble_eq_true rfl) h
set_option maxRecDepth 20000 in
set_option maxHeartbeats 1000000 in
theorem vc_Table_forget_0 {d : Nat} {w : Wd} {Q : Wd → Prop}  (h : ((nI 1) = 0 ∨ (nI 1) = 1) ∧ Q (up1 w 42 6 (nI 1))) : Z m_Table_forget d (qV Q) 0 [(0, .ref 42)] [] w := wp_ok (P := P_Table_forget) (S := S_Table_forget) rfl pr_Table_forget 5 _ _ _ _ h
def P_Table_refresh : Prog := [(0, .aload_n 0), (1, .getfield 34), (4, .ifCond .ne 4), (7, .return_), (8, .aload_n 0), (9, .iconst 0), (10, .putfield 34), (13, .aload_n 0), (14, .getfield 11), (17, .lconst 0), (18, .invokestatic 38), (21, .aload_n 0), (22, .getfield 15), (25, .lconst 0), (26, .invokestatic 38), (29, .iconst 0), (30, .istore_n 1), (31, .iload_n 1), (32, .aload_n 0), (33, .getfield 22), (36, .invokevirtual 44), (39, .if_icmp .ge 25), (42, .aload_n 0), (43, .getfield 30), (46, .iload_n 1), (47, .invokevirtual 50), (50, .ifCond .ne 8), (53, .aload_n 0), (54, .iload_n 1), (55, .invokevirtual 56), (58, .iinc 1 1), (61, .goto (-30)), (64, .aload_n 0), (65, .invokevirtual 60), (68, .return_)]
theorem pr_Table_refresh : prOK m_Table_refresh P_Table_refresh = true := by decide +kernel
def S_Table_refresh : List (Nat × List Nat) := [(31, [0, 1])]
theorem ev_Table_refresh {d : Nat} {w : Wd} {Q : Wd → Prop}  (h : Z m_Table_refresh d (qV Q) 0 [(0, .ref 42)] [] w) : EvV m_Table_refresh d [.ref 42] w Q := Ev.ofZ (by decide +kernel) (Nat.le_of_ble_eq_true rfl) h
set_option maxRecDepth 20000 in
set_option maxHeartbeats 1000000 in
theorem vc_Table_refresh_0 {d : Nat} {w : Wd} {Q : Wd → Prop}  (h : ((¬ (w.1 42 6) = 0 → ((nI 0) = 0 ∨ (nI 0) = 1) ∧ ∃ Q1 : Wd → Prop, EvV m_Arrays_fill d [.ref 43, .long (lN 0)] (up1 w 42 6 (nI 0)) Q1 ∧ ∀ w1 : Wd, Q1 w1 → ∃ Q2 : Wd → Prop, EvV m_Arrays_fill d [.ref 44, .long (lN 0)] w1 Q2 ∧ ∀ w2 : Wd, Q2 w2 → Z m_Table_refresh (d + 1) (qV Q) 31 [(0, .ref 42), (1, .int (nI 0))] [] w2) ∧ ((w.1 42 6) = 0 → Q w))) : Z m_Table_refresh (d + 1) (qV Q) 0 [(0, .ref 42)] [] w := wp_ok (P := P_Table_refresh) (S := S_Table_refresh) rfl pr_Table_refresh 17 _ _ _ _ h
set_option maxRecDepth 20000 in
set_option maxHeartbeats 1000000 in
theorem vc_Table_refresh_31 {d : Nat} {w : Wd} {Q : Wd → Prop} (x1 : Int32) (h : ∃ Q1 : Int32 → Wd → Prop, EvI m_Sentences_came d [.ref 3] w Q1 ∧ ∀ (r1 : Int32) (w1 : Wd), Q1 r1 w1 → ((r1 ≤ x1 → ∃ Q2 : Wd → Prop, EvV m_Table_followChains d [.ref 42] w1 Q2 ∧ ∀ w2 : Wd, Q2 w2 → Q w2) ∧ (¬ r1 ≤ x1 → ∃ Q3 : Int32 → Wd → Prop, EvI m_Finder_isBarred d [.ref 36, .int x1] w1 Q3 ∧ ∀ (r3 : Int32) (w3 : Wd), Q3 r3 w3 → ((¬ r3 = 0 → Z m_Table_refresh (d + 1) (qV Q) 31 [(0, .ref 42), (1, .int (x1 + nI 1))] [] w3) ∧ (r3 = 0 → ∃ Q4 : Wd → Prop, EvV m_Table_addFindsOf d [.ref 42, .int x1] w3 Q4 ∧ ∀ w4 : Wd, Q4 w4 → Z m_Table_refresh (d + 1) (qV Q) 31 [(0, .ref 42), (1, .int (x1 + nI 1))] [] w4))))) : Z m_Table_refresh (d + 1) (qV Q) 31 [(0, .ref 42), (1, .int x1)] [] w := wp_ok (P := P_Table_refresh) (S := S_Table_refresh) rfl pr_Table_refresh 16 _ _ _ _ h
def P_Table_addFindsOf : Prog := [(0, .iconst 0), (1, .istore_n 2), (2, .iload_n 2), (3, .aload_n 0), (4, .getfield 26), (7, .invokevirtual 63), (10, .if_icmp .ge 91), (13, .iconst 0), (14, .istore_n 3), (15, .iload_n 3), (16, .bipush 16), (18, .if_icmp .ge 77), (21, .aload_n 0), (22, .getfield 30), (25, .iload_n 1), (26, .iload_n 2), (27, .iload_n 3), (28, .invokevirtual 68), (31, .istore 4), (33, .iconst 0), (34, .istore 5), (36, .iload 5), (38, .bipush 16), (40, .if_icmp .ge 49), (43, .iload 4), (45, .ifCond .eq 44), (48, .iload 4), (50, .iload 5), (52, .ishr), (53, .iconst 1), (54, .iand), (55, .ifCond .eq 28), (58, .aload_n 0), (59, .aload_n 0), (60, .getfield 26), (63, .iload_n 2), (64, .invokevirtual 72), (67, .aload_n 0), (68, .iload_n 1), (69, .iload_n 3), (70, .invokevirtual 76), (73, .aload_n 0), (74, .iload_n 1), (75, .iload 5), (77, .invokevirtual 76), (80, .invokevirtual 80), (83, .iinc 5 1), (86, .goto (-50)), (89, .iinc 3 1), (92, .goto (-77)), (95, .iinc 2 1), (98, .goto (-96)), (101, .return_)]
theorem pr_Table_addFindsOf : prOK m_Table_addFindsOf P_Table_addFindsOf = true := by decide +kernel
def S_Table_addFindsOf : List (Nat × List Nat) := [(2, [0, 1, 2]), (15, [0, 1, 2, 3]), (36, [0, 1, 2, 3, 4, 5])]
theorem ev_Table_addFindsOf {d : Nat} {w : Wd} {Q : Wd → Prop} (x1 : Int32) (h : Z m_Table_addFindsOf d (qV Q) 0 [(0, .ref 42), (1, .int x1)] [] w) : EvV m_Table_addFindsOf d [.ref 42, .int x1] w Q := Ev.ofZ (by decide +kernel) (Nat.le_of_ble_eq_true rfl) h
set_option maxRecDepth 20000 in
set_option maxHeartbeats 1000000 in
theorem vc_Table_addFindsOf_0 {d : Nat} {w : Wd} {Q : Wd → Prop} (x1 : Int32) (h : Z m_Table_addFindsOf (d + 1) (qV Q) 2 [(0, .ref 42), (1, .int x1), (2, .int (nI 0))] [] w) : Z m_Table_addFindsOf (d + 1) (qV Q) 0 [(0, .ref 42), (1, .int x1)] [] w := wp_ok (P := P_Table_addFindsOf) (S := S_Table_addFindsOf) rfl pr_Table_addFindsOf 3 _ _ _ _ h
set_option maxRecDepth 20000 in
set_option maxHeartbeats 1000000 in
theorem vc_Table_addFindsOf_2 {d : Nat} {w : Wd} {Q : Wd → Prop} (x1 : Int32) (x2 : Int32) (h : ∃ Q1 : Int32 → Wd → Prop, EvI m_Book_rules d [.ref 25] w Q1 ∧ ∀ (r1 : Int32) (w1 : Wd), Q1 r1 w1 → ((r1 ≤ x2 → Q w1) ∧ (¬ r1 ≤ x2 → Z m_Table_addFindsOf (d + 1) (qV Q) 15 [(0, .ref 42), (1, .int x1), (2, .int x2), (3, .int (nI 0))] [] w1))) : Z m_Table_addFindsOf (d + 1) (qV Q) 2 [(0, .ref 42), (1, .int x1), (2, .int x2)] [] w := wp_ok (P := P_Table_addFindsOf) (S := S_Table_addFindsOf) rfl pr_Table_addFindsOf 8 _ _ _ _ h
set_option maxRecDepth 20000 in
set_option maxHeartbeats 1000000 in
theorem vc_Table_addFindsOf_15 {d : Nat} {w : Wd} {Q : Wd → Prop} (x1 : Int32) (x2 : Int32) (x3 : Int32) (h : (((nI 16) ≤ x3 → Z m_Table_addFindsOf (d + 1) (qV Q) 2 [(0, .ref 42), (1, .int x1), (2, .int (x2 + nI 1))] [] w) ∧ (¬ (nI 16) ≤ x3 → ∃ Q1 : Int32 → Wd → Prop, EvI m_Finder_rightPlaces d [.ref 36, .int x1, .int x2, .int x3] w Q1 ∧ ∀ (r1 : Int32) (w1 : Wd), Q1 r1 w1 → Z m_Table_addFindsOf (d + 1) (qV Q) 36 [(0, .ref 42), (1, .int x1), (2, .int x2), (3, .int x3), (4, .int r1), (5, .int (nI 0))] [] w1))) : Z m_Table_addFindsOf (d + 1) (qV Q) 15 [(0, .ref 42), (1, .int x1), (2, .int x2), (3, .int x3)] [] w := wp_ok (P := P_Table_addFindsOf) (S := S_Table_addFindsOf) rfl pr_Table_addFindsOf 13 _ _ _ _ h
set_option maxRecDepth 20000 in
set_option maxHeartbeats 1000000 in
theorem vc_Table_addFindsOf_36 {d : Nat} {w : Wd} {Q : Wd → Prop} (x1 : Int32) (x2 : Int32) (x3 : Int32) (x4 : Int32) (x5 : Int32) (h : (((nI 16) ≤ x5 → Z m_Table_addFindsOf (d + 1) (qV Q) 15 [(0, .ref 42), (1, .int x1), (2, .int x2), (3, .int (x3 + nI 1))] [] w) ∧ (¬ (nI 16) ≤ x5 → ((x4 = 0 → Z m_Table_addFindsOf (d + 1) (qV Q) 15 [(0, .ref 42), (1, .int x1), (2, .int x2), (3, .int (x3 + nI 1))] [] w) ∧ (¬ x4 = 0 → ((((x4 >>> (x5 &&& 31)) &&& (nI 1)) = 0 → Z m_Table_addFindsOf (d + 1) (qV Q) 36 [(0, .ref 42), (1, .int x1), (2, .int x2), (3, .int x3), (4, .int x4), (5, .int (x5 + nI 1))] [] w) ∧ (¬ ((x4 >>> (x5 &&& 31)) &&& (nI 1)) = 0 → ∃ Q1 : Int32 → Wd → Prop, EvI m_Book_relationOf d [.ref 25, .int x2] w Q1 ∧ ∀ (r1 : Int32) (w1 : Wd), Q1 r1 w1 → ∃ Q2 : Int32 → Wd → Prop, EvI m_Table_nameAt d [.ref 42, .int x1, .int x3] w1 Q2 ∧ ∀ (r2 : Int32) (w2 : Wd), Q2 r2 w2 → ∃ Q3 : Int32 → Wd → Prop, EvI m_Table_nameAt d [.ref 42, .int x1, .int x5] w2 Q3 ∧ ∀ (r3 : Int32) (w3 : Wd), Q3 r3 w3 → ∃ Q4 : Wd → Prop, EvV m_Table_addRow d [.ref 42, .int r1, .int r2, .int r3] w3 Q4 ∧ ∀ w4 : Wd, Q4 w4 → Z m_Table_addFindsOf (d + 1) (qV Q) 36 [(0, .ref 42), (1, .int x1), (2, .int x2), (3, .int x3), (4, .int x4), (5, .int (x5 + nI 1))] [] w4))))))) : Z m_Table_addFindsOf (d + 1) (qV Q) 36 [(0, .ref 42), (1, .int x1), (2, .int x2), (3, .int x3), (4, .int x4), (5, .int x5)] [] w := wp_ok (P := P_Table_addFindsOf) (S := S_Table_addFindsOf) rfl pr_Table_addFindsOf 28 _ _ _ _ h
def P_Table_nameAt : Prog := [(0, .aload_n 0), (1, .getfield 18), (4, .aload_n 0), (5, .getfield 22), (8, .iload_n 1), (9, .iload_n 2), (10, .invokevirtual 84), (13, .invokevirtual 87), (16, .ireturn)]
theorem pr_Table_nameAt : prOK m_Table_nameAt P_Table_nameAt = true := by decide +kernel
def S_Table_nameAt : List (Nat × List Nat) := []
theorem ev_Table_nameAt {d : Nat} {w : Wd} {Q : Int32 → Wd → Prop} (x1 : Int32) (x2 : Int32) (h : Z m_Table_nameAt d (qI Q) 0 [(0, .ref 42), (1, .int x1), (2, .int x2)] [] w) : EvI m_Table_nameAt d [.ref 42, .int x1, .int x2] w Q := Ev.ofZ (by decide +kernel) (Nat.le_of_ble_eq_true rfl) h
set_option maxRecDepth 20000 in
set_option maxHeartbeats 1000000 in
theorem vc_Table_nameAt_0 {d : Nat} {w : Wd} {Q : Int32 → Wd → Prop} (x1 : Int32) (x2 : Int32) (h : ∃ Q1 : Int32 → Wd → Prop, EvI m_Sentences_wordAt d [.ref 3, .int x1, .int x2] w Q1 ∧ ∀ (r1 : Int32) (w1 : Wd), Q1 r1 w1 → ∃ Q2 : Int32 → Wd → Prop, EvI m_Lexicon_nameOf d [.ref 0, .int r1] w1 Q2 ∧ ∀ (r2 : Int32) (w2 : Wd), Q2 r2 w2 → Q r2 w2) : Z m_Table_nameAt (d + 1) (qI Q) 0 [(0, .ref 42), (1, .int x1), (2, .int x2)] [] w := wp_ok (P := P_Table_nameAt) (S := S_Table_nameAt) rfl pr_Table_nameAt 10 _ _ _ _ h
def P_Table_addRow : Prog := [(0, .iload_n 1), (1, .invokestatic 92), (4, .ifCond .eq 17), (7, .iload_n 2), (8, .invokestatic 95), (11, .ifCond .eq 10), (14, .iload_n 3), (15, .invokestatic 95), (18, .ifCond .ne 4), (21, .return_), (22, .iload_n 3), (23, .bipush 64), (25, .if_icmp .ge 23), (28, .aload_n 0), (29, .getfield 11), (32, .iload_n 1), (33, .bipush 101), (35, .imul), (36, .iload_n 2), (37, .iadd), (38, .dup2), (39, .laload), (40, .lconst 1), (41, .iload_n 3), (42, .lshl), (43, .lor), (44, .lastore), (45, .goto 23), (48, .aload_n 0), (49, .getfield 15), (52, .iload_n 1), (53, .bipush 101), (55, .imul), (56, .iload_n 2), (57, .iadd), (58, .dup2), (59, .laload), (60, .lconst 1), (61, .iload_n 3), (62, .bipush 64), (64, .isub), (65, .lshl), (66, .lor), (67, .lastore), (68, .return_)]
theorem pr_Table_addRow : prOK m_Table_addRow P_Table_addRow = true := by decide +kernel
def S_Table_addRow : List (Nat × List Nat) := []
theorem ev_Table_addRow {d : Nat} {w : Wd} {Q : Wd → Prop} (x1 : Int32) (x2 : Int32) (x3 : Int32) (h : Z m_Table_addRow d (qV Q) 0 [(0, .ref 42), (1, .int x1), (2, .int x2), (3, .int x3)] [] w) : EvV m_Table_addRow d [.ref 42, .int x1, .int x2, .int x3] w Q := Ev.ofZ (by decide +kernel) (Nat.le_of_ble_eq_true rfl) h
set_option maxRecDepth 20000 in
set_option maxHeartbeats 1000000 in
theorem vc_Table_addRow_0 {d : Nat} {w : Wd} {Q : Wd → Prop} (x1 : Int32) (x2 : Int32) (x3 : Int32) (h : ∃ Q1 : Int32 → Wd → Prop, EvI m_D_isRelation d [.int x1] w Q1 ∧ ∀ (r1 : Int32) (w1 : Wd), Q1 r1 w1 → ((r1 = 0 → Q w1) ∧ (¬ r1 = 0 → ∃ Q2 : Int32 → Wd → Prop, EvI m_Lexicon_has d [.int x2] w1 Q2 ∧ ∀ (r2 : Int32) (w2 : Wd), Q2 r2 w2 → ((r2 = 0 → Q w2) ∧ (¬ r2 = 0 → ∃ Q3 : Int32 → Wd → Prop, EvI m_Lexicon_has d [.int x3] w2 Q3 ∧ ∀ (r3 : Int32) (w3 : Wd), Q3 r3 w3 → ((¬ r3 = 0 → (((nI 64) ≤ x3 → ∃ j1 : Nat, ((x1 * (nI 101)) + x2) = nI j1 ∧ j1 < 1010 ∧ ∃ j2 : Nat, ((x1 * (nI 101)) + x2) = nI j2 ∧ j2 < 1010 ∧ Q (up2 w3 44 j2 ((w3.2 44 j1) ||| ((lN 1) <<< ((x3 - (nI 64)).toInt64 &&& 63))))) ∧ (¬ (nI 64) ≤ x3 → ∃ j3 : Nat, ((x1 * (nI 101)) + x2) = nI j3 ∧ j3 < 1010 ∧ ∃ j4 : Nat, ((x1 * (nI 101)) + x2) = nI j4 ∧ j4 < 1010 ∧ Q (up2 w3 43 j4 ((w3.2 43 j3) ||| ((lN 1) <<< (x3.toInt64 &&& 63))))))) ∧ (r3 = 0 → Q w3))))))) : Z m_Table_addRow (d + 1) (qV Q) 0 [(0, .ref 42), (1, .int x1), (2, .int x2), (3, .int x3)] [] w := wp_ok (P := P_Table_addRow) (S := S_Table_addRow) rfl pr_Table_addRow 30 _ _ _ _ h
def P_Table_followChains : Prog := [(0, .iconst 1), (1, .istore_n 1), (2, .iconst 0), (3, .istore_n 2), (4, .iload_n 2), (5, .ldc 98), (7, .if_icmp .ge 67), (10, .iload_n 1), (11, .ifCond .eq 63), (14, .iconst 0), (15, .istore_n 1), (16, .iconst 0), (17, .istore_n 3), (18, .iload_n 3), (19, .aload_n 0), (20, .getfield 26), (23, .invokevirtual 99), (26, .if_icmp .ge 42), (29, .aload_n 0), (30, .aload_n 0), (31, .getfield 26), (34, .iload_n 3), (35, .invokevirtual 102), (38, .aload_n 0), (39, .getfield 26), (42, .iload_n 3), (43, .invokevirtual 105), (46, .aload_n 0), (47, .getfield 26), (50, .iload_n 3), (51, .invokevirtual 108), (54, .invokevirtual 111), (57, .ifCond .eq 5), (60, .iconst 1), (61, .istore_n 1), (62, .iinc 3 1), (65, .goto (-47)), (68, .iinc 2 1), (71, .goto (-67)), (74, .return_)]
theorem pr_Table_followChains : prOK m_Table_followChains P_Table_followChains = true := by decide +kernel
def S_Table_followChains : List (Nat × List Nat) := [(4, [0, 1, 2]), (18, [0, 1, 2, 3])]
theorem ev_Table_followChains {d : Nat} {w : Wd} {Q : Wd → Prop}  (h : Z m_Table_followChains d (qV Q) 0 [(0, .ref 42)] [] w) : EvV m_Table_followChains d [.ref 42] w Q := Ev.ofZ (by decide +kernel) (Nat.le_of_ble_eq_true rfl) h
set_option maxRecDepth 20000 in
set_option maxHeartbeats 1000000 in
theorem vc_Table_followChains_0 {d : Nat} {w : Wd} {Q : Wd → Prop}  (h : Z m_Table_followChains (d + 1) (qV Q) 4 [(0, .ref 42), (1, .int (nI 1)), (2, .int (nI 0))] [] w) : Z m_Table_followChains (d + 1) (qV Q) 0 [(0, .ref 42)] [] w := wp_ok (P := P_Table_followChains) (S := S_Table_followChains) rfl pr_Table_followChains 5 _ _ _ _ h
set_option maxRecDepth 20000 in
set_option maxHeartbeats 1000000 in
theorem vc_Table_followChains_4 {d : Nat} {w : Wd} {Q : Wd → Prop} (x1 : Int32) (x2 : Int32) (h : (((100001 : Int32) ≤ x2 → Q w) ∧ (¬ (100001 : Int32) ≤ x2 → ((x1 = 0 → Q w) ∧ (¬ x1 = 0 → Z m_Table_followChains (d + 1) (qV Q) 18 [(0, .ref 42), (1, .int (nI 0)), (2, .int x2), (3, .int (nI 0))] [] w))))) : Z m_Table_followChains (d + 1) (qV Q) 4 [(0, .ref 42), (1, .int x1), (2, .int x2)] [] w := wp_ok (P := P_Table_followChains) (S := S_Table_followChains) rfl pr_Table_followChains 10 _ _ _ _ h
set_option maxRecDepth 20000 in
set_option maxHeartbeats 1000000 in
theorem vc_Table_followChains_18 {d : Nat} {w : Wd} {Q : Wd → Prop} (x1 : Int32) (x2 : Int32) (x3 : Int32) (h : ∃ Q1 : Int32 → Wd → Prop, EvI m_Book_chains d [.ref 25] w Q1 ∧ ∀ (r1 : Int32) (w1 : Wd), Q1 r1 w1 → ((r1 ≤ x3 → Z m_Table_followChains (d + 1) (qV Q) 4 [(0, .ref 42), (1, .int x1), (2, .int (x2 + nI 1))] [] w1) ∧ (¬ r1 ≤ x3 → ∃ Q2 : Int32 → Wd → Prop, EvI m_Book_chainGoal d [.ref 25, .int x3] w1 Q2 ∧ ∀ (r2 : Int32) (w2 : Wd), Q2 r2 w2 → ∃ Q3 : Int32 → Wd → Prop, EvI m_Book_chainFirst d [.ref 25, .int x3] w2 Q3 ∧ ∀ (r3 : Int32) (w3 : Wd), Q3 r3 w3 → ∃ Q4 : Int32 → Wd → Prop, EvI m_Book_chainSecond d [.ref 25, .int x3] w3 Q4 ∧ ∀ (r4 : Int32) (w4 : Wd), Q4 r4 w4 → ∃ Q5 : Int32 → Wd → Prop, EvI m_Table_followChain d [.ref 42, .int r2, .int r3, .int r4] w4 Q5 ∧ ∀ (r5 : Int32) (w5 : Wd), Q5 r5 w5 → ((r5 = 0 → Z m_Table_followChains (d + 1) (qV Q) 18 [(0, .ref 42), (1, .int x1), (2, .int x2), (3, .int (x3 + nI 1))] [] w5) ∧ (¬ r5 = 0 → Z m_Table_followChains (d + 1) (qV Q) 18 [(0, .ref 42), (1, .int (nI 1)), (2, .int x2), (3, .int (x3 + nI 1))] [] w5))))) : Z m_Table_followChains (d + 1) (qV Q) 18 [(0, .ref 42), (1, .int x1), (2, .int x2), (3, .int x3)] [] w := wp_ok (P := P_Table_followChains) (S := S_Table_followChains) rfl pr_Table_followChains 25 _ _ _ _ h
def P_Table_followChain : Prog := [(0, .iload_n 1), (1, .invokestatic 92), (4, .ifCond .eq 17), (7, .iload_n 2), (8, .invokestatic 92), (11, .ifCond .eq 10), (14, .iload_n 3), (15, .invokestatic 92), (18, .ifCond .ne 5), (21, .iconst 0), (22, .ireturn), (23, .iconst 0), (24, .istore 4), (26, .iconst 1), (27, .istore 5), (29, .iload 5), (31, .bipush 100), (33, .if_icmp .gt 34), (36, .aload_n 0), (37, .iload_n 2), (38, .iload 5), (40, .invokevirtual 115), (43, .ifCond .le 18), (46, .aload_n 0), (47, .iload 5), (49, .iload_n 1), (50, .iload_n 2), (51, .iload_n 3), (52, .invokevirtual 118), (55, .ifCond .eq 6), (58, .iconst 1), (59, .istore 4), (61, .iinc 5 1), (64, .goto (-35)), (67, .iload 4), (69, .ireturn)]
theorem pr_Table_followChain : prOK m_Table_followChain P_Table_followChain = true := by decide +kernel
def S_Table_followChain : List (Nat × List Nat) := [(29, [0, 1, 2, 3, 4, 5])]
theorem ev_Table_followChain {d : Nat} {w : Wd} {Q : Int32 → Wd → Prop} (x1 : Int32) (x2 : Int32) (x3 : Int32) (h : Z m_Table_followChain d (qI Q) 0 [(0, .ref 42), (1, .int x1), (2, .int x2), (3, .int x3)] [] w) : EvI m_Table_followChain d [.ref 42, .int x1, .int x2, .int x3] w Q := Ev.ofZ (by decide +kernel) (Nat.le_of_ble_eq_true rfl) h
set_option maxRecDepth 20000 in
set_option maxHeartbeats 1000000 in
theorem vc_Table_followChain_0 {d : Nat} {w : Wd} {Q : Int32 → Wd → Prop} (x1 : Int32) (x2 : Int32) (x3 : Int32) (h : ∃ Q1 : Int32 → Wd → Prop, EvI m_D_isRelation d [.int x1] w Q1 ∧ ∀ (r1 : Int32) (w1 : Wd), Q1 r1 w1 → ((r1 = 0 → ((nI 0) = 0 ∨ (nI 0) = 1) ∧ Q (nI 0) w1) ∧ (¬ r1 = 0 → ∃ Q2 : Int32 → Wd → Prop, EvI m_D_isRelation d [.int x2] w1 Q2 ∧ ∀ (r2 : Int32) (w2 : Wd), Q2 r2 w2 → ((r2 = 0 → ((nI 0) = 0 ∨ (nI 0) = 1) ∧ Q (nI 0) w2) ∧ (¬ r2 = 0 → ∃ Q3 : Int32 → Wd → Prop, EvI m_D_isRelation d [.int x3] w2 Q3 ∧ ∀ (r3 : Int32) (w3 : Wd), Q3 r3 w3 → ((¬ r3 = 0 → Z m_Table_followChain (d + 1) (qI Q) 29 [(0, .ref 42), (1, .int x1), (2, .int x2), (3, .int x3), (4, .int (nI 0)), (5, .int (nI 1))] [] w3) ∧ (r3 = 0 → ((nI 0) = 0 ∨ (nI 0) = 1) ∧ Q (nI 0) w3))))))) : Z m_Table_followChain (d + 1) (qI Q) 0 [(0, .ref 42), (1, .int x1), (2, .int x2), (3, .int x3)] [] w := wp_ok (P := P_Table_followChain) (S := S_Table_followChain) rfl pr_Table_followChain 14 _ _ _ _ h
set_option maxRecDepth 20000 in
set_option maxHeartbeats 1000000 in
theorem vc_Table_followChain_29 {d : Nat} {w : Wd} {Q : Int32 → Wd → Prop} (x1 : Int32) (x2 : Int32) (x3 : Int32) (x4 : Int32) (x5 : Int32) (h : (((nI 100) < x5 → (x4 = 0 ∨ x4 = 1) ∧ Q x4 w) ∧ (¬ (nI 100) < x5 → ∃ Q1 : Int32 → Wd → Prop, EvI m_Table_degree d [.ref 42, .int x2, .int x5] w Q1 ∧ ∀ (r1 : Int32) (w1 : Wd), Q1 r1 w1 → ((r1 ≤ 0 → Z m_Table_followChain (d + 1) (qI Q) 29 [(0, .ref 42), (1, .int x1), (2, .int x2), (3, .int x3), (4, .int x4), (5, .int (x5 + nI 1))] [] w1) ∧ (¬ r1 ≤ 0 → ∃ Q2 : Int32 → Wd → Prop, EvI m_Table_followFrom d [.ref 42, .int x5, .int x1, .int x2, .int x3] w1 Q2 ∧ ∀ (r2 : Int32) (w2 : Wd), Q2 r2 w2 → ((r2 = 0 → Z m_Table_followChain (d + 1) (qI Q) 29 [(0, .ref 42), (1, .int x1), (2, .int x2), (3, .int x3), (4, .int x4), (5, .int (x5 + nI 1))] [] w2) ∧ (¬ r2 = 0 → Z m_Table_followChain (d + 1) (qI Q) 29 [(0, .ref 42), (1, .int x1), (2, .int x2), (3, .int x3), (4, .int (nI 1)), (5, .int (x5 + nI 1))] [] w2))))))) : Z m_Table_followChain (d + 1) (qI Q) 29 [(0, .ref 42), (1, .int x1), (2, .int x2), (3, .int x3), (4, .int x4), (5, .int x5)] [] w := wp_ok (P := P_Table_followChain) (S := S_Table_followChain) rfl pr_Table_followChain 20 _ _ _ _ h
def P_Table_followFrom : Prog := [(0, .lconst 0), (1, .lstore 5), (3, .lconst 0), (4, .lstore 7), (6, .iconst 1), (7, .istore 9), (9, .iload 9), (11, .bipush 100), (13, .if_icmp .gt 56), (16, .aload_n 0), (17, .iload_n 3), (18, .iload_n 1), (19, .iload 9), (21, .invokevirtual 122), (24, .ifCond .eq 39), (27, .lload 5), (29, .aload_n 0), (30, .getfield 11), (33, .iload 4), (35, .bipush 101), (37, .imul), (38, .iload 9), (40, .iadd), (41, .laload), (42, .lor), (43, .lstore 5), (45, .lload 7), (47, .aload_n 0), (48, .getfield 15), (51, .iload 4), (53, .bipush 101), (55, .imul), (56, .iload 9), (58, .iadd), (59, .laload), (60, .lor), (61, .lstore 7), (63, .iinc 9 1), (66, .goto (-57)), (69, .iload_n 2), (70, .bipush 101), (72, .imul), (73, .iload_n 1), (74, .iadd), (75, .istore 9), (77, .lload 5), (79, .aload_n 0), (80, .getfield 11), (83, .iload 9), (85, .laload), (86, .ldc2_w 125), (89, .lxor), (90, .land), (91, .lconst 0), (92, .lcmp), (93, .ifCond .ne 22), (96, .lload 7), (98, .aload_n 0), (99, .getfield 15), (102, .iload 9), (104, .laload), (105, .ldc2_w 125), (108, .lxor), (109, .land), (110, .lconst 0), (111, .lcmp), (112, .ifCond .eq 7), (115, .iconst 1), (116, .goto 4), (119, .iconst 0), (120, .istore 10), (122, .aload_n 0), (123, .getfield 11), (126, .iload 9), (128, .dup2), (129, .laload), (130, .lload 5), (132, .lor), (133, .lastore), (134, .aload_n 0), (135, .getfield 15), (138, .iload 9), (140, .dup2), (141, .laload), (142, .lload 7), (144, .lor), (145, .lastore), (146, .iload 10), (148, .ireturn)]
theorem pr_Table_followFrom : prOK m_Table_followFrom P_Table_followFrom = true := by decide +kernel
def S_Table_followFrom : List (Nat × List Nat) := [(9, [0, 1, 2, 3, 4, 5, 7, 9])]
theorem ev_Table_followFrom {d : Nat} {w : Wd} {Q : Int32 → Wd → Prop} (x1 : Int32) (x2 : Int32) (x3 : Int32) (x4 : Int32) (h : Z m_Table_followFrom d (qI Q) 0 [(0, .ref 42), (1, .int x1), (2, .int x2), (3, .int x3), (4, .int x4)] [] w) : EvI m_Table_followFrom d [.ref 42, .int x1, .int x2, .int x3, .int x4] w Q := Ev.ofZ (by decide +kernel) (Nat.le_of_ble_eq_true rfl) h
set_option maxRecDepth 20000 in
set_option maxHeartbeats 1000000 in
theorem vc_Table_followFrom_0 {d : Nat} {w : Wd} {Q : Int32 → Wd → Prop} (x1 : Int32) (x2 : Int32) (x3 : Int32) (x4 : Int32) (h : Z m_Table_followFrom (d + 1) (qI Q) 9 [(0, .ref 42), (1, .int x1), (2, .int x2), (3, .int x3), (4, .int x4), (5, .long (lN 0)), (7, .long (lN 0)), (9, .int (nI 1))] [] w) : Z m_Table_followFrom (d + 1) (qI Q) 0 [(0, .ref 42), (1, .int x1), (2, .int x2), (3, .int x3), (4, .int x4)] [] w := wp_ok (P := P_Table_followFrom) (S := S_Table_followFrom) rfl pr_Table_followFrom 7 _ _ _ _ h
set_option maxRecDepth 20000 in
set_option maxHeartbeats 1000000 in
theorem vc_Table_followFrom_9 {d : Nat} {w : Wd} {Q : Int32 → Wd → Prop} (x1 : Int32) (x2 : Int32) (x3 : Int32) (x4 : Int32) (x5 : Int64) (x7 : Int64) (x9 : Int32) (h : (((nI 100) < x9 → ∃ j1 : Nat, ((x2 * (nI 101)) + x1) = nI j1 ∧ j1 < 1010 ∧ ((¬ (lg_cmp (x5 &&& ((w.2 43 j1) ^^^ (-1 : Int64))) (lN 0)) = 0 → ∃ j2 : Nat, ((x2 * (nI 101)) + x1) = nI j2 ∧ j2 < 1010 ∧ ∃ j3 : Nat, ((x2 * (nI 101)) + x1) = nI j3 ∧ j3 < 1010 ∧ ∃ j4 : Nat, ((x2 * (nI 101)) + x1) = nI j4 ∧ j4 < 1010 ∧ ∃ j5 : Nat, ((x2 * (nI 101)) + x1) = nI j5 ∧ j5 < 1010 ∧ ((nI 1) = 0 ∨ (nI 1) = 1) ∧ Q (nI 1) (up2 (up2 w 43 j3 ((w.2 43 j2) ||| x5)) 44 j5 ((w.2 44 j4) ||| x7))) ∧ ((lg_cmp (x5 &&& ((w.2 43 j1) ^^^ (-1 : Int64))) (lN 0)) = 0 → ∃ j6 : Nat, ((x2 * (nI 101)) + x1) = nI j6 ∧ j6 < 1010 ∧ (((lg_cmp (x7 &&& ((w.2 44 j6) ^^^ (-1 : Int64))) (lN 0)) = 0 → ∃ j7 : Nat, ((x2 * (nI 101)) + x1) = nI j7 ∧ j7 < 1010 ∧ ∃ j8 : Nat, ((x2 * (nI 101)) + x1) = nI j8 ∧ j8 < 1010 ∧ ∃ j9 : Nat, ((x2 * (nI 101)) + x1) = nI j9 ∧ j9 < 1010 ∧ ∃ j10 : Nat, ((x2 * (nI 101)) + x1) = nI j10 ∧ j10 < 1010 ∧ ((nI 0) = 0 ∨ (nI 0) = 1) ∧ Q (nI 0) (up2 (up2 w 43 j8 ((w.2 43 j7) ||| x5)) 44 j10 ((w.2 44 j9) ||| x7))) ∧ (¬ (lg_cmp (x7 &&& ((w.2 44 j6) ^^^ (-1 : Int64))) (lN 0)) = 0 → ∃ j11 : Nat, ((x2 * (nI 101)) + x1) = nI j11 ∧ j11 < 1010 ∧ ∃ j12 : Nat, ((x2 * (nI 101)) + x1) = nI j12 ∧ j12 < 1010 ∧ ∃ j13 : Nat, ((x2 * (nI 101)) + x1) = nI j13 ∧ j13 < 1010 ∧ ∃ j14 : Nat, ((x2 * (nI 101)) + x1) = nI j14 ∧ j14 < 1010 ∧ ((nI 1) = 0 ∨ (nI 1) = 1) ∧ Q (nI 1) (up2 (up2 w 43 j12 ((w.2 43 j11) ||| x5)) 44 j14 ((w.2 44 j13) ||| x7))))))) ∧ (¬ (nI 100) < x9 → ∃ Q1 : Int32 → Wd → Prop, EvI m_Table_hasRow d [.ref 42, .int x3, .int x1, .int x9] w Q1 ∧ ∀ (r1 : Int32) (w1 : Wd), Q1 r1 w1 → ((r1 = 0 → Z m_Table_followFrom (d + 1) (qI Q) 9 [(0, .ref 42), (1, .int x1), (2, .int x2), (3, .int x3), (4, .int x4), (5, .long x5), (7, .long x7), (9, .int (x9 + nI 1))] [] w1) ∧ (¬ r1 = 0 → ∃ j15 : Nat, ((x4 * (nI 101)) + x9) = nI j15 ∧ j15 < 1010 ∧ ∃ j16 : Nat, ((x4 * (nI 101)) + x9) = nI j16 ∧ j16 < 1010 ∧ Z m_Table_followFrom (d + 1) (qI Q) 9 [(0, .ref 42), (1, .int x1), (2, .int x2), (3, .int x3), (4, .int x4), (5, .long (x5 ||| (w1.2 43 j15))), (7, .long (x7 ||| (w1.2 44 j16))), (9, .int (x9 + nI 1))] [] w1))))) : Z m_Table_followFrom (d + 1) (qI Q) 9 [(0, .ref 42), (1, .int x1), (2, .int x2), (3, .int x3), (4, .int x4), (5, .long x5), (7, .long x7), (9, .int x9)] [] w := wp_ok (P := P_Table_followFrom) (S := S_Table_followFrom) rfl pr_Table_followFrom 53 _ _ _ _ h
def P_Table_hasRow : Prog := [(0, .iload_n 1), (1, .bipush 101), (3, .imul), (4, .iload_n 2), (5, .iadd), (6, .istore 4), (8, .iload_n 3), (9, .bipush 64), (11, .if_icmp .ge 25), (14, .aload_n 0), (15, .getfield 11), (18, .iload 4), (20, .laload), (21, .iload_n 3), (22, .lushr), (23, .lconst 1), (24, .land), (25, .lconst 0), (26, .lcmp), (27, .ifCond .eq 7), (30, .iconst 1), (31, .goto 4), (34, .iconst 0), (35, .ireturn), (36, .aload_n 0), (37, .getfield 15), (40, .iload 4), (42, .laload), (43, .iload_n 3), (44, .bipush 64), (46, .isub), (47, .lushr), (48, .lconst 1), (49, .land), (50, .lconst 0), (51, .lcmp), (52, .ifCond .eq 7), (55, .iconst 1), (56, .goto 4), (59, .iconst 0), (60, .ireturn)]
theorem pr_Table_hasRow : prOK m_Table_hasRow P_Table_hasRow = true := by decide +kernel
def S_Table_hasRow : List (Nat × List Nat) := []
theorem ev_Table_hasRow {d : Nat} {w : Wd} {Q : Int32 → Wd → Prop} (x1 : Int32) (x2 : Int32) (x3 : Int32) (h : Z m_Table_hasRow d (qI Q) 0 [(0, .ref 42), (1, .int x1), (2, .int x2), (3, .int x3)] [] w) : EvI m_Table_hasRow d [.ref 42, .int x1, .int x2, .int x3] w Q := Ev.ofZ (by decide +kernel) (Nat.le_of_ble_eq_true rfl) h
set_option maxRecDepth 20000 in
set_option maxHeartbeats 1000000 in
theorem vc_Table_hasRow_0 {d : Nat} {w : Wd} {Q : Int32 → Wd → Prop} (x1 : Int32) (x2 : Int32) (x3 : Int32) (h : (((nI 64) ≤ x3 → ∃ j1 : Nat, ((x1 * (nI 101)) + x2) = nI j1 ∧ j1 < 1010 ∧ (((lg_cmp ((((w.2 44 j1).toUInt64 >>> ((x3 - (nI 64)).toInt64.toUInt64 &&& Int64.toUInt64 63)).toInt64) &&& (lN 1)) (lN 0)) = 0 → ((nI 0) = 0 ∨ (nI 0) = 1) ∧ Q (nI 0) w) ∧ (¬ (lg_cmp ((((w.2 44 j1).toUInt64 >>> ((x3 - (nI 64)).toInt64.toUInt64 &&& Int64.toUInt64 63)).toInt64) &&& (lN 1)) (lN 0)) = 0 → ((nI 1) = 0 ∨ (nI 1) = 1) ∧ Q (nI 1) w))) ∧ (¬ (nI 64) ≤ x3 → ∃ j2 : Nat, ((x1 * (nI 101)) + x2) = nI j2 ∧ j2 < 1010 ∧ (((lg_cmp ((((w.2 43 j2).toUInt64 >>> (x3.toInt64.toUInt64 &&& Int64.toUInt64 63)).toInt64) &&& (lN 1)) (lN 0)) = 0 → ((nI 0) = 0 ∨ (nI 0) = 1) ∧ Q (nI 0) w) ∧ (¬ (lg_cmp ((((w.2 43 j2).toUInt64 >>> (x3.toInt64.toUInt64 &&& Int64.toUInt64 63)).toInt64) &&& (lN 1)) (lN 0)) = 0 → ((nI 1) = 0 ∨ (nI 1) = 1) ∧ Q (nI 1) w))))) : Z m_Table_hasRow d (qI Q) 0 [(0, .ref 42), (1, .int x1), (2, .int x2), (3, .int x3)] [] w := wp_ok (P := P_Table_hasRow) (S := S_Table_hasRow) rfl pr_Table_hasRow 26 _ _ _ _ h
def P_Table_degree : Prog := [(0, .iload_n 1), (1, .bipush 101), (3, .imul), (4, .iload_n 2), (5, .iadd), (6, .istore_n 3), (7, .aload_n 0), (8, .getfield 11), (11, .iload_n 3), (12, .laload), (13, .invokestatic 127), (16, .aload_n 0), (17, .getfield 15), (20, .iload_n 3), (21, .laload), (22, .invokestatic 127), (25, .iadd), (26, .ireturn)]
theorem pr_Table_degree : prOK m_Table_degree P_Table_degree = true := by decide +kernel
def S_Table_degree : List (Nat × List Nat) := []
theorem ev_Table_degree {d : Nat} {w : Wd} {Q : Int32 → Wd → Prop} (x1 : Int32) (x2 : Int32) (h : Z m_Table_degree d (qI Q) 0 [(0, .ref 42), (1, .int x1), (2, .int x2)] [] w) : EvI m_Table_degree d [.ref 42, .int x1, .int x2] w Q := Ev.ofZ (by decide +kernel) (Nat.le_of_ble_eq_true rfl) h
set_option maxRecDepth 20000 in
set_option maxHeartbeats 1000000 in
theorem vc_Table_degree_0 {d : Nat} {w : Wd} {Q : Int32 → Wd → Prop} (x1 : Int32) (x2 : Int32) (h : ∃ j1 : Nat, ((x1 * (nI 101)) + x2) = nI j1 ∧ j1 < 1010 ∧ ∃ Q1 : Int32 → Wd → Prop, EvI m_Long_bitCount d [.long (w.2 43 j1)] w Q1 ∧ ∀ (r1 : Int32) (w1 : Wd), Q1 r1 w1 → ∃ j2 : Nat, ((x1 * (nI 101)) + x2) = nI j2 ∧ j2 < 1010 ∧ ∃ Q2 : Int32 → Wd → Prop, EvI m_Long_bitCount d [.long (w1.2 44 j2)] w1 Q2 ∧ ∀ (r2 : Int32) (w2 : Wd), Q2 r2 w2 → Q (r1 + r2) w2) : Z m_Table_degree (d + 1) (qI Q) 0 [(0, .ref 42), (1, .int x1), (2, .int x2)] [] w := wp_ok (P := P_Table_degree) (S := S_Table_degree) rfl pr_Table_degree 19 _ _ _ _ h
def P_Table_size : Prog := [(0, .iconst 0), (1, .istore_n 2), (2, .iconst 1), (3, .istore_n 3), (4, .iload_n 3), (5, .bipush 100), (7, .if_icmp .gt 25), (10, .iload_n 1), (11, .invokestatic 92), (14, .ifCond .eq 18), (17, .iload_n 2), (18, .aload_n 0), (19, .iload_n 1), (20, .iload_n 3), (21, .invokevirtual 115), (24, .iadd), (25, .istore_n 2), (26, .iinc 3 1), (29, .goto (-25)), (32, .iload_n 2), (33, .ireturn)]
theorem pr_Table_size : prOK m_Table_size P_Table_size = true := by decide +kernel
def S_Table_size : List (Nat × List Nat) := [(4, [0, 1, 2, 3])]
theorem ev_Table_size {d : Nat} {w : Wd} {Q : Int32 → Wd → Prop} (x1 : Int32) (h : Z m_Table_size d (qI Q) 0 [(0, .ref 42), (1, .int x1)] [] w) : EvI m_Table_size d [.ref 42, .int x1] w Q := Ev.ofZ (by decide +kernel) (Nat.le_of_ble_eq_true rfl) h
set_option maxRecDepth 20000 in
set_option maxHeartbeats 1000000 in
theorem vc_Table_size_0 {d : Nat} {w : Wd} {Q : Int32 → Wd → Prop} (x1 : Int32) (h : Z m_Table_size (d + 1) (qI Q) 4 [(0, .ref 42), (1, .int x1), (2, .int (nI 0)), (3, .int (nI 1))] [] w) : Z m_Table_size (d + 1) (qI Q) 0 [(0, .ref 42), (1, .int x1)] [] w := wp_ok (P := P_Table_size) (S := S_Table_size) rfl pr_Table_size 5 _ _ _ _ h
set_option maxRecDepth 20000 in
set_option maxHeartbeats 1000000 in
theorem vc_Table_size_4 {d : Nat} {w : Wd} {Q : Int32 → Wd → Prop} (x1 : Int32) (x2 : Int32) (x3 : Int32) (h : (((nI 100) < x3 → Q x2 w) ∧ (¬ (nI 100) < x3 → ∃ Q1 : Int32 → Wd → Prop, EvI m_D_isRelation d [.int x1] w Q1 ∧ ∀ (r1 : Int32) (w1 : Wd), Q1 r1 w1 → ((r1 = 0 → Q x2 w1) ∧ (¬ r1 = 0 → ∃ Q2 : Int32 → Wd → Prop, EvI m_Table_degree d [.ref 42, .int x1, .int x3] w1 Q2 ∧ ∀ (r2 : Int32) (w2 : Wd), Q2 r2 w2 → Z m_Table_size (d + 1) (qI Q) 4 [(0, .ref 42), (1, .int x1), (2, .int (x2 + r2)), (3, .int (x3 + nI 1))] [] w2))))) : Z m_Table_size (d + 1) (qI Q) 4 [(0, .ref 42), (1, .int x1), (2, .int x2), (3, .int x3)] [] w := wp_ok (P := P_Table_size) (S := S_Table_size) rfl pr_Table_size 16 _ _ _ _ h
def P_Table_name : Prog := [(0, .iload_n 2), (1, .istore 4), (3, .iconst 1), (4, .istore 5), (6, .iload 5), (8, .bipush 100), (10, .if_icmp .gt 58), (13, .iload_n 1), (14, .invokestatic 92), (17, .ifCond .eq 51), (20, .aload_n 0), (21, .iload_n 1), (22, .iload 5), (24, .invokevirtual 115), (27, .istore 6), (29, .iload 4), (31, .iload 6), (33, .if_icmp .ge 22), (36, .iload_n 3), (37, .ifCond .eq 8), (40, .iload 5), (42, .goto 12), (45, .aload_n 0), (46, .iload_n 1), (47, .iload 5), (49, .iload 4), (51, .invokevirtual 133), (54, .ireturn), (55, .iload 4), (57, .iload 6), (59, .isub), (60, .istore 4), (62, .iinc 5 1), (65, .goto (-59)), (68, .iconst (-1)), (69, .ireturn)]
theorem pr_Table_name : prOK m_Table_name P_Table_name = true := by decide +kernel
def S_Table_name : List (Nat × List Nat) := [(6, [0, 1, 2, 3, 4, 5])]
theorem ev_Table_name {d : Nat} {w : Wd} {Q : Int32 → Wd → Prop} (x1 : Int32) (x2 : Int32) (x3 : Int32) (h : Z m_Table_name d (qI Q) 0 [(0, .ref 42), (1, .int x1), (2, .int x2), (3, .int x3)] [] w) : EvI m_Table_name d [.ref 42, .int x1, .int x2, .int x3] w Q := Ev.ofZ (by decide +kernel) (Nat.le_of_ble_eq_true rfl) h
set_option maxRecDepth 20000 in
set_option maxHeartbeats 1000000 in
theorem vc_Table_name_0 {d : Nat} {w : Wd} {Q : Int32 → Wd → Prop} (x1 : Int32) (x2 : Int32) (x3 : Int32) (h : Z m_Table_name (d + 1) (qI Q) 6 [(0, .ref 42), (1, .int x1), (2, .int x2), (3, .int x3), (4, .int x2), (5, .int (nI 1))] [] w) : Z m_Table_name (d + 1) (qI Q) 0 [(0, .ref 42), (1, .int x1), (2, .int x2), (3, .int x3)] [] w := wp_ok (P := P_Table_name) (S := S_Table_name) rfl pr_Table_name 5 _ _ _ _ h
set_option maxRecDepth 20000 in
set_option maxHeartbeats 1000000 in
theorem vc_Table_name_6 {d : Nat} {w : Wd} {Q : Int32 → Wd → Prop} (x1 : Int32) (x2 : Int32) (x3 : Int32) (x4 : Int32) (x5 : Int32) (h : (((nI 100) < x5 → Q (-nI 1) w) ∧ (¬ (nI 100) < x5 → ∃ Q1 : Int32 → Wd → Prop, EvI m_D_isRelation d [.int x1] w Q1 ∧ ∀ (r1 : Int32) (w1 : Wd), Q1 r1 w1 → ((r1 = 0 → Q (-nI 1) w1) ∧ (¬ r1 = 0 → ∃ Q2 : Int32 → Wd → Prop, EvI m_Table_degree d [.ref 42, .int x1, .int x5] w1 Q2 ∧ ∀ (r2 : Int32) (w2 : Wd), Q2 r2 w2 → ((r2 ≤ x4 → Z m_Table_name (d + 1) (qI Q) 6 [(0, .ref 42), (1, .int x1), (2, .int x2), (3, .int x3), (4, .int (x4 - r2)), (5, .int (x5 + nI 1))] [] w2) ∧ (¬ r2 ≤ x4 → ((x3 = 0 → ∃ Q3 : Int32 → Wd → Prop, EvI m_Table_secondName d [.ref 42, .int x1, .int x5, .int x4] w2 Q3 ∧ ∀ (r3 : Int32) (w3 : Wd), Q3 r3 w3 → Q r3 w3) ∧ (¬ x3 = 0 → Q x5 w2))))))))) : Z m_Table_name (d + 1) (qI Q) 6 [(0, .ref 42), (1, .int x1), (2, .int x2), (3, .int x3), (4, .int x4), (5, .int x5)] [] w := wp_ok (P := P_Table_name) (S := S_Table_name) rfl pr_Table_name 23 _ _ _ _ h
def P_Table_secondName : Prog := [(0, .iload_n 3), (1, .istore 4), (3, .iconst 1), (4, .istore 5), (6, .iload 5), (8, .bipush 100), (10, .if_icmp .gt 31), (13, .aload_n 0), (14, .iload_n 1), (15, .iload_n 2), (16, .iload 5), (18, .invokevirtual 122), (21, .ifCond .eq 14), (24, .iload 4), (26, .ifCond .ne 6), (29, .iload 5), (31, .ireturn), (32, .iinc 4 (-1)), (35, .iinc 5 1), (38, .goto (-32)), (41, .iconst (-1)), (42, .ireturn)]
theorem pr_Table_secondName : prOK m_Table_secondName P_Table_secondName = true := by decide +kernel
def S_Table_secondName : List (Nat × List Nat) := [(6, [0, 1, 2, 3, 4, 5])]
theorem ev_Table_secondName {d : Nat} {w : Wd} {Q : Int32 → Wd → Prop} (x1 : Int32) (x2 : Int32) (x3 : Int32) (h : Z m_Table_secondName d (qI Q) 0 [(0, .ref 42), (1, .int x1), (2, .int x2), (3, .int x3)] [] w) : EvI m_Table_secondName d [.ref 42, .int x1, .int x2, .int x3] w Q := Ev.ofZ (by decide +kernel) (Nat.le_of_ble_eq_true rfl) h
set_option maxRecDepth 20000 in
set_option maxHeartbeats 1000000 in
theorem vc_Table_secondName_0 {d : Nat} {w : Wd} {Q : Int32 → Wd → Prop} (x1 : Int32) (x2 : Int32) (x3 : Int32) (h : Z m_Table_secondName (d + 1) (qI Q) 6 [(0, .ref 42), (1, .int x1), (2, .int x2), (3, .int x3), (4, .int x3), (5, .int (nI 1))] [] w) : Z m_Table_secondName (d + 1) (qI Q) 0 [(0, .ref 42), (1, .int x1), (2, .int x2), (3, .int x3)] [] w := wp_ok (P := P_Table_secondName) (S := S_Table_secondName) rfl pr_Table_secondName 5 _ _ _ _ h
set_option maxRecDepth 20000 in
set_option maxHeartbeats 1000000 in
theorem vc_Table_secondName_6 {d : Nat} {w : Wd} {Q : Int32 → Wd → Prop} (x1 : Int32) (x2 : Int32) (x3 : Int32) (x4 : Int32) (x5 : Int32) (h : (((nI 100) < x5 → Q (-nI 1) w) ∧ (¬ (nI 100) < x5 → ∃ Q1 : Int32 → Wd → Prop, EvI m_Table_hasRow d [.ref 42, .int x1, .int x2, .int x5] w Q1 ∧ ∀ (r1 : Int32) (w1 : Wd), Q1 r1 w1 → ((r1 = 0 → Z m_Table_secondName (d + 1) (qI Q) 6 [(0, .ref 42), (1, .int x1), (2, .int x2), (3, .int x3), (4, .int x4), (5, .int (x5 + nI 1))] [] w1) ∧ (¬ r1 = 0 → ((¬ x4 = 0 → Z m_Table_secondName (d + 1) (qI Q) 6 [(0, .ref 42), (1, .int x1), (2, .int x2), (3, .int x3), (4, .int (x4 + (-nI 1))), (5, .int (x5 + nI 1))] [] w1) ∧ (x4 = 0 → Q x5 w1))))))) : Z m_Table_secondName (d + 1) (qI Q) 6 [(0, .ref 42), (1, .int x1), (2, .int x2), (3, .int x3), (4, .int x4), (5, .int x5)] [] w := wp_ok (P := P_Table_secondName) (S := S_Table_secondName) rfl pr_Table_secondName 15 _ _ _ _ h
def P_Table_quarrelling : Prog := [(0, .iload_n 2), (1, .istore_n 3), (2, .iconst 1), (3, .istore 4), (5, .iload 4), (7, .bipush 100), (9, .if_icmp .gt 37), (12, .iload_n 1), (13, .invokestatic 92), (16, .ifCond .eq 30), (19, .aload_n 0), (20, .iload_n 1), (21, .iload 4), (23, .invokevirtual 115), (26, .iconst 2), (27, .if_icmp .lt 13), (30, .iload_n 3), (31, .ifCond .ne 6), (34, .iload 4), (36, .ireturn), (37, .iinc 3 (-1)), (40, .iinc 4 1), (43, .goto (-38)), (46, .iconst (-1)), (47, .ireturn)]
theorem pr_Table_quarrelling : prOK m_Table_quarrelling P_Table_quarrelling = true := by decide +kernel
def S_Table_quarrelling : List (Nat × List Nat) := [(5, [0, 1, 2, 3, 4])]
theorem ev_Table_quarrelling {d : Nat} {w : Wd} {Q : Int32 → Wd → Prop} (x1 : Int32) (x2 : Int32) (h : Z m_Table_quarrelling d (qI Q) 0 [(0, .ref 42), (1, .int x1), (2, .int x2)] [] w) : EvI m_Table_quarrelling d [.ref 42, .int x1, .int x2] w Q := Ev.ofZ (by decide +kernel) (Nat.le_of_ble_eq_true rfl) h
set_option maxRecDepth 20000 in
set_option maxHeartbeats 1000000 in
theorem vc_Table_quarrelling_0 {d : Nat} {w : Wd} {Q : Int32 → Wd → Prop} (x1 : Int32) (x2 : Int32) (h : Z m_Table_quarrelling (d + 1) (qI Q) 5 [(0, .ref 42), (1, .int x1), (2, .int x2), (3, .int x2), (4, .int (nI 1))] [] w) : Z m_Table_quarrelling (d + 1) (qI Q) 0 [(0, .ref 42), (1, .int x1), (2, .int x2)] [] w := wp_ok (P := P_Table_quarrelling) (S := S_Table_quarrelling) rfl pr_Table_quarrelling 5 _ _ _ _ h
set_option maxRecDepth 20000 in
set_option maxHeartbeats 1000000 in
theorem vc_Table_quarrelling_5 {d : Nat} {w : Wd} {Q : Int32 → Wd → Prop} (x1 : Int32) (x2 : Int32) (x3 : Int32) (x4 : Int32) (h : (((nI 100) < x4 → Q (-nI 1) w) ∧ (¬ (nI 100) < x4 → ∃ Q1 : Int32 → Wd → Prop, EvI m_D_isRelation d [.int x1] w Q1 ∧ ∀ (r1 : Int32) (w1 : Wd), Q1 r1 w1 → ((r1 = 0 → Q (-nI 1) w1) ∧ (¬ r1 = 0 → ∃ Q2 : Int32 → Wd → Prop, EvI m_Table_degree d [.ref 42, .int x1, .int x4] w1 Q2 ∧ ∀ (r2 : Int32) (w2 : Wd), Q2 r2 w2 → ((r2 < (nI 2) → Z m_Table_quarrelling (d + 1) (qI Q) 5 [(0, .ref 42), (1, .int x1), (2, .int x2), (3, .int x3), (4, .int (x4 + nI 1))] [] w2) ∧ (¬ r2 < (nI 2) → ((¬ x3 = 0 → Z m_Table_quarrelling (d + 1) (qI Q) 5 [(0, .ref 42), (1, .int x1), (2, .int x2), (3, .int (x3 + (-nI 1))), (4, .int (x4 + nI 1))] [] w2) ∧ (x3 = 0 → Q x4 w2))))))))) : Z m_Table_quarrelling (d + 1) (qI Q) 5 [(0, .ref 42), (1, .int x1), (2, .int x2), (3, .int x3), (4, .int x4)] [] w := wp_ok (P := P_Table_quarrelling) (S := S_Table_quarrelling) rfl pr_Table_quarrelling 18 _ _ _ _ h
def P_Marks_put : Prog := [(0, .aload_n 0), (1, .iload_n 1), (2, .iload_n 2), (3, .iload_n 3), (4, .iload 4), (6, .invokevirtual 40), (9, .istore 6), (11, .iload 6), (13, .iconst (-1)), (14, .if_icmp .ne 30), (17, .aload_n 0), (18, .getfield 44), (21, .bipush 60), (23, .if_icmp .lt 5), (26, .iconst (-1)), (27, .ireturn), (28, .aload_n 0), (29, .getfield 44), (32, .istore 6), (34, .aload_n 0), (35, .dup), (36, .getfield 44), (39, .iconst 1), (40, .iadd), (41, .putfield 44), (44, .aload_n 0), (45, .getfield 9), (48, .iload 6), (50, .iload_n 1), (51, .iastore), (52, .aload_n 0), (53, .getfield 15), (56, .iload 6), (58, .iload_n 2), (59, .iastore), (60, .aload_n 0), (61, .getfield 18), (64, .iload 6), (66, .iload_n 3), (67, .iastore), (68, .aload_n 0), (69, .getfield 21), (72, .iload 6), (74, .iload 4), (76, .iastore), (77, .aload_n 0), (78, .getfield 24), (81, .iload 6), (83, .iload 5), (85, .bastore), (86, .aload_n 0), (87, .getfield 44), (90, .ireturn)]
theorem pr_Marks_put : prOK m_Marks_put P_Marks_put = true := by decide +kernel
def S_Marks_put : List (Nat × List Nat) := []
theorem ev_Marks_put {d : Nat} {w : Wd} {Q : Int32 → Wd → Prop} (x1 : Int32) (x2 : Int32) (x3 : Int32) (x4 : Int32) (x5 : Int32) (h : Z m_Marks_put d (qI Q) 0 [(0, .ref 45), (1, .int x1), (2, .int x2), (3, .int x3), (4, .int x4), (5, .int x5)] [] w) : EvI m_Marks_put d [.ref 45, .int x1, .int x2, .int x3, .int x4, .int x5] w Q := Ev.ofZ (by decide +kernel) (Nat.le_of_ble_eq_true rfl) h
set_option maxRecDepth 20000 in
set_option maxHeartbeats 1000000 in
theorem vc_Marks_put_0 {d : Nat} {w : Wd} {Q : Int32 → Wd → Prop} (x1 : Int32) (x2 : Int32) (x3 : Int32) (x4 : Int32) (x5 : Int32) (h : ∃ Q1 : Int32 → Wd → Prop, EvI m_Marks_indexOf d [.ref 45, .int x1, .int x2, .int x3, .int x4] w Q1 ∧ ∀ (r1 : Int32) (w1 : Wd), Q1 r1 w1 → ((¬ r1 = (-nI 1) → ∃ j1 : Nat, r1 = nI j1 ∧ j1 < 60 ∧ ∃ j2 : Nat, r1 = nI j2 ∧ j2 < 60 ∧ ∃ j3 : Nat, r1 = nI j3 ∧ j3 < 60 ∧ ∃ j4 : Nat, r1 = nI j4 ∧ j4 < 60 ∧ ∃ j5 : Nat, r1 = nI j5 ∧ j5 < 60 ∧ (x5 = 0 ∨ x5 = 1) ∧ Q (w1.1 45 8) (up1 (up1 (up1 (up1 (up1 w1 46 j1 x1) 47 j2 x2) 48 j3 x3) 49 j4 x4) 50 j5 x5)) ∧ (r1 = (-nI 1) → (((w1.1 45 8) < (nI 60) → ∃ j6 : Nat, (w1.1 45 8) = nI j6 ∧ j6 < 60 ∧ ∃ j7 : Nat, (w1.1 45 8) = nI j7 ∧ j7 < 60 ∧ ∃ j8 : Nat, (w1.1 45 8) = nI j8 ∧ j8 < 60 ∧ ∃ j9 : Nat, (w1.1 45 8) = nI j9 ∧ j9 < 60 ∧ ∃ j10 : Nat, (w1.1 45 8) = nI j10 ∧ j10 < 60 ∧ (x5 = 0 ∨ x5 = 1) ∧ Q ((w1.1 45 8) + (nI 1)) (up1 (up1 (up1 (up1 (up1 (up1 w1 45 8 ((w1.1 45 8) + (nI 1))) 46 j6 x1) 47 j7 x2) 48 j8 x3) 49 j9 x4) 50 j10 x5)) ∧ (¬ (w1.1 45 8) < (nI 60) → Q (-nI 1) w1))))) : Z m_Marks_put (d + 1) (qI Q) 0 [(0, .ref 45), (1, .int x1), (2, .int x2), (3, .int x3), (4, .int x4), (5, .int x5)] [] w := wp_ok (P := P_Marks_put) (S := S_Marks_put) rfl pr_Marks_put 52 _ _ _ _ h
def P_Marks_indexOf : Prog := [(0, .iconst 0), (1, .istore 5), (3, .iload 5), (5, .aload_n 0), (6, .getfield 44), (9, .if_icmp .ge 64), (12, .iload 5), (14, .bipush 60), (16, .if_icmp .ge 57), (19, .aload_n 0), (20, .getfield 9), (23, .iload 5), (25, .iaload), (26, .iload_n 1), (27, .if_icmp .ne 40), (30, .aload_n 0), (31, .getfield 15), (34, .iload 5), (36, .iaload), (37, .iload_n 2), (38, .if_icmp .ne 29), (41, .aload_n 0), (42, .getfield 18), (45, .iload 5), (47, .iaload), (48, .iload_n 3), (49, .if_icmp .ne 18), (52, .aload_n 0), (53, .getfield 21), (56, .iload 5), (58, .iaload), (59, .iload 4), (61, .if_icmp .ne 6), (64, .iload 5), (66, .ireturn), (67, .iinc 5 1), (70, .goto (-67)), (73, .iconst (-1)), (74, .ireturn)]
theorem pr_Marks_indexOf : prOK m_Marks_indexOf P_Marks_indexOf = true := by decide +kernel
def S_Marks_indexOf : List (Nat × List Nat) := [(3, [0, 1, 2, 3, 4, 5])]
theorem ev_Marks_indexOf {d : Nat} {w : Wd} {Q : Int32 → Wd → Prop} (x1 : Int32) (x2 : Int32) (x3 : Int32) (x4 : Int32) (h : Z m_Marks_indexOf d (qI Q) 0 [(0, .ref 45), (1, .int x1), (2, .int x2), (3, .int x3), (4, .int x4)] [] w) : EvI m_Marks_indexOf d [.ref 45, .int x1, .int x2, .int x3, .int x4] w Q := Ev.ofZ (by decide +kernel) (Nat.le_of_ble_eq_true rfl) h
set_option maxRecDepth 20000 in
set_option maxHeartbeats 1000000 in
theorem vc_Marks_indexOf_0 {d : Nat} {w : Wd} {Q : Int32 → Wd → Prop} (x1 : Int32) (x2 : Int32) (x3 : Int32) (x4 : Int32) (h : Z m_Marks_indexOf d (qI Q) 3 [(0, .ref 45), (1, .int x1), (2, .int x2), (3, .int x3), (4, .int x4), (5, .int (nI 0))] [] w) : Z m_Marks_indexOf d (qI Q) 0 [(0, .ref 45), (1, .int x1), (2, .int x2), (3, .int x3), (4, .int x4)] [] w := wp_ok (P := P_Marks_indexOf) (S := S_Marks_indexOf) rfl pr_Marks_indexOf 3 _ _ _ _ h
set_option maxRecDepth 20000 in
set_option maxHeartbeats 1000000 in
theorem vc_Marks_indexOf_3 {d : Nat} {w : Wd} {Q : Int32 → Wd → Prop} (x1 : Int32) (x2 : Int32) (x3 : Int32) (x4 : Int32) (x5 : Int32) (h : (((w.1 45 8) ≤ x5 → Q (-nI 1) w) ∧ (¬ (w.1 45 8) ≤ x5 → (((nI 60) ≤ x5 → Q (-nI 1) w) ∧ (¬ (nI 60) ≤ x5 → ∃ j1 : Nat, x5 = nI j1 ∧ j1 < 60 ∧ ((¬ (w.1 46 j1) = x1 → Z m_Marks_indexOf d (qI Q) 3 [(0, .ref 45), (1, .int x1), (2, .int x2), (3, .int x3), (4, .int x4), (5, .int (x5 + nI 1))] [] w) ∧ ((w.1 46 j1) = x1 → ∃ j2 : Nat, x5 = nI j2 ∧ j2 < 60 ∧ ((¬ (w.1 47 j2) = x2 → Z m_Marks_indexOf d (qI Q) 3 [(0, .ref 45), (1, .int x1), (2, .int x2), (3, .int x3), (4, .int x4), (5, .int (x5 + nI 1))] [] w) ∧ ((w.1 47 j2) = x2 → ∃ j3 : Nat, x5 = nI j3 ∧ j3 < 60 ∧ ((¬ (w.1 48 j3) = x3 → Z m_Marks_indexOf d (qI Q) 3 [(0, .ref 45), (1, .int x1), (2, .int x2), (3, .int x3), (4, .int x4), (5, .int (x5 + nI 1))] [] w) ∧ ((w.1 48 j3) = x3 → ∃ j4 : Nat, x5 = nI j4 ∧ j4 < 60 ∧ ((¬ (w.1 49 j4) = x4 → Z m_Marks_indexOf d (qI Q) 3 [(0, .ref 45), (1, .int x1), (2, .int x2), (3, .int x3), (4, .int x4), (5, .int (x5 + nI 1))] [] w) ∧ ((w.1 49 j4) = x4 → Q x5 w))))))))))))) : Z m_Marks_indexOf d (qI Q) 3 [(0, .ref 45), (1, .int x1), (2, .int x2), (3, .int x3), (4, .int x4), (5, .int x5)] [] w := wp_ok (P := P_Marks_indexOf) (S := S_Marks_indexOf) rfl pr_Marks_indexOf 34 _ _ _ _ h
def P_Marks_size : Prog := [(0, .aload_n 0), (1, .getfield 44), (4, .ireturn)]
theorem pr_Marks_size : prOK m_Marks_size P_Marks_size = true := by decide +kernel
def S_Marks_size : List (Nat × List Nat) := []
theorem ev_Marks_size {d : Nat} {w : Wd} {Q : Int32 → Wd → Prop}  (h : Z m_Marks_size d (qI Q) 0 [(0, .ref 45)] [] w) : EvI m_Marks_size d [.ref 45] w Q := Ev.ofZ (by decide +kernel) (Nat.le_of_ble_eq_true rfl) h
set_option maxRecDepth 20000 in
set_option maxHeartbeats 1000000 in
theorem vc_Marks_size_0 {d : Nat} {w : Wd} {Q : Int32 → Wd → Prop}  (h : Q (w.1 45 8) w) : Z m_Marks_size d (qI Q) 0 [(0, .ref 45)] [] w := wp_ok (P := P_Marks_size) (S := S_Marks_size) rfl pr_Marks_size 4 _ _ _ _ h
def P_Marks_isUsable : Prog := [(0, .iload_n 1), (1, .ifCond .lt 51), (4, .iload_n 1), (5, .aload_n 0), (6, .getfield 44), (9, .if_icmp .ge 43), (12, .aload_n 0), (13, .getfield 21), (16, .iload_n 1), (17, .iaload), (18, .iload_n 2), (19, .if_icmp .ne 33), (22, .aload_n 0), (23, .getfield 24), (26, .iload_n 1), (27, .baload), (28, .iload_n 3), (29, .if_icmp .ne 23), (32, .aload_n 0), (33, .getfield 28), (36, .aload_n 0), (37, .getfield 9), (40, .iload_n 1), (41, .iaload), (42, .invokevirtual 48), (45, .ifCond .eq 7), (48, .iconst 1), (49, .goto 4), (52, .iconst 0), (53, .ireturn)]
theorem pr_Marks_isUsable : prOK m_Marks_isUsable P_Marks_isUsable = true := by decide +kernel
def S_Marks_isUsable : List (Nat × List Nat) := []
theorem ev_Marks_isUsable {d : Nat} {w : Wd} {Q : Int32 → Wd → Prop} (x1 : Int32) (x2 : Int32) (x3 : Int32) (h : Z m_Marks_isUsable d (qI Q) 0 [(0, .ref 45), (1, .int x1), (2, .int x2), (3, .int x3)] [] w) : EvI m_Marks_isUsable d [.ref 45, .int x1, .int x2, .int x3] w Q := Ev.ofZ (by decide +kernel) (Nat.le_of_ble_eq_true rfl) h
set_option maxRecDepth 20000 in
set_option maxHeartbeats 1000000 in
theorem vc_Marks_isUsable_0 {d : Nat} {w : Wd} {Q : Int32 → Wd → Prop} (x1 : Int32) (x2 : Int32) (x3 : Int32) (h : ((x1 < 0 → ((nI 0) = 0 ∨ (nI 0) = 1) ∧ Q (nI 0) w) ∧ (¬ x1 < 0 → (((w.1 45 8) ≤ x1 → ((nI 0) = 0 ∨ (nI 0) = 1) ∧ Q (nI 0) w) ∧ (¬ (w.1 45 8) ≤ x1 → ∃ j1 : Nat, x1 = nI j1 ∧ j1 < 60 ∧ ((¬ (w.1 49 j1) = x2 → ((nI 0) = 0 ∨ (nI 0) = 1) ∧ Q (nI 0) w) ∧ ((w.1 49 j1) = x2 → ∃ j2 : Nat, x1 = nI j2 ∧ j2 < 60 ∧ ((¬ (w.1 50 j2) = x3 → ((nI 0) = 0 ∨ (nI 0) = 1) ∧ Q (nI 0) w) ∧ ((w.1 50 j2) = x3 → ∃ j3 : Nat, x1 = nI j3 ∧ j3 < 60 ∧ ∃ Q1 : Int32 → Wd → Prop, EvI m_Sentences_isThere d [.ref 3, .int (w.1 46 j3)] w Q1 ∧ ∀ (r1 : Int32) (w1 : Wd), Q1 r1 w1 → ((r1 = 0 → ((nI 0) = 0 ∨ (nI 0) = 1) ∧ Q (nI 0) w1) ∧ (¬ r1 = 0 → ((nI 1) = 0 ∨ (nI 1) = 1) ∧ Q (nI 1) w1))))))))))) : Z m_Marks_isUsable (d + 1) (qI Q) 0 [(0, .ref 45), (1, .int x1), (2, .int x2), (3, .int x3)] [] w := wp_ok (P := P_Marks_isUsable) (S := S_Marks_isUsable) rfl pr_Marks_isUsable 30 _ _ _ _ h
def P_Marks_sentenceOf : Prog := [(0, .iload_n 1), (1, .ifCond .lt 20), (4, .iload_n 1), (5, .aload_n 0), (6, .getfield 44), (9, .if_icmp .ge 12), (12, .aload_n 0), (13, .getfield 9), (16, .iload_n 1), (17, .iaload), (18, .goto 4), (21, .iconst (-1)), (22, .ireturn)]
theorem pr_Marks_sentenceOf : prOK m_Marks_sentenceOf P_Marks_sentenceOf = true := by decide +kernel
def S_Marks_sentenceOf : List (Nat × List Nat) := []
theorem ev_Marks_sentenceOf {d : Nat} {w : Wd} {Q : Int32 → Wd → Prop} (x1 : Int32) (h : Z m_Marks_sentenceOf d (qI Q) 0 [(0, .ref 45), (1, .int x1)] [] w) : EvI m_Marks_sentenceOf d [.ref 45, .int x1] w Q := Ev.ofZ (by decide +kernel) (Nat.le_of_ble_eq_true rfl) h
set_option maxRecDepth 20000 in
set_option maxHeartbeats 1000000 in
theorem vc_Marks_sentenceOf_0 {d : Nat} {w : Wd} {Q : Int32 → Wd → Prop} (x1 : Int32) (h : ((x1 < 0 → Q (-nI 1) w) ∧ (¬ x1 < 0 → (((w.1 45 8) ≤ x1 → Q (-nI 1) w) ∧ (¬ (w.1 45 8) ≤ x1 → ∃ j1 : Nat, x1 = nI j1 ∧ j1 < 60 ∧ Q (w.1 46 j1) w))))) : Z m_Marks_sentenceOf d (qI Q) 0 [(0, .ref 45), (1, .int x1)] [] w := wp_ok (P := P_Marks_sentenceOf) (S := S_Marks_sentenceOf) rfl pr_Marks_sentenceOf 13 _ _ _ _ h
def P_Marks_leftOf : Prog := [(0, .iload_n 1), (1, .ifCond .lt 20), (4, .iload_n 1), (5, .aload_n 0), (6, .getfield 44), (9, .if_icmp .ge 12), (12, .aload_n 0), (13, .getfield 15), (16, .iload_n 1), (17, .iaload), (18, .goto 4), (21, .iconst (-1)), (22, .ireturn)]
theorem pr_Marks_leftOf : prOK m_Marks_leftOf P_Marks_leftOf = true := by decide +kernel
def S_Marks_leftOf : List (Nat × List Nat) := []
theorem ev_Marks_leftOf {d : Nat} {w : Wd} {Q : Int32 → Wd → Prop} (x1 : Int32) (h : Z m_Marks_leftOf d (qI Q) 0 [(0, .ref 45), (1, .int x1)] [] w) : EvI m_Marks_leftOf d [.ref 45, .int x1] w Q := Ev.ofZ (by decide +kernel) (Nat.le_of_ble_eq_true rfl) h
set_option maxRecDepth 20000 in
set_option maxHeartbeats 1000000 in
theorem vc_Marks_leftOf_0 {d : Nat} {w : Wd} {Q : Int32 → Wd → Prop} (x1 : Int32) (h : ((x1 < 0 → Q (-nI 1) w) ∧ (¬ x1 < 0 → (((w.1 45 8) ≤ x1 → Q (-nI 1) w) ∧ (¬ (w.1 45 8) ≤ x1 → ∃ j1 : Nat, x1 = nI j1 ∧ j1 < 60 ∧ Q (w.1 47 j1) w))))) : Z m_Marks_leftOf d (qI Q) 0 [(0, .ref 45), (1, .int x1)] [] w := wp_ok (P := P_Marks_leftOf) (S := S_Marks_leftOf) rfl pr_Marks_leftOf 13 _ _ _ _ h
def P_Marks_rightOf : Prog := [(0, .iload_n 1), (1, .ifCond .lt 20), (4, .iload_n 1), (5, .aload_n 0), (6, .getfield 44), (9, .if_icmp .ge 12), (12, .aload_n 0), (13, .getfield 18), (16, .iload_n 1), (17, .iaload), (18, .goto 4), (21, .iconst (-1)), (22, .ireturn)]
theorem pr_Marks_rightOf : prOK m_Marks_rightOf P_Marks_rightOf = true := by decide +kernel
def S_Marks_rightOf : List (Nat × List Nat) := []
theorem ev_Marks_rightOf {d : Nat} {w : Wd} {Q : Int32 → Wd → Prop} (x1 : Int32) (h : Z m_Marks_rightOf d (qI Q) 0 [(0, .ref 45), (1, .int x1)] [] w) : EvI m_Marks_rightOf d [.ref 45, .int x1] w Q := Ev.ofZ (by decide +kernel) (Nat.le_of_ble_eq_true rfl) h
set_option maxRecDepth 20000 in
set_option maxHeartbeats 1000000 in
theorem vc_Marks_rightOf_0 {d : Nat} {w : Wd} {Q : Int32 → Wd → Prop} (x1 : Int32) (h : ((x1 < 0 → Q (-nI 1) w) ∧ (¬ x1 < 0 → (((w.1 45 8) ≤ x1 → Q (-nI 1) w) ∧ (¬ (w.1 45 8) ≤ x1 → ∃ j1 : Nat, x1 = nI j1 ∧ j1 < 60 ∧ Q (w.1 48 j1) w))))) : Z m_Marks_rightOf d (qI Q) 0 [(0, .ref 45), (1, .int x1)] [] w := wp_ok (P := P_Marks_rightOf) (S := S_Marks_rightOf) rfl pr_Marks_rightOf 13 _ _ _ _ h
def P_Marks_caughtBy : Prog := [(0, .lconst 0), (1, .lstore_n 3), (2, .aload_n 0), (3, .getfield 32), (6, .iload_n 1), (7, .invokevirtual 54), (10, .istore 5), (12, .iconst 0), (13, .istore 6), (15, .iload 6), (17, .aload_n 0), (18, .getfield 44), (21, .if_icmp .ge 67), (24, .iload 6), (26, .bipush 60), (28, .if_icmp .ge 60), (31, .aload_n 0), (32, .iload 6), (34, .iload 5), (36, .iload_n 2), (37, .invokevirtual 60), (40, .ifCond .eq 42), (43, .aload_n 0), (44, .getfield 36), (47, .aload_n 0), (48, .getfield 9), (51, .iload 6), (53, .iaload), (54, .iload_n 1), (55, .aload_n 0), (56, .getfield 15), (59, .iload 6), (61, .iaload), (62, .aload_n 0), (63, .getfield 18), (66, .iload 6), (68, .iaload), (69, .invokevirtual 64), (72, .ifCond .eq 10), (75, .lload_n 3), (76, .lconst 1), (77, .iload 6), (79, .lshl), (80, .lor), (81, .lstore_n 3), (82, .iinc 6 1), (85, .goto (-70)), (88, .lload_n 3), (89, .lreturn)]
theorem pr_Marks_caughtBy : prOK m_Marks_caughtBy P_Marks_caughtBy = true := by decide +kernel
def S_Marks_caughtBy : List (Nat × List Nat) := [(15, [0, 1, 2, 3, 5, 6])]
theorem ev_Marks_caughtBy {d : Nat} {w : Wd} {Q : Int64 → Wd → Prop} (x1 : Int32) (x2 : Int32) (h : Z m_Marks_caughtBy d (qL Q) 0 [(0, .ref 45), (1, .int x1), (2, .int x2)] [] w) : EvL m_Marks_caughtBy d [.ref 45, .int x1, .int x2] w Q := Ev.ofZ (by decide +kernel) (Nat.le_of_ble_eq_true rfl) h
set_option maxRecDepth 20000 in
set_option maxHeartbeats 1000000 in
theorem vc_Marks_caughtBy_0 {d : Nat} {w : Wd} {Q : Int64 → Wd → Prop} (x1 : Int32) (x2 : Int32) (h : ∃ Q1 : Int32 → Wd → Prop, EvI m_Book_relationOf d [.ref 25, .int x1] w Q1 ∧ ∀ (r1 : Int32) (w1 : Wd), Q1 r1 w1 → Z m_Marks_caughtBy (d + 1) (qL Q) 15 [(0, .ref 45), (1, .int x1), (2, .int x2), (3, .long (lN 0)), (5, .int r1), (6, .int (nI 0))] [] w1) : Z m_Marks_caughtBy (d + 1) (qL Q) 0 [(0, .ref 45), (1, .int x1), (2, .int x2)] [] w := wp_ok (P := P_Marks_caughtBy) (S := S_Marks_caughtBy) rfl pr_Marks_caughtBy 10 _ _ _ _ h
set_option maxRecDepth 20000 in
set_option maxHeartbeats 1000000 in
theorem vc_Marks_caughtBy_15 {d : Nat} {w : Wd} {Q : Int64 → Wd → Prop} (x1 : Int32) (x2 : Int32) (x3 : Int64) (x5 : Int32) (x6 : Int32) (h : (((w.1 45 8) ≤ x6 → Q x3 w) ∧ (¬ (w.1 45 8) ≤ x6 → (((nI 60) ≤ x6 → Q x3 w) ∧ (¬ (nI 60) ≤ x6 → ∃ Q1 : Int32 → Wd → Prop, EvI m_Marks_isUsable d [.ref 45, .int x6, .int x5, .int x2] w Q1 ∧ ∀ (r1 : Int32) (w1 : Wd), Q1 r1 w1 → ((r1 = 0 → Z m_Marks_caughtBy (d + 1) (qL Q) 15 [(0, .ref 45), (1, .int x1), (2, .int x2), (3, .long x3), (5, .int x5), (6, .int (x6 + nI 1))] [] w1) ∧ (¬ r1 = 0 → ∃ j1 : Nat, x6 = nI j1 ∧ j1 < 60 ∧ ∃ j2 : Nat, x6 = nI j2 ∧ j2 < 60 ∧ ∃ j3 : Nat, x6 = nI j3 ∧ j3 < 60 ∧ ∃ Q2 : Int32 → Wd → Prop, EvI m_Finder_has d [.ref 36, .int (w1.1 46 j1), .int x1, .int (w1.1 47 j2), .int (w1.1 48 j3)] w1 Q2 ∧ ∀ (r2 : Int32) (w2 : Wd), Q2 r2 w2 → ((r2 = 0 → Z m_Marks_caughtBy (d + 1) (qL Q) 15 [(0, .ref 45), (1, .int x1), (2, .int x2), (3, .long x3), (5, .int x5), (6, .int (x6 + nI 1))] [] w2) ∧ (¬ r2 = 0 → Z m_Marks_caughtBy (d + 1) (qL Q) 15 [(0, .ref 45), (1, .int x1), (2, .int x2), (3, .long (x3 ||| ((lN 1) <<< (x6.toInt64 &&& 63)))), (5, .int x5), (6, .int (x6 + nI 1))] [] w2))))))))) : Z m_Marks_caughtBy (d + 1) (qL Q) 15 [(0, .ref 45), (1, .int x1), (2, .int x2), (3, .long x3), (5, .int x5), (6, .int x6)] [] w := wp_ok (P := P_Marks_caughtBy) (S := S_Marks_caughtBy) rfl pr_Marks_caughtBy 39 _ _ _ _ h
def P_Marks_shareOf : Prog := [(0, .aload_n 0), (1, .iload_n 1), (2, .iconst 1), (3, .invokevirtual 70), (6, .invokestatic 74), (9, .istore_n 2), (10, .iload_n 2), (11, .aload_n 0), (12, .iload_n 1), (13, .iconst 0), (14, .invokevirtual 70), (17, .invokestatic 74), (20, .iadd), (21, .istore_n 3), (22, .iload_n 3), (23, .ifCond .ne 7), (26, .iconst (-1)), (27, .goto 10), (30, .iload_n 2), (31, .sipush 1000), (34, .imul), (35, .iload_n 3), (36, .idiv), (37, .ireturn)]
theorem pr_Marks_shareOf : prOK m_Marks_shareOf P_Marks_shareOf = true := by decide +kernel
def S_Marks_shareOf : List (Nat × List Nat) := []
theorem ev_Marks_shareOf {d : Nat} {w : Wd} {Q : Int32 → Wd → Prop} (x1 : Int32) (h : Z m_Marks_shareOf d (qI Q) 0 [(0, .ref 45), (1, .int x1)] [] w) : EvI m_Marks_shareOf d [.ref 45, .int x1] w Q := Ev.ofZ (by decide +kernel) (Nat.le_of_ble_eq_true rfl) h
set_option maxRecDepth 20000 in
set_option maxHeartbeats 1000000 in
theorem vc_Marks_shareOf_0 {d : Nat} {w : Wd} {Q : Int32 → Wd → Prop} (x1 : Int32) (h : ∃ Q1 : Int64 → Wd → Prop, EvL m_Marks_caughtBy d [.ref 45, .int x1, .int (nI 1)] w Q1 ∧ ∀ (r1 : Int64) (w1 : Wd), Q1 r1 w1 → ∃ Q2 : Int32 → Wd → Prop, EvI m_Long_bitCount d [.long r1] w1 Q2 ∧ ∀ (r2 : Int32) (w2 : Wd), Q2 r2 w2 → ∃ Q3 : Int64 → Wd → Prop, EvL m_Marks_caughtBy d [.ref 45, .int x1, .int (nI 0)] w2 Q3 ∧ ∀ (r3 : Int64) (w3 : Wd), Q3 r3 w3 → ∃ Q4 : Int32 → Wd → Prop, EvI m_Long_bitCount d [.long r3] w3 Q4 ∧ ∀ (r4 : Int32) (w4 : Wd), Q4 r4 w4 → ((¬ (r2 + r4) = 0 → ¬ (r2 + r4) = 0 ∧ Q ((r2 * (nI 1000)) / (r2 + r4)) w4) ∧ ((r2 + r4) = 0 → Q (-nI 1) w4))) : Z m_Marks_shareOf (d + 1) (qI Q) 0 [(0, .ref 45), (1, .int x1)] [] w := wp_ok (P := P_Marks_shareOf) (S := S_Marks_shareOf) rfl pr_Marks_shareOf 23 _ _ _ _ h
def P_BestSet_setCaught : Prog := [(0, .iload_n 1), (1, .ifCond .lt 24), (4, .iload_n 1), (5, .bipush 12), (7, .if_icmp .ge 18), (10, .aload_n 0), (11, .getfield 9), (14, .iload_n 1), (15, .lload_n 2), (16, .lastore), (17, .aload_n 0), (18, .getfield 15), (21, .iload_n 1), (22, .lload 4), (24, .lastore), (25, .return_)]
theorem pr_BestSet_setCaught : prOK m_BestSet_setCaught P_BestSet_setCaught = true := by decide +kernel
def S_BestSet_setCaught : List (Nat × List Nat) := []
theorem ev_BestSet_setCaught {d : Nat} {w : Wd} {Q : Wd → Prop} (x1 : Int32) (x2 : Int64) (x4 : Int64) (h : Z m_BestSet_setCaught d (qV Q) 0 [(0, .ref 51), (1, .int x1), (2, .long x2), (4, .long x4)] [] w) : EvV m_BestSet_setCaught d [.ref 51, .int x1, .long x2, .long x4] w Q := Ev.ofZ (by decide +kernel) (Nat.le_of_ble_eq_true rfl) h
set_option maxRecDepth 20000 in
set_option maxHeartbeats 1000000 in
theorem vc_BestSet_setCaught_0 {d : Nat} {w : Wd} {Q : Wd → Prop} (x1 : Int32) (x2 : Int64) (x4 : Int64) (h : ((x1 < 0 → Q w) ∧ (¬ x1 < 0 → (((nI 12) ≤ x1 → Q w) ∧ (¬ (nI 12) ≤ x1 → ∃ j1 : Nat, x1 = nI j1 ∧ j1 < 12 ∧ ∃ j2 : Nat, x1 = nI j2 ∧ j2 < 12 ∧ Q (up2 (up2 w 52 j1 x2) 53 j2 x4)))))) : Z m_BestSet_setCaught d (qV Q) 0 [(0, .ref 51), (1, .int x1), (2, .long x2), (4, .long x4)] [] w := wp_ok (P := P_BestSet_setCaught) (S := S_BestSet_setCaught) rfl pr_BestSet_setCaught 17 _ _ _ _ h
def P_BestSet_choose : Prog := [(0, .aload_n 0), (1, .iload_n 1), (2, .bipush 12), (4, .invokestatic 18), (7, .putfield 24), (10, .aload_n 0), (11, .iload_n 2), (12, .putfield 28), (15, .aload_n 0), (16, .iconst 0), (17, .putfield 31), (20, .aload_n 0), (21, .iconst 0), (22, .putfield 34), (25, .aload_n 0), (26, .iconst 0), (27, .iconst 0), (28, .lconst 0), (29, .lconst 0), (30, .invokevirtual 37), (33, .aload_n 0), (34, .getfield 31), (37, .ireturn)]
theorem pr_BestSet_choose : prOK m_BestSet_choose P_BestSet_choose = true := by decide +kernel
def S_BestSet_choose : List (Nat × List Nat) := []
theorem ev_BestSet_choose {d : Nat} {w : Wd} {Q : Int32 → Wd → Prop} (x1 : Int32) (x2 : Int32) (h : Z m_BestSet_choose d (qI Q) 0 [(0, .ref 51), (1, .int x1), (2, .int x2)] [] w) : EvI m_BestSet_choose d [.ref 51, .int x1, .int x2] w Q := Ev.ofZ (by decide +kernel) (Nat.le_of_ble_eq_true rfl) h
set_option maxRecDepth 20000 in
set_option maxHeartbeats 1000000 in
theorem vc_BestSet_choose_0 {d : Nat} {w : Wd} {Q : Int32 → Wd → Prop} (x1 : Int32) (x2 : Int32) (h : ∃ Q1 : Wd → Prop, EvV m_BestSet_tryFrom d [.ref 51, .int (nI 0), .int (nI 0), .long (lN 0), .long (lN 0)] (up1 (up1 (up1 (up1 w 51 2 (if (nI 12) < x1 then (nI 12) else x1)) 51 3 x2) 51 4 (nI 0)) 51 5 (nI 0)) Q1 ∧ ∀ w1 : Wd, Q1 w1 → Q (w1.1 51 4) w1) : Z m_BestSet_choose (d + 1) (qI Q) 0 [(0, .ref 51), (1, .int x1), (2, .int x2)] [] w := wp_ok (P := P_BestSet_choose) (S := S_BestSet_choose) rfl pr_BestSet_choose 24 _ _ _ _ h
def P_BestSet_tryFrom : Prog := [(0, .lload 5), (2, .invokestatic 41), (5, .aload_n 0), (6, .getfield 28), (9, .if_icmp .le 4), (12, .return_), (13, .iload_n 1), (14, .ifCond .lt 17), (17, .iload_n 1), (18, .aload_n 0), (19, .getfield 24), (22, .if_icmp .ge 9), (25, .iload_n 1), (26, .bipush 12), (28, .if_icmp .lt 13), (31, .aload_n 0), (32, .iload_n 2), (33, .lload_n 3), (34, .invokestatic 41), (37, .invokevirtual 47), (40, .return_), (41, .aload_n 0), (42, .iload_n 1), (43, .iconst 1), (44, .iadd), (45, .iload_n 2), (46, .lload_n 3), (47, .lload 5), (49, .invokevirtual 37), (52, .aload_n 0), (53, .getfield 9), (56, .iload_n 1), (57, .laload), (58, .lload_n 3), (59, .ldc2_w 51), (62, .lxor), (63, .land), (64, .lconst 0), (65, .lcmp), (66, .ifCond .eq 32), (69, .aload_n 0), (70, .iload_n 1), (71, .iconst 1), (72, .iadd), (73, .iload_n 2), (74, .iconst 1), (75, .iload_n 1), (76, .ishl), (77, .ior), (78, .lload_n 3), (79, .aload_n 0), (80, .getfield 9), (83, .iload_n 1), (84, .laload), (85, .lor), (86, .lload 5), (88, .aload_n 0), (89, .getfield 15), (92, .iload_n 1), (93, .laload), (94, .lor), (95, .invokevirtual 37), (98, .return_)]
theorem pr_BestSet_tryFrom : prOK m_BestSet_tryFrom P_BestSet_tryFrom = true := by decide +kernel
def S_BestSet_tryFrom : List (Nat × List Nat) := []
theorem ev_BestSet_tryFrom {d : Nat} {w : Wd} {Q : Wd → Prop} (x1 : Int32) (x2 : Int32) (x3 : Int64) (x5 : Int64) (h : Z m_BestSet_tryFrom d (qV Q) 0 [(0, .ref 51), (1, .int x1), (2, .int x2), (3, .long x3), (5, .long x5)] [] w) : EvV m_BestSet_tryFrom d [.ref 51, .int x1, .int x2, .long x3, .long x5] w Q := Ev.ofZ (by decide +kernel) (Nat.le_of_ble_eq_true rfl) h
set_option maxRecDepth 20000 in
set_option maxHeartbeats 1000000 in
theorem vc_BestSet_tryFrom_0 {d : Nat} {w : Wd} {Q : Wd → Prop} (x1 : Int32) (x2 : Int32) (x3 : Int64) (x5 : Int64) (h : ∃ Q1 : Int32 → Wd → Prop, EvI m_Long_bitCount d [.long x5] w Q1 ∧ ∀ (r1 : Int32) (w1 : Wd), Q1 r1 w1 → ((r1 ≤ (w1.1 51 3) → ((x1 < 0 → ∃ Q2 : Int32 → Wd → Prop, EvI m_Long_bitCount d [.long x3] w1 Q2 ∧ ∀ (r2 : Int32) (w2 : Wd), Q2 r2 w2 → ∃ Q3 : Wd → Prop, EvV m_BestSet_weigh d [.ref 51, .int x2, .int r2] w2 Q3 ∧ ∀ w3 : Wd, Q3 w3 → Q w3) ∧ (¬ x1 < 0 → (((w1.1 51 2) ≤ x1 → ∃ Q4 : Int32 → Wd → Prop, EvI m_Long_bitCount d [.long x3] w1 Q4 ∧ ∀ (r4 : Int32) (w4 : Wd), Q4 r4 w4 → ∃ Q5 : Wd → Prop, EvV m_BestSet_weigh d [.ref 51, .int x2, .int r4] w4 Q5 ∧ ∀ w5 : Wd, Q5 w5 → Q w5) ∧ (¬ (w1.1 51 2) ≤ x1 → ((x1 < (nI 12) → ∃ Q6 : Wd → Prop, EvV m_BestSet_tryFrom d [.ref 51, .int (x1 + (nI 1)), .int x2, .long x3, .long x5] w1 Q6 ∧ ∀ w6 : Wd, Q6 w6 → ∃ j1 : Nat, x1 = nI j1 ∧ j1 < 12 ∧ (((lg_cmp ((w6.2 52 j1) &&& (x3 ^^^ (-1 : Int64))) (lN 0)) = 0 → Q w6) ∧ (¬ (lg_cmp ((w6.2 52 j1) &&& (x3 ^^^ (-1 : Int64))) (lN 0)) = 0 → ∃ j2 : Nat, x1 = nI j2 ∧ j2 < 12 ∧ ∃ j3 : Nat, x1 = nI j3 ∧ j3 < 12 ∧ ∃ Q7 : Wd → Prop, EvV m_BestSet_tryFrom d [.ref 51, .int (x1 + (nI 1)), .int (x2 ||| ((nI 1) <<< (x1 &&& 31))), .long (x3 ||| (w6.2 52 j2)), .long (x5 ||| (w6.2 53 j3))] w6 Q7 ∧ ∀ w7 : Wd, Q7 w7 → Q w7))) ∧ (¬ x1 < (nI 12) → ∃ Q8 : Int32 → Wd → Prop, EvI m_Long_bitCount d [.long x3] w1 Q8 ∧ ∀ (r8 : Int32) (w8 : Wd), Q8 r8 w8 → ∃ Q9 : Wd → Prop, EvV m_BestSet_weigh d [.ref 51, .int x2, .int r8] w8 Q9 ∧ ∀ w9 : Wd, Q9 w9 → Q w9))))))) ∧ (¬ r1 ≤ (w1.1 51 3) → Q w1))) : Z m_BestSet_tryFrom (d + 1) (qV Q) 0 [(0, .ref 51), (1, .int x1), (2, .int x2), (3, .long x3), (5, .long x5)] [] w := wp_ok (P := P_BestSet_tryFrom) (S := S_BestSet_tryFrom) rfl pr_BestSet_tryFrom 57 _ _ _ _ h
def P_BestSet_weigh : Prog := [(0, .aload_n 0), (1, .getfield 31), (4, .invokestatic 53), (7, .iload_n 1), (8, .invokestatic 53), (11, .isub), (12, .istore_n 3), (13, .iload_n 2), (14, .aload_n 0), (15, .getfield 34), (18, .if_icmp .gt 27), (21, .iload_n 2), (22, .aload_n 0), (23, .getfield 34), (26, .if_icmp .ne 29), (29, .iload_n 3), (30, .ifCond .gt 15), (33, .iload_n 3), (34, .ifCond .ne 21), (37, .iload_n 1), (38, .aload_n 0), (39, .getfield 31), (42, .if_icmp .ge 13), (45, .aload_n 0), (46, .iload_n 1), (47, .putfield 31), (50, .aload_n 0), (51, .iload_n 2), (52, .putfield 34), (55, .return_)]
theorem pr_BestSet_weigh : prOK m_BestSet_weigh P_BestSet_weigh = true := by decide +kernel
def S_BestSet_weigh : List (Nat × List Nat) := []
theorem ev_BestSet_weigh {d : Nat} {w : Wd} {Q : Wd → Prop} (x1 : Int32) (x2 : Int32) (h : Z m_BestSet_weigh d (qV Q) 0 [(0, .ref 51), (1, .int x1), (2, .int x2)] [] w) : EvV m_BestSet_weigh d [.ref 51, .int x1, .int x2] w Q := Ev.ofZ (by decide +kernel) (Nat.le_of_ble_eq_true rfl) h
set_option maxRecDepth 20000 in
set_option maxHeartbeats 1000000 in
theorem vc_BestSet_weigh_0 {d : Nat} {w : Wd} {Q : Wd → Prop} (x1 : Int32) (x2 : Int32) (h : ∃ Q1 : Int32 → Wd → Prop, EvI m_Integer_bitCount d [.int (w.1 51 4)] w Q1 ∧ ∀ (r1 : Int32) (w1 : Wd), Q1 r1 w1 → ∃ Q2 : Int32 → Wd → Prop, EvI m_Integer_bitCount d [.int x1] w1 Q2 ∧ ∀ (r2 : Int32) (w2 : Wd), Q2 r2 w2 → (((w2.1 51 5) < x2 → Q (up1 (up1 w2 51 4 x1) 51 5 x2)) ∧ (¬ (w2.1 51 5) < x2 → ((¬ x2 = (w2.1 51 5) → Q w2) ∧ (x2 = (w2.1 51 5) → ((0 < (r1 - r2) → Q (up1 (up1 w2 51 4 x1) 51 5 x2)) ∧ (¬ 0 < (r1 - r2) → ((¬ (r1 - r2) = 0 → Q w2) ∧ ((r1 - r2) = 0 → (((w2.1 51 4) ≤ x1 → Q w2) ∧ (¬ (w2.1 51 4) ≤ x1 → Q (up1 (up1 w2 51 4 x1) 51 5 x2)))))))))))) : Z m_BestSet_weigh (d + 1) (qV Q) 0 [(0, .ref 51), (1, .int x1), (2, .int x2)] [] w := wp_ok (P := P_BestSet_weigh) (S := S_BestSet_weigh) rfl pr_BestSet_weigh 31 _ _ _ _ h
def P_Lesson_study : Prog := [(0, .iconst 0), (1, .istore_n 2), (2, .iconst 0), (3, .istore_n 3), (4, .iload_n 3), (5, .aload_n 0), (6, .getfield 26), (9, .invokevirtual 30), (12, .if_icmp .ge 53), (15, .aload_n 0), (16, .getfield 26), (19, .iload_n 3), (20, .iload_n 1), (21, .iconst 1), (22, .invokevirtual 36), (25, .ifCond .ne 6), (28, .goto 31), (31, .iload_n 2), (32, .ifCond .ne 14), (35, .aload_n 0), (36, .iload_n 1), (37, .iload_n 3), (38, .invokevirtual 40), (41, .iconst 1), (42, .istore_n 2), (43, .goto 16), (46, .aload_n 0), (47, .iload_n 3), (48, .invokevirtual 44), (51, .ifCond .eq 8), (54, .aload_n 0), (55, .iload_n 3), (56, .invokevirtual 48), (59, .iinc 3 1), (62, .goto (-58)), (65, .iload_n 2), (66, .ifCond .eq 10), (69, .aload_n 0), (70, .getfield 52), (73, .goto 4), (76, .iconst (-1)), (77, .ireturn)]
theorem pr_Lesson_study : prOK m_Lesson_study P_Lesson_study = true := by decide +kernel
def S_Lesson_study : List (Nat × List Nat) := [(4, [0, 1, 2, 3])]
theorem ev_Lesson_study {d : Nat} {w : Wd} {Q : Int32 → Wd → Prop} (x1 : Int32) (h : Z m_Lesson_study d (qI Q) 0 [(0, .ref 54), (1, .int x1)] [] w) : EvI m_Lesson_study d [.ref 54, .int x1] w Q := Ev.ofZ (by decide +kernel) (Nat.le_of_ble_eq_true rfl) h
set_option maxRecDepth 20000 in
set_option maxHeartbeats 1000000 in
theorem vc_Lesson_study_0 {d : Nat} {w : Wd} {Q : Int32 → Wd → Prop} (x1 : Int32) (h : Z m_Lesson_study (d + 1) (qI Q) 4 [(0, .ref 54), (1, .int x1), (2, .int (nI 0)), (3, .int (nI 0))] [] w) : Z m_Lesson_study (d + 1) (qI Q) 0 [(0, .ref 54), (1, .int x1)] [] w := wp_ok (P := P_Lesson_study) (S := S_Lesson_study) rfl pr_Lesson_study 5 _ _ _ _ h
set_option maxRecDepth 20000 in
set_option maxHeartbeats 1000000 in
theorem vc_Lesson_study_4 {d : Nat} {w : Wd} {Q : Int32 → Wd → Prop} (x1 : Int32) (x2 : Int32) (x3 : Int32) (h : ∃ Q1 : Int32 → Wd → Prop, EvI m_Marks_size d [.ref 45] w Q1 ∧ ∀ (r1 : Int32) (w1 : Wd), Q1 r1 w1 → ((r1 ≤ x3 → ((x2 = 0 → Q (-nI 1) w1) ∧ (¬ x2 = 0 → Q (w1.1 54 5) w1))) ∧ (¬ r1 ≤ x3 → ∃ Q2 : Int32 → Wd → Prop, EvI m_Marks_isUsable d [.ref 45, .int x3, .int x1, .int (nI 1)] w1 Q2 ∧ ∀ (r2 : Int32) (w2 : Wd), Q2 r2 w2 → ((¬ r2 = 0 → ((¬ x2 = 0 → ∃ Q3 : Int32 → Wd → Prop, EvI m_Lesson_isLike d [.ref 54, .int x3] w2 Q3 ∧ ∀ (r3 : Int32) (w3 : Wd), Q3 r3 w3 → ((r3 = 0 → Z m_Lesson_study (d + 1) (qI Q) 4 [(0, .ref 54), (1, .int x1), (2, .int x2), (3, .int (x3 + nI 1))] [] w3) ∧ (¬ r3 = 0 → ∃ Q4 : Wd → Prop, EvV m_Lesson_widen d [.ref 54, .int x3] w3 Q4 ∧ ∀ w4 : Wd, Q4 w4 → Z m_Lesson_study (d + 1) (qI Q) 4 [(0, .ref 54), (1, .int x1), (2, .int x2), (3, .int (x3 + nI 1))] [] w4))) ∧ (x2 = 0 → ∃ Q5 : Wd → Prop, EvV m_Lesson_begin d [.ref 54, .int x1, .int x3] w2 Q5 ∧ ∀ w5 : Wd, Q5 w5 → Z m_Lesson_study (d + 1) (qI Q) 4 [(0, .ref 54), (1, .int x1), (2, .int (nI 1)), (3, .int (x3 + nI 1))] [] w5))) ∧ (r2 = 0 → Z m_Lesson_study (d + 1) (qI Q) 4 [(0, .ref 54), (1, .int x1), (2, .int x2), (3, .int (x3 + nI 1))] [] w2))))) : Z m_Lesson_study (d + 1) (qI Q) 4 [(0, .ref 54), (1, .int x1), (2, .int x2), (3, .int x3)] [] w := wp_ok (P := P_Lesson_study) (S := S_Lesson_study) rfl pr_Lesson_study 24 _ _ _ _ h
def P_Lesson_begin : Prog := [(0, .aload_n 0), (1, .getfield 26), (4, .iload_n 2), (5, .invokevirtual 56), (8, .aload_n 0), (9, .getfield 26), (12, .iload_n 2), (13, .invokevirtual 60), (16, .isub), (17, .istore_n 3), (18, .aload_n 0), (19, .iload_n 1), (20, .putfield 63), (23, .aload_n 0), (24, .iload_n 3), (25, .ifCond .le 7), (28, .iconst 1), (29, .goto 4), (32, .iconst 0), (33, .putfield 66), (36, .aload_n 0), (37, .iload_n 3), (38, .invokestatic 70), (41, .iconst 1), (42, .iadd), (43, .bipush 16), (45, .invokestatic 75), (48, .putfield 52), (51, .iconst 0), (52, .istore 4), (54, .iload 4), (56, .aload_n 0), (57, .getfield 52), (60, .if_icmp .ge 31), (63, .aload_n 0), (64, .getfield 9), (67, .iload 4), (69, .iconst 0), (70, .iastore), (71, .aload_n 0), (72, .getfield 15), (75, .iload 4), (77, .aload_n 0), (78, .iload_n 2), (79, .iload 4), (81, .invokevirtual 79), (84, .iastore), (85, .iinc 4 1), (88, .goto (-34)), (91, .return_)]
theorem pr_Lesson_begin : prOK m_Lesson_begin P_Lesson_begin = true := by decide +kernel
def S_Lesson_begin : List (Nat × List Nat) := [(54, [0, 1, 2, 3, 4])]
theorem ev_Lesson_begin {d : Nat} {w : Wd} {Q : Wd → Prop} (x1 : Int32) (x2 : Int32) (h : Z m_Lesson_begin d (qV Q) 0 [(0, .ref 54), (1, .int x1), (2, .int x2)] [] w) : EvV m_Lesson_begin d [.ref 54, .int x1, .int x2] w Q := Ev.ofZ (by decide +kernel) (Nat.le_of_ble_eq_true rfl) h
set_option maxRecDepth 20000 in
set_option maxHeartbeats 1000000 in
theorem vc_Lesson_begin_0 {d : Nat} {w : Wd} {Q : Wd → Prop} (x1 : Int32) (x2 : Int32) (h : ∃ Q1 : Int32 → Wd → Prop, EvI m_Marks_rightOf d [.ref 45, .int x2] w Q1 ∧ ∀ (r1 : Int32) (w1 : Wd), Q1 r1 w1 → ∃ Q2 : Int32 → Wd → Prop, EvI m_Marks_leftOf d [.ref 45, .int x2] w1 Q2 ∧ ∀ (r2 : Int32) (w2 : Wd), Q2 r2 w2 → (((r1 - r2) ≤ 0 → ((nI 0) = 0 ∨ (nI 0) = 1) ∧ Z m_Lesson_begin (d + 1) (qV Q) 54 [(0, .ref 54), (1, .int x1), (2, .int x2), (3, .int (r1 - r2)), (4, .int (nI 0))] [] (up1 (up1 (up1 w2 54 6 x1) 54 7 (nI 0)) 54 5 (if (nI 16) < ((if 0 ≤ (r1 - r2) then (r1 - r2) else 0 - (r1 - r2)) + (nI 1)) then (nI 16) else ((if 0 ≤ (r1 - r2) then (r1 - r2) else 0 - (r1 - r2)) + (nI 1))))) ∧ (¬ (r1 - r2) ≤ 0 → ((nI 1) = 0 ∨ (nI 1) = 1) ∧ Z m_Lesson_begin (d + 1) (qV Q) 54 [(0, .ref 54), (1, .int x1), (2, .int x2), (3, .int (r1 - r2)), (4, .int (nI 0))] [] (up1 (up1 (up1 w2 54 6 x1) 54 7 (nI 1)) 54 5 (if (nI 16) < ((if 0 ≤ (r1 - r2) then (r1 - r2) else 0 - (r1 - r2)) + (nI 1)) then (nI 16) else ((if 0 ≤ (r1 - r2) then (r1 - r2) else 0 - (r1 - r2)) + (nI 1))))))) : Z m_Lesson_begin (d + 1) (qV Q) 0 [(0, .ref 54), (1, .int x1), (2, .int x2)] [] w := wp_ok (P := P_Lesson_begin) (S := S_Lesson_begin) rfl pr_Lesson_begin 30 _ _ _ _ h
set_option maxRecDepth 20000 in
set_option maxHeartbeats 1000000 in
theorem vc_Lesson_begin_54 {d : Nat} {w : Wd} {Q : Wd → Prop} (x1 : Int32) (x2 : Int32) (x3 : Int32) (x4 : Int32) (h : (((w.1 54 5) ≤ x4 → Q w) ∧ (¬ (w.1 54 5) ≤ x4 → ∃ j1 : Nat, x4 = nI j1 ∧ j1 < 16 ∧ ∃ Q1 : Int32 → Wd → Prop, EvI m_Lesson_wordAt d [.ref 54, .int x2, .int x4] (up1 w 55 j1 (nI 0)) Q1 ∧ ∀ (r1 : Int32) (w1 : Wd), Q1 r1 w1 → ∃ j2 : Nat, x4 = nI j2 ∧ j2 < 16 ∧ Z m_Lesson_begin (d + 1) (qV Q) 54 [(0, .ref 54), (1, .int x1), (2, .int x2), (3, .int x3), (4, .int (x4 + nI 1))] [] (up1 w1 56 j2 r1)))) : Z m_Lesson_begin (d + 1) (qV Q) 54 [(0, .ref 54), (1, .int x1), (2, .int x2), (3, .int x3), (4, .int x4)] [] w := wp_ok (P := P_Lesson_begin) (S := S_Lesson_begin) rfl pr_Lesson_begin 20 _ _ _ _ h
def P_Lesson_isLike : Prog := [(0, .aload_n 0), (1, .getfield 26), (4, .iload_n 1), (5, .invokevirtual 56), (8, .aload_n 0), (9, .getfield 26), (12, .iload_n 1), (13, .invokevirtual 60), (16, .isub), (17, .istore_n 2), (18, .iload_n 2), (19, .aload_n 0), (20, .getfield 66), (23, .ifCond .eq 12), (26, .aload_n 0), (27, .getfield 52), (30, .iconst 1), (31, .isub), (32, .goto 9), (35, .iconst 1), (36, .aload_n 0), (37, .getfield 52), (40, .isub), (41, .if_icmp .ne 7), (44, .iconst 1), (45, .goto 4), (48, .iconst 0), (49, .ireturn)]
theorem pr_Lesson_isLike : prOK m_Lesson_isLike P_Lesson_isLike = true := by decide +kernel
def S_Lesson_isLike : List (Nat × List Nat) := []
theorem ev_Lesson_isLike {d : Nat} {w : Wd} {Q : Int32 → Wd → Prop} (x1 : Int32) (h : Z m_Lesson_isLike d (qI Q) 0 [(0, .ref 54), (1, .int x1)] [] w) : EvI m_Lesson_isLike d [.ref 54, .int x1] w Q := Ev.ofZ (by decide +kernel) (Nat.le_of_ble_eq_true rfl) h
set_option maxRecDepth 20000 in
set_option maxHeartbeats 1000000 in
theorem vc_Lesson_isLike_0 {d : Nat} {w : Wd} {Q : Int32 → Wd → Prop} (x1 : Int32) (h : ∃ Q1 : Int32 → Wd → Prop, EvI m_Marks_rightOf d [.ref 45, .int x1] w Q1 ∧ ∀ (r1 : Int32) (w1 : Wd), Q1 r1 w1 → ∃ Q2 : Int32 → Wd → Prop, EvI m_Marks_leftOf d [.ref 45, .int x1] w1 Q2 ∧ ∀ (r2 : Int32) (w2 : Wd), Q2 r2 w2 → (((w2.1 54 7) = 0 → ((¬ (r1 - r2) = ((nI 1) - (w2.1 54 5)) → ((nI 0) = 0 ∨ (nI 0) = 1) ∧ Q (nI 0) w2) ∧ ((r1 - r2) = ((nI 1) - (w2.1 54 5)) → ((nI 1) = 0 ∨ (nI 1) = 1) ∧ Q (nI 1) w2))) ∧ (¬ (w2.1 54 7) = 0 → ((¬ (r1 - r2) = ((w2.1 54 5) - (nI 1)) → ((nI 0) = 0 ∨ (nI 0) = 1) ∧ Q (nI 0) w2) ∧ ((r1 - r2) = ((w2.1 54 5) - (nI 1)) → ((nI 1) = 0 ∨ (nI 1) = 1) ∧ Q (nI 1) w2))))) : Z m_Lesson_isLike (d + 1) (qI Q) 0 [(0, .ref 54), (1, .int x1)] [] w := wp_ok (P := P_Lesson_isLike) (S := S_Lesson_isLike) rfl pr_Lesson_isLike 24 _ _ _ _ h
def P_Lesson_wordAt : Prog := [(0, .aload_n 0), (1, .getfield 26), (4, .iload_n 1), (5, .invokevirtual 60), (8, .aload_n 0), (9, .getfield 26), (12, .iload_n 1), (13, .invokevirtual 56), (16, .invokestatic 75), (19, .istore_n 3), (20, .aload_n 0), (21, .getfield 22), (24, .aload_n 0), (25, .getfield 26), (28, .iload_n 1), (29, .invokevirtual 82), (32, .iload_n 3), (33, .iload_n 2), (34, .iadd), (35, .invokevirtual 85), (38, .ireturn)]
theorem pr_Lesson_wordAt : prOK m_Lesson_wordAt P_Lesson_wordAt = true := by decide +kernel
def S_Lesson_wordAt : List (Nat × List Nat) := []
theorem ev_Lesson_wordAt {d : Nat} {w : Wd} {Q : Int32 → Wd → Prop} (x1 : Int32) (x2 : Int32) (h : Z m_Lesson_wordAt d (qI Q) 0 [(0, .ref 54), (1, .int x1), (2, .int x2)] [] w) : EvI m_Lesson_wordAt d [.ref 54, .int x1, .int x2] w Q := Ev.ofZ (by decide +kernel) (Nat.le_of_ble_eq_true rfl) h
set_option maxRecDepth 20000 in
set_option maxHeartbeats 1000000 in
theorem vc_Lesson_wordAt_0 {d : Nat} {w : Wd} {Q : Int32 → Wd → Prop} (x1 : Int32) (x2 : Int32) (h : ∃ Q1 : Int32 → Wd → Prop, EvI m_Marks_leftOf d [.ref 45, .int x1] w Q1 ∧ ∀ (r1 : Int32) (w1 : Wd), Q1 r1 w1 → ∃ Q2 : Int32 → Wd → Prop, EvI m_Marks_rightOf d [.ref 45, .int x1] w1 Q2 ∧ ∀ (r2 : Int32) (w2 : Wd), Q2 r2 w2 → ∃ Q3 : Int32 → Wd → Prop, EvI m_Marks_sentenceOf d [.ref 45, .int x1] w2 Q3 ∧ ∀ (r3 : Int32) (w3 : Wd), Q3 r3 w3 → ∃ Q4 : Int32 → Wd → Prop, EvI m_Sentences_wordAt d [.ref 3, .int r3, .int ((if r2 < r1 then r2 else r1) + x2)] w3 Q4 ∧ ∀ (r4 : Int32) (w4 : Wd), Q4 r4 w4 → Q r4 w4) : Z m_Lesson_wordAt (d + 1) (qI Q) 0 [(0, .ref 54), (1, .int x1), (2, .int x2)] [] w := wp_ok (P := P_Lesson_wordAt) (S := S_Lesson_wordAt) rfl pr_Lesson_wordAt 22 _ _ _ _ h
def P_Lesson_widen : Prog := [(0, .iconst 0), (1, .istore_n 2), (2, .iload_n 2), (3, .aload_n 0), (4, .getfield 52), (7, .if_icmp .ge 119), (10, .iload_n 2), (11, .bipush 16), (13, .if_icmp .ge 113), (16, .aload_n 0), (17, .iload_n 1), (18, .iload_n 2), (19, .invokevirtual 79), (22, .istore_n 3), (23, .aload_n 0), (24, .getfield 18), (27, .aload_n 0), (28, .getfield 9), (31, .iload_n 2), (32, .iaload), (33, .aload_n 0), (34, .getfield 15), (37, .iload_n 2), (38, .iaload), (39, .iload_n 3), (40, .invokevirtual 88), (43, .ifCond .eq 6), (46, .goto 74), (49, .aload_n 0), (50, .getfield 9), (53, .iload_n 2), (54, .iaload), (55, .ifCond .ne 51), (58, .aload_n 0), (59, .getfield 18), (62, .aload_n 0), (63, .getfield 15), (66, .iload_n 2), (67, .iaload), (68, .invokevirtual 94), (71, .aload_n 0), (72, .getfield 18), (75, .iload_n 3), (76, .invokevirtual 94), (79, .if_icmp .ne 27), (82, .aload_n 0), (83, .getfield 9), (86, .iload_n 2), (87, .iconst 1), (88, .iastore), (89, .aload_n 0), (90, .getfield 15), (93, .iload_n 2), (94, .aload_n 0), (95, .getfield 18), (98, .iload_n 3), (99, .invokevirtual 94), (102, .iastore), (103, .goto 17), (106, .aload_n 0), (107, .getfield 9), (110, .iload_n 2), (111, .iconst 2), (112, .iastore), (113, .aload_n 0), (114, .getfield 15), (117, .iload_n 2), (118, .iconst 0), (119, .iastore), (120, .iinc 2 1), (123, .goto (-121)), (126, .return_)]
theorem pr_Lesson_widen : prOK m_Lesson_widen P_Lesson_widen = true := by decide +kernel
def S_Lesson_widen : List (Nat × List Nat) := [(2, [0, 1, 2])]
theorem ev_Lesson_widen {d : Nat} {w : Wd} {Q : Wd → Prop} (x1 : Int32) (h : Z m_Lesson_widen d (qV Q) 0 [(0, .ref 54), (1, .int x1)] [] w) : EvV m_Lesson_widen d [.ref 54, .int x1] w Q := Ev.ofZ (by decide +kernel) (Nat.le_of_ble_eq_true rfl) h
set_option maxRecDepth 20000 in
set_option maxHeartbeats 1000000 in
theorem vc_Lesson_widen_0 {d : Nat} {w : Wd} {Q : Wd → Prop} (x1 : Int32) (h : Z m_Lesson_widen (d + 1) (qV Q) 2 [(0, .ref 54), (1, .int x1), (2, .int (nI 0))] [] w) : Z m_Lesson_widen (d + 1) (qV Q) 0 [(0, .ref 54), (1, .int x1)] [] w := wp_ok (P := P_Lesson_widen) (S := S_Lesson_widen) rfl pr_Lesson_widen 3 _ _ _ _ h
set_option maxRecDepth 20000 in
set_option maxHeartbeats 1000000 in
theorem vc_Lesson_widen_2 {d : Nat} {w : Wd} {Q : Wd → Prop} (x1 : Int32) (x2 : Int32) (h : (((w.1 54 5) ≤ x2 → Q w) ∧ (¬ (w.1 54 5) ≤ x2 → (((nI 16) ≤ x2 → Q w) ∧ (¬ (nI 16) ≤ x2 → ∃ Q1 : Int32 → Wd → Prop, EvI m_Lesson_wordAt d [.ref 54, .int x1, .int x2] w Q1 ∧ ∀ (r1 : Int32) (w1 : Wd), Q1 r1 w1 → ∃ j1 : Nat, x2 = nI j1 ∧ j1 < 16 ∧ ∃ j2 : Nat, x2 = nI j2 ∧ j2 < 16 ∧ ∃ Q2 : Int32 → Wd → Prop, EvI m_Lexicon_fits d [.ref 0, .int (w1.1 55 j1), .int (w1.1 56 j2), .int r1] w1 Q2 ∧ ∀ (r2 : Int32) (w2 : Wd), Q2 r2 w2 → ((r2 = 0 → ∃ j3 : Nat, x2 = nI j3 ∧ j3 < 16 ∧ ((¬ (w2.1 55 j3) = 0 → ∃ j4 : Nat, x2 = nI j4 ∧ j4 < 16 ∧ ∃ j5 : Nat, x2 = nI j5 ∧ j5 < 16 ∧ Z m_Lesson_widen (d + 1) (qV Q) 2 [(0, .ref 54), (1, .int x1), (2, .int (x2 + nI 1))] [] (up1 (up1 w2 55 j4 (nI 2)) 56 j5 (nI 0))) ∧ ((w2.1 55 j3) = 0 → ∃ j6 : Nat, x2 = nI j6 ∧ j6 < 16 ∧ ∃ Q3 : Int32 → Wd → Prop, EvI m_Lexicon_sortOf d [.ref 0, .int (w2.1 56 j6)] w2 Q3 ∧ ∀ (r3 : Int32) (w3 : Wd), Q3 r3 w3 → ∃ Q4 : Int32 → Wd → Prop, EvI m_Lexicon_sortOf d [.ref 0, .int r1] w3 Q4 ∧ ∀ (r4 : Int32) (w4 : Wd), Q4 r4 w4 → ((¬ r3 = r4 → ∃ j7 : Nat, x2 = nI j7 ∧ j7 < 16 ∧ ∃ j8 : Nat, x2 = nI j8 ∧ j8 < 16 ∧ Z m_Lesson_widen (d + 1) (qV Q) 2 [(0, .ref 54), (1, .int x1), (2, .int (x2 + nI 1))] [] (up1 (up1 w4 55 j7 (nI 2)) 56 j8 (nI 0))) ∧ (r3 = r4 → ∃ j9 : Nat, x2 = nI j9 ∧ j9 < 16 ∧ ∃ Q5 : Int32 → Wd → Prop, EvI m_Lexicon_sortOf d [.ref 0, .int r1] (up1 w4 55 j9 (nI 1)) Q5 ∧ ∀ (r5 : Int32) (w5 : Wd), Q5 r5 w5 → ∃ j10 : Nat, x2 = nI j10 ∧ j10 < 16 ∧ Z m_Lesson_widen (d + 1) (qV Q) 2 [(0, .ref 54), (1, .int x1), (2, .int (x2 + nI 1))] [] (up1 w5 56 j10 r5)))))) ∧ (¬ r2 = 0 → Z m_Lesson_widen (d + 1) (qV Q) 2 [(0, .ref 54), (1, .int x1), (2, .int (x2 + nI 1))] [] w2))))))) : Z m_Lesson_widen (d + 1) (qV Q) 2 [(0, .ref 54), (1, .int x1), (2, .int x2)] [] w := wp_ok (P := P_Lesson_widen) (S := S_Lesson_widen) rfl pr_Lesson_widen 59 _ _ _ _ h
def P_Lesson_tellOf : Prog := [(0, .iload_n 1), (1, .ifCond .lt 17), (4, .iload_n 1), (5, .aload_n 0), (6, .getfield 52), (9, .if_icmp .ge 9), (12, .iload_n 1), (13, .bipush 16), (15, .if_icmp .lt 5), (18, .iconst (-1)), (19, .ireturn), (20, .iload_n 2), (21, .tableswitch 47 0 2 #[27, 34, 41]), (48, .aload_n 0), (49, .getfield 9), (52, .iload_n 1), (53, .iaload), (54, .ireturn), (55, .aload_n 0), (56, .getfield 15), (59, .iload_n 1), (60, .iaload), (61, .ireturn), (62, .aload_n 0), (63, .iload_n 1), (64, .invokevirtual 97), (67, .ireturn), (68, .iconst (-1)), (69, .ireturn)]
theorem pr_Lesson_tellOf : prOK m_Lesson_tellOf P_Lesson_tellOf = true := by decide +kernel
def S_Lesson_tellOf : List (Nat × List Nat) := []
theorem ev_Lesson_tellOf {d : Nat} {w : Wd} {Q : Int32 → Wd → Prop} (x1 : Int32) (x2 : Int32) (h : Z m_Lesson_tellOf d (qI Q) 0 [(0, .ref 54), (1, .int x1), (2, .int x2)] [] w) : EvI m_Lesson_tellOf d [.ref 54, .int x1, .int x2] w Q := Ev.ofZ (by decide +kernel) (Nat.le_of_ble_eq_true rfl) h
set_option maxRecDepth 20000 in
set_option maxHeartbeats 1000000 in
theorem vc_Lesson_tellOf_0 {d : Nat} {w : Wd} {Q : Int32 → Wd → Prop} (x1 : Int32) (x2 : Int32) (h : ((x1 < 0 → Q (-nI 1) w) ∧ (¬ x1 < 0 → (((w.1 54 5) ≤ x1 → Q (-nI 1) w) ∧ (¬ (w.1 54 5) ≤ x1 → ((x1 < (nI 16) → ((x2 = nI 0 → ∃ j1 : Nat, x1 = nI j1 ∧ j1 < 16 ∧ Q (w.1 55 j1) w) ∧ (¬ x2 = nI 0 → ((x2 = nI 1 → ∃ j2 : Nat, x1 = nI j2 ∧ j2 < 16 ∧ Q (w.1 56 j2) w) ∧ (¬ x2 = nI 1 → ((x2 = nI 2 → ∃ Q1 : Int32 → Wd → Prop, EvI m_Lesson_roleOf d [.ref 54, .int x1] w Q1 ∧ ∀ (r1 : Int32) (w1 : Wd), Q1 r1 w1 → Q r1 w1) ∧ (¬ x2 = nI 2 → Q (-nI 1) w))))))) ∧ (¬ x1 < (nI 16) → Q (-nI 1) w))))))) : Z m_Lesson_tellOf (d + 1) (qI Q) 0 [(0, .ref 54), (1, .int x1), (2, .int x2)] [] w := wp_ok (P := P_Lesson_tellOf) (S := S_Lesson_tellOf) rfl pr_Lesson_tellOf 17 _ _ _ _ h
def P_Lesson_roleOf : Prog := [(0, .iload_n 1), (1, .ifCond .ne 16), (4, .aload_n 0), (5, .getfield 66), (8, .ifCond .eq 7), (11, .iconst 1), (12, .goto 4), (15, .iconst 2), (16, .ireturn), (17, .iload_n 1), (18, .aload_n 0), (19, .getfield 52), (22, .iconst 1), (23, .isub), (24, .if_icmp .ne 16), (27, .aload_n 0), (28, .getfield 66), (31, .ifCond .eq 7), (34, .iconst 2), (35, .goto 4), (38, .iconst 1), (39, .ireturn), (40, .iconst 0), (41, .ireturn)]
theorem pr_Lesson_roleOf : prOK m_Lesson_roleOf P_Lesson_roleOf = true := by decide +kernel
def S_Lesson_roleOf : List (Nat × List Nat) := []
theorem ev_Lesson_roleOf {d : Nat} {w : Wd} {Q : Int32 → Wd → Prop} (x1 : Int32) (h : Z m_Lesson_roleOf d (qI Q) 0 [(0, .ref 54), (1, .int x1)] [] w) : EvI m_Lesson_roleOf d [.ref 54, .int x1] w Q := Ev.ofZ (by decide +kernel) (Nat.le_of_ble_eq_true rfl) h
set_option maxRecDepth 20000 in
set_option maxHeartbeats 1000000 in
theorem vc_Lesson_roleOf_0 {d : Nat} {w : Wd} {Q : Int32 → Wd → Prop} (x1 : Int32) (h : ((¬ x1 = 0 → ((¬ x1 = ((w.1 54 5) - (nI 1)) → Q (nI 0) w) ∧ (x1 = ((w.1 54 5) - (nI 1)) → (((w.1 54 7) = 0 → Q (nI 1) w) ∧ (¬ (w.1 54 7) = 0 → Q (nI 2) w))))) ∧ (x1 = 0 → (((w.1 54 7) = 0 → Q (nI 2) w) ∧ (¬ (w.1 54 7) = 0 → Q (nI 1) w))))) : Z m_Lesson_roleOf d (qI Q) 0 [(0, .ref 54), (1, .int x1)] [] w := wp_ok (P := P_Lesson_roleOf) (S := S_Lesson_roleOf) rfl pr_Lesson_roleOf 15 _ _ _ _ h
def P_Lesson_caught : Prog := [(0, .aload_n 0), (1, .getfield 52), (4, .ifCond .ne 5), (7, .iconst (-1)), (8, .ireturn), (9, .iconst 0), (10, .istore_n 2), (11, .iconst 0), (12, .istore_n 3), (13, .iload_n 3), (14, .aload_n 0), (15, .getfield 26), (18, .invokevirtual 30), (21, .if_icmp .ge 44), (24, .aload_n 0), (25, .getfield 26), (28, .iload_n 3), (29, .aload_n 0), (30, .getfield 63), (33, .iload_n 1), (34, .invokevirtual 36), (37, .ifCond .eq 22), (40, .aload_n 0), (41, .iload_n 3), (42, .invokevirtual 44), (45, .ifCond .eq 14), (48, .aload_n 0), (49, .iload_n 3), (50, .invokevirtual 100), (53, .ifCond .eq 6), (56, .iinc 2 1), (59, .iinc 3 1), (62, .goto (-49)), (65, .iload_n 2), (66, .ireturn)]
theorem pr_Lesson_caught : prOK m_Lesson_caught P_Lesson_caught = true := by decide +kernel
def S_Lesson_caught : List (Nat × List Nat) := [(13, [0, 1, 2, 3])]
theorem ev_Lesson_caught {d : Nat} {w : Wd} {Q : Int32 → Wd → Prop} (x1 : Int32) (h : Z m_Lesson_caught d (qI Q) 0 [(0, .ref 54), (1, .int x1)] [] w) : EvI m_Lesson_caught d [.ref 54, .int x1] w Q := Ev.ofZ (by decide +kernel) (Nat.le_of_ble_eq_true rfl) h
set_option maxRecDepth 20000 in
set_option maxHeartbeats 1000000 in
theorem vc_Lesson_caught_0 {d : Nat} {w : Wd} {Q : Int32 → Wd → Prop} (x1 : Int32) (h : ((¬ (w.1 54 5) = 0 → Z m_Lesson_caught (d + 1) (qI Q) 13 [(0, .ref 54), (1, .int x1), (2, .int (nI 0)), (3, .int (nI 0))] [] w) ∧ ((w.1 54 5) = 0 → Q (-nI 1) w))) : Z m_Lesson_caught (d + 1) (qI Q) 0 [(0, .ref 54), (1, .int x1)] [] w := wp_ok (P := P_Lesson_caught) (S := S_Lesson_caught) rfl pr_Lesson_caught 8 _ _ _ _ h
set_option maxRecDepth 20000 in
set_option maxHeartbeats 1000000 in
theorem vc_Lesson_caught_13 {d : Nat} {w : Wd} {Q : Int32 → Wd → Prop} (x1 : Int32) (x2 : Int32) (x3 : Int32) (h : ∃ Q1 : Int32 → Wd → Prop, EvI m_Marks_size d [.ref 45] w Q1 ∧ ∀ (r1 : Int32) (w1 : Wd), Q1 r1 w1 → ((r1 ≤ x3 → Q x2 w1) ∧ (¬ r1 ≤ x3 → ∃ Q2 : Int32 → Wd → Prop, EvI m_Marks_isUsable d [.ref 45, .int x3, .int (w1.1 54 6), .int x1] w1 Q2 ∧ ∀ (r2 : Int32) (w2 : Wd), Q2 r2 w2 → ((r2 = 0 → Z m_Lesson_caught (d + 1) (qI Q) 13 [(0, .ref 54), (1, .int x1), (2, .int x2), (3, .int (x3 + nI 1))] [] w2) ∧ (¬ r2 = 0 → ∃ Q3 : Int32 → Wd → Prop, EvI m_Lesson_isLike d [.ref 54, .int x3] w2 Q3 ∧ ∀ (r3 : Int32) (w3 : Wd), Q3 r3 w3 → ((r3 = 0 → Z m_Lesson_caught (d + 1) (qI Q) 13 [(0, .ref 54), (1, .int x1), (2, .int x2), (3, .int (x3 + nI 1))] [] w3) ∧ (¬ r3 = 0 → ∃ Q4 : Int32 → Wd → Prop, EvI m_Lesson_standsAt d [.ref 54, .int x3] w3 Q4 ∧ ∀ (r4 : Int32) (w4 : Wd), Q4 r4 w4 → ((r4 = 0 → Z m_Lesson_caught (d + 1) (qI Q) 13 [(0, .ref 54), (1, .int x1), (2, .int x2), (3, .int (x3 + nI 1))] [] w4) ∧ (¬ r4 = 0 → Z m_Lesson_caught (d + 1) (qI Q) 13 [(0, .ref 54), (1, .int x1), (2, .int (x2 + nI 1)), (3, .int (x3 + nI 1))] [] w4))))))))) : Z m_Lesson_caught (d + 1) (qI Q) 13 [(0, .ref 54), (1, .int x1), (2, .int x2), (3, .int x3)] [] w := wp_ok (P := P_Lesson_caught) (S := S_Lesson_caught) rfl pr_Lesson_caught 25 _ _ _ _ h
def P_Lesson_standsAt : Prog := [(0, .iconst 0), (1, .istore_n 2), (2, .iload_n 2), (3, .aload_n 0), (4, .getfield 52), (7, .if_icmp .ge 45), (10, .iload_n 2), (11, .bipush 16), (13, .if_icmp .ge 39), (16, .aload_n 0), (17, .getfield 18), (20, .aload_n 0), (21, .getfield 9), (24, .iload_n 2), (25, .iaload), (26, .aload_n 0), (27, .getfield 15), (30, .iload_n 2), (31, .iaload), (32, .aload_n 0), (33, .iload_n 1), (34, .iload_n 2), (35, .invokevirtual 79), (38, .invokevirtual 88), (41, .ifCond .ne 5), (44, .iconst 0), (45, .ireturn), (46, .iinc 2 1), (49, .goto (-47)), (52, .iconst 1), (53, .ireturn)]
theorem pr_Lesson_standsAt : prOK m_Lesson_standsAt P_Lesson_standsAt = true := by decide +kernel
def S_Lesson_standsAt : List (Nat × List Nat) := [(2, [0, 1, 2])]
theorem ev_Lesson_standsAt {d : Nat} {w : Wd} {Q : Int32 → Wd → Prop} (x1 : Int32) (h : Z m_Lesson_standsAt d (qI Q) 0 [(0, .ref 54), (1, .int x1)] [] w) : EvI m_Lesson_standsAt d [.ref 54, .int x1] w Q := Ev.ofZ (by decide +kernel) (Nat.le_of_ble_eq_true rfl) h
set_option maxRecDepth 20000 in
set_option maxHeartbeats 1000000 in
theorem vc_Lesson_standsAt_0 {d : Nat} {w : Wd} {Q : Int32 → Wd → Prop} (x1 : Int32) (h : Z m_Lesson_standsAt (d + 1) (qI Q) 2 [(0, .ref 54), (1, .int x1), (2, .int (nI 0))] [] w) : Z m_Lesson_standsAt (d + 1) (qI Q) 0 [(0, .ref 54), (1, .int x1)] [] w := wp_ok (P := P_Lesson_standsAt) (S := S_Lesson_standsAt) rfl pr_Lesson_standsAt 3 _ _ _ _ h
set_option maxRecDepth 20000 in
set_option maxHeartbeats 1000000 in
theorem vc_Lesson_standsAt_2 {d : Nat} {w : Wd} {Q : Int32 → Wd → Prop} (x1 : Int32) (x2 : Int32) (h : (((w.1 54 5) ≤ x2 → ((nI 1) = 0 ∨ (nI 1) = 1) ∧ Q (nI 1) w) ∧ (¬ (w.1 54 5) ≤ x2 → (((nI 16) ≤ x2 → ((nI 1) = 0 ∨ (nI 1) = 1) ∧ Q (nI 1) w) ∧ (¬ (nI 16) ≤ x2 → ∃ j1 : Nat, x2 = nI j1 ∧ j1 < 16 ∧ ∃ j2 : Nat, x2 = nI j2 ∧ j2 < 16 ∧ ∃ Q1 : Int32 → Wd → Prop, EvI m_Lesson_wordAt d [.ref 54, .int x1, .int x2] w Q1 ∧ ∀ (r1 : Int32) (w1 : Wd), Q1 r1 w1 → ∃ Q2 : Int32 → Wd → Prop, EvI m_Lexicon_fits d [.ref 0, .int (w.1 55 j1), .int (w.1 56 j2), .int r1] w1 Q2 ∧ ∀ (r2 : Int32) (w2 : Wd), Q2 r2 w2 → ((¬ r2 = 0 → Z m_Lesson_standsAt (d + 1) (qI Q) 2 [(0, .ref 54), (1, .int x1), (2, .int (x2 + nI 1))] [] w2) ∧ (r2 = 0 → ((nI 0) = 0 ∨ (nI 0) = 1) ∧ Q (nI 0) w2))))))) : Z m_Lesson_standsAt (d + 1) (qI Q) 2 [(0, .ref 54), (1, .int x1), (2, .int x2)] [] w := wp_ok (P := P_Lesson_standsAt) (S := S_Lesson_standsAt) rfl pr_Lesson_standsAt 26 _ _ _ _ h
def P_D_sort : Prog := [(0, .aload_n 0), (1, .getfield 10), (4, .iload_n 1), (5, .iload_n 2), (6, .invokevirtual 89), (9, .ifCond .ne 5), (12, .iconst 0), (13, .ireturn), (14, .aload_n 0), (15, .getfield 51), (18, .iload_n 1), (19, .invokevirtual 93), (22, .aload_n 0), (23, .getfield 60), (26, .invokevirtual 97), (29, .iconst 1), (30, .ireturn)]
theorem pr_D_sort : prOK m_D_sort P_D_sort = true := by decide +kernel
def S_D_sort : List (Nat × List Nat) := []
theorem ev_D_sort {d : Nat} {w : Wd} {Q : Int32 → Wd → Prop} (x1 : Int32) (x2 : Int32) (h : Z m_D_sort d (qI Q) 0 [(0, .ref 57), (1, .int x1), (2, .int x2)] [] w) : EvI m_D_sort d [.ref 57, .int x1, .int x2] w Q := Ev.ofZ (by decide +kernel) (Nat.le_of_ble_eq_true rfl) h
set_option maxRecDepth 20000 in
set_option maxHeartbeats 1000000 in
theorem vc_D_sort_0 {d : Nat} {w : Wd} {Q : Int32 → Wd → Prop} (x1 : Int32) (x2 : Int32) (h : ∃ Q1 : Int32 → Wd → Prop, EvI m_Lexicon_setSort d [.ref 0, .int x1, .int x2] w Q1 ∧ ∀ (r1 : Int32) (w1 : Wd), Q1 r1 w1 → ((¬ r1 = 0 → ∃ Q2 : Wd → Prop, EvV m_Finder_forgetThoseWith d [.ref 36, .int x1] w1 Q2 ∧ ∀ w2 : Wd, Q2 w2 → ∃ Q3 : Wd → Prop, EvV m_Table_forget d [.ref 42] w2 Q3 ∧ ∀ w3 : Wd, Q3 w3 → ((nI 1) = 0 ∨ (nI 1) = 1) ∧ Q (nI 1) w3) ∧ (r1 = 0 → ((nI 0) = 0 ∨ (nI 0) = 1) ∧ Q (nI 0) w1))) : Z m_D_sort (d + 1) (qI Q) 0 [(0, .ref 57), (1, .int x1), (2, .int x2)] [] w := wp_ok (P := P_D_sort) (S := S_D_sort) rfl pr_D_sort 16 _ _ _ _ h
def P_D_join : Prog := [(0, .aload_n 0), (1, .getfield 10), (4, .iload_n 1), (5, .iload_n 2), (6, .invokevirtual 100), (9, .ifCond .ne 5), (12, .iconst 0), (13, .ireturn), (14, .aload_n 0), (15, .getfield 60), (18, .invokevirtual 97), (21, .iconst 1), (22, .ireturn)]
theorem pr_D_join : prOK m_D_join P_D_join = true := by decide +kernel
def S_D_join : List (Nat × List Nat) := []
theorem ev_D_join {d : Nat} {w : Wd} {Q : Int32 → Wd → Prop} (x1 : Int32) (x2 : Int32) (h : Z m_D_join d (qI Q) 0 [(0, .ref 57), (1, .int x1), (2, .int x2)] [] w) : EvI m_D_join d [.ref 57, .int x1, .int x2] w Q := Ev.ofZ (by decide +kernel) (Nat.le_of_ble_eq_true rfl) h
set_option maxRecDepth 20000 in
set_option maxHeartbeats 1000000 in
theorem vc_D_join_0 {d : Nat} {w : Wd} {Q : Int32 → Wd → Prop} (x1 : Int32) (x2 : Int32) (h : ∃ Q1 : Int32 → Wd → Prop, EvI m_Lexicon_link d [.ref 0, .int x1, .int x2] w Q1 ∧ ∀ (r1 : Int32) (w1 : Wd), Q1 r1 w1 → ((¬ r1 = 0 → ∃ Q2 : Wd → Prop, EvV m_Table_forget d [.ref 42] w1 Q2 ∧ ∀ w2 : Wd, Q2 w2 → ((nI 1) = 0 ∨ (nI 1) = 1) ∧ Q (nI 1) w2) ∧ (r1 = 0 → ((nI 0) = 0 ∨ (nI 0) = 1) ∧ Q (nI 0) w1))) : Z m_D_join (d + 1) (qI Q) 0 [(0, .ref 57), (1, .int x1), (2, .int x2)] [] w := wp_ok (P := P_D_join) (S := S_D_join) rfl pr_D_join 12 _ _ _ _ h
def P_D_word : Prog := [(0, .iload_n 1), (1, .invokestatic 103), (4, .ifCond .eq 14), (7, .aload_n 0), (8, .getfield 19), (11, .iload_n 1), (12, .invokevirtual 107), (15, .goto 4), (18, .iconst (-1)), (19, .ireturn)]
theorem pr_D_word : prOK m_D_word P_D_word = true := by decide +kernel
def S_D_word : List (Nat × List Nat) := []
theorem ev_D_word {d : Nat} {w : Wd} {Q : Int32 → Wd → Prop} (x1 : Int32) (h : Z m_D_word d (qI Q) 0 [(0, .ref 57), (1, .int x1)] [] w) : EvI m_D_word d [.ref 57, .int x1] w Q := Ev.ofZ (by decide +kernel) (Nat.le_of_ble_eq_true rfl) h
set_option maxRecDepth 20000 in
set_option maxHeartbeats 1000000 in
theorem vc_D_word_0 {d : Nat} {w : Wd} {Q : Int32 → Wd → Prop} (x1 : Int32) (h : ∃ Q1 : Int32 → Wd → Prop, EvI m_Lexicon_has d [.int x1] w Q1 ∧ ∀ (r1 : Int32) (w1 : Wd), Q1 r1 w1 → ((r1 = 0 → Q (-nI 1) w1) ∧ (¬ r1 = 0 → ∃ Q2 : Int32 → Wd → Prop, EvI m_Sentences_tell d [.ref 3, .int x1] w1 Q2 ∧ ∀ (r2 : Int32) (w2 : Wd), Q2 r2 w2 → Q r2 w2))) : Z m_D_word (d + 1) (qI Q) 0 [(0, .ref 57), (1, .int x1)] [] w := wp_ok (P := P_D_word) (S := S_D_word) rfl pr_D_word 10 _ _ _ _ h
def P_D_sentence : Prog := [(0, .aload_n 0), (1, .getfield 19), (4, .invokevirtual 111), (7, .istore_n 1), (8, .iload_n 1), (9, .iconst (-1)), (10, .if_icmp .eq 18), (13, .aload_n 0), (14, .getfield 51), (17, .iload_n 1), (18, .invokevirtual 115), (21, .aload_n 0), (22, .getfield 60), (25, .invokevirtual 97), (28, .iload_n 1), (29, .ireturn)]
theorem pr_D_sentence : prOK m_D_sentence P_D_sentence = true := by decide +kernel
def S_D_sentence : List (Nat × List Nat) := []
theorem ev_D_sentence {d : Nat} {w : Wd} {Q : Int32 → Wd → Prop}  (h : Z m_D_sentence d (qI Q) 0 [(0, .ref 57)] [] w) : EvI m_D_sentence d [.ref 57] w Q := Ev.ofZ (by decide +kernel) (Nat.le_of_ble_eq_true rfl) h
set_option maxRecDepth 20000 in
set_option maxHeartbeats 1000000 in
theorem vc_D_sentence_0 {d : Nat} {w : Wd} {Q : Int32 → Wd → Prop}  (h : ∃ Q1 : Int32 → Wd → Prop, EvI m_Sentences_close d [.ref 3] w Q1 ∧ ∀ (r1 : Int32) (w1 : Wd), Q1 r1 w1 → ((r1 = (-nI 1) → Q r1 w1) ∧ (¬ r1 = (-nI 1) → ∃ Q2 : Wd → Prop, EvV m_Finder_forget d [.ref 36, .int r1] w1 Q2 ∧ ∀ w2 : Wd, Q2 w2 → ∃ Q3 : Wd → Prop, EvV m_Table_forget d [.ref 42] w2 Q3 ∧ ∀ w3 : Wd, Q3 w3 → Q r1 w3))) : Z m_D_sentence (d + 1) (qI Q) 0 [(0, .ref 57)] [] w := wp_ok (P := P_D_sentence) (S := S_D_sentence) rfl pr_D_sentence 17 _ _ _ _ h
def P_D_take : Prog := [(0, .aload_n 0), (1, .getfield 19), (4, .iload_n 1), (5, .invokevirtual 117), (8, .ifCond .ne 5), (11, .iconst 0), (12, .ireturn), (13, .aload_n 0), (14, .getfield 51), (17, .iload_n 1), (18, .invokevirtual 115), (21, .aload_n 0), (22, .getfield 60), (25, .invokevirtual 97), (28, .iconst 1), (29, .ireturn)]
theorem pr_D_take : prOK m_D_take P_D_take = true := by decide +kernel
def S_D_take : List (Nat × List Nat) := []
theorem ev_D_take {d : Nat} {w : Wd} {Q : Int32 → Wd → Prop} (x1 : Int32) (h : Z m_D_take d (qI Q) 0 [(0, .ref 57), (1, .int x1)] [] w) : EvI m_D_take d [.ref 57, .int x1] w Q := Ev.ofZ (by decide +kernel) (Nat.le_of_ble_eq_true rfl) h
set_option maxRecDepth 20000 in
set_option maxHeartbeats 1000000 in
theorem vc_D_take_0 {d : Nat} {w : Wd} {Q : Int32 → Wd → Prop} (x1 : Int32) (h : ∃ Q1 : Int32 → Wd → Prop, EvI m_Sentences_remove d [.ref 3, .int x1] w Q1 ∧ ∀ (r1 : Int32) (w1 : Wd), Q1 r1 w1 → ((¬ r1 = 0 → ∃ Q2 : Wd → Prop, EvV m_Finder_forget d [.ref 36, .int x1] w1 Q2 ∧ ∀ w2 : Wd, Q2 w2 → ∃ Q3 : Wd → Prop, EvV m_Table_forget d [.ref 42] w2 Q3 ∧ ∀ w3 : Wd, Q3 w3 → ((nI 1) = 0 ∨ (nI 1) = 1) ∧ Q (nI 1) w3) ∧ (r1 = 0 → ((nI 0) = 0 ∨ (nI 0) = 1) ∧ Q (nI 0) w1))) : Z m_D_take (d + 1) (qI Q) 0 [(0, .ref 57), (1, .int x1)] [] w := wp_ok (P := P_D_take) (S := S_D_take) rfl pr_D_take 15 _ _ _ _ h
def P_D_feed : Prog := [(0, .aload_n 0), (1, .getfield 26), (4, .lload_n 1), (5, .invokevirtual 120), (8, .aload_n 0), (9, .getfield 26), (12, .lload_n 3), (13, .invokevirtual 120), (16, .aload_n 0), (17, .getfield 26), (20, .lload 5), (22, .invokevirtual 120), (25, .aload_n 0), (26, .getfield 26), (29, .invokevirtual 124), (32, .ireturn)]
theorem pr_D_feed : prOK m_D_feed P_D_feed = true := by decide +kernel
def S_D_feed : List (Nat × List Nat) := []
theorem ev_D_feed {d : Nat} {w : Wd} {Q : Int32 → Wd → Prop} (x1 : Int64) (x3 : Int64) (x5 : Int64) (h : Z m_D_feed d (qI Q) 0 [(0, .ref 57), (1, .long x1), (3, .long x3), (5, .long x5)] [] w) : EvI m_D_feed d [.ref 57, .long x1, .long x3, .long x5] w Q := Ev.ofZ (by decide +kernel) (Nat.le_of_ble_eq_true rfl) h
set_option maxRecDepth 20000 in
set_option maxHeartbeats 1000000 in
theorem vc_D_feed_0 {d : Nat} {w : Wd} {Q : Int32 → Wd → Prop} (x1 : Int64) (x3 : Int64) (x5 : Int64) (h : ∃ Q1 : Wd → Prop, EvV m_Tape_put d [.ref 8, .long x1] w Q1 ∧ ∀ w1 : Wd, Q1 w1 → ∃ Q2 : Wd → Prop, EvV m_Tape_put d [.ref 8, .long x3] w1 Q2 ∧ ∀ w2 : Wd, Q2 w2 → ∃ Q3 : Wd → Prop, EvV m_Tape_put d [.ref 8, .long x5] w2 Q3 ∧ ∀ w3 : Wd, Q3 w3 → ∃ Q4 : Int32 → Wd → Prop, EvI m_Tape_length d [.ref 8] w3 Q4 ∧ ∀ (r4 : Int32) (w4 : Wd), Q4 r4 w4 → Q r4 w4) : Z m_D_feed (d + 1) (qI Q) 0 [(0, .ref 57), (1, .long x1), (3, .long x3), (5, .long x5)] [] w := wp_ok (P := P_D_feed) (S := S_D_feed) rfl pr_D_feed 17 _ _ _ _ h
def P_D_text : Prog := [(0, .aload_n 0), (1, .getfield 35), (4, .invokevirtual 127), (7, .istore_n 1), (8, .iload_n 1), (9, .ifCond .ne 31), (12, .aload_n 0), (13, .getfield 42), (16, .aload_n 0), (17, .getfield 35), (20, .invokevirtual 130), (23, .invokevirtual 134), (26, .aload_n 0), (27, .getfield 51), (30, .invokevirtual 138), (33, .aload_n 0), (34, .getfield 60), (37, .invokevirtual 97), (40, .iload_n 1), (41, .ireturn)]
theorem pr_D_text : prOK m_D_text P_D_text = true := by decide +kernel
def S_D_text : List (Nat × List Nat) := []
theorem ev_D_text {d : Nat} {w : Wd} {Q : Int32 → Wd → Prop}  (h : Z m_D_text d (qI Q) 0 [(0, .ref 57)] [] w) : EvI m_D_text d [.ref 57] w Q := Ev.ofZ (by decide +kernel) (Nat.le_of_ble_eq_true rfl) h
set_option maxRecDepth 20000 in
set_option maxHeartbeats 1000000 in
theorem vc_D_text_0 {d : Nat} {w : Wd} {Q : Int32 → Wd → Prop}  (h : ∃ Q1 : Int32 → Wd → Prop, EvI m_Reader_read d [.ref 24] w Q1 ∧ ∀ (r1 : Int32) (w1 : Wd), Q1 r1 w1 → ((¬ r1 = 0 → Q r1 w1) ∧ (r1 = 0 → ∃ Q2 : Nat → Wd → Prop, EvR m_Reader_draft d [.ref 24] w1 Q2 ∧ ∀ (r2 : Nat) (w2 : Wd), Q2 r2 w2 → ∃ Q3 : Wd → Prop, EvV m_Book_become d [.ref 25, .ref r2] w2 Q3 ∧ ∀ w3 : Wd, Q3 w3 → ∃ Q4 : Wd → Prop, EvV m_Finder_forgetAll d [.ref 36] w3 Q4 ∧ ∀ w4 : Wd, Q4 w4 → ∃ Q5 : Wd → Prop, EvV m_Table_forget d [.ref 42] w4 Q5 ∧ ∀ w5 : Wd, Q5 w5 → Q r1 w5))) : Z m_D_text (d + 1) (qI Q) 0 [(0, .ref 57)] [] w := wp_ok (P := P_D_text) (S := S_D_text) rfl pr_D_text 21 _ _ _ _ h
def P_D_finds : Prog := [(0, .aload_n 0), (1, .getfield 51), (4, .invokevirtual 141), (7, .aload_n 0), (8, .getfield 51), (11, .iconst 0), (12, .invokevirtual 144), (15, .ireturn)]
theorem pr_D_finds : prOK m_D_finds P_D_finds = true := by decide +kernel
def S_D_finds : List (Nat × List Nat) := []
theorem ev_D_finds {d : Nat} {w : Wd} {Q : Int32 → Wd → Prop}  (h : Z m_D_finds d (qI Q) 0 [(0, .ref 57)] [] w) : EvI m_D_finds d [.ref 57] w Q := Ev.ofZ (by decide +kernel) (Nat.le_of_ble_eq_true rfl) h
set_option maxRecDepth 20000 in
set_option maxHeartbeats 1000000 in
theorem vc_D_finds_0 {d : Nat} {w : Wd} {Q : Int32 → Wd → Prop}  (h : ∃ Q1 : Wd → Prop, EvV m_Finder_refresh d [.ref 36] w Q1 ∧ ∀ w1 : Wd, Q1 w1 → ∃ Q2 : Int32 → Wd → Prop, EvI m_Finder_total d [.ref 36, .int (nI 0)] w1 Q2 ∧ ∀ (r2 : Int32) (w2 : Wd), Q2 r2 w2 → Q r2 w2) : Z m_D_finds (d + 1) (qI Q) 0 [(0, .ref 57)] [] w := wp_ok (P := P_D_finds) (S := S_D_finds) rfl pr_D_finds 9 _ _ _ _ h
def P_D_find : Prog := [(0, .aload_n 0), (1, .getfield 51), (4, .invokevirtual 141), (7, .aload_n 0), (8, .getfield 51), (11, .iload_n 1), (12, .iload_n 2), (13, .invokevirtual 148), (16, .ireturn)]
theorem pr_D_find : prOK m_D_find P_D_find = true := by decide +kernel
def S_D_find : List (Nat × List Nat) := []
theorem ev_D_find {d : Nat} {w : Wd} {Q : Int32 → Wd → Prop} (x1 : Int32) (x2 : Int32) (h : Z m_D_find d (qI Q) 0 [(0, .ref 57), (1, .int x1), (2, .int x2)] [] w) : EvI m_D_find d [.ref 57, .int x1, .int x2] w Q := Ev.ofZ (by decide +kernel) (Nat.le_of_ble_eq_true rfl) h
set_option maxRecDepth 20000 in
set_option maxHeartbeats 1000000 in
theorem vc_D_find_0 {d : Nat} {w : Wd} {Q : Int32 → Wd → Prop} (x1 : Int32) (x2 : Int32) (h : ∃ Q1 : Wd → Prop, EvV m_Finder_refresh d [.ref 36] w Q1 ∧ ∀ w1 : Wd, Q1 w1 → ∃ Q2 : Int32 → Wd → Prop, EvI m_Finder_tellOf d [.ref 36, .int x1, .int x2] w1 Q2 ∧ ∀ (r2 : Int32) (w2 : Wd), Q2 r2 w2 → Q r2 w2) : Z m_D_find (d + 1) (qI Q) 0 [(0, .ref 57), (1, .int x1), (2, .int x2)] [] w := wp_ok (P := P_D_find) (S := S_D_find) rfl pr_D_find 10 _ _ _ _ h
def P_D_rows : Prog := [(0, .iload_n 1), (1, .invokestatic 152), (4, .ifCond .ne 5), (7, .iconst (-1)), (8, .ireturn), (9, .aload_n 0), (10, .getfield 51), (13, .invokevirtual 141), (16, .aload_n 0), (17, .getfield 60), (20, .invokevirtual 155), (23, .aload_n 0), (24, .getfield 60), (27, .iload_n 1), (28, .invokevirtual 156), (31, .ireturn)]
theorem pr_D_rows : prOK m_D_rows P_D_rows = true := by decide +kernel
def S_D_rows : List (Nat × List Nat) := []
theorem ev_D_rows {d : Nat} {w : Wd} {Q : Int32 → Wd → Prop} (x1 : Int32) (h : Z m_D_rows d (qI Q) 0 [(0, .ref 57), (1, .int x1)] [] w) : EvI m_D_rows d [.ref 57, .int x1] w Q := Ev.ofZ (by decide +kernel) (Nat.le_of_ble_eq_true rfl) h
set_option maxRecDepth 20000 in
set_option maxHeartbeats 1000000 in
theorem vc_D_rows_0 {d : Nat} {w : Wd} {Q : Int32 → Wd → Prop} (x1 : Int32) (h : ∃ Q1 : Int32 → Wd → Prop, EvI m_D_isRelation d [.int x1] w Q1 ∧ ∀ (r1 : Int32) (w1 : Wd), Q1 r1 w1 → ((¬ r1 = 0 → ∃ Q2 : Wd → Prop, EvV m_Finder_refresh d [.ref 36] w1 Q2 ∧ ∀ w2 : Wd, Q2 w2 → ∃ Q3 : Wd → Prop, EvV m_Table_refresh d [.ref 42] w2 Q3 ∧ ∀ w3 : Wd, Q3 w3 → ∃ Q4 : Int32 → Wd → Prop, EvI m_Table_size d [.ref 42, .int x1] w3 Q4 ∧ ∀ (r4 : Int32) (w4 : Wd), Q4 r4 w4 → Q r4 w4) ∧ (r1 = 0 → Q (-nI 1) w1))) : Z m_D_rows (d + 1) (qI Q) 0 [(0, .ref 57), (1, .int x1)] [] w := wp_ok (P := P_D_rows) (S := S_D_rows) rfl pr_D_rows 15 _ _ _ _ h
def P_D_row : Prog := [(0, .iload_n 1), (1, .invokestatic 152), (4, .ifCond .eq 16), (7, .iload_n 2), (8, .ifCond .lt 12), (11, .iload_n 3), (12, .ifCond .lt 8), (15, .iload_n 3), (16, .iconst 1), (17, .if_icmp .le 5), (20, .iconst (-1)), (21, .ireturn), (22, .aload_n 0), (23, .getfield 51), (26, .invokevirtual 141), (29, .aload_n 0), (30, .getfield 60), (33, .invokevirtual 155), (36, .aload_n 0), (37, .getfield 60), (40, .iload_n 1), (41, .iload_n 2), (42, .iload_n 3), (43, .ifCond .ne 7), (46, .iconst 1), (47, .goto 4), (50, .iconst 0), (51, .invokevirtual 159), (54, .ireturn)]
theorem pr_D_row : prOK m_D_row P_D_row = true := by decide +kernel
def S_D_row : List (Nat × List Nat) := []
theorem ev_D_row {d : Nat} {w : Wd} {Q : Int32 → Wd → Prop} (x1 : Int32) (x2 : Int32) (x3 : Int32) (h : Z m_D_row d (qI Q) 0 [(0, .ref 57), (1, .int x1), (2, .int x2), (3, .int x3)] [] w) : EvI m_D_row d [.ref 57, .int x1, .int x2, .int x3] w Q := Ev.ofZ (by decide +kernel) (Nat.le_of_ble_eq_true rfl) h
set_option maxRecDepth 20000 in
set_option maxHeartbeats 1000000 in
theorem vc_D_row_0 {d : Nat} {w : Wd} {Q : Int32 → Wd → Prop} (x1 : Int32) (x2 : Int32) (x3 : Int32) (h : ∃ Q1 : Int32 → Wd → Prop, EvI m_D_isRelation d [.int x1] w Q1 ∧ ∀ (r1 : Int32) (w1 : Wd), Q1 r1 w1 → ((r1 = 0 → Q (-nI 1) w1) ∧ (¬ r1 = 0 → ((x2 < 0 → Q (-nI 1) w1) ∧ (¬ x2 < 0 → ((x3 < 0 → Q (-nI 1) w1) ∧ (¬ x3 < 0 → ((x3 ≤ (nI 1) → ∃ Q2 : Wd → Prop, EvV m_Finder_refresh d [.ref 36] w1 Q2 ∧ ∀ w2 : Wd, Q2 w2 → ∃ Q3 : Wd → Prop, EvV m_Table_refresh d [.ref 42] w2 Q3 ∧ ∀ w3 : Wd, Q3 w3 → ((¬ x3 = 0 → ∃ Q4 : Int32 → Wd → Prop, EvI m_Table_name d [.ref 42, .int x1, .int x2, .int (nI 0)] w3 Q4 ∧ ∀ (r4 : Int32) (w4 : Wd), Q4 r4 w4 → Q r4 w4) ∧ (x3 = 0 → ∃ Q5 : Int32 → Wd → Prop, EvI m_Table_name d [.ref 42, .int x1, .int x2, .int (nI 1)] w3 Q5 ∧ ∀ (r5 : Int32) (w5 : Wd), Q5 r5 w5 → Q r5 w5))) ∧ (¬ x3 ≤ (nI 1) → Q (-nI 1) w1))))))))) : Z m_D_row (d + 1) (qI Q) 0 [(0, .ref 57), (1, .int x1), (2, .int x2), (3, .int x3)] [] w := wp_ok (P := P_D_row) (S := S_D_row) rfl pr_D_row 27 _ _ _ _ h
def P_D_quarrel : Prog := [(0, .aload_n 0), (1, .getfield 42), (4, .iload_n 1), (5, .invokevirtual 163), (8, .ifCond .eq 7), (11, .iload_n 2), (12, .ifCond .ge 5), (15, .iconst (-1)), (16, .ireturn), (17, .aload_n 0), (18, .getfield 51), (21, .invokevirtual 141), (24, .aload_n 0), (25, .getfield 60), (28, .invokevirtual 155), (31, .aload_n 0), (32, .getfield 60), (35, .iload_n 1), (36, .iload_n 2), (37, .invokevirtual 166), (40, .ireturn)]
theorem pr_D_quarrel : prOK m_D_quarrel P_D_quarrel = true := by decide +kernel
def S_D_quarrel : List (Nat × List Nat) := []
theorem ev_D_quarrel {d : Nat} {w : Wd} {Q : Int32 → Wd → Prop} (x1 : Int32) (x2 : Int32) (h : Z m_D_quarrel d (qI Q) 0 [(0, .ref 57), (1, .int x1), (2, .int x2)] [] w) : EvI m_D_quarrel d [.ref 57, .int x1, .int x2] w Q := Ev.ofZ (by decide +kernel) (Nat.le_of_ble_eq_true rfl) h
set_option maxRecDepth 20000 in
set_option maxHeartbeats 1000000 in
theorem vc_D_quarrel_0 {d : Nat} {w : Wd} {Q : Int32 → Wd → Prop} (x1 : Int32) (x2 : Int32) (h : ∃ Q1 : Int32 → Wd → Prop, EvI m_Book_isSingle d [.ref 25, .int x1] w Q1 ∧ ∀ (r1 : Int32) (w1 : Wd), Q1 r1 w1 → ((r1 = 0 → Q (-nI 1) w1) ∧ (¬ r1 = 0 → ((0 ≤ x2 → ∃ Q2 : Wd → Prop, EvV m_Finder_refresh d [.ref 36] w1 Q2 ∧ ∀ w2 : Wd, Q2 w2 → ∃ Q3 : Wd → Prop, EvV m_Table_refresh d [.ref 42] w2 Q3 ∧ ∀ w3 : Wd, Q3 w3 → ∃ Q4 : Int32 → Wd → Prop, EvI m_Table_quarrelling d [.ref 42, .int x1, .int x2] w3 Q4 ∧ ∀ (r4 : Int32) (w4 : Wd), Q4 r4 w4 → Q r4 w4) ∧ (¬ 0 ≤ x2 → Q (-nI 1) w1))))) : Z m_D_quarrel (d + 1) (qI Q) 0 [(0, .ref 57), (1, .int x1), (2, .int x2)] [] w := wp_ok (P := P_D_quarrel) (S := S_D_quarrel) rfl pr_D_quarrel 20 _ _ _ _ h
def P_D_mark : Prog := [(0, .aload_n 0), (1, .getfield 19), (4, .iload_n 1), (5, .invokevirtual 169), (8, .ifCond .eq 11), (11, .iload 4), (13, .invokestatic 152), (16, .ifCond .ne 5), (19, .iconst (-1)), (20, .ireturn), (21, .aload_n 0), (22, .getfield 19), (25, .iload_n 1), (26, .invokevirtual 172), (29, .istore 6), (31, .iload_n 2), (32, .ifCond .lt 24), (35, .iload_n 2), (36, .iload 6), (38, .if_icmp .ge 18), (41, .iload_n 3), (42, .ifCond .lt 14), (45, .iload_n 3), (46, .iload 6), (48, .if_icmp .ge 8), (51, .iload_n 2), (52, .iload_n 3), (53, .if_icmp .ne 5), (56, .iconst (-1)), (57, .ireturn), (58, .aload_n 0), (59, .getfield 69), (62, .iload_n 1), (63, .iload_n 2), (64, .iload_n 3), (65, .iload 4), (67, .iload 5), (69, .invokevirtual 175), (72, .ireturn)]
theorem pr_D_mark : prOK m_D_mark P_D_mark = true := by decide +kernel
def S_D_mark : List (Nat × List Nat) := []
theorem ev_D_mark {d : Nat} {w : Wd} {Q : Int32 → Wd → Prop} (x1 : Int32) (x2 : Int32) (x3 : Int32) (x4 : Int32) (x5 : Int32) (h : Z m_D_mark d (qI Q) 0 [(0, .ref 57), (1, .int x1), (2, .int x2), (3, .int x3), (4, .int x4), (5, .int x5)] [] w) : EvI m_D_mark d [.ref 57, .int x1, .int x2, .int x3, .int x4, .int x5] w Q := Ev.ofZ (by decide +kernel) (Nat.le_of_ble_eq_true rfl) h
set_option maxRecDepth 20000 in
set_option maxHeartbeats 1000000 in
theorem vc_D_mark_0 {d : Nat} {w : Wd} {Q : Int32 → Wd → Prop} (x1 : Int32) (x2 : Int32) (x3 : Int32) (x4 : Int32) (x5 : Int32) (h : ∃ Q1 : Int32 → Wd → Prop, EvI m_Sentences_isThere d [.ref 3, .int x1] w Q1 ∧ ∀ (r1 : Int32) (w1 : Wd), Q1 r1 w1 → ((r1 = 0 → Q (-nI 1) w1) ∧ (¬ r1 = 0 → ∃ Q2 : Int32 → Wd → Prop, EvI m_D_isRelation d [.int x4] w1 Q2 ∧ ∀ (r2 : Int32) (w2 : Wd), Q2 r2 w2 → ((¬ r2 = 0 → ∃ Q3 : Int32 → Wd → Prop, EvI m_Sentences_lengthOf d [.ref 3, .int x1] w2 Q3 ∧ ∀ (r3 : Int32) (w3 : Wd), Q3 r3 w3 → ((x2 < 0 → Q (-nI 1) w3) ∧ (¬ x2 < 0 → ((r3 ≤ x2 → Q (-nI 1) w3) ∧ (¬ r3 ≤ x2 → ((x3 < 0 → Q (-nI 1) w3) ∧ (¬ x3 < 0 → ((r3 ≤ x3 → Q (-nI 1) w3) ∧ (¬ r3 ≤ x3 → ((¬ x2 = x3 → ∃ Q4 : Int32 → Wd → Prop, EvI m_Marks_put d [.ref 45, .int x1, .int x2, .int x3, .int x4, .int x5] w3 Q4 ∧ ∀ (r4 : Int32) (w4 : Wd), Q4 r4 w4 → Q r4 w4) ∧ (x2 = x3 → Q (-nI 1) w3))))))))))) ∧ (r2 = 0 → Q (-nI 1) w2))))) : Z m_D_mark (d + 1) (qI Q) 0 [(0, .ref 57), (1, .int x1), (2, .int x2), (3, .int x3), (4, .int x4), (5, .int x5)] [] w := wp_ok (P := P_D_mark) (S := S_D_mark) rfl pr_D_mark 36 _ _ _ _ h
def P_D_best : Prog := [(0, .iload_n 1), (1, .ifCond .lt 9), (4, .iload_n 1), (5, .bipush 60), (7, .if_icmp .le 5), (10, .iconst (-1)), (11, .ireturn), (12, .aload_n 0), (13, .getfield 51), (16, .invokevirtual 141), (19, .aload_n 0), (20, .getfield 42), (23, .invokevirtual 210), (26, .istore_n 2), (27, .iconst 0), (28, .istore_n 3), (29, .iload_n 3), (30, .iload_n 2), (31, .if_icmp .ge 35), (34, .aload_n 0), (35, .getfield 76), (38, .iload_n 3), (39, .aload_n 0), (40, .getfield 69), (43, .iload_n 3), (44, .iconst 1), (45, .invokevirtual 191), (48, .aload_n 0), (49, .getfield 69), (52, .iload_n 3), (53, .iconst 0), (54, .invokevirtual 191), (57, .invokevirtual 213), (60, .iinc 3 1), (63, .goto (-34)), (66, .aload_n 0), (67, .getfield 76), (70, .iload_n 2), (71, .iload_n 1), (72, .invokevirtual 217), (75, .ireturn)]
theorem pr_D_best : prOK m_D_best P_D_best = true := by decide +kernel
def S_D_best : List (Nat × List Nat) := [(29, [0, 1, 2, 3])]
theorem ev_D_best {d : Nat} {w : Wd} {Q : Int32 → Wd → Prop} (x1 : Int32) (h : Z m_D_best d (qI Q) 0 [(0, .ref 57), (1, .int x1)] [] w) : EvI m_D_best d [.ref 57, .int x1] w Q := Ev.ofZ (by decide +kernel) (Nat.le_of_ble_eq_true rfl) h
set_option maxRecDepth 20000 in
set_option maxHeartbeats 1000000 in
theorem vc_D_best_0 {d : Nat} {w : Wd} {Q : Int32 → Wd → Prop} (x1 : Int32) (h : ((x1 < 0 → Q (-nI 1) w) ∧ (¬ x1 < 0 → ((x1 ≤ (nI 60) → ∃ Q1 : Wd → Prop, EvV m_Finder_refresh d [.ref 36] w Q1 ∧ ∀ w1 : Wd, Q1 w1 → ∃ Q2 : Int32 → Wd → Prop, EvI m_Book_rules d [.ref 25] w1 Q2 ∧ ∀ (r2 : Int32) (w2 : Wd), Q2 r2 w2 → Z m_D_best (d + 1) (qI Q) 29 [(0, .ref 57), (1, .int x1), (2, .int r2), (3, .int (nI 0))] [] w2) ∧ (¬ x1 ≤ (nI 60) → Q (-nI 1) w))))) : Z m_D_best (d + 1) (qI Q) 0 [(0, .ref 57), (1, .int x1)] [] w := wp_ok (P := P_D_best) (S := S_D_best) rfl pr_D_best 15 _ _ _ _ h
set_option maxRecDepth 20000 in
set_option maxHeartbeats 1000000 in
theorem vc_D_best_29 {d : Nat} {w : Wd} {Q : Int32 → Wd → Prop} (x1 : Int32) (x2 : Int32) (x3 : Int32) (h : ((x2 ≤ x3 → ∃ Q1 : Int32 → Wd → Prop, EvI m_BestSet_choose d [.ref 51, .int x2, .int x1] w Q1 ∧ ∀ (r1 : Int32) (w1 : Wd), Q1 r1 w1 → Q r1 w1) ∧ (¬ x2 ≤ x3 → ∃ Q2 : Int64 → Wd → Prop, EvL m_Marks_caughtBy d [.ref 45, .int x3, .int (nI 1)] w Q2 ∧ ∀ (r2 : Int64) (w2 : Wd), Q2 r2 w2 → ∃ Q3 : Int64 → Wd → Prop, EvL m_Marks_caughtBy d [.ref 45, .int x3, .int (nI 0)] w2 Q3 ∧ ∀ (r3 : Int64) (w3 : Wd), Q3 r3 w3 → ∃ Q4 : Wd → Prop, EvV m_BestSet_setCaught d [.ref 51, .int x3, .long r2, .long r3] w3 Q4 ∧ ∀ w4 : Wd, Q4 w4 → Z m_D_best (d + 1) (qI Q) 29 [(0, .ref 57), (1, .int x1), (2, .int x2), (3, .int (x3 + nI 1))] [] w4))) : Z m_D_best (d + 1) (qI Q) 29 [(0, .ref 57), (1, .int x1), (2, .int x2), (3, .int x3)] [] w := wp_ok (P := P_D_best) (S := S_D_best) rfl pr_D_best 20 _ _ _ _ h
def P_D_learn : Prog := [(0, .iload_n 1), (1, .invokestatic 152), (4, .ifCond .eq 14), (7, .aload_n 0), (8, .getfield 85), (11, .iload_n 1), (12, .invokevirtual 220), (15, .goto 4), (18, .iconst (-1)), (19, .ireturn)]
theorem pr_D_learn : prOK m_D_learn P_D_learn = true := by decide +kernel
def S_D_learn : List (Nat × List Nat) := []
theorem ev_D_learn {d : Nat} {w : Wd} {Q : Int32 → Wd → Prop} (x1 : Int32) (h : Z m_D_learn d (qI Q) 0 [(0, .ref 57), (1, .int x1)] [] w) : EvI m_D_learn d [.ref 57, .int x1] w Q := Ev.ofZ (by decide +kernel) (Nat.le_of_ble_eq_true rfl) h
set_option maxRecDepth 20000 in
set_option maxHeartbeats 1000000 in
theorem vc_D_learn_0 {d : Nat} {w : Wd} {Q : Int32 → Wd → Prop} (x1 : Int32) (h : ∃ Q1 : Int32 → Wd → Prop, EvI m_D_isRelation d [.int x1] w Q1 ∧ ∀ (r1 : Int32) (w1 : Wd), Q1 r1 w1 → ((r1 = 0 → Q (-nI 1) w1) ∧ (¬ r1 = 0 → ∃ Q2 : Int32 → Wd → Prop, EvI m_Lesson_study d [.ref 54, .int x1] w1 Q2 ∧ ∀ (r2 : Int32) (w2 : Wd), Q2 r2 w2 → Q r2 w2))) : Z m_D_learn (d + 1) (qI Q) 0 [(0, .ref 57), (1, .int x1)] [] w := wp_ok (P := P_D_learn) (S := S_D_learn) rfl pr_D_learn 10 _ _ _ _ h
def P_D_learnt : Prog := [(0, .aload_n 0), (1, .getfield 85), (4, .iload_n 1), (5, .iload_n 2), (6, .invokevirtual 223), (9, .ireturn)]
theorem pr_D_learnt : prOK m_D_learnt P_D_learnt = true := by decide +kernel
def S_D_learnt : List (Nat × List Nat) := []
theorem ev_D_learnt {d : Nat} {w : Wd} {Q : Int32 → Wd → Prop} (x1 : Int32) (x2 : Int32) (h : Z m_D_learnt d (qI Q) 0 [(0, .ref 57), (1, .int x1), (2, .int x2)] [] w) : EvI m_D_learnt d [.ref 57, .int x1, .int x2] w Q := Ev.ofZ (by decide +kernel) (Nat.le_of_ble_eq_true rfl) h
set_option maxRecDepth 20000 in
set_option maxHeartbeats 1000000 in
theorem vc_D_learnt_0 {d : Nat} {w : Wd} {Q : Int32 → Wd → Prop} (x1 : Int32) (x2 : Int32) (h : ∃ Q1 : Int32 → Wd → Prop, EvI m_Lesson_tellOf d [.ref 54, .int x1, .int x2] w Q1 ∧ ∀ (r1 : Int32) (w1 : Wd), Q1 r1 w1 → Q r1 w1) : Z m_D_learnt (d + 1) (qI Q) 0 [(0, .ref 57), (1, .int x1), (2, .int x2)] [] w := wp_ok (P := P_D_learnt) (S := S_D_learnt) rfl pr_D_learnt 7 _ _ _ _ h
def P_D_catches : Prog := [(0, .aload_n 0), (1, .getfield 85), (4, .iload_n 1), (5, .invokevirtual 224), (8, .ireturn)]
theorem pr_D_catches : prOK m_D_catches P_D_catches = true := by decide +kernel
def S_D_catches : List (Nat × List Nat) := []
theorem ev_D_catches {d : Nat} {w : Wd} {Q : Int32 → Wd → Prop} (x1 : Int32) (h : Z m_D_catches d (qI Q) 0 [(0, .ref 57), (1, .int x1)] [] w) : EvI m_D_catches d [.ref 57, .int x1] w Q := Ev.ofZ (by decide +kernel) (Nat.le_of_ble_eq_true rfl) h
set_option maxRecDepth 20000 in
set_option maxHeartbeats 1000000 in
theorem vc_D_catches_0 {d : Nat} {w : Wd} {Q : Int32 → Wd → Prop} (x1 : Int32) (h : ∃ Q1 : Int32 → Wd → Prop, EvI m_Lesson_caught d [.ref 54, .int x1] w Q1 ∧ ∀ (r1 : Int32) (w1 : Wd), Q1 r1 w1 → Q r1 w1) : Z m_D_catches (d + 1) (qI Q) 0 [(0, .ref 57), (1, .int x1)] [] w := wp_ok (P := P_D_catches) (S := S_D_catches) rfl pr_D_catches 6 _ _ _ _ h
def P_D_named : Prog := [(0, .aload_n 0), (1, .getfield 10), (4, .iload_n 1), (5, .invokevirtual 227), (8, .ireturn)]
theorem pr_D_named : prOK m_D_named P_D_named = true := by decide +kernel
def S_D_named : List (Nat × List Nat) := []
theorem ev_D_named {d : Nat} {w : Wd} {Q : Int32 → Wd → Prop} (x1 : Int32) (h : Z m_D_named d (qI Q) 0 [(0, .ref 57), (1, .int x1)] [] w) : EvI m_D_named d [.ref 57, .int x1] w Q := Ev.ofZ (by decide +kernel) (Nat.le_of_ble_eq_true rfl) h
set_option maxRecDepth 20000 in
set_option maxHeartbeats 1000000 in
theorem vc_D_named_0 {d : Nat} {w : Wd} {Q : Int32 → Wd → Prop} (x1 : Int32) (h : ∃ Q1 : Int32 → Wd → Prop, EvI m_Lexicon_nameOf d [.ref 0, .int x1] w Q1 ∧ ∀ (r1 : Int32) (w1 : Wd), Q1 r1 w1 → Q r1 w1) : Z m_D_named (d + 1) (qI Q) 0 [(0, .ref 57), (1, .int x1)] [] w := wp_ok (P := P_D_named) (S := S_D_named) rfl pr_D_named 6 _ _ _ _ h
def P_D_count : Prog := [(0, .iload_n 1), (1, .tableswitch 131 0 8 #[51, 59, 67, 75, 83, 91, 99, 107, 115]), (52, .aload_n 0), (53, .getfield 19), (56, .invokevirtual 230), (59, .ireturn), (60, .aload_n 0), (61, .getfield 19), (64, .invokevirtual 233), (67, .ireturn), (68, .aload_n 0), (69, .getfield 42), (72, .invokevirtual 210), (75, .ireturn), (76, .aload_n 0), (77, .getfield 42), (80, .invokevirtual 236), (83, .ireturn), (84, .aload_n 0), (85, .getfield 42), (88, .invokevirtual 239), (91, .ireturn), (92, .aload_n 0), (93, .getfield 69), (96, .invokevirtual 242), (99, .ireturn), (100, .aload_n 0), (101, .getfield 26), (104, .invokevirtual 124), (107, .ireturn), (108, .aload_n 0), (109, .getfield 19), (112, .invokevirtual 244), (115, .ireturn), (116, .aload_n 0), (117, .getfield 51), (120, .invokevirtual 141), (123, .aload_n 0), (124, .getfield 51), (127, .iconst 1), (128, .invokevirtual 144), (131, .ireturn), (132, .iconst (-1)), (133, .ireturn)]
theorem pr_D_count : prOK m_D_count P_D_count = true := by decide +kernel
def S_D_count : List (Nat × List Nat) := []
theorem ev_D_count {d : Nat} {w : Wd} {Q : Int32 → Wd → Prop} (x1 : Int32) (h : Z m_D_count d (qI Q) 0 [(0, .ref 57), (1, .int x1)] [] w) : EvI m_D_count d [.ref 57, .int x1] w Q := Ev.ofZ (by decide +kernel) (Nat.le_of_ble_eq_true rfl) h
set_option maxRecDepth 20000 in
set_option maxHeartbeats 1000000 in
theorem vc_D_count_0 {d : Nat} {w : Wd} {Q : Int32 → Wd → Prop} (x1 : Int32) (h : ((x1 = nI 0 → ∃ Q1 : Int32 → Wd → Prop, EvI m_Sentences_came d [.ref 3] w Q1 ∧ ∀ (r1 : Int32) (w1 : Wd), Q1 r1 w1 → Q r1 w1) ∧ (¬ x1 = nI 0 → ((x1 = nI 1 → ∃ Q2 : Int32 → Wd → Prop, EvI m_Sentences_present d [.ref 3] w Q2 ∧ ∀ (r2 : Int32) (w2 : Wd), Q2 r2 w2 → Q r2 w2) ∧ (¬ x1 = nI 1 → ((x1 = nI 2 → ∃ Q3 : Int32 → Wd → Prop, EvI m_Book_rules d [.ref 25] w Q3 ∧ ∀ (r3 : Int32) (w3 : Wd), Q3 r3 w3 → Q r3 w3) ∧ (¬ x1 = nI 2 → ((x1 = nI 3 → ∃ Q4 : Int32 → Wd → Prop, EvI m_Book_bars d [.ref 25] w Q4 ∧ ∀ (r4 : Int32) (w4 : Wd), Q4 r4 w4 → Q r4 w4) ∧ (¬ x1 = nI 3 → ((x1 = nI 4 → ∃ Q5 : Int32 → Wd → Prop, EvI m_Book_chains d [.ref 25] w Q5 ∧ ∀ (r5 : Int32) (w5 : Wd), Q5 r5 w5 → Q r5 w5) ∧ (¬ x1 = nI 4 → ((x1 = nI 5 → ∃ Q6 : Int32 → Wd → Prop, EvI m_Marks_size d [.ref 45] w Q6 ∧ ∀ (r6 : Int32) (w6 : Wd), Q6 r6 w6 → Q r6 w6) ∧ (¬ x1 = nI 5 → ((x1 = nI 6 → ∃ Q7 : Int32 → Wd → Prop, EvI m_Tape_length d [.ref 8] w Q7 ∧ ∀ (r7 : Int32) (w7 : Wd), Q7 r7 w7 → Q r7 w7) ∧ (¬ x1 = nI 6 → ((x1 = nI 7 → ∃ Q8 : Int32 → Wd → Prop, EvI m_Sentences_told d [.ref 3] w Q8 ∧ ∀ (r8 : Int32) (w8 : Wd), Q8 r8 w8 → Q r8 w8) ∧ (¬ x1 = nI 7 → ((x1 = nI 8 → ∃ Q9 : Wd → Prop, EvV m_Finder_refresh d [.ref 36] w Q9 ∧ ∀ w9 : Wd, Q9 w9 → ∃ Q10 : Int32 → Wd → Prop, EvI m_Finder_total d [.ref 36, .int (nI 1)] w9 Q10 ∧ ∀ (r10 : Int32) (w10 : Wd), Q10 r10 w10 → Q r10 w10) ∧ (¬ x1 = nI 8 → Q (-nI 1) w))))))))))))))))))) : Z m_D_count (d + 1) (qI Q) 0 [(0, .ref 57), (1, .int x1)] [] w := wp_ok (P := P_D_count) (S := S_D_count) rfl pr_D_count 11 _ _ _ _ h
def P_D_isRelation : Prog := [(0, .iload_n 0), (1, .ifCond .lt 13), (4, .iload_n 0), (5, .bipush 10), (7, .if_icmp .ge 7), (10, .iconst 1), (11, .goto 4), (14, .iconst 0), (15, .ireturn)]
theorem pr_D_isRelation : prOK m_D_isRelation P_D_isRelation = true := by decide +kernel
def S_D_isRelation : List (Nat × List Nat) := []
theorem ev_D_isRelation {d : Nat} {w : Wd} {Q : Int32 → Wd → Prop} (x0 : Int32) (h : Z m_D_isRelation d (qI Q) 0 [(0, .int x0)] [] w) : EvI m_D_isRelation d [.int x0] w Q := Ev.ofZ (by decide +kernel) (Nat.le_of_ble_eq_true rfl) h
set_option maxRecDepth 20000 in
set_option maxHeartbeats 1000000 in
theorem vc_D_isRelation_0 {d : Nat} {w : Wd} {Q : Int32 → Wd → Prop} (x0 : Int32) (h : ((x0 < 0 → ((nI 0) = 0 ∨ (nI 0) = 1) ∧ Q (nI 0) w) ∧ (¬ x0 < 0 → (((nI 10) ≤ x0 → ((nI 0) = 0 ∨ (nI 0) = 1) ∧ Q (nI 0) w) ∧ (¬ (nI 10) ≤ x0 → ((nI 1) = 0 ∨ (nI 1) = 1) ∧ Q (nI 1) w))))) : Z m_D_isRelation d (qI Q) 0 [(0, .int x0)] [] w := wp_ok (P := P_D_isRelation) (S := S_D_isRelation) rfl pr_D_isRelation 9 _ _ _ _ h
def P_Integer_bitCount : Prog := [(0, .iload_n 0), (1, .iload_n 0), (2, .iconst 1), (3, .iushr), (4, .ldc_w 265), (7, .iand), (8, .isub), (9, .istore_n 0), (10, .iload_n 0), (11, .ldc_w 266), (14, .iand), (15, .iload_n 0), (16, .iconst 2), (17, .iushr), (18, .ldc_w 266), (21, .iand), (22, .iadd), (23, .istore_n 0), (24, .iload_n 0), (25, .iload_n 0), (26, .iconst 4), (27, .iushr), (28, .iadd), (29, .ldc_w 267), (32, .iand), (33, .istore_n 0), (34, .iload_n 0), (35, .iload_n 0), (36, .bipush 8), (38, .iushr), (39, .iadd), (40, .istore_n 0), (41, .iload_n 0), (42, .iload_n 0), (43, .bipush 16), (45, .iushr), (46, .iadd), (47, .istore_n 0), (48, .iload_n 0), (49, .bipush 63), (51, .iand), (52, .ireturn)]
theorem pr_Integer_bitCount : prOK m_Integer_bitCount P_Integer_bitCount = true := by decide +kernel
def S_Integer_bitCount : List (Nat × List Nat) := [(10, [0]), (24, [0]), (34, [0]), (41, [0]), (48, [0])]
theorem ev_Integer_bitCount {d : Nat} {w : Wd} {Q : Int32 → Wd → Prop} (x0 : Int32) (h : Z m_Integer_bitCount d (qI Q) 0 [(0, .int x0)] [] w) : EvI m_Integer_bitCount d [.int x0] w Q := Ev.ofZ (by decide +kernel) (Nat.le_of_ble_eq_true rfl) h
set_option maxRecDepth 20000 in
set_option maxHeartbeats 1000000 in
theorem vc_Integer_bitCount_0 {d : Nat} {w : Wd} {Q : Int32 → Wd → Prop} (x0 : Int32) (h : Z m_Integer_bitCount d (qI Q) 10 [(0, .int (x0 - (((x0.toUInt32 >>> ((nI 1).toUInt32 &&& Int32.toUInt32 31)).toInt32) &&& (1431655765 : Int32))))] [] w) : Z m_Integer_bitCount d (qI Q) 0 [(0, .int x0)] [] w := wp_ok (P := P_Integer_bitCount) (S := S_Integer_bitCount) rfl pr_Integer_bitCount 9 _ _ _ _ h
set_option maxRecDepth 20000 in
set_option maxHeartbeats 1000000 in
theorem vc_Integer_bitCount_10 {d : Nat} {w : Wd} {Q : Int32 → Wd → Prop} (x0 : Int32) (h : Z m_Integer_bitCount d (qI Q) 24 [(0, .int ((x0 &&& (858993459 : Int32)) + (((x0.toUInt32 >>> ((nI 2).toUInt32 &&& Int32.toUInt32 31)).toInt32) &&& (858993459 : Int32))))] [] w) : Z m_Integer_bitCount d (qI Q) 10 [(0, .int x0)] [] w := wp_ok (P := P_Integer_bitCount) (S := S_Integer_bitCount) rfl pr_Integer_bitCount 11 _ _ _ _ h
set_option maxRecDepth 20000 in
set_option maxHeartbeats 1000000 in
theorem vc_Integer_bitCount_24 {d : Nat} {w : Wd} {Q : Int32 → Wd → Prop} (x0 : Int32) (h : Z m_Integer_bitCount d (qI Q) 34 [(0, .int ((x0 + ((x0.toUInt32 >>> ((nI 4).toUInt32 &&& Int32.toUInt32 31)).toInt32)) &&& (252645135 : Int32)))] [] w) : Z m_Integer_bitCount d (qI Q) 24 [(0, .int x0)] [] w := wp_ok (P := P_Integer_bitCount) (S := S_Integer_bitCount) rfl pr_Integer_bitCount 9 _ _ _ _ h
set_option maxRecDepth 20000 in
set_option maxHeartbeats 1000000 in
theorem vc_Integer_bitCount_34 {d : Nat} {w : Wd} {Q : Int32 → Wd → Prop} (x0 : Int32) (h : Z m_Integer_bitCount d (qI Q) 41 [(0, .int (x0 + ((x0.toUInt32 >>> ((nI 8).toUInt32 &&& Int32.toUInt32 31)).toInt32)))] [] w) : Z m_Integer_bitCount d (qI Q) 34 [(0, .int x0)] [] w := wp_ok (P := P_Integer_bitCount) (S := S_Integer_bitCount) rfl pr_Integer_bitCount 7 _ _ _ _ h
set_option maxRecDepth 20000 in
set_option maxHeartbeats 1000000 in
theorem vc_Integer_bitCount_41 {d : Nat} {w : Wd} {Q : Int32 → Wd → Prop} (x0 : Int32) (h : Z m_Integer_bitCount d (qI Q) 48 [(0, .int (x0 + ((x0.toUInt32 >>> ((nI 16).toUInt32 &&& Int32.toUInt32 31)).toInt32)))] [] w) : Z m_Integer_bitCount d (qI Q) 41 [(0, .int x0)] [] w := wp_ok (P := P_Integer_bitCount) (S := S_Integer_bitCount) rfl pr_Integer_bitCount 7 _ _ _ _ h
set_option maxRecDepth 20000 in
set_option maxHeartbeats 1000000 in
theorem vc_Integer_bitCount_48 {d : Nat} {w : Wd} {Q : Int32 → Wd → Prop} (x0 : Int32) (h : Q (x0 &&& (nI 63)) w) : Z m_Integer_bitCount d (qI Q) 48 [(0, .int x0)] [] w := wp_ok (P := P_Integer_bitCount) (S := S_Integer_bitCount) rfl pr_Integer_bitCount 5 _ _ _ _ h
def P_Long_bitCount : Prog := [(0, .lload_n 0), (1, .lload_n 0), (2, .iconst 1), (3, .lushr), (4, .ldc2_w 314), (7, .land), (8, .lsub), (9, .lstore_n 0), (10, .lload_n 0), (11, .ldc2_w 316), (14, .land), (15, .lload_n 0), (16, .iconst 2), (17, .lushr), (18, .ldc2_w 316), (21, .land), (22, .ladd), (23, .lstore_n 0), (24, .lload_n 0), (25, .lload_n 0), (26, .iconst 4), (27, .lushr), (28, .ladd), (29, .ldc2_w 318), (32, .land), (33, .lstore_n 0), (34, .lload_n 0), (35, .lload_n 0), (36, .bipush 8), (38, .lushr), (39, .ladd), (40, .lstore_n 0), (41, .lload_n 0), (42, .lload_n 0), (43, .bipush 16), (45, .lushr), (46, .ladd), (47, .lstore_n 0), (48, .lload_n 0), (49, .lload_n 0), (50, .bipush 32), (52, .lushr), (53, .ladd), (54, .lstore_n 0), (55, .lload_n 0), (56, .l2i), (57, .bipush 127), (59, .iand), (60, .ireturn)]
theorem pr_Long_bitCount : prOK m_Long_bitCount P_Long_bitCount = true := by decide +kernel
def S_Long_bitCount : List (Nat × List Nat) := [(10, [0]), (24, [0]), (34, [0]), (41, [0]), (48, [0]), (55, [0])]
theorem ev_Long_bitCount {d : Nat} {w : Wd} {Q : Int32 → Wd → Prop} (x0 : Int64) (h : Z m_Long_bitCount d (qI Q) 0 [(0, .long x0)] [] w) : EvI m_Long_bitCount d [.long x0] w Q := Ev.ofZ (by decide +kernel) (Nat.le_of_ble_eq_true rfl) h
set_option maxRecDepth 20000 in
set_option maxHeartbeats 1000000 in
theorem vc_Long_bitCount_0 {d : Nat} {w : Wd} {Q : Int32 → Wd → Prop} (x0 : Int64) (h : Z m_Long_bitCount d (qI Q) 10 [(0, .long (x0 - (((x0.toUInt64 >>> ((nI 1).toInt64.toUInt64 &&& Int64.toUInt64 63)).toInt64) &&& (6148914691236517205 : Int64))))] [] w) : Z m_Long_bitCount d (qI Q) 0 [(0, .long x0)] [] w := wp_ok (P := P_Long_bitCount) (S := S_Long_bitCount) rfl pr_Long_bitCount 9 _ _ _ _ h
set_option maxRecDepth 20000 in
set_option maxHeartbeats 1000000 in
theorem vc_Long_bitCount_10 {d : Nat} {w : Wd} {Q : Int32 → Wd → Prop} (x0 : Int64) (h : Z m_Long_bitCount d (qI Q) 24 [(0, .long ((x0 &&& (3689348814741910323 : Int64)) + (((x0.toUInt64 >>> ((nI 2).toInt64.toUInt64 &&& Int64.toUInt64 63)).toInt64) &&& (3689348814741910323 : Int64))))] [] w) : Z m_Long_bitCount d (qI Q) 10 [(0, .long x0)] [] w := wp_ok (P := P_Long_bitCount) (S := S_Long_bitCount) rfl pr_Long_bitCount 11 _ _ _ _ h
set_option maxRecDepth 20000 in
set_option maxHeartbeats 1000000 in
theorem vc_Long_bitCount_24 {d : Nat} {w : Wd} {Q : Int32 → Wd → Prop} (x0 : Int64) (h : Z m_Long_bitCount d (qI Q) 34 [(0, .long ((x0 + ((x0.toUInt64 >>> ((nI 4).toInt64.toUInt64 &&& Int64.toUInt64 63)).toInt64)) &&& (1085102592571150095 : Int64)))] [] w) : Z m_Long_bitCount d (qI Q) 24 [(0, .long x0)] [] w := wp_ok (P := P_Long_bitCount) (S := S_Long_bitCount) rfl pr_Long_bitCount 9 _ _ _ _ h
set_option maxRecDepth 20000 in
set_option maxHeartbeats 1000000 in
theorem vc_Long_bitCount_34 {d : Nat} {w : Wd} {Q : Int32 → Wd → Prop} (x0 : Int64) (h : Z m_Long_bitCount d (qI Q) 41 [(0, .long (x0 + ((x0.toUInt64 >>> ((nI 8).toInt64.toUInt64 &&& Int64.toUInt64 63)).toInt64)))] [] w) : Z m_Long_bitCount d (qI Q) 34 [(0, .long x0)] [] w := wp_ok (P := P_Long_bitCount) (S := S_Long_bitCount) rfl pr_Long_bitCount 7 _ _ _ _ h
set_option maxRecDepth 20000 in
set_option maxHeartbeats 1000000 in
theorem vc_Long_bitCount_41 {d : Nat} {w : Wd} {Q : Int32 → Wd → Prop} (x0 : Int64) (h : Z m_Long_bitCount d (qI Q) 48 [(0, .long (x0 + ((x0.toUInt64 >>> ((nI 16).toInt64.toUInt64 &&& Int64.toUInt64 63)).toInt64)))] [] w) : Z m_Long_bitCount d (qI Q) 41 [(0, .long x0)] [] w := wp_ok (P := P_Long_bitCount) (S := S_Long_bitCount) rfl pr_Long_bitCount 7 _ _ _ _ h
set_option maxRecDepth 20000 in
set_option maxHeartbeats 1000000 in
theorem vc_Long_bitCount_48 {d : Nat} {w : Wd} {Q : Int32 → Wd → Prop} (x0 : Int64) (h : Z m_Long_bitCount d (qI Q) 55 [(0, .long (x0 + ((x0.toUInt64 >>> ((nI 32).toInt64.toUInt64 &&& Int64.toUInt64 63)).toInt64)))] [] w) : Z m_Long_bitCount d (qI Q) 48 [(0, .long x0)] [] w := wp_ok (P := P_Long_bitCount) (S := S_Long_bitCount) rfl pr_Long_bitCount 7 _ _ _ _ h
set_option maxRecDepth 20000 in
set_option maxHeartbeats 1000000 in
theorem vc_Long_bitCount_55 {d : Nat} {w : Wd} {Q : Int32 → Wd → Prop} (x0 : Int64) (h : Q ((x0.toInt32) &&& (nI 127)) w) : Z m_Long_bitCount d (qI Q) 55 [(0, .long x0)] [] w := wp_ok (P := P_Long_bitCount) (S := S_Long_bitCount) rfl pr_Long_bitCount 6 _ _ _ _ h
def P_Arrays_fill : Prog := [(0, .iconst 0), (1, .istore_n 3), (2, .aload_n 0), (3, .arraylength), (4, .istore 4), (6, .iload_n 3), (7, .iload 4), (9, .if_icmp .ge 13), (12, .aload_n 0), (13, .iload_n 3), (14, .lload_n 1), (15, .lastore), (16, .iinc 3 1), (19, .goto (-13)), (22, .return_)]
theorem pr_Arrays_fill : prOK m_Arrays_fill P_Arrays_fill = true := by decide +kernel
def S_Arrays_fill : List (Nat × List Nat) := [(6, [0, 1, 3, 4])]
theorem ev_Arrays_fill {d : Nat} {w : Wd} {Q : Wd → Prop} (x1 : Int64) (h : Z m_Arrays_fill d (qV Q) 0 [(0, .ref 43), (1, .long x1)] [] w) : EvV m_Arrays_fill d [.ref 43, .long x1] w Q := Ev.ofZ (by decide +kernel) (Nat.le_of_ble_eq_true rfl) h
set_option maxRecDepth 20000 in
set_option maxHeartbeats 1000000 in
theorem vc_Arrays_fill_0 {d : Nat} {w : Wd} {Q : Wd → Prop} (x1 : Int64) (h : Z m_Arrays_fill d (qV Q) 6 [(0, .ref 43), (1, .long x1), (3, .int (nI 0)), (4, .int (nI 1010))] [] w) : Z m_Arrays_fill d (qV Q) 0 [(0, .ref 43), (1, .long x1)] [] w := wp_ok (P := P_Arrays_fill) (S := S_Arrays_fill) rfl pr_Arrays_fill 6 _ _ _ _ h
set_option maxRecDepth 20000 in
set_option maxHeartbeats 1000000 in
theorem vc_Arrays_fill_6 {d : Nat} {w : Wd} {Q : Wd → Prop} (x1 : Int64) (x3 : Int32) (x4 : Int32) (h : ((x4 ≤ x3 → Q w) ∧ (¬ x4 ≤ x3 → ∃ j1 : Nat, x3 = nI j1 ∧ j1 < 1010 ∧ Z m_Arrays_fill d (qV Q) 6 [(0, .ref 43), (1, .long x1), (3, .int (x3 + nI 1)), (4, .int x4)] [] (up2 w 43 j1 x1)))) : Z m_Arrays_fill d (qV Q) 6 [(0, .ref 43), (1, .long x1), (3, .int x3), (4, .int x4)] [] w := wp_ok (P := P_Arrays_fill) (S := S_Arrays_fill) rfl pr_Arrays_fill 10 _ _ _ _ h
def S_Arrays_fill_h : List (Nat × List Nat) := [(6, [0, 1, 3, 4])]
theorem ev_Arrays_fill_h {d : Nat} {w : Wd} {Q : Wd → Prop} (x1 : Int64) (h : Z m_Arrays_fill d (qV Q) 0 [(0, .ref 44), (1, .long x1)] [] w) : EvV m_Arrays_fill d [.ref 44, .long x1] w Q := Ev.ofZ (by decide +kernel) (Nat.le_of_ble_eq_true rfl) h
set_option maxRecDepth 20000 in
set_option maxHeartbeats 1000000 in
theorem vc_Arrays_fill_h_0 {d : Nat} {w : Wd} {Q : Wd → Prop} (x1 : Int64) (h : Z m_Arrays_fill d (qV Q) 6 [(0, .ref 44), (1, .long x1), (3, .int (nI 0)), (4, .int (nI 1010))] [] w) : Z m_Arrays_fill d (qV Q) 0 [(0, .ref 44), (1, .long x1)] [] w := wp_ok (P := P_Arrays_fill) (S := S_Arrays_fill_h) rfl pr_Arrays_fill 6 _ _ _ _ h
set_option maxRecDepth 20000 in
set_option maxHeartbeats 1000000 in
theorem vc_Arrays_fill_h_6 {d : Nat} {w : Wd} {Q : Wd → Prop} (x1 : Int64) (x3 : Int32) (x4 : Int32) (h : ((x4 ≤ x3 → Q w) ∧ (¬ x4 ≤ x3 → ∃ j1 : Nat, x3 = nI j1 ∧ j1 < 1010 ∧ Z m_Arrays_fill d (qV Q) 6 [(0, .ref 44), (1, .long x1), (3, .int (x3 + nI 1)), (4, .int x4)] [] (up2 w 44 j1 x1)))) : Z m_Arrays_fill d (qV Q) 6 [(0, .ref 44), (1, .long x1), (3, .int x3), (4, .int x4)] [] w := wp_ok (P := P_Arrays_fill) (S := S_Arrays_fill_h) rfl pr_Arrays_fill 10 _ _ _ _ h
end
section
def P_M_thrown : Prog := [(0, .aload_n 0), (1, .getfield 1), (4, .ireturn)]
theorem pr_M_thrown : prOK m_M_thrown P_M_thrown = true := by decide +kernel
def S_M_thrown : List (Nat × List Nat) := []
theorem ev_M_thrown {d : Nat} {w : Wd} {Q : Int32 → Wd → Prop}  (h : Z m_M_thrown d (qI Q) 0 [(0, .ref 58)] [] w) : EvI m_M_thrown d [.ref 58] w Q := Ev.ofZ (by decide +kernel) (Nat.le_of_ble_eq_true rfl) h
set_option maxRecDepth 20000 in
set_option maxHeartbeats 1000000 in
theorem vc_M_thrown_0 {d : Nat} {w : Wd} {Q : Int32 → Wd → Prop}  (h : Q (w.1 58 0) w) : Z m_M_thrown d (qI Q) 0 [(0, .ref 58)] [] w := wp_ok (P := P_M_thrown) (S := S_M_thrown) rfl pr_M_thrown 4 _ _ _ _ h
def P_M_feed : Prog := [(0, .aload_n 0), (1, .iconst 0), (2, .putfield 1), (5, .aload_n 0), (6, .lload_n 1), (7, .invokevirtual 7), (10, .aload_n 0), (11, .lload_n 3), (12, .invokevirtual 7), (15, .aload_n 0), (16, .lload 5), (18, .invokevirtual 7), (21, .aload_n 0), (22, .getfield 11), (25, .ireturn)]
theorem pr_M_feed : prOK m_M_feed P_M_feed = true := by decide +kernel
def S_M_feed : List (Nat × List Nat) := []
theorem ev_M_feed {d : Nat} {w : Wd} {Q : Int32 → Wd → Prop} (x1 : Int64) (x3 : Int64) (x5 : Int64) (h : Z m_M_feed d (qI Q) 0 [(0, .ref 58), (1, .long x1), (3, .long x3), (5, .long x5)] [] w) : EvI m_M_feed d [.ref 58, .long x1, .long x3, .long x5] w Q := Ev.ofZ (by decide +kernel) (Nat.le_of_ble_eq_true rfl) h
set_option maxRecDepth 20000 in
set_option maxHeartbeats 1000000 in
theorem vc_M_feed_0 {d : Nat} {w : Wd} {Q : Int32 → Wd → Prop} (x1 : Int64) (x3 : Int64) (x5 : Int64) (h : ∃ Q1 : Wd → Prop, EvV m_M_lay d [.ref 58, .long x1] (up1 w 58 0 (nI 0)) Q1 ∧ ∀ w1 : Wd, Q1 w1 → ∃ Q2 : Wd → Prop, EvV m_M_lay d [.ref 58, .long x3] w1 Q2 ∧ ∀ w2 : Wd, Q2 w2 → ∃ Q3 : Wd → Prop, EvV m_M_lay d [.ref 58, .long x5] w2 Q3 ∧ ∀ w3 : Wd, Q3 w3 → Q (w3.1 58 2) w3) : Z m_M_feed (d + 1) (qI Q) 0 [(0, .ref 58), (1, .long x1), (3, .long x3), (5, .long x5)] [] w := wp_ok (P := P_M_feed) (S := S_M_feed) rfl pr_M_feed 16 _ _ _ _ h
def P_M_lay : Prog := [(0, .bipush 56), (2, .istore_n 3), (3, .iload_n 3), (4, .ifCond .lt 71), (7, .lload_n 1), (8, .iload_n 3), (9, .lshr), (10, .l2i), (11, .sipush 255), (14, .iand), (15, .istore 4), (17, .iload 4), (19, .bipush 10), (21, .if_icmp .eq 17), (24, .iload 4), (26, .bipush 32), (28, .if_icmp .lt 41), (31, .iload 4), (33, .bipush 126), (35, .if_icmp .gt 34), (38, .aload_n 0), (39, .getfield 11), (42, .sipush 1200), (45, .if_icmp .ge 24), (48, .aload_n 0), (49, .getfield 14), (52, .aload_n 0), (53, .getfield 11), (56, .iload 4), (58, .iastore), (59, .aload_n 0), (60, .dup), (61, .getfield 11), (64, .iconst 1), (65, .iadd), (66, .putfield 11), (69, .iinc 3 (-8)), (72, .goto (-69)), (75, .return_)]
theorem pr_M_lay : prOK m_M_lay P_M_lay = true := by decide +kernel
def S_M_lay : List (Nat × List Nat) := [(3, [0, 1, 3])]
theorem ev_M_lay {d : Nat} {w : Wd} {Q : Wd → Prop} (x1 : Int64) (h : Z m_M_lay d (qV Q) 0 [(0, .ref 58), (1, .long x1)] [] w) : EvV m_M_lay d [.ref 58, .long x1] w Q := Ev.ofZ (by decide +kernel) (Nat.le_of_ble_eq_true rfl) h
set_option maxRecDepth 20000 in
set_option maxHeartbeats 1000000 in
theorem vc_M_lay_0 {d : Nat} {w : Wd} {Q : Wd → Prop} (x1 : Int64) (h : Z m_M_lay d (qV Q) 3 [(0, .ref 58), (1, .long x1), (3, .int (nI 56))] [] w) : Z m_M_lay d (qV Q) 0 [(0, .ref 58), (1, .long x1)] [] w := wp_ok (P := P_M_lay) (S := S_M_lay) rfl pr_M_lay 3 _ _ _ _ h
set_option maxRecDepth 20000 in
set_option maxHeartbeats 1000000 in
theorem vc_M_lay_3 {d : Nat} {w : Wd} {Q : Wd → Prop} (x1 : Int64) (x3 : Int32) (h : ((x3 < 0 → Q w) ∧ (¬ x3 < 0 → (((((x1 >>> (x3.toInt64 &&& 63)).toInt32) &&& (nI 255)) = (nI 10) → (((nI 1200) ≤ (w.1 58 2) → Z m_M_lay d (qV Q) 3 [(0, .ref 58), (1, .long x1), (3, .int (x3 + (-nI 8)))] [] w) ∧ (¬ (nI 1200) ≤ (w.1 58 2) → ∃ j1 : Nat, (w.1 58 2) = nI j1 ∧ j1 < 1200 ∧ Z m_M_lay d (qV Q) 3 [(0, .ref 58), (1, .long x1), (3, .int (x3 + (-nI 8)))] [] (up1 (up1 w 59 j1 (((x1 >>> (x3.toInt64 &&& 63)).toInt32) &&& (nI 255))) 58 2 ((w.1 58 2) + (nI 1)))))) ∧ (¬ (((x1 >>> (x3.toInt64 &&& 63)).toInt32) &&& (nI 255)) = (nI 10) → (((((x1 >>> (x3.toInt64 &&& 63)).toInt32) &&& (nI 255)) < (nI 32) → Z m_M_lay d (qV Q) 3 [(0, .ref 58), (1, .long x1), (3, .int (x3 + (-nI 8)))] [] w) ∧ (¬ (((x1 >>> (x3.toInt64 &&& 63)).toInt32) &&& (nI 255)) < (nI 32) → (((nI 126) < (((x1 >>> (x3.toInt64 &&& 63)).toInt32) &&& (nI 255)) → Z m_M_lay d (qV Q) 3 [(0, .ref 58), (1, .long x1), (3, .int (x3 + (-nI 8)))] [] w) ∧ (¬ (nI 126) < (((x1 >>> (x3.toInt64 &&& 63)).toInt32) &&& (nI 255)) → (((nI 1200) ≤ (w.1 58 2) → Z m_M_lay d (qV Q) 3 [(0, .ref 58), (1, .long x1), (3, .int (x3 + (-nI 8)))] [] w) ∧ (¬ (nI 1200) ≤ (w.1 58 2) → ∃ j2 : Nat, (w.1 58 2) = nI j2 ∧ j2 < 1200 ∧ Z m_M_lay d (qV Q) 3 [(0, .ref 58), (1, .long x1), (3, .int (x3 + (-nI 8)))] [] (up1 (up1 w 59 j2 (((x1 >>> (x3.toInt64 &&& 63)).toInt32) &&& (nI 255))) 58 2 ((w.1 58 2) + (nI 1)))))))))))))) : Z m_M_lay d (qV Q) 3 [(0, .ref 58), (1, .long x1), (3, .int x3)] [] w := wp_ok (P := P_M_lay) (S := S_M_lay) rfl pr_M_lay 37 _ _ _ _ h
def P_M_isLetter : Prog := [(0, .iload_n 0), (1, .bipush 97), (3, .if_icmp .lt 13), (6, .iload_n 0), (7, .bipush 122), (9, .if_icmp .gt 7), (12, .iconst 1), (13, .goto 4), (16, .iconst 0), (17, .ireturn)]
theorem pr_M_isLetter : prOK m_M_isLetter P_M_isLetter = true := by decide +kernel
def S_M_isLetter : List (Nat × List Nat) := []
theorem ev_M_isLetter {d : Nat} {w : Wd} {Q : Int32 → Wd → Prop} (x0 : Int32) (h : Z m_M_isLetter d (qI Q) 0 [(0, .int x0)] [] w) : EvI m_M_isLetter d [.int x0] w Q := Ev.ofZ (by decide +kernel) (Nat.le_of_ble_eq_true rfl) h
set_option maxRecDepth 20000 in
set_option maxHeartbeats 1000000 in
theorem vc_M_isLetter_0 {d : Nat} {w : Wd} {Q : Int32 → Wd → Prop} (x0 : Int32) (h : ((x0 < (nI 97) → ((nI 0) = 0 ∨ (nI 0) = 1) ∧ Q (nI 0) w) ∧ (¬ x0 < (nI 97) → (((nI 122) < x0 → ((nI 0) = 0 ∨ (nI 0) = 1) ∧ Q (nI 0) w) ∧ (¬ (nI 122) < x0 → ((nI 1) = 0 ∨ (nI 1) = 1) ∧ Q (nI 1) w))))) : Z m_M_isLetter d (qI Q) 0 [(0, .int x0)] [] w := wp_ok (P := P_M_isLetter) (S := S_M_isLetter) rfl pr_M_isLetter 10 _ _ _ _ h
def P_M_isDigit : Prog := [(0, .iload_n 0), (1, .bipush 48), (3, .if_icmp .lt 13), (6, .iload_n 0), (7, .bipush 57), (9, .if_icmp .gt 7), (12, .iconst 1), (13, .goto 4), (16, .iconst 0), (17, .ireturn)]
theorem pr_M_isDigit : prOK m_M_isDigit P_M_isDigit = true := by decide +kernel
def S_M_isDigit : List (Nat × List Nat) := []
theorem ev_M_isDigit {d : Nat} {w : Wd} {Q : Int32 → Wd → Prop} (x0 : Int32) (h : Z m_M_isDigit d (qI Q) 0 [(0, .int x0)] [] w) : EvI m_M_isDigit d [.int x0] w Q := Ev.ofZ (by decide +kernel) (Nat.le_of_ble_eq_true rfl) h
set_option maxRecDepth 20000 in
set_option maxHeartbeats 1000000 in
theorem vc_M_isDigit_0 {d : Nat} {w : Wd} {Q : Int32 → Wd → Prop} (x0 : Int32) (h : ((x0 < (nI 48) → ((nI 0) = 0 ∨ (nI 0) = 1) ∧ Q (nI 0) w) ∧ (¬ x0 < (nI 48) → (((nI 57) < x0 → ((nI 0) = 0 ∨ (nI 0) = 1) ∧ Q (nI 0) w) ∧ (¬ (nI 57) < x0 → ((nI 1) = 0 ∨ (nI 1) = 1) ∧ Q (nI 1) w))))) : Z m_M_isDigit d (qI Q) 0 [(0, .int x0)] [] w := wp_ok (P := P_M_isDigit) (S := S_M_isDigit) rfl pr_M_isDigit 10 _ _ _ _ h
def P_M_rank : Prog := [(0, .iload_n 0), (1, .invokestatic 157), (4, .ifCond .eq 10), (7, .iload_n 0), (8, .bipush 96), (10, .isub), (11, .goto 7), (14, .iload_n 0), (15, .bipush 21), (17, .isub), (18, .ireturn)]
theorem pr_M_rank : prOK m_M_rank P_M_rank = true := by decide +kernel
def S_M_rank : List (Nat × List Nat) := []
theorem ev_M_rank {d : Nat} {w : Wd} {Q : Int32 → Wd → Prop} (x0 : Int32) (h : Z m_M_rank d (qI Q) 0 [(0, .int x0)] [] w) : EvI m_M_rank d [.int x0] w Q := Ev.ofZ (by decide +kernel) (Nat.le_of_ble_eq_true rfl) h
set_option maxRecDepth 20000 in
set_option maxHeartbeats 1000000 in
theorem vc_M_rank_0 {d : Nat} {w : Wd} {Q : Int32 → Wd → Prop} (x0 : Int32) (h : ∃ Q1 : Int32 → Wd → Prop, EvI m_M_isLetter d [.int x0] w Q1 ∧ ∀ (r1 : Int32) (w1 : Wd), Q1 r1 w1 → ((r1 = 0 → Q (x0 - (nI 21)) w1) ∧ (¬ r1 = 0 → Q (x0 - (nI 96)) w1))) : Z m_M_rank (d + 1) (qI Q) 0 [(0, .int x0)] [] w := wp_ok (P := P_M_rank) (S := S_M_rank) rfl pr_M_rank 9 _ _ _ _ h
def P_M_isSignOf : Prog := [(0, .iload_n 0), (1, .bipush 58), (3, .if_icmp .eq 15), (6, .iload_n 0), (7, .bipush 61), (9, .if_icmp .eq 9), (12, .iload_n 0), (13, .bipush 59), (15, .if_icmp .ne 7), (18, .iconst 1), (19, .goto 4), (22, .iconst 0), (23, .ireturn)]
theorem pr_M_isSignOf : prOK m_M_isSignOf P_M_isSignOf = true := by decide +kernel
def S_M_isSignOf : List (Nat × List Nat) := []
theorem ev_M_isSignOf {d : Nat} {w : Wd} {Q : Int32 → Wd → Prop} (x0 : Int32) (h : Z m_M_isSignOf d (qI Q) 0 [(0, .int x0)] [] w) : EvI m_M_isSignOf d [.int x0] w Q := Ev.ofZ (by decide +kernel) (Nat.le_of_ble_eq_true rfl) h
set_option maxRecDepth 20000 in
set_option maxHeartbeats 1000000 in
theorem vc_M_isSignOf_0 {d : Nat} {w : Wd} {Q : Int32 → Wd → Prop} (x0 : Int32) (h : ((x0 = (nI 58) → ((nI 1) = 0 ∨ (nI 1) = 1) ∧ Q (nI 1) w) ∧ (¬ x0 = (nI 58) → ((x0 = (nI 61) → ((nI 1) = 0 ∨ (nI 1) = 1) ∧ Q (nI 1) w) ∧ (¬ x0 = (nI 61) → ((¬ x0 = (nI 59) → ((nI 0) = 0 ∨ (nI 0) = 1) ∧ Q (nI 0) w) ∧ (x0 = (nI 59) → ((nI 1) = 0 ∨ (nI 1) = 1) ∧ Q (nI 1) w))))))) : Z m_M_isSignOf d (qI Q) 0 [(0, .int x0)] [] w := wp_ok (P := P_M_isSignOf) (S := S_M_isSignOf) rfl pr_M_isSignOf 13 _ _ _ _ h
def P_M_cutAll : Prog := [(0, .aload_n 0), (1, .aload_n 0), (2, .getfield 11), (5, .putfield 161), (8, .aload_n 0), (9, .iconst 0), (10, .putfield 11), (13, .iconst 0), (14, .istore_n 1), (15, .iconst 0), (16, .istore_n 2), (17, .iload_n 2), (18, .aload_n 0), (19, .getfield 161), (22, .if_icmp .ge 257), (25, .aload_n 0), (26, .getfield 14), (29, .iload_n 2), (30, .iaload), (31, .istore_n 3), (32, .iload_n 3), (33, .bipush 10), (35, .if_icmp .eq 9), (38, .iload_n 3), (39, .bipush 32), (41, .if_icmp .ne 9), (44, .iinc 2 1), (47, .goto (-30)), (50, .iload_n 2), (51, .istore 4), (53, .lconst 0), (54, .lstore 5), (56, .aload_n 0), (57, .getfield 27), (60, .iload_n 1), (61, .iload_n 2), (62, .iastore), (63, .iload_n 3), (64, .invokestatic 157), (67, .ifCond .eq 85), (70, .iload_n 2), (71, .aload_n 0), (72, .getfield 161), (75, .if_icmp .ge 54), (78, .aload_n 0), (79, .getfield 14), (82, .iload_n 2), (83, .iaload), (84, .invokestatic 157), (87, .ifCond .eq 42), (90, .iload_n 2), (91, .iload 4), (93, .isub), (94, .bipush 8), (96, .if_icmp .ge 23), (99, .ldc2_w 164), (102, .lload 5), (104, .lmul), (105, .aload_n 0), (106, .getfield 14), (109, .iload_n 2), (110, .iaload), (111, .invokestatic 166), (114, .i2l), (115, .ladd), (116, .goto 5), (119, .lload 5), (121, .lstore 5), (123, .iinc 2 1), (126, .goto (-56)), (129, .aload_n 0), (130, .getfield 24), (133, .iload_n 1), (134, .iload_n 2), (135, .iload 4), (137, .isub), (138, .bipush 8), (140, .if_icmp .le 7), (143, .iconst 4), (144, .goto 4), (147, .iconst 1), (148, .iastore), (149, .goto 116), (152, .iload_n 3), (153, .invokestatic 170), (156, .ifCond .eq 84), (159, .iload_n 2), (160, .aload_n 0), (161, .getfield 161), (164, .if_icmp .ge 54), (167, .aload_n 0), (168, .getfield 14), (171, .iload_n 2), (172, .iaload), (173, .invokestatic 170), (176, .ifCond .eq 42), (179, .iload_n 2), (180, .iload 4), (182, .isub), (183, .iconst 4), (184, .if_icmp .ge 24), (187, .ldc2_w 173), (190, .lload 5), (192, .lmul), (193, .aload_n 0), (194, .getfield 14), (197, .iload_n 2), (198, .iaload), (199, .i2l), (200, .ladd), (201, .ldc2_w 175), (204, .lsub), (205, .goto 5), (208, .lload 5), (210, .lstore 5), (212, .iinc 2 1), (215, .goto (-56)), (218, .aload_n 0), (219, .getfield 24), (222, .iload_n 1), (223, .iload_n 2), (224, .iload 4), (226, .isub), (227, .iconst 4), (228, .if_icmp .le 7), (231, .iconst 4), (232, .goto 4), (235, .iconst 2), (236, .iastore), (237, .goto 28), (240, .iload_n 3), (241, .i2l), (242, .lstore 5), (244, .aload_n 0), (245, .getfield 24), (248, .iload_n 1), (249, .iload_n 3), (250, .invokestatic 177), (253, .ifCond .eq 7), (256, .iconst 3), (257, .goto 4), (260, .iconst 4), (261, .iastore), (262, .iinc 2 1), (265, .aload_n 0), (266, .getfield 30), (269, .iload_n 1), (270, .lload 5), (272, .lastore), (273, .iinc 1 1), (276, .goto (-259)), (279, .aload_n 0), (280, .getfield 24), (283, .iload_n 1), (284, .iconst 0), (285, .iastore), (286, .aload_n 0), (287, .getfield 27), (290, .iload_n 1), (291, .aload_n 0), (292, .getfield 161), (295, .iastore), (296, .aload_n 0), (297, .iconst 0), (298, .putfield 180), (301, .aload_n 0), (302, .iconst 0), (303, .putfield 183), (306, .return_)]
theorem pr_M_cutAll : prOK m_M_cutAll P_M_cutAll = true := by decide +kernel
def S_M_cutAll : List (Nat × List Nat) := [(17, [0, 1, 2]), (70, [0, 1, 2, 3, 4, 5]), (159, [0, 1, 2, 3, 4, 5])]
theorem ev_M_cutAll {d : Nat} {w : Wd} {Q : Wd → Prop}  (h : Z m_M_cutAll d (qV Q) 0 [(0, .ref 58)] [] w) : EvV m_M_cutAll d [.ref 58] w Q := Ev.ofZ (by decide +kernel) (Nat.le_of_ble_eq_true rfl) h
set_option maxRecDepth 20000 in
set_option maxHeartbeats 1000000 in
theorem vc_M_cutAll_0 {d : Nat} {w : Wd} {Q : Wd → Prop}  (h : Z m_M_cutAll (d + 1) (qV Q) 17 [(0, .ref 58), (1, .int (nI 0)), (2, .int (nI 0))] [] (up1 (up1 w 58 3 (w.1 58 2)) 58 2 (nI 0))) : Z m_M_cutAll (d + 1) (qV Q) 0 [(0, .ref 58)] [] w := wp_ok (P := P_M_cutAll) (S := S_M_cutAll) rfl pr_M_cutAll 12 _ _ _ _ h
set_option maxRecDepth 20000 in
set_option maxHeartbeats 1000000 in
theorem vc_M_cutAll_17 {d : Nat} {w : Wd} {Q : Wd → Prop} (x1 : Int32) (x2 : Int32) (h : (((w.1 58 3) ≤ x2 → ∃ j1 : Nat, x1 = nI j1 ∧ j1 < 1202 ∧ ∃ j2 : Nat, x1 = nI j2 ∧ j2 < 1202 ∧ Q (up1 (up1 (up1 (up1 w 60 j1 (nI 0)) 61 j2 (w.1 58 3)) 58 7 (nI 0)) 58 8 (nI 0))) ∧ (¬ (w.1 58 3) ≤ x2 → ∃ j3 : Nat, x2 = nI j3 ∧ j3 < 1200 ∧ (((w.1 59 j3) = (nI 10) → Z m_M_cutAll (d + 1) (qV Q) 17 [(0, .ref 58), (1, .int x1), (2, .int (x2 + nI 1))] [] w) ∧ (¬ (w.1 59 j3) = (nI 10) → ((¬ (w.1 59 j3) = (nI 32) → ∃ j4 : Nat, x1 = nI j4 ∧ j4 < 1202 ∧ ∃ Q1 : Int32 → Wd → Prop, EvI m_M_isLetter d [.int (w.1 59 j3)] (up1 w 61 j4 x2) Q1 ∧ ∀ (r1 : Int32) (w1 : Wd), Q1 r1 w1 → ((r1 = 0 → ∃ Q2 : Int32 → Wd → Prop, EvI m_M_isDigit d [.int (w.1 59 j3)] w1 Q2 ∧ ∀ (r2 : Int32) (w2 : Wd), Q2 r2 w2 → ((r2 = 0 → ∃ Q3 : Int32 → Wd → Prop, EvI m_M_isSignOf d [.int (w.1 59 j3)] w2 Q3 ∧ ∀ (r3 : Int32) (w3 : Wd), Q3 r3 w3 → ((r3 = 0 → ∃ j5 : Nat, x1 = nI j5 ∧ j5 < 1202 ∧ ∃ j6 : Nat, x1 = nI j6 ∧ j6 < 1202 ∧ Z m_M_cutAll (d + 1) (qV Q) 17 [(0, .ref 58), (1, .int (x1 + nI 1)), (2, .int (x2 + nI 1))] [] (up2 (up1 w3 60 j5 (nI 4)) 62 j6 ((w.1 59 j3).toInt64))) ∧ (¬ r3 = 0 → ∃ j7 : Nat, x1 = nI j7 ∧ j7 < 1202 ∧ ∃ j8 : Nat, x1 = nI j8 ∧ j8 < 1202 ∧ Z m_M_cutAll (d + 1) (qV Q) 17 [(0, .ref 58), (1, .int (x1 + nI 1)), (2, .int (x2 + nI 1))] [] (up2 (up1 w3 60 j7 (nI 3)) 62 j8 ((w.1 59 j3).toInt64))))) ∧ (¬ r2 = 0 → Z m_M_cutAll (d + 1) (qV Q) 159 [(0, .ref 58), (1, .int x1), (2, .int x2), (3, .int (w.1 59 j3)), (4, .int x2), (5, .long (lN 0))] [] w2))) ∧ (¬ r1 = 0 → Z m_M_cutAll (d + 1) (qV Q) 70 [(0, .ref 58), (1, .int x1), (2, .int x2), (3, .int (w.1 59 j3)), (4, .int x2), (5, .long (lN 0))] [] w1))) ∧ ((w.1 59 j3) = (nI 32) → Z m_M_cutAll (d + 1) (qV Q) 17 [(0, .ref 58), (1, .int x1), (2, .int (x2 + nI 1))] [] w))))))) : Z m_M_cutAll (d + 1) (qV Q) 17 [(0, .ref 58), (1, .int x1), (2, .int x2)] [] w := wp_ok (P := P_M_cutAll) (S := S_M_cutAll) rfl pr_M_cutAll 51 _ _ _ _ h
set_option maxRecDepth 20000 in
set_option maxHeartbeats 1000000 in
theorem vc_M_cutAll_70 {d : Nat} {w : Wd} {Q : Wd → Prop} (x1 : Int32) (x2 : Int32) (x3 : Int32) (x4 : Int32) (x5 : Int64) (h : (((w.1 58 3) ≤ x2 → (((x2 - x4) ≤ (nI 8) → ∃ j1 : Nat, x1 = nI j1 ∧ j1 < 1202 ∧ ∃ j2 : Nat, x1 = nI j2 ∧ j2 < 1202 ∧ Z m_M_cutAll (d + 1) (qV Q) 17 [(0, .ref 58), (1, .int (x1 + nI 1)), (2, .int x2)] [] (up2 (up1 w 60 j1 (nI 1)) 62 j2 x5)) ∧ (¬ (x2 - x4) ≤ (nI 8) → ∃ j3 : Nat, x1 = nI j3 ∧ j3 < 1202 ∧ ∃ j4 : Nat, x1 = nI j4 ∧ j4 < 1202 ∧ Z m_M_cutAll (d + 1) (qV Q) 17 [(0, .ref 58), (1, .int (x1 + nI 1)), (2, .int x2)] [] (up2 (up1 w 60 j3 (nI 4)) 62 j4 x5)))) ∧ (¬ (w.1 58 3) ≤ x2 → ∃ j5 : Nat, x2 = nI j5 ∧ j5 < 1200 ∧ ∃ Q1 : Int32 → Wd → Prop, EvI m_M_isLetter d [.int (w.1 59 j5)] w Q1 ∧ ∀ (r1 : Int32) (w1 : Wd), Q1 r1 w1 → ((r1 = 0 → (((x2 - x4) ≤ (nI 8) → ∃ j6 : Nat, x1 = nI j6 ∧ j6 < 1202 ∧ ∃ j7 : Nat, x1 = nI j7 ∧ j7 < 1202 ∧ Z m_M_cutAll (d + 1) (qV Q) 17 [(0, .ref 58), (1, .int (x1 + nI 1)), (2, .int x2)] [] (up2 (up1 w1 60 j6 (nI 1)) 62 j7 x5)) ∧ (¬ (x2 - x4) ≤ (nI 8) → ∃ j8 : Nat, x1 = nI j8 ∧ j8 < 1202 ∧ ∃ j9 : Nat, x1 = nI j9 ∧ j9 < 1202 ∧ Z m_M_cutAll (d + 1) (qV Q) 17 [(0, .ref 58), (1, .int (x1 + nI 1)), (2, .int x2)] [] (up2 (up1 w1 60 j8 (nI 4)) 62 j9 x5)))) ∧ (¬ r1 = 0 → (((nI 8) ≤ (x2 - x4) → Z m_M_cutAll (d + 1) (qV Q) 70 [(0, .ref 58), (1, .int x1), (2, .int (x2 + nI 1)), (3, .int x3), (4, .int x4), (5, .long x5)] [] w1) ∧ (¬ (nI 8) ≤ (x2 - x4) → ∃ j10 : Nat, x2 = nI j10 ∧ j10 < 1200 ∧ ∃ Q2 : Int32 → Wd → Prop, EvI m_M_rank d [.int (w1.1 59 j10)] w1 Q2 ∧ ∀ (r2 : Int32) (w2 : Wd), Q2 r2 w2 → Z m_M_cutAll (d + 1) (qV Q) 70 [(0, .ref 58), (1, .int x1), (2, .int (x2 + nI 1)), (3, .int x3), (4, .int x4), (5, .long (((37 : Int64) * x5) + (r2.toInt64)))] [] w2))))))) : Z m_M_cutAll (d + 1) (qV Q) 70 [(0, .ref 58), (1, .int x1), (2, .int x2), (3, .int x3), (4, .int x4), (5, .long x5)] [] w := wp_ok (P := P_M_cutAll) (S := S_M_cutAll) rfl pr_M_cutAll 30 _ _ _ _ h
set_option maxRecDepth 20000 in
set_option maxHeartbeats 1000000 in
theorem vc_M_cutAll_159 {d : Nat} {w : Wd} {Q : Wd → Prop} (x1 : Int32) (x2 : Int32) (x3 : Int32) (x4 : Int32) (x5 : Int64) (h : (((w.1 58 3) ≤ x2 → (((x2 - x4) ≤ (nI 4) → ∃ j1 : Nat, x1 = nI j1 ∧ j1 < 1202 ∧ ∃ j2 : Nat, x1 = nI j2 ∧ j2 < 1202 ∧ Z m_M_cutAll (d + 1) (qV Q) 17 [(0, .ref 58), (1, .int (x1 + nI 1)), (2, .int x2)] [] (up2 (up1 w 60 j1 (nI 2)) 62 j2 x5)) ∧ (¬ (x2 - x4) ≤ (nI 4) → ∃ j3 : Nat, x1 = nI j3 ∧ j3 < 1202 ∧ ∃ j4 : Nat, x1 = nI j4 ∧ j4 < 1202 ∧ Z m_M_cutAll (d + 1) (qV Q) 17 [(0, .ref 58), (1, .int (x1 + nI 1)), (2, .int x2)] [] (up2 (up1 w 60 j3 (nI 4)) 62 j4 x5)))) ∧ (¬ (w.1 58 3) ≤ x2 → ∃ j5 : Nat, x2 = nI j5 ∧ j5 < 1200 ∧ ∃ Q1 : Int32 → Wd → Prop, EvI m_M_isDigit d [.int (w.1 59 j5)] w Q1 ∧ ∀ (r1 : Int32) (w1 : Wd), Q1 r1 w1 → ((r1 = 0 → (((x2 - x4) ≤ (nI 4) → ∃ j6 : Nat, x1 = nI j6 ∧ j6 < 1202 ∧ ∃ j7 : Nat, x1 = nI j7 ∧ j7 < 1202 ∧ Z m_M_cutAll (d + 1) (qV Q) 17 [(0, .ref 58), (1, .int (x1 + nI 1)), (2, .int x2)] [] (up2 (up1 w1 60 j6 (nI 2)) 62 j7 x5)) ∧ (¬ (x2 - x4) ≤ (nI 4) → ∃ j8 : Nat, x1 = nI j8 ∧ j8 < 1202 ∧ ∃ j9 : Nat, x1 = nI j9 ∧ j9 < 1202 ∧ Z m_M_cutAll (d + 1) (qV Q) 17 [(0, .ref 58), (1, .int (x1 + nI 1)), (2, .int x2)] [] (up2 (up1 w1 60 j8 (nI 4)) 62 j9 x5)))) ∧ (¬ r1 = 0 → (((nI 4) ≤ (x2 - x4) → Z m_M_cutAll (d + 1) (qV Q) 159 [(0, .ref 58), (1, .int x1), (2, .int (x2 + nI 1)), (3, .int x3), (4, .int x4), (5, .long x5)] [] w1) ∧ (¬ (nI 4) ≤ (x2 - x4) → ∃ j10 : Nat, x2 = nI j10 ∧ j10 < 1200 ∧ Z m_M_cutAll (d + 1) (qV Q) 159 [(0, .ref 58), (1, .int x1), (2, .int (x2 + nI 1)), (3, .int x3), (4, .int x4), (5, .long ((((10 : Int64) * x5) + ((w1.1 59 j10).toInt64)) - (48 : Int64)))] [] w1))))))) : Z m_M_cutAll (d + 1) (qV Q) 159 [(0, .ref 58), (1, .int x1), (2, .int x2), (3, .int x3), (4, .int x4), (5, .long x5)] [] w := wp_ok (P := P_M_cutAll) (S := S_M_cutAll) rfl pr_M_cutAll 31 _ _ _ _ h
def P_M_wrong : Prog := [(0, .aload_n 0), (1, .getfield 183), (4, .ifCond .ne 21), (7, .aload_n 0), (8, .iload_n 1), (9, .bipush 16), (11, .aload_n 0), (12, .getfield 27), (15, .aload_n 0), (16, .getfield 180), (19, .iaload), (20, .imul), (21, .iadd), (22, .putfield 183), (25, .return_)]
theorem pr_M_wrong : prOK m_M_wrong P_M_wrong = true := by decide +kernel
def S_M_wrong : List (Nat × List Nat) := []
theorem ev_M_wrong {d : Nat} {w : Wd} {Q : Wd → Prop} (x1 : Int32) (h : Z m_M_wrong d (qV Q) 0 [(0, .ref 58), (1, .int x1)] [] w) : EvV m_M_wrong d [.ref 58, .int x1] w Q := Ev.ofZ (by decide +kernel) (Nat.le_of_ble_eq_true rfl) h
set_option maxRecDepth 20000 in
set_option maxHeartbeats 1000000 in
theorem vc_M_wrong_0 {d : Nat} {w : Wd} {Q : Wd → Prop} (x1 : Int32) (h : ((¬ (w.1 58 8) = 0 → Q w) ∧ ((w.1 58 8) = 0 → ∃ j1 : Nat, (w.1 58 7) = nI j1 ∧ j1 < 1202 ∧ Q (up1 w 58 8 (x1 + ((nI 16) * (w.1 61 j1))))))) : Z m_M_wrong d (qV Q) 0 [(0, .ref 58), (1, .int x1)] [] w := wp_ok (P := P_M_wrong) (S := S_M_wrong) rfl pr_M_wrong 16 _ _ _ _ h
def P_M_isSign : Prog := [(0, .aload_n 0), (1, .getfield 183), (4, .ifCond .ne 35), (7, .aload_n 0), (8, .getfield 24), (11, .aload_n 0), (12, .getfield 180), (15, .iaload), (16, .iconst 3), (17, .if_icmp .ne 22), (20, .aload_n 0), (21, .getfield 30), (24, .aload_n 0), (25, .getfield 180), (28, .laload), (29, .iload_n 1), (30, .i2l), (31, .lcmp), (32, .ifCond .ne 7), (35, .iconst 1), (36, .goto 4), (39, .iconst 0), (40, .ireturn)]
theorem pr_M_isSign : prOK m_M_isSign P_M_isSign = true := by decide +kernel
def S_M_isSign : List (Nat × List Nat) := []
theorem ev_M_isSign {d : Nat} {w : Wd} {Q : Int32 → Wd → Prop} (x1 : Int32) (h : Z m_M_isSign d (qI Q) 0 [(0, .ref 58), (1, .int x1)] [] w) : EvI m_M_isSign d [.ref 58, .int x1] w Q := Ev.ofZ (by decide +kernel) (Nat.le_of_ble_eq_true rfl) h
set_option maxRecDepth 20000 in
set_option maxHeartbeats 1000000 in
theorem vc_M_isSign_0 {d : Nat} {w : Wd} {Q : Int32 → Wd → Prop} (x1 : Int32) (h : ((¬ (w.1 58 8) = 0 → ((nI 0) = 0 ∨ (nI 0) = 1) ∧ Q (nI 0) w) ∧ ((w.1 58 8) = 0 → ∃ j1 : Nat, (w.1 58 7) = nI j1 ∧ j1 < 1202 ∧ ((¬ (w.1 60 j1) = (nI 3) → ((nI 0) = 0 ∨ (nI 0) = 1) ∧ Q (nI 0) w) ∧ ((w.1 60 j1) = (nI 3) → ∃ j2 : Nat, (w.1 58 7) = nI j2 ∧ j2 < 1202 ∧ ((¬ (lg_cmp (w.2 62 j2) (x1.toInt64)) = 0 → ((nI 0) = 0 ∨ (nI 0) = 1) ∧ Q (nI 0) w) ∧ ((lg_cmp (w.2 62 j2) (x1.toInt64)) = 0 → ((nI 1) = 0 ∨ (nI 1) = 1) ∧ Q (nI 1) w))))))) : Z m_M_isSign d (qI Q) 0 [(0, .ref 58), (1, .int x1)] [] w := wp_ok (P := P_M_isSign) (S := S_M_isSign) rfl pr_M_isSign 23 _ _ _ _ h
def P_M_isWord : Prog := [(0, .aload_n 0), (1, .getfield 183), (4, .ifCond .ne 39), (7, .aload_n 0), (8, .getfield 24), (11, .aload_n 0), (12, .getfield 180), (15, .iaload), (16, .iconst 1), (17, .if_icmp .ne 26), (20, .aload_n 0), (21, .getfield 30), (24, .aload_n 0), (25, .getfield 180), (28, .laload), (29, .aload_n 0), (30, .getfield 54), (33, .iload_n 1), (34, .laload), (35, .lcmp), (36, .ifCond .ne 7), (39, .iconst 1), (40, .goto 4), (43, .iconst 0), (44, .ireturn)]
theorem pr_M_isWord : prOK m_M_isWord P_M_isWord = true := by decide +kernel
def S_M_isWord : List (Nat × List Nat) := []
theorem ev_M_isWord {d : Nat} {w : Wd} {Q : Int32 → Wd → Prop} (x1 : Int32) (h : Z m_M_isWord d (qI Q) 0 [(0, .ref 58), (1, .int x1)] [] w) : EvI m_M_isWord d [.ref 58, .int x1] w Q := Ev.ofZ (by decide +kernel) (Nat.le_of_ble_eq_true rfl) h
set_option maxRecDepth 20000 in
set_option maxHeartbeats 1000000 in
theorem vc_M_isWord_0 {d : Nat} {w : Wd} {Q : Int32 → Wd → Prop} (x1 : Int32) (h : ((¬ (w.1 58 8) = 0 → ((nI 0) = 0 ∨ (nI 0) = 1) ∧ Q (nI 0) w) ∧ ((w.1 58 8) = 0 → ∃ j1 : Nat, (w.1 58 7) = nI j1 ∧ j1 < 1202 ∧ ((¬ (w.1 60 j1) = (nI 1) → ((nI 0) = 0 ∨ (nI 0) = 1) ∧ Q (nI 0) w) ∧ ((w.1 60 j1) = (nI 1) → ∃ j2 : Nat, (w.1 58 7) = nI j2 ∧ j2 < 1202 ∧ ∃ j3 : Nat, x1 = nI j3 ∧ j3 < 10 ∧ ((¬ (lg_cmp (w.2 62 j2) (w.2 63 j3)) = 0 → ((nI 0) = 0 ∨ (nI 0) = 1) ∧ Q (nI 0) w) ∧ ((lg_cmp (w.2 62 j2) (w.2 63 j3)) = 0 → ((nI 1) = 0 ∨ (nI 1) = 1) ∧ Q (nI 1) w))))))) : Z m_M_isWord d (qI Q) 0 [(0, .ref 58), (1, .int x1)] [] w := wp_ok (P := P_M_isWord) (S := S_M_isWord) rfl pr_M_isWord 25 _ _ _ _ h
def P_M_takeSign : Prog := [(0, .aload_n 0), (1, .iload_n 1), (2, .invokevirtual 186), (5, .ifCond .eq 16), (8, .aload_n 0), (9, .dup), (10, .getfield 180), (13, .iconst 1), (14, .iadd), (15, .putfield 180), (18, .goto 8), (21, .aload_n 0), (22, .iconst 1), (23, .invokevirtual 189), (26, .return_)]
theorem pr_M_takeSign : prOK m_M_takeSign P_M_takeSign = true := by decide +kernel
def S_M_takeSign : List (Nat × List Nat) := []
theorem ev_M_takeSign {d : Nat} {w : Wd} {Q : Wd → Prop} (x1 : Int32) (h : Z m_M_takeSign d (qV Q) 0 [(0, .ref 58), (1, .int x1)] [] w) : EvV m_M_takeSign d [.ref 58, .int x1] w Q := Ev.ofZ (by decide +kernel) (Nat.le_of_ble_eq_true rfl) h
set_option maxRecDepth 20000 in
set_option maxHeartbeats 1000000 in
theorem vc_M_takeSign_0 {d : Nat} {w : Wd} {Q : Wd → Prop} (x1 : Int32) (h : ∃ Q1 : Int32 → Wd → Prop, EvI m_M_isSign d [.ref 58, .int x1] w Q1 ∧ ∀ (r1 : Int32) (w1 : Wd), Q1 r1 w1 → ((r1 = 0 → ∃ Q2 : Wd → Prop, EvV m_M_wrong d [.ref 58, .int (nI 1)] w1 Q2 ∧ ∀ w2 : Wd, Q2 w2 → Q w2) ∧ (¬ r1 = 0 → Q (up1 w1 58 7 ((w1.1 58 7) + (nI 1)))))) : Z m_M_takeSign (d + 1) (qV Q) 0 [(0, .ref 58), (1, .int x1)] [] w := wp_ok (P := P_M_takeSign) (S := S_M_takeSign) rfl pr_M_takeSign 13 _ _ _ _ h
def P_M_hasWord : Prog := [(0, .aload_n 0), (1, .iload_n 1), (2, .invokevirtual 193), (5, .istore_n 2), (6, .aload_n 0), (7, .dup), (8, .getfield 180), (11, .iload_n 2), (12, .ifCond .eq 7), (15, .iconst 1), (16, .goto 4), (19, .iconst 0), (20, .iadd), (21, .putfield 180), (24, .iload_n 2), (25, .ireturn)]
theorem pr_M_hasWord : prOK m_M_hasWord P_M_hasWord = true := by decide +kernel
def S_M_hasWord : List (Nat × List Nat) := []
theorem ev_M_hasWord {d : Nat} {w : Wd} {Q : Int32 → Wd → Prop} (x1 : Int32) (h : Z m_M_hasWord d (qI Q) 0 [(0, .ref 58), (1, .int x1)] [] w) : EvI m_M_hasWord d [.ref 58, .int x1] w Q := Ev.ofZ (by decide +kernel) (Nat.le_of_ble_eq_true rfl) h
set_option maxRecDepth 20000 in
set_option maxHeartbeats 1000000 in
theorem vc_M_hasWord_0 {d : Nat} {w : Wd} {Q : Int32 → Wd → Prop} (x1 : Int32) (h : ∃ Q1 : Int32 → Wd → Prop, EvI m_M_isWord d [.ref 58, .int x1] w Q1 ∧ ∀ (r1 : Int32) (w1 : Wd), Q1 r1 w1 → ((r1 = 0 → (r1 = 0 ∨ r1 = 1) ∧ Q r1 (up1 w1 58 7 ((w1.1 58 7) + (nI 0)))) ∧ (¬ r1 = 0 → (r1 = 0 ∨ r1 = 1) ∧ Q r1 (up1 w1 58 7 ((w1.1 58 7) + (nI 1)))))) : Z m_M_hasWord (d + 1) (qI Q) 0 [(0, .ref 58), (1, .int x1)] [] w := wp_ok (P := P_M_hasWord) (S := S_M_hasWord) rfl pr_M_hasWord 16 _ _ _ _ h
def P_M_takeWord : Prog := [(0, .aload_n 0), (1, .iload_n 1), (2, .invokevirtual 196), (5, .ifCond .ne 8), (8, .aload_n 0), (9, .iconst 1), (10, .invokevirtual 189), (13, .return_)]
theorem pr_M_takeWord : prOK m_M_takeWord P_M_takeWord = true := by decide +kernel
def S_M_takeWord : List (Nat × List Nat) := []
theorem ev_M_takeWord {d : Nat} {w : Wd} {Q : Wd → Prop} (x1 : Int32) (h : Z m_M_takeWord d (qV Q) 0 [(0, .ref 58), (1, .int x1)] [] w) : EvV m_M_takeWord d [.ref 58, .int x1] w Q := Ev.ofZ (by decide +kernel) (Nat.le_of_ble_eq_true rfl) h
set_option maxRecDepth 20000 in
set_option maxHeartbeats 1000000 in
theorem vc_M_takeWord_0 {d : Nat} {w : Wd} {Q : Wd → Prop} (x1 : Int32) (h : ∃ Q1 : Int32 → Wd → Prop, EvI m_M_hasWord d [.ref 58, .int x1] w Q1 ∧ ∀ (r1 : Int32) (w1 : Wd), Q1 r1 w1 → ((¬ r1 = 0 → Q w1) ∧ (r1 = 0 → ∃ Q2 : Wd → Prop, EvV m_M_wrong d [.ref 58, .int (nI 1)] w1 Q2 ∧ ∀ w2 : Wd, Q2 w2 → Q w2))) : Z m_M_takeWord (d + 1) (qV Q) 0 [(0, .ref 58), (1, .int x1)] [] w := wp_ok (P := P_M_takeWord) (S := S_M_takeWord) rfl pr_M_takeWord 9 _ _ _ _ h
def P_M_takeNumber : Prog := [(0, .aload_n 0), (1, .getfield 183), (4, .ifCond .ne 24), (7, .aload_n 0), (8, .getfield 24), (11, .aload_n 0), (12, .getfield 180), (15, .iaload), (16, .iconst 2), (17, .if_icmp .eq 11), (20, .aload_n 0), (21, .iconst 1), (22, .invokevirtual 189), (25, .goto 45), (28, .aload_n 0), (29, .getfield 183), (32, .ifCond .ne 38), (35, .aload_n 0), (36, .getfield 30), (39, .aload_n 0), (40, .getfield 180), (43, .laload), (44, .iload_n 1), (45, .i2l), (46, .lcmp), (47, .ifCond .lt 18), (50, .aload_n 0), (51, .getfield 30), (54, .aload_n 0), (55, .getfield 180), (58, .laload), (59, .iload_n 2), (60, .i2l), (61, .lcmp), (62, .ifCond .le 8), (65, .aload_n 0), (66, .iconst 4), (67, .invokevirtual 189), (70, .aload_n 0), (71, .dup), (72, .getfield 180), (75, .iconst 1), (76, .iadd), (77, .putfield 180), (80, .aload_n 0), (81, .getfield 183), (84, .ifCond .le 7), (87, .iconst 0), (88, .goto 15), (91, .aload_n 0), (92, .getfield 30), (95, .aload_n 0), (96, .getfield 180), (99, .iconst 1), (100, .isub), (101, .laload), (102, .l2i), (103, .ireturn)]
theorem pr_M_takeNumber : prOK m_M_takeNumber P_M_takeNumber = true := by decide +kernel
def S_M_takeNumber : List (Nat × List Nat) := []
theorem ev_M_takeNumber {d : Nat} {w : Wd} {Q : Int32 → Wd → Prop} (x1 : Int32) (x2 : Int32) (h : Z m_M_takeNumber d (qI Q) 0 [(0, .ref 58), (1, .int x1), (2, .int x2)] [] w) : EvI m_M_takeNumber d [.ref 58, .int x1, .int x2] w Q := Ev.ofZ (by decide +kernel) (Nat.le_of_ble_eq_true rfl) h
set_option maxRecDepth 20000 in
set_option maxHeartbeats 1000000 in
theorem vc_M_takeNumber_0 {d : Nat} {w : Wd} {Q : Int32 → Wd → Prop} (x1 : Int32) (x2 : Int32) (h : ((¬ (w.1 58 8) = 0 → ((¬ (w.1 58 8) = 0 → (((w.1 58 8) ≤ 0 → ∃ j1 : Nat, (((w.1 58 7) + (nI 1)) - (nI 1)) = nI j1 ∧ j1 < 1202 ∧ Q ((w.2 62 j1).toInt32) (up1 w 58 7 ((w.1 58 7) + (nI 1)))) ∧ (¬ (w.1 58 8) ≤ 0 → Q (nI 0) (up1 w 58 7 ((w.1 58 7) + (nI 1)))))) ∧ ((w.1 58 8) = 0 → ∃ j2 : Nat, (w.1 58 7) = nI j2 ∧ j2 < 1202 ∧ (((lg_cmp (w.2 62 j2) (x1.toInt64)) < 0 → ∃ Q1 : Wd → Prop, EvV m_M_wrong d [.ref 58, .int (nI 4)] w Q1 ∧ ∀ w1 : Wd, Q1 w1 → (((w1.1 58 8) ≤ 0 → ∃ j3 : Nat, (((w1.1 58 7) + (nI 1)) - (nI 1)) = nI j3 ∧ j3 < 1202 ∧ Q ((w1.2 62 j3).toInt32) (up1 w1 58 7 ((w1.1 58 7) + (nI 1)))) ∧ (¬ (w1.1 58 8) ≤ 0 → Q (nI 0) (up1 w1 58 7 ((w1.1 58 7) + (nI 1)))))) ∧ (¬ (lg_cmp (w.2 62 j2) (x1.toInt64)) < 0 → ∃ j4 : Nat, (w.1 58 7) = nI j4 ∧ j4 < 1202 ∧ (((lg_cmp (w.2 62 j4) (x2.toInt64)) ≤ 0 → (((w.1 58 8) ≤ 0 → ∃ j5 : Nat, (((w.1 58 7) + (nI 1)) - (nI 1)) = nI j5 ∧ j5 < 1202 ∧ Q ((w.2 62 j5).toInt32) (up1 w 58 7 ((w.1 58 7) + (nI 1)))) ∧ (¬ (w.1 58 8) ≤ 0 → Q (nI 0) (up1 w 58 7 ((w.1 58 7) + (nI 1)))))) ∧ (¬ (lg_cmp (w.2 62 j4) (x2.toInt64)) ≤ 0 → ∃ Q2 : Wd → Prop, EvV m_M_wrong d [.ref 58, .int (nI 4)] w Q2 ∧ ∀ w2 : Wd, Q2 w2 → (((w2.1 58 8) ≤ 0 → ∃ j6 : Nat, (((w2.1 58 7) + (nI 1)) - (nI 1)) = nI j6 ∧ j6 < 1202 ∧ Q ((w2.2 62 j6).toInt32) (up1 w2 58 7 ((w2.1 58 7) + (nI 1)))) ∧ (¬ (w2.1 58 8) ≤ 0 → Q (nI 0) (up1 w2 58 7 ((w2.1 58 7) + (nI 1)))))))))))) ∧ ((w.1 58 8) = 0 → ∃ j7 : Nat, (w.1 58 7) = nI j7 ∧ j7 < 1202 ∧ (((w.1 60 j7) = (nI 2) → ((¬ (w.1 58 8) = 0 → (((w.1 58 8) ≤ 0 → ∃ j8 : Nat, (((w.1 58 7) + (nI 1)) - (nI 1)) = nI j8 ∧ j8 < 1202 ∧ Q ((w.2 62 j8).toInt32) (up1 w 58 7 ((w.1 58 7) + (nI 1)))) ∧ (¬ (w.1 58 8) ≤ 0 → Q (nI 0) (up1 w 58 7 ((w.1 58 7) + (nI 1)))))) ∧ ((w.1 58 8) = 0 → ∃ j9 : Nat, (w.1 58 7) = nI j9 ∧ j9 < 1202 ∧ (((lg_cmp (w.2 62 j9) (x1.toInt64)) < 0 → ∃ Q3 : Wd → Prop, EvV m_M_wrong d [.ref 58, .int (nI 4)] w Q3 ∧ ∀ w3 : Wd, Q3 w3 → (((w3.1 58 8) ≤ 0 → ∃ j10 : Nat, (((w3.1 58 7) + (nI 1)) - (nI 1)) = nI j10 ∧ j10 < 1202 ∧ Q ((w3.2 62 j10).toInt32) (up1 w3 58 7 ((w3.1 58 7) + (nI 1)))) ∧ (¬ (w3.1 58 8) ≤ 0 → Q (nI 0) (up1 w3 58 7 ((w3.1 58 7) + (nI 1)))))) ∧ (¬ (lg_cmp (w.2 62 j9) (x1.toInt64)) < 0 → ∃ j11 : Nat, (w.1 58 7) = nI j11 ∧ j11 < 1202 ∧ (((lg_cmp (w.2 62 j11) (x2.toInt64)) ≤ 0 → (((w.1 58 8) ≤ 0 → ∃ j12 : Nat, (((w.1 58 7) + (nI 1)) - (nI 1)) = nI j12 ∧ j12 < 1202 ∧ Q ((w.2 62 j12).toInt32) (up1 w 58 7 ((w.1 58 7) + (nI 1)))) ∧ (¬ (w.1 58 8) ≤ 0 → Q (nI 0) (up1 w 58 7 ((w.1 58 7) + (nI 1)))))) ∧ (¬ (lg_cmp (w.2 62 j11) (x2.toInt64)) ≤ 0 → ∃ Q4 : Wd → Prop, EvV m_M_wrong d [.ref 58, .int (nI 4)] w Q4 ∧ ∀ w4 : Wd, Q4 w4 → (((w4.1 58 8) ≤ 0 → ∃ j13 : Nat, (((w4.1 58 7) + (nI 1)) - (nI 1)) = nI j13 ∧ j13 < 1202 ∧ Q ((w4.2 62 j13).toInt32) (up1 w4 58 7 ((w4.1 58 7) + (nI 1)))) ∧ (¬ (w4.1 58 8) ≤ 0 → Q (nI 0) (up1 w4 58 7 ((w4.1 58 7) + (nI 1)))))))))))) ∧ (¬ (w.1 60 j7) = (nI 2) → ∃ Q5 : Wd → Prop, EvV m_M_wrong d [.ref 58, .int (nI 1)] w Q5 ∧ ∀ w5 : Wd, Q5 w5 → (((w5.1 58 8) ≤ 0 → ∃ j14 : Nat, (((w5.1 58 7) + (nI 1)) - (nI 1)) = nI j14 ∧ j14 < 1202 ∧ Q ((w5.2 62 j14).toInt32) (up1 w5 58 7 ((w5.1 58 7) + (nI 1)))) ∧ (¬ (w5.1 58 8) ≤ 0 → Q (nI 0) (up1 w5 58 7 ((w5.1 58 7) + (nI 1)))))))))) : Z m_M_takeNumber (d + 1) (qI Q) 0 [(0, .ref 58), (1, .int x1), (2, .int x2)] [] w := wp_ok (P := P_M_takeNumber) (S := S_M_takeNumber) rfl pr_M_takeNumber 53 _ _ _ _ h
def P_M_text : Prog := [(0, .aload_n 0), (1, .iconst 0), (2, .putfield 1), (5, .aload_n 0), (6, .invokevirtual 199), (9, .aload_n 0), (10, .iconst 1), (11, .aload_n 0), (12, .getfield 202), (15, .isub), (16, .putfield 205), (19, .aload_n 0), (20, .getfield 57), (23, .aload_n 0), (24, .getfield 205), (27, .iconst 0), (28, .iastore), (29, .aload_n 0), (30, .getfield 79), (33, .aload_n 0), (34, .getfield 205), (37, .iconst 0), (38, .iastore), (39, .aload_n 0), (40, .getfield 85), (43, .aload_n 0), (44, .getfield 205), (47, .iconst 0), (48, .iastore), (49, .iconst 0), (50, .istore_n 1), (51, .iload_n 1), (52, .bipush 10), (54, .if_icmp .ge 24), (57, .aload_n 0), (58, .getfield 91), (61, .bipush 10), (63, .aload_n 0), (64, .getfield 205), (67, .imul), (68, .iload_n 1), (69, .iadd), (70, .iconst 0), (71, .bastore), (72, .iinc 1 1), (75, .goto (-24)), (78, .aload_n 0), (79, .getfield 183), (82, .ifCond .ne 22), (85, .aload_n 0), (86, .getfield 24), (89, .aload_n 0), (90, .getfield 180), (93, .iaload), (94, .ifCond .eq 10), (97, .aload_n 0), (98, .invokevirtual 208), (101, .goto (-23)), (104, .aload_n 0), (105, .getfield 183), (108, .ifCond .ne 16), (111, .aload_n 0), (112, .aload_n 0), (113, .getfield 205), (116, .putfield 202), (119, .aload_n 0), (120, .iconst 1), (121, .putfield 112), (124, .aload_n 0), (125, .getfield 183), (128, .ireturn)]
theorem pr_M_text : prOK m_M_text P_M_text = true := by decide +kernel
def S_M_text : List (Nat × List Nat) := [(51, [0, 1]), (78, [0, 1])]
theorem ev_M_text {d : Nat} {w : Wd} {Q : Int32 → Wd → Prop}  (h : Z m_M_text d (qI Q) 0 [(0, .ref 58)] [] w) : EvI m_M_text d [.ref 58] w Q := Ev.ofZ (by decide +kernel) (Nat.le_of_ble_eq_true rfl) h
set_option maxRecDepth 20000 in
set_option maxHeartbeats 1000000 in
theorem vc_M_text_0 {d : Nat} {w : Wd} {Q : Int32 → Wd → Prop}  (h : ∃ Q1 : Wd → Prop, EvV m_M_cutAll d [.ref 58] (up1 w 58 0 (nI 0)) Q1 ∧ ∀ w1 : Wd, Q1 w1 → ∃ j1 : Nat, ((nI 1) - (w1.1 58 10)) = nI j1 ∧ j1 < 2 ∧ ∃ j2 : Nat, ((nI 1) - (w1.1 58 10)) = nI j2 ∧ j2 < 2 ∧ ∃ j3 : Nat, ((nI 1) - (w1.1 58 10)) = nI j3 ∧ j3 < 2 ∧ Z m_M_text (d + 1) (qI Q) 51 [(0, .ref 58), (1, .int (nI 0))] [] (up1 (up1 (up1 (up1 w1 58 11 ((nI 1) - (w1.1 58 10))) 64 j1 (nI 0)) 71 j2 (nI 0)) 73 j3 (nI 0))) : Z m_M_text (d + 1) (qI Q) 0 [(0, .ref 58)] [] w := wp_ok (P := P_M_text) (S := S_M_text) rfl pr_M_text 32 _ _ _ _ h
set_option maxRecDepth 20000 in
set_option maxHeartbeats 1000000 in
theorem vc_M_text_51 {d : Nat} {w : Wd} {Q : Int32 → Wd → Prop} (x1 : Int32) (h : (((nI 10) ≤ x1 → Z m_M_text (d + 1) (qI Q) 78 [(0, .ref 58), (1, .int x1)] [] w) ∧ (¬ (nI 10) ≤ x1 → ∃ j1 : Nat, (((nI 10) * (w.1 58 11)) + x1) = nI j1 ∧ j1 < 20 ∧ ((nI 0) = 0 ∨ (nI 0) = 1) ∧ Z m_M_text (d + 1) (qI Q) 51 [(0, .ref 58), (1, .int (x1 + nI 1))] [] (up1 w 75 j1 (nI 0))))) : Z m_M_text (d + 1) (qI Q) 51 [(0, .ref 58), (1, .int x1)] [] w := wp_ok (P := P_M_text) (S := S_M_text) rfl pr_M_text 16 _ _ _ _ h
set_option maxRecDepth 20000 in
set_option maxHeartbeats 1000000 in
theorem vc_M_text_78 {d : Nat} {w : Wd} {Q : Int32 → Wd → Prop} (x1 : Int32) (h : ((¬ (w.1 58 8) = 0 → ((¬ (w.1 58 8) = 0 → Q (w.1 58 8) w) ∧ ((w.1 58 8) = 0 → ((nI 1) = 0 ∨ (nI 1) = 1) ∧ Q (w.1 58 8) (up1 (up1 w 58 10 (w.1 58 11)) 58 34 (nI 1))))) ∧ ((w.1 58 8) = 0 → ∃ j1 : Nat, (w.1 58 7) = nI j1 ∧ j1 < 1202 ∧ (((w.1 60 j1) = 0 → ((¬ (w.1 58 8) = 0 → Q (w.1 58 8) w) ∧ ((w.1 58 8) = 0 → ((nI 1) = 0 ∨ (nI 1) = 1) ∧ Q (w.1 58 8) (up1 (up1 w 58 10 (w.1 58 11)) 58 34 (nI 1))))) ∧ (¬ (w.1 60 j1) = 0 → ∃ Q1 : Wd → Prop, EvV m_M_statement d [.ref 58] w Q1 ∧ ∀ w1 : Wd, Q1 w1 → Z m_M_text (d + 1) (qI Q) 78 [(0, .ref 58), (1, .int x1)] [] w1))))) : Z m_M_text (d + 1) (qI Q) 78 [(0, .ref 58), (1, .int x1)] [] w := wp_ok (P := P_M_text) (S := S_M_text) rfl pr_M_text 23 _ _ _ _ h
def P_M_statement : Prog := [(0, .aload_n 0), (1, .iconst 0), (2, .invokevirtual 193), (5, .ifCond .eq 10), (8, .aload_n 0), (9, .invokevirtual 211), (12, .goto 152), (15, .aload_n 0), (16, .iconst 1), (17, .invokevirtual 193), (20, .ifCond .eq 84), (23, .aload_n 0), (24, .getfield 79), (27, .aload_n 0), (28, .getfield 205), (31, .iaload), (32, .bipush 10), (34, .if_icmp .ne 9), (37, .aload_n 0), (38, .iconst 5), (39, .invokevirtual 189), (42, .return_), (43, .aload_n 0), (44, .dup), (45, .getfield 180), (48, .iconst 1), (49, .iadd), (50, .putfield 180), (53, .aload_n 0), (54, .getfield 82), (57, .bipush 10), (59, .aload_n 0), (60, .getfield 205), (63, .imul), (64, .aload_n 0), (65, .getfield 79), (68, .aload_n 0), (69, .getfield 205), (72, .iaload), (73, .iadd), (74, .aload_n 0), (75, .iconst 1), (76, .bipush 100), (78, .invokevirtual 214), (81, .iastore), (82, .aload_n 0), (83, .bipush 59), (85, .invokevirtual 218), (88, .aload_n 0), (89, .getfield 79), (92, .aload_n 0), (93, .getfield 205), (96, .dup2), (97, .iaload), (98, .iconst 1), (99, .iadd), (100, .iastore), (101, .goto 63), (104, .aload_n 0), (105, .iconst 2), (106, .invokevirtual 193), (109, .ifCond .eq 10), (112, .aload_n 0), (113, .invokevirtual 221), (116, .goto 48), (119, .aload_n 0), (120, .iconst 3), (121, .invokevirtual 196), (124, .ifCond .eq 35), (127, .aload_n 0), (128, .iconst 0), (129, .bipush 9), (131, .invokevirtual 214), (134, .istore_n 1), (135, .aload_n 0), (136, .bipush 59), (138, .invokevirtual 218), (141, .aload_n 0), (142, .getfield 91), (145, .bipush 10), (147, .aload_n 0), (148, .getfield 205), (151, .imul), (152, .iload_n 1), (153, .iadd), (154, .iconst 1), (155, .bastore), (156, .goto 8), (159, .aload_n 0), (160, .iconst 1), (161, .invokevirtual 189), (164, .return_)]
theorem pr_M_statement : prOK m_M_statement P_M_statement = true := by decide +kernel
def S_M_statement : List (Nat × List Nat) := []
theorem ev_M_statement {d : Nat} {w : Wd} {Q : Wd → Prop}  (h : Z m_M_statement d (qV Q) 0 [(0, .ref 58)] [] w) : EvV m_M_statement d [.ref 58] w Q := Ev.ofZ (by decide +kernel) (Nat.le_of_ble_eq_true rfl) h
set_option maxRecDepth 20000 in
set_option maxHeartbeats 1000000 in
theorem vc_M_statement_0 {d : Nat} {w : Wd} {Q : Wd → Prop}  (h : ∃ Q1 : Int32 → Wd → Prop, EvI m_M_isWord d [.ref 58, .int (nI 0)] w Q1 ∧ ∀ (r1 : Int32) (w1 : Wd), Q1 r1 w1 → ((r1 = 0 → ∃ Q2 : Int32 → Wd → Prop, EvI m_M_isWord d [.ref 58, .int (nI 1)] w1 Q2 ∧ ∀ (r2 : Int32) (w2 : Wd), Q2 r2 w2 → ((r2 = 0 → ∃ Q3 : Int32 → Wd → Prop, EvI m_M_isWord d [.ref 58, .int (nI 2)] w2 Q3 ∧ ∀ (r3 : Int32) (w3 : Wd), Q3 r3 w3 → ((r3 = 0 → ∃ Q4 : Int32 → Wd → Prop, EvI m_M_hasWord d [.ref 58, .int (nI 3)] w3 Q4 ∧ ∀ (r4 : Int32) (w4 : Wd), Q4 r4 w4 → ((r4 = 0 → ∃ Q5 : Wd → Prop, EvV m_M_wrong d [.ref 58, .int (nI 1)] w4 Q5 ∧ ∀ w5 : Wd, Q5 w5 → Q w5) ∧ (¬ r4 = 0 → ∃ Q6 : Int32 → Wd → Prop, EvI m_M_takeNumber d [.ref 58, .int (nI 0), .int (nI 9)] w4 Q6 ∧ ∀ (r6 : Int32) (w6 : Wd), Q6 r6 w6 → ∃ Q7 : Wd → Prop, EvV m_M_takeSign d [.ref 58, .int (nI 59)] w6 Q7 ∧ ∀ w7 : Wd, Q7 w7 → ∃ j1 : Nat, (((nI 10) * (w7.1 58 11)) + r6) = nI j1 ∧ j1 < 20 ∧ ((nI 1) = 0 ∨ (nI 1) = 1) ∧ Q (up1 w7 75 j1 (nI 1))))) ∧ (¬ r3 = 0 → ∃ Q8 : Wd → Prop, EvV m_M_readChain d [.ref 58] w3 Q8 ∧ ∀ w8 : Wd, Q8 w8 → Q w8))) ∧ (¬ r2 = 0 → ∃ j2 : Nat, (w2.1 58 11) = nI j2 ∧ j2 < 2 ∧ ((¬ (w2.1 71 j2) = (nI 10) → ∃ j3 : Nat, (w2.1 58 11) = nI j3 ∧ j3 < 2 ∧ ∃ Q9 : Int32 → Wd → Prop, EvI m_M_takeNumber d [.ref 58, .int (nI 1), .int (nI 100)] (up1 w2 58 7 ((w2.1 58 7) + (nI 1))) Q9 ∧ ∀ (r9 : Int32) (w9 : Wd), Q9 r9 w9 → ∃ j4 : Nat, (((nI 10) * (w2.1 58 11)) + (w2.1 71 j3)) = nI j4 ∧ j4 < 20 ∧ ∃ Q10 : Wd → Prop, EvV m_M_takeSign d [.ref 58, .int (nI 59)] (up1 w9 72 j4 r9) Q10 ∧ ∀ w10 : Wd, Q10 w10 → ∃ j5 : Nat, (w10.1 58 11) = nI j5 ∧ j5 < 2 ∧ ∃ j6 : Nat, (w10.1 58 11) = nI j6 ∧ j6 < 2 ∧ Q (up1 w10 71 j6 ((w10.1 71 j5) + (nI 1)))) ∧ ((w2.1 71 j2) = (nI 10) → ∃ Q11 : Wd → Prop, EvV m_M_wrong d [.ref 58, .int (nI 5)] w2 Q11 ∧ ∀ w11 : Wd, Q11 w11 → Q w11))))) ∧ (¬ r1 = 0 → ∃ Q12 : Wd → Prop, EvV m_M_readRule d [.ref 58] w1 Q12 ∧ ∀ w12 : Wd, Q12 w12 → Q w12))) : Z m_M_statement (d + 1) (qV Q) 0 [(0, .ref 58)] [] w := wp_ok (P := P_M_statement) (S := S_M_statement) rfl pr_M_statement 53 _ _ _ _ h
def P_M_readChain : Prog := [(0, .aload_n 0), (1, .getfield 85), (4, .aload_n 0), (5, .getfield 205), (8, .iaload), (9, .bipush 6), (11, .if_icmp .ne 9), (14, .aload_n 0), (15, .iconst 5), (16, .invokevirtual 189), (19, .return_), (20, .aload_n 0), (21, .dup), (22, .getfield 180), (25, .iconst 1), (26, .iadd), (27, .putfield 180), (30, .iconst 3), (31, .bipush 6), (33, .aload_n 0), (34, .getfield 205), (37, .imul), (38, .aload_n 0), (39, .getfield 85), (42, .aload_n 0), (43, .getfield 205), (46, .iaload), (47, .iadd), (48, .imul), (49, .istore_n 1), (50, .aload_n 0), (51, .getfield 88), (54, .iload_n 1), (55, .aload_n 0), (56, .iconst 0), (57, .bipush 9), (59, .invokevirtual 214), (62, .iastore), (63, .aload_n 0), (64, .bipush 61), (66, .invokevirtual 218), (69, .aload_n 0), (70, .getfield 88), (73, .iload_n 1), (74, .iconst 1), (75, .iadd), (76, .aload_n 0), (77, .iconst 0), (78, .bipush 9), (80, .invokevirtual 214), (83, .iastore), (84, .aload_n 0), (85, .getfield 88), (88, .iload_n 1), (89, .iconst 2), (90, .iadd), (91, .aload_n 0), (92, .iconst 0), (93, .bipush 9), (95, .invokevirtual 214), (98, .iastore), (99, .aload_n 0), (100, .bipush 59), (102, .invokevirtual 218), (105, .aload_n 0), (106, .getfield 85), (109, .aload_n 0), (110, .getfield 205), (113, .dup2), (114, .iaload), (115, .iconst 1), (116, .iadd), (117, .iastore), (118, .return_)]
theorem pr_M_readChain : prOK m_M_readChain P_M_readChain = true := by decide +kernel
def S_M_readChain : List (Nat × List Nat) := []
theorem ev_M_readChain {d : Nat} {w : Wd} {Q : Wd → Prop}  (h : Z m_M_readChain d (qV Q) 0 [(0, .ref 58)] [] w) : EvV m_M_readChain d [.ref 58] w Q := Ev.ofZ (by decide +kernel) (Nat.le_of_ble_eq_true rfl) h
set_option maxRecDepth 20000 in
set_option maxHeartbeats 1000000 in
theorem vc_M_readChain_0 {d : Nat} {w : Wd} {Q : Wd → Prop}  (h : ∃ j1 : Nat, (w.1 58 11) = nI j1 ∧ j1 < 2 ∧ ((¬ (w.1 73 j1) = (nI 6) → ∃ j2 : Nat, (w.1 58 11) = nI j2 ∧ j2 < 2 ∧ ∃ Q1 : Int32 → Wd → Prop, EvI m_M_takeNumber d [.ref 58, .int (nI 0), .int (nI 9)] (up1 w 58 7 ((w.1 58 7) + (nI 1))) Q1 ∧ ∀ (r1 : Int32) (w1 : Wd), Q1 r1 w1 → ∃ j3 : Nat, ((nI 3) * (((nI 6) * (w.1 58 11)) + (w.1 73 j2))) = nI j3 ∧ j3 < 36 ∧ ∃ Q2 : Wd → Prop, EvV m_M_takeSign d [.ref 58, .int (nI 61)] (up1 w1 74 j3 r1) Q2 ∧ ∀ w2 : Wd, Q2 w2 → ∃ Q3 : Int32 → Wd → Prop, EvI m_M_takeNumber d [.ref 58, .int (nI 0), .int (nI 9)] w2 Q3 ∧ ∀ (r3 : Int32) (w3 : Wd), Q3 r3 w3 → ∃ j4 : Nat, (((nI 3) * (((nI 6) * (w.1 58 11)) + (w.1 73 j2))) + (nI 1)) = nI j4 ∧ j4 < 36 ∧ ∃ Q4 : Int32 → Wd → Prop, EvI m_M_takeNumber d [.ref 58, .int (nI 0), .int (nI 9)] (up1 w3 74 j4 r3) Q4 ∧ ∀ (r4 : Int32) (w4 : Wd), Q4 r4 w4 → ∃ j5 : Nat, (((nI 3) * (((nI 6) * (w.1 58 11)) + (w.1 73 j2))) + (nI 2)) = nI j5 ∧ j5 < 36 ∧ ∃ Q5 : Wd → Prop, EvV m_M_takeSign d [.ref 58, .int (nI 59)] (up1 w4 74 j5 r4) Q5 ∧ ∀ w5 : Wd, Q5 w5 → ∃ j6 : Nat, (w5.1 58 11) = nI j6 ∧ j6 < 2 ∧ ∃ j7 : Nat, (w5.1 58 11) = nI j7 ∧ j7 < 2 ∧ Q (up1 w5 73 j7 ((w5.1 73 j6) + (nI 1)))) ∧ ((w.1 73 j1) = (nI 6) → ∃ Q6 : Wd → Prop, EvV m_M_wrong d [.ref 58, .int (nI 5)] w Q6 ∧ ∀ w6 : Wd, Q6 w6 → Q w6))) : Z m_M_readChain (d + 1) (qV Q) 0 [(0, .ref 58)] [] w := wp_ok (P := P_M_readChain) (S := S_M_readChain) rfl pr_M_readChain 71 _ _ _ _ h
def P_M_readRule : Prog := [(0, .aload_n 0), (1, .getfield 57), (4, .aload_n 0), (5, .getfield 205), (8, .iaload), (9, .bipush 12), (11, .if_icmp .ne 9), (14, .aload_n 0), (15, .iconst 5), (16, .invokevirtual 189), (19, .return_), (20, .aload_n 0), (21, .dup), (22, .getfield 180), (25, .iconst 1), (26, .iadd), (27, .putfield 180), (30, .bipush 12), (32, .aload_n 0), (33, .getfield 205), (36, .imul), (37, .aload_n 0), (38, .getfield 57), (41, .aload_n 0), (42, .getfield 205), (45, .iaload), (46, .iadd), (47, .istore_n 1), (48, .aload_n 0), (49, .getfield 60), (52, .iload_n 1), (53, .aload_n 0), (54, .iconst 0), (55, .bipush 9), (57, .invokevirtual 214), (60, .iastore), (61, .aload_n 0), (62, .bipush 58), (64, .invokevirtual 218), (67, .aload_n 0), (68, .getfield 63), (71, .iload_n 1), (72, .iconst 0), (73, .iastore), (74, .aload_n 0), (75, .iconst 0), (76, .putfield 224), (79, .aload_n 0), (80, .iconst 0), (81, .putfield 227), (84, .aload_n 0), (85, .getfield 183), (88, .ifCond .ne 7), (91, .iconst 1), (92, .goto 4), (95, .iconst 0), (96, .istore_n 2), (97, .iload_n 2), (98, .ifCond .eq 33), (101, .aload_n 0), (102, .iload_n 1), (103, .invokevirtual 230), (106, .aload_n 0), (107, .getfield 183), (110, .ifCond .ne 16), (113, .aload_n 0), (114, .bipush 59), (116, .invokevirtual 186), (119, .ifCond .ne 7), (122, .iconst 1), (123, .goto 4), (126, .iconst 0), (127, .istore_n 2), (128, .goto (-31)), (131, .aload_n 0), (132, .getfield 183), (135, .ifCond .ne 22), (138, .aload_n 0), (139, .getfield 224), (142, .ifCond .eq 10), (145, .aload_n 0), (146, .getfield 227), (149, .ifCond .ne 8), (152, .aload_n 0), (153, .iconst 1), (154, .invokevirtual 189), (157, .aload_n 0), (158, .bipush 59), (160, .invokevirtual 218), (163, .aload_n 0), (164, .getfield 57), (167, .aload_n 0), (168, .getfield 205), (171, .dup2), (172, .iaload), (173, .iconst 1), (174, .iadd), (175, .iastore), (176, .return_)]
theorem pr_M_readRule : prOK m_M_readRule P_M_readRule = true := by decide +kernel
def S_M_readRule : List (Nat × List Nat) := [(97, [0, 1, 2])]
theorem ev_M_readRule {d : Nat} {w : Wd} {Q : Wd → Prop}  (h : Z m_M_readRule d (qV Q) 0 [(0, .ref 58)] [] w) : EvV m_M_readRule d [.ref 58] w Q := Ev.ofZ (by decide +kernel) (Nat.le_of_ble_eq_true rfl) h
set_option maxRecDepth 20000 in
set_option maxHeartbeats 1000000 in
theorem vc_M_readRule_0 {d : Nat} {w : Wd} {Q : Wd → Prop}  (h : ∃ j1 : Nat, (w.1 58 11) = nI j1 ∧ j1 < 2 ∧ ((¬ (w.1 64 j1) = (nI 12) → ∃ j2 : Nat, (w.1 58 11) = nI j2 ∧ j2 < 2 ∧ ∃ Q1 : Int32 → Wd → Prop, EvI m_M_takeNumber d [.ref 58, .int (nI 0), .int (nI 9)] (up1 w 58 7 ((w.1 58 7) + (nI 1))) Q1 ∧ ∀ (r1 : Int32) (w1 : Wd), Q1 r1 w1 → ∃ j3 : Nat, (((nI 12) * (w.1 58 11)) + (w.1 64 j2)) = nI j3 ∧ j3 < 24 ∧ ∃ Q2 : Wd → Prop, EvV m_M_takeSign d [.ref 58, .int (nI 58)] (up1 w1 65 j3 r1) Q2 ∧ ∀ w2 : Wd, Q2 w2 → ∃ j4 : Nat, (((nI 12) * (w.1 58 11)) + (w.1 64 j2)) = nI j4 ∧ j4 < 24 ∧ ((nI 0) = 0 ∨ (nI 0) = 1) ∧ ((nI 0) = 0 ∨ (nI 0) = 1) ∧ ((¬ (w2.1 58 8) = 0 → Z m_M_readRule (d + 1) (qV Q) 97 [(0, .ref 58), (1, .int (((nI 12) * (w.1 58 11)) + (w.1 64 j2))), (2, .int (nI 0))] [] (up1 (up1 (up1 w2 66 j4 (nI 0)) 58 24 (nI 0)) 58 25 (nI 0))) ∧ ((w2.1 58 8) = 0 → Z m_M_readRule (d + 1) (qV Q) 97 [(0, .ref 58), (1, .int (((nI 12) * (w.1 58 11)) + (w.1 64 j2))), (2, .int (nI 1))] [] (up1 (up1 (up1 w2 66 j4 (nI 0)) 58 24 (nI 0)) 58 25 (nI 0))))) ∧ ((w.1 64 j1) = (nI 12) → ∃ Q3 : Wd → Prop, EvV m_M_wrong d [.ref 58, .int (nI 5)] w Q3 ∧ ∀ w3 : Wd, Q3 w3 → Q w3))) : Z m_M_readRule (d + 1) (qV Q) 0 [(0, .ref 58)] [] w := wp_ok (P := P_M_readRule) (S := S_M_readRule) rfl pr_M_readRule 53 _ _ _ _ h
set_option maxRecDepth 20000 in
set_option maxHeartbeats 1000000 in
theorem vc_M_readRule_97 {d : Nat} {w : Wd} {Q : Wd → Prop} (x1 : Int32) (x2 : Int32) (h : ((x2 = 0 → ((¬ (w.1 58 8) = 0 → ∃ Q1 : Wd → Prop, EvV m_M_takeSign d [.ref 58, .int (nI 59)] w Q1 ∧ ∀ w1 : Wd, Q1 w1 → ∃ j1 : Nat, (w1.1 58 11) = nI j1 ∧ j1 < 2 ∧ ∃ j2 : Nat, (w1.1 58 11) = nI j2 ∧ j2 < 2 ∧ Q (up1 w1 64 j2 ((w1.1 64 j1) + (nI 1)))) ∧ ((w.1 58 8) = 0 → (((w.1 58 24) = 0 → ∃ Q2 : Wd → Prop, EvV m_M_wrong d [.ref 58, .int (nI 1)] w Q2 ∧ ∀ w2 : Wd, Q2 w2 → ∃ Q3 : Wd → Prop, EvV m_M_takeSign d [.ref 58, .int (nI 59)] w2 Q3 ∧ ∀ w3 : Wd, Q3 w3 → ∃ j3 : Nat, (w3.1 58 11) = nI j3 ∧ j3 < 2 ∧ ∃ j4 : Nat, (w3.1 58 11) = nI j4 ∧ j4 < 2 ∧ Q (up1 w3 64 j4 ((w3.1 64 j3) + (nI 1)))) ∧ (¬ (w.1 58 24) = 0 → ((¬ (w.1 58 25) = 0 → ∃ Q4 : Wd → Prop, EvV m_M_takeSign d [.ref 58, .int (nI 59)] w Q4 ∧ ∀ w4 : Wd, Q4 w4 → ∃ j5 : Nat, (w4.1 58 11) = nI j5 ∧ j5 < 2 ∧ ∃ j6 : Nat, (w4.1 58 11) = nI j6 ∧ j6 < 2 ∧ Q (up1 w4 64 j6 ((w4.1 64 j5) + (nI 1)))) ∧ ((w.1 58 25) = 0 → ∃ Q5 : Wd → Prop, EvV m_M_wrong d [.ref 58, .int (nI 1)] w Q5 ∧ ∀ w5 : Wd, Q5 w5 → ∃ Q6 : Wd → Prop, EvV m_M_takeSign d [.ref 58, .int (nI 59)] w5 Q6 ∧ ∀ w6 : Wd, Q6 w6 → ∃ j7 : Nat, (w6.1 58 11) = nI j7 ∧ j7 < 2 ∧ ∃ j8 : Nat, (w6.1 58 11) = nI j8 ∧ j8 < 2 ∧ Q (up1 w6 64 j8 ((w6.1 64 j7) + (nI 1)))))))))) ∧ (¬ x2 = 0 → ∃ Q7 : Wd → Prop, EvV m_M_item d [.ref 58, .int x1] w Q7 ∧ ∀ w7 : Wd, Q7 w7 → ((¬ (w7.1 58 8) = 0 → Z m_M_readRule (d + 1) (qV Q) 97 [(0, .ref 58), (1, .int x1), (2, .int (nI 0))] [] w7) ∧ ((w7.1 58 8) = 0 → ∃ Q8 : Int32 → Wd → Prop, EvI m_M_isSign d [.ref 58, .int (nI 59)] w7 Q8 ∧ ∀ (r8 : Int32) (w8 : Wd), Q8 r8 w8 → ((¬ r8 = 0 → Z m_M_readRule (d + 1) (qV Q) 97 [(0, .ref 58), (1, .int x1), (2, .int (nI 0))] [] w8) ∧ (r8 = 0 → Z m_M_readRule (d + 1) (qV Q) 97 [(0, .ref 58), (1, .int x1), (2, .int (nI 1))] [] w8))))))) : Z m_M_readRule (d + 1) (qV Q) 97 [(0, .ref 58), (1, .int x1), (2, .int x2)] [] w := wp_ok (P := P_M_readRule) (S := S_M_readRule) rfl pr_M_readRule 28 _ _ _ _ h
def P_M_isItem : Prog := [(0, .aload_n 0), (1, .iconst 4), (2, .invokevirtual 193), (5, .ifCond .ne 61), (8, .aload_n 0), (9, .bipush 7), (11, .invokevirtual 193), (14, .ifCond .ne 52), (17, .aload_n 0), (18, .bipush 8), (20, .invokevirtual 193), (23, .ifCond .ne 43), (26, .aload_n 0), (27, .bipush 9), (29, .invokevirtual 193), (32, .ifCond .ne 34), (35, .aload_n 0), (36, .iconst 5), (37, .invokevirtual 193), (40, .ifCond .eq 10), (43, .aload_n 0), (44, .getfield 224), (47, .ifCond .eq 19), (50, .aload_n 0), (51, .bipush 6), (53, .invokevirtual 193), (56, .ifCond .eq 14), (59, .aload_n 0), (60, .getfield 227), (63, .ifCond .ne 7), (66, .iconst 1), (67, .goto 4), (70, .iconst 0), (71, .ireturn)]
theorem pr_M_isItem : prOK m_M_isItem P_M_isItem = true := by decide +kernel
def S_M_isItem : List (Nat × List Nat) := []
theorem ev_M_isItem {d : Nat} {w : Wd} {Q : Int32 → Wd → Prop}  (h : Z m_M_isItem d (qI Q) 0 [(0, .ref 58)] [] w) : EvI m_M_isItem d [.ref 58] w Q := Ev.ofZ (by decide +kernel) (Nat.le_of_ble_eq_true rfl) h
set_option maxRecDepth 20000 in
set_option maxHeartbeats 1000000 in
theorem vc_M_isItem_0 {d : Nat} {w : Wd} {Q : Int32 → Wd → Prop}  (h : ∃ Q1 : Int32 → Wd → Prop, EvI m_M_isWord d [.ref 58, .int (nI 4)] w Q1 ∧ ∀ (r1 : Int32) (w1 : Wd), Q1 r1 w1 → ((¬ r1 = 0 → ((nI 1) = 0 ∨ (nI 1) = 1) ∧ Q (nI 1) w1) ∧ (r1 = 0 → ∃ Q2 : Int32 → Wd → Prop, EvI m_M_isWord d [.ref 58, .int (nI 7)] w1 Q2 ∧ ∀ (r2 : Int32) (w2 : Wd), Q2 r2 w2 → ((¬ r2 = 0 → ((nI 1) = 0 ∨ (nI 1) = 1) ∧ Q (nI 1) w2) ∧ (r2 = 0 → ∃ Q3 : Int32 → Wd → Prop, EvI m_M_isWord d [.ref 58, .int (nI 8)] w2 Q3 ∧ ∀ (r3 : Int32) (w3 : Wd), Q3 r3 w3 → ((¬ r3 = 0 → ((nI 1) = 0 ∨ (nI 1) = 1) ∧ Q (nI 1) w3) ∧ (r3 = 0 → ∃ Q4 : Int32 → Wd → Prop, EvI m_M_isWord d [.ref 58, .int (nI 9)] w3 Q4 ∧ ∀ (r4 : Int32) (w4 : Wd), Q4 r4 w4 → ((¬ r4 = 0 → ((nI 1) = 0 ∨ (nI 1) = 1) ∧ Q (nI 1) w4) ∧ (r4 = 0 → ∃ Q5 : Int32 → Wd → Prop, EvI m_M_isWord d [.ref 58, .int (nI 5)] w4 Q5 ∧ ∀ (r5 : Int32) (w5 : Wd), Q5 r5 w5 → ((r5 = 0 → ∃ Q6 : Int32 → Wd → Prop, EvI m_M_isWord d [.ref 58, .int (nI 6)] w5 Q6 ∧ ∀ (r6 : Int32) (w6 : Wd), Q6 r6 w6 → ((r6 = 0 → ((nI 0) = 0 ∨ (nI 0) = 1) ∧ Q (nI 0) w6) ∧ (¬ r6 = 0 → ((¬ (w6.1 58 25) = 0 → ((nI 0) = 0 ∨ (nI 0) = 1) ∧ Q (nI 0) w6) ∧ ((w6.1 58 25) = 0 → ((nI 1) = 0 ∨ (nI 1) = 1) ∧ Q (nI 1) w6))))) ∧ (¬ r5 = 0 → (((w5.1 58 24) = 0 → ((nI 1) = 0 ∨ (nI 1) = 1) ∧ Q (nI 1) w5) ∧ (¬ (w5.1 58 24) = 0 → ∃ Q7 : Int32 → Wd → Prop, EvI m_M_isWord d [.ref 58, .int (nI 6)] w5 Q7 ∧ ∀ (r7 : Int32) (w7 : Wd), Q7 r7 w7 → ((r7 = 0 → ((nI 0) = 0 ∨ (nI 0) = 1) ∧ Q (nI 0) w7) ∧ (¬ r7 = 0 → ((¬ (w7.1 58 25) = 0 → ((nI 0) = 0 ∨ (nI 0) = 1) ∧ Q (nI 0) w7) ∧ ((w7.1 58 25) = 0 → ((nI 1) = 0 ∨ (nI 1) = 1) ∧ Q (nI 1) w7))))))))))))))))) : Z m_M_isItem (d + 1) (qI Q) 0 [(0, .ref 58)] [] w := wp_ok (P := P_M_isItem) (S := S_M_isItem) rfl pr_M_isItem 34 _ _ _ _ h
def P_M_item : Prog := [(0, .aload_n 0), (1, .invokevirtual 233), (4, .ifCond .ne 11), (7, .aload_n 0), (8, .iconst 1), (9, .invokevirtual 189), (12, .goto 19), (15, .aload_n 0), (16, .getfield 63), (19, .iload_n 1), (20, .iaload), (21, .bipush 10), (23, .if_icmp .ne 8), (26, .aload_n 0), (27, .iconst 5), (28, .invokevirtual 189), (31, .aload_n 0), (32, .getfield 183), (35, .ifCond .le 4), (38, .return_), (39, .bipush 10), (41, .iload_n 1), (42, .imul), (43, .aload_n 0), (44, .getfield 63), (47, .iload_n 1), (48, .iaload), (49, .iadd), (50, .istore_n 2), (51, .aload_n 0), (52, .getfield 70), (55, .iload_n 2), (56, .aload_n 0), (57, .iconst 5), (58, .invokevirtual 193), (61, .ifCond .eq 7), (64, .iconst 1), (65, .goto 17), (68, .aload_n 0), (69, .bipush 6), (71, .invokevirtual 193), (74, .ifCond .eq 7), (77, .iconst 2), (78, .goto 4), (81, .iconst 0), (82, .iastore), (83, .aload_n 0), (84, .aload_n 0), (85, .getfield 224), (88, .ifCond .ne 13), (91, .aload_n 0), (92, .getfield 70), (95, .iload_n 2), (96, .iaload), (97, .iconst 1), (98, .if_icmp .ne 7), (101, .iconst 1), (102, .goto 4), (105, .iconst 0), (106, .putfield 224), (109, .aload_n 0), (110, .aload_n 0), (111, .getfield 227), (114, .ifCond .ne 13), (117, .aload_n 0), (118, .getfield 70), (121, .iload_n 2), (122, .iaload), (123, .iconst 2), (124, .if_icmp .ne 7), (127, .iconst 1), (128, .goto 4), (131, .iconst 0), (132, .putfield 227), (135, .aload_n 0), (136, .dup), (137, .getfield 180), (140, .aload_n 0), (141, .getfield 70), (144, .iload_n 2), (145, .iaload), (146, .ifCond .le 7), (149, .iconst 1), (150, .goto 4), (153, .iconst 0), (154, .iadd), (155, .putfield 180), (158, .aload_n 0), (159, .getfield 66), (162, .iload_n 2), (163, .aload_n 0), (164, .getfield 70), (167, .iload_n 2), (168, .iaload), (169, .ifCond .ne 15), (172, .aload_n 0), (173, .iconst 4), (174, .invokevirtual 193), (177, .ifCond .eq 7), (180, .iconst 1), (181, .goto 4), (184, .iconst 0), (185, .bastore), (186, .aload_n 0), (187, .getfield 73), (190, .iload_n 2), (191, .iconst 2), (192, .iastore), (193, .aload_n 0), (194, .getfield 76), (197, .iload_n 2), (198, .iconst 0), (199, .iastore), (200, .aload_n 0), (201, .getfield 66), (204, .iload_n 2), (205, .baload), (206, .ifCond .eq 16), (209, .aload_n 0), (210, .dup), (211, .getfield 180), (214, .iconst 1), (215, .iadd), (216, .putfield 180), (219, .goto 8), (222, .aload_n 0), (223, .iload_n 2), (224, .invokevirtual 237), (227, .aload_n 0), (228, .getfield 63), (231, .iload_n 1), (232, .dup2), (233, .iaload), (234, .iconst 1), (235, .iadd), (236, .iastore), (237, .return_)]
theorem pr_M_item : prOK m_M_item P_M_item = true := by decide +kernel
def S_M_item : List (Nat × List Nat) := [(31, [0, 1]), (83, [0, 1, 2]), (109, [0, 1, 2]), (135, [0, 1, 2]), (158, [0, 1, 2]), (186, [0, 1, 2]), (227, [0, 1, 2])]
theorem ev_M_item {d : Nat} {w : Wd} {Q : Wd → Prop} (x1 : Int32) (h : Z m_M_item d (qV Q) 0 [(0, .ref 58), (1, .int x1)] [] w) : EvV m_M_item d [.ref 58, .int x1] w Q := Ev.ofZ (by decide +kernel) (Nat.le_of_ble_eq_true rfl) h
set_option maxRecDepth 20000 in
set_option maxHeartbeats 1000000 in
theorem vc_M_item_0 {d : Nat} {w : Wd} {Q : Wd → Prop} (x1 : Int32) (h : ∃ Q1 : Int32 → Wd → Prop, EvI m_M_isItem d [.ref 58] w Q1 ∧ ∀ (r1 : Int32) (w1 : Wd), Q1 r1 w1 → ((¬ r1 = 0 → ∃ j1 : Nat, x1 = nI j1 ∧ j1 < 24 ∧ ((¬ (w1.1 66 j1) = (nI 10) → Z m_M_item (d + 1) (qV Q) 31 [(0, .ref 58), (1, .int x1)] [] w1) ∧ ((w1.1 66 j1) = (nI 10) → ∃ Q2 : Wd → Prop, EvV m_M_wrong d [.ref 58, .int (nI 5)] w1 Q2 ∧ ∀ w2 : Wd, Q2 w2 → Z m_M_item (d + 1) (qV Q) 31 [(0, .ref 58), (1, .int x1)] [] w2))) ∧ (r1 = 0 → ∃ Q3 : Wd → Prop, EvV m_M_wrong d [.ref 58, .int (nI 1)] w1 Q3 ∧ ∀ w3 : Wd, Q3 w3 → Z m_M_item (d + 1) (qV Q) 31 [(0, .ref 58), (1, .int x1)] [] w3))) : Z m_M_item (d + 1) (qV Q) 0 [(0, .ref 58), (1, .int x1)] [] w := wp_ok (P := P_M_item) (S := S_M_item) rfl pr_M_item 13 _ _ _ _ h
set_option maxRecDepth 20000 in
set_option maxHeartbeats 1000000 in
theorem vc_M_item_31 {d : Nat} {w : Wd} {Q : Wd → Prop} (x1 : Int32) (h : (((w.1 58 8) ≤ 0 → ∃ j1 : Nat, x1 = nI j1 ∧ j1 < 24 ∧ ∃ Q1 : Int32 → Wd → Prop, EvI m_M_isWord d [.ref 58, .int (nI 5)] w Q1 ∧ ∀ (r1 : Int32) (w1 : Wd), Q1 r1 w1 → ((r1 = 0 → ∃ Q2 : Int32 → Wd → Prop, EvI m_M_isWord d [.ref 58, .int (nI 6)] w1 Q2 ∧ ∀ (r2 : Int32) (w2 : Wd), Q2 r2 w2 → ((r2 = 0 → ∃ j2 : Nat, (((nI 10) * x1) + (w.1 66 j1)) = nI j2 ∧ j2 < 240 ∧ Z m_M_item (d + 1) (qV Q) 83 [(0, .ref 58), (1, .int x1), (2, .int (((nI 10) * x1) + (w.1 66 j1)))] [] (up1 w2 68 j2 (nI 0))) ∧ (¬ r2 = 0 → ∃ j3 : Nat, (((nI 10) * x1) + (w.1 66 j1)) = nI j3 ∧ j3 < 240 ∧ Z m_M_item (d + 1) (qV Q) 83 [(0, .ref 58), (1, .int x1), (2, .int (((nI 10) * x1) + (w.1 66 j1)))] [] (up1 w2 68 j3 (nI 2))))) ∧ (¬ r1 = 0 → ∃ j4 : Nat, (((nI 10) * x1) + (w.1 66 j1)) = nI j4 ∧ j4 < 240 ∧ Z m_M_item (d + 1) (qV Q) 83 [(0, .ref 58), (1, .int x1), (2, .int (((nI 10) * x1) + (w.1 66 j1)))] [] (up1 w1 68 j4 (nI 1))))) ∧ (¬ (w.1 58 8) ≤ 0 → Q w))) : Z m_M_item (d + 1) (qV Q) 31 [(0, .ref 58), (1, .int x1)] [] w := wp_ok (P := P_M_item) (S := S_M_item) rfl pr_M_item 27 _ _ _ _ h
set_option maxRecDepth 20000 in
set_option maxHeartbeats 1000000 in
theorem vc_M_item_83 {d : Nat} {w : Wd} {Q : Wd → Prop} (x1 : Int32) (x2 : Int32) (h : ((¬ (w.1 58 24) = 0 → ((nI 1) = 0 ∨ (nI 1) = 1) ∧ Z m_M_item (d + 1) (qV Q) 109 [(0, .ref 58), (1, .int x1), (2, .int x2)] [] (up1 w 58 24 (nI 1))) ∧ ((w.1 58 24) = 0 → ∃ j1 : Nat, x2 = nI j1 ∧ j1 < 240 ∧ ((¬ (w.1 68 j1) = (nI 1) → ((nI 0) = 0 ∨ (nI 0) = 1) ∧ Z m_M_item (d + 1) (qV Q) 109 [(0, .ref 58), (1, .int x1), (2, .int x2)] [] (up1 w 58 24 (nI 0))) ∧ ((w.1 68 j1) = (nI 1) → ((nI 1) = 0 ∨ (nI 1) = 1) ∧ Z m_M_item (d + 1) (qV Q) 109 [(0, .ref 58), (1, .int x1), (2, .int x2)] [] (up1 w 58 24 (nI 1))))))) : Z m_M_item (d + 1) (qV Q) 83 [(0, .ref 58), (1, .int x1), (2, .int x2)] [] w := wp_ok (P := P_M_item) (S := S_M_item) rfl pr_M_item 14 _ _ _ _ h
set_option maxRecDepth 20000 in
set_option maxHeartbeats 1000000 in
theorem vc_M_item_109 {d : Nat} {w : Wd} {Q : Wd → Prop} (x1 : Int32) (x2 : Int32) (h : ((¬ (w.1 58 25) = 0 → ((nI 1) = 0 ∨ (nI 1) = 1) ∧ Z m_M_item (d + 1) (qV Q) 135 [(0, .ref 58), (1, .int x1), (2, .int x2)] [] (up1 w 58 25 (nI 1))) ∧ ((w.1 58 25) = 0 → ∃ j1 : Nat, x2 = nI j1 ∧ j1 < 240 ∧ ((¬ (w.1 68 j1) = (nI 2) → ((nI 0) = 0 ∨ (nI 0) = 1) ∧ Z m_M_item (d + 1) (qV Q) 135 [(0, .ref 58), (1, .int x1), (2, .int x2)] [] (up1 w 58 25 (nI 0))) ∧ ((w.1 68 j1) = (nI 2) → ((nI 1) = 0 ∨ (nI 1) = 1) ∧ Z m_M_item (d + 1) (qV Q) 135 [(0, .ref 58), (1, .int x1), (2, .int x2)] [] (up1 w 58 25 (nI 1))))))) : Z m_M_item (d + 1) (qV Q) 109 [(0, .ref 58), (1, .int x1), (2, .int x2)] [] w := wp_ok (P := P_M_item) (S := S_M_item) rfl pr_M_item 14 _ _ _ _ h
set_option maxRecDepth 20000 in
set_option maxHeartbeats 1000000 in
theorem vc_M_item_135 {d : Nat} {w : Wd} {Q : Wd → Prop} (x1 : Int32) (x2 : Int32) (h : ∃ j1 : Nat, x2 = nI j1 ∧ j1 < 240 ∧ (((w.1 68 j1) ≤ 0 → Z m_M_item (d + 1) (qV Q) 158 [(0, .ref 58), (1, .int x1), (2, .int x2)] [] (up1 w 58 7 ((w.1 58 7) + (nI 0)))) ∧ (¬ (w.1 68 j1) ≤ 0 → Z m_M_item (d + 1) (qV Q) 158 [(0, .ref 58), (1, .int x1), (2, .int x2)] [] (up1 w 58 7 ((w.1 58 7) + (nI 1)))))) : Z m_M_item (d + 1) (qV Q) 135 [(0, .ref 58), (1, .int x1), (2, .int x2)] [] w := wp_ok (P := P_M_item) (S := S_M_item) rfl pr_M_item 13 _ _ _ _ h
set_option maxRecDepth 20000 in
set_option maxHeartbeats 1000000 in
theorem vc_M_item_158 {d : Nat} {w : Wd} {Q : Wd → Prop} (x1 : Int32) (x2 : Int32) (h : ∃ j1 : Nat, x2 = nI j1 ∧ j1 < 240 ∧ ((¬ (w.1 68 j1) = 0 → ∃ j2 : Nat, x2 = nI j2 ∧ j2 < 240 ∧ ((nI 0) = 0 ∨ (nI 0) = 1) ∧ Z m_M_item (d + 1) (qV Q) 186 [(0, .ref 58), (1, .int x1), (2, .int x2)] [] (up1 w 67 j2 (nI 0))) ∧ ((w.1 68 j1) = 0 → ∃ Q1 : Int32 → Wd → Prop, EvI m_M_isWord d [.ref 58, .int (nI 4)] w Q1 ∧ ∀ (r1 : Int32) (w1 : Wd), Q1 r1 w1 → ((r1 = 0 → ∃ j3 : Nat, x2 = nI j3 ∧ j3 < 240 ∧ ((nI 0) = 0 ∨ (nI 0) = 1) ∧ Z m_M_item (d + 1) (qV Q) 186 [(0, .ref 58), (1, .int x1), (2, .int x2)] [] (up1 w1 67 j3 (nI 0))) ∧ (¬ r1 = 0 → ∃ j4 : Nat, x2 = nI j4 ∧ j4 < 240 ∧ ((nI 1) = 0 ∨ (nI 1) = 1) ∧ Z m_M_item (d + 1) (qV Q) 186 [(0, .ref 58), (1, .int x1), (2, .int x2)] [] (up1 w1 67 j4 (nI 1))))))) : Z m_M_item (d + 1) (qV Q) 158 [(0, .ref 58), (1, .int x1), (2, .int x2)] [] w := wp_ok (P := P_M_item) (S := S_M_item) rfl pr_M_item 16 _ _ _ _ h
set_option maxRecDepth 20000 in
set_option maxHeartbeats 1000000 in
theorem vc_M_item_186 {d : Nat} {w : Wd} {Q : Wd → Prop} (x1 : Int32) (x2 : Int32) (h : ∃ j1 : Nat, x2 = nI j1 ∧ j1 < 240 ∧ ∃ j2 : Nat, x2 = nI j2 ∧ j2 < 240 ∧ ∃ j3 : Nat, x2 = nI j3 ∧ j3 < 240 ∧ (((w.1 67 j3) = 0 → ∃ Q1 : Wd → Prop, EvV m_M_spec d [.ref 58, .int x2] (up1 (up1 w 69 j1 (nI 2)) 70 j2 (nI 0)) Q1 ∧ ∀ w1 : Wd, Q1 w1 → Z m_M_item (d + 1) (qV Q) 227 [(0, .ref 58), (1, .int x1), (2, .int x2)] [] w1) ∧ (¬ (w.1 67 j3) = 0 → Z m_M_item (d + 1) (qV Q) 227 [(0, .ref 58), (1, .int x1), (2, .int x2)] [] (up1 (up1 (up1 w 69 j1 (nI 2)) 70 j2 (nI 0)) 58 7 ((w.1 58 7) + (nI 1)))))) : Z m_M_item (d + 1) (qV Q) 186 [(0, .ref 58), (1, .int x1), (2, .int x2)] [] w := wp_ok (P := P_M_item) (S := S_M_item) rfl pr_M_item 23 _ _ _ _ h
set_option maxRecDepth 20000 in
set_option maxHeartbeats 1000000 in
theorem vc_M_item_227 {d : Nat} {w : Wd} {Q : Wd → Prop} (x1 : Int32) (x2 : Int32) (h : ∃ j1 : Nat, x1 = nI j1 ∧ j1 < 24 ∧ ∃ j2 : Nat, x1 = nI j2 ∧ j2 < 24 ∧ Q (up1 w 66 j2 ((w.1 66 j1) + (nI 1)))) : Z m_M_item (d + 1) (qV Q) 227 [(0, .ref 58), (1, .int x1), (2, .int x2)] [] w := wp_ok (P := P_M_item) (S := S_M_item) rfl pr_M_item 10 _ _ _ _ h
def P_M_spec : Prog := [(0, .aload_n 0), (1, .bipush 7), (3, .invokevirtual 196), (6, .ifCond .eq 26), (9, .aload_n 0), (10, .getfield 73), (13, .iload_n 1), (14, .iconst 0), (15, .iastore), (16, .aload_n 0), (17, .getfield 76), (20, .iload_n 1), (21, .aload_n 0), (22, .iconst 1), (23, .bipush 100), (25, .invokevirtual 214), (28, .iastore), (29, .goto 41), (32, .aload_n 0), (33, .bipush 8), (35, .invokevirtual 196), (38, .ifCond .eq 26), (41, .aload_n 0), (42, .getfield 73), (45, .iload_n 1), (46, .iconst 1), (47, .iastore), (48, .aload_n 0), (49, .getfield 76), (52, .iload_n 1), (53, .aload_n 0), (54, .iconst 0), (55, .bipush 9), (57, .invokevirtual 214), (60, .iastore), (61, .goto 9), (64, .aload_n 0), (65, .bipush 9), (67, .invokevirtual 240), (70, .return_)]
theorem pr_M_spec : prOK m_M_spec P_M_spec = true := by decide +kernel
def S_M_spec : List (Nat × List Nat) := []
theorem ev_M_spec {d : Nat} {w : Wd} {Q : Wd → Prop} (x1 : Int32) (h : Z m_M_spec d (qV Q) 0 [(0, .ref 58), (1, .int x1)] [] w) : EvV m_M_spec d [.ref 58, .int x1] w Q := Ev.ofZ (by decide +kernel) (Nat.le_of_ble_eq_true rfl) h
set_option maxRecDepth 20000 in
set_option maxHeartbeats 1000000 in
theorem vc_M_spec_0 {d : Nat} {w : Wd} {Q : Wd → Prop} (x1 : Int32) (h : ∃ Q1 : Int32 → Wd → Prop, EvI m_M_hasWord d [.ref 58, .int (nI 7)] w Q1 ∧ ∀ (r1 : Int32) (w1 : Wd), Q1 r1 w1 → ((r1 = 0 → ∃ Q2 : Int32 → Wd → Prop, EvI m_M_hasWord d [.ref 58, .int (nI 8)] w1 Q2 ∧ ∀ (r2 : Int32) (w2 : Wd), Q2 r2 w2 → ((r2 = 0 → ∃ Q3 : Wd → Prop, EvV m_M_takeWord d [.ref 58, .int (nI 9)] w2 Q3 ∧ ∀ w3 : Wd, Q3 w3 → Q w3) ∧ (¬ r2 = 0 → ∃ j1 : Nat, x1 = nI j1 ∧ j1 < 240 ∧ ∃ Q4 : Int32 → Wd → Prop, EvI m_M_takeNumber d [.ref 58, .int (nI 0), .int (nI 9)] (up1 w2 69 j1 (nI 1)) Q4 ∧ ∀ (r4 : Int32) (w4 : Wd), Q4 r4 w4 → ∃ j2 : Nat, x1 = nI j2 ∧ j2 < 240 ∧ Q (up1 w4 70 j2 r4)))) ∧ (¬ r1 = 0 → ∃ j3 : Nat, x1 = nI j3 ∧ j3 < 240 ∧ ∃ Q5 : Int32 → Wd → Prop, EvI m_M_takeNumber d [.ref 58, .int (nI 1), .int (nI 100)] (up1 w1 69 j3 (nI 0)) Q5 ∧ ∀ (r5 : Int32) (w5 : Wd), Q5 r5 w5 → ∃ j4 : Nat, x1 = nI j4 ∧ j4 < 240 ∧ Q (up1 w5 70 j4 r5)))) : Z m_M_spec (d + 1) (qV Q) 0 [(0, .ref 58), (1, .int x1)] [] w := wp_ok (P := P_M_spec) (S := S_M_spec) rfl pr_M_spec 24 _ _ _ _ h
def P_M_isOne : Prog := [(0, .iload_n 0), (1, .iconst 1), (2, .if_icmp .lt 13), (5, .iload_n 0), (6, .bipush 100), (8, .if_icmp .gt 7), (11, .iconst 1), (12, .goto 4), (15, .iconst 0), (16, .ireturn)]
theorem pr_M_isOne : prOK m_M_isOne P_M_isOne = true := by decide +kernel
def S_M_isOne : List (Nat × List Nat) := []
theorem ev_M_isOne {d : Nat} {w : Wd} {Q : Int32 → Wd → Prop} (x0 : Int32) (h : Z m_M_isOne d (qI Q) 0 [(0, .int x0)] [] w) : EvI m_M_isOne d [.int x0] w Q := Ev.ofZ (by decide +kernel) (Nat.le_of_ble_eq_true rfl) h
set_option maxRecDepth 20000 in
set_option maxHeartbeats 1000000 in
theorem vc_M_isOne_0 {d : Nat} {w : Wd} {Q : Int32 → Wd → Prop} (x0 : Int32) (h : ((x0 < (nI 1) → ((nI 0) = 0 ∨ (nI 0) = 1) ∧ Q (nI 0) w) ∧ (¬ x0 < (nI 1) → (((nI 100) < x0 → ((nI 0) = 0 ∨ (nI 0) = 1) ∧ Q (nI 0) w) ∧ (¬ (nI 100) < x0 → ((nI 1) = 0 ∨ (nI 1) = 1) ∧ Q (nI 1) w))))) : Z m_M_isOne d (qI Q) 0 [(0, .int x0)] [] w := wp_ok (P := P_M_isOne) (S := S_M_isOne) rfl pr_M_isOne 10 _ _ _ _ h
def P_M_sort : Prog := [(0, .aload_n 0), (1, .iconst 0), (2, .putfield 1), (5, .iload_n 1), (6, .invokestatic 243), (9, .ifCond .eq 13), (12, .iload_n 2), (13, .ifCond .lt 9), (16, .iload_n 2), (17, .bipush 9), (19, .if_icmp .le 5), (22, .iconst 0), (23, .ireturn), (24, .aload_n 0), (25, .getfield 94), (28, .iload_n 1), (29, .iload_n 2), (30, .iastore), (31, .aload_n 0), (32, .iconst 1), (33, .putfield 112), (36, .iconst 1), (37, .ireturn)]
theorem pr_M_sort : prOK m_M_sort P_M_sort = true := by decide +kernel
def S_M_sort : List (Nat × List Nat) := []
theorem ev_M_sort {d : Nat} {w : Wd} {Q : Int32 → Wd → Prop} (x1 : Int32) (x2 : Int32) (h : Z m_M_sort d (qI Q) 0 [(0, .ref 58), (1, .int x1), (2, .int x2)] [] w) : EvI m_M_sort d [.ref 58, .int x1, .int x2] w Q := Ev.ofZ (by decide +kernel) (Nat.le_of_ble_eq_true rfl) h
set_option maxRecDepth 20000 in
set_option maxHeartbeats 1000000 in
theorem vc_M_sort_0 {d : Nat} {w : Wd} {Q : Int32 → Wd → Prop} (x1 : Int32) (x2 : Int32) (h : ∃ Q1 : Int32 → Wd → Prop, EvI m_M_isOne d [.int x1] (up1 w 58 0 (nI 0)) Q1 ∧ ∀ (r1 : Int32) (w1 : Wd), Q1 r1 w1 → ((r1 = 0 → ((nI 0) = 0 ∨ (nI 0) = 1) ∧ Q (nI 0) w1) ∧ (¬ r1 = 0 → ((x2 < 0 → ((nI 0) = 0 ∨ (nI 0) = 1) ∧ Q (nI 0) w1) ∧ (¬ x2 < 0 → ((x2 ≤ (nI 9) → ∃ j1 : Nat, x1 = nI j1 ∧ j1 < 101 ∧ ((nI 1) = 0 ∨ (nI 1) = 1) ∧ ((nI 1) = 0 ∨ (nI 1) = 1) ∧ Q (nI 1) (up1 (up1 w1 76 j1 x2) 58 34 (nI 1))) ∧ (¬ x2 ≤ (nI 9) → ((nI 0) = 0 ∨ (nI 0) = 1) ∧ Q (nI 0) w1))))))) : Z m_M_sort (d + 1) (qI Q) 0 [(0, .ref 58), (1, .int x1), (2, .int x2)] [] w := wp_ok (P := P_M_sort) (S := S_M_sort) rfl pr_M_sort 22 _ _ _ _ h
def P_M_nameOf : Prog := [(0, .iload_n 1), (1, .istore_n 2), (2, .aload_n 0), (3, .getfield 97), (6, .iload_n 2), (7, .iaload), (8, .iload_n 2), (9, .if_icmp .eq 13), (12, .aload_n 0), (13, .getfield 97), (16, .iload_n 2), (17, .iaload), (18, .istore_n 2), (19, .goto (-17)), (22, .iload_n 2), (23, .ireturn)]
theorem pr_M_nameOf : prOK m_M_nameOf P_M_nameOf = true := by decide +kernel
def S_M_nameOf : List (Nat × List Nat) := [(2, [0, 1, 2])]
theorem ev_M_nameOf {d : Nat} {w : Wd} {Q : Int32 → Wd → Prop} (x1 : Int32) (h : Z m_M_nameOf d (qI Q) 0 [(0, .ref 58), (1, .int x1)] [] w) : EvI m_M_nameOf d [.ref 58, .int x1] w Q := Ev.ofZ (by decide +kernel) (Nat.le_of_ble_eq_true rfl) h
set_option maxRecDepth 20000 in
set_option maxHeartbeats 1000000 in
theorem vc_M_nameOf_0 {d : Nat} {w : Wd} {Q : Int32 → Wd → Prop} (x1 : Int32) (h : Z m_M_nameOf d (qI Q) 2 [(0, .ref 58), (1, .int x1), (2, .int x1)] [] w) : Z m_M_nameOf d (qI Q) 0 [(0, .ref 58), (1, .int x1)] [] w := wp_ok (P := P_M_nameOf) (S := S_M_nameOf) rfl pr_M_nameOf 3 _ _ _ _ h
set_option maxRecDepth 20000 in
set_option maxHeartbeats 1000000 in
theorem vc_M_nameOf_2 {d : Nat} {w : Wd} {Q : Int32 → Wd → Prop} (x1 : Int32) (x2 : Int32) (h : ∃ j1 : Nat, x2 = nI j1 ∧ j1 < 101 ∧ (((w.1 77 j1) = x2 → Q x2 w) ∧ (¬ (w.1 77 j1) = x2 → ∃ j2 : Nat, x2 = nI j2 ∧ j2 < 101 ∧ Z m_M_nameOf d (qI Q) 2 [(0, .ref 58), (1, .int x1), (2, .int (w.1 77 j2))] [] w))) : Z m_M_nameOf d (qI Q) 2 [(0, .ref 58), (1, .int x1), (2, .int x2)] [] w := wp_ok (P := P_M_nameOf) (S := S_M_nameOf) rfl pr_M_nameOf 13 _ _ _ _ h
def P_M_join : Prog := [(0, .aload_n 0), (1, .iconst 0), (2, .putfield 1), (5, .iload_n 1), (6, .invokestatic 243), (9, .ifCond .eq 10), (12, .iload_n 2), (13, .invokestatic 243), (16, .ifCond .ne 5), (19, .iconst 0), (20, .ireturn), (21, .iload_n 2), (22, .istore_n 3), (23, .iload_n 3), (24, .iload_n 1), (25, .if_icmp .eq 23), (28, .aload_n 0), (29, .getfield 97), (32, .iload_n 3), (33, .iaload), (34, .iload_n 3), (35, .if_icmp .eq 13), (38, .aload_n 0), (39, .getfield 97), (42, .iload_n 3), (43, .iaload), (44, .istore_n 3), (45, .goto (-22)), (48, .iload_n 1), (49, .iload_n 2), (50, .if_icmp .eq 10), (53, .iload_n 3), (54, .iload_n 1), (55, .if_icmp .ne 5), (58, .iconst 0), (59, .ireturn), (60, .aload_n 0), (61, .getfield 97), (64, .iload_n 1), (65, .iload_n 2), (66, .iastore), (67, .iconst 1), (68, .ireturn)]
theorem pr_M_join : prOK m_M_join P_M_join = true := by decide +kernel
def S_M_join : List (Nat × List Nat) := [(23, [0, 1, 2, 3])]
theorem ev_M_join {d : Nat} {w : Wd} {Q : Int32 → Wd → Prop} (x1 : Int32) (x2 : Int32) (h : Z m_M_join d (qI Q) 0 [(0, .ref 58), (1, .int x1), (2, .int x2)] [] w) : EvI m_M_join d [.ref 58, .int x1, .int x2] w Q := Ev.ofZ (by decide +kernel) (Nat.le_of_ble_eq_true rfl) h
set_option maxRecDepth 20000 in
set_option maxHeartbeats 1000000 in
theorem vc_M_join_0 {d : Nat} {w : Wd} {Q : Int32 → Wd → Prop} (x1 : Int32) (x2 : Int32) (h : ∃ Q1 : Int32 → Wd → Prop, EvI m_M_isOne d [.int x1] (up1 w 58 0 (nI 0)) Q1 ∧ ∀ (r1 : Int32) (w1 : Wd), Q1 r1 w1 → ((r1 = 0 → ((nI 0) = 0 ∨ (nI 0) = 1) ∧ Q (nI 0) w1) ∧ (¬ r1 = 0 → ∃ Q2 : Int32 → Wd → Prop, EvI m_M_isOne d [.int x2] w1 Q2 ∧ ∀ (r2 : Int32) (w2 : Wd), Q2 r2 w2 → ((¬ r2 = 0 → Z m_M_join (d + 1) (qI Q) 23 [(0, .ref 58), (1, .int x1), (2, .int x2), (3, .int x2)] [] w2) ∧ (r2 = 0 → ((nI 0) = 0 ∨ (nI 0) = 1) ∧ Q (nI 0) w2))))) : Z m_M_join (d + 1) (qI Q) 0 [(0, .ref 58), (1, .int x1), (2, .int x2)] [] w := wp_ok (P := P_M_join) (S := S_M_join) rfl pr_M_join 12 _ _ _ _ h
set_option maxRecDepth 20000 in
set_option maxHeartbeats 1000000 in
theorem vc_M_join_23 {d : Nat} {w : Wd} {Q : Int32 → Wd → Prop} (x1 : Int32) (x2 : Int32) (x3 : Int32) (h : ((x3 = x1 → ((x1 = x2 → ∃ j1 : Nat, x1 = nI j1 ∧ j1 < 101 ∧ ((nI 1) = 0 ∨ (nI 1) = 1) ∧ Q (nI 1) (up1 w 77 j1 x2)) ∧ (¬ x1 = x2 → ((¬ x3 = x1 → ∃ j2 : Nat, x1 = nI j2 ∧ j2 < 101 ∧ ((nI 1) = 0 ∨ (nI 1) = 1) ∧ Q (nI 1) (up1 w 77 j2 x2)) ∧ (x3 = x1 → ((nI 0) = 0 ∨ (nI 0) = 1) ∧ Q (nI 0) w))))) ∧ (¬ x3 = x1 → ∃ j3 : Nat, x3 = nI j3 ∧ j3 < 101 ∧ (((w.1 77 j3) = x3 → ((x1 = x2 → ∃ j4 : Nat, x1 = nI j4 ∧ j4 < 101 ∧ ((nI 1) = 0 ∨ (nI 1) = 1) ∧ Q (nI 1) (up1 w 77 j4 x2)) ∧ (¬ x1 = x2 → ((¬ x3 = x1 → ∃ j5 : Nat, x1 = nI j5 ∧ j5 < 101 ∧ ((nI 1) = 0 ∨ (nI 1) = 1) ∧ Q (nI 1) (up1 w 77 j5 x2)) ∧ (x3 = x1 → ((nI 0) = 0 ∨ (nI 0) = 1) ∧ Q (nI 0) w))))) ∧ (¬ (w.1 77 j3) = x3 → ∃ j6 : Nat, x3 = nI j6 ∧ j6 < 101 ∧ Z m_M_join (d + 1) (qI Q) 23 [(0, .ref 58), (1, .int x1), (2, .int x2), (3, .int (w.1 77 j6))] [] w))))) : Z m_M_join (d + 1) (qI Q) 23 [(0, .ref 58), (1, .int x1), (2, .int x2), (3, .int x3)] [] w := wp_ok (P := P_M_join) (S := S_M_join) rfl pr_M_join 23 _ _ _ _ h
def P_M_named : Prog := [(0, .aload_n 0), (1, .iconst 0), (2, .putfield 1), (5, .iload_n 1), (6, .invokestatic 243), (9, .ifCond .eq 11), (12, .aload_n 0), (13, .iload_n 1), (14, .invokevirtual 246), (17, .goto 4), (20, .iconst (-1)), (21, .ireturn)]
theorem pr_M_named : prOK m_M_named P_M_named = true := by decide +kernel
def S_M_named : List (Nat × List Nat) := []
theorem ev_M_named {d : Nat} {w : Wd} {Q : Int32 → Wd → Prop} (x1 : Int32) (h : Z m_M_named d (qI Q) 0 [(0, .ref 58), (1, .int x1)] [] w) : EvI m_M_named d [.ref 58, .int x1] w Q := Ev.ofZ (by decide +kernel) (Nat.le_of_ble_eq_true rfl) h
set_option maxRecDepth 20000 in
set_option maxHeartbeats 1000000 in
theorem vc_M_named_0 {d : Nat} {w : Wd} {Q : Int32 → Wd → Prop} (x1 : Int32) (h : ∃ Q1 : Int32 → Wd → Prop, EvI m_M_isOne d [.int x1] (up1 w 58 0 (nI 0)) Q1 ∧ ∀ (r1 : Int32) (w1 : Wd), Q1 r1 w1 → ((r1 = 0 → Q (-nI 1) w1) ∧ (¬ r1 = 0 → ∃ Q2 : Int32 → Wd → Prop, EvI m_M_nameOf d [.ref 58, .int x1] w1 Q2 ∧ ∀ (r2 : Int32) (w2 : Wd), Q2 r2 w2 → Q r2 w2))) : Z m_M_named (d + 1) (qI Q) 0 [(0, .ref 58), (1, .int x1)] [] w := wp_ok (P := P_M_named) (S := S_M_named) rfl pr_M_named 12 _ _ _ _ h
def P_M_word : Prog := [(0, .aload_n 0), (1, .iconst 0), (2, .putfield 1), (5, .iload_n 1), (6, .invokestatic 243), (9, .ifCond .eq 12), (12, .aload_n 0), (13, .getfield 249), (16, .bipush 16), (18, .if_icmp .ne 5), (21, .iconst (-1)), (22, .ireturn), (23, .aload_n 0), (24, .getfield 100), (27, .aload_n 0), (28, .getfield 249), (31, .iload_n 1), (32, .iastore), (33, .aload_n 0), (34, .dup), (35, .getfield 249), (38, .iconst 1), (39, .iadd), (40, .putfield 249), (43, .aload_n 0), (44, .getfield 249), (47, .ireturn)]
theorem pr_M_word : prOK m_M_word P_M_word = true := by decide +kernel
def S_M_word : List (Nat × List Nat) := []
theorem ev_M_word {d : Nat} {w : Wd} {Q : Int32 → Wd → Prop} (x1 : Int32) (h : Z m_M_word d (qI Q) 0 [(0, .ref 58), (1, .int x1)] [] w) : EvI m_M_word d [.ref 58, .int x1] w Q := Ev.ofZ (by decide +kernel) (Nat.le_of_ble_eq_true rfl) h
set_option maxRecDepth 20000 in
set_option maxHeartbeats 1000000 in
theorem vc_M_word_0 {d : Nat} {w : Wd} {Q : Int32 → Wd → Prop} (x1 : Int32) (h : ∃ Q1 : Int32 → Wd → Prop, EvI m_M_isOne d [.int x1] (up1 w 58 0 (nI 0)) Q1 ∧ ∀ (r1 : Int32) (w1 : Wd), Q1 r1 w1 → ((r1 = 0 → Q (-nI 1) w1) ∧ (¬ r1 = 0 → ((¬ (w1.1 58 28) = (nI 16) → ∃ j1 : Nat, (w1.1 58 28) = nI j1 ∧ j1 < 16 ∧ Q ((w1.1 58 28) + (nI 1)) (up1 (up1 w1 78 j1 x1) 58 28 ((w1.1 58 28) + (nI 1)))) ∧ ((w1.1 58 28) = (nI 16) → Q (-nI 1) w1))))) : Z m_M_word (d + 1) (qI Q) 0 [(0, .ref 58), (1, .int x1)] [] w := wp_ok (P := P_M_word) (S := S_M_word) rfl pr_M_word 26 _ _ _ _ h
def P_M_sentence : Prog := [(0, .aload_n 0), (1, .iconst 0), (2, .putfield 1), (5, .aload_n 0), (6, .getfield 249), (9, .ifCond .eq 12), (12, .aload_n 0), (13, .getfield 252), (16, .bipush 40), (18, .if_icmp .ne 5), (21, .iconst (-1)), (22, .ireturn), (23, .iconst 0), (24, .istore_n 1), (25, .iload_n 1), (26, .aload_n 0), (27, .getfield 249), (30, .if_icmp .ge 29), (33, .aload_n 0), (34, .getfield 106), (37, .bipush 16), (39, .aload_n 0), (40, .getfield 252), (43, .imul), (44, .iload_n 1), (45, .iadd), (46, .aload_n 0), (47, .getfield 100), (50, .iload_n 1), (51, .iaload), (52, .iastore), (53, .iinc 1 1), (56, .goto (-31)), (59, .aload_n 0), (60, .getfield 103), (63, .aload_n 0), (64, .getfield 252), (67, .aload_n 0), (68, .getfield 249), (71, .iastore), (72, .aload_n 0), (73, .iconst 0), (74, .putfield 249), (77, .aload_n 0), (78, .dup), (79, .getfield 252), (82, .iconst 1), (83, .iadd), (84, .putfield 252), (87, .aload_n 0), (88, .iconst 1), (89, .putfield 112), (92, .aload_n 0), (93, .getfield 252), (96, .iconst 1), (97, .isub), (98, .ireturn)]
theorem pr_M_sentence : prOK m_M_sentence P_M_sentence = true := by decide +kernel
def S_M_sentence : List (Nat × List Nat) := [(25, [0, 1])]
theorem ev_M_sentence {d : Nat} {w : Wd} {Q : Int32 → Wd → Prop}  (h : Z m_M_sentence d (qI Q) 0 [(0, .ref 58)] [] w) : EvI m_M_sentence d [.ref 58] w Q := Ev.ofZ (by decide +kernel) (Nat.le_of_ble_eq_true rfl) h
set_option maxRecDepth 20000 in
set_option maxHeartbeats 1000000 in
theorem vc_M_sentence_0 {d : Nat} {w : Wd} {Q : Int32 → Wd → Prop}  (h : (((w.1 58 28) = 0 → Q (-nI 1) (up1 w 58 0 (nI 0))) ∧ (¬ (w.1 58 28) = 0 → ((¬ (w.1 58 30) = (nI 40) → Z m_M_sentence d (qI Q) 25 [(0, .ref 58), (1, .int (nI 0))] [] (up1 w 58 0 (nI 0))) ∧ ((w.1 58 30) = (nI 40) → Q (-nI 1) (up1 w 58 0 (nI 0))))))) : Z m_M_sentence d (qI Q) 0 [(0, .ref 58)] [] w := wp_ok (P := P_M_sentence) (S := S_M_sentence) rfl pr_M_sentence 13 _ _ _ _ h
set_option maxRecDepth 20000 in
set_option maxHeartbeats 1000000 in
theorem vc_M_sentence_25 {d : Nat} {w : Wd} {Q : Int32 → Wd → Prop} (x1 : Int32) (h : (((w.1 58 28) ≤ x1 → ∃ j1 : Nat, (w.1 58 30) = nI j1 ∧ j1 < 40 ∧ ((nI 1) = 0 ∨ (nI 1) = 1) ∧ Q (((w.1 58 30) + (nI 1)) - (nI 1)) (up1 (up1 (up1 (up1 w 79 j1 (w.1 58 28)) 58 28 (nI 0)) 58 30 ((w.1 58 30) + (nI 1))) 58 34 (nI 1))) ∧ (¬ (w.1 58 28) ≤ x1 → ∃ j2 : Nat, x1 = nI j2 ∧ j2 < 16 ∧ ∃ j3 : Nat, (((nI 16) * (w.1 58 30)) + x1) = nI j3 ∧ j3 < 640 ∧ Z m_M_sentence d (qI Q) 25 [(0, .ref 58), (1, .int (x1 + nI 1))] [] (up1 w 80 j3 (w.1 78 j2))))) : Z m_M_sentence d (qI Q) 25 [(0, .ref 58), (1, .int x1)] [] w := wp_ok (P := P_M_sentence) (S := S_M_sentence) rfl pr_M_sentence 29 _ _ _ _ h
end
section
def P_M_isThere : Prog := [(0, .iload_n 1), (1, .ifCond .lt 24), (4, .iload_n 1), (5, .aload_n 0), (6, .getfield 252), (9, .if_icmp .ge 16), (12, .aload_n 0), (13, .getfield 109), (16, .iload_n 1), (17, .baload), (18, .ifCond .ne 7), (21, .iconst 1), (22, .goto 4), (25, .iconst 0), (26, .ireturn)]
theorem pr_M_isThere : prOK m_M_isThere P_M_isThere = true := by decide +kernel
def S_M_isThere : List (Nat × List Nat) := []
theorem ev_M_isThere {d : Nat} {w : Wd} {Q : Int32 → Wd → Prop} (x1 : Int32) (h : Z m_M_isThere d (qI Q) 0 [(0, .ref 58), (1, .int x1)] [] w) : EvI m_M_isThere d [.ref 58, .int x1] w Q := Ev.ofZ (by decide +kernel) (Nat.le_of_ble_eq_true rfl) h
set_option maxRecDepth 20000 in
set_option maxHeartbeats 1000000 in
theorem vc_M_isThere_0 {d : Nat} {w : Wd} {Q : Int32 → Wd → Prop} (x1 : Int32) (h : ((x1 < 0 → ((nI 0) = 0 ∨ (nI 0) = 1) ∧ Q (nI 0) w) ∧ (¬ x1 < 0 → (((w.1 58 30) ≤ x1 → ((nI 0) = 0 ∨ (nI 0) = 1) ∧ Q (nI 0) w) ∧ (¬ (w.1 58 30) ≤ x1 → ∃ j1 : Nat, x1 = nI j1 ∧ j1 < 40 ∧ ((¬ (w.1 81 j1) = 0 → ((nI 0) = 0 ∨ (nI 0) = 1) ∧ Q (nI 0) w) ∧ ((w.1 81 j1) = 0 → ((nI 1) = 0 ∨ (nI 1) = 1) ∧ Q (nI 1) w))))))) : Z m_M_isThere d (qI Q) 0 [(0, .ref 58), (1, .int x1)] [] w := wp_ok (P := P_M_isThere) (S := S_M_isThere) rfl pr_M_isThere 15 _ _ _ _ h
def P_M_take : Prog := [(0, .aload_n 0), (1, .iconst 0), (2, .putfield 1), (5, .aload_n 0), (6, .iload_n 1), (7, .invokevirtual 255), (10, .ifCond .ne 5), (13, .iconst 0), (14, .ireturn), (15, .aload_n 0), (16, .getfield 109), (19, .iload_n 1), (20, .iconst 1), (21, .bastore), (22, .aload_n 0), (23, .iconst 1), (24, .putfield 112), (27, .iconst 1), (28, .ireturn)]
theorem pr_M_take : prOK m_M_take P_M_take = true := by decide +kernel
def S_M_take : List (Nat × List Nat) := []
theorem ev_M_take {d : Nat} {w : Wd} {Q : Int32 → Wd → Prop} (x1 : Int32) (h : Z m_M_take d (qI Q) 0 [(0, .ref 58), (1, .int x1)] [] w) : EvI m_M_take d [.ref 58, .int x1] w Q := Ev.ofZ (by decide +kernel) (Nat.le_of_ble_eq_true rfl) h
set_option maxRecDepth 20000 in
set_option maxHeartbeats 1000000 in
theorem vc_M_take_0 {d : Nat} {w : Wd} {Q : Int32 → Wd → Prop} (x1 : Int32) (h : ∃ Q1 : Int32 → Wd → Prop, EvI m_M_isThere d [.ref 58, .int x1] (up1 w 58 0 (nI 0)) Q1 ∧ ∀ (r1 : Int32) (w1 : Wd), Q1 r1 w1 → ((¬ r1 = 0 → ∃ j1 : Nat, x1 = nI j1 ∧ j1 < 40 ∧ ((nI 1) = 0 ∨ (nI 1) = 1) ∧ ((nI 1) = 0 ∨ (nI 1) = 1) ∧ ((nI 1) = 0 ∨ (nI 1) = 1) ∧ Q (nI 1) (up1 (up1 w1 81 j1 (nI 1)) 58 34 (nI 1))) ∧ (r1 = 0 → ((nI 0) = 0 ∨ (nI 0) = 1) ∧ Q (nI 0) w1))) : Z m_M_take (d + 1) (qI Q) 0 [(0, .ref 58), (1, .int x1)] [] w := wp_ok (P := P_M_take) (S := S_M_take) rfl pr_M_take 18 _ _ _ _ h
def P_M_fits : Prog := [(0, .iload_n 1), (1, .iconst 2), (2, .if_icmp .eq 25), (5, .iload_n 1), (6, .ifCond .ne 11), (9, .iload_n 3), (10, .iload_n 2), (11, .if_icmp .ne 20), (14, .goto 13), (17, .aload_n 0), (18, .getfield 94), (21, .iload_n 3), (22, .iaload), (23, .iload_n 2), (24, .if_icmp .ne 7), (27, .iconst 1), (28, .goto 4), (31, .iconst 0), (32, .ireturn)]
theorem pr_M_fits : prOK m_M_fits P_M_fits = true := by decide +kernel
def S_M_fits : List (Nat × List Nat) := []
theorem ev_M_fits {d : Nat} {w : Wd} {Q : Int32 → Wd → Prop} (x1 : Int32) (x2 : Int32) (x3 : Int32) (h : Z m_M_fits d (qI Q) 0 [(0, .ref 58), (1, .int x1), (2, .int x2), (3, .int x3)] [] w) : EvI m_M_fits d [.ref 58, .int x1, .int x2, .int x3] w Q := Ev.ofZ (by decide +kernel) (Nat.le_of_ble_eq_true rfl) h
set_option maxRecDepth 20000 in
set_option maxHeartbeats 1000000 in
theorem vc_M_fits_0 {d : Nat} {w : Wd} {Q : Int32 → Wd → Prop} (x1 : Int32) (x2 : Int32) (x3 : Int32) (h : ((x1 = (nI 2) → ((nI 1) = 0 ∨ (nI 1) = 1) ∧ Q (nI 1) w) ∧ (¬ x1 = (nI 2) → ((¬ x1 = 0 → ∃ j1 : Nat, x3 = nI j1 ∧ j1 < 101 ∧ ((¬ (w.1 76 j1) = x2 → ((nI 0) = 0 ∨ (nI 0) = 1) ∧ Q (nI 0) w) ∧ ((w.1 76 j1) = x2 → ((nI 1) = 0 ∨ (nI 1) = 1) ∧ Q (nI 1) w))) ∧ (x1 = 0 → ((¬ x3 = x2 → ((nI 0) = 0 ∨ (nI 0) = 1) ∧ Q (nI 0) w) ∧ (x3 = x2 → ((nI 1) = 0 ∨ (nI 1) = 1) ∧ Q (nI 1) w))))))) : Z m_M_fits d (qI Q) 0 [(0, .ref 58), (1, .int x1), (2, .int x2), (3, .int x3)] [] w := wp_ok (P := P_M_fits) (S := S_M_fits) rfl pr_M_fits 15 _ _ _ _ h
def P_M_findOf : Prog := [(0, .sipush 256), (3, .bipush 12), (5, .iload_n 0), (6, .imul), (7, .iload_n 1), (8, .iadd), (9, .imul), (10, .bipush 16), (12, .iload_n 2), (13, .imul), (14, .iadd), (15, .iload_n 3), (16, .iadd), (17, .ireturn)]
theorem pr_M_findOf : prOK m_M_findOf P_M_findOf = true := by decide +kernel
def S_M_findOf : List (Nat × List Nat) := []
theorem ev_M_findOf {d : Nat} {w : Wd} {Q : Int32 → Wd → Prop} (x0 : Int32) (x1 : Int32) (x2 : Int32) (x3 : Int32) (h : Z m_M_findOf d (qI Q) 0 [(0, .int x0), (1, .int x1), (2, .int x2), (3, .int x3)] [] w) : EvI m_M_findOf d [.int x0, .int x1, .int x2, .int x3] w Q := Ev.ofZ (by decide +kernel) (Nat.le_of_ble_eq_true rfl) h
set_option maxRecDepth 20000 in
set_option maxHeartbeats 1000000 in
theorem vc_M_findOf_0 {d : Nat} {w : Wd} {Q : Int32 → Wd → Prop} (x0 : Int32) (x1 : Int32) (x2 : Int32) (x3 : Int32) (h : Q ((((nI 256) * (((nI 12) * x0) + x1)) + ((nI 16) * x2)) + x3) w) : Z m_M_findOf d (qI Q) 0 [(0, .int x0), (1, .int x1), (2, .int x2), (3, .int x3)] [] w := wp_ok (P := P_M_findOf) (S := S_M_findOf) rfl pr_M_findOf 15 _ _ _ _ h
def P_M_findAll : Prog := [(0, .aload_n 0), (1, .getfield 112), (4, .ifCond .ne 4), (7, .return_), (8, .iconst 0), (9, .istore_n 1), (10, .iload_n 1), (11, .ldc 116), (13, .if_icmp .ge 16), (16, .aload_n 0), (17, .getfield 117), (20, .iload_n 1), (21, .iconst 0), (22, .bastore), (23, .iinc 1 1), (26, .goto (-16)), (29, .iconst 0), (30, .istore_n 1), (31, .iload_n 1), (32, .aload_n 0), (33, .getfield 252), (36, .if_icmp .ge 45), (39, .iconst 0), (40, .istore_n 2), (41, .iload_n 2), (42, .aload_n 0), (43, .getfield 57), (46, .aload_n 0), (47, .getfield 202), (50, .iaload), (51, .if_icmp .ge 24), (54, .aload_n 0), (55, .getfield 109), (58, .iload_n 1), (59, .baload), (60, .ifCond .ne 15), (63, .aload_n 0), (64, .iload_n 1), (65, .iload_n 2), (66, .invokevirtual 258), (69, .iinc 2 1), (72, .goto (-31)), (75, .iinc 1 1), (78, .goto (-47)), (81, .aload_n 0), (82, .iconst 0), (83, .putfield 112), (86, .return_)]
theorem pr_M_findAll : prOK m_M_findAll P_M_findAll = true := by decide +kernel
def S_M_findAll : List (Nat × List Nat) := [(10, [0, 1]), (31, [0, 1]), (41, [0, 1, 2])]
theorem ev_M_findAll {d : Nat} {w : Wd} {Q : Wd → Prop}  (h : Z m_M_findAll d (qV Q) 0 [(0, .ref 58)] [] w) : EvV m_M_findAll d [.ref 58] w Q := Ev.ofZ (by decide +kernel) (Nat.le_of_ble_eq_true rfl) h
set_option maxRecDepth 20000 in
set_option maxHeartbeats 1000000 in
theorem vc_M_findAll_0 {d : Nat} {w : Wd} {Q : Wd → Prop}  (h : ((¬ (w.1 58 34) = 0 → Z m_M_findAll (d + 1) (qV Q) 10 [(0, .ref 58), (1, .int (nI 0))] [] w) ∧ ((w.1 58 34) = 0 → Q w))) : Z m_M_findAll (d + 1) (qV Q) 0 [(0, .ref 58)] [] w := wp_ok (P := P_M_findAll) (S := S_M_findAll) rfl pr_M_findAll 6 _ _ _ _ h
set_option maxRecDepth 20000 in
set_option maxHeartbeats 1000000 in
theorem vc_M_findAll_10 {d : Nat} {w : Wd} {Q : Wd → Prop} (x1 : Int32) (h : (((122880 : Int32) ≤ x1 → Z m_M_findAll (d + 1) (qV Q) 31 [(0, .ref 58), (1, .int (nI 0))] [] w) ∧ (¬ (122880 : Int32) ≤ x1 → ∃ j1 : Nat, x1 = nI j1 ∧ j1 < 122880 ∧ ((nI 0) = 0 ∨ (nI 0) = 1) ∧ Z m_M_findAll (d + 1) (qV Q) 10 [(0, .ref 58), (1, .int (x1 + nI 1))] [] (up1 w 82 j1 (nI 0))))) : Z m_M_findAll (d + 1) (qV Q) 10 [(0, .ref 58), (1, .int x1)] [] w := wp_ok (P := P_M_findAll) (S := S_M_findAll) rfl pr_M_findAll 11 _ _ _ _ h
set_option maxRecDepth 20000 in
set_option maxHeartbeats 1000000 in
theorem vc_M_findAll_31 {d : Nat} {w : Wd} {Q : Wd → Prop} (x1 : Int32) (h : (((w.1 58 30) ≤ x1 → ((nI 0) = 0 ∨ (nI 0) = 1) ∧ Q (up1 w 58 34 (nI 0))) ∧ (¬ (w.1 58 30) ≤ x1 → Z m_M_findAll (d + 1) (qV Q) 41 [(0, .ref 58), (1, .int x1), (2, .int (nI 0))] [] w))) : Z m_M_findAll (d + 1) (qV Q) 31 [(0, .ref 58), (1, .int x1)] [] w := wp_ok (P := P_M_findAll) (S := S_M_findAll) rfl pr_M_findAll 9 _ _ _ _ h
set_option maxRecDepth 20000 in
set_option maxHeartbeats 1000000 in
theorem vc_M_findAll_41 {d : Nat} {w : Wd} {Q : Wd → Prop} (x1 : Int32) (x2 : Int32) (h : ∃ j1 : Nat, (w.1 58 10) = nI j1 ∧ j1 < 2 ∧ (((w.1 64 j1) ≤ x2 → Z m_M_findAll (d + 1) (qV Q) 31 [(0, .ref 58), (1, .int (x1 + nI 1))] [] w) ∧ (¬ (w.1 64 j1) ≤ x2 → ∃ j2 : Nat, x1 = nI j2 ∧ j2 < 40 ∧ ((¬ (w.1 81 j2) = 0 → Z m_M_findAll (d + 1) (qV Q) 31 [(0, .ref 58), (1, .int (x1 + nI 1))] [] w) ∧ ((w.1 81 j2) = 0 → ∃ Q1 : Wd → Prop, EvV m_M_matches d [.ref 58, .int x1, .int x2] w Q1 ∧ ∀ w1 : Wd, Q1 w1 → Z m_M_findAll (d + 1) (qV Q) 41 [(0, .ref 58), (1, .int x1), (2, .int (x2 + nI 1))] [] w1))))) : Z m_M_findAll (d + 1) (qV Q) 41 [(0, .ref 58), (1, .int x1), (2, .int x2)] [] w := wp_ok (P := P_M_findAll) (S := S_M_findAll) rfl pr_M_findAll 19 _ _ _ _ h
def P_M_matches : Prog := [(0, .aload_n 0), (1, .getfield 103), (4, .iload_n 1), (5, .iaload), (6, .istore_n 3), (7, .iconst 0), (8, .istore 4), (10, .iload 4), (12, .sipush 4913), (15, .if_icmp .ge 17), (18, .aload_n 0), (19, .getfield 120), (22, .iload 4), (24, .iconst 0), (25, .bastore), (26, .iinc 4 1), (29, .goto (-19)), (32, .iconst 0), (33, .istore 4), (35, .iload 4), (37, .iload_n 3), (38, .if_icmp .gt 25), (41, .aload_n 0), (42, .getfield 120), (45, .sipush 289), (48, .iload 4), (50, .imul), (51, .sipush 288), (54, .iadd), (55, .iconst 1), (56, .bastore), (57, .iinc 4 1), (60, .goto (-25)), (63, .bipush 12), (65, .aload_n 0), (66, .getfield 202), (69, .imul), (70, .iload_n 2), (71, .iadd), (72, .istore 4), (74, .bipush 10), (76, .iload 4), (78, .imul), (79, .istore 5), (81, .iload 5), (83, .bipush 10), (85, .iload 4), (87, .imul), (88, .aload_n 0), (89, .getfield 63), (92, .iload 4), (94, .iaload), (95, .iadd), (96, .if_icmp .ge 137), (99, .iconst 0), (100, .istore 6), (102, .iload 6), (104, .sipush 4913), (107, .if_icmp .ge 17), (110, .aload_n 0), (111, .getfield 123), (114, .iload 6), (116, .iconst 0), (117, .bastore), (118, .iinc 6 1), (121, .goto (-19)), (124, .iconst 0), (125, .istore 6), (127, .iload 6), (129, .iload_n 3), (130, .if_icmp .gt 66), (133, .sipush 289), (136, .iload 6), (138, .imul), (139, .istore 7), (141, .iload 7), (143, .sipush 289), (146, .iload 6), (148, .imul), (149, .sipush 289), (152, .iadd), (153, .if_icmp .ge 37), (156, .aload_n 0), (157, .getfield 120), (160, .iload 7), (162, .baload), (163, .ifCond .eq 21), (166, .aload_n 0), (167, .iload_n 1), (168, .iload 5), (170, .iload 6), (172, .iload 7), (174, .sipush 289), (177, .iload 6), (179, .imul), (180, .isub), (181, .invokevirtual 262), (184, .iinc 7 1), (187, .goto (-46)), (190, .iinc 6 1), (193, .goto (-66)), (196, .iconst 0), (197, .istore 6), (199, .iload 6), (201, .sipush 4913), (204, .if_icmp .ge 23), (207, .aload_n 0), (208, .getfield 120), (211, .iload 6), (213, .aload_n 0), (214, .getfield 123), (217, .iload 6), (219, .baload), (220, .bastore), (221, .iinc 6 1), (224, .goto (-25)), (227, .iinc 5 1), (230, .goto (-149)), (233, .iconst 0), (234, .istore 5), (236, .iload 5), (238, .iload_n 3), (239, .if_icmp .gt 79), (242, .iconst 0), (243, .istore 6), (245, .iload 6), (247, .bipush 16), (249, .if_icmp .ge 63), (252, .iconst 0), (253, .istore 7), (255, .iload 7), (257, .bipush 16), (259, .if_icmp .ge 47), (262, .aload_n 0), (263, .getfield 120), (266, .sipush 289), (269, .iload 5), (271, .imul), (272, .bipush 17), (274, .iload 6), (276, .imul), (277, .iadd), (278, .iload 7), (280, .iadd), (281, .baload), (282, .ifCond .eq 18), (285, .aload_n 0), (286, .getfield 117), (289, .iload_n 1), (290, .iload_n 2), (291, .iload 6), (293, .iload 7), (295, .invokestatic 266), (298, .iconst 1), (299, .bastore), (300, .iinc 7 1), (303, .goto (-48)), (306, .iinc 6 1), (309, .goto (-64)), (312, .iinc 5 1), (315, .goto (-79)), (318, .return_)]
theorem pr_M_matches : prOK m_M_matches P_M_matches = true := by decide +kernel
def S_M_matches : List (Nat × List Nat) := [(10, [0, 1, 2, 3, 4]), (35, [0, 1, 2, 3, 4]), (81, [0, 1, 2, 3, 4, 5]), (102, [0, 1, 2, 3, 4, 5, 6]), (127, [0, 1, 2, 3, 4, 5, 6]), (141, [0, 1, 2, 3, 4, 5, 6, 7]), (199, [0, 1, 2, 3, 4, 5, 6]), (236, [0, 1, 2, 3, 4, 5]), (245, [0, 1, 2, 3, 4, 5, 6]), (255, [0, 1, 2, 3, 4, 5, 6, 7])]
theorem ev_M_matches {d : Nat} {w : Wd} {Q : Wd → Prop} (x1 : Int32) (x2 : Int32) (h : Z m_M_matches d (qV Q) 0 [(0, .ref 58), (1, .int x1), (2, .int x2)] [] w) : EvV m_M_matches d [.ref 58, .int x1, .int x2] w Q := Ev.ofZ (by decide +kernel) (Nat.le_of_ble_eq_true rfl) h
set_option maxRecDepth 20000 in
set_option maxHeartbeats 1000000 in
theorem vc_M_matches_0 {d : Nat} {w : Wd} {Q : Wd → Prop} (x1 : Int32) (x2 : Int32) (h : ∃ j1 : Nat, x1 = nI j1 ∧ j1 < 40 ∧ Z m_M_matches (d + 1) (qV Q) 10 [(0, .ref 58), (1, .int x1), (2, .int x2), (3, .int (w.1 79 j1)), (4, .int (nI 0))] [] w) : Z m_M_matches (d + 1) (qV Q) 0 [(0, .ref 58), (1, .int x1), (2, .int x2)] [] w := wp_ok (P := P_M_matches) (S := S_M_matches) rfl pr_M_matches 8 _ _ _ _ h
set_option maxRecDepth 20000 in
set_option maxHeartbeats 1000000 in
theorem vc_M_matches_10 {d : Nat} {w : Wd} {Q : Wd → Prop} (x1 : Int32) (x2 : Int32) (x3 : Int32) (x4 : Int32) (h : (((nI 4913) ≤ x4 → Z m_M_matches (d + 1) (qV Q) 35 [(0, .ref 58), (1, .int x1), (2, .int x2), (3, .int x3), (4, .int (nI 0))] [] w) ∧ (¬ (nI 4913) ≤ x4 → ∃ j1 : Nat, x4 = nI j1 ∧ j1 < 4913 ∧ ((nI 0) = 0 ∨ (nI 0) = 1) ∧ Z m_M_matches (d + 1) (qV Q) 10 [(0, .ref 58), (1, .int x1), (2, .int x2), (3, .int x3), (4, .int (x4 + nI 1))] [] (up1 w 83 j1 (nI 0))))) : Z m_M_matches (d + 1) (qV Q) 10 [(0, .ref 58), (1, .int x1), (2, .int x2), (3, .int x3), (4, .int x4)] [] w := wp_ok (P := P_M_matches) (S := S_M_matches) rfl pr_M_matches 11 _ _ _ _ h
set_option maxRecDepth 20000 in
set_option maxHeartbeats 1000000 in
theorem vc_M_matches_35 {d : Nat} {w : Wd} {Q : Wd → Prop} (x1 : Int32) (x2 : Int32) (x3 : Int32) (x4 : Int32) (h : ((x3 < x4 → Z m_M_matches (d + 1) (qV Q) 81 [(0, .ref 58), (1, .int x1), (2, .int x2), (3, .int x3), (4, .int (((nI 12) * (w.1 58 10)) + x2)), (5, .int ((nI 10) * (((nI 12) * (w.1 58 10)) + x2)))] [] w) ∧ (¬ x3 < x4 → ∃ j1 : Nat, (((nI 289) * x4) + (nI 288)) = nI j1 ∧ j1 < 4913 ∧ ((nI 1) = 0 ∨ (nI 1) = 1) ∧ Z m_M_matches (d + 1) (qV Q) 35 [(0, .ref 58), (1, .int x1), (2, .int x2), (3, .int x3), (4, .int (x4 + nI 1))] [] (up1 w 83 j1 (nI 1))))) : Z m_M_matches (d + 1) (qV Q) 35 [(0, .ref 58), (1, .int x1), (2, .int x2), (3, .int x3), (4, .int x4)] [] w := wp_ok (P := P_M_matches) (S := S_M_matches) rfl pr_M_matches 15 _ _ _ _ h
set_option maxRecDepth 20000 in
set_option maxHeartbeats 1000000 in
theorem vc_M_matches_81 {d : Nat} {w : Wd} {Q : Wd → Prop} (x1 : Int32) (x2 : Int32) (x3 : Int32) (x4 : Int32) (x5 : Int32) (h : ∃ j1 : Nat, x4 = nI j1 ∧ j1 < 24 ∧ (((((nI 10) * x4) + (w.1 66 j1)) ≤ x5 → Z m_M_matches (d + 1) (qV Q) 236 [(0, .ref 58), (1, .int x1), (2, .int x2), (3, .int x3), (4, .int x4), (5, .int (nI 0))] [] w) ∧ (¬ (((nI 10) * x4) + (w.1 66 j1)) ≤ x5 → Z m_M_matches (d + 1) (qV Q) 102 [(0, .ref 58), (1, .int x1), (2, .int x2), (3, .int x3), (4, .int x4), (5, .int x5), (6, .int (nI 0))] [] w))) : Z m_M_matches (d + 1) (qV Q) 81 [(0, .ref 58), (1, .int x1), (2, .int x2), (3, .int x3), (4, .int x4), (5, .int x5)] [] w := wp_ok (P := P_M_matches) (S := S_M_matches) rfl pr_M_matches 13 _ _ _ _ h
set_option maxRecDepth 20000 in
set_option maxHeartbeats 1000000 in
theorem vc_M_matches_102 {d : Nat} {w : Wd} {Q : Wd → Prop} (x1 : Int32) (x2 : Int32) (x3 : Int32) (x4 : Int32) (x5 : Int32) (x6 : Int32) (h : (((nI 4913) ≤ x6 → Z m_M_matches (d + 1) (qV Q) 127 [(0, .ref 58), (1, .int x1), (2, .int x2), (3, .int x3), (4, .int x4), (5, .int x5), (6, .int (nI 0))] [] w) ∧ (¬ (nI 4913) ≤ x6 → ∃ j1 : Nat, x6 = nI j1 ∧ j1 < 4913 ∧ ((nI 0) = 0 ∨ (nI 0) = 1) ∧ Z m_M_matches (d + 1) (qV Q) 102 [(0, .ref 58), (1, .int x1), (2, .int x2), (3, .int x3), (4, .int x4), (5, .int x5), (6, .int (x6 + nI 1))] [] (up1 w 84 j1 (nI 0))))) : Z m_M_matches (d + 1) (qV Q) 102 [(0, .ref 58), (1, .int x1), (2, .int x2), (3, .int x3), (4, .int x4), (5, .int x5), (6, .int x6)] [] w := wp_ok (P := P_M_matches) (S := S_M_matches) rfl pr_M_matches 11 _ _ _ _ h
set_option maxRecDepth 20000 in
set_option maxHeartbeats 1000000 in
theorem vc_M_matches_127 {d : Nat} {w : Wd} {Q : Wd → Prop} (x1 : Int32) (x2 : Int32) (x3 : Int32) (x4 : Int32) (x5 : Int32) (x6 : Int32) (h : ((x3 < x6 → Z m_M_matches (d + 1) (qV Q) 199 [(0, .ref 58), (1, .int x1), (2, .int x2), (3, .int x3), (4, .int x4), (5, .int x5), (6, .int (nI 0))] [] w) ∧ (¬ x3 < x6 → Z m_M_matches (d + 1) (qV Q) 141 [(0, .ref 58), (1, .int x1), (2, .int x2), (3, .int x3), (4, .int x4), (5, .int x5), (6, .int x6), (7, .int ((nI 289) * x6))] [] w))) : Z m_M_matches (d + 1) (qV Q) 127 [(0, .ref 58), (1, .int x1), (2, .int x2), (3, .int x3), (4, .int x4), (5, .int x5), (6, .int x6)] [] w := wp_ok (P := P_M_matches) (S := S_M_matches) rfl pr_M_matches 8 _ _ _ _ h
set_option maxRecDepth 20000 in
set_option maxHeartbeats 1000000 in
theorem vc_M_matches_141 {d : Nat} {w : Wd} {Q : Wd → Prop} (x1 : Int32) (x2 : Int32) (x3 : Int32) (x4 : Int32) (x5 : Int32) (x6 : Int32) (x7 : Int32) (h : (((((nI 289) * x6) + (nI 289)) ≤ x7 → Z m_M_matches (d + 1) (qV Q) 127 [(0, .ref 58), (1, .int x1), (2, .int x2), (3, .int x3), (4, .int x4), (5, .int x5), (6, .int (x6 + nI 1))] [] w) ∧ (¬ (((nI 289) * x6) + (nI 289)) ≤ x7 → ∃ j1 : Nat, x7 = nI j1 ∧ j1 < 4913 ∧ (((w.1 83 j1) = 0 → Z m_M_matches (d + 1) (qV Q) 141 [(0, .ref 58), (1, .int x1), (2, .int x2), (3, .int x3), (4, .int x4), (5, .int x5), (6, .int x6), (7, .int (x7 + nI 1))] [] w) ∧ (¬ (w.1 83 j1) = 0 → ∃ Q1 : Wd → Prop, EvV m_M_goes d [.ref 58, .int x1, .int x5, .int x6, .int (x7 - ((nI 289) * x6))] w Q1 ∧ ∀ w1 : Wd, Q1 w1 → Z m_M_matches (d + 1) (qV Q) 141 [(0, .ref 58), (1, .int x1), (2, .int x2), (3, .int x3), (4, .int x4), (5, .int x5), (6, .int x6), (7, .int (x7 + nI 1))] [] w1))))) : Z m_M_matches (d + 1) (qV Q) 141 [(0, .ref 58), (1, .int x1), (2, .int x2), (3, .int x3), (4, .int x4), (5, .int x5), (6, .int x6), (7, .int x7)] [] w := wp_ok (P := P_M_matches) (S := S_M_matches) rfl pr_M_matches 25 _ _ _ _ h
set_option maxRecDepth 20000 in
set_option maxHeartbeats 1000000 in
theorem vc_M_matches_199 {d : Nat} {w : Wd} {Q : Wd → Prop} (x1 : Int32) (x2 : Int32) (x3 : Int32) (x4 : Int32) (x5 : Int32) (x6 : Int32) (h : (((nI 4913) ≤ x6 → Z m_M_matches (d + 1) (qV Q) 81 [(0, .ref 58), (1, .int x1), (2, .int x2), (3, .int x3), (4, .int x4), (5, .int (x5 + nI 1))] [] w) ∧ (¬ (nI 4913) ≤ x6 → ∃ j1 : Nat, x6 = nI j1 ∧ j1 < 4913 ∧ ∃ j2 : Nat, x6 = nI j2 ∧ j2 < 4913 ∧ ((w.1 84 j1) = 0 ∨ (w.1 84 j1) = 1) ∧ Z m_M_matches (d + 1) (qV Q) 199 [(0, .ref 58), (1, .int x1), (2, .int x2), (3, .int x3), (4, .int x4), (5, .int x5), (6, .int (x6 + nI 1))] [] (up1 w 83 j2 (w.1 84 j1))))) : Z m_M_matches (d + 1) (qV Q) 199 [(0, .ref 58), (1, .int x1), (2, .int x2), (3, .int x3), (4, .int x4), (5, .int x5), (6, .int x6)] [] w := wp_ok (P := P_M_matches) (S := S_M_matches) rfl pr_M_matches 14 _ _ _ _ h
set_option maxRecDepth 20000 in
set_option maxHeartbeats 1000000 in
theorem vc_M_matches_236 {d : Nat} {w : Wd} {Q : Wd → Prop} (x1 : Int32) (x2 : Int32) (x3 : Int32) (x4 : Int32) (x5 : Int32) (h : ((x3 < x5 → Q w) ∧ (¬ x3 < x5 → Z m_M_matches (d + 1) (qV Q) 245 [(0, .ref 58), (1, .int x1), (2, .int x2), (3, .int x3), (4, .int x4), (5, .int x5), (6, .int (nI 0))] [] w))) : Z m_M_matches (d + 1) (qV Q) 236 [(0, .ref 58), (1, .int x1), (2, .int x2), (3, .int x3), (4, .int x4), (5, .int x5)] [] w := wp_ok (P := P_M_matches) (S := S_M_matches) rfl pr_M_matches 6 _ _ _ _ h
set_option maxRecDepth 20000 in
set_option maxHeartbeats 1000000 in
theorem vc_M_matches_245 {d : Nat} {w : Wd} {Q : Wd → Prop} (x1 : Int32) (x2 : Int32) (x3 : Int32) (x4 : Int32) (x5 : Int32) (x6 : Int32) (h : (((nI 16) ≤ x6 → Z m_M_matches (d + 1) (qV Q) 236 [(0, .ref 58), (1, .int x1), (2, .int x2), (3, .int x3), (4, .int x4), (5, .int (x5 + nI 1))] [] w) ∧ (¬ (nI 16) ≤ x6 → Z m_M_matches (d + 1) (qV Q) 255 [(0, .ref 58), (1, .int x1), (2, .int x2), (3, .int x3), (4, .int x4), (5, .int x5), (6, .int x6), (7, .int (nI 0))] [] w))) : Z m_M_matches (d + 1) (qV Q) 245 [(0, .ref 58), (1, .int x1), (2, .int x2), (3, .int x3), (4, .int x4), (5, .int x5), (6, .int x6)] [] w := wp_ok (P := P_M_matches) (S := S_M_matches) rfl pr_M_matches 6 _ _ _ _ h
set_option maxRecDepth 20000 in
set_option maxHeartbeats 1000000 in
theorem vc_M_matches_255 {d : Nat} {w : Wd} {Q : Wd → Prop} (x1 : Int32) (x2 : Int32) (x3 : Int32) (x4 : Int32) (x5 : Int32) (x6 : Int32) (x7 : Int32) (h : (((nI 16) ≤ x7 → Z m_M_matches (d + 1) (qV Q) 245 [(0, .ref 58), (1, .int x1), (2, .int x2), (3, .int x3), (4, .int x4), (5, .int x5), (6, .int (x6 + nI 1))] [] w) ∧ (¬ (nI 16) ≤ x7 → ∃ j1 : Nat, ((((nI 289) * x5) + ((nI 17) * x6)) + x7) = nI j1 ∧ j1 < 4913 ∧ (((w.1 83 j1) = 0 → Z m_M_matches (d + 1) (qV Q) 255 [(0, .ref 58), (1, .int x1), (2, .int x2), (3, .int x3), (4, .int x4), (5, .int x5), (6, .int x6), (7, .int (x7 + nI 1))] [] w) ∧ (¬ (w.1 83 j1) = 0 → ∃ Q1 : Int32 → Wd → Prop, EvI m_M_findOf d [.int x1, .int x2, .int x6, .int x7] w Q1 ∧ ∀ (r1 : Int32) (w1 : Wd), Q1 r1 w1 → ∃ j2 : Nat, r1 = nI j2 ∧ j2 < 122880 ∧ ((nI 1) = 0 ∨ (nI 1) = 1) ∧ Z m_M_matches (d + 1) (qV Q) 255 [(0, .ref 58), (1, .int x1), (2, .int x2), (3, .int x3), (4, .int x4), (5, .int x5), (6, .int x6), (7, .int (x7 + nI 1))] [] (up1 w1 82 j2 (nI 1))))))) : Z m_M_matches (d + 1) (qV Q) 255 [(0, .ref 58), (1, .int x1), (2, .int x2), (3, .int x3), (4, .int x4), (5, .int x5), (6, .int x6), (7, .int x7)] [] w := wp_ok (P := P_M_matches) (S := S_M_matches) rfl pr_M_matches 28 _ _ _ _ h
def P_M_goes : Prog := [(0, .aload_n 0), (1, .getfield 66), (4, .iload_n 2), (5, .baload), (6, .ifCond .eq 49), (9, .iload_n 3), (10, .istore 5), (12, .iload 5), (14, .iload_n 3), (15, .iconst 3), (16, .iadd), (17, .if_icmp .gt 35), (20, .iload 5), (22, .aload_n 0), (23, .getfield 103), (26, .iload_n 1), (27, .iaload), (28, .if_icmp .gt 24), (31, .aload_n 0), (32, .getfield 123), (35, .sipush 289), (38, .iload 5), (40, .imul), (41, .iload 4), (43, .iadd), (44, .iconst 1), (45, .bastore), (46, .iinc 5 1), (49, .goto (-37)), (52, .goto 107), (55, .iload_n 3), (56, .aload_n 0), (57, .getfield 103), (60, .iload_n 1), (61, .iaload), (62, .if_icmp .ge 97), (65, .aload_n 0), (66, .aload_n 0), (67, .getfield 73), (70, .iload_n 2), (71, .iaload), (72, .aload_n 0), (73, .getfield 76), (76, .iload_n 2), (77, .iaload), (78, .aload_n 0), (79, .getfield 106), (82, .bipush 16), (84, .iload_n 1), (85, .imul), (86, .iload_n 3), (87, .iadd), (88, .iaload), (89, .invokevirtual 270), (92, .ifCond .eq 67), (95, .aload_n 0), (96, .getfield 70), (99, .iload_n 2), (100, .iaload), (101, .iconst 1), (102, .if_icmp .ne 7), (105, .iload_n 3), (106, .goto 8), (109, .iload 4), (111, .bipush 17), (113, .idiv), (114, .istore 5), (116, .aload_n 0), (117, .getfield 70), (120, .iload_n 2), (121, .iaload), (122, .iconst 2), (123, .if_icmp .ne 7), (126, .iload_n 3), (127, .goto 8), (130, .iload 4), (132, .bipush 17), (134, .irem), (135, .istore 6), (137, .aload_n 0), (138, .getfield 123), (141, .sipush 289), (144, .iload_n 3), (145, .iconst 1), (146, .iadd), (147, .imul), (148, .bipush 17), (150, .iload 5), (152, .imul), (153, .iadd), (154, .iload 6), (156, .iadd), (157, .iconst 1), (158, .bastore), (159, .return_)]
theorem pr_M_goes : prOK m_M_goes P_M_goes = true := by decide +kernel
def S_M_goes : List (Nat × List Nat) := [(12, [0, 1, 2, 3, 4, 5])]
theorem ev_M_goes {d : Nat} {w : Wd} {Q : Wd → Prop} (x1 : Int32) (x2 : Int32) (x3 : Int32) (x4 : Int32) (h : Z m_M_goes d (qV Q) 0 [(0, .ref 58), (1, .int x1), (2, .int x2), (3, .int x3), (4, .int x4)] [] w) : EvV m_M_goes d [.ref 58, .int x1, .int x2, .int x3, .int x4] w Q := Ev.ofZ (by decide +kernel) (Nat.le_of_ble_eq_true rfl) h
set_option maxRecDepth 20000 in
set_option maxHeartbeats 1000000 in
theorem vc_M_goes_0 {d : Nat} {w : Wd} {Q : Wd → Prop} (x1 : Int32) (x2 : Int32) (x3 : Int32) (x4 : Int32) (h : ∃ j1 : Nat, x2 = nI j1 ∧ j1 < 240 ∧ (((w.1 67 j1) = 0 → ∃ j2 : Nat, x1 = nI j2 ∧ j2 < 40 ∧ (((w.1 79 j2) ≤ x3 → Q w) ∧ (¬ (w.1 79 j2) ≤ x3 → ∃ j3 : Nat, x2 = nI j3 ∧ j3 < 240 ∧ ∃ j4 : Nat, x2 = nI j4 ∧ j4 < 240 ∧ ∃ j5 : Nat, (((nI 16) * x1) + x3) = nI j5 ∧ j5 < 640 ∧ ∃ Q1 : Int32 → Wd → Prop, EvI m_M_fits d [.ref 58, .int (w.1 69 j3), .int (w.1 70 j4), .int (w.1 80 j5)] w Q1 ∧ ∀ (r1 : Int32) (w1 : Wd), Q1 r1 w1 → ((r1 = 0 → Q w1) ∧ (¬ r1 = 0 → ∃ j6 : Nat, x2 = nI j6 ∧ j6 < 240 ∧ ((¬ (w1.1 68 j6) = (nI 1) → ¬ (nI 17) = 0 ∧ ∃ j7 : Nat, x2 = nI j7 ∧ j7 < 240 ∧ ((¬ (w1.1 68 j7) = (nI 2) → ¬ (nI 17) = 0 ∧ ∃ j8 : Nat, ((((nI 289) * (x3 + (nI 1))) + ((nI 17) * (x4 / (nI 17)))) + (x4 - x4 / (nI 17) * (nI 17))) = nI j8 ∧ j8 < 4913 ∧ ((nI 1) = 0 ∨ (nI 1) = 1) ∧ Q (up1 w1 84 j8 (nI 1))) ∧ ((w1.1 68 j7) = (nI 2) → ∃ j9 : Nat, ((((nI 289) * (x3 + (nI 1))) + ((nI 17) * (x4 / (nI 17)))) + x3) = nI j9 ∧ j9 < 4913 ∧ ((nI 1) = 0 ∨ (nI 1) = 1) ∧ Q (up1 w1 84 j9 (nI 1))))) ∧ ((w1.1 68 j6) = (nI 1) → ∃ j10 : Nat, x2 = nI j10 ∧ j10 < 240 ∧ ((¬ (w1.1 68 j10) = (nI 2) → ¬ (nI 17) = 0 ∧ ∃ j11 : Nat, ((((nI 289) * (x3 + (nI 1))) + ((nI 17) * x3)) + (x4 - x4 / (nI 17) * (nI 17))) = nI j11 ∧ j11 < 4913 ∧ ((nI 1) = 0 ∨ (nI 1) = 1) ∧ Q (up1 w1 84 j11 (nI 1))) ∧ ((w1.1 68 j10) = (nI 2) → ∃ j12 : Nat, ((((nI 289) * (x3 + (nI 1))) + ((nI 17) * x3)) + x3) = nI j12 ∧ j12 < 4913 ∧ ((nI 1) = 0 ∨ (nI 1) = 1) ∧ Q (up1 w1 84 j12 (nI 1))))))))))) ∧ (¬ (w.1 67 j1) = 0 → Z m_M_goes (d + 1) (qV Q) 12 [(0, .ref 58), (1, .int x1), (2, .int x2), (3, .int x3), (4, .int x4), (5, .int x3)] [] w))) : Z m_M_goes (d + 1) (qV Q) 0 [(0, .ref 58), (1, .int x1), (2, .int x2), (3, .int x3), (4, .int x4)] [] w := wp_ok (P := P_M_goes) (S := S_M_goes) rfl pr_M_goes 67 _ _ _ _ h
set_option maxRecDepth 20000 in
set_option maxHeartbeats 1000000 in
theorem vc_M_goes_12 {d : Nat} {w : Wd} {Q : Wd → Prop} (x1 : Int32) (x2 : Int32) (x3 : Int32) (x4 : Int32) (x5 : Int32) (h : (((x3 + (nI 3)) < x5 → Q w) ∧ (¬ (x3 + (nI 3)) < x5 → ∃ j1 : Nat, x1 = nI j1 ∧ j1 < 40 ∧ (((w.1 79 j1) < x5 → Q w) ∧ (¬ (w.1 79 j1) < x5 → ∃ j2 : Nat, (((nI 289) * x5) + x4) = nI j2 ∧ j2 < 4913 ∧ ((nI 1) = 0 ∨ (nI 1) = 1) ∧ Z m_M_goes (d + 1) (qV Q) 12 [(0, .ref 58), (1, .int x1), (2, .int x2), (3, .int x3), (4, .int x4), (5, .int (x5 + nI 1))] [] (up1 w 84 j2 (nI 1))))))) : Z m_M_goes (d + 1) (qV Q) 12 [(0, .ref 58), (1, .int x1), (2, .int x2), (3, .int x3), (4, .int x4), (5, .int x5)] [] w := wp_ok (P := P_M_goes) (S := S_M_goes) rfl pr_M_goes 23 _ _ _ _ h
def P_M_isBarred : Prog := [(0, .iconst 0), (1, .istore_n 2), (2, .bipush 16), (4, .iload_n 1), (5, .imul), (6, .istore_n 3), (7, .iload_n 3), (8, .bipush 16), (10, .iload_n 1), (11, .imul), (12, .aload_n 0), (13, .getfield 103), (16, .iload_n 1), (17, .iaload), (18, .iadd), (19, .if_icmp .ge 72), (22, .bipush 10), (24, .aload_n 0), (25, .getfield 202), (28, .imul), (29, .istore 4), (31, .iload 4), (33, .bipush 10), (35, .aload_n 0), (36, .getfield 202), (39, .imul), (40, .aload_n 0), (41, .getfield 79), (44, .aload_n 0), (45, .getfield 202), (48, .iaload), (49, .iadd), (50, .if_icmp .ge 35), (53, .iload_n 2), (54, .ifCond .ne 19), (57, .aload_n 0), (58, .getfield 82), (61, .iload 4), (63, .iaload), (64, .aload_n 0), (65, .getfield 106), (68, .iload_n 3), (69, .iaload), (70, .if_icmp .ne 7), (73, .iconst 1), (74, .goto 4), (77, .iconst 0), (78, .istore_n 2), (79, .iinc 4 1), (82, .goto (-51)), (85, .iinc 3 1), (88, .goto (-81)), (91, .iload_n 2), (92, .ireturn)]
theorem pr_M_isBarred : prOK m_M_isBarred P_M_isBarred = true := by decide +kernel
def S_M_isBarred : List (Nat × List Nat) := [(7, [0, 1, 2, 3]), (31, [0, 1, 2, 3, 4])]
theorem ev_M_isBarred {d : Nat} {w : Wd} {Q : Int32 → Wd → Prop} (x1 : Int32) (h : Z m_M_isBarred d (qI Q) 0 [(0, .ref 58), (1, .int x1)] [] w) : EvI m_M_isBarred d [.ref 58, .int x1] w Q := Ev.ofZ (by decide +kernel) (Nat.le_of_ble_eq_true rfl) h
set_option maxRecDepth 20000 in
set_option maxHeartbeats 1000000 in
theorem vc_M_isBarred_0 {d : Nat} {w : Wd} {Q : Int32 → Wd → Prop} (x1 : Int32) (h : Z m_M_isBarred d (qI Q) 7 [(0, .ref 58), (1, .int x1), (2, .int (nI 0)), (3, .int ((nI 16) * x1))] [] w) : Z m_M_isBarred d (qI Q) 0 [(0, .ref 58), (1, .int x1)] [] w := wp_ok (P := P_M_isBarred) (S := S_M_isBarred) rfl pr_M_isBarred 7 _ _ _ _ h
set_option maxRecDepth 20000 in
set_option maxHeartbeats 1000000 in
theorem vc_M_isBarred_7 {d : Nat} {w : Wd} {Q : Int32 → Wd → Prop} (x1 : Int32) (x2 : Int32) (x3 : Int32) (h : ∃ j1 : Nat, x1 = nI j1 ∧ j1 < 40 ∧ (((((nI 16) * x1) + (w.1 79 j1)) ≤ x3 → (x2 = 0 ∨ x2 = 1) ∧ Q x2 w) ∧ (¬ (((nI 16) * x1) + (w.1 79 j1)) ≤ x3 → Z m_M_isBarred d (qI Q) 31 [(0, .ref 58), (1, .int x1), (2, .int x2), (3, .int x3), (4, .int ((nI 10) * (w.1 58 10)))] [] w))) : Z m_M_isBarred d (qI Q) 7 [(0, .ref 58), (1, .int x1), (2, .int x2), (3, .int x3)] [] w := wp_ok (P := P_M_isBarred) (S := S_M_isBarred) rfl pr_M_isBarred 16 _ _ _ _ h
set_option maxRecDepth 20000 in
set_option maxHeartbeats 1000000 in
theorem vc_M_isBarred_31 {d : Nat} {w : Wd} {Q : Int32 → Wd → Prop} (x1 : Int32) (x2 : Int32) (x3 : Int32) (x4 : Int32) (h : ∃ j1 : Nat, (w.1 58 10) = nI j1 ∧ j1 < 2 ∧ (((((nI 10) * (w.1 58 10)) + (w.1 71 j1)) ≤ x4 → Z m_M_isBarred d (qI Q) 7 [(0, .ref 58), (1, .int x1), (2, .int x2), (3, .int (x3 + nI 1))] [] w) ∧ (¬ (((nI 10) * (w.1 58 10)) + (w.1 71 j1)) ≤ x4 → ((¬ x2 = 0 → Z m_M_isBarred d (qI Q) 31 [(0, .ref 58), (1, .int x1), (2, .int (nI 1)), (3, .int x3), (4, .int (x4 + nI 1))] [] w) ∧ (x2 = 0 → ∃ j2 : Nat, x4 = nI j2 ∧ j2 < 20 ∧ ∃ j3 : Nat, x3 = nI j3 ∧ j3 < 640 ∧ ((¬ (w.1 72 j2) = (w.1 80 j3) → Z m_M_isBarred d (qI Q) 31 [(0, .ref 58), (1, .int x1), (2, .int (nI 0)), (3, .int x3), (4, .int (x4 + nI 1))] [] w) ∧ ((w.1 72 j2) = (w.1 80 j3) → Z m_M_isBarred d (qI Q) 31 [(0, .ref 58), (1, .int x1), (2, .int (nI 1)), (3, .int x3), (4, .int (x4 + nI 1))] [] w))))))) : Z m_M_isBarred d (qI Q) 31 [(0, .ref 58), (1, .int x1), (2, .int x2), (3, .int x3), (4, .int x4)] [] w := wp_ok (P := P_M_isBarred) (S := S_M_isBarred) rfl pr_M_isBarred 29 _ _ _ _ h
def P_M_finds : Prog := [(0, .aload_n 0), (1, .iconst 0), (2, .putfield 1), (5, .aload_n 0), (6, .invokevirtual 274), (9, .iconst 0), (10, .istore_n 1), (11, .iconst 0), (12, .istore_n 2), (13, .iload_n 2), (14, .ldc 116), (16, .if_icmp .ge 26), (19, .iload_n 1), (20, .aload_n 0), (21, .getfield 117), (24, .iload_n 2), (25, .baload), (26, .ifCond .eq 7), (29, .iconst 1), (30, .goto 4), (33, .iconst 0), (34, .iadd), (35, .istore_n 1), (36, .iinc 2 1), (39, .goto (-26)), (42, .iload_n 1), (43, .ireturn)]
theorem pr_M_finds : prOK m_M_finds P_M_finds = true := by decide +kernel
def S_M_finds : List (Nat × List Nat) := [(13, [0, 1, 2])]
theorem ev_M_finds {d : Nat} {w : Wd} {Q : Int32 → Wd → Prop}  (h : Z m_M_finds d (qI Q) 0 [(0, .ref 58)] [] w) : EvI m_M_finds d [.ref 58] w Q := Ev.ofZ (by decide +kernel) (Nat.le_of_ble_eq_true rfl) h
set_option maxRecDepth 20000 in
set_option maxHeartbeats 1000000 in
theorem vc_M_finds_0 {d : Nat} {w : Wd} {Q : Int32 → Wd → Prop}  (h : ∃ Q1 : Wd → Prop, EvV m_M_findAll d [.ref 58] (up1 w 58 0 (nI 0)) Q1 ∧ ∀ w1 : Wd, Q1 w1 → Z m_M_finds (d + 1) (qI Q) 13 [(0, .ref 58), (1, .int (nI 0)), (2, .int (nI 0))] [] w1) : Z m_M_finds (d + 1) (qI Q) 0 [(0, .ref 58)] [] w := wp_ok (P := P_M_finds) (S := S_M_finds) rfl pr_M_finds 10 _ _ _ _ h
set_option maxRecDepth 20000 in
set_option maxHeartbeats 1000000 in
theorem vc_M_finds_13 {d : Nat} {w : Wd} {Q : Int32 → Wd → Prop} (x1 : Int32) (x2 : Int32) (h : (((122880 : Int32) ≤ x2 → Q x1 w) ∧ (¬ (122880 : Int32) ≤ x2 → ∃ j1 : Nat, x2 = nI j1 ∧ j1 < 122880 ∧ (((w.1 82 j1) = 0 → Z m_M_finds (d + 1) (qI Q) 13 [(0, .ref 58), (1, .int (x1 + (nI 0))), (2, .int (x2 + nI 1))] [] w) ∧ (¬ (w.1 82 j1) = 0 → Z m_M_finds (d + 1) (qI Q) 13 [(0, .ref 58), (1, .int (x1 + (nI 1))), (2, .int (x2 + nI 1))] [] w))))) : Z m_M_finds (d + 1) (qI Q) 13 [(0, .ref 58), (1, .int x1), (2, .int x2)] [] w := wp_ok (P := P_M_finds) (S := S_M_finds) rfl pr_M_finds 16 _ _ _ _ h
def P_M_find : Prog := [(0, .aload_n 0), (1, .iconst 0), (2, .putfield 1), (5, .aload_n 0), (6, .invokevirtual 274), (9, .iload_n 1), (10, .istore_n 3), (11, .iconst 0), (12, .istore 4), (14, .iload 4), (16, .ldc 116), (18, .if_icmp .ge 41), (21, .aload_n 0), (22, .getfield 117), (25, .iload 4), (27, .baload), (28, .ifCond .eq 7), (31, .iload_n 3), (32, .ifCond .le 27), (35, .iload_n 3), (36, .aload_n 0), (37, .getfield 117), (40, .iload 4), (42, .baload), (43, .ifCond .eq 7), (46, .iconst 1), (47, .goto 4), (50, .iconst 0), (51, .isub), (52, .istore_n 3), (53, .iinc 4 1), (56, .goto (-42)), (59, .iload_n 1), (60, .ifCond .lt 10), (63, .iload 4), (65, .ldc 116), (67, .if_icmp .ne 5), (70, .iconst (-1)), (71, .ireturn), (72, .iload 4), (74, .sipush 3072), (77, .idiv), (78, .istore 5), (80, .iload 4), (82, .sipush 256), (85, .idiv), (86, .bipush 12), (88, .irem), (89, .istore 6), (91, .iload_n 2), (92, .ifCond .ne 8), (95, .iload 5), (97, .goto 88), (100, .iload_n 2), (101, .iconst 1), (102, .if_icmp .ne 8), (105, .iload 6), (107, .goto 78), (110, .iload_n 2), (111, .iconst 2), (112, .if_icmp .ne 14), (115, .iload 4), (117, .bipush 16), (119, .idiv), (120, .bipush 16), (122, .irem), (123, .goto 62), (126, .iload_n 2), (127, .iconst 3), (128, .if_icmp .ne 11), (131, .iload 4), (133, .bipush 16), (135, .irem), (136, .goto 49), (139, .iload_n 2), (140, .iconst 4), (141, .if_icmp .ne 20), (144, .aload_n 0), (145, .iload 5), (147, .invokevirtual 277), (150, .ifCond .eq 7), (153, .iconst 1), (154, .goto 31), (157, .iconst 0), (158, .goto 27), (161, .iload_n 2), (162, .iconst 5), (163, .if_icmp .ne 21), (166, .aload_n 0), (167, .getfield 60), (170, .bipush 12), (172, .aload_n 0), (173, .getfield 202), (176, .imul), (177, .iload 6), (179, .iadd), (180, .iaload), (181, .goto 4), (184, .iconst (-1)), (185, .ireturn)]
theorem pr_M_find : prOK m_M_find P_M_find = true := by decide +kernel
def S_M_find : List (Nat × List Nat) := [(14, [0, 1, 2, 3, 4])]
theorem ev_M_find {d : Nat} {w : Wd} {Q : Int32 → Wd → Prop} (x1 : Int32) (x2 : Int32) (h : Z m_M_find d (qI Q) 0 [(0, .ref 58), (1, .int x1), (2, .int x2)] [] w) : EvI m_M_find d [.ref 58, .int x1, .int x2] w Q := Ev.ofZ (by decide +kernel) (Nat.le_of_ble_eq_true rfl) h
set_option maxRecDepth 20000 in
set_option maxHeartbeats 1000000 in
theorem vc_M_find_0 {d : Nat} {w : Wd} {Q : Int32 → Wd → Prop} (x1 : Int32) (x2 : Int32) (h : ∃ Q1 : Wd → Prop, EvV m_M_findAll d [.ref 58] (up1 w 58 0 (nI 0)) Q1 ∧ ∀ w1 : Wd, Q1 w1 → Z m_M_find (d + 1) (qI Q) 14 [(0, .ref 58), (1, .int x1), (2, .int x2), (3, .int x1), (4, .int (nI 0))] [] w1) : Z m_M_find (d + 1) (qI Q) 0 [(0, .ref 58), (1, .int x1), (2, .int x2)] [] w := wp_ok (P := P_M_find) (S := S_M_find) rfl pr_M_find 10 _ _ _ _ h
set_option maxRecDepth 20000 in
set_option maxHeartbeats 1000000 in
theorem vc_M_find_14 {d : Nat} {w : Wd} {Q : Int32 → Wd → Prop} (x1 : Int32) (x2 : Int32) (x3 : Int32) (x4 : Int32) (h : (((122880 : Int32) ≤ x4 → ((x1 < 0 → Q (-nI 1) w) ∧ (¬ x1 < 0 → ((¬ x4 = (122880 : Int32) → ¬ (nI 3072) = 0 ∧ ¬ (nI 256) = 0 ∧ ¬ (nI 12) = 0 ∧ ((¬ x2 = 0 → ((¬ x2 = (nI 1) → ((¬ x2 = (nI 2) → ((¬ x2 = (nI 3) → ((¬ x2 = (nI 4) → ((¬ x2 = (nI 5) → Q (-nI 1) w) ∧ (x2 = (nI 5) → ∃ j1 : Nat, (((nI 12) * (w.1 58 10)) + ((x4 / (nI 256)) - (x4 / (nI 256)) / (nI 12) * (nI 12))) = nI j1 ∧ j1 < 24 ∧ Q (w.1 65 j1) w))) ∧ (x2 = (nI 4) → ∃ Q1 : Int32 → Wd → Prop, EvI m_M_isBarred d [.ref 58, .int (x4 / (nI 3072))] w Q1 ∧ ∀ (r1 : Int32) (w1 : Wd), Q1 r1 w1 → ((r1 = 0 → Q (nI 0) w1) ∧ (¬ r1 = 0 → Q (nI 1) w1))))) ∧ (x2 = (nI 3) → ¬ (nI 16) = 0 ∧ Q (x4 - x4 / (nI 16) * (nI 16)) w))) ∧ (x2 = (nI 2) → ¬ (nI 16) = 0 ∧ ¬ (nI 16) = 0 ∧ Q ((x4 / (nI 16)) - (x4 / (nI 16)) / (nI 16) * (nI 16)) w))) ∧ (x2 = (nI 1) → Q ((x4 / (nI 256)) - (x4 / (nI 256)) / (nI 12) * (nI 12)) w))) ∧ (x2 = 0 → Q (x4 / (nI 3072)) w))) ∧ (x4 = (122880 : Int32) → Q (-nI 1) w))))) ∧ (¬ (122880 : Int32) ≤ x4 → ∃ j2 : Nat, x4 = nI j2 ∧ j2 < 122880 ∧ (((w.1 82 j2) = 0 → ∃ j3 : Nat, x4 = nI j3 ∧ j3 < 122880 ∧ (((w.1 82 j3) = 0 → Z m_M_find (d + 1) (qI Q) 14 [(0, .ref 58), (1, .int x1), (2, .int x2), (3, .int (x3 - (nI 0))), (4, .int (x4 + nI 1))] [] w) ∧ (¬ (w.1 82 j3) = 0 → Z m_M_find (d + 1) (qI Q) 14 [(0, .ref 58), (1, .int x1), (2, .int x2), (3, .int (x3 - (nI 1))), (4, .int (x4 + nI 1))] [] w))) ∧ (¬ (w.1 82 j2) = 0 → ((x3 ≤ 0 → ((x1 < 0 → Q (-nI 1) w) ∧ (¬ x1 < 0 → ((¬ x4 = (122880 : Int32) → ¬ (nI 3072) = 0 ∧ ¬ (nI 256) = 0 ∧ ¬ (nI 12) = 0 ∧ ((¬ x2 = 0 → ((¬ x2 = (nI 1) → ((¬ x2 = (nI 2) → ((¬ x2 = (nI 3) → ((¬ x2 = (nI 4) → ((¬ x2 = (nI 5) → Q (-nI 1) w) ∧ (x2 = (nI 5) → ∃ j4 : Nat, (((nI 12) * (w.1 58 10)) + ((x4 / (nI 256)) - (x4 / (nI 256)) / (nI 12) * (nI 12))) = nI j4 ∧ j4 < 24 ∧ Q (w.1 65 j4) w))) ∧ (x2 = (nI 4) → ∃ Q2 : Int32 → Wd → Prop, EvI m_M_isBarred d [.ref 58, .int (x4 / (nI 3072))] w Q2 ∧ ∀ (r2 : Int32) (w2 : Wd), Q2 r2 w2 → ((r2 = 0 → Q (nI 0) w2) ∧ (¬ r2 = 0 → Q (nI 1) w2))))) ∧ (x2 = (nI 3) → ¬ (nI 16) = 0 ∧ Q (x4 - x4 / (nI 16) * (nI 16)) w))) ∧ (x2 = (nI 2) → ¬ (nI 16) = 0 ∧ ¬ (nI 16) = 0 ∧ Q ((x4 / (nI 16)) - (x4 / (nI 16)) / (nI 16) * (nI 16)) w))) ∧ (x2 = (nI 1) → Q ((x4 / (nI 256)) - (x4 / (nI 256)) / (nI 12) * (nI 12)) w))) ∧ (x2 = 0 → Q (x4 / (nI 3072)) w))) ∧ (x4 = (122880 : Int32) → Q (-nI 1) w))))) ∧ (¬ x3 ≤ 0 → ∃ j5 : Nat, x4 = nI j5 ∧ j5 < 122880 ∧ (((w.1 82 j5) = 0 → Z m_M_find (d + 1) (qI Q) 14 [(0, .ref 58), (1, .int x1), (2, .int x2), (3, .int (x3 - (nI 0))), (4, .int (x4 + nI 1))] [] w) ∧ (¬ (w.1 82 j5) = 0 → Z m_M_find (d + 1) (qI Q) 14 [(0, .ref 58), (1, .int x1), (2, .int x2), (3, .int (x3 - (nI 1))), (4, .int (x4 + nI 1))] [] w))))))))) : Z m_M_find (d + 1) (qI Q) 14 [(0, .ref 58), (1, .int x1), (2, .int x2), (3, .int x3), (4, .int x4)] [] w := wp_ok (P := P_M_find) (S := S_M_find) rfl pr_M_find 54 _ _ _ _ h
def P_M_findRows : Prog := [(0, .aload_n 0), (1, .invokevirtual 274), (4, .iconst 0), (5, .istore_n 1), (6, .iload_n 1), (7, .ldc 126), (9, .if_icmp .ge 16), (12, .aload_n 0), (13, .getfield 127), (16, .iload_n 1), (17, .iconst 0), (18, .bastore), (19, .iinc 1 1), (22, .goto (-16)), (25, .iconst 0), (26, .istore_n 1), (27, .iload_n 1), (28, .ldc 116), (30, .if_icmp .ge 117), (33, .aload_n 0), (34, .getfield 117), (37, .iload_n 1), (38, .baload), (39, .ifCond .eq 102), (42, .aload_n 0), (43, .iload_n 1), (44, .sipush 3072), (47, .idiv), (48, .invokevirtual 277), (51, .ifCond .ne 90), (54, .iload_n 1), (55, .sipush 3072), (58, .idiv), (59, .istore_n 2), (60, .aload_n 0), (61, .aload_n 0), (62, .getfield 106), (65, .bipush 16), (67, .iload_n 2), (68, .imul), (69, .iload_n 1), (70, .bipush 16), (72, .idiv), (73, .bipush 16), (75, .irem), (76, .iadd), (77, .iaload), (78, .invokevirtual 246), (81, .istore_n 3), (82, .aload_n 0), (83, .aload_n 0), (84, .getfield 106), (87, .bipush 16), (89, .iload_n 2), (90, .imul), (91, .iload_n 1), (92, .bipush 16), (94, .irem), (95, .iadd), (96, .iaload), (97, .invokevirtual 246), (100, .istore 4), (102, .aload_n 0), (103, .getfield 127), (106, .sipush 10201), (109, .aload_n 0), (110, .getfield 60), (113, .bipush 12), (115, .aload_n 0), (116, .getfield 202), (119, .imul), (120, .iload_n 1), (121, .sipush 256), (124, .idiv), (125, .bipush 12), (127, .irem), (128, .iadd), (129, .iaload), (130, .imul), (131, .bipush 101), (133, .iload_n 3), (134, .imul), (135, .iadd), (136, .iload 4), (138, .iadd), (139, .iconst 1), (140, .bastore), (141, .iinc 1 1), (144, .goto (-117)), (147, .iconst 1), (148, .istore_n 1), (149, .iload_n 1), (150, .ifCond .eq 88), (153, .iconst 0), (154, .istore_n 1), (155, .bipush 6), (157, .aload_n 0), (158, .getfield 202), (161, .imul), (162, .istore_n 2), (163, .iload_n 2), (164, .bipush 6), (166, .aload_n 0), (167, .getfield 202), (170, .imul), (171, .aload_n 0), (172, .getfield 85), (175, .aload_n 0), (176, .getfield 202), (179, .iaload), (180, .iadd), (181, .if_icmp .ge 54), (184, .aload_n 0), (185, .aload_n 0), (186, .getfield 88), (189, .iconst 3), (190, .iload_n 2), (191, .imul), (192, .iaload), (193, .aload_n 0), (194, .getfield 88), (197, .iconst 3), (198, .iload_n 2), (199, .imul), (200, .iconst 1), (201, .iadd), (202, .iaload), (203, .aload_n 0), (204, .getfield 88), (207, .iconst 3), (208, .iload_n 2), (209, .imul), (210, .iconst 2), (211, .iadd), (212, .iaload), (213, .invokevirtual 280), (216, .ifCond .ne 7), (219, .iload_n 1), (220, .ifCond .eq 7), (223, .iconst 1), (224, .goto 4), (227, .iconst 0), (228, .istore_n 1), (229, .iinc 2 1), (232, .goto (-69)), (235, .goto (-86)), (238, .return_)]
theorem pr_M_findRows : prOK m_M_findRows P_M_findRows = true := by decide +kernel
def S_M_findRows : List (Nat × List Nat) := [(6, [0, 1]), (27, [0, 1]), (149, [0, 1]), (163, [0, 1, 2])]
theorem ev_M_findRows {d : Nat} {w : Wd} {Q : Wd → Prop}  (h : Z m_M_findRows d (qV Q) 0 [(0, .ref 58)] [] w) : EvV m_M_findRows d [.ref 58] w Q := Ev.ofZ (by decide +kernel) (Nat.le_of_ble_eq_true rfl) h
set_option maxRecDepth 20000 in
set_option maxHeartbeats 1000000 in
theorem vc_M_findRows_0 {d : Nat} {w : Wd} {Q : Wd → Prop}  (h : ∃ Q1 : Wd → Prop, EvV m_M_findAll d [.ref 58] w Q1 ∧ ∀ w1 : Wd, Q1 w1 → Z m_M_findRows (d + 1) (qV Q) 6 [(0, .ref 58), (1, .int (nI 0))] [] w1) : Z m_M_findRows (d + 1) (qV Q) 0 [(0, .ref 58)] [] w := wp_ok (P := P_M_findRows) (S := S_M_findRows) rfl pr_M_findRows 5 _ _ _ _ h
set_option maxRecDepth 20000 in
set_option maxHeartbeats 1000000 in
theorem vc_M_findRows_6 {d : Nat} {w : Wd} {Q : Wd → Prop} (x1 : Int32) (h : (((102010 : Int32) ≤ x1 → Z m_M_findRows (d + 1) (qV Q) 27 [(0, .ref 58), (1, .int (nI 0))] [] w) ∧ (¬ (102010 : Int32) ≤ x1 → ∃ j1 : Nat, x1 = nI j1 ∧ j1 < 102010 ∧ ((nI 0) = 0 ∨ (nI 0) = 1) ∧ Z m_M_findRows (d + 1) (qV Q) 6 [(0, .ref 58), (1, .int (x1 + nI 1))] [] (up1 w 85 j1 (nI 0))))) : Z m_M_findRows (d + 1) (qV Q) 6 [(0, .ref 58), (1, .int x1)] [] w := wp_ok (P := P_M_findRows) (S := S_M_findRows) rfl pr_M_findRows 11 _ _ _ _ h
set_option maxRecDepth 20000 in
set_option maxHeartbeats 1000000 in
theorem vc_M_findRows_27 {d : Nat} {w : Wd} {Q : Wd → Prop} (x1 : Int32) (h : (((122880 : Int32) ≤ x1 → Z m_M_findRows (d + 1) (qV Q) 149 [(0, .ref 58), (1, .int (nI 1))] [] w) ∧ (¬ (122880 : Int32) ≤ x1 → ∃ j1 : Nat, x1 = nI j1 ∧ j1 < 122880 ∧ (((w.1 82 j1) = 0 → Z m_M_findRows (d + 1) (qV Q) 27 [(0, .ref 58), (1, .int (x1 + nI 1))] [] w) ∧ (¬ (w.1 82 j1) = 0 → ¬ (nI 3072) = 0 ∧ ∃ Q1 : Int32 → Wd → Prop, EvI m_M_isBarred d [.ref 58, .int (x1 / (nI 3072))] w Q1 ∧ ∀ (r1 : Int32) (w1 : Wd), Q1 r1 w1 → ((¬ r1 = 0 → Z m_M_findRows (d + 1) (qV Q) 27 [(0, .ref 58), (1, .int (x1 + nI 1))] [] w1) ∧ (r1 = 0 → ¬ (nI 3072) = 0 ∧ ¬ (nI 16) = 0 ∧ ¬ (nI 16) = 0 ∧ ∃ j2 : Nat, (((nI 16) * (x1 / (nI 3072))) + ((x1 / (nI 16)) - (x1 / (nI 16)) / (nI 16) * (nI 16))) = nI j2 ∧ j2 < 640 ∧ ∃ Q2 : Int32 → Wd → Prop, EvI m_M_nameOf d [.ref 58, .int (w1.1 80 j2)] w1 Q2 ∧ ∀ (r2 : Int32) (w2 : Wd), Q2 r2 w2 → ¬ (nI 16) = 0 ∧ ∃ j3 : Nat, (((nI 16) * (x1 / (nI 3072))) + (x1 - x1 / (nI 16) * (nI 16))) = nI j3 ∧ j3 < 640 ∧ ∃ Q3 : Int32 → Wd → Prop, EvI m_M_nameOf d [.ref 58, .int (w2.1 80 j3)] w2 Q3 ∧ ∀ (r3 : Int32) (w3 : Wd), Q3 r3 w3 → ¬ (nI 256) = 0 ∧ ¬ (nI 12) = 0 ∧ ∃ j4 : Nat, (((nI 12) * (w3.1 58 10)) + ((x1 / (nI 256)) - (x1 / (nI 256)) / (nI 12) * (nI 12))) = nI j4 ∧ j4 < 24 ∧ ∃ j5 : Nat, ((((nI 10201) * (w3.1 65 j4)) + ((nI 101) * r2)) + r3) = nI j5 ∧ j5 < 102010 ∧ ((nI 1) = 0 ∨ (nI 1) = 1) ∧ Z m_M_findRows (d + 1) (qV Q) 27 [(0, .ref 58), (1, .int (x1 + nI 1))] [] (up1 w3 85 j5 (nI 1))))))))) : Z m_M_findRows (d + 1) (qV Q) 27 [(0, .ref 58), (1, .int x1)] [] w := wp_ok (P := P_M_findRows) (S := S_M_findRows) rfl pr_M_findRows 74 _ _ _ _ h
set_option maxRecDepth 20000 in
set_option maxHeartbeats 1000000 in
theorem vc_M_findRows_149 {d : Nat} {w : Wd} {Q : Wd → Prop} (x1 : Int32) (h : ((x1 = 0 → Q w) ∧ (¬ x1 = 0 → Z m_M_findRows (d + 1) (qV Q) 163 [(0, .ref 58), (1, .int (nI 0)), (2, .int ((nI 6) * (w.1 58 10)))] [] w))) : Z m_M_findRows (d + 1) (qV Q) 149 [(0, .ref 58), (1, .int x1)] [] w := wp_ok (P := P_M_findRows) (S := S_M_findRows) rfl pr_M_findRows 10 _ _ _ _ h
set_option maxRecDepth 20000 in
set_option maxHeartbeats 1000000 in
theorem vc_M_findRows_163 {d : Nat} {w : Wd} {Q : Wd → Prop} (x1 : Int32) (x2 : Int32) (h : ∃ j1 : Nat, (w.1 58 10) = nI j1 ∧ j1 < 2 ∧ (((((nI 6) * (w.1 58 10)) + (w.1 73 j1)) ≤ x2 → Z m_M_findRows (d + 1) (qV Q) 149 [(0, .ref 58), (1, .int x1)] [] w) ∧ (¬ (((nI 6) * (w.1 58 10)) + (w.1 73 j1)) ≤ x2 → ∃ j2 : Nat, ((nI 3) * x2) = nI j2 ∧ j2 < 36 ∧ ∃ j3 : Nat, (((nI 3) * x2) + (nI 1)) = nI j3 ∧ j3 < 36 ∧ ∃ j4 : Nat, (((nI 3) * x2) + (nI 2)) = nI j4 ∧ j4 < 36 ∧ ∃ Q1 : Int32 → Wd → Prop, EvI m_M_joins d [.ref 58, .int (w.1 74 j2), .int (w.1 74 j3), .int (w.1 74 j4)] w Q1 ∧ ∀ (r1 : Int32) (w1 : Wd), Q1 r1 w1 → ((¬ r1 = 0 → Z m_M_findRows (d + 1) (qV Q) 163 [(0, .ref 58), (1, .int (nI 1)), (2, .int (x2 + nI 1))] [] w1) ∧ (r1 = 0 → ((x1 = 0 → Z m_M_findRows (d + 1) (qV Q) 163 [(0, .ref 58), (1, .int (nI 0)), (2, .int (x2 + nI 1))] [] w1) ∧ (¬ x1 = 0 → Z m_M_findRows (d + 1) (qV Q) 163 [(0, .ref 58), (1, .int (nI 1)), (2, .int (x2 + nI 1))] [] w1))))))) : Z m_M_findRows (d + 1) (qV Q) 163 [(0, .ref 58), (1, .int x1), (2, .int x2)] [] w := wp_ok (P := P_M_findRows) (S := S_M_findRows) rfl pr_M_findRows 45 _ _ _ _ h
def P_M_joins : Prog := [(0, .iconst 0), (1, .istore 4), (3, .iconst 1), (4, .istore 5), (6, .iload 5), (8, .bipush 100), (10, .if_icmp .gt 130), (13, .iconst 1), (14, .istore 6), (16, .iload 6), (18, .bipush 100), (20, .if_icmp .gt 114), (23, .iconst 1), (24, .istore 7), (26, .iload 7), (28, .bipush 100), (30, .if_icmp .gt 98), (33, .aload_n 0), (34, .getfield 127), (37, .sipush 10201), (40, .iload_n 2), (41, .imul), (42, .bipush 101), (44, .iload 5), (46, .imul), (47, .iadd), (48, .iload 6), (50, .iadd), (51, .baload), (52, .ifCond .eq 76), (55, .aload_n 0), (56, .getfield 127), (59, .sipush 10201), (62, .iload_n 3), (63, .imul), (64, .bipush 101), (66, .iload 6), (68, .imul), (69, .iadd), (70, .iload 7), (72, .iadd), (73, .baload), (74, .ifCond .eq 48), (77, .aload_n 0), (78, .getfield 127), (81, .sipush 10201), (84, .iload_n 1), (85, .imul), (86, .bipush 101), (88, .iload 5), (90, .imul), (91, .iadd), (92, .iload 7), (94, .iadd), (95, .baload), (96, .ifCond .ne 26), (99, .aload_n 0), (100, .getfield 127), (103, .sipush 10201), (106, .iload_n 1), (107, .imul), (108, .bipush 101), (110, .iload 5), (112, .imul), (113, .iadd), (114, .iload 7), (116, .iadd), (117, .iconst 1), (118, .bastore), (119, .iconst 1), (120, .istore 4), (122, .iinc 7 1), (125, .goto (-99)), (128, .iinc 6 1), (131, .goto (-115)), (134, .iinc 5 1), (137, .goto (-131)), (140, .iload 4), (142, .ireturn)]
theorem pr_M_joins : prOK m_M_joins P_M_joins = true := by decide +kernel
def S_M_joins : List (Nat × List Nat) := [(6, [0, 1, 2, 3, 4, 5]), (16, [0, 1, 2, 3, 4, 5, 6]), (26, [0, 1, 2, 3, 4, 5, 6, 7])]
theorem ev_M_joins {d : Nat} {w : Wd} {Q : Int32 → Wd → Prop} (x1 : Int32) (x2 : Int32) (x3 : Int32) (h : Z m_M_joins d (qI Q) 0 [(0, .ref 58), (1, .int x1), (2, .int x2), (3, .int x3)] [] w) : EvI m_M_joins d [.ref 58, .int x1, .int x2, .int x3] w Q := Ev.ofZ (by decide +kernel) (Nat.le_of_ble_eq_true rfl) h
set_option maxRecDepth 20000 in
set_option maxHeartbeats 1000000 in
theorem vc_M_joins_0 {d : Nat} {w : Wd} {Q : Int32 → Wd → Prop} (x1 : Int32) (x2 : Int32) (x3 : Int32) (h : Z m_M_joins d (qI Q) 6 [(0, .ref 58), (1, .int x1), (2, .int x2), (3, .int x3), (4, .int (nI 0)), (5, .int (nI 1))] [] w) : Z m_M_joins d (qI Q) 0 [(0, .ref 58), (1, .int x1), (2, .int x2), (3, .int x3)] [] w := wp_ok (P := P_M_joins) (S := S_M_joins) rfl pr_M_joins 5 _ _ _ _ h
set_option maxRecDepth 20000 in
set_option maxHeartbeats 1000000 in
theorem vc_M_joins_6 {d : Nat} {w : Wd} {Q : Int32 → Wd → Prop} (x1 : Int32) (x2 : Int32) (x3 : Int32) (x4 : Int32) (x5 : Int32) (h : (((nI 100) < x5 → (x4 = 0 ∨ x4 = 1) ∧ Q x4 w) ∧ (¬ (nI 100) < x5 → Z m_M_joins d (qI Q) 16 [(0, .ref 58), (1, .int x1), (2, .int x2), (3, .int x3), (4, .int x4), (5, .int x5), (6, .int (nI 1))] [] w))) : Z m_M_joins d (qI Q) 6 [(0, .ref 58), (1, .int x1), (2, .int x2), (3, .int x3), (4, .int x4), (5, .int x5)] [] w := wp_ok (P := P_M_joins) (S := S_M_joins) rfl pr_M_joins 6 _ _ _ _ h
set_option maxRecDepth 20000 in
set_option maxHeartbeats 1000000 in
theorem vc_M_joins_16 {d : Nat} {w : Wd} {Q : Int32 → Wd → Prop} (x1 : Int32) (x2 : Int32) (x3 : Int32) (x4 : Int32) (x5 : Int32) (x6 : Int32) (h : (((nI 100) < x6 → Z m_M_joins d (qI Q) 6 [(0, .ref 58), (1, .int x1), (2, .int x2), (3, .int x3), (4, .int x4), (5, .int (x5 + nI 1))] [] w) ∧ (¬ (nI 100) < x6 → Z m_M_joins d (qI Q) 26 [(0, .ref 58), (1, .int x1), (2, .int x2), (3, .int x3), (4, .int x4), (5, .int x5), (6, .int x6), (7, .int (nI 1))] [] w))) : Z m_M_joins d (qI Q) 16 [(0, .ref 58), (1, .int x1), (2, .int x2), (3, .int x3), (4, .int x4), (5, .int x5), (6, .int x6)] [] w := wp_ok (P := P_M_joins) (S := S_M_joins) rfl pr_M_joins 6 _ _ _ _ h
set_option maxRecDepth 20000 in
set_option maxHeartbeats 1000000 in
theorem vc_M_joins_26 {d : Nat} {w : Wd} {Q : Int32 → Wd → Prop} (x1 : Int32) (x2 : Int32) (x3 : Int32) (x4 : Int32) (x5 : Int32) (x6 : Int32) (x7 : Int32) (h : (((nI 100) < x7 → Z m_M_joins d (qI Q) 16 [(0, .ref 58), (1, .int x1), (2, .int x2), (3, .int x3), (4, .int x4), (5, .int x5), (6, .int (x6 + nI 1))] [] w) ∧ (¬ (nI 100) < x7 → ∃ j1 : Nat, ((((nI 10201) * x2) + ((nI 101) * x5)) + x6) = nI j1 ∧ j1 < 102010 ∧ (((w.1 85 j1) = 0 → Z m_M_joins d (qI Q) 16 [(0, .ref 58), (1, .int x1), (2, .int x2), (3, .int x3), (4, .int x4), (5, .int x5), (6, .int (x6 + nI 1))] [] w) ∧ (¬ (w.1 85 j1) = 0 → ∃ j2 : Nat, ((((nI 10201) * x3) + ((nI 101) * x6)) + x7) = nI j2 ∧ j2 < 102010 ∧ (((w.1 85 j2) = 0 → Z m_M_joins d (qI Q) 26 [(0, .ref 58), (1, .int x1), (2, .int x2), (3, .int x3), (4, .int x4), (5, .int x5), (6, .int x6), (7, .int (x7 + nI 1))] [] w) ∧ (¬ (w.1 85 j2) = 0 → ∃ j3 : Nat, ((((nI 10201) * x1) + ((nI 101) * x5)) + x7) = nI j3 ∧ j3 < 102010 ∧ ((¬ (w.1 85 j3) = 0 → Z m_M_joins d (qI Q) 26 [(0, .ref 58), (1, .int x1), (2, .int x2), (3, .int x3), (4, .int x4), (5, .int x5), (6, .int x6), (7, .int (x7 + nI 1))] [] w) ∧ ((w.1 85 j3) = 0 → ∃ j4 : Nat, ((((nI 10201) * x1) + ((nI 101) * x5)) + x7) = nI j4 ∧ j4 < 102010 ∧ ((nI 1) = 0 ∨ (nI 1) = 1) ∧ Z m_M_joins d (qI Q) 26 [(0, .ref 58), (1, .int x1), (2, .int x2), (3, .int x3), (4, .int (nI 1)), (5, .int x5), (6, .int x6), (7, .int (x7 + nI 1))] [] (up1 w 85 j4 (nI 1))))))))))) : Z m_M_joins d (qI Q) 26 [(0, .ref 58), (1, .int x1), (2, .int x2), (3, .int x3), (4, .int x4), (5, .int x5), (6, .int x6), (7, .int x7)] [] w := wp_ok (P := P_M_joins) (S := S_M_joins) rfl pr_M_joins 60 _ _ _ _ h
def P_M_isR : Prog := [(0, .iload_n 0), (1, .ifCond .lt 13), (4, .iload_n 0), (5, .bipush 9), (7, .if_icmp .gt 7), (10, .iconst 1), (11, .goto 4), (14, .iconst 0), (15, .ireturn)]
theorem pr_M_isR : prOK m_M_isR P_M_isR = true := by decide +kernel
def S_M_isR : List (Nat × List Nat) := []
theorem ev_M_isR {d : Nat} {w : Wd} {Q : Int32 → Wd → Prop} (x0 : Int32) (h : Z m_M_isR d (qI Q) 0 [(0, .int x0)] [] w) : EvI m_M_isR d [.int x0] w Q := Ev.ofZ (by decide +kernel) (Nat.le_of_ble_eq_true rfl) h
set_option maxRecDepth 20000 in
set_option maxHeartbeats 1000000 in
theorem vc_M_isR_0 {d : Nat} {w : Wd} {Q : Int32 → Wd → Prop} (x0 : Int32) (h : ((x0 < 0 → ((nI 0) = 0 ∨ (nI 0) = 1) ∧ Q (nI 0) w) ∧ (¬ x0 < 0 → (((nI 9) < x0 → ((nI 0) = 0 ∨ (nI 0) = 1) ∧ Q (nI 0) w) ∧ (¬ (nI 9) < x0 → ((nI 1) = 0 ∨ (nI 1) = 1) ∧ Q (nI 1) w))))) : Z m_M_isR d (qI Q) 0 [(0, .int x0)] [] w := wp_ok (P := P_M_isR) (S := S_M_isR) rfl pr_M_isR 9 _ _ _ _ h
def P_M_rows : Prog := [(0, .aload_n 0), (1, .iconst 0), (2, .putfield 1), (5, .iload_n 1), (6, .invokestatic 283), (9, .ifCond .ne 5), (12, .iconst (-1)), (13, .ireturn), (14, .aload_n 0), (15, .invokevirtual 286), (18, .iconst 0), (19, .istore_n 2), (20, .sipush 10201), (23, .iload_n 1), (24, .imul), (25, .istore_n 3), (26, .iload_n 3), (27, .sipush 10201), (30, .iload_n 1), (31, .imul), (32, .sipush 10201), (35, .iadd), (36, .if_icmp .ge 26), (39, .iload_n 2), (40, .aload_n 0), (41, .getfield 127), (44, .iload_n 3), (45, .baload), (46, .ifCond .eq 7), (49, .iconst 1), (50, .goto 4), (53, .iconst 0), (54, .iadd), (55, .istore_n 2), (56, .iinc 3 1), (59, .goto (-33)), (62, .iload_n 2), (63, .ireturn)]
theorem pr_M_rows : prOK m_M_rows P_M_rows = true := by decide +kernel
def S_M_rows : List (Nat × List Nat) := [(26, [0, 1, 2, 3])]
theorem ev_M_rows {d : Nat} {w : Wd} {Q : Int32 → Wd → Prop} (x1 : Int32) (h : Z m_M_rows d (qI Q) 0 [(0, .ref 58), (1, .int x1)] [] w) : EvI m_M_rows d [.ref 58, .int x1] w Q := Ev.ofZ (by decide +kernel) (Nat.le_of_ble_eq_true rfl) h
set_option maxRecDepth 20000 in
set_option maxHeartbeats 1000000 in
theorem vc_M_rows_0 {d : Nat} {w : Wd} {Q : Int32 → Wd → Prop} (x1 : Int32) (h : ∃ Q1 : Int32 → Wd → Prop, EvI m_M_isR d [.int x1] (up1 w 58 0 (nI 0)) Q1 ∧ ∀ (r1 : Int32) (w1 : Wd), Q1 r1 w1 → ((¬ r1 = 0 → ∃ Q2 : Wd → Prop, EvV m_M_findRows d [.ref 58] w1 Q2 ∧ ∀ w2 : Wd, Q2 w2 → Z m_M_rows (d + 1) (qI Q) 26 [(0, .ref 58), (1, .int x1), (2, .int (nI 0)), (3, .int ((nI 10201) * x1))] [] w2) ∧ (r1 = 0 → Q (-nI 1) w1))) : Z m_M_rows (d + 1) (qI Q) 0 [(0, .ref 58), (1, .int x1)] [] w := wp_ok (P := P_M_rows) (S := S_M_rows) rfl pr_M_rows 15 _ _ _ _ h
set_option maxRecDepth 20000 in
set_option maxHeartbeats 1000000 in
theorem vc_M_rows_26 {d : Nat} {w : Wd} {Q : Int32 → Wd → Prop} (x1 : Int32) (x2 : Int32) (x3 : Int32) (h : (((((nI 10201) * x1) + (nI 10201)) ≤ x3 → Q x2 w) ∧ (¬ (((nI 10201) * x1) + (nI 10201)) ≤ x3 → ∃ j1 : Nat, x3 = nI j1 ∧ j1 < 102010 ∧ (((w.1 85 j1) = 0 → Z m_M_rows (d + 1) (qI Q) 26 [(0, .ref 58), (1, .int x1), (2, .int (x2 + (nI 0))), (3, .int (x3 + nI 1))] [] w) ∧ (¬ (w.1 85 j1) = 0 → Z m_M_rows (d + 1) (qI Q) 26 [(0, .ref 58), (1, .int x1), (2, .int (x2 + (nI 1))), (3, .int (x3 + nI 1))] [] w))))) : Z m_M_rows (d + 1) (qI Q) 26 [(0, .ref 58), (1, .int x1), (2, .int x2), (3, .int x3)] [] w := wp_ok (P := P_M_rows) (S := S_M_rows) rfl pr_M_rows 20 _ _ _ _ h
def P_M_row : Prog := [(0, .aload_n 0), (1, .iconst 0), (2, .putfield 1), (5, .iload_n 1), (6, .invokestatic 283), (9, .ifCond .eq 16), (12, .iload_n 2), (13, .ifCond .lt 12), (16, .iload_n 3), (17, .ifCond .lt 8), (20, .iload_n 3), (21, .iconst 1), (22, .if_icmp .le 5), (25, .iconst (-1)), (26, .ireturn), (27, .aload_n 0), (28, .invokevirtual 286), (31, .iload_n 2), (32, .istore 4), (34, .iconst 0), (35, .istore 5), (37, .iload 5), (39, .sipush 10201), (42, .if_icmp .ge 51), (45, .aload_n 0), (46, .getfield 127), (49, .sipush 10201), (52, .iload_n 1), (53, .imul), (54, .iload 5), (56, .iadd), (57, .baload), (58, .ifCond .eq 29), (61, .iload 4), (63, .ifCond .ne 21), (66, .iload_n 3), (67, .ifCond .ne 11), (70, .iload 5), (72, .bipush 101), (74, .idiv), (75, .goto 8), (78, .iload 5), (80, .bipush 101), (82, .irem), (83, .ireturn), (84, .iinc 4 (-1)), (87, .iinc 5 1), (90, .goto (-53)), (93, .iconst (-1)), (94, .ireturn)]
theorem pr_M_row : prOK m_M_row P_M_row = true := by decide +kernel
def S_M_row : List (Nat × List Nat) := [(37, [0, 1, 2, 3, 4, 5])]
theorem ev_M_row {d : Nat} {w : Wd} {Q : Int32 → Wd → Prop} (x1 : Int32) (x2 : Int32) (x3 : Int32) (h : Z m_M_row d (qI Q) 0 [(0, .ref 58), (1, .int x1), (2, .int x2), (3, .int x3)] [] w) : EvI m_M_row d [.ref 58, .int x1, .int x2, .int x3] w Q := Ev.ofZ (by decide +kernel) (Nat.le_of_ble_eq_true rfl) h
set_option maxRecDepth 20000 in
set_option maxHeartbeats 1000000 in
theorem vc_M_row_0 {d : Nat} {w : Wd} {Q : Int32 → Wd → Prop} (x1 : Int32) (x2 : Int32) (x3 : Int32) (h : ∃ Q1 : Int32 → Wd → Prop, EvI m_M_isR d [.int x1] (up1 w 58 0 (nI 0)) Q1 ∧ ∀ (r1 : Int32) (w1 : Wd), Q1 r1 w1 → ((r1 = 0 → Q (-nI 1) w1) ∧ (¬ r1 = 0 → ((x2 < 0 → Q (-nI 1) w1) ∧ (¬ x2 < 0 → ((x3 < 0 → Q (-nI 1) w1) ∧ (¬ x3 < 0 → ((x3 ≤ (nI 1) → ∃ Q2 : Wd → Prop, EvV m_M_findRows d [.ref 58] w1 Q2 ∧ ∀ w2 : Wd, Q2 w2 → Z m_M_row (d + 1) (qI Q) 37 [(0, .ref 58), (1, .int x1), (2, .int x2), (3, .int x3), (4, .int x2), (5, .int (nI 0))] [] w2) ∧ (¬ x3 ≤ (nI 1) → Q (-nI 1) w1))))))))) : Z m_M_row (d + 1) (qI Q) 0 [(0, .ref 58), (1, .int x1), (2, .int x2), (3, .int x3)] [] w := wp_ok (P := P_M_row) (S := S_M_row) rfl pr_M_row 20 _ _ _ _ h
set_option maxRecDepth 20000 in
set_option maxHeartbeats 1000000 in
theorem vc_M_row_37 {d : Nat} {w : Wd} {Q : Int32 → Wd → Prop} (x1 : Int32) (x2 : Int32) (x3 : Int32) (x4 : Int32) (x5 : Int32) (h : (((nI 10201) ≤ x5 → Q (-nI 1) w) ∧ (¬ (nI 10201) ≤ x5 → ∃ j1 : Nat, (((nI 10201) * x1) + x5) = nI j1 ∧ j1 < 102010 ∧ (((w.1 85 j1) = 0 → Z m_M_row (d + 1) (qI Q) 37 [(0, .ref 58), (1, .int x1), (2, .int x2), (3, .int x3), (4, .int x4), (5, .int (x5 + nI 1))] [] w) ∧ (¬ (w.1 85 j1) = 0 → ((¬ x4 = 0 → Z m_M_row (d + 1) (qI Q) 37 [(0, .ref 58), (1, .int x1), (2, .int x2), (3, .int x3), (4, .int (x4 + (-nI 1))), (5, .int (x5 + nI 1))] [] w) ∧ (x4 = 0 → ((¬ x3 = 0 → ¬ (nI 101) = 0 ∧ Q (x5 - x5 / (nI 101) * (nI 101)) w) ∧ (x3 = 0 → ¬ (nI 101) = 0 ∧ Q (x5 / (nI 101)) w))))))))) : Z m_M_row (d + 1) (qI Q) 37 [(0, .ref 58), (1, .int x1), (2, .int x2), (3, .int x3), (4, .int x4), (5, .int x5)] [] w := wp_ok (P := P_M_row) (S := S_M_row) rfl pr_M_row 22 _ _ _ _ h
def P_M_quarrel : Prog := [(0, .aload_n 0), (1, .iconst 0), (2, .putfield 1), (5, .iload_n 1), (6, .invokestatic 283), (9, .ifCond .eq 24), (12, .iload_n 2), (13, .ifCond .lt 20), (16, .aload_n 0), (17, .getfield 91), (20, .bipush 10), (22, .aload_n 0), (23, .getfield 202), (26, .imul), (27, .iload_n 1), (28, .iadd), (29, .baload), (30, .ifCond .ne 5), (33, .iconst (-1)), (34, .ireturn), (35, .aload_n 0), (36, .invokevirtual 286), (39, .iload_n 2), (40, .istore_n 3), (41, .iconst 1), (42, .istore 4), (44, .iload 4), (46, .bipush 100), (48, .if_icmp .gt 76), (51, .iconst 0), (52, .istore 5), (54, .iconst 1), (55, .istore 6), (57, .iload 6), (59, .bipush 100), (61, .if_icmp .gt 41), (64, .iload 5), (66, .aload_n 0), (67, .getfield 127), (70, .sipush 10201), (73, .iload_n 1), (74, .imul), (75, .bipush 101), (77, .iload 4), (79, .imul), (80, .iadd), (81, .iload 6), (83, .iadd), (84, .baload), (85, .ifCond .eq 7), (88, .iconst 1), (89, .goto 4), (92, .iconst 0), (93, .iadd), (94, .istore 5), (96, .iinc 6 1), (99, .goto (-42)), (102, .iload 5), (104, .iconst 1), (105, .if_icmp .le 13), (108, .iload_n 3), (109, .ifCond .ne 6), (112, .iload 4), (114, .ireturn), (115, .iinc 3 (-1)), (118, .iinc 4 1), (121, .goto (-77)), (124, .iconst (-1)), (125, .ireturn)]
theorem pr_M_quarrel : prOK m_M_quarrel P_M_quarrel = true := by decide +kernel
def S_M_quarrel : List (Nat × List Nat) := [(44, [0, 1, 2, 3, 4]), (57, [0, 1, 2, 3, 4, 5, 6])]
theorem ev_M_quarrel {d : Nat} {w : Wd} {Q : Int32 → Wd → Prop} (x1 : Int32) (x2 : Int32) (h : Z m_M_quarrel d (qI Q) 0 [(0, .ref 58), (1, .int x1), (2, .int x2)] [] w) : EvI m_M_quarrel d [.ref 58, .int x1, .int x2] w Q := Ev.ofZ (by decide +kernel) (Nat.le_of_ble_eq_true rfl) h
set_option maxRecDepth 20000 in
set_option maxHeartbeats 1000000 in
theorem vc_M_quarrel_0 {d : Nat} {w : Wd} {Q : Int32 → Wd → Prop} (x1 : Int32) (x2 : Int32) (h : ∃ Q1 : Int32 → Wd → Prop, EvI m_M_isR d [.int x1] (up1 w 58 0 (nI 0)) Q1 ∧ ∀ (r1 : Int32) (w1 : Wd), Q1 r1 w1 → ((r1 = 0 → Q (-nI 1) w1) ∧ (¬ r1 = 0 → ((x2 < 0 → Q (-nI 1) w1) ∧ (¬ x2 < 0 → ∃ j1 : Nat, (((nI 10) * (w1.1 58 10)) + x1) = nI j1 ∧ j1 < 20 ∧ ((¬ (w1.1 75 j1) = 0 → ∃ Q2 : Wd → Prop, EvV m_M_findRows d [.ref 58] w1 Q2 ∧ ∀ w2 : Wd, Q2 w2 → Z m_M_quarrel (d + 1) (qI Q) 44 [(0, .ref 58), (1, .int x1), (2, .int x2), (3, .int x2), (4, .int (nI 1))] [] w2) ∧ ((w1.1 75 j1) = 0 → Q (-nI 1) w1))))))) : Z m_M_quarrel (d + 1) (qI Q) 0 [(0, .ref 58), (1, .int x1), (2, .int x2)] [] w := wp_ok (P := P_M_quarrel) (S := S_M_quarrel) rfl pr_M_quarrel 25 _ _ _ _ h
set_option maxRecDepth 20000 in
set_option maxHeartbeats 1000000 in
theorem vc_M_quarrel_44 {d : Nat} {w : Wd} {Q : Int32 → Wd → Prop} (x1 : Int32) (x2 : Int32) (x3 : Int32) (x4 : Int32) (h : (((nI 100) < x4 → Q (-nI 1) w) ∧ (¬ (nI 100) < x4 → Z m_M_quarrel (d + 1) (qI Q) 57 [(0, .ref 58), (1, .int x1), (2, .int x2), (3, .int x3), (4, .int x4), (5, .int (nI 0)), (6, .int (nI 1))] [] w))) : Z m_M_quarrel (d + 1) (qI Q) 44 [(0, .ref 58), (1, .int x1), (2, .int x2), (3, .int x3), (4, .int x4)] [] w := wp_ok (P := P_M_quarrel) (S := S_M_quarrel) rfl pr_M_quarrel 8 _ _ _ _ h
set_option maxRecDepth 20000 in
set_option maxHeartbeats 1000000 in
theorem vc_M_quarrel_57 {d : Nat} {w : Wd} {Q : Int32 → Wd → Prop} (x1 : Int32) (x2 : Int32) (x3 : Int32) (x4 : Int32) (x5 : Int32) (x6 : Int32) (h : (((nI 100) < x6 → ((x5 ≤ (nI 1) → Z m_M_quarrel (d + 1) (qI Q) 44 [(0, .ref 58), (1, .int x1), (2, .int x2), (3, .int x3), (4, .int (x4 + nI 1))] [] w) ∧ (¬ x5 ≤ (nI 1) → ((¬ x3 = 0 → Z m_M_quarrel (d + 1) (qI Q) 44 [(0, .ref 58), (1, .int x1), (2, .int x2), (3, .int (x3 + (-nI 1))), (4, .int (x4 + nI 1))] [] w) ∧ (x3 = 0 → Q x4 w))))) ∧ (¬ (nI 100) < x6 → ∃ j1 : Nat, ((((nI 10201) * x1) + ((nI 101) * x4)) + x6) = nI j1 ∧ j1 < 102010 ∧ (((w.1 85 j1) = 0 → Z m_M_quarrel (d + 1) (qI Q) 57 [(0, .ref 58), (1, .int x1), (2, .int x2), (3, .int x3), (4, .int x4), (5, .int (x5 + (nI 0))), (6, .int (x6 + nI 1))] [] w) ∧ (¬ (w.1 85 j1) = 0 → Z m_M_quarrel (d + 1) (qI Q) 57 [(0, .ref 58), (1, .int x1), (2, .int x2), (3, .int x3), (4, .int x4), (5, .int (x5 + (nI 1))), (6, .int (x6 + nI 1))] [] w))))) : Z m_M_quarrel (d + 1) (qI Q) 57 [(0, .ref 58), (1, .int x1), (2, .int x2), (3, .int x3), (4, .int x4), (5, .int x5), (6, .int x6)] [] w := wp_ok (P := P_M_quarrel) (S := S_M_quarrel) rfl pr_M_quarrel 24 _ _ _ _ h
def P_M_mark : Prog := [(0, .aload_n 0), (1, .iconst 0), (2, .putfield 1), (5, .aload_n 0), (6, .iload_n 1), (7, .invokevirtual 255), (10, .ifCond .eq 44), (13, .iload_n 2), (14, .ifCond .lt 40), (17, .iload_n 2), (18, .aload_n 0), (19, .getfield 103), (22, .iload_n 1), (23, .iaload), (24, .if_icmp .ge 30), (27, .iload_n 3), (28, .ifCond .lt 26), (31, .iload_n 3), (32, .aload_n 0), (33, .getfield 103), (36, .iload_n 1), (37, .iaload), (38, .if_icmp .ge 16), (41, .iload_n 2), (42, .iload_n 3), (43, .if_icmp .eq 11), (46, .iload 4), (48, .invokestatic 283), (51, .ifCond .ne 5), (54, .iconst (-1)), (55, .ireturn), (56, .iconst 0), (57, .istore 6), (59, .iload 6), (61, .aload_n 0), (62, .getfield 289), (65, .if_icmp .ge 54), (68, .aload_n 0), (69, .getfield 130), (72, .iload 6), (74, .iaload), (75, .iload_n 1), (76, .if_icmp .ne 37), (79, .aload_n 0), (80, .getfield 133), (83, .iload 6), (85, .iaload), (86, .iload_n 2), (87, .if_icmp .ne 26), (90, .aload_n 0), (91, .getfield 136), (94, .iload 6), (96, .iaload), (97, .iload_n 3), (98, .if_icmp .ne 15), (101, .aload_n 0), (102, .getfield 139), (105, .iload 6), (107, .iaload), (108, .iload 4), (110, .if_icmp .eq 9), (113, .iinc 6 1), (116, .goto (-57)), (119, .iload 6), (121, .bipush 60), (123, .if_icmp .ne 5), (126, .iconst (-1)), (127, .ireturn), (128, .aload_n 0), (129, .getfield 130), (132, .iload 6), (134, .iload_n 1), (135, .iastore), (136, .aload_n 0), (137, .getfield 133), (140, .iload 6), (142, .iload_n 2), (143, .iastore), (144, .aload_n 0), (145, .getfield 136), (148, .iload 6), (150, .iload_n 3), (151, .iastore), (152, .aload_n 0), (153, .getfield 139), (156, .iload 6), (158, .iload 4), (160, .iastore), (161, .aload_n 0), (162, .getfield 142), (165, .iload 6), (167, .iload 5), (169, .bastore), (170, .aload_n 0), (171, .iload 6), (173, .aload_n 0), (174, .getfield 289), (177, .if_icmp .ne 12), (180, .aload_n 0), (181, .getfield 289), (184, .iconst 1), (185, .iadd), (186, .goto 7), (189, .aload_n 0), (190, .getfield 289), (193, .putfield 289), (196, .aload_n 0), (197, .getfield 289), (200, .ireturn)]
theorem pr_M_mark : prOK m_M_mark P_M_mark = true := by decide +kernel
def S_M_mark : List (Nat × List Nat) := [(59, [0, 1, 2, 3, 4, 5, 6])]
theorem ev_M_mark {d : Nat} {w : Wd} {Q : Int32 → Wd → Prop} (x1 : Int32) (x2 : Int32) (x3 : Int32) (x4 : Int32) (x5 : Int32) (h : Z m_M_mark d (qI Q) 0 [(0, .ref 58), (1, .int x1), (2, .int x2), (3, .int x3), (4, .int x4), (5, .int x5)] [] w) : EvI m_M_mark d [.ref 58, .int x1, .int x2, .int x3, .int x4, .int x5] w Q := Ev.ofZ (by decide +kernel) (Nat.le_of_ble_eq_true rfl) h
set_option maxRecDepth 20000 in
set_option maxHeartbeats 1000000 in
theorem vc_M_mark_0 {d : Nat} {w : Wd} {Q : Int32 → Wd → Prop} (x1 : Int32) (x2 : Int32) (x3 : Int32) (x4 : Int32) (x5 : Int32) (h : ∃ Q1 : Int32 → Wd → Prop, EvI m_M_isThere d [.ref 58, .int x1] (up1 w 58 0 (nI 0)) Q1 ∧ ∀ (r1 : Int32) (w1 : Wd), Q1 r1 w1 → ((r1 = 0 → Q (-nI 1) w1) ∧ (¬ r1 = 0 → ((x2 < 0 → Q (-nI 1) w1) ∧ (¬ x2 < 0 → ∃ j1 : Nat, x1 = nI j1 ∧ j1 < 40 ∧ (((w1.1 79 j1) ≤ x2 → Q (-nI 1) w1) ∧ (¬ (w1.1 79 j1) ≤ x2 → ((x3 < 0 → Q (-nI 1) w1) ∧ (¬ x3 < 0 → ∃ j2 : Nat, x1 = nI j2 ∧ j2 < 40 ∧ (((w1.1 79 j2) ≤ x3 → Q (-nI 1) w1) ∧ (¬ (w1.1 79 j2) ≤ x3 → ((x2 = x3 → Q (-nI 1) w1) ∧ (¬ x2 = x3 → ∃ Q2 : Int32 → Wd → Prop, EvI m_M_isR d [.int x4] w1 Q2 ∧ ∀ (r2 : Int32) (w2 : Wd), Q2 r2 w2 → ((¬ r2 = 0 → Z m_M_mark (d + 1) (qI Q) 59 [(0, .ref 58), (1, .int x1), (2, .int x2), (3, .int x3), (4, .int x4), (5, .int x5), (6, .int (nI 0))] [] w2) ∧ (r2 = 0 → Q (-nI 1) w2))))))))))))))) : Z m_M_mark (d + 1) (qI Q) 0 [(0, .ref 58), (1, .int x1), (2, .int x2), (3, .int x3), (4, .int x4), (5, .int x5)] [] w := wp_ok (P := P_M_mark) (S := S_M_mark) rfl pr_M_mark 32 _ _ _ _ h
set_option maxRecDepth 20000 in
set_option maxHeartbeats 1000000 in
theorem vc_M_mark_59 {d : Nat} {w : Wd} {Q : Int32 → Wd → Prop} (x1 : Int32) (x2 : Int32) (x3 : Int32) (x4 : Int32) (x5 : Int32) (x6 : Int32) (h : (((w.1 58 39) ≤ x6 → ((¬ x6 = (nI 60) → ∃ j1 : Nat, x6 = nI j1 ∧ j1 < 60 ∧ ∃ j2 : Nat, x6 = nI j2 ∧ j2 < 60 ∧ ∃ j3 : Nat, x6 = nI j3 ∧ j3 < 60 ∧ ∃ j4 : Nat, x6 = nI j4 ∧ j4 < 60 ∧ ∃ j5 : Nat, x6 = nI j5 ∧ j5 < 60 ∧ (x5 = 0 ∨ x5 = 1) ∧ ((¬ x6 = (w.1 58 39) → Q (w.1 58 39) (up1 (up1 (up1 (up1 (up1 (up1 w 86 j1 x1) 87 j2 x2) 88 j3 x3) 89 j4 x4) 90 j5 x5) 58 39 (w.1 58 39))) ∧ (x6 = (w.1 58 39) → Q ((w.1 58 39) + (nI 1)) (up1 (up1 (up1 (up1 (up1 (up1 w 86 j1 x1) 87 j2 x2) 88 j3 x3) 89 j4 x4) 90 j5 x5) 58 39 ((w.1 58 39) + (nI 1)))))) ∧ (x6 = (nI 60) → Q (-nI 1) w))) ∧ (¬ (w.1 58 39) ≤ x6 → ∃ j6 : Nat, x6 = nI j6 ∧ j6 < 60 ∧ ((¬ (w.1 86 j6) = x1 → Z m_M_mark (d + 1) (qI Q) 59 [(0, .ref 58), (1, .int x1), (2, .int x2), (3, .int x3), (4, .int x4), (5, .int x5), (6, .int (x6 + nI 1))] [] w) ∧ ((w.1 86 j6) = x1 → ∃ j7 : Nat, x6 = nI j7 ∧ j7 < 60 ∧ ((¬ (w.1 87 j7) = x2 → Z m_M_mark (d + 1) (qI Q) 59 [(0, .ref 58), (1, .int x1), (2, .int x2), (3, .int x3), (4, .int x4), (5, .int x5), (6, .int (x6 + nI 1))] [] w) ∧ ((w.1 87 j7) = x2 → ∃ j8 : Nat, x6 = nI j8 ∧ j8 < 60 ∧ ((¬ (w.1 88 j8) = x3 → Z m_M_mark (d + 1) (qI Q) 59 [(0, .ref 58), (1, .int x1), (2, .int x2), (3, .int x3), (4, .int x4), (5, .int x5), (6, .int (x6 + nI 1))] [] w) ∧ ((w.1 88 j8) = x3 → ∃ j9 : Nat, x6 = nI j9 ∧ j9 < 60 ∧ (((w.1 89 j9) = x4 → ((¬ x6 = (nI 60) → ∃ j10 : Nat, x6 = nI j10 ∧ j10 < 60 ∧ ∃ j11 : Nat, x6 = nI j11 ∧ j11 < 60 ∧ ∃ j12 : Nat, x6 = nI j12 ∧ j12 < 60 ∧ ∃ j13 : Nat, x6 = nI j13 ∧ j13 < 60 ∧ ∃ j14 : Nat, x6 = nI j14 ∧ j14 < 60 ∧ (x5 = 0 ∨ x5 = 1) ∧ ((¬ x6 = (w.1 58 39) → Q (w.1 58 39) (up1 (up1 (up1 (up1 (up1 (up1 w 86 j10 x1) 87 j11 x2) 88 j12 x3) 89 j13 x4) 90 j14 x5) 58 39 (w.1 58 39))) ∧ (x6 = (w.1 58 39) → Q ((w.1 58 39) + (nI 1)) (up1 (up1 (up1 (up1 (up1 (up1 w 86 j10 x1) 87 j11 x2) 88 j12 x3) 89 j13 x4) 90 j14 x5) 58 39 ((w.1 58 39) + (nI 1)))))) ∧ (x6 = (nI 60) → Q (-nI 1) w))) ∧ (¬ (w.1 89 j9) = x4 → Z m_M_mark (d + 1) (qI Q) 59 [(0, .ref 58), (1, .int x1), (2, .int x2), (3, .int x3), (4, .int x4), (5, .int x5), (6, .int (x6 + nI 1))] [] w))))))))))) : Z m_M_mark (d + 1) (qI Q) 59 [(0, .ref 58), (1, .int x1), (2, .int x2), (3, .int x3), (4, .int x4), (5, .int x5), (6, .int x6)] [] w := wp_ok (P := P_M_mark) (S := S_M_mark) rfl pr_M_mark 71 _ _ _ _ h
def P_M_catchesMark : Prog := [(0, .aload_n 0), (1, .getfield 60), (4, .bipush 12), (6, .aload_n 0), (7, .getfield 202), (10, .imul), (11, .iload_n 1), (12, .iadd), (13, .iaload), (14, .aload_n 0), (15, .getfield 139), (18, .iload_n 2), (19, .iaload), (20, .if_icmp .ne 37), (23, .aload_n 0), (24, .getfield 117), (27, .aload_n 0), (28, .getfield 130), (31, .iload_n 2), (32, .iaload), (33, .iload_n 1), (34, .aload_n 0), (35, .getfield 133), (38, .iload_n 2), (39, .iaload), (40, .aload_n 0), (41, .getfield 136), (44, .iload_n 2), (45, .iaload), (46, .invokestatic 266), (49, .baload), (50, .ifCond .eq 7), (53, .iconst 1), (54, .goto 4), (57, .iconst 0), (58, .ireturn)]
theorem pr_M_catchesMark : prOK m_M_catchesMark P_M_catchesMark = true := by decide +kernel
def S_M_catchesMark : List (Nat × List Nat) := []
theorem ev_M_catchesMark {d : Nat} {w : Wd} {Q : Int32 → Wd → Prop} (x1 : Int32) (x2 : Int32) (h : Z m_M_catchesMark d (qI Q) 0 [(0, .ref 58), (1, .int x1), (2, .int x2)] [] w) : EvI m_M_catchesMark d [.ref 58, .int x1, .int x2] w Q := Ev.ofZ (by decide +kernel) (Nat.le_of_ble_eq_true rfl) h
set_option maxRecDepth 20000 in
set_option maxHeartbeats 1000000 in
theorem vc_M_catchesMark_0 {d : Nat} {w : Wd} {Q : Int32 → Wd → Prop} (x1 : Int32) (x2 : Int32) (h : ∃ j1 : Nat, (((nI 12) * (w.1 58 10)) + x1) = nI j1 ∧ j1 < 24 ∧ ∃ j2 : Nat, x2 = nI j2 ∧ j2 < 60 ∧ ((¬ (w.1 65 j1) = (w.1 89 j2) → ((nI 0) = 0 ∨ (nI 0) = 1) ∧ Q (nI 0) w) ∧ ((w.1 65 j1) = (w.1 89 j2) → ∃ j3 : Nat, x2 = nI j3 ∧ j3 < 60 ∧ ∃ j4 : Nat, x2 = nI j4 ∧ j4 < 60 ∧ ∃ j5 : Nat, x2 = nI j5 ∧ j5 < 60 ∧ ∃ Q1 : Int32 → Wd → Prop, EvI m_M_findOf d [.int (w.1 86 j3), .int x1, .int (w.1 87 j4), .int (w.1 88 j5)] w Q1 ∧ ∀ (r1 : Int32) (w1 : Wd), Q1 r1 w1 → ∃ j6 : Nat, r1 = nI j6 ∧ j6 < 122880 ∧ (((w1.1 82 j6) = 0 → ((nI 0) = 0 ∨ (nI 0) = 1) ∧ Q (nI 0) w1) ∧ (¬ (w1.1 82 j6) = 0 → ((nI 1) = 0 ∨ (nI 1) = 1) ∧ Q (nI 1) w1))))) : Z m_M_catchesMark (d + 1) (qI Q) 0 [(0, .ref 58), (1, .int x1), (2, .int x2)] [] w := wp_ok (P := P_M_catchesMark) (S := S_M_catchesMark) rfl pr_M_catchesMark 36 _ _ _ _ h
def P_M_caught : Prog := [(0, .iconst 0), (1, .istore_n 3), (2, .iconst 0), (3, .istore 4), (5, .iload 4), (7, .aload_n 0), (8, .getfield 289), (11, .if_icmp .ge 38), (14, .iload_n 3), (15, .aload_n 0), (16, .getfield 142), (19, .iload 4), (21, .baload), (22, .iload_n 2), (23, .if_icmp .ne 17), (26, .aload_n 0), (27, .iload_n 1), (28, .iload 4), (30, .invokevirtual 292), (33, .ifCond .eq 7), (36, .iconst 1), (37, .goto 4), (40, .iconst 0), (41, .iadd), (42, .istore_n 3), (43, .iinc 4 1), (46, .goto (-41)), (49, .iload_n 3), (50, .ireturn)]
theorem pr_M_caught : prOK m_M_caught P_M_caught = true := by decide +kernel
def S_M_caught : List (Nat × List Nat) := [(5, [0, 1, 2, 3, 4])]
theorem ev_M_caught {d : Nat} {w : Wd} {Q : Int32 → Wd → Prop} (x1 : Int32) (x2 : Int32) (h : Z m_M_caught d (qI Q) 0 [(0, .ref 58), (1, .int x1), (2, .int x2)] [] w) : EvI m_M_caught d [.ref 58, .int x1, .int x2] w Q := Ev.ofZ (by decide +kernel) (Nat.le_of_ble_eq_true rfl) h
set_option maxRecDepth 20000 in
set_option maxHeartbeats 1000000 in
theorem vc_M_caught_0 {d : Nat} {w : Wd} {Q : Int32 → Wd → Prop} (x1 : Int32) (x2 : Int32) (h : Z m_M_caught (d + 1) (qI Q) 5 [(0, .ref 58), (1, .int x1), (2, .int x2), (3, .int (nI 0)), (4, .int (nI 0))] [] w) : Z m_M_caught (d + 1) (qI Q) 0 [(0, .ref 58), (1, .int x1), (2, .int x2)] [] w := wp_ok (P := P_M_caught) (S := S_M_caught) rfl pr_M_caught 5 _ _ _ _ h
set_option maxRecDepth 20000 in
set_option maxHeartbeats 1000000 in
theorem vc_M_caught_5 {d : Nat} {w : Wd} {Q : Int32 → Wd → Prop} (x1 : Int32) (x2 : Int32) (x3 : Int32) (x4 : Int32) (h : (((w.1 58 39) ≤ x4 → Q x3 w) ∧ (¬ (w.1 58 39) ≤ x4 → ∃ j1 : Nat, x4 = nI j1 ∧ j1 < 60 ∧ ((¬ (w.1 90 j1) = x2 → Z m_M_caught (d + 1) (qI Q) 5 [(0, .ref 58), (1, .int x1), (2, .int x2), (3, .int (x3 + (nI 0))), (4, .int (x4 + nI 1))] [] w) ∧ ((w.1 90 j1) = x2 → ∃ Q1 : Int32 → Wd → Prop, EvI m_M_catchesMark d [.ref 58, .int x1, .int x4] w Q1 ∧ ∀ (r1 : Int32) (w1 : Wd), Q1 r1 w1 → ((r1 = 0 → Z m_M_caught (d + 1) (qI Q) 5 [(0, .ref 58), (1, .int x1), (2, .int x2), (3, .int (x3 + (nI 0))), (4, .int (x4 + nI 1))] [] w1) ∧ (¬ r1 = 0 → Z m_M_caught (d + 1) (qI Q) 5 [(0, .ref 58), (1, .int x1), (2, .int x2), (3, .int (x3 + (nI 1))), (4, .int (x4 + nI 1))] [] w1))))))) : Z m_M_caught (d + 1) (qI Q) 5 [(0, .ref 58), (1, .int x1), (2, .int x2), (3, .int x3), (4, .int x4)] [] w := wp_ok (P := P_M_caught) (S := S_M_caught) rfl pr_M_caught 23 _ _ _ _ h
def P_M_rule : Prog := [(0, .aload_n 0), (1, .iload_n 1), (2, .ifCond .lt 29), (5, .iload_n 1), (6, .aload_n 0), (7, .getfield 57), (10, .aload_n 0), (11, .getfield 202), (14, .iaload), (15, .if_icmp .ge 16), (18, .iload_n 2), (19, .ifCond .lt 12), (22, .iload_n 2), (23, .iconst 5), (24, .if_icmp .gt 7), (27, .iconst 0), (28, .goto 4), (31, .iconst 1), (32, .putfield 1), (35, .aload_n 0), (36, .getfield 1), (39, .ifCond .le 5), (42, .iconst 0), (43, .ireturn), (44, .aload_n 0), (45, .invokevirtual 274), (48, .aload_n 0), (49, .iload_n 1), (50, .iconst 1), (51, .invokevirtual 296), (54, .istore_n 3), (55, .aload_n 0), (56, .iload_n 1), (57, .iconst 0), (58, .invokevirtual 296), (61, .istore 4), (63, .iconst 0), (64, .istore 5), (66, .iconst 0), (67, .istore 6), (69, .iload 6), (71, .bipush 40), (73, .if_icmp .ge 60), (76, .iload 6), (78, .iload_n 1), (79, .iconst 0), (80, .iconst 0), (81, .invokestatic 266), (84, .istore 7), (86, .iload 7), (88, .iload 6), (90, .iload_n 1), (91, .bipush 15), (93, .bipush 15), (95, .invokestatic 266), (98, .if_icmp .gt 29), (101, .iload 5), (103, .aload_n 0), (104, .getfield 117), (107, .iload 7), (109, .baload), (110, .ifCond .eq 7), (113, .iconst 1), (114, .goto 4), (117, .iconst 0), (118, .iadd), (119, .istore 5), (121, .iinc 7 1), (124, .goto (-38)), (127, .iinc 6 1), (130, .goto (-61)), (133, .iload_n 2), (134, .tableswitch 91 0 4 #[34, 49, 51, 54, 76]), (168, .aload_n 0), (169, .getfield 60), (172, .bipush 12), (174, .aload_n 0), (175, .getfield 202), (178, .imul), (179, .iload_n 1), (180, .iadd), (181, .iaload), (182, .ireturn), (183, .iload_n 3), (184, .ireturn), (185, .iload 4), (187, .ireturn), (188, .iload_n 3), (189, .iload 4), (191, .iadd), (192, .ifCond .ne 7), (195, .iconst (-1)), (196, .goto 13), (199, .iload_n 3), (200, .sipush 1000), (203, .imul), (204, .iload_n 3), (205, .iload 4), (207, .iadd), (208, .idiv), (209, .ireturn), (210, .aload_n 0), (211, .getfield 63), (214, .bipush 12), (216, .aload_n 0), (217, .getfield 202), (220, .imul), (221, .iload_n 1), (222, .iadd), (223, .iaload), (224, .ireturn), (225, .iload 5), (227, .ireturn)]
theorem pr_M_rule : prOK m_M_rule P_M_rule = true := by decide +kernel
def S_M_rule : List (Nat × List Nat) := [(69, [0, 1, 2, 3, 4, 5, 6]), (86, [0, 1, 2, 3, 4, 5, 6, 7])]
theorem ev_M_rule {d : Nat} {w : Wd} {Q : Int32 → Wd → Prop} (x1 : Int32) (x2 : Int32) (h : Z m_M_rule d (qI Q) 0 [(0, .ref 58), (1, .int x1), (2, .int x2)] [] w) : EvI m_M_rule d [.ref 58, .int x1, .int x2] w Q := Ev.ofZ (by decide +kernel) (Nat.le_of_ble_eq_true rfl) h
set_option maxRecDepth 20000 in
set_option maxHeartbeats 1000000 in
theorem vc_M_rule_0 {d : Nat} {w : Wd} {Q : Int32 → Wd → Prop} (x1 : Int32) (x2 : Int32) (h : ((x1 < 0 → (((nI 1) ≤ 0 → ∃ Q1 : Wd → Prop, EvV m_M_findAll d [.ref 58] (up1 w 58 0 (nI 1)) Q1 ∧ ∀ w1 : Wd, Q1 w1 → ∃ Q2 : Int32 → Wd → Prop, EvI m_M_caught d [.ref 58, .int x1, .int (nI 1)] w1 Q2 ∧ ∀ (r2 : Int32) (w2 : Wd), Q2 r2 w2 → ∃ Q3 : Int32 → Wd → Prop, EvI m_M_caught d [.ref 58, .int x1, .int (nI 0)] w2 Q3 ∧ ∀ (r3 : Int32) (w3 : Wd), Q3 r3 w3 → Z m_M_rule (d + 1) (qI Q) 69 [(0, .ref 58), (1, .int x1), (2, .int x2), (3, .int r2), (4, .int r3), (5, .int (nI 0)), (6, .int (nI 0))] [] w3) ∧ (¬ (nI 1) ≤ 0 → Q (nI 0) (up1 w 58 0 (nI 1))))) ∧ (¬ x1 < 0 → ∃ j1 : Nat, (w.1 58 10) = nI j1 ∧ j1 < 2 ∧ (((w.1 64 j1) ≤ x1 → (((nI 1) ≤ 0 → ∃ Q4 : Wd → Prop, EvV m_M_findAll d [.ref 58] (up1 w 58 0 (nI 1)) Q4 ∧ ∀ w4 : Wd, Q4 w4 → ∃ Q5 : Int32 → Wd → Prop, EvI m_M_caught d [.ref 58, .int x1, .int (nI 1)] w4 Q5 ∧ ∀ (r5 : Int32) (w5 : Wd), Q5 r5 w5 → ∃ Q6 : Int32 → Wd → Prop, EvI m_M_caught d [.ref 58, .int x1, .int (nI 0)] w5 Q6 ∧ ∀ (r6 : Int32) (w6 : Wd), Q6 r6 w6 → Z m_M_rule (d + 1) (qI Q) 69 [(0, .ref 58), (1, .int x1), (2, .int x2), (3, .int r5), (4, .int r6), (5, .int (nI 0)), (6, .int (nI 0))] [] w6) ∧ (¬ (nI 1) ≤ 0 → Q (nI 0) (up1 w 58 0 (nI 1))))) ∧ (¬ (w.1 64 j1) ≤ x1 → ((x2 < 0 → (((nI 1) ≤ 0 → ∃ Q7 : Wd → Prop, EvV m_M_findAll d [.ref 58] (up1 w 58 0 (nI 1)) Q7 ∧ ∀ w7 : Wd, Q7 w7 → ∃ Q8 : Int32 → Wd → Prop, EvI m_M_caught d [.ref 58, .int x1, .int (nI 1)] w7 Q8 ∧ ∀ (r8 : Int32) (w8 : Wd), Q8 r8 w8 → ∃ Q9 : Int32 → Wd → Prop, EvI m_M_caught d [.ref 58, .int x1, .int (nI 0)] w8 Q9 ∧ ∀ (r9 : Int32) (w9 : Wd), Q9 r9 w9 → Z m_M_rule (d + 1) (qI Q) 69 [(0, .ref 58), (1, .int x1), (2, .int x2), (3, .int r8), (4, .int r9), (5, .int (nI 0)), (6, .int (nI 0))] [] w9) ∧ (¬ (nI 1) ≤ 0 → Q (nI 0) (up1 w 58 0 (nI 1))))) ∧ (¬ x2 < 0 → (((nI 5) < x2 → (((nI 1) ≤ 0 → ∃ Q10 : Wd → Prop, EvV m_M_findAll d [.ref 58] (up1 w 58 0 (nI 1)) Q10 ∧ ∀ w10 : Wd, Q10 w10 → ∃ Q11 : Int32 → Wd → Prop, EvI m_M_caught d [.ref 58, .int x1, .int (nI 1)] w10 Q11 ∧ ∀ (r11 : Int32) (w11 : Wd), Q11 r11 w11 → ∃ Q12 : Int32 → Wd → Prop, EvI m_M_caught d [.ref 58, .int x1, .int (nI 0)] w11 Q12 ∧ ∀ (r12 : Int32) (w12 : Wd), Q12 r12 w12 → Z m_M_rule (d + 1) (qI Q) 69 [(0, .ref 58), (1, .int x1), (2, .int x2), (3, .int r11), (4, .int r12), (5, .int (nI 0)), (6, .int (nI 0))] [] w12) ∧ (¬ (nI 1) ≤ 0 → Q (nI 0) (up1 w 58 0 (nI 1))))) ∧ (¬ (nI 5) < x2 → (((nI 0) ≤ 0 → ∃ Q13 : Wd → Prop, EvV m_M_findAll d [.ref 58] (up1 w 58 0 (nI 0)) Q13 ∧ ∀ w13 : Wd, Q13 w13 → ∃ Q14 : Int32 → Wd → Prop, EvI m_M_caught d [.ref 58, .int x1, .int (nI 1)] w13 Q14 ∧ ∀ (r14 : Int32) (w14 : Wd), Q14 r14 w14 → ∃ Q15 : Int32 → Wd → Prop, EvI m_M_caught d [.ref 58, .int x1, .int (nI 0)] w14 Q15 ∧ ∀ (r15 : Int32) (w15 : Wd), Q15 r15 w15 → Z m_M_rule (d + 1) (qI Q) 69 [(0, .ref 58), (1, .int x1), (2, .int x2), (3, .int r14), (4, .int r15), (5, .int (nI 0)), (6, .int (nI 0))] [] w15) ∧ (¬ (nI 0) ≤ 0 → Q (nI 0) (up1 w 58 0 (nI 0))))))))))))) : Z m_M_rule (d + 1) (qI Q) 0 [(0, .ref 58), (1, .int x1), (2, .int x2)] [] w := wp_ok (P := P_M_rule) (S := S_M_rule) rfl pr_M_rule 38 _ _ _ _ h
set_option maxRecDepth 20000 in
set_option maxHeartbeats 1000000 in
theorem vc_M_rule_69 {d : Nat} {w : Wd} {Q : Int32 → Wd → Prop} (x1 : Int32) (x2 : Int32) (x3 : Int32) (x4 : Int32) (x5 : Int32) (x6 : Int32) (h : (((nI 40) ≤ x6 → ((x2 = nI 0 → ∃ j1 : Nat, (((nI 12) * (w.1 58 10)) + x1) = nI j1 ∧ j1 < 24 ∧ Q (w.1 65 j1) w) ∧ (¬ x2 = nI 0 → ((x2 = nI 1 → Q x3 w) ∧ (¬ x2 = nI 1 → ((x2 = nI 2 → Q x4 w) ∧ (¬ x2 = nI 2 → ((x2 = nI 3 → ((¬ (x3 + x4) = 0 → ¬ (x3 + x4) = 0 ∧ Q ((x3 * (nI 1000)) / (x3 + x4)) w) ∧ ((x3 + x4) = 0 → Q (-nI 1) w))) ∧ (¬ x2 = nI 3 → ((x2 = nI 4 → ∃ j2 : Nat, (((nI 12) * (w.1 58 10)) + x1) = nI j2 ∧ j2 < 24 ∧ Q (w.1 66 j2) w) ∧ (¬ x2 = nI 4 → Q x5 w))))))))))) ∧ (¬ (nI 40) ≤ x6 → ∃ Q1 : Int32 → Wd → Prop, EvI m_M_findOf d [.int x6, .int x1, .int (nI 0), .int (nI 0)] w Q1 ∧ ∀ (r1 : Int32) (w1 : Wd), Q1 r1 w1 → Z m_M_rule (d + 1) (qI Q) 86 [(0, .ref 58), (1, .int x1), (2, .int x2), (3, .int x3), (4, .int x4), (5, .int x5), (6, .int x6), (7, .int r1)] [] w1))) : Z m_M_rule (d + 1) (qI Q) 69 [(0, .ref 58), (1, .int x1), (2, .int x2), (3, .int x3), (4, .int x4), (5, .int x5), (6, .int x6)] [] w := wp_ok (P := P_M_rule) (S := S_M_rule) rfl pr_M_rule 18 _ _ _ _ h
set_option maxRecDepth 20000 in
set_option maxHeartbeats 1000000 in
theorem vc_M_rule_86 {d : Nat} {w : Wd} {Q : Int32 → Wd → Prop} (x1 : Int32) (x2 : Int32) (x3 : Int32) (x4 : Int32) (x5 : Int32) (x6 : Int32) (x7 : Int32) (h : ∃ Q1 : Int32 → Wd → Prop, EvI m_M_findOf d [.int x6, .int x1, .int (nI 15), .int (nI 15)] w Q1 ∧ ∀ (r1 : Int32) (w1 : Wd), Q1 r1 w1 → ((r1 < x7 → Z m_M_rule (d + 1) (qI Q) 69 [(0, .ref 58), (1, .int x1), (2, .int x2), (3, .int x3), (4, .int x4), (5, .int x5), (6, .int (x6 + nI 1))] [] w1) ∧ (¬ r1 < x7 → ∃ j1 : Nat, x7 = nI j1 ∧ j1 < 122880 ∧ (((w1.1 82 j1) = 0 → Z m_M_rule (d + 1) (qI Q) 86 [(0, .ref 58), (1, .int x1), (2, .int x2), (3, .int x3), (4, .int x4), (5, .int (x5 + (nI 0))), (6, .int x6), (7, .int (x7 + nI 1))] [] w1) ∧ (¬ (w1.1 82 j1) = 0 → Z m_M_rule (d + 1) (qI Q) 86 [(0, .ref 58), (1, .int x1), (2, .int x2), (3, .int x3), (4, .int x4), (5, .int (x5 + (nI 1))), (6, .int x6), (7, .int (x7 + nI 1))] [] w1))))) : Z m_M_rule (d + 1) (qI Q) 86 [(0, .ref 58), (1, .int x1), (2, .int x2), (3, .int x3), (4, .int x4), (5, .int x5), (6, .int x6), (7, .int x7)] [] w := wp_ok (P := P_M_rule) (S := S_M_rule) rfl pr_M_rule 20 _ _ _ _ h
def P_M_bits : Prog := [(0, .iconst 0), (1, .istore_n 2), (2, .iconst 0), (3, .istore_n 3), (4, .iload_n 3), (5, .bipush 60), (7, .if_icmp .ge 18), (10, .iload_n 2), (11, .lload_n 0), (12, .iload_n 3), (13, .lshr), (14, .lconst 1), (15, .land), (16, .l2i), (17, .iadd), (18, .istore_n 2), (19, .iinc 3 1), (22, .goto (-18)), (25, .iload_n 2), (26, .ireturn)]
theorem pr_M_bits : prOK m_M_bits P_M_bits = true := by decide +kernel
def S_M_bits : List (Nat × List Nat) := [(4, [0, 2, 3])]
theorem ev_M_bits {d : Nat} {w : Wd} {Q : Int32 → Wd → Prop} (x0 : Int64) (h : Z m_M_bits d (qI Q) 0 [(0, .long x0)] [] w) : EvI m_M_bits d [.long x0] w Q := Ev.ofZ (by decide +kernel) (Nat.le_of_ble_eq_true rfl) h
set_option maxRecDepth 20000 in
set_option maxHeartbeats 1000000 in
theorem vc_M_bits_0 {d : Nat} {w : Wd} {Q : Int32 → Wd → Prop} (x0 : Int64) (h : Z m_M_bits d (qI Q) 4 [(0, .long x0), (2, .int (nI 0)), (3, .int (nI 0))] [] w) : Z m_M_bits d (qI Q) 0 [(0, .long x0)] [] w := wp_ok (P := P_M_bits) (S := S_M_bits) rfl pr_M_bits 5 _ _ _ _ h
set_option maxRecDepth 20000 in
set_option maxHeartbeats 1000000 in
theorem vc_M_bits_4 {d : Nat} {w : Wd} {Q : Int32 → Wd → Prop} (x0 : Int64) (x2 : Int32) (x3 : Int32) (h : (((nI 60) ≤ x3 → Q x2 w) ∧ (¬ (nI 60) ≤ x3 → Z m_M_bits d (qI Q) 4 [(0, .long x0), (2, .int (x2 + (((x0 >>> (x3.toInt64 &&& 63)) &&& (lN 1)).toInt32))), (3, .int (x3 + nI 1))] [] w))) : Z m_M_bits d (qI Q) 4 [(0, .long x0), (2, .int x2), (3, .int x3)] [] w := wp_ok (P := P_M_bits) (S := S_M_bits) rfl pr_M_bits 15 _ _ _ _ h
def P_M_best : Prog := [(0, .aload_n 0), (1, .iconst 0), (2, .putfield 1), (5, .iload_n 1), (6, .ifCond .lt 9), (9, .iload_n 1), (10, .bipush 60), (12, .if_icmp .le 5), (15, .iconst (-1)), (16, .ireturn), (17, .aload_n 0), (18, .invokevirtual 274), (21, .iconst 0), (22, .istore_n 2), (23, .iload_n 2), (24, .aload_n 0), (25, .getfield 57), (28, .aload_n 0), (29, .getfield 202), (32, .iaload), (33, .if_icmp .ge 105), (36, .aload_n 0), (37, .getfield 145), (40, .iload_n 2), (41, .lconst 0), (42, .lastore), (43, .aload_n 0), (44, .getfield 148), (47, .iload_n 2), (48, .lconst 0), (49, .lastore), (50, .iconst 0), (51, .istore_n 3), (52, .iload_n 3), (53, .aload_n 0), (54, .getfield 289), (57, .if_icmp .ge 75), (60, .aload_n 0), (61, .iload_n 2), (62, .iload_n 3), (63, .invokevirtual 292), (66, .ifCond .eq 9), (69, .lconst 1), (70, .iload_n 3), (71, .lshl), (72, .goto 4), (75, .lconst 0), (76, .lstore 4), (78, .aload_n 0), (79, .getfield 145), (82, .iload_n 2), (83, .dup2), (84, .laload), (85, .aload_n 0), (86, .getfield 142), (89, .iload_n 3), (90, .baload), (91, .ifCond .eq 8), (94, .lload 4), (96, .goto 4), (99, .lconst 0), (100, .lor), (101, .lastore), (102, .aload_n 0), (103, .getfield 148), (106, .iload_n 2), (107, .dup2), (108, .laload), (109, .aload_n 0), (110, .getfield 142), (113, .iload_n 3), (114, .baload), (115, .ifCond .eq 7), (118, .lconst 0), (119, .goto 5), (122, .lload 4), (124, .lor), (125, .lastore), (126, .iinc 3 1), (129, .goto (-77)), (132, .iinc 2 1), (135, .goto (-112)), (138, .iconst 0), (139, .istore_n 2), (140, .iconst 0), (141, .istore_n 3), (142, .iconst 1), (143, .istore 4), (145, .iload 4), (147, .iconst 1), (148, .aload_n 0), (149, .getfield 57), (152, .aload_n 0), (153, .getfield 202), (156, .iaload), (157, .ishl), (158, .if_icmp .ge 140), (161, .lconst 0), (162, .lstore 5), (164, .lconst 0), (165, .lstore 7), (167, .iconst 0), (168, .istore 9), (170, .iload 9), (172, .aload_n 0), (173, .getfield 57), (176, .aload_n 0), (177, .getfield 202), (180, .iaload), (181, .if_icmp .ge 63), (184, .lload 5), (186, .iload 4), (188, .iload 9), (190, .ishr), (191, .iconst 1), (192, .iand), (193, .iconst 1), (194, .if_icmp .ne 13), (197, .aload_n 0), (198, .getfield 145), (201, .iload 9), (203, .laload), (204, .goto 4), (207, .lconst 0), (208, .lor), (209, .lstore 5), (211, .lload 7), (213, .iload 4), (215, .iload 9), (217, .ishr), (218, .iconst 1), (219, .iand), (220, .iconst 1), (221, .if_icmp .ne 13), (224, .aload_n 0), (225, .getfield 148), (228, .iload 9), (230, .laload), (231, .goto 4), (234, .lconst 0), (235, .lor), (236, .lstore 7), (238, .iinc 9 1), (241, .goto (-71)), (244, .lload 5), (246, .invokestatic 300), (249, .istore 9), (251, .lload 7), (253, .invokestatic 300), (256, .iload_n 1), (257, .if_icmp .gt 35), (260, .iload 9), (262, .iload_n 3), (263, .if_icmp .gt 23), (266, .iload 9), (268, .iload_n 3), (269, .if_icmp .ne 23), (272, .iload 4), (274, .i2l), (275, .invokestatic 300), (278, .iload_n 2), (279, .i2l), (280, .invokestatic 300), (283, .if_icmp .ge 9), (286, .iload 4), (288, .istore_n 2), (289, .iload 9), (291, .istore_n 3), (292, .iinc 4 1), (295, .goto (-150)), (298, .iload_n 2), (299, .ireturn)]
theorem pr_M_best : prOK m_M_best P_M_best = true := by decide +kernel
def S_M_best : List (Nat × List Nat) := [(23, [0, 1, 2]), (52, [0, 1, 2, 3]), (145, [0, 1, 2, 3, 4]), (170, [0, 1, 2, 3, 4, 5, 7, 9])]
theorem ev_M_best {d : Nat} {w : Wd} {Q : Int32 → Wd → Prop} (x1 : Int32) (h : Z m_M_best d (qI Q) 0 [(0, .ref 58), (1, .int x1)] [] w) : EvI m_M_best d [.ref 58, .int x1] w Q := Ev.ofZ (by decide +kernel) (Nat.le_of_ble_eq_true rfl) h
set_option maxRecDepth 20000 in
set_option maxHeartbeats 1000000 in
theorem vc_M_best_0 {d : Nat} {w : Wd} {Q : Int32 → Wd → Prop} (x1 : Int32) (h : ((x1 < 0 → Q (-nI 1) (up1 w 58 0 (nI 0))) ∧ (¬ x1 < 0 → ((x1 ≤ (nI 60) → ∃ Q1 : Wd → Prop, EvV m_M_findAll d [.ref 58] (up1 w 58 0 (nI 0)) Q1 ∧ ∀ w1 : Wd, Q1 w1 → Z m_M_best (d + 1) (qI Q) 23 [(0, .ref 58), (1, .int x1), (2, .int (nI 0))] [] w1) ∧ (¬ x1 ≤ (nI 60) → Q (-nI 1) (up1 w 58 0 (nI 0))))))) : Z m_M_best (d + 1) (qI Q) 0 [(0, .ref 58), (1, .int x1)] [] w := wp_ok (P := P_M_best) (S := S_M_best) rfl pr_M_best 13 _ _ _ _ h
set_option maxRecDepth 20000 in
set_option maxHeartbeats 1000000 in
theorem vc_M_best_23 {d : Nat} {w : Wd} {Q : Int32 → Wd → Prop} (x1 : Int32) (x2 : Int32) (h : ∃ j1 : Nat, (w.1 58 10) = nI j1 ∧ j1 < 2 ∧ (((w.1 64 j1) ≤ x2 → Z m_M_best (d + 1) (qI Q) 145 [(0, .ref 58), (1, .int x1), (2, .int (nI 0)), (3, .int (nI 0)), (4, .int (nI 1))] [] w) ∧ (¬ (w.1 64 j1) ≤ x2 → ∃ j2 : Nat, x2 = nI j2 ∧ j2 < 12 ∧ ∃ j3 : Nat, x2 = nI j3 ∧ j3 < 12 ∧ Z m_M_best (d + 1) (qI Q) 52 [(0, .ref 58), (1, .int x1), (2, .int x2), (3, .int (nI 0))] [] (up2 (up2 w 91 j2 (lN 0)) 92 j3 (lN 0))))) : Z m_M_best (d + 1) (qI Q) 23 [(0, .ref 58), (1, .int x1), (2, .int x2)] [] w := wp_ok (P := P_M_best) (S := S_M_best) rfl pr_M_best 20 _ _ _ _ h
set_option maxRecDepth 20000 in
set_option maxHeartbeats 1000000 in
theorem vc_M_best_52 {d : Nat} {w : Wd} {Q : Int32 → Wd → Prop} (x1 : Int32) (x2 : Int32) (x3 : Int32) (h : (((w.1 58 39) ≤ x3 → Z m_M_best (d + 1) (qI Q) 23 [(0, .ref 58), (1, .int x1), (2, .int (x2 + nI 1))] [] w) ∧ (¬ (w.1 58 39) ≤ x3 → ∃ Q1 : Int32 → Wd → Prop, EvI m_M_catchesMark d [.ref 58, .int x2, .int x3] w Q1 ∧ ∀ (r1 : Int32) (w1 : Wd), Q1 r1 w1 → ((r1 = 0 → ∃ j1 : Nat, x2 = nI j1 ∧ j1 < 12 ∧ ∃ j2 : Nat, x3 = nI j2 ∧ j2 < 60 ∧ (((w1.1 90 j2) = 0 → ∃ j3 : Nat, x2 = nI j3 ∧ j3 < 12 ∧ ∃ j4 : Nat, x2 = nI j4 ∧ j4 < 12 ∧ ∃ j5 : Nat, x3 = nI j5 ∧ j5 < 60 ∧ (((w1.1 90 j5) = 0 → ∃ j6 : Nat, x2 = nI j6 ∧ j6 < 12 ∧ Z m_M_best (d + 1) (qI Q) 52 [(0, .ref 58), (1, .int x1), (2, .int x2), (3, .int (x3 + nI 1))] [] (up2 (up2 w1 91 j3 ((w1.2 91 j1) ||| (lN 0))) 92 j6 ((w1.2 92 j4) ||| (lN 0)))) ∧ (¬ (w1.1 90 j5) = 0 → ∃ j7 : Nat, x2 = nI j7 ∧ j7 < 12 ∧ Z m_M_best (d + 1) (qI Q) 52 [(0, .ref 58), (1, .int x1), (2, .int x2), (3, .int (x3 + nI 1))] [] (up2 (up2 w1 91 j3 ((w1.2 91 j1) ||| (lN 0))) 92 j7 ((w1.2 92 j4) ||| (lN 0)))))) ∧ (¬ (w1.1 90 j2) = 0 → ∃ j8 : Nat, x2 = nI j8 ∧ j8 < 12 ∧ ∃ j9 : Nat, x2 = nI j9 ∧ j9 < 12 ∧ ∃ j10 : Nat, x3 = nI j10 ∧ j10 < 60 ∧ (((w1.1 90 j10) = 0 → ∃ j11 : Nat, x2 = nI j11 ∧ j11 < 12 ∧ Z m_M_best (d + 1) (qI Q) 52 [(0, .ref 58), (1, .int x1), (2, .int x2), (3, .int (x3 + nI 1))] [] (up2 (up2 w1 91 j8 ((w1.2 91 j1) ||| (lN 0))) 92 j11 ((w1.2 92 j9) ||| (lN 0)))) ∧ (¬ (w1.1 90 j10) = 0 → ∃ j12 : Nat, x2 = nI j12 ∧ j12 < 12 ∧ Z m_M_best (d + 1) (qI Q) 52 [(0, .ref 58), (1, .int x1), (2, .int x2), (3, .int (x3 + nI 1))] [] (up2 (up2 w1 91 j8 ((w1.2 91 j1) ||| (lN 0))) 92 j12 ((w1.2 92 j9) ||| (lN 0)))))))) ∧ (¬ r1 = 0 → ∃ j13 : Nat, x2 = nI j13 ∧ j13 < 12 ∧ ∃ j14 : Nat, x3 = nI j14 ∧ j14 < 60 ∧ (((w1.1 90 j14) = 0 → ∃ j15 : Nat, x2 = nI j15 ∧ j15 < 12 ∧ ∃ j16 : Nat, x2 = nI j16 ∧ j16 < 12 ∧ ∃ j17 : Nat, x3 = nI j17 ∧ j17 < 60 ∧ (((w1.1 90 j17) = 0 → ∃ j18 : Nat, x2 = nI j18 ∧ j18 < 12 ∧ Z m_M_best (d + 1) (qI Q) 52 [(0, .ref 58), (1, .int x1), (2, .int x2), (3, .int (x3 + nI 1))] [] (up2 (up2 w1 91 j15 ((w1.2 91 j13) ||| (lN 0))) 92 j18 ((w1.2 92 j16) ||| ((lN 1) <<< (x3.toInt64 &&& 63))))) ∧ (¬ (w1.1 90 j17) = 0 → ∃ j19 : Nat, x2 = nI j19 ∧ j19 < 12 ∧ Z m_M_best (d + 1) (qI Q) 52 [(0, .ref 58), (1, .int x1), (2, .int x2), (3, .int (x3 + nI 1))] [] (up2 (up2 w1 91 j15 ((w1.2 91 j13) ||| (lN 0))) 92 j19 ((w1.2 92 j16) ||| (lN 0)))))) ∧ (¬ (w1.1 90 j14) = 0 → ∃ j20 : Nat, x2 = nI j20 ∧ j20 < 12 ∧ ∃ j21 : Nat, x2 = nI j21 ∧ j21 < 12 ∧ ∃ j22 : Nat, x3 = nI j22 ∧ j22 < 60 ∧ (((w1.1 90 j22) = 0 → ∃ j23 : Nat, x2 = nI j23 ∧ j23 < 12 ∧ Z m_M_best (d + 1) (qI Q) 52 [(0, .ref 58), (1, .int x1), (2, .int x2), (3, .int (x3 + nI 1))] [] (up2 (up2 w1 91 j20 ((w1.2 91 j13) ||| ((lN 1) <<< (x3.toInt64 &&& 63)))) 92 j23 ((w1.2 92 j21) ||| ((lN 1) <<< (x3.toInt64 &&& 63))))) ∧ (¬ (w1.1 90 j22) = 0 → ∃ j24 : Nat, x2 = nI j24 ∧ j24 < 12 ∧ Z m_M_best (d + 1) (qI Q) 52 [(0, .ref 58), (1, .int x1), (2, .int x2), (3, .int (x3 + nI 1))] [] (up2 (up2 w1 91 j20 ((w1.2 91 j13) ||| ((lN 1) <<< (x3.toInt64 &&& 63)))) 92 j24 ((w1.2 92 j21) ||| (lN 0)))))))))))) : Z m_M_best (d + 1) (qI Q) 52 [(0, .ref 58), (1, .int x1), (2, .int x2), (3, .int x3)] [] w := wp_ok (P := P_M_best) (S := S_M_best) rfl pr_M_best 45 _ _ _ _ h
set_option maxRecDepth 20000 in
set_option maxHeartbeats 1000000 in
theorem vc_M_best_145 {d : Nat} {w : Wd} {Q : Int32 → Wd → Prop} (x1 : Int32) (x2 : Int32) (x3 : Int32) (x4 : Int32) (h : ∃ j1 : Nat, (w.1 58 10) = nI j1 ∧ j1 < 2 ∧ ((((nI 1) <<< ((w.1 64 j1) &&& 31)) ≤ x4 → Q x2 w) ∧ (¬ ((nI 1) <<< ((w.1 64 j1) &&& 31)) ≤ x4 → Z m_M_best (d + 1) (qI Q) 170 [(0, .ref 58), (1, .int x1), (2, .int x2), (3, .int x3), (4, .int x4), (5, .long (lN 0)), (7, .long (lN 0)), (9, .int (nI 0))] [] w))) : Z m_M_best (d + 1) (qI Q) 145 [(0, .ref 58), (1, .int x1), (2, .int x2), (3, .int x3), (4, .int x4)] [] w := wp_ok (P := P_M_best) (S := S_M_best) rfl pr_M_best 16 _ _ _ _ h
set_option maxRecDepth 20000 in
set_option maxHeartbeats 1000000 in
theorem vc_M_best_170 {d : Nat} {w : Wd} {Q : Int32 → Wd → Prop} (x1 : Int32) (x2 : Int32) (x3 : Int32) (x4 : Int32) (x5 : Int64) (x7 : Int64) (x9 : Int32) (h : ∃ j1 : Nat, (w.1 58 10) = nI j1 ∧ j1 < 2 ∧ (((w.1 64 j1) ≤ x9 → ∃ Q1 : Int32 → Wd → Prop, EvI m_M_bits d [.long x5] w Q1 ∧ ∀ (r1 : Int32) (w1 : Wd), Q1 r1 w1 → ∃ Q2 : Int32 → Wd → Prop, EvI m_M_bits d [.long x7] w1 Q2 ∧ ∀ (r2 : Int32) (w2 : Wd), Q2 r2 w2 → ((x1 < r2 → Z m_M_best (d + 1) (qI Q) 145 [(0, .ref 58), (1, .int x1), (2, .int x2), (3, .int x3), (4, .int (x4 + nI 1))] [] w2) ∧ (¬ x1 < r2 → ((x3 < r1 → Z m_M_best (d + 1) (qI Q) 145 [(0, .ref 58), (1, .int x1), (2, .int x4), (3, .int r1), (4, .int (x4 + nI 1))] [] w2) ∧ (¬ x3 < r1 → ((¬ r1 = x3 → Z m_M_best (d + 1) (qI Q) 145 [(0, .ref 58), (1, .int x1), (2, .int x2), (3, .int x3), (4, .int (x4 + nI 1))] [] w2) ∧ (r1 = x3 → ∃ Q3 : Int32 → Wd → Prop, EvI m_M_bits d [.long (x4.toInt64)] w2 Q3 ∧ ∀ (r3 : Int32) (w3 : Wd), Q3 r3 w3 → ∃ Q4 : Int32 → Wd → Prop, EvI m_M_bits d [.long (x2.toInt64)] w3 Q4 ∧ ∀ (r4 : Int32) (w4 : Wd), Q4 r4 w4 → ((r4 ≤ r3 → Z m_M_best (d + 1) (qI Q) 145 [(0, .ref 58), (1, .int x1), (2, .int x2), (3, .int x3), (4, .int (x4 + nI 1))] [] w4) ∧ (¬ r4 ≤ r3 → Z m_M_best (d + 1) (qI Q) 145 [(0, .ref 58), (1, .int x1), (2, .int x4), (3, .int r1), (4, .int (x4 + nI 1))] [] w4))))))))) ∧ (¬ (w.1 64 j1) ≤ x9 → ((¬ ((x4 >>> (x9 &&& 31)) &&& (nI 1)) = (nI 1) → ((¬ ((x4 >>> (x9 &&& 31)) &&& (nI 1)) = (nI 1) → Z m_M_best (d + 1) (qI Q) 170 [(0, .ref 58), (1, .int x1), (2, .int x2), (3, .int x3), (4, .int x4), (5, .long (x5 ||| (lN 0))), (7, .long (x7 ||| (lN 0))), (9, .int (x9 + nI 1))] [] w) ∧ (((x4 >>> (x9 &&& 31)) &&& (nI 1)) = (nI 1) → ∃ j2 : Nat, x9 = nI j2 ∧ j2 < 12 ∧ Z m_M_best (d + 1) (qI Q) 170 [(0, .ref 58), (1, .int x1), (2, .int x2), (3, .int x3), (4, .int x4), (5, .long (x5 ||| (lN 0))), (7, .long (x7 ||| (w.2 92 j2))), (9, .int (x9 + nI 1))] [] w))) ∧ (((x4 >>> (x9 &&& 31)) &&& (nI 1)) = (nI 1) → ∃ j3 : Nat, x9 = nI j3 ∧ j3 < 12 ∧ ((¬ ((x4 >>> (x9 &&& 31)) &&& (nI 1)) = (nI 1) → Z m_M_best (d + 1) (qI Q) 170 [(0, .ref 58), (1, .int x1), (2, .int x2), (3, .int x3), (4, .int x4), (5, .long (x5 ||| (w.2 91 j3))), (7, .long (x7 ||| (lN 0))), (9, .int (x9 + nI 1))] [] w) ∧ (((x4 >>> (x9 &&& 31)) &&& (nI 1)) = (nI 1) → ∃ j4 : Nat, x9 = nI j4 ∧ j4 < 12 ∧ Z m_M_best (d + 1) (qI Q) 170 [(0, .ref 58), (1, .int x1), (2, .int x2), (3, .int x3), (4, .int x4), (5, .long (x5 ||| (w.2 91 j3))), (7, .long (x7 ||| (w.2 92 j4))), (9, .int (x9 + nI 1))] [] w))))))) : Z m_M_best (d + 1) (qI Q) 170 [(0, .ref 58), (1, .int x1), (2, .int x2), (3, .int x3), (4, .int x4), (5, .long x5), (7, .long x7), (9, .int x9)] [] w := wp_ok (P := P_M_best) (S := S_M_best) rfl pr_M_best 40 _ _ _ _ h
def P_M_isLike : Prog := [(0, .aload_n 0), (1, .getfield 139), (4, .iload_n 1), (5, .iaload), (6, .iload_n 2), (7, .if_icmp .ne 38), (10, .aload_n 0), (11, .getfield 109), (14, .aload_n 0), (15, .getfield 130), (18, .iload_n 1), (19, .iaload), (20, .baload), (21, .ifCond .ne 24), (24, .aload_n 0), (25, .getfield 136), (28, .iload_n 1), (29, .iaload), (30, .aload_n 0), (31, .getfield 133), (34, .iload_n 1), (35, .iaload), (36, .isub), (37, .iload_n 3), (38, .if_icmp .ne 7), (41, .iconst 1), (42, .goto 4), (45, .iconst 0), (46, .ireturn)]
theorem pr_M_isLike : prOK m_M_isLike P_M_isLike = true := by decide +kernel
def S_M_isLike : List (Nat × List Nat) := []
theorem ev_M_isLike {d : Nat} {w : Wd} {Q : Int32 → Wd → Prop} (x1 : Int32) (x2 : Int32) (x3 : Int32) (h : Z m_M_isLike d (qI Q) 0 [(0, .ref 58), (1, .int x1), (2, .int x2), (3, .int x3)] [] w) : EvI m_M_isLike d [.ref 58, .int x1, .int x2, .int x3] w Q := Ev.ofZ (by decide +kernel) (Nat.le_of_ble_eq_true rfl) h
set_option maxRecDepth 20000 in
set_option maxHeartbeats 1000000 in
theorem vc_M_isLike_0 {d : Nat} {w : Wd} {Q : Int32 → Wd → Prop} (x1 : Int32) (x2 : Int32) (x3 : Int32) (h : ∃ j1 : Nat, x1 = nI j1 ∧ j1 < 60 ∧ ((¬ (w.1 89 j1) = x2 → ((nI 0) = 0 ∨ (nI 0) = 1) ∧ Q (nI 0) w) ∧ ((w.1 89 j1) = x2 → ∃ j2 : Nat, x1 = nI j2 ∧ j2 < 60 ∧ ∃ j3 : Nat, (w.1 86 j2) = nI j3 ∧ j3 < 40 ∧ ((¬ (w.1 81 j3) = 0 → ((nI 0) = 0 ∨ (nI 0) = 1) ∧ Q (nI 0) w) ∧ ((w.1 81 j3) = 0 → ∃ j4 : Nat, x1 = nI j4 ∧ j4 < 60 ∧ ∃ j5 : Nat, x1 = nI j5 ∧ j5 < 60 ∧ ((¬ ((w.1 88 j4) - (w.1 87 j5)) = x3 → ((nI 0) = 0 ∨ (nI 0) = 1) ∧ Q (nI 0) w) ∧ (((w.1 88 j4) - (w.1 87 j5)) = x3 → ((nI 1) = 0 ∨ (nI 1) = 1) ∧ Q (nI 1) w))))))) : Z m_M_isLike d (qI Q) 0 [(0, .ref 58), (1, .int x1), (2, .int x2), (3, .int x3)] [] w := wp_ok (P := P_M_isLike) (S := S_M_isLike) rfl pr_M_isLike 29 _ _ _ _ h
def P_M_least : Prog := [(0, .iload_n 0), (1, .iload_n 1), (2, .if_icmp .ge 7), (5, .iload_n 0), (6, .goto 4), (9, .iload_n 1), (10, .ireturn)]
theorem pr_M_least : prOK m_M_least P_M_least = true := by decide +kernel
def S_M_least : List (Nat × List Nat) := []
theorem ev_M_least {d : Nat} {w : Wd} {Q : Int32 → Wd → Prop} (x0 : Int32) (x1 : Int32) (h : Z m_M_least d (qI Q) 0 [(0, .int x0), (1, .int x1)] [] w) : EvI m_M_least d [.int x0, .int x1] w Q := Ev.ofZ (by decide +kernel) (Nat.le_of_ble_eq_true rfl) h
set_option maxRecDepth 20000 in
set_option maxHeartbeats 1000000 in
theorem vc_M_least_0 {d : Nat} {w : Wd} {Q : Int32 → Wd → Prop} (x0 : Int32) (x1 : Int32) (h : ((x1 ≤ x0 → Q x1 w) ∧ (¬ x1 ≤ x0 → Q x0 w))) : Z m_M_least d (qI Q) 0 [(0, .int x0), (1, .int x1)] [] w := wp_ok (P := P_M_least) (S := S_M_least) rfl pr_M_least 7 _ _ _ _ h
def P_M_wordAt : Prog := [(0, .aload_n 0), (1, .getfield 106), (4, .bipush 16), (6, .aload_n 0), (7, .getfield 130), (10, .iload_n 1), (11, .iaload), (12, .imul), (13, .aload_n 0), (14, .getfield 133), (17, .iload_n 1), (18, .iaload), (19, .aload_n 0), (20, .getfield 136), (23, .iload_n 1), (24, .iaload), (25, .invokestatic 304), (28, .iadd), (29, .iload_n 2), (30, .iadd), (31, .iaload), (32, .ireturn)]
theorem pr_M_wordAt : prOK m_M_wordAt P_M_wordAt = true := by decide +kernel
def S_M_wordAt : List (Nat × List Nat) := []
theorem ev_M_wordAt {d : Nat} {w : Wd} {Q : Int32 → Wd → Prop} (x1 : Int32) (x2 : Int32) (h : Z m_M_wordAt d (qI Q) 0 [(0, .ref 58), (1, .int x1), (2, .int x2)] [] w) : EvI m_M_wordAt d [.ref 58, .int x1, .int x2] w Q := Ev.ofZ (by decide +kernel) (Nat.le_of_ble_eq_true rfl) h
set_option maxRecDepth 20000 in
set_option maxHeartbeats 1000000 in
theorem vc_M_wordAt_0 {d : Nat} {w : Wd} {Q : Int32 → Wd → Prop} (x1 : Int32) (x2 : Int32) (h : ∃ j1 : Nat, x1 = nI j1 ∧ j1 < 60 ∧ ∃ j2 : Nat, x1 = nI j2 ∧ j2 < 60 ∧ ∃ j3 : Nat, x1 = nI j3 ∧ j3 < 60 ∧ ∃ Q1 : Int32 → Wd → Prop, EvI m_M_least d [.int (w.1 87 j2), .int (w.1 88 j3)] w Q1 ∧ ∀ (r1 : Int32) (w1 : Wd), Q1 r1 w1 → ∃ j4 : Nat, ((((nI 16) * (w.1 86 j1)) + r1) + x2) = nI j4 ∧ j4 < 640 ∧ Q (w1.1 80 j4) w1) : Z m_M_wordAt (d + 1) (qI Q) 0 [(0, .ref 58), (1, .int x1), (2, .int x2)] [] w := wp_ok (P := P_M_wordAt) (S := S_M_wordAt) rfl pr_M_wordAt 23 _ _ _ _ h
def P_M_learn : Prog := [(0, .aload_n 0), (1, .iconst 0), (2, .putfield 1), (5, .iconst 0), (6, .istore_n 2), (7, .iload_n 2), (8, .aload_n 0), (9, .getfield 289), (12, .if_icmp .ge 42), (15, .aload_n 0), (16, .getfield 139), (19, .iload_n 2), (20, .iaload), (21, .iload_n 1), (22, .if_icmp .ne 26), (25, .aload_n 0), (26, .getfield 142), (29, .iload_n 2), (30, .baload), (31, .ifCond .eq 17), (34, .aload_n 0), (35, .getfield 109), (38, .aload_n 0), (39, .getfield 130), (42, .iload_n 2), (43, .iaload), (44, .baload), (45, .ifCond .eq 9), (48, .iinc 2 1), (51, .goto (-44)), (54, .iload_n 1), (55, .invokestatic 283), (58, .ifCond .eq 11), (61, .iload_n 2), (62, .aload_n 0), (63, .getfield 289), (66, .if_icmp .ne 5), (69, .iconst (-1)), (70, .ireturn), (71, .aload_n 0), (72, .iload_n 1), (73, .putfield 307), (76, .aload_n 0), (77, .aload_n 0), (78, .getfield 136), (81, .iload_n 2), (82, .iaload), (83, .aload_n 0), (84, .getfield 133), (87, .iload_n 2), (88, .iaload), (89, .isub), (90, .putfield 310), (93, .aload_n 0), (94, .aload_n 0), (95, .getfield 310), (98, .ifCond .ge 11), (101, .aload_n 0), (102, .getfield 310), (105, .ineg), (106, .goto 7), (109, .aload_n 0), (110, .getfield 310), (113, .iconst 1), (114, .iadd), (115, .putfield 313), (118, .iconst 0), (119, .istore_n 3), (120, .iload_n 3), (121, .aload_n 0), (122, .getfield 313), (125, .if_icmp .ge 180), (128, .aload_n 0), (129, .iload_n 2), (130, .iload_n 3), (131, .invokevirtual 316), (134, .istore 4), (136, .iconst 1), (137, .istore 5), (139, .iconst 1), (140, .istore 6), (142, .iconst 0), (143, .istore 7), (145, .iload 7), (147, .aload_n 0), (148, .getfield 289), (151, .if_icmp .ge 91), (154, .aload_n 0), (155, .getfield 142), (158, .iload 7), (160, .baload), (161, .ifCond .eq 75), (164, .aload_n 0), (165, .iload 7), (167, .iload_n 1), (168, .aload_n 0), (169, .getfield 310), (172, .invokevirtual 319), (175, .ifCond .eq 61), (178, .iload 5), (180, .ifCond .eq 19), (183, .aload_n 0), (184, .iload 7), (186, .iload_n 3), (187, .invokevirtual 316), (190, .iload 4), (192, .if_icmp .ne 7), (195, .iconst 1), (196, .goto 4), (199, .iconst 0), (200, .istore 5), (202, .iload 6), (204, .ifCond .eq 29), (207, .aload_n 0), (208, .getfield 94), (211, .aload_n 0), (212, .iload 7), (214, .iload_n 3), (215, .invokevirtual 316), (218, .iaload), (219, .aload_n 0), (220, .getfield 94), (223, .iload 4), (225, .iaload), (226, .if_icmp .ne 7), (229, .iconst 1), (230, .goto 4), (233, .iconst 0), (234, .istore 6), (236, .iinc 7 1), (239, .goto (-94)), (242, .aload_n 0), (243, .getfield 151), (246, .iload_n 3), (247, .iload 5), (249, .ifCond .eq 7), (252, .iconst 0), (253, .goto 13), (256, .iload 6), (258, .ifCond .eq 7), (261, .iconst 1), (262, .goto 4), (265, .iconst 2), (266, .iastore), (267, .aload_n 0), (268, .getfield 154), (271, .iload_n 3), (272, .iload 5), (274, .ifCond .eq 8), (277, .iload 4), (279, .goto 19), (282, .iload 6), (284, .ifCond .eq 13), (287, .aload_n 0), (288, .getfield 94), (291, .iload 4), (293, .iaload), (294, .goto 4), (297, .iconst 0), (298, .iastore), (299, .iinc 3 1), (302, .goto (-182)), (305, .aload_n 0), (306, .getfield 313), (309, .ireturn)]
theorem pr_M_learn : prOK m_M_learn P_M_learn = true := by decide +kernel
def S_M_learn : List (Nat × List Nat) := [(7, [0, 1, 2]), (120, [0, 1, 2, 3]), (145, [0, 1, 2, 3, 4, 5, 6, 7])]
theorem ev_M_learn {d : Nat} {w : Wd} {Q : Int32 → Wd → Prop} (x1 : Int32) (h : Z m_M_learn d (qI Q) 0 [(0, .ref 58), (1, .int x1)] [] w) : EvI m_M_learn d [.ref 58, .int x1] w Q := Ev.ofZ (by decide +kernel) (Nat.le_of_ble_eq_true rfl) h
set_option maxRecDepth 20000 in
set_option maxHeartbeats 1000000 in
theorem vc_M_learn_0 {d : Nat} {w : Wd} {Q : Int32 → Wd → Prop} (x1 : Int32) (h : Z m_M_learn (d + 1) (qI Q) 7 [(0, .ref 58), (1, .int x1), (2, .int (nI 0))] [] (up1 w 58 0 (nI 0))) : Z m_M_learn (d + 1) (qI Q) 0 [(0, .ref 58), (1, .int x1)] [] w := wp_ok (P := P_M_learn) (S := S_M_learn) rfl pr_M_learn 6 _ _ _ _ h
set_option maxRecDepth 20000 in
set_option maxHeartbeats 1000000 in
theorem vc_M_learn_7 {d : Nat} {w : Wd} {Q : Int32 → Wd → Prop} (x1 : Int32) (x2 : Int32) (h : (((w.1 58 39) ≤ x2 → ∃ Q1 : Int32 → Wd → Prop, EvI m_M_isR d [.int x1] w Q1 ∧ ∀ (r1 : Int32) (w1 : Wd), Q1 r1 w1 → ((r1 = 0 → Q (-nI 1) w1) ∧ (¬ r1 = 0 → ((¬ x2 = (w1.1 58 39) → ∃ j1 : Nat, x2 = nI j1 ∧ j1 < 60 ∧ ∃ j2 : Nat, x2 = nI j2 ∧ j2 < 60 ∧ ((0 ≤ ((w1.1 88 j1) - (w1.1 87 j2)) → Z m_M_learn (d + 1) (qI Q) 120 [(0, .ref 58), (1, .int x1), (2, .int x2), (3, .int (nI 0))] [] (up1 (up1 (up1 w1 58 48 x1) 58 49 ((w1.1 88 j1) - (w1.1 87 j2))) 58 47 (((w1.1 88 j1) - (w1.1 87 j2)) + (nI 1)))) ∧ (¬ 0 ≤ ((w1.1 88 j1) - (w1.1 87 j2)) → Z m_M_learn (d + 1) (qI Q) 120 [(0, .ref 58), (1, .int x1), (2, .int x2), (3, .int (nI 0))] [] (up1 (up1 (up1 w1 58 48 x1) 58 49 ((w1.1 88 j1) - (w1.1 87 j2))) 58 47 ((-((w1.1 88 j1) - (w1.1 87 j2))) + (nI 1)))))) ∧ (x2 = (w1.1 58 39) → Q (-nI 1) w1))))) ∧ (¬ (w.1 58 39) ≤ x2 → ∃ j3 : Nat, x2 = nI j3 ∧ j3 < 60 ∧ ((¬ (w.1 89 j3) = x1 → Z m_M_learn (d + 1) (qI Q) 7 [(0, .ref 58), (1, .int x1), (2, .int (x2 + nI 1))] [] w) ∧ ((w.1 89 j3) = x1 → ∃ j4 : Nat, x2 = nI j4 ∧ j4 < 60 ∧ (((w.1 90 j4) = 0 → Z m_M_learn (d + 1) (qI Q) 7 [(0, .ref 58), (1, .int x1), (2, .int (x2 + nI 1))] [] w) ∧ (¬ (w.1 90 j4) = 0 → ∃ j5 : Nat, x2 = nI j5 ∧ j5 < 60 ∧ ∃ j6 : Nat, (w.1 86 j5) = nI j6 ∧ j6 < 40 ∧ (((w.1 81 j6) = 0 → ∃ Q2 : Int32 → Wd → Prop, EvI m_M_isR d [.int x1] w Q2 ∧ ∀ (r2 : Int32) (w2 : Wd), Q2 r2 w2 → ((r2 = 0 → Q (-nI 1) w2) ∧ (¬ r2 = 0 → ((¬ x2 = (w2.1 58 39) → ∃ j7 : Nat, x2 = nI j7 ∧ j7 < 60 ∧ ∃ j8 : Nat, x2 = nI j8 ∧ j8 < 60 ∧ ((0 ≤ ((w2.1 88 j7) - (w2.1 87 j8)) → Z m_M_learn (d + 1) (qI Q) 120 [(0, .ref 58), (1, .int x1), (2, .int x2), (3, .int (nI 0))] [] (up1 (up1 (up1 w2 58 48 x1) 58 49 ((w2.1 88 j7) - (w2.1 87 j8))) 58 47 (((w2.1 88 j7) - (w2.1 87 j8)) + (nI 1)))) ∧ (¬ 0 ≤ ((w2.1 88 j7) - (w2.1 87 j8)) → Z m_M_learn (d + 1) (qI Q) 120 [(0, .ref 58), (1, .int x1), (2, .int x2), (3, .int (nI 0))] [] (up1 (up1 (up1 w2 58 48 x1) 58 49 ((w2.1 88 j7) - (w2.1 87 j8))) 58 47 ((-((w2.1 88 j7) - (w2.1 87 j8))) + (nI 1)))))) ∧ (x2 = (w2.1 58 39) → Q (-nI 1) w2))))) ∧ (¬ (w.1 81 j6) = 0 → Z m_M_learn (d + 1) (qI Q) 7 [(0, .ref 58), (1, .int x1), (2, .int (x2 + nI 1))] [] w))))))))) : Z m_M_learn (d + 1) (qI Q) 7 [(0, .ref 58), (1, .int x1), (2, .int x2)] [] w := wp_ok (P := P_M_learn) (S := S_M_learn) rfl pr_M_learn 58 _ _ _ _ h
set_option maxRecDepth 20000 in
set_option maxHeartbeats 1000000 in
theorem vc_M_learn_120 {d : Nat} {w : Wd} {Q : Int32 → Wd → Prop} (x1 : Int32) (x2 : Int32) (x3 : Int32) (h : (((w.1 58 47) ≤ x3 → Q (w.1 58 47) w) ∧ (¬ (w.1 58 47) ≤ x3 → ∃ Q1 : Int32 → Wd → Prop, EvI m_M_wordAt d [.ref 58, .int x2, .int x3] w Q1 ∧ ∀ (r1 : Int32) (w1 : Wd), Q1 r1 w1 → Z m_M_learn (d + 1) (qI Q) 145 [(0, .ref 58), (1, .int x1), (2, .int x2), (3, .int x3), (4, .int r1), (5, .int (nI 1)), (6, .int (nI 1)), (7, .int (nI 0))] [] w1))) : Z m_M_learn (d + 1) (qI Q) 120 [(0, .ref 58), (1, .int x1), (2, .int x2), (3, .int x3)] [] w := wp_ok (P := P_M_learn) (S := S_M_learn) rfl pr_M_learn 16 _ _ _ _ h
set_option maxRecDepth 20000 in
set_option maxHeartbeats 1000000 in
theorem vc_M_learn_145 {d : Nat} {w : Wd} {Q : Int32 → Wd → Prop} (x1 : Int32) (x2 : Int32) (x3 : Int32) (x4 : Int32) (x5 : Int32) (x6 : Int32) (x7 : Int32) (h : (((w.1 58 39) ≤ x7 → ((x5 = 0 → ((x6 = 0 → ∃ j1 : Nat, x3 = nI j1 ∧ j1 < 16 ∧ ((x5 = 0 → ((x6 = 0 → ∃ j2 : Nat, x3 = nI j2 ∧ j2 < 16 ∧ Z m_M_learn (d + 1) (qI Q) 120 [(0, .ref 58), (1, .int x1), (2, .int x2), (3, .int (x3 + nI 1))] [] (up1 (up1 w 93 j1 (nI 2)) 94 j2 (nI 0))) ∧ (¬ x6 = 0 → ∃ j3 : Nat, x4 = nI j3 ∧ j3 < 101 ∧ ∃ j4 : Nat, x3 = nI j4 ∧ j4 < 16 ∧ Z m_M_learn (d + 1) (qI Q) 120 [(0, .ref 58), (1, .int x1), (2, .int x2), (3, .int (x3 + nI 1))] [] (up1 (up1 w 93 j1 (nI 2)) 94 j4 (w.1 76 j3))))) ∧ (¬ x5 = 0 → ∃ j5 : Nat, x3 = nI j5 ∧ j5 < 16 ∧ Z m_M_learn (d + 1) (qI Q) 120 [(0, .ref 58), (1, .int x1), (2, .int x2), (3, .int (x3 + nI 1))] [] (up1 (up1 w 93 j1 (nI 2)) 94 j5 x4)))) ∧ (¬ x6 = 0 → ∃ j6 : Nat, x3 = nI j6 ∧ j6 < 16 ∧ ((x5 = 0 → ((x6 = 0 → ∃ j7 : Nat, x3 = nI j7 ∧ j7 < 16 ∧ Z m_M_learn (d + 1) (qI Q) 120 [(0, .ref 58), (1, .int x1), (2, .int x2), (3, .int (x3 + nI 1))] [] (up1 (up1 w 93 j6 (nI 1)) 94 j7 (nI 0))) ∧ (¬ x6 = 0 → ∃ j8 : Nat, x4 = nI j8 ∧ j8 < 101 ∧ ∃ j9 : Nat, x3 = nI j9 ∧ j9 < 16 ∧ Z m_M_learn (d + 1) (qI Q) 120 [(0, .ref 58), (1, .int x1), (2, .int x2), (3, .int (x3 + nI 1))] [] (up1 (up1 w 93 j6 (nI 1)) 94 j9 (w.1 76 j8))))) ∧ (¬ x5 = 0 → ∃ j10 : Nat, x3 = nI j10 ∧ j10 < 16 ∧ Z m_M_learn (d + 1) (qI Q) 120 [(0, .ref 58), (1, .int x1), (2, .int x2), (3, .int (x3 + nI 1))] [] (up1 (up1 w 93 j6 (nI 1)) 94 j10 x4)))))) ∧ (¬ x5 = 0 → ∃ j11 : Nat, x3 = nI j11 ∧ j11 < 16 ∧ ((x5 = 0 → ((x6 = 0 → ∃ j12 : Nat, x3 = nI j12 ∧ j12 < 16 ∧ Z m_M_learn (d + 1) (qI Q) 120 [(0, .ref 58), (1, .int x1), (2, .int x2), (3, .int (x3 + nI 1))] [] (up1 (up1 w 93 j11 (nI 0)) 94 j12 (nI 0))) ∧ (¬ x6 = 0 → ∃ j13 : Nat, x4 = nI j13 ∧ j13 < 101 ∧ ∃ j14 : Nat, x3 = nI j14 ∧ j14 < 16 ∧ Z m_M_learn (d + 1) (qI Q) 120 [(0, .ref 58), (1, .int x1), (2, .int x2), (3, .int (x3 + nI 1))] [] (up1 (up1 w 93 j11 (nI 0)) 94 j14 (w.1 76 j13))))) ∧ (¬ x5 = 0 → ∃ j15 : Nat, x3 = nI j15 ∧ j15 < 16 ∧ Z m_M_learn (d + 1) (qI Q) 120 [(0, .ref 58), (1, .int x1), (2, .int x2), (3, .int (x3 + nI 1))] [] (up1 (up1 w 93 j11 (nI 0)) 94 j15 x4)))))) ∧ (¬ (w.1 58 39) ≤ x7 → ∃ j16 : Nat, x7 = nI j16 ∧ j16 < 60 ∧ (((w.1 90 j16) = 0 → Z m_M_learn (d + 1) (qI Q) 145 [(0, .ref 58), (1, .int x1), (2, .int x2), (3, .int x3), (4, .int x4), (5, .int x5), (6, .int x6), (7, .int (x7 + nI 1))] [] w) ∧ (¬ (w.1 90 j16) = 0 → ∃ Q1 : Int32 → Wd → Prop, EvI m_M_isLike d [.ref 58, .int x7, .int x1, .int (w.1 58 49)] w Q1 ∧ ∀ (r1 : Int32) (w1 : Wd), Q1 r1 w1 → ((r1 = 0 → Z m_M_learn (d + 1) (qI Q) 145 [(0, .ref 58), (1, .int x1), (2, .int x2), (3, .int x3), (4, .int x4), (5, .int x5), (6, .int x6), (7, .int (x7 + nI 1))] [] w1) ∧ (¬ r1 = 0 → ((x5 = 0 → ((x6 = 0 → Z m_M_learn (d + 1) (qI Q) 145 [(0, .ref 58), (1, .int x1), (2, .int x2), (3, .int x3), (4, .int x4), (5, .int (nI 0)), (6, .int (nI 0)), (7, .int (x7 + nI 1))] [] w1) ∧ (¬ x6 = 0 → ∃ Q2 : Int32 → Wd → Prop, EvI m_M_wordAt d [.ref 58, .int x7, .int x3] w1 Q2 ∧ ∀ (r2 : Int32) (w2 : Wd), Q2 r2 w2 → ∃ j17 : Nat, r2 = nI j17 ∧ j17 < 101 ∧ ∃ j18 : Nat, x4 = nI j18 ∧ j18 < 101 ∧ ((¬ (w2.1 76 j17) = (w2.1 76 j18) → Z m_M_learn (d + 1) (qI Q) 145 [(0, .ref 58), (1, .int x1), (2, .int x2), (3, .int x3), (4, .int x4), (5, .int (nI 0)), (6, .int (nI 0)), (7, .int (x7 + nI 1))] [] w2) ∧ ((w2.1 76 j17) = (w2.1 76 j18) → Z m_M_learn (d + 1) (qI Q) 145 [(0, .ref 58), (1, .int x1), (2, .int x2), (3, .int x3), (4, .int x4), (5, .int (nI 0)), (6, .int (nI 1)), (7, .int (x7 + nI 1))] [] w2))))) ∧ (¬ x5 = 0 → ∃ Q3 : Int32 → Wd → Prop, EvI m_M_wordAt d [.ref 58, .int x7, .int x3] w1 Q3 ∧ ∀ (r3 : Int32) (w3 : Wd), Q3 r3 w3 → ((¬ r3 = x4 → ((x6 = 0 → Z m_M_learn (d + 1) (qI Q) 145 [(0, .ref 58), (1, .int x1), (2, .int x2), (3, .int x3), (4, .int x4), (5, .int (nI 0)), (6, .int (nI 0)), (7, .int (x7 + nI 1))] [] w3) ∧ (¬ x6 = 0 → ∃ Q4 : Int32 → Wd → Prop, EvI m_M_wordAt d [.ref 58, .int x7, .int x3] w3 Q4 ∧ ∀ (r4 : Int32) (w4 : Wd), Q4 r4 w4 → ∃ j19 : Nat, r4 = nI j19 ∧ j19 < 101 ∧ ∃ j20 : Nat, x4 = nI j20 ∧ j20 < 101 ∧ ((¬ (w4.1 76 j19) = (w4.1 76 j20) → Z m_M_learn (d + 1) (qI Q) 145 [(0, .ref 58), (1, .int x1), (2, .int x2), (3, .int x3), (4, .int x4), (5, .int (nI 0)), (6, .int (nI 0)), (7, .int (x7 + nI 1))] [] w4) ∧ ((w4.1 76 j19) = (w4.1 76 j20) → Z m_M_learn (d + 1) (qI Q) 145 [(0, .ref 58), (1, .int x1), (2, .int x2), (3, .int x3), (4, .int x4), (5, .int (nI 0)), (6, .int (nI 1)), (7, .int (x7 + nI 1))] [] w4))))) ∧ (r3 = x4 → ((x6 = 0 → Z m_M_learn (d + 1) (qI Q) 145 [(0, .ref 58), (1, .int x1), (2, .int x2), (3, .int x3), (4, .int x4), (5, .int (nI 1)), (6, .int (nI 0)), (7, .int (x7 + nI 1))] [] w3) ∧ (¬ x6 = 0 → ∃ Q5 : Int32 → Wd → Prop, EvI m_M_wordAt d [.ref 58, .int x7, .int x3] w3 Q5 ∧ ∀ (r5 : Int32) (w5 : Wd), Q5 r5 w5 → ∃ j21 : Nat, r5 = nI j21 ∧ j21 < 101 ∧ ∃ j22 : Nat, x4 = nI j22 ∧ j22 < 101 ∧ ((¬ (w5.1 76 j21) = (w5.1 76 j22) → Z m_M_learn (d + 1) (qI Q) 145 [(0, .ref 58), (1, .int x1), (2, .int x2), (3, .int x3), (4, .int x4), (5, .int (nI 1)), (6, .int (nI 0)), (7, .int (x7 + nI 1))] [] w5) ∧ ((w5.1 76 j21) = (w5.1 76 j22) → Z m_M_learn (d + 1) (qI Q) 145 [(0, .ref 58), (1, .int x1), (2, .int x2), (3, .int x3), (4, .int x4), (5, .int (nI 1)), (6, .int (nI 1)), (7, .int (x7 + nI 1))] [] w5))))))))))))))) : Z m_M_learn (d + 1) (qI Q) 145 [(0, .ref 58), (1, .int x1), (2, .int x2), (3, .int x3), (4, .int x4), (5, .int x5), (6, .int x6), (7, .int x7)] [] w := wp_ok (P := P_M_learn) (S := S_M_learn) rfl pr_M_learn 47 _ _ _ _ h
def P_M_learnt : Prog := [(0, .aload_n 0), (1, .iconst 0), (2, .putfield 1), (5, .iload_n 1), (6, .ifCond .lt 20), (9, .iload_n 1), (10, .aload_n 0), (11, .getfield 313), (14, .if_icmp .ge 12), (17, .iload_n 2), (18, .ifCond .lt 8), (21, .iload_n 2), (22, .iconst 2), (23, .if_icmp .le 5), (26, .iconst (-1)), (27, .ireturn), (28, .aload_n 0), (29, .getfield 310), (32, .ifCond .le 7), (35, .iconst 1), (36, .goto 4), (39, .iconst 2), (40, .istore_n 3), (41, .iload_n 2), (42, .ifCond .ne 12), (45, .aload_n 0), (46, .getfield 151), (49, .iload_n 1), (50, .iaload), (51, .goto 42), (54, .iload_n 2), (55, .iconst 1), (56, .if_icmp .ne 12), (59, .aload_n 0), (60, .getfield 154), (63, .iload_n 1), (64, .iaload), (65, .goto 28), (68, .iload_n 1), (69, .ifCond .ne 7), (72, .iload_n 3), (73, .goto 20), (76, .iload_n 1), (77, .aload_n 0), (78, .getfield 313), (81, .iconst 1), (82, .isub), (83, .if_icmp .ne 9), (86, .iconst 3), (87, .iload_n 3), (88, .isub), (89, .goto 4), (92, .iconst 0), (93, .ireturn)]
theorem pr_M_learnt : prOK m_M_learnt P_M_learnt = true := by decide +kernel
def S_M_learnt : List (Nat × List Nat) := []
theorem ev_M_learnt {d : Nat} {w : Wd} {Q : Int32 → Wd → Prop} (x1 : Int32) (x2 : Int32) (h : Z m_M_learnt d (qI Q) 0 [(0, .ref 58), (1, .int x1), (2, .int x2)] [] w) : EvI m_M_learnt d [.ref 58, .int x1, .int x2] w Q := Ev.ofZ (by decide +kernel) (Nat.le_of_ble_eq_true rfl) h
set_option maxRecDepth 20000 in
set_option maxHeartbeats 1000000 in
theorem vc_M_learnt_0 {d : Nat} {w : Wd} {Q : Int32 → Wd → Prop} (x1 : Int32) (x2 : Int32) (h : ((x1 < 0 → Q (-nI 1) (up1 w 58 0 (nI 0))) ∧ (¬ x1 < 0 → (((w.1 58 47) ≤ x1 → Q (-nI 1) (up1 w 58 0 (nI 0))) ∧ (¬ (w.1 58 47) ≤ x1 → ((x2 < 0 → Q (-nI 1) (up1 w 58 0 (nI 0))) ∧ (¬ x2 < 0 → ((x2 ≤ (nI 2) → (((w.1 58 49) ≤ 0 → ((¬ x2 = 0 → ((¬ x2 = (nI 1) → ((¬ x1 = 0 → ((¬ x1 = ((w.1 58 47) - (nI 1)) → Q (nI 0) (up1 w 58 0 (nI 0))) ∧ (x1 = ((w.1 58 47) - (nI 1)) → Q ((nI 3) - (nI 2)) (up1 w 58 0 (nI 0))))) ∧ (x1 = 0 → Q (nI 2) (up1 w 58 0 (nI 0))))) ∧ (x2 = (nI 1) → ∃ j1 : Nat, x1 = nI j1 ∧ j1 < 16 ∧ Q (w.1 94 j1) (up1 w 58 0 (nI 0))))) ∧ (x2 = 0 → ∃ j2 : Nat, x1 = nI j2 ∧ j2 < 16 ∧ Q (w.1 93 j2) (up1 w 58 0 (nI 0))))) ∧ (¬ (w.1 58 49) ≤ 0 → ((¬ x2 = 0 → ((¬ x2 = (nI 1) → ((¬ x1 = 0 → ((¬ x1 = ((w.1 58 47) - (nI 1)) → Q (nI 0) (up1 w 58 0 (nI 0))) ∧ (x1 = ((w.1 58 47) - (nI 1)) → Q ((nI 3) - (nI 1)) (up1 w 58 0 (nI 0))))) ∧ (x1 = 0 → Q (nI 1) (up1 w 58 0 (nI 0))))) ∧ (x2 = (nI 1) → ∃ j3 : Nat, x1 = nI j3 ∧ j3 < 16 ∧ Q (w.1 94 j3) (up1 w 58 0 (nI 0))))) ∧ (x2 = 0 → ∃ j4 : Nat, x1 = nI j4 ∧ j4 < 16 ∧ Q (w.1 93 j4) (up1 w 58 0 (nI 0))))))) ∧ (¬ x2 ≤ (nI 2) → Q (-nI 1) (up1 w 58 0 (nI 0))))))))))) : Z m_M_learnt d (qI Q) 0 [(0, .ref 58), (1, .int x1), (2, .int x2)] [] w := wp_ok (P := P_M_learnt) (S := S_M_learnt) rfl pr_M_learnt 39 _ _ _ _ h
def P_M_catches : Prog := [(0, .aload_n 0), (1, .iconst 0), (2, .putfield 1), (5, .aload_n 0), (6, .getfield 313), (9, .ifCond .ne 5), (12, .iconst (-1)), (13, .ireturn), (14, .iconst 0), (15, .istore_n 2), (16, .iconst 0), (17, .istore_n 3), (18, .iload_n 3), (19, .aload_n 0), (20, .getfield 289), (23, .if_icmp .ge 105), (26, .aload_n 0), (27, .getfield 142), (30, .iload_n 3), (31, .baload), (32, .iload_n 1), (33, .if_icmp .ne 23), (36, .aload_n 0), (37, .iload_n 3), (38, .aload_n 0), (39, .getfield 307), (42, .aload_n 0), (43, .getfield 310), (46, .invokevirtual 319), (49, .ifCond .eq 7), (52, .iconst 1), (53, .goto 4), (56, .iconst 0), (57, .istore 4), (59, .iconst 0), (60, .istore 5), (62, .iload 5), (64, .aload_n 0), (65, .getfield 313), (68, .if_icmp .ge 41), (71, .iload 4), (73, .ifCond .eq 36), (76, .aload_n 0), (77, .aload_n 0), (78, .getfield 151), (81, .iload 5), (83, .iaload), (84, .aload_n 0), (85, .getfield 154), (88, .iload 5), (90, .iaload), (91, .aload_n 0), (92, .iload_n 3), (93, .iload 5), (95, .invokevirtual 316), (98, .invokevirtual 270), (101, .istore 4), (103, .iinc 5 1), (106, .goto (-44)), (109, .iload_n 2), (110, .iload 4), (112, .ifCond .eq 7), (115, .iconst 1), (116, .goto 4), (119, .iconst 0), (120, .iadd), (121, .istore_n 2), (122, .iinc 3 1), (125, .goto (-107)), (128, .iload_n 2), (129, .ireturn)]
theorem pr_M_catches : prOK m_M_catches P_M_catches = true := by decide +kernel
def S_M_catches : List (Nat × List Nat) := [(18, [0, 1, 2, 3]), (62, [0, 1, 2, 3, 4, 5])]
theorem ev_M_catches {d : Nat} {w : Wd} {Q : Int32 → Wd → Prop} (x1 : Int32) (h : Z m_M_catches d (qI Q) 0 [(0, .ref 58), (1, .int x1)] [] w) : EvI m_M_catches d [.ref 58, .int x1] w Q := Ev.ofZ (by decide +kernel) (Nat.le_of_ble_eq_true rfl) h
set_option maxRecDepth 20000 in
set_option maxHeartbeats 1000000 in
theorem vc_M_catches_0 {d : Nat} {w : Wd} {Q : Int32 → Wd → Prop} (x1 : Int32) (h : ((¬ (w.1 58 47) = 0 → Z m_M_catches (d + 1) (qI Q) 18 [(0, .ref 58), (1, .int x1), (2, .int (nI 0)), (3, .int (nI 0))] [] (up1 w 58 0 (nI 0))) ∧ ((w.1 58 47) = 0 → Q (-nI 1) (up1 w 58 0 (nI 0))))) : Z m_M_catches (d + 1) (qI Q) 0 [(0, .ref 58), (1, .int x1)] [] w := wp_ok (P := P_M_catches) (S := S_M_catches) rfl pr_M_catches 11 _ _ _ _ h
set_option maxRecDepth 20000 in
set_option maxHeartbeats 1000000 in
theorem vc_M_catches_18 {d : Nat} {w : Wd} {Q : Int32 → Wd → Prop} (x1 : Int32) (x2 : Int32) (x3 : Int32) (h : (((w.1 58 39) ≤ x3 → Q x2 w) ∧ (¬ (w.1 58 39) ≤ x3 → ∃ j1 : Nat, x3 = nI j1 ∧ j1 < 60 ∧ ((¬ (w.1 90 j1) = x1 → Z m_M_catches (d + 1) (qI Q) 62 [(0, .ref 58), (1, .int x1), (2, .int x2), (3, .int x3), (4, .int (nI 0)), (5, .int (nI 0))] [] w) ∧ ((w.1 90 j1) = x1 → ∃ Q1 : Int32 → Wd → Prop, EvI m_M_isLike d [.ref 58, .int x3, .int (w.1 58 48), .int (w.1 58 49)] w Q1 ∧ ∀ (r1 : Int32) (w1 : Wd), Q1 r1 w1 → ((r1 = 0 → Z m_M_catches (d + 1) (qI Q) 62 [(0, .ref 58), (1, .int x1), (2, .int x2), (3, .int x3), (4, .int (nI 0)), (5, .int (nI 0))] [] w1) ∧ (¬ r1 = 0 → Z m_M_catches (d + 1) (qI Q) 62 [(0, .ref 58), (1, .int x1), (2, .int x2), (3, .int x3), (4, .int (nI 1)), (5, .int (nI 0))] [] w1))))))) : Z m_M_catches (d + 1) (qI Q) 18 [(0, .ref 58), (1, .int x1), (2, .int x2), (3, .int x3)] [] w := wp_ok (P := P_M_catches) (S := S_M_catches) rfl pr_M_catches 24 _ _ _ _ h
set_option maxRecDepth 20000 in
set_option maxHeartbeats 1000000 in
theorem vc_M_catches_62 {d : Nat} {w : Wd} {Q : Int32 → Wd → Prop} (x1 : Int32) (x2 : Int32) (x3 : Int32) (x4 : Int32) (x5 : Int32) (h : (((w.1 58 47) ≤ x5 → ((x4 = 0 → Z m_M_catches (d + 1) (qI Q) 18 [(0, .ref 58), (1, .int x1), (2, .int (x2 + (nI 0))), (3, .int (x3 + nI 1))] [] w) ∧ (¬ x4 = 0 → Z m_M_catches (d + 1) (qI Q) 18 [(0, .ref 58), (1, .int x1), (2, .int (x2 + (nI 1))), (3, .int (x3 + nI 1))] [] w))) ∧ (¬ (w.1 58 47) ≤ x5 → ((x4 = 0 → ((x4 = 0 → Z m_M_catches (d + 1) (qI Q) 18 [(0, .ref 58), (1, .int x1), (2, .int (x2 + (nI 0))), (3, .int (x3 + nI 1))] [] w) ∧ (¬ x4 = 0 → Z m_M_catches (d + 1) (qI Q) 18 [(0, .ref 58), (1, .int x1), (2, .int (x2 + (nI 1))), (3, .int (x3 + nI 1))] [] w))) ∧ (¬ x4 = 0 → ∃ j1 : Nat, x5 = nI j1 ∧ j1 < 16 ∧ ∃ j2 : Nat, x5 = nI j2 ∧ j2 < 16 ∧ ∃ Q1 : Int32 → Wd → Prop, EvI m_M_wordAt d [.ref 58, .int x3, .int x5] w Q1 ∧ ∀ (r1 : Int32) (w1 : Wd), Q1 r1 w1 → ∃ Q2 : Int32 → Wd → Prop, EvI m_M_fits d [.ref 58, .int (w.1 93 j1), .int (w.1 94 j2), .int r1] w1 Q2 ∧ ∀ (r2 : Int32) (w2 : Wd), Q2 r2 w2 → Z m_M_catches (d + 1) (qI Q) 62 [(0, .ref 58), (1, .int x1), (2, .int x2), (3, .int x3), (4, .int r2), (5, .int (x5 + nI 1))] [] w2))))) : Z m_M_catches (d + 1) (qI Q) 62 [(0, .ref 58), (1, .int x1), (2, .int x2), (3, .int x3), (4, .int x4), (5, .int x5)] [] w := wp_ok (P := P_M_catches) (S := S_M_catches) rfl pr_M_catches 24 _ _ _ _ h
def P_M_count : Prog := [(0, .aload_n 0), (1, .iconst 0), (2, .putfield 1), (5, .iconst 0), (6, .istore_n 2), (7, .iconst 0), (8, .istore_n 3), (9, .iload_n 3), (10, .aload_n 0), (11, .getfield 252), (14, .if_icmp .ge 26), (17, .iload_n 2), (18, .aload_n 0), (19, .getfield 109), (22, .iload_n 3), (23, .baload), (24, .ifCond .eq 7), (27, .iconst 0), (28, .goto 4), (31, .iconst 1), (32, .iadd), (33, .istore_n 2), (34, .iinc 3 1), (37, .goto (-28)), (40, .iload_n 1), (41, .tableswitch 108 0 8 #[51, 56, 58, 68, 78, 88, 93, 98, 103]), (92, .aload_n 0), (93, .getfield 252), (96, .ireturn), (97, .iload_n 2), (98, .ireturn), (99, .aload_n 0), (100, .getfield 57), (103, .aload_n 0), (104, .getfield 202), (107, .iaload), (108, .ireturn), (109, .aload_n 0), (110, .getfield 79), (113, .aload_n 0), (114, .getfield 202), (117, .iaload), (118, .ireturn), (119, .aload_n 0), (120, .getfield 85), (123, .aload_n 0), (124, .getfield 202), (127, .iaload), (128, .ireturn), (129, .aload_n 0), (130, .getfield 289), (133, .ireturn), (134, .aload_n 0), (135, .getfield 11), (138, .ireturn), (139, .aload_n 0), (140, .getfield 249), (143, .ireturn), (144, .aload_n 0), (145, .invokevirtual 322), (148, .ireturn), (149, .iconst (-1)), (150, .ireturn)]
theorem pr_M_count : prOK m_M_count P_M_count = true := by decide +kernel
def S_M_count : List (Nat × List Nat) := [(9, [0, 1, 2, 3])]
theorem ev_M_count {d : Nat} {w : Wd} {Q : Int32 → Wd → Prop} (x1 : Int32) (h : Z m_M_count d (qI Q) 0 [(0, .ref 58), (1, .int x1)] [] w) : EvI m_M_count d [.ref 58, .int x1] w Q := Ev.ofZ (by decide +kernel) (Nat.le_of_ble_eq_true rfl) h
set_option maxRecDepth 20000 in
set_option maxHeartbeats 1000000 in
theorem vc_M_count_0 {d : Nat} {w : Wd} {Q : Int32 → Wd → Prop} (x1 : Int32) (h : Z m_M_count (d + 1) (qI Q) 9 [(0, .ref 58), (1, .int x1), (2, .int (nI 0)), (3, .int (nI 0))] [] (up1 w 58 0 (nI 0))) : Z m_M_count (d + 1) (qI Q) 0 [(0, .ref 58), (1, .int x1)] [] w := wp_ok (P := P_M_count) (S := S_M_count) rfl pr_M_count 8 _ _ _ _ h
set_option maxRecDepth 20000 in
set_option maxHeartbeats 1000000 in
theorem vc_M_count_9 {d : Nat} {w : Wd} {Q : Int32 → Wd → Prop} (x1 : Int32) (x2 : Int32) (x3 : Int32) (h : (((w.1 58 30) ≤ x3 → ((x1 = nI 0 → Q (w.1 58 30) w) ∧ (¬ x1 = nI 0 → ((x1 = nI 1 → Q x2 w) ∧ (¬ x1 = nI 1 → ((x1 = nI 2 → ∃ j1 : Nat, (w.1 58 10) = nI j1 ∧ j1 < 2 ∧ Q (w.1 64 j1) w) ∧ (¬ x1 = nI 2 → ((x1 = nI 3 → ∃ j2 : Nat, (w.1 58 10) = nI j2 ∧ j2 < 2 ∧ Q (w.1 71 j2) w) ∧ (¬ x1 = nI 3 → ((x1 = nI 4 → ∃ j3 : Nat, (w.1 58 10) = nI j3 ∧ j3 < 2 ∧ Q (w.1 73 j3) w) ∧ (¬ x1 = nI 4 → ((x1 = nI 5 → Q (w.1 58 39) w) ∧ (¬ x1 = nI 5 → ((x1 = nI 6 → Q (w.1 58 2) w) ∧ (¬ x1 = nI 6 → ((x1 = nI 7 → Q (w.1 58 28) w) ∧ (¬ x1 = nI 7 → ((x1 = nI 8 → ∃ Q1 : Int32 → Wd → Prop, EvI m_M_barredFinds d [.ref 58] w Q1 ∧ ∀ (r1 : Int32) (w1 : Wd), Q1 r1 w1 → Q r1 w1) ∧ (¬ x1 = nI 8 → Q (-nI 1) w))))))))))))))))))) ∧ (¬ (w.1 58 30) ≤ x3 → ∃ j4 : Nat, x3 = nI j4 ∧ j4 < 40 ∧ (((w.1 81 j4) = 0 → Z m_M_count (d + 1) (qI Q) 9 [(0, .ref 58), (1, .int x1), (2, .int (x2 + (nI 1))), (3, .int (x3 + nI 1))] [] w) ∧ (¬ (w.1 81 j4) = 0 → Z m_M_count (d + 1) (qI Q) 9 [(0, .ref 58), (1, .int x1), (2, .int (x2 + (nI 0))), (3, .int (x3 + nI 1))] [] w))))) : Z m_M_count (d + 1) (qI Q) 9 [(0, .ref 58), (1, .int x1), (2, .int x2), (3, .int x3)] [] w := wp_ok (P := P_M_count) (S := S_M_count) rfl pr_M_count 17 _ _ _ _ h
def P_M_barredFinds : Prog := [(0, .aload_n 0), (1, .invokevirtual 274), (4, .iconst 0), (5, .istore_n 1), (6, .iconst 0), (7, .istore_n 2), (8, .iload_n 2), (9, .ldc 116), (11, .if_icmp .ge 38), (14, .iload_n 1), (15, .aload_n 0), (16, .getfield 117), (19, .iload_n 2), (20, .baload), (21, .ifCond .eq 19), (24, .aload_n 0), (25, .iload_n 2), (26, .sipush 3072), (29, .idiv), (30, .invokevirtual 277), (33, .ifCond .eq 7), (36, .iconst 1), (37, .goto 4), (40, .iconst 0), (41, .iadd), (42, .istore_n 1), (43, .iinc 2 1), (46, .goto (-38)), (49, .iload_n 1), (50, .ireturn)]
theorem pr_M_barredFinds : prOK m_M_barredFinds P_M_barredFinds = true := by decide +kernel
def S_M_barredFinds : List (Nat × List Nat) := [(8, [0, 1, 2])]
theorem ev_M_barredFinds {d : Nat} {w : Wd} {Q : Int32 → Wd → Prop}  (h : Z m_M_barredFinds d (qI Q) 0 [(0, .ref 58)] [] w) : EvI m_M_barredFinds d [.ref 58] w Q := Ev.ofZ (by decide +kernel) (Nat.le_of_ble_eq_true rfl) h
set_option maxRecDepth 20000 in
set_option maxHeartbeats 1000000 in
theorem vc_M_barredFinds_0 {d : Nat} {w : Wd} {Q : Int32 → Wd → Prop}  (h : ∃ Q1 : Wd → Prop, EvV m_M_findAll d [.ref 58] w Q1 ∧ ∀ w1 : Wd, Q1 w1 → Z m_M_barredFinds (d + 1) (qI Q) 8 [(0, .ref 58), (1, .int (nI 0)), (2, .int (nI 0))] [] w1) : Z m_M_barredFinds (d + 1) (qI Q) 0 [(0, .ref 58)] [] w := wp_ok (P := P_M_barredFinds) (S := S_M_barredFinds) rfl pr_M_barredFinds 7 _ _ _ _ h
set_option maxRecDepth 20000 in
set_option maxHeartbeats 1000000 in
theorem vc_M_barredFinds_8 {d : Nat} {w : Wd} {Q : Int32 → Wd → Prop} (x1 : Int32) (x2 : Int32) (h : (((122880 : Int32) ≤ x2 → Q x1 w) ∧ (¬ (122880 : Int32) ≤ x2 → ∃ j1 : Nat, x2 = nI j1 ∧ j1 < 122880 ∧ (((w.1 82 j1) = 0 → Z m_M_barredFinds (d + 1) (qI Q) 8 [(0, .ref 58), (1, .int (x1 + (nI 0))), (2, .int (x2 + nI 1))] [] w) ∧ (¬ (w.1 82 j1) = 0 → ¬ (nI 3072) = 0 ∧ ∃ Q1 : Int32 → Wd → Prop, EvI m_M_isBarred d [.ref 58, .int (x2 / (nI 3072))] w Q1 ∧ ∀ (r1 : Int32) (w1 : Wd), Q1 r1 w1 → ((r1 = 0 → Z m_M_barredFinds (d + 1) (qI Q) 8 [(0, .ref 58), (1, .int (x1 + (nI 0))), (2, .int (x2 + nI 1))] [] w1) ∧ (¬ r1 = 0 → Z m_M_barredFinds (d + 1) (qI Q) 8 [(0, .ref 58), (1, .int (x1 + (nI 1))), (2, .int (x2 + nI 1))] [] w1))))))) : Z m_M_barredFinds (d + 1) (qI Q) 8 [(0, .ref 58), (1, .int x1), (2, .int x2)] [] w := wp_ok (P := P_M_barredFinds) (S := S_M_barredFinds) rfl pr_M_barredFinds 22 _ _ _ _ h
end
section
/-! PLAIN FACTS -/
theorem tn (n : Nat) (h : n < 2147483648 := by decide) : (nI n).toInt = (n : Int) := nI_toInt h
theorem i_lt (a b : Int32) : a < b ↔ a.toInt < b.toInt := Int32.lt_iff_toInt_lt
theorem i_le (a b : Int32) : a ≤ b ↔ a.toInt ≤ b.toInt := Int32.le_iff_toInt_le
theorem i_eq (a b : Int32) : a = b ↔ a.toInt = b.toInt := Int32.toInt_inj.symm
theorem i_rng (x : Int32) : -2147483648 ≤ x.toInt ∧ x.toInt < 2147483648 := ⟨Int32.le_toInt x, Int32.toInt_lt x⟩
theorem i_z : (0 : Int32).toInt = 0 := rfl
theorem i_o : (1 : Int32).toInt = 1 := rfl
theorem nI_one : nI 1 = 1 := rfl
theorem i_nat {x : Int32} (h : 0 ≤ x.toInt) : ∃ k : Nat, k < 2147483648 ∧ x = nI k ∧ x.toInt = (k : Int) := by
  have h2 := (i_rng x).2
  refine ⟨x.toInt.toNat, by omega, ?_, by omega⟩
  apply (i_eq _ _).mpr
  rw [nI_toInt (by omega)]
  omega
theorem nI_inj {a b : Nat} (ha : a < 2147483648) (hb : b < 2147483648) (h : nI a = nI b) : a = b := (nI_eq ha hb).mp h
theorem m1_int : (-nI 1).toInt = -1 := by decide
theorem m1_ne (n : Nat) (h : n < 2147483648) : ¬ nI n = -nI 1 := by
  intro e
  have := congrArg Int32.toInt e
  rw [nI_toInt h, m1_int] at this
  omega
/-- the places of w' are those of w, but for those in Ch; the longs too, but for those in Cl -/
def Sm (Ch : Nat → Nat → Prop) (w w' : Wd) : Prop := ∀ a k, ¬ Ch a k → w'.1 a k = w.1 a k
theorem Sm.rf {Ch : Nat → Nat → Prop} {w : Wd} : Sm Ch w w := fun _ _ _ => rfl
theorem Sm.tr {Ch : Nat → Nat → Prop} {w w1 w2 : Wd} (h1 : Sm Ch w w1) (h2 : Sm Ch w1 w2) : Sm Ch w w2 := fun a k h => (h2 a k h).trans (h1 a k h)
theorem Sm.mono {Ch Ch' : Nat → Nat → Prop} {w w1 : Wd} (h1 : Sm Ch w w1) (h : ∀ a k, Ch a k → Ch' a k) : Sm Ch' w w1 := fun a k hn => h1 a k (fun hc => hn (h a k hc))
theorem Sm.up {Ch : Nat → Nat → Prop} {w : Wd} {a k : Nat} {v : Int32} (h : Ch a k) : Sm Ch w (up1 w a k v) := by
  intro b j hn
  have : ¬ (b = a ∧ j = k) := fun e => hn (by rw [e.1, e.2]; exact h)
  simp [up1, this]
theorem up1_1 (w : Wd) (a k : Nat) (v : Int32) (b j : Nat) : (up1 w a k v).1 b j = if b = a ∧ j = k then v else w.1 b j := rfl
theorem up1_2 (w : Wd) (a k : Nat) (v : Int32) : (up1 w a k v).2 = w.2 := rfl
theorem up2_1 (w : Wd) (a k : Nat) (v : Int64) : (up2 w a k v).1 = w.1 := rfl
theorem up2_2 (w : Wd) (a k : Nat) (v : Int64) (b j : Nat) : (up2 w a k v).2 b j = if b = a ∧ j = k then v else w.2 b j := rfl
theorem upA_1 (w : Wd) (a : Nat) (f : Nat → Int32) (b j : Nat) : (upA w a f).1 b j = if b = a then f j else w.1 b j := rfl
theorem upA_2 (w : Wd) (a : Nat) (f : Nat → Int32) : (upA w a f).2 = w.2 := rfl
/-- a contract with another end -/
theorem Ev.imp {μ : MI} {d : Nat} {as : List Value} {w : Wd} {Q Q' : Option Value → Wd → Prop} (h : Ev μ d as w Q) (hq : ∀ r w', Q r w' → Q' r w') : Ev μ d as w Q' := by
  intro l G cA ad sz
  have h1 := h l G cA ad sz
  intro p e ha hc hk s m args below hf happ hP hK
  obtain ⟨n, o, a1, a2, a3, ⟨⟨⟨r, w', b1, b2, b3⟩, b4⟩, L, c1, c2⟩⟩ := h1 p e ha hc hk s m args below hf happ hP hK
  exact ⟨n, o, a1, a2, a3, ⟨⟨⟨r, w', b1, hq r w' b2, b3⟩, b4⟩, L, c1, c2⟩⟩
theorem EvI.imp {μ : MI} {d : Nat} {as : List Value} {w : Wd} {Q Q' : Int32 → Wd → Prop} (h : EvI μ d as w Q) (hq : ∀ r w', Q r w' → Q' r w') : EvI μ d as w Q' :=
  Ev.imp h (fun r w' hr => by
    cases r with
    | none => exact hr.elim
    | some v => cases v <;> first | exact hq _ _ hr | exact hr.elim)
theorem EvV.imp {μ : MI} {d : Nat} {as : List Value} {w : Wd} {Q Q' : Wd → Prop} (h : EvV μ d as w Q) (hq : ∀ w', Q w' → Q' w') : EvV μ d as w Q' :=
  Ev.imp h (fun r w' hr => by
    cases r with
    | none => exact hq _ hr
    | some v => exact hr.elim)
/-! LEXICON -/
def isW (x : Int32) : Prop := 1 ≤ x.toInt ∧ x.toInt ≤ 100
theorem isW_nI {k : Nat} (h : 1 ≤ k) (h2 : k ≤ 100) : isW (nI k) := by
  unfold isW
  rw [nI_toInt (by omega)]
  omega
theorem isW_of {x : Int32} (h : isW x) : ∃ k : Nat, 1 ≤ k ∧ k ≤ 100 ∧ x = nI k := by
  obtain ⟨k, hk, e, ht⟩ := i_nat (x := x) (by have := h.1; omega)
  exact ⟨k, by have := h.1; omega, by have := h.2; omega, e⟩
theorem isW_0 : ¬ isW (nI 0) := by
  unfold isW
  rw [tn 0]
  omega
theorem c_Lexicon_has {d : Nat} {w : Wd} (x : Int32) : EvI m_Lexicon_has d [.int x] w (fun r w' => w' = w ∧ ((isW x ∧ r = 1) ∨ (¬ isW x ∧ r = 0))) := by
  refine ev_Lexicon_has x (vc_Lexicon_has_0 x ⟨fun h => ?_, fun h => ⟨fun h2 => ?_, fun h2 => ?_⟩⟩)
  · rw [i_lt, tn 1] at h
    exact ⟨Or.inl rfl, rfl, Or.inr ⟨fun e => by have := e.1; omega, rfl⟩⟩
  · rw [i_lt, tn 100] at h2
    exact ⟨Or.inl rfl, rfl, Or.inr ⟨fun e => by have := e.2; omega, rfl⟩⟩
  · rw [i_lt, tn 1] at h
    rw [i_lt, tn 100] at h2
    exact ⟨Or.inr rfl, rfl, Or.inl ⟨⟨by omega, by omega⟩, rfl⟩⟩
def it (J : Nat → Nat) : Nat → Nat → Nat
  | 0, k => k
  | n + 1, k => it J n (J k)
theorem it_fix {J : Nat → Nat} {a : Nat} (h : J a = a) : ∀ n, it J n a = a
  | 0 => rfl
  | n + 1 => by rw [it, h]; exact it_fix h n
theorem it_add (J : Nat → Nat) : ∀ m n a, it J (m + n) a = it J n (it J m a)
  | 0, n, a => by rw [Nat.zero_add]; rfl
  | m + 1, n, a => by
    rw [show m + 1 + n = (m + n) + 1 by omega, it, it]
    exact it_add J m n (J a)
theorem it_succ (J : Nat → Nat) (n a : Nat) : it J (n + 1) a = J (it J n a) := it_add J n 1 a
def Jn (w : Wd) (k : Nat) : Nat := (w.1 77 k).toNatClampNeg
/-- sorts and joins, of the class and of the reference -/
def LexI (w : Wd) : Prop := (∀ k, 1 ≤ k → k ≤ 100 → (∃ s, s < 10 ∧ w.1 1 k = nI s ∧ w.1 76 k = nI s) ∧ (∃ j, 1 ≤ j ∧ j ≤ 100 ∧ w.1 77 k = nI j ∧ w.1 2 k = nI (if j = k then 0 else j))) ∧ ∃ rk : Nat → Nat, ∀ k, 1 ≤ k → k ≤ 100 → Jn w k ≠ k → rk (Jn w k) < rk k
theorem LexI.J {w : Wd} (h : LexI w) {k : Nat} (h1 : 1 ≤ k) (h2 : k ≤ 100) : 1 ≤ Jn w k ∧ Jn w k ≤ 100 ∧ w.1 77 k = nI (Jn w k) ∧ w.1 2 k = nI (if Jn w k = k then 0 else Jn w k) := by
  obtain ⟨j, a, b, c, e⟩ := (h.1 k h1 h2).2
  have : Jn w k = j := by unfold Jn; rw [c]; exact nI_clamp (by omega)
  rw [this]
  exact ⟨a, b, c, e⟩
theorem LexI.itr {w : Wd} (h : LexI w) : ∀ (n : Nat) {k : Nat}, 1 ≤ k → k ≤ 100 → 1 ≤ it (Jn w) n k ∧ it (Jn w) n k ≤ 100
  | 0, k, h1, h2 => ⟨h1, h2⟩
  | n + 1, k, h1, h2 => by
    obtain ⟨a, b, -, -⟩ := h.J h1 h2
    exact LexI.itr h n a b
def nmOf (w : Wd) (k : Nat) : Nat := it (Jn w) 100 k
/-- who follows the joins comes to an end within 100 steps -/
theorem LexI.ends {w : Wd} (h : LexI w) {k : Nat} (h1 : 1 ≤ k) (h2 : k ≤ 100) : ∃ n, n < 100 ∧ Jn w (it (Jn w) n k) = it (Jn w) n k := by
  obtain ⟨rk, hr⟩ := h.2
  by_cases hc : ∃ n, n < 100 ∧ Jn w (it (Jn w) n k) = it (Jn w) n k
  · exact hc
  · exfalso
    have hn : ∀ n, n < 100 → Jn w (it (Jn w) n k) ≠ it (Jn w) n k := fun n hn e => hc ⟨n, hn, e⟩
    have step : ∀ n, n < 100 → rk (it (Jn w) (n + 1) k) < rk (it (Jn w) n k) := by
      intro n hlt
      rw [it_succ]
      obtain ⟨a, b⟩ := h.itr n h1 h2
      exact hr _ a b (hn n hlt)
    have mono : ∀ j i, i < j → j ≤ 100 → rk (it (Jn w) j k) < rk (it (Jn w) i k) := by
      intro j
      induction j with
      | zero => intro i hi; omega
      | succ j ih =>
        intro i hi hj
        have s1 := step j (by omega)
        by_cases e : i = j
        · subst e; exact s1
        · have s2 := ih i (by omega) (by omega)
          omega
    -- 101 words within 1 .. 100
    have hole : ∀ m, ∀ f : Nat → Nat, (∀ i, i ≤ m → f i < m) → ∃ i j, i < j ∧ j ≤ m ∧ f i = f j := by
      intro m
      induction m with
      | zero => intro f hf; exact absurd (hf 0 (Nat.le_refl 0)) (Nat.not_lt_zero _)
      | succ m ih =>
        intro f hf
        by_cases hx : ∃ i, i ≤ m ∧ f i = f (m + 1)
        · obtain ⟨i, hi, e⟩ := hx
          exact ⟨i, m + 1, by omega, Nat.le_refl _, e⟩
        · have hx : ∀ i, i ≤ m → f i ≠ f (m + 1) := fun i hi e => hx ⟨i, hi, e⟩
          obtain ⟨i, j, a, b, c⟩ := ih (fun i => if f i = m then f (m + 1) else f i) (by
            intro i hi
            try dsimp only
            have f1 := hf i (by omega)
            have f2 := hf (m + 1) (Nat.le_refl _)
            have f3 := hx i hi
            split <;> omega)
          refine ⟨i, j, a, by omega, ?_⟩
          try dsimp only at c
          have f3 := hx i (by omega)
          have f4 := hx j (by omega)
          split at c <;> split at c <;> omega
    obtain ⟨i, j, a, b, c⟩ := hole 100 (fun i => it (Jn w) i k - 1) (by
      intro i hi
      obtain ⟨p, q⟩ := h.itr i h1 h2
      try dsimp only
      omega)
    obtain ⟨p, q⟩ := h.itr i h1 h2
    obtain ⟨p2, q2⟩ := h.itr j h1 h2
    try dsimp only at c
    have e : it (Jn w) i k = it (Jn w) j k := by omega
    have := mono j i a b
    rw [e] at this
    omega
theorem LexI.stay {w : Wd} (h : LexI w) {k : Nat} (h1 : 1 ≤ k) (h2 : k ≤ 100) : Jn w (nmOf w k) = nmOf w k := by
  obtain ⟨n, hn, e⟩ := h.ends h1 h2
  have : nmOf w k = it (Jn w) n k := by
    unfold nmOf
    rw [show (100 : Nat) = n + (100 - n) by omega, it_add]
    exact it_fix e _
  rw [this]
  exact e
theorem LexI.far {w : Wd} (h : LexI w) {k m g : Nat} (h1 : 1 ≤ k) (h2 : k ≤ 100) (hm : it (Jn w) m k = g) : ∃ m, m < 100 ∧ it (Jn w) m k = g := by
  obtain ⟨n, hn, e⟩ := h.ends h1 h2
  by_cases hc : m < 100
  · exact ⟨m, hc, hm⟩
  · refine ⟨n, hn, ?_⟩
    rw [← hm, show m = n + (m - n) by omega, it_add, it_fix e]
theorem z_nameOf {d : Nat} {w : Wd} {Q : Int32 → Wd → Prop} {x1 : Int32} (hL : LexI w) : ∀ (n step a : Nat), step + n = 100 → 1 ≤ a → a ≤ 100 → Q (nI (it (Jn w) n a)) w → Z m_Lexicon_nameOf (d + 1) (qI Q) 13 [(0, .ref 0), (1, .int x1), (2, .int (nI a)), (3, .int (nI step))] [] w := by
  intro n
  induction n with
  | zero =>
    intro step a hs h1 h2 hq
    refine vc_Lexicon_nameOf_13 _ _ _ ⟨fun _ => hq, fun h => absurd ?_ h⟩
    rw [i_le, tn 100, nI_toInt (by omega)]
    omega
  | succ n ih =>
    intro step a hs h1 h2 hq
    obtain ⟨j1, j2, j3, j4⟩ := hL.J h1 h2
    refine vc_Lexicon_nameOf_13 _ _ _ ⟨fun h => ?_, fun _ => ⟨a, rfl, by omega, _, c_Lexicon_has _, ?_⟩⟩
    · rw [i_le, tn 100, nI_toInt (by omega)] at h
      omega
    · rintro r w1 ⟨rfl, hr⟩
      rw [j4] at hr
      by_cases hf : Jn w1 a = a
      · rw [if_pos hf] at hr
        rcases hr with ⟨hr, -⟩ | ⟨-, rfl⟩
        · exact absurd hr isW_0
        · refine ⟨fun _ => ?_, fun h => absurd rfl h⟩
          rw [it_fix hf] at hq
          exact hq
      · rw [if_neg hf] at hr
        rcases hr with ⟨-, rfl⟩ | ⟨hr, -⟩
        · refine ⟨fun h => absurd h (by decide), fun _ => ⟨a, rfl, by omega, ?_⟩⟩
          rw [j4, if_neg hf, nI_add]
          exact ih (step + 1) (Jn w1 a) (by omega) j1 j2 hq
        · exact absurd (isW_nI j1 j2) hr
theorem c_Lexicon_nameOf {d : Nat} {w : Wd} (hL : LexI w) (x : Int32) : EvI m_Lexicon_nameOf (d + 1) [.ref 0, .int x] w (fun r w' => w' = w ∧ ((¬ isW x ∧ r = -nI 1) ∨ ∃ k, 1 ≤ k ∧ k ≤ 100 ∧ x = nI k ∧ r = nI (nmOf w k))) := by
  refine ev_Lexicon_nameOf x (vc_Lexicon_nameOf_0 x ⟨_, c_Lexicon_has _, ?_⟩)
  rintro r w1 ⟨rfl, ⟨hx, rfl⟩ | ⟨hx, rfl⟩⟩
  · refine ⟨fun _ => ?_, fun h => absurd h (by decide)⟩
    obtain ⟨k, h1, h2, rfl⟩ := isW_of hx
    exact z_nameOf hL 100 0 k rfl h1 h2 ⟨rfl, Or.inr ⟨k, h1, h2, rfl, rfl⟩⟩
  · exact ⟨fun h => absurd rfl h, fun _ => ⟨rfl, Or.inl ⟨hx, rfl⟩⟩⟩
end
section
/-! LEXICON, further; and the reference's words -/
/-- an answer 1 or 0 -/
def Bo (P : Prop) (r : Int32) : Prop := (P ∧ r = 1) ∨ (¬ P ∧ r = 0)
theorem Bo.t {P : Prop} (h : P) : Bo P 1 := Or.inl ⟨h, rfl⟩
theorem Bo.f {P : Prop} (h : ¬ P) : Bo P 0 := Or.inr ⟨h, rfl⟩
theorem Bo.z {P : Prop} {r : Int32} (h : Bo P r) (hr : r = 0) : ¬ P := by
  rcases h with ⟨-, rfl⟩ | ⟨h, -⟩
  · exact absurd hr (by decide)
  · exact h
theorem Bo.n {P : Prop} {r : Int32} (h : Bo P r) (hr : ¬ r = 0) : P := by
  rcases h with ⟨h, -⟩ | ⟨-, rfl⟩
  · exact h
  · exact absurd rfl hr
theorem Bo.one {P : Prop} {r s : Int32} (h : Bo P r) (h2 : Bo P s) : r = s := by
  rcases h with ⟨h, rfl⟩ | ⟨h, rfl⟩ <;> rcases h2 with ⟨g, rfl⟩ | ⟨g, rfl⟩
  · rfl
  · exact absurd h g
  · exact absurd g h
  · rfl
theorem Bo.imp {P R : Prop} {r : Int32} (h : Bo P r) (e : P ↔ R) : Bo R r := Or.imp (fun a => ⟨e.mp a.1, a.2⟩) (fun a => ⟨fun x => a.1 (e.mpr x), a.2⟩) h
theorem Bo.r {P : Prop} {r : Int32} (h : Bo P r) : r = 0 ∨ r = 1 := h.elim (fun a => Or.inr a.2) (fun a => Or.inl a.2)
theorem c_has {d : Nat} {w : Wd} (x : Int32) : EvI m_Lexicon_has d [.int x] w (fun r w' => w' = w ∧ Bo (isW x) r) := c_Lexicon_has x
theorem c_Lexicon_setSort {d : Nat} {w : Wd} (x s : Int32) : EvI m_Lexicon_setSort (d + 1) [.ref 0, .int x, .int s] w (fun r w' => (r = 0 ∧ w' = w ∧ ¬ (isW x ∧ 0 ≤ s.toInt ∧ s.toInt < 10)) ∨ (r = 1 ∧ ∃ k j, 1 ≤ k ∧ k ≤ 100 ∧ x = nI k ∧ j < 10 ∧ s = nI j ∧ w' = up1 w 1 k s)) := by
  refine ev_Lexicon_setSort x s (vc_Lexicon_setSort_0 x s ⟨_, c_has x, ?_⟩)
  rintro r w1 ⟨rfl, hr⟩
  refine ⟨fun h => ⟨Or.inl rfl, Or.inl ⟨rfl, rfl, fun e => hr.z h e.1⟩⟩, fun h => ⟨fun h2 => ⟨Or.inl rfl, Or.inl ⟨rfl, rfl, fun e => ?_⟩⟩, fun h2 => ⟨fun h3 => ?_, fun h3 => ⟨Or.inl rfl, Or.inl ⟨rfl, rfl, fun e => ?_⟩⟩⟩⟩⟩
  · rw [i_lt, i_z] at h2
    omega
  · obtain ⟨k, k1, k2, rfl⟩ := isW_of (hr.n h)
    rw [i_lt, i_z] at h2
    rw [i_lt, tn 10] at h3
    obtain ⟨j, -, e, ej⟩ := i_nat (x := s) (by omega)
    exact ⟨k, rfl, by omega, Or.inr rfl, Or.inr ⟨rfl, k, j, k1, k2, rfl, by omega, e, rfl⟩⟩
  · rw [i_lt, tn 10] at h3
    omega
theorem c_Lexicon_sortOf {d : Nat} {w : Wd} {k : Nat} (h1 : 1 ≤ k) (h2 : k ≤ 100) : EvI m_Lexicon_sortOf (d + 1) [.ref 0, .int (nI k)] w (fun r w' => w' = w ∧ r = w.1 1 k) := by
  refine ev_Lexicon_sortOf _ (vc_Lexicon_sortOf_0 _ ⟨_, c_has _, ?_⟩)
  rintro r w1 ⟨rfl, hr⟩
  exact ⟨fun h => absurd (isW_nI h1 h2) (hr.z h), fun _ => ⟨k, rfl, by omega, rfl, rfl⟩⟩
theorem z_leadsTo {d : Nat} {w : Wd} {Q : Int32 → Wd → Prop} {x1 : Int32} {g : Nat} (hg1 : 1 ≤ g) (hg2 : g ≤ 100) (hL : LexI w) : ∀ (n step a : Nat), step + n = 100 → 1 ≤ a → a ≤ 100 → ((∃ m, m < n ∧ it (Jn w) m a = g) → Q 1 w) → ((¬ ∃ m, m < n ∧ it (Jn w) m a = g) → Q 0 w) → Z m_Lexicon_leadsTo (d + 1) (qI Q) 5 [(0, .ref 0), (1, .int x1), (2, .int (nI g)), (3, .int (nI a)), (4, .int (nI step))] [] w := by
  intro n
  induction n with
  | zero =>
    intro step a hs h1 h2 hy hn
    refine vc_Lexicon_leadsTo_5 _ _ _ _ ⟨fun _ => ⟨Or.inl rfl, hn (fun ⟨m, hm, _⟩ => absurd hm (Nat.not_lt_zero m))⟩, fun h => absurd ?_ h⟩
    rw [i_le, tn 100, nI_toInt (by omega)]
    omega
  | succ n ih =>
    intro step a hs h1 h2 hy hn
    obtain ⟨j1, j2, j3, j4⟩ := hL.J h1 h2
    refine vc_Lexicon_leadsTo_5 _ _ _ _ ⟨fun h => ?_, fun _ => ⟨_, c_has _, ?_⟩⟩
    · rw [i_le, tn 100, nI_toInt (by omega)] at h
      omega
    · rintro r w1 ⟨rfl, hr⟩
      refine ⟨fun h => absurd (isW_nI h1 h2) (hr.z h), fun _ => ⟨fun hne => ⟨a, rfl, by omega, ?_⟩, fun he => ⟨Or.inr rfl, hy ⟨0, by omega, (nI_inj (by omega) (by omega) he : a = g)⟩⟩⟩⟩
      rw [j4, nI_add]
      have hne : a ≠ g := fun e => hne (by rw [e])
      by_cases hf : Jn w1 a = a
      · rw [if_pos hf]
        have hno : ¬ ∃ m, m < n + 1 ∧ it (Jn w1) m a = g := fun ⟨m, _, e⟩ => hne (by rw [← e, it_fix hf])
        refine vc_Lexicon_leadsTo_5 _ _ _ _ ⟨fun _ => ⟨Or.inl rfl, hn hno⟩, fun _ => ⟨_, c_has _, ?_⟩⟩
        rintro r2 w2 ⟨rfl, hr2⟩
        exact ⟨fun _ => ⟨Or.inl rfl, hn hno⟩, fun h => absurd (hr2.n h) isW_0⟩
      · rw [if_neg hf]
        refine ih (step + 1) (Jn w1 a) (by omega) j1 j2 (fun ⟨m, hm, e⟩ => hy ⟨m + 1, by omega, e⟩) (fun hno => hn (fun ⟨m, hm, e⟩ => ?_))
        cases m with
        | zero => exact hne e
        | succ m => exact hno ⟨m, by omega, e⟩
theorem c_Lexicon_leadsTo {d : Nat} {w : Wd} (hL : LexI w) {a g : Nat} (h1 : 1 ≤ a) (h2 : a ≤ 100) (hg1 : 1 ≤ g) (hg2 : g ≤ 100) : EvI m_Lexicon_leadsTo (d + 1) [.ref 0, .int (nI a), .int (nI g)] w (fun r w' => w' = w ∧ Bo (∃ m, it (Jn w) m a = g) r) := by
  refine ev_Lexicon_leadsTo _ _ (vc_Lexicon_leadsTo_0 _ _ ?_)
  refine z_leadsTo hg1 hg2 hL 100 0 a rfl h1 h2 (fun ⟨m, _, e⟩ => ⟨rfl, Bo.t ⟨m, e⟩⟩) (fun h => ⟨rfl, Bo.f (fun ⟨m, e⟩ => h (hL.far h1 h2 e))⟩)
/-- what join does to the joins -/
def joinOK (w : Wd) (a b : Nat) : Prop := a = b ∨ ¬ ∃ m, it (Jn w) m b = a
theorem c_Lexicon_link {d : Nat} {w : Wd} (hL : LexI w) (x y : Int32) : EvI m_Lexicon_link (d + 2) [.ref 0, .int x, .int y] w (fun r w' => (r = 0 ∧ w' = w ∧ ¬ (∃ a b, 1 ≤ a ∧ a ≤ 100 ∧ 1 ≤ b ∧ b ≤ 100 ∧ x = nI a ∧ y = nI b ∧ joinOK w a b)) ∨ (r = 1 ∧ ∃ a b, 1 ≤ a ∧ a ≤ 100 ∧ 1 ≤ b ∧ b ≤ 100 ∧ x = nI a ∧ y = nI b ∧ joinOK w a b ∧ w' = up1 w 2 a (nI (if b = a then 0 else b)))) := by
  refine ev_Lexicon_link x y (vc_Lexicon_link_0 x y ⟨_, c_has x, ?_⟩)
  rintro r w1 ⟨rfl, hr⟩
  refine ⟨fun h => ⟨Or.inl rfl, Or.inl ⟨rfl, rfl, fun ⟨a, b, a1, a2, b1, b2, e, _⟩ => hr.z h (by rw [e]; exact isW_nI a1 a2)⟩⟩, fun h => ⟨_, c_has y, ?_⟩⟩
  rintro r2 w2 ⟨rfl, hr2⟩
  refine ⟨fun h2 => ?_, fun h2 => ⟨Or.inl rfl, Or.inl ⟨rfl, rfl, fun ⟨a, b, a1, a2, b1, b2, e, e2, _⟩ => hr2.z h2 (by rw [e2]; exact isW_nI b1 b2)⟩⟩⟩
  obtain ⟨a, a1, a2, rfl⟩ := isW_of (hr.n h)
  obtain ⟨b, b1, b2, rfl⟩ := isW_of (hr2.n h2)
  refine ⟨fun hne => ⟨_, c_Lexicon_leadsTo (d := d) hL b1 b2 a1 a2, ?_⟩, fun he => ⟨a, rfl, by omega, Or.inr rfl, Or.inr ⟨rfl, a, b, a1, a2, b1, b2, rfl, rfl, Or.inl (nI_inj (by omega) (by omega) he), ?_⟩⟩⟩
  · rintro r3 w3 ⟨rfl, hr3⟩
    have hab : a ≠ b := fun e => hne (by rw [e])
    refine ⟨fun h3 => ⟨a, rfl, by omega, Or.inr rfl, Or.inr ⟨rfl, a, b, a1, a2, b1, b2, rfl, rfl, Or.inr (hr3.z h3), by rw [if_neg (Ne.symm hab)]⟩⟩, fun h3 => ⟨Or.inl rfl, Or.inl ⟨rfl, rfl, ?_⟩⟩⟩
    rintro ⟨a', b', c1, c2, c3, c4, e1, e2, hj⟩
    have ea := nI_inj (by omega) (by omega) e1
    have eb := nI_inj (by omega) (by omega) e2
    subst ea
    subst eb
    rcases hj with hj | hj
    · exact hab hj
    · exact hj (hr3.n h3)
  · have e := nI_inj (by omega) (by omega) he
    rw [if_pos e.symm]
theorem Jn_at {w : Wd} {k j : Nat} (hj : j < 2147483648) (h : w.1 77 k = nI j) : Jn w k = j := by
  unfold Jn
  rw [h]
  exact nI_clamp hj
/-- the invariant, behind a join on both sides -/
theorem LexI.join {w w' : Wd} (hL : LexI w) {a b : Nat} (a1 : 1 ≤ a) (a2 : a ≤ 100) (b1 : 1 ≤ b) (b2 : b ≤ 100) (hj : joinOK w a b) (e1 : w'.1 1 = w.1 1) (e76 : w'.1 76 = w.1 76) (e2 : ∀ k, w'.1 2 k = if k = a then nI (if b = a then 0 else b) else w.1 2 k) (e77 : ∀ k, w'.1 77 k = if k = a then nI b else w.1 77 k) : LexI w' := by
  have hJ : ∀ k, Jn w' k = if k = a then b else Jn w k := by
    intro k
    unfold Jn
    rw [e77]
    split
    · exact nI_clamp (by omega)
    · rfl
  refine ⟨fun k k1 k2 => ⟨?_, ?_⟩, ?_⟩
  · rw [e1, e76]
    exact (hL.1 k k1 k2).1
  · by_cases hk : k = a
    · subst hk
      exact ⟨b, b1, b2, by rw [e77, if_pos rfl], by rw [e2, if_pos rfl]⟩
    · obtain ⟨j, q⟩ := (hL.1 k k1 k2).2
      exact ⟨j, by rw [e77, e2, if_neg hk, if_neg hk]; exact q⟩
  · obtain ⟨rk, hr⟩ := hL.2
    by_cases hab : a = b
    · refine ⟨rk, fun k k1 k2 hne => ?_⟩
      rw [hJ] at hne ⊢
      by_cases hk : k = a
      · rw [if_pos hk] at hne
        omega
      · rw [if_neg hk] at hne ⊢
        exact hr k k1 k2 hne
    · have hno : ¬ ∃ m, it (Jn w) m b = a := hj.resolve_left hab
      have hcl : ∀ k, Decidable (∃ m, it (Jn w) m k = a) := fun k => Classical.propDecidable _
      refine ⟨fun k => rk k + (@ite Nat (∃ m, it (Jn w) m k = a) (hcl k) (rk b + 1) 0), fun k k1 k2 hne => ?_⟩
      dsimp only
      rw [hJ] at hne ⊢
      by_cases hk : k = a
      · subst hk
        rw [if_pos rfl] at hne ⊢
        rw [if_neg hno, if_pos ⟨0, rfl⟩]
        omega
      · rw [if_neg hk] at hne ⊢
        have h9 := hr k k1 k2 hne
        by_cases hp : ∃ m, it (Jn w) m k = a
        · have hp2 : ∃ m, it (Jn w) m (Jn w k) = a := by
            obtain ⟨m, hm⟩ := hp
            cases m with
            | zero => exact absurd hm hk
            | succ m => exact ⟨m, hm⟩
          rw [if_pos hp, if_pos hp2]
          omega
        · have hp2 : ¬ ∃ m, it (Jn w) m (Jn w k) = a := fun ⟨m, hm⟩ => hp ⟨m + 1, hm⟩
          rw [if_neg hp, if_neg hp2]
          omega
/-- a word v fits a spec -/
def fitP (w : Wd) (kd nb : Int32) (v : Nat) : Prop := (kd = nI 0 ∧ nI v = nb) ∨ (kd = nI 1 ∧ w.1 76 v = nb) ∨ (¬ kd = nI 0 ∧ ¬ kd = nI 1)
theorem c_Lexicon_fits {d : Nat} {w : Wd} (hL : LexI w) (kd nb : Int32) {v : Nat} (h1 : 1 ≤ v) (h2 : v ≤ 100) : EvI m_Lexicon_fits d [.ref 0, .int kd, .int nb, .int (nI v)] w (fun r w' => w' = w ∧ Bo (fitP w kd nb v) r) := by
  have hs : w.1 1 v = w.1 76 v := by
    obtain ⟨s, -, a, b⟩ := (hL.1 v h1 h2).1
    rw [a, b]
  refine ev_Lexicon_fits _ _ _ (vc_Lexicon_fits_0 _ _ _ ⟨fun e => ⟨fun h => ⟨Or.inl rfl, rfl, Bo.f ?_⟩, fun h => ⟨Or.inr rfl, rfl, Bo.t (Or.inl ⟨e, h⟩)⟩⟩, fun e => ⟨fun e1 => ⟨fun h => ?_, fun _ => ⟨fun h => ?_, fun _ => ⟨v, rfl, by omega, fun h => ⟨Or.inl rfl, rfl, Bo.f ?_⟩, fun h => ⟨Or.inr rfl, rfl, Bo.t (Or.inr (Or.inl ⟨e1, by rw [← hs]; exact h⟩))⟩⟩⟩⟩, fun e1 => ⟨Or.inr rfl, rfl, Bo.t (Or.inr (Or.inr ⟨e, e1⟩))⟩⟩⟩)
  · subst e
    rintro (⟨-, g⟩ | ⟨g, -⟩ | ⟨g, -⟩)
    · exact h g
    · exact absurd g (by decide)
    · exact g rfl
  · rw [i_lt, tn 1, nI_toInt (by omega)] at h
    omega
  · rw [i_lt, tn 100, nI_toInt (by omega)] at h
    omega
  · subst e1
    rintro (⟨g, -⟩ | ⟨-, g⟩ | ⟨-, g⟩)
    · exact e g
    · exact h (hs.trans g)
    · exact g rfl
/-! the reference -/
theorem c_M_isOne {d : Nat} {w : Wd} (x : Int32) : EvI m_M_isOne d [.int x] w (fun r w' => w' = w ∧ Bo (isW x) r) := by
  refine ev_M_isOne x (vc_M_isOne_0 x ⟨fun h => ?_, fun h => ⟨fun h2 => ?_, fun h2 => ?_⟩⟩)
  · rw [i_lt, tn 1] at h
    exact ⟨Or.inl rfl, rfl, Bo.f (fun e => by have := e.1; omega)⟩
  · rw [i_lt, tn 100] at h2
    exact ⟨Or.inl rfl, rfl, Bo.f (fun e => by have := e.2; omega)⟩
  · rw [i_lt, tn 1] at h
    rw [i_lt, tn 100] at h2
    exact ⟨Or.inr rfl, rfl, Bo.t ⟨by omega, by omega⟩⟩
theorem c_M_sort {d : Nat} {w : Wd} (x s : Int32) : EvI m_M_sort (d + 1) [.ref 58, .int x, .int s] w (fun r w' => (r = 0 ∧ w' = up1 w 58 0 (nI 0) ∧ ¬ (isW x ∧ 0 ≤ s.toInt ∧ s.toInt < 10)) ∨ (r = 1 ∧ ∃ k j, 1 ≤ k ∧ k ≤ 100 ∧ x = nI k ∧ j < 10 ∧ s = nI j ∧ w' = up1 (up1 (up1 w 58 0 (nI 0)) 76 k s) 58 34 (nI 1))) := by
  refine ev_M_sort x s (vc_M_sort_0 x s ⟨_, c_M_isOne x, ?_⟩)
  rintro r w1 ⟨rfl, hr⟩
  refine ⟨fun h => ⟨Or.inl rfl, Or.inl ⟨rfl, rfl, fun e => hr.z h e.1⟩⟩, fun h => ⟨fun h2 => ⟨Or.inl rfl, Or.inl ⟨rfl, rfl, fun e => ?_⟩⟩, fun h2 => ⟨fun h3 => ?_, fun h3 => ⟨Or.inl rfl, Or.inl ⟨rfl, rfl, fun e => ?_⟩⟩⟩⟩⟩
  · rw [i_lt, i_z] at h2
    omega
  · obtain ⟨k, k1, k2, rfl⟩ := isW_of (hr.n h)
    rw [i_lt, i_z] at h2
    rw [i_le, tn 9] at h3
    obtain ⟨j, -, e, ej⟩ := i_nat (x := s) (by omega)
    exact ⟨k, rfl, by omega, Or.inr rfl, Or.inr rfl, Or.inr ⟨rfl, k, j, k1, k2, rfl, by omega, e, rfl⟩⟩
  · rw [i_le, tn 9] at h3
    omega
theorem z_M_nameOf {d : Nat} {w : Wd} {Q : Int32 → Wd → Prop} {x1 : Int32} (hL : LexI w) : ∀ (n a : Nat), 1 ≤ a → a ≤ 100 → Jn w (it (Jn w) n a) = it (Jn w) n a → Q (nI (it (Jn w) n a)) w → Z m_M_nameOf d (qI Q) 2 [(0, .ref 58), (1, .int x1), (2, .int (nI a))] [] w := by
  intro n
  induction n with
  | zero =>
    intro a h1 h2 hf hq
    obtain ⟨j1, j2, j3, j4⟩ := hL.J h1 h2
    refine vc_M_nameOf_2 _ _ ⟨a, rfl, by omega, fun _ => hq, fun h => absurd ?_ h⟩
    rw [j3]
    exact congrArg nI hf
  | succ n ih =>
    intro a h1 h2 hf hq
    obtain ⟨j1, j2, j3, j4⟩ := hL.J h1 h2
    refine vc_M_nameOf_2 _ _ ⟨a, rfl, by omega, fun h => ?_, fun _ => ⟨a, rfl, by omega, ?_⟩⟩
    · rw [j3] at h
      have e := nI_inj (by omega) (by omega) h
      rw [it_fix e] at hq
      exact hq
    · rw [j3]
      exact ih (Jn w a) j1 j2 hf hq
theorem c_M_nameOf {d : Nat} {w : Wd} (hL : LexI w) {a : Nat} (h1 : 1 ≤ a) (h2 : a ≤ 100) : EvI m_M_nameOf d [.ref 58, .int (nI a)] w (fun r w' => w' = w ∧ r = nI (nmOf w a)) :=
  ev_M_nameOf _ (vc_M_nameOf_0 _ (z_M_nameOf hL 100 a h1 h2 (hL.stay h1 h2) ⟨rfl, rfl⟩))
theorem LexI.mv {w w' : Wd} (h : LexI w) (e1 : w'.1 1 = w.1 1) (e2 : w'.1 2 = w.1 2) (e3 : w'.1 76 = w.1 76) (e4 : w'.1 77 = w.1 77) : LexI w' := by
  unfold LexI Jn at *
  rw [e1, e2, e3, e4]
  exact h
theorem nmOf_mv {w w' : Wd} (e4 : w'.1 77 = w.1 77) : nmOf w' = nmOf w := by
  have : Jn w' = Jn w := by funext k; unfold Jn; rw [e4]
  funext k
  unfold nmOf
  rw [this]
theorem c_M_named {d : Nat} {w : Wd} (hL : LexI w) (x : Int32) : EvI m_M_named (d + 1) [.ref 58, .int x] w (fun r w' => w' = up1 w 58 0 (nI 0) ∧ ((¬ isW x ∧ r = -nI 1) ∨ ∃ k, 1 ≤ k ∧ k ≤ 100 ∧ x = nI k ∧ r = nI (nmOf w k))) := by
  refine ev_M_named x (vc_M_named_0 x ⟨_, c_M_isOne x, ?_⟩)
  rintro r w1 ⟨rfl, hr⟩
  refine ⟨fun h => ⟨rfl, Or.inl ⟨hr.z h, rfl⟩⟩, fun h => ?_⟩
  obtain ⟨k, k1, k2, rfl⟩ := isW_of (hr.n h)
  have hL2 : LexI (up1 w 58 0 (nI 0)) := hL.mv rfl rfl rfl rfl
  refine ⟨_, c_M_nameOf hL2 k1 k2, ?_⟩
  rintro r2 w2 ⟨rfl, rfl⟩
  exact ⟨rfl, Or.inr ⟨k, k1, k2, rfl, by rw [nmOf_mv (w := w) (w' := up1 w 58 0 (nI 0)) rfl]⟩⟩
theorem z_M_join {d : Nat} {w : Wd} {Q : Int32 → Wd → Prop} (hL : LexI w) {a b : Nat} (a1 : 1 ≤ a) (a2 : a ≤ 100) (b1 : 1 ≤ b) (b2 : b ≤ 100) (hy : joinOK w a b → Q 1 (up1 w 77 a (nI b))) (hn : ¬ joinOK w a b → Q 0 w) : ∀ (n c : Nat), 1 ≤ c → c ≤ 100 → Jn w (it (Jn w) n c) = it (Jn w) n c → ((∃ m, it (Jn w) m b = a) ↔ ∃ m, it (Jn w) m c = a) → (a = b → c = b) → Z m_M_join (d + 1) (qI Q) 23 [(0, .ref 58), (1, .int (nI a)), (2, .int (nI b)), (3, .int (nI c))] [] w := by
  have hab : ∀ {p q : Nat}, p ≤ 100 → q ≤ 100 → nI p = nI q → p = q := fun hp hq e => nI_inj (by omega) (by omega) e
  intro n
  induction n with
  | zero =>
    intro c c1 c2 hf hm hc
    have hf : Jn w c = c := hf
    obtain ⟨j1, j2, j3, j4⟩ := hL.J c1 c2
    refine vc_M_join_23 _ _ _ ⟨fun h => ⟨fun e => ⟨a, rfl, by omega, Or.inr rfl, hy (Or.inl (hab a2 b2 e))⟩, fun e => ⟨fun h2 => absurd h h2, fun _ => ⟨Or.inl rfl, hn (fun hj => ?_)⟩⟩⟩, fun h => ⟨c, rfl, by omega, fun _ => ⟨fun e => ⟨a, rfl, by omega, Or.inr rfl, hy (Or.inl (hab a2 b2 e))⟩, fun e => ⟨fun _ => ⟨a, rfl, by omega, Or.inr rfl, hy (Or.inr (fun hp => ?_))⟩, fun h2 => absurd h2 h⟩⟩, fun h2 => absurd (by rw [j3]; exact congrArg nI hf) h2⟩⟩
    · rcases hj with hj | hj
      · exact e (congrArg nI hj)
      · exact hj (hm.mpr ⟨0, hab c2 a2 h⟩)
    · obtain ⟨m, e2⟩ := hm.mp hp
      rw [it_fix hf] at e2
      exact h (congrArg nI e2)
  | succ n ih =>
    intro c c1 c2 hf hm hc
    obtain ⟨j1, j2, j3, j4⟩ := hL.J c1 c2
    refine vc_M_join_23 _ _ _ ⟨fun h => ⟨fun e => ⟨a, rfl, by omega, Or.inr rfl, hy (Or.inl (hab a2 b2 e))⟩, fun e => ⟨fun h2 => absurd h h2, fun _ => ⟨Or.inl rfl, hn (fun hj => ?_)⟩⟩⟩, fun h => ⟨c, rfl, by omega, fun h3 => ⟨fun e => ⟨a, rfl, by omega, Or.inr rfl, hy (Or.inl (hab a2 b2 e))⟩, fun e => ⟨fun _ => ⟨a, rfl, by omega, Or.inr rfl, hy (Or.inr (fun hp => ?_))⟩, fun h2 => absurd h2 h⟩⟩, fun h2 => ⟨c, rfl, by omega, ?_⟩⟩⟩
    · rcases hj with hj | hj
      · exact e (congrArg nI hj)
      · exact hj (hm.mpr ⟨0, hab c2 a2 h⟩)
    · rw [j3] at h3
      have e3 := hab j2 c2 h3
      obtain ⟨m, e2⟩ := hm.mp hp
      rw [it_fix e3] at e2
      exact h (congrArg nI e2)
    · rw [j3]
      refine ih (Jn w c) j1 j2 hf (hm.trans ⟨fun ⟨m, e⟩ => ?_, fun ⟨m, e⟩ => ⟨m + 1, e⟩⟩) (fun e => absurd (congrArg nI ((hc e).trans e.symm)) h)
      cases m with
      | zero => exact absurd (congrArg nI e) h
      | succ m => exact ⟨m, e⟩
theorem c_M_join {d : Nat} {w : Wd} (hL : LexI w) (x y : Int32) : EvI m_M_join (d + 1) [.ref 58, .int x, .int y] w (fun r w' => (r = 0 ∧ w' = up1 w 58 0 (nI 0) ∧ ¬ (∃ a b, 1 ≤ a ∧ a ≤ 100 ∧ 1 ≤ b ∧ b ≤ 100 ∧ x = nI a ∧ y = nI b ∧ joinOK w a b)) ∨ (r = 1 ∧ ∃ a b, 1 ≤ a ∧ a ≤ 100 ∧ 1 ≤ b ∧ b ≤ 100 ∧ x = nI a ∧ y = nI b ∧ joinOK w a b ∧ w' = up1 (up1 w 58 0 (nI 0)) 77 a (nI b))) := by
  refine ev_M_join x y (vc_M_join_0 x y ⟨_, c_M_isOne x, ?_⟩)
  rintro r w1 ⟨rfl, hr⟩
  refine ⟨fun h => ⟨Or.inl rfl, Or.inl ⟨rfl, rfl, fun ⟨a, b, a1, a2, b1, b2, e, _⟩ => hr.z h (by rw [e]; exact isW_nI a1 a2)⟩⟩, fun h => ⟨_, c_M_isOne y, ?_⟩⟩
  rintro r2 w2 ⟨rfl, hr2⟩
  refine ⟨fun h2 => ?_, fun h2 => ⟨Or.inl rfl, Or.inl ⟨rfl, rfl, fun ⟨a, b, a1, a2, b1, b2, e, e2, _⟩ => hr2.z h2 (by rw [e2]; exact isW_nI b1 b2)⟩⟩⟩
  obtain ⟨a, a1, a2, rfl⟩ := isW_of (hr.n h)
  obtain ⟨b, b1, b2, rfl⟩ := isW_of (hr2.n h2)
  have hL2 : LexI (up1 w 58 0 (nI 0)) := hL.mv rfl rfl rfl rfl
  refine z_M_join hL2 a1 a2 b1 b2 (fun hj => Or.inr ⟨rfl, a, b, a1, a2, b1, b2, rfl, rfl, hj, rfl⟩) (fun hj => Or.inl ⟨rfl, rfl, ?_⟩) 100 b b1 b2 (hL2.stay b1 b2) Iff.rfl (fun _ => rfl)
  rintro ⟨a', b', c1, c2, c3, c4, e1, e2, hj'⟩
  have ea := nI_inj (by omega) (by omega) e1
  have eb := nI_inj (by omega) (by omega) e2
  subst ea
  subst eb
  exact hj hj'
theorem c_M_fits {d : Nat} {w : Wd} (kd nb : Int32) {v : Nat} (hk : kd = nI 0 ∨ kd = nI 1 ∨ kd = nI 2) (h1 : 1 ≤ v) (h2 : v ≤ 100) : EvI m_M_fits d [.ref 58, .int kd, .int nb, .int (nI v)] w (fun r w' => w' = w ∧ Bo (fitP w kd nb v) r) := by
  refine ev_M_fits _ _ _ (vc_M_fits_0 _ _ _ ?_)
  rcases hk with rfl | rfl | rfl
  · refine ⟨fun h => absurd h (by decide), fun _ => ⟨fun h => absurd rfl h, fun _ => ⟨fun h => ⟨Or.inl rfl, rfl, Bo.f ?_⟩, fun h => ⟨Or.inr rfl, rfl, Bo.t (Or.inl ⟨rfl, h⟩)⟩⟩⟩⟩
    rintro (⟨-, g⟩ | ⟨g, -⟩ | ⟨g, -⟩)
    · exact h g
    · exact absurd g (by decide)
    · exact g rfl
  · refine ⟨fun h => absurd h (by decide), fun _ => ⟨fun _ => ⟨v, rfl, by omega, fun h => ⟨Or.inl rfl, rfl, Bo.f ?_⟩, fun h => ⟨Or.inr rfl, rfl, Bo.t (Or.inr (Or.inl ⟨rfl, h⟩))⟩⟩, fun h => absurd h (by decide)⟩⟩
    rintro (⟨g, -⟩ | ⟨-, g⟩ | ⟨-, g⟩)
    · exact absurd g (by decide)
    · exact h g
    · exact g rfl
  · exact ⟨fun _ => ⟨Or.inr rfl, rfl, Bo.t (Or.inr (Or.inr ⟨by decide, by decide⟩))⟩, fun h => absurd rfl h⟩
end
section
/-! SENTENCES, of the class and of the reference -/
def N (w : Wd) (a k : Nat) : Nat := (w.1 a k).toNatClampNeg
theorem N_of {w : Wd} {a k n : Nat} (h : w.1 a k = nI n) (hn : n < 2147483648 := by omega) : N w a k = n := by
  unfold N
  rw [h]
  exact nI_clamp hn
theorem N_cg {w w' : Wd} {a k : Nat} (h : w'.1 a k = w.1 a k) : N w' a k = N w a k := by unfold N; rw [h]
/-- how many of the first n -/
def ct (p : Nat → Bool) : Nat → Nat
  | 0 => 0
  | n + 1 => ct p n + (if p n then 1 else 0)
theorem ct_le (p : Nat → Bool) : ∀ n, ct p n ≤ n
  | 0 => Nat.le_refl 0
  | n + 1 => by
    have := ct_le p n
    unfold ct
    split <;> omega
theorem ct_cong {p q : Nat → Bool} : ∀ {n : Nat}, (∀ k, k < n → p k = q k) → ct p n = ct q n
  | 0, _ => rfl
  | n + 1, h => by
    unfold ct
    rw [ct_cong (fun k hk => h k (by omega)), h n (by omega)]
theorem ct_off {p q : Nat → Bool} {i : Nat} (hp : p i = true) (hq : q i = false) : ∀ {n : Nat}, i < n → (∀ k, k < n → k ≠ i → q k = p k) → ct q n + 1 = ct p n
  | 0, hi, _ => absurd hi (Nat.not_lt_zero i)
  | n + 1, hi, h => by
    unfold ct
    by_cases e : i = n
    · subst e
      rw [hp, hq, ct_cong (p := q) (q := p) (fun k hk => h k (by omega) (by omega))]
      simp
    · have := ct_off hp hq (n := n) (by omega) (fun k hk hne => h k (by omega) hne)
      rw [h n (by omega) (by omega)]
      omega
abbrev td (w : Wd) : Nat := N w 58 28
abbrev cm (w : Wd) : Nat := N w 58 30
abbrev len (w : Wd) (s : Nat) : Nat := N w 79 s
abbrev wrd (w : Wd) (s p : Nat) : Nat := N w 80 (16 * s + p)
/-- sentence s is there -/
abbrev thr (w : Wd) (s : Nat) : Prop := w.1 81 s = 0
def SenI (w : Wd) : Prop :=
  (td w ≤ 16 ∧ w.1 58 28 = nI (td w) ∧ w.1 3 4 = nI (td w)) ∧ (∀ p, p < td w → 1 ≤ N w 78 p ∧ N w 78 p ≤ 100 ∧ w.1 78 p = nI (N w 78 p) ∧ w.1 7 p = nI (N w 78 p)) ∧
  (cm w ≤ 40 ∧ w.1 58 30 = nI (cm w) ∧ w.1 3 5 = nI (cm w)) ∧
  (∀ s, s < cm w → 1 ≤ len w s ∧ len w s ≤ 16 ∧ w.1 79 s = nI (len w s) ∧ w.1 5 s = nI (len w s)) ∧
  (∀ s, s < cm w → ∀ p, p < len w s → 1 ≤ wrd w s p ∧ wrd w s p ≤ 100 ∧ w.1 80 (16 * s + p) = nI (wrd w s p) ∧ w.1 4 (16 * s + p) = nI (wrd w s p)) ∧
  (∀ s, s < cm w → (w.1 81 s = 0 ∧ w.1 6 s = 1) ∨ (w.1 81 s = 1 ∧ w.1 6 s = 0)) ∧ (∀ s, cm w ≤ s → w.1 81 s = 0) ∧
  w.1 3 6 = nI (ct (fun s => decide (w.1 81 s = 0)) (cm w))
theorem SenI.mv {w w' : Wd} (h : SenI w) (e1 : w'.1 58 28 = w.1 58 28) (e2 : w'.1 58 30 = w.1 58 30) (e3 : w'.1 3 = w.1 3) (e4 : w'.1 4 = w.1 4) (e5 : w'.1 5 = w.1 5) (e6 : w'.1 6 = w.1 6) (e7 : w'.1 7 = w.1 7) (e8 : w'.1 78 = w.1 78) (e9 : w'.1 79 = w.1 79) (e10 : w'.1 80 = w.1 80) (e11 : w'.1 81 = w.1 81) : SenI w' := by
  unfold SenI td cm len wrd N at *
  rw [e1, e2, e3, e4, e5, e6, e7, e8, e9, e10, e11]
  exact h
/-- x is the number of a sentence that is there -/
def isT (w : Wd) (x : Int32) : Prop := ∃ s, s < cm w ∧ x = nI s ∧ thr w s
theorem lt0 {x : Int32} (h : x < 0) : x.toInt < 0 := by
  rw [i_lt, i_z] at h
  exact h
theorem nlt0 {x : Int32} (h : ¬ x < 0) : 0 ≤ x.toInt := by
  rw [i_lt, i_z] at h
  omega
theorem le_nI {n : Nat} {x : Int32} (hn : n < 2147483648 := by omega) : nI n ≤ x ↔ (n : Int) ≤ x.toInt := by rw [i_le, nI_toInt hn]
theorem nI_le' {n : Nat} {x : Int32} (hn : n < 2147483648 := by omega) : x ≤ nI n ↔ x.toInt ≤ (n : Int) := by rw [i_le, nI_toInt hn]
theorem lt_nI {n : Nat} {x : Int32} (hn : n < 2147483648 := by omega) : x < nI n ↔ x.toInt < (n : Int) := by rw [i_lt, nI_toInt hn]
theorem nI_lt' {n : Nat} {x : Int32} (hn : n < 2147483648 := by omega) : nI n < x ↔ (n : Int) < x.toInt := by rw [i_lt, nI_toInt hn]
theorem c_Sentences_tell {d : Nat} {w : Wd} (h : SenI w) (x : Int32) : EvI m_Sentences_tell d [.ref 3, .int x] w (fun r w' => (td w < 16 ∧ r = nI (td w + 1) ∧ w' = up1 (up1 w 7 (td w) x) 3 4 (nI (td w + 1))) ∨ (td w = 16 ∧ r = -nI 1 ∧ w' = w)) := by
  obtain ⟨⟨h1, h2, h3⟩, -⟩ := h
  refine ev_Sentences_tell x (vc_Sentences_tell_0 x ?_)
  rw [h3, nI_add]
  refine ⟨fun h => ⟨td w, rfl, ?_, Or.inl ⟨?_, rfl, rfl⟩⟩, fun h => Or.inr ⟨?_, rfl, rfl⟩⟩
  all_goals (rw [nI_ltI (by omega) (by decide)] at h; omega)
theorem c_Sentences_isThere {d : Nat} {w : Wd} (h : SenI w) (x : Int32) : EvI m_Sentences_isThere d [.ref 3, .int x] w (fun r w' => w' = w ∧ Bo (isT w x) r) := by
  obtain ⟨-, -, ⟨h1, h2, h3⟩, -, -, h4, -, -⟩ := h
  refine ev_Sentences_isThere x (vc_Sentences_isThere_0 x ?_)
  rw [h3]
  refine ⟨fun g => ⟨Or.inl rfl, rfl, Bo.f ?_⟩, fun g => ⟨fun g2 => ⟨Or.inl rfl, rfl, Bo.f ?_⟩, fun g2 => ?_⟩⟩
  · rintro ⟨s, a, rfl, -⟩
    have := lt0 g
    rw [nI_toInt (by omega)] at this
    omega
  · rintro ⟨s, a, rfl, -⟩
    rw [nI_leI (by omega) (by omega)] at g2
    omega
  · rw [le_nI] at g2
    obtain ⟨s, -, rfl, e⟩ := i_nat (nlt0 g)
    refine ⟨s, rfl, by omega, fun g3 => ⟨Or.inl rfl, rfl, Bo.f ?_⟩, fun g3 => ⟨Or.inr rfl, rfl, Bo.t ⟨s, by omega, rfl, ?_⟩⟩⟩
    · rintro ⟨s', a, e', b⟩
      have := nI_inj (by omega) (by omega) e'
      subst this
      rcases h4 s a with ⟨-, k⟩ | ⟨k, -⟩
      · rw [g3] at k; exact absurd k (by decide)
      · rw [b] at k; exact absurd k (by decide)
    · rcases h4 s (by omega) with ⟨k, -⟩ | ⟨-, k⟩
      · exact k
      · exact absurd k g3
theorem c_M_isThere {d : Nat} {w : Wd} (h : SenI w) (x : Int32) : EvI m_M_isThere d [.ref 58, .int x] w (fun r w' => w' = w ∧ Bo (isT w x) r) := by
  obtain ⟨-, -, ⟨h1, h2, h3⟩, -, -, h4, -, -⟩ := h
  refine ev_M_isThere x (vc_M_isThere_0 x ?_)
  rw [h2]
  refine ⟨fun g => ⟨Or.inl rfl, rfl, Bo.f ?_⟩, fun g => ⟨fun g2 => ⟨Or.inl rfl, rfl, Bo.f ?_⟩, fun g2 => ?_⟩⟩
  · rintro ⟨s, a, rfl, -⟩
    have := lt0 g
    rw [nI_toInt (by omega)] at this
    omega
  · rintro ⟨s, a, rfl, -⟩
    rw [nI_leI (by omega) (by omega)] at g2
    omega
  · rw [le_nI] at g2
    obtain ⟨s, -, rfl, e⟩ := i_nat (nlt0 g)
    refine ⟨s, rfl, by omega, fun g3 => ⟨Or.inl rfl, rfl, Bo.f ?_⟩, fun g3 => ⟨Or.inr rfl, rfl, Bo.t ⟨s, by omega, rfl, g3⟩⟩⟩
    rintro ⟨s', a, e', b⟩
    have := nI_inj (by omega) (by omega) e'
    subst this
    exact g3 b
theorem c_Sentences_lengthOf {d : Nat} {w : Wd} (h : SenI w) {s : Nat} (hs : s < cm w) : EvI m_Sentences_lengthOf d [.ref 3, .int (nI s)] w (fun r w' => w' = w ∧ r = nI (len w s)) := by
  obtain ⟨-, -, ⟨h1, h2, h3⟩, h4, -⟩ := h
  refine ev_Sentences_lengthOf _ (vc_Sentences_lengthOf_0 _ ?_)
  rw [h3]
  refine ⟨fun g => absurd (lt0 g) (by rw [nI_toInt (by omega)]; omega), fun g => ⟨fun g2 => ?_, fun g2 => ⟨s, rfl, by omega, rfl, (h4 s hs).2.2.2⟩⟩⟩
  rw [nI_leI (by omega) (by omega)] at g2
  omega
theorem c_Sentences_wordAt {d : Nat} {w : Wd} (h : SenI w) {s p : Nat} (hs : s < cm w) (hp : p < len w s) : EvI m_Sentences_wordAt d [.ref 3, .int (nI s), .int (nI p)] w (fun r w' => w' = w ∧ r = nI (wrd w s p)) := by
  obtain ⟨-, -, ⟨h1, h2, h3⟩, h4, h5, -⟩ := h
  obtain ⟨l1, l2, l3, l4⟩ := h4 s hs
  refine ev_Sentences_wordAt _ _ (vc_Sentences_wordAt_0 _ _ ?_)
  rw [h3]
  refine ⟨fun g => absurd (lt0 g) (by rw [nI_toInt (by omega)]; omega), fun g => ⟨fun g2 => ?_, fun g2 => ⟨fun g3 => absurd (lt0 g3) (by rw [nI_toInt (by omega)]; omega), fun g3 => ⟨s, rfl, by omega, fun g4 => ?_, fun g4 => ⟨fun g5 => absurd g5 (by decide), fun g5 => ⟨16 * s + p, ?_, by omega, rfl, (h5 s hs p hp).2.2.2⟩⟩⟩⟩⟩⟩
  · rw [nI_leI (by omega) (by omega)] at g2
    omega
  · rw [l4, nI_leI (by omega) (by omega)] at g4
    omega
  · rw [pk_mul, nI_add, Nat.mul_comm]
end
section
/-! THE BOOK, as the reference holds it; and the class's -/
theorem sh_ok : ∀ k, k < 32 → ((nI k &&& 31).toBitVec.smod 32).toNat = k := by decide
theorem shr_nI {n k : Nat} (hn : n < 2147483648) (hk : k < 32) : nI n >>> (nI k &&& 31) = nI (n / 2 ^ k) := pk_shrN hn _ k (sh_ok k hk)
theorem shl_nI {n k : Nat} (hk : k < 32) (h : n * 2 ^ k < 4294967296) : nI n <<< (nI k &&& 31) = nI (n * 2 ^ k) := pk_shlN _ k (sh_ok k hk) h
theorem and1_nI {n : Nat} (hn : n < 4294967296) : nI n &&& nI 1 = nI (n % 2) := pk_andN hn 1 (by decide)
theorem tb_iff (n k : Nat) : n.testBit k = true ↔ n / 2 ^ k % 2 = 1 := by
  rw [Nat.testBit_eq_decide_div_mod_eq, decide_eq_true_eq]
theorem bit_nI {n k : Nat} (hn : n < 2147483648) (hk : k < 32) : ((nI n >>> (nI k &&& 31)) &&& nI 1) = 0 ↔ ¬ n.testBit k = true := by
  have h1 : n / 2 ^ k < 2147483648 := Nat.lt_of_le_of_lt (Nat.div_le_self _ _) hn
  rw [shr_nI hn hk, and1_nI (by omega), tb_iff, ← nI_0, nI_eq (by omega) (by decide)]
  omega
theorem or_nI (a b : Nat) : nI a ||| nI b = nI (a ||| b) := Int32.toBitVec_inj.mp (by simp [nI])
theorem and_nI (a b : Nat) : nI a &&& nI b = nI (a &&& b) := Int32.toBitVec_inj.mp (by simp [nI])
theorem or_lt {a b k : Nat} (ha : a < 2 ^ k) (hb : b < 2 ^ k) : a ||| b < 2 ^ k := Nat.or_lt_two_pow ha hb
theorem and_lt {a b k : Nat} (ha : a < 2 ^ k) : a &&& b < 2 ^ k := Nat.lt_of_le_of_lt Nat.and_le_left ha
abbrev hl (w : Wd) : Nat := N w 58 10
abbrev nr (w : Wd) : Nat := N w 64 (hl w)
abbrev rl (w : Wd) (r : Nat) : Nat := N w 65 (12 * hl w + r)
abbrev ni (w : Wd) (r : Nat) : Nat := N w 66 (12 * hl w + r)
abbrev ix (w : Wd) (r i : Nat) : Nat := 10 * (12 * hl w + r) + i
abbrev nbr (w : Wd) : Nat := N w 71 (hl w)
abbrev nch (w : Wd) : Nat := N w 73 (hl w)
abbrev chn (w : Wd) (c j : Nat) : Nat := N w 74 (3 * (6 * hl w + c) + j)
/-- one item, on both sides; a, b: the places of left and right -/
def ItI (w : Wd) (r a b i : Nat) : Prop :=
  (w.1 67 (ix w r i) = 1 ∧ w.1 30 (10 * r + i) = nI 3 ∧ w.1 68 (ix w r i) = nI 0 ∧ i ≠ a ∧ i ≠ b) ∨
  (w.1 67 (ix w r i) = 0 ∧ w.1 30 (10 * r + i) = w.1 69 (ix w r i) ∧ w.1 31 (10 * r + i) = w.1 70 (ix w r i) ∧ (w.1 69 (ix w r i) = nI 0 ∨ w.1 69 (ix w r i) = nI 1 ∨ w.1 69 (ix w r i) = nI 2) ∧ w.1 68 (ix w r i) = nI (if i = a then 1 else if i = b then 2 else 0))
def RuI (w : Wd) (r : Nat) : Prop :=
  (rl w r < 10 ∧ w.1 65 (12 * hl w + r) = nI (rl w r) ∧ w.1 26 r = nI (rl w r)) ∧ (ni w r ≤ 10 ∧ w.1 66 (12 * hl w + r) = nI (ni w r) ∧ w.1 27 r = nI (ni w r)) ∧
  ∃ a b, a < ni w r ∧ b < ni w r ∧ a ≠ b ∧ w.1 28 r = nI a ∧ w.1 29 r = nI b ∧ ∀ i, i < ni w r → ItI w r a b i
def BkI (w : Wd) : Prop :=
  (hl w < 2 ∧ w.1 58 10 = nI (hl w)) ∧ (nr w ≤ 12 ∧ w.1 64 (hl w) = nI (nr w) ∧ w.1 25 0 = nI (nr w)) ∧ (∀ r, r < nr w → RuI w r) ∧
  (nbr w ≤ 10 ∧ w.1 71 (hl w) = nI (nbr w) ∧ w.1 25 7 = nI (nbr w)) ∧ (∀ b, b < nbr w → w.1 32 b = w.1 72 (10 * hl w + b)) ∧
  (nch w ≤ 6 ∧ w.1 73 (hl w) = nI (nch w) ∧ w.1 25 9 = nI (nch w)) ∧ (∀ c, c < nch w → ∀ j, j < 3 → chn w c j < 10 ∧ w.1 74 (3 * (6 * hl w + c) + j) = nI (chn w c j) ∧ w.1 (33 + j) c = nI (chn w c j)) ∧
  ∃ sg, sg < 1024 ∧ w.1 25 13 = nI sg ∧ ∀ r, r < 10 → (w.1 75 (10 * hl w + r) = 1 ∧ sg.testBit r = true) ∨ (w.1 75 (10 * hl w + r) = 0 ∧ sg.testBit r = false)
theorem BkI.mv {w w' : Wd} (h : BkI w) (e0 : w'.1 58 10 = w.1 58 10) (e1 : w'.1 25 0 = w.1 25 0) (e1' : w'.1 25 7 = w.1 25 7) (e1'' : w'.1 25 9 = w.1 25 9) (e1''' : w'.1 25 13 = w.1 25 13) (e : ∀ a, (26 ≤ a ∧ a ≤ 35) ∨ (64 ≤ a ∧ a ≤ 75) → w'.1 a = w.1 a) : BkI w' := by
  have c26 := e 26 (by omega)
  have c27 := e 27 (by omega)
  have c28 := e 28 (by omega)
  have c29 := e 29 (by omega)
  have c30 := e 30 (by omega)
  have c31 := e 31 (by omega)
  have c32 := e 32 (by omega)
  have c33 : ∀ j, j < 3 → w'.1 (33 + j) = w.1 (33 + j) := fun j hj => e (33 + j) (by omega)
  have c64 := e 64 (by omega)
  have c65 := e 65 (by omega)
  have c66 := e 66 (by omega)
  have c67 := e 67 (by omega)
  have c68 := e 68 (by omega)
  have c69 := e 69 (by omega)
  have c70 := e 70 (by omega)
  have c71 := e 71 (by omega)
  have c72 := e 72 (by omega)
  have c73 := e 73 (by omega)
  have c74 := e 74 (by omega)
  have c75 := e 75 (by omega)
  unfold BkI RuI ItI ix rl ni nbr nch chn nr hl N at *
  rw [e0, e1, e1', e1'', e1''', c26, c27, c28, c29, c30, c31, c32, c64, c65, c66, c67, c68, c69, c70, c71, c72, c73, c74, c75]
  obtain ⟨q1, q2, q3, q4, q5, q6, q7, q8⟩ := h
  exact ⟨q1, q2, q3, q4, q5, q6, fun c hc j hj => by rw [c33 j hj]; exact q7 c hc j hj, q8⟩
/-- x is a number of a relation -/
def isRl (x : Int32) : Prop := 0 ≤ x.toInt ∧ x.toInt < 10
theorem isRl_of {x : Int32} (h : isRl x) : ∃ r, r < 10 ∧ x = nI r := by
  obtain ⟨k, -, e, hk⟩ := i_nat h.1
  exact ⟨k, by have := h.2; omega, e⟩
theorem isRl_nI {r : Nat} (h : r < 10) : isRl (nI r) := by
  unfold isRl
  rw [nI_toInt (by omega)]
  omega
theorem c_isRelation {d : Nat} {w : Wd} (x : Int32) : EvI m_D_isRelation d [.int x] w (fun r w' => w' = w ∧ Bo (isRl x) r) := by
  refine ev_D_isRelation x (vc_D_isRelation_0 x ⟨fun g => ⟨Or.inl rfl, rfl, Bo.f (fun e => ?_)⟩, fun g => ⟨fun g2 => ⟨Or.inl rfl, rfl, Bo.f (fun e => ?_)⟩, fun g2 => ⟨Or.inr rfl, rfl, Bo.t ⟨nlt0 g, ?_⟩⟩⟩⟩)
  · have := lt0 g; have := e.1; omega
  · rw [le_nI (by decide)] at g2; have := e.2; omega
  · rw [le_nI (by decide)] at g2; omega
theorem c_M_isR {d : Nat} {w : Wd} (x : Int32) : EvI m_M_isR d [.int x] w (fun r w' => w' = w ∧ Bo (isRl x) r) := by
  refine ev_M_isR x (vc_M_isR_0 x ⟨fun g => ⟨Or.inl rfl, rfl, Bo.f (fun e => ?_)⟩, fun g => ⟨fun g2 => ⟨Or.inl rfl, rfl, Bo.f (fun e => ?_)⟩, fun g2 => ⟨Or.inr rfl, rfl, Bo.t ⟨nlt0 g, ?_⟩⟩⟩⟩)
  · have := lt0 g; have := e.1; omega
  · rw [nI_lt' (by decide)] at g2; have := e.2; omega
  · rw [nI_lt' (by decide)] at g2; omega
theorem c_Book_rules {d : Nat} {w : Wd} (h : BkI w) : EvI m_Book_rules d [.ref 25] w (fun r w' => w' = w ∧ r = nI (nr w)) := ev_Book_rules (vc_Book_rules_0 ⟨rfl, h.2.1.2.2⟩)
theorem c_Book_bars {d : Nat} {w : Wd} (h : BkI w) : EvI m_Book_bars d [.ref 25] w (fun r w' => w' = w ∧ r = nI (nbr w)) := ev_Book_bars (vc_Book_bars_0 ⟨rfl, h.2.2.2.1.2.2⟩)
theorem c_Book_chains {d : Nat} {w : Wd} (h : BkI w) : EvI m_Book_chains d [.ref 25] w (fun r w' => w' = w ∧ r = nI (nch w)) := ev_Book_chains (vc_Book_chains_0 ⟨rfl, h.2.2.2.2.2.1.2.2⟩)
/-- x is the number of a rule -/
def isRu (w : Wd) (x : Int32) : Prop := 0 ≤ x.toInt ∧ x.toInt < nr w
theorem isRu_of {w : Wd} {x : Int32} (h : isRu w x) : ∃ r, r < nr w ∧ x = nI r := by
  obtain ⟨k, -, e, hk⟩ := i_nat h.1
  exact ⟨k, by have := h.2; omega, e⟩
theorem isRu_nI {w : Wd} (hB : BkI w) {r : Nat} (h : r < nr w) : isRu w (nI r) := by
  have := hB.2.1.1
  unfold isRu
  rw [nI_toInt (by omega)]
  omega
theorem c_Book_hasRule {d : Nat} {w : Wd} (h : BkI w) (x : Int32) : EvI m_Book_hasRule d [.ref 25, .int x] w (fun r w' => w' = w ∧ Bo (isRu w x) r) := by
  have hn := h.2.1.1
  refine ev_Book_hasRule x (vc_Book_hasRule_0 x ?_)
  rw [h.2.1.2.2]
  refine ⟨fun g => ⟨Or.inl rfl, rfl, Bo.f (fun e => ?_)⟩, fun g => ⟨fun g2 => ⟨Or.inl rfl, rfl, Bo.f (fun e => ?_)⟩, fun g2 => ⟨Or.inr rfl, rfl, Bo.t ⟨nlt0 g, ?_⟩⟩⟩⟩
  · have := lt0 g; have := e.1; omega
  · rw [le_nI] at g2; have := e.2; omega
  · rw [le_nI] at g2; omega
theorem c_Book_relationOf {d : Nat} {w : Wd} (h : BkI w) {r : Nat} (hr : r < nr w) : EvI m_Book_relationOf (d + 1) [.ref 25, .int (nI r)] w (fun x w' => w' = w ∧ x = nI (rl w r)) := by
  have hn := h.2.1.1
  refine ev_Book_relationOf _ (vc_Book_relationOf_0 _ ⟨_, c_Book_hasRule h _, ?_⟩)
  rintro x w1 ⟨rfl, hx⟩
  exact ⟨fun g => absurd (isRu_nI h hr) (hx.z g), fun _ => ⟨r, rfl, by omega, rfl, (h.2.2.1 r hr).1.2.2⟩⟩
theorem c_Book_itemsOf {d : Nat} {w : Wd} (h : BkI w) {r : Nat} (hr : r < nr w) : EvI m_Book_itemsOf (d + 1) [.ref 25, .int (nI r)] w (fun x w' => w' = w ∧ x = nI (ni w r)) := by
  have hn := h.2.1.1
  refine ev_Book_itemsOf _ (vc_Book_itemsOf_0 _ ⟨_, c_Book_hasRule h _, ?_⟩)
  rintro x w1 ⟨rfl, hx⟩
  exact ⟨fun g => absurd (isRu_nI h hr) (hx.z g), fun _ => ⟨r, rfl, by omega, rfl, (h.2.2.1 r hr).2.1.2.2⟩⟩
theorem c_Book_leftItem {d : Nat} {w : Wd} (h : BkI w) {r : Nat} (hr : r < nr w) : EvI m_Book_leftItem (d + 1) [.ref 25, .int (nI r)] w (fun x w' => w' = w ∧ x = w.1 28 r) := by
  have hn := h.2.1.1
  refine ev_Book_leftItem _ (vc_Book_leftItem_0 _ ⟨_, c_Book_hasRule h _, ?_⟩)
  rintro x w1 ⟨rfl, hx⟩
  exact ⟨fun g => absurd (isRu_nI h hr) (hx.z g), fun _ => ⟨r, rfl, by omega, rfl, rfl⟩⟩
theorem c_Book_rightItem {d : Nat} {w : Wd} (h : BkI w) {r : Nat} (hr : r < nr w) : EvI m_Book_rightItem (d + 1) [.ref 25, .int (nI r)] w (fun x w' => w' = w ∧ x = w.1 29 r) := by
  have hn := h.2.1.1
  refine ev_Book_rightItem _ (vc_Book_rightItem_0 _ ⟨_, c_Book_hasRule h _, ?_⟩)
  rintro x w1 ⟨rfl, hx⟩
  exact ⟨fun g => absurd (isRu_nI h hr) (hx.z g), fun _ => ⟨r, rfl, by omega, rfl, rfl⟩⟩
theorem c_Book_hasItem {d : Nat} {w : Wd} (h : BkI w) {r i : Nat} (hr : r < nr w) (hi : i < ni w r) : EvI m_Book_hasItem d [.ref 25, .int (nI r), .int (nI i)] w (fun x w' => w' = w ∧ x = 1) := by
  have hn := h.2.1.1
  obtain ⟨-, ⟨n1, n2, n3⟩, -⟩ := h.2.2.1 r hr
  refine ev_Book_hasItem _ _ (vc_Book_hasItem_0 _ _ ?_)
  rw [h.2.1.2.2]
  refine ⟨fun g => absurd (lt0 g) (by rw [nI_toInt (by omega)]; omega), fun g => ⟨fun g2 => ?_, fun g2 => ⟨fun g3 => absurd (lt0 g3) (by rw [nI_toInt (by omega)]; omega), fun g3 => ⟨r, rfl, by omega, fun g4 => ?_, fun g4 => ⟨Or.inr rfl, rfl, rfl⟩⟩⟩⟩⟩
  · rw [nI_leI (by omega) (by omega)] at g2; omega
  · rw [n3, nI_leI (by omega) (by omega)] at g4; omega
theorem c_Book_kindOf {d : Nat} {w : Wd} (h : BkI w) {r i : Nat} (hr : r < nr w) (hi : i < ni w r) : EvI m_Book_kindOf (d + 1) [.ref 25, .int (nI r), .int (nI i)] w (fun x w' => w' = w ∧ x = w.1 30 (10 * r + i)) := by
  have hn := h.2.1.1
  obtain ⟨-, ⟨n1, n2, n3⟩, -⟩ := h.2.2.1 r hr
  refine ev_Book_kindOf _ _ (vc_Book_kindOf_0 _ _ ⟨_, c_Book_hasItem h hr hi, ?_⟩)
  rintro x w1 ⟨rfl, rfl⟩
  exact ⟨fun g => absurd g (by decide), fun _ => ⟨10 * r + i, by rw [pk_mul, nI_add, Nat.mul_comm], by omega, rfl, rfl⟩⟩
theorem c_Book_numberOf {d : Nat} {w : Wd} (h : BkI w) {r i : Nat} (hr : r < nr w) (hi : i < ni w r) : EvI m_Book_numberOf (d + 1) [.ref 25, .int (nI r), .int (nI i)] w (fun x w' => w' = w ∧ x = w.1 31 (10 * r + i)) := by
  have hn := h.2.1.1
  obtain ⟨-, ⟨n1, n2, n3⟩, -⟩ := h.2.2.1 r hr
  refine ev_Book_numberOf _ _ (vc_Book_numberOf_0 _ _ ⟨_, c_Book_hasItem h hr hi, ?_⟩)
  rintro x w1 ⟨rfl, rfl⟩
  exact ⟨fun g => absurd g (by decide), fun _ => ⟨10 * r + i, by rw [pk_mul, nI_add, Nat.mul_comm], by omega, rfl, rfl⟩⟩
/-- a bar names x -/
def brd (w : Wd) (x : Int32) : Prop := ∃ b, b < nbr w ∧ w.1 72 (10 * hl w + b) = x
theorem z_Book_isBarred {d : Nat} {w : Wd} {Q : Int32 → Wd → Prop} {x : Int32} (h : BkI w) (hy : brd w x → Q 1 w) (hn : ¬ brd w x → Q 0 w) : ∀ (n b : Nat), b + n = nbr w → (∀ b', b' < b → ¬ w.1 72 (10 * hl w + b') = x) → Z m_Book_isBarred d (qI Q) 2 [(0, .ref 25), (1, .int x), (2, .int (nI b))] [] w := by
  have hb := h.2.2.2.1.1
  intro n
  induction n with
  | zero =>
    intro b hbn hno
    refine vc_Book_isBarred_2 _ _ ?_
    rw [h.2.2.2.1.2.2]
    refine ⟨fun _ => ⟨Or.inl rfl, hn (fun ⟨b', h1, h2⟩ => hno b' (by omega) h2)⟩, fun g => absurd ?_ g⟩
    rw [nI_leI (by omega) (by omega)]
    omega
  | succ n ih =>
    intro b hbn hno
    refine vc_Book_isBarred_2 _ _ ?_
    rw [h.2.2.2.1.2.2]
    refine ⟨fun g => ?_, fun g => ⟨fun g2 => ?_, fun _ => ⟨b, rfl, by omega, fun g3 => ?_, fun g3 => ⟨Or.inr rfl, hy ⟨b, by omega, ?_⟩⟩⟩⟩⟩
    · rw [nI_leI (by omega) (by omega)] at g; omega
    · rw [nI_leI (by omega) (by omega)] at g2; omega
    · rw [nI_add]
      refine ih (b + 1) (by omega) (fun b' hb' => ?_)
      by_cases e : b' = b
      · subst e
        rw [h.2.2.2.2.1 b' (by omega)] at g3
        exact g3
      · exact hno b' (by omega)
    · rw [← h.2.2.2.2.1 b (by omega)]
      exact g3
theorem c_Book_isBarred {d : Nat} {w : Wd} (h : BkI w) (x : Int32) : EvI m_Book_isBarred d [.ref 25, .int x] w (fun r w' => w' = w ∧ Bo (brd w x) r) :=
  ev_Book_isBarred x (vc_Book_isBarred_0 x (z_Book_isBarred h (fun a => ⟨rfl, Bo.t a⟩) (fun a => ⟨rfl, Bo.f a⟩) (nbr w) 0 (Nat.zero_add _) (fun b' hb' => absurd hb' (Nat.not_lt_zero _))))
theorem c_Book_chain {d : Nat} {w : Wd} (h : BkI w) {c : Nat} (hc : c < nch w) : EvI m_Book_chainGoal d [.ref 25, .int (nI c)] w (fun r w' => w' = w ∧ r = nI (chn w c 0)) ∧ EvI m_Book_chainFirst d [.ref 25, .int (nI c)] w (fun r w' => w' = w ∧ r = nI (chn w c 1)) ∧ EvI m_Book_chainSecond d [.ref 25, .int (nI c)] w (fun r w' => w' = w ∧ r = nI (chn w c 2)) := by
  have hn := h.2.2.2.2.2.1.1
  refine ⟨ev_Book_chainGoal _ (vc_Book_chainGoal_0 _ ?_), ev_Book_chainFirst _ (vc_Book_chainFirst_0 _ ?_), ev_Book_chainSecond _ (vc_Book_chainSecond_0 _ ?_)⟩
  all_goals rw [h.2.2.2.2.2.1.2.2]
  · refine ⟨fun g => absurd (lt0 g) (by rw [nI_toInt (by omega)]; omega), fun g => ⟨fun g2 => ?_, fun g2 => ⟨c, rfl, by omega, rfl, (h.2.2.2.2.2.2.1 c hc 0 (by omega)).2.2⟩⟩⟩
    rw [nI_leI (by omega) (by omega)] at g2; omega
  · refine ⟨fun g => absurd (lt0 g) (by rw [nI_toInt (by omega)]; omega), fun g => ⟨fun g2 => ?_, fun g2 => ⟨c, rfl, by omega, rfl, (h.2.2.2.2.2.2.1 c hc 1 (by omega)).2.2⟩⟩⟩
    rw [nI_leI (by omega) (by omega)] at g2; omega
  · refine ⟨fun g => absurd (lt0 g) (by rw [nI_toInt (by omega)]; omega), fun g => ⟨fun g2 => ?_, fun g2 => ⟨c, rfl, by omega, rfl, (h.2.2.2.2.2.2.1 c hc 2 (by omega)).2.2⟩⟩⟩
    rw [nI_leI (by omega) (by omega)] at g2; omega
/-- x is a single relation -/
def sgl (w : Wd) (x : Int32) : Prop := ∃ r, r < 10 ∧ x = nI r ∧ w.1 75 (10 * hl w + r) = 1
theorem c_Book_isSingle {d : Nat} {w : Wd} (h : BkI w) (x : Int32) : EvI m_Book_isSingle (d + 1) [.ref 25, .int x] w (fun r w' => w' = w ∧ Bo (sgl w x) r) := by
  obtain ⟨sg, s1, s2, s3⟩ := h.2.2.2.2.2.2.2
  refine ev_Book_isSingle x (vc_Book_isSingle_0 x ⟨_, c_isRelation x, ?_⟩)
  rintro r1 w1 ⟨rfl, hr⟩
  refine ⟨fun g => ⟨Or.inl rfl, rfl, Bo.f (fun ⟨r, a, e, _⟩ => hr.z g (by rw [e]; exact isRl_nI a))⟩, fun g => ?_⟩
  obtain ⟨r, hr2, rfl⟩ := isRl_of (hr.n g)
  rw [s2, bit_nI (by omega) (by omega)]
  refine ⟨fun g2 => ⟨Or.inl rfl, rfl, Bo.f (fun ⟨r', a, e, b⟩ => ?_)⟩, fun g2 => ⟨Or.inr rfl, rfl, Bo.t ⟨r, hr2, rfl, ?_⟩⟩⟩
  · have := nI_inj (by omega) (by omega) e
    subst this
    rcases s3 r hr2 with ⟨-, k⟩ | ⟨k, -⟩
    · exact g2 k
    · rw [b] at k; exact absurd k (by decide)
  · rcases s3 r hr2 with ⟨k, -⟩ | ⟨-, k⟩
    · exact k
    · exact absurd (by rw [k]; decide) g2
end
section
/-! MATCHING: what a find is, and its cut at left and right -/
abbrev sd (w : Wd) (r i : Nat) : Nat := N w 68 (ix w r i)
def fit (w : Wd) (s r i p : Nat) : Prop := fitP w (w.1 69 (ix w r i)) (w.1 70 (ix w r i)) (wrd w s p)
def St (w : Wd) (s r i p q : Nat) : Prop := (w.1 67 (ix w r i) = 1 ∧ p ≤ q ∧ q ≤ p + 3 ∧ q ≤ len w s) ∨ (¬ w.1 67 (ix w r i) = 1 ∧ p < len w s ∧ fit w s r i p ∧ q = p + 1)
theorem St.le {w : Wd} {s r i p q : Nat} (h : St w s r i p q) : q ≤ len w s := by
  rcases h with ⟨-, -, -, h⟩ | ⟨-, h, -, rfl⟩ <;> omega
def Go (w : Wd) (s r : Nat) : Nat → Nat → Nat → Nat → Prop
  | _, 0, p, q => p = q
  | i, m + 1, p, q => ∃ u, St w s r i p u ∧ Go w s r (i + 1) m u q
theorem Go.snoc {w : Wd} {s r : Nat} : ∀ (m i p q : Nat), Go w s r i (m + 1) p q ↔ ∃ u, Go w s r i m p u ∧ St w s r (i + m) u q
  | 0, i, p, q => by
    constructor
    · rintro ⟨u, h1, h2⟩
      have h2 : u = q := h2
      subst h2
      exact ⟨p, rfl, h1⟩
    · rintro ⟨u, h1, h2⟩
      have h1 : p = u := h1
      subst h1
      exact ⟨q, h2, rfl⟩
  | m + 1, i, p, q => by
    constructor
    · rintro ⟨u, h1, h2⟩
      obtain ⟨v, h3, h4⟩ := (Go.snoc m (i + 1) u q).mp h2
      exact ⟨v, ⟨u, h1, h3⟩, by rw [show i + (m + 1) = i + 1 + m by omega]; exact h4⟩
    · rintro ⟨v, ⟨u, h1, h3⟩, h4⟩
      exact ⟨u, h1, (Go.snoc m (i + 1) u q).mpr ⟨v, h3, by rw [show i + 1 + m = i + (m + 1) by omega]; exact h4⟩⟩
theorem Go.le {w : Wd} {s r : Nat} : ∀ {m i p q : Nat}, p ≤ len w s → Go w s r i m p q → q ≤ len w s
  | 0, _, _, _, hp, h => by have h : _ = _ := h; omega
  | _ + 1, _, _, _, _, ⟨_, h1, h2⟩ => Go.le h1.le h2
theorem Go.app {w : Wd} {s r : Nat} : ∀ {m i p q : Nat} {k z : Nat}, Go w s r i m p q → Go w s r (i + m) k q z → Go w s r i (m + k) p z
  | 0, i, p, q, k, z, h1, h2 => by
    have h1 : p = q := h1
    subst h1
    rw [Nat.zero_add]
    exact h2
  | m + 1, i, p, q, k, z, ⟨u, h1, h3⟩, h2 => by
    rw [show m + 1 + k = (m + k) + 1 by omega]
    exact ⟨u, h1, Go.app h3 (by rw [show i + 1 + m = i + (m + 1) by omega]; exact h2)⟩
theorem Go.cut {w : Wd} {s r : Nat} : ∀ {m i p z : Nat} {k : Nat}, Go w s r i (m + k) p z → ∃ q, Go w s r i m p q ∧ Go w s r (i + m) k q z
  | 0, i, p, z, k, h => ⟨p, rfl, by rw [Nat.zero_add] at h; exact h⟩
  | m + 1, i, p, z, k, h => by
    rw [show m + 1 + k = (m + k) + 1 by omega] at h
    obtain ⟨u, h1, h2⟩ := h
    obtain ⟨q, h3, h4⟩ := Go.cut h2
    exact ⟨q, ⟨u, h1, h3⟩, by rw [show i + (m + 1) = i + 1 + m by omega]; exact h4⟩
/-- the reference's table behind i items: at place p, with left l and right t (16: not yet) -/
def Rc (w : Wd) (s r : Nat) : Nat → Nat → Nat → Nat → Prop
  | 0, p, l, t => p ≤ len w s ∧ l = 16 ∧ t = 16
  | i + 1, q, l', t' => ∃ p l t, Rc w s r i p l t ∧ St w s r i p q ∧ l' = (if sd w r i = 1 then p else l) ∧ t' = (if sd w r i = 2 then p else t)
theorem Rc.le {w : Wd} {s r : Nat} : ∀ {i p l t : Nat}, Rc w s r i p l t → p ≤ len w s
  | 0, _, _, _, h => h.1
  | _ + 1, _, _, _, ⟨_, _, _, _, h, _⟩ => h.le
/-- sentence s, rule r, left l, right t: a find -/
def Fnd (w : Wd) (s r l t : Nat) : Prop := s < cm w ∧ thr w s ∧ r < nr w ∧ l < 16 ∧ t < 16 ∧ ∃ p, Rc w s r (ni w r) p l t
section
variable {w : Wd} {s r a b n : Nat}
/-- before the first of both -/
theorem Rc.lo (hs : ∀ i, i < n → sd w r i = if i = a then 1 else if i = b then 2 else 0) : ∀ (i p l t : Nat), i ≤ a → i ≤ b → i ≤ n → (Rc w s r i p l t ↔ l = 16 ∧ t = 16 ∧ ∃ p0, p0 ≤ len w s ∧ Go w s r 0 i p0 p)
  | 0, p, l, t, _, _, _ => ⟨fun h => ⟨h.2.1, h.2.2, p, h.1, rfl⟩, fun ⟨h1, h2, p0, h3, h4⟩ => ⟨by have h4 : p0 = p := h4; omega, h1, h2⟩⟩
  | i + 1, p, l, t, ha, hb, hn => by
    have e1 : ¬ sd w r i = 1 := by rw [hs i (by omega), if_neg (by omega), if_neg (by omega)]; decide
    have e2 : ¬ sd w r i = 2 := by rw [hs i (by omega), if_neg (by omega), if_neg (by omega)]; decide
    constructor
    · rintro ⟨q, l0, t0, h1, h2, h3, h4⟩
      rw [if_neg e1] at h3
      rw [if_neg e2] at h4
      obtain ⟨g1, g2, p0, g3, g4⟩ := (Rc.lo hs i q l0 t0 (by omega) (by omega) (by omega)).mp h1
      exact ⟨h3.trans g1, h4.trans g2, p0, g3, (Go.snoc i 0 p0 p).mpr ⟨q, g4, by rw [Nat.zero_add]; exact h2⟩⟩
    · rintro ⟨h1, h2, p0, h3, h4⟩
      obtain ⟨q, h5, h6⟩ := (Go.snoc i 0 p0 p).mp h4
      rw [Nat.zero_add] at h6
      exact ⟨q, 16, 16, (Rc.lo hs i q 16 16 (by omega) (by omega) (by omega)).mpr ⟨rfl, rfl, p0, h3, h5⟩, h6, by rw [if_neg e1]; exact h1, by rw [if_neg e2]; exact h2⟩
/-- from one state to a later one, with neither left nor right between -/
theorem Rc.run (hs : ∀ i, i < n → sd w r i = if i = a then 1 else if i = b then 2 else 0) (i : Nat) : ∀ (m p l t : Nat), (∀ j, i ≤ j → j < i + m → j ≠ a ∧ j ≠ b) → i + m ≤ n → (Rc w s r (i + m) p l t ↔ ∃ q, Rc w s r i q l t ∧ Go w s r i m q p)
  | 0, p, l, t, _, _ => ⟨fun h => ⟨p, h, rfl⟩, fun ⟨q, h1, h2⟩ => by have h2 : q = p := h2; subst h2; exact h1⟩
  | m + 1, p, l, t, hj, hn => by
    have e1 : ¬ sd w r (i + m) = 1 := by rw [hs (i + m) (by omega), if_neg (hj _ (by omega) (by omega)).1, if_neg (hj _ (by omega) (by omega)).2]; decide
    have e2 : ¬ sd w r (i + m) = 2 := by rw [hs (i + m) (by omega), if_neg (hj _ (by omega) (by omega)).1, if_neg (hj _ (by omega) (by omega)).2]; decide
    have ih := fun p l t => Rc.run hs i m p l t (fun j h1 h2 => hj j h1 (by omega)) (by omega)
    constructor
    · rintro ⟨q, l0, t0, h1, h2, h3, h4⟩
      have h3 : l = l0 := h3.trans (if_neg e1)
      have h4 : t = t0 := h4.trans (if_neg e2)
      subst h3
      subst h4
      obtain ⟨u, g1, g2⟩ := (ih q l t).mp h1
      exact ⟨u, g1, (Go.snoc m i u p).mpr ⟨q, g2, h2⟩⟩
    · rintro ⟨u, g1, g2⟩
      obtain ⟨q, g3, g4⟩ := (Go.snoc m i u p).mp g2
      exact ⟨q, l, t, (ih q l t).mpr ⟨u, g1, g3⟩, g4, (if_neg e1).symm, (if_neg e2).symm⟩
/-- THE CUT: a find, by the first and the second of left and right -/
theorem Rc.cut (hs : ∀ i, i < n → sd w r i = if i = a then 1 else if i = b then 2 else 0) (ha : a < n) (hb : b < n) (hab : a ≠ b) (hfix : ∀ i, i < n → (i = a ∨ i = b) → ¬ w.1 67 (ix w r i) = 1) {l t : Nat} (hl : l < 16) (ht : t < 16) :
    (∃ p, Rc w s r n p l t) ↔ ∃ u v, (if a < b then l = u ∧ t = v else l = v ∧ t = u) ∧ (∃ p0, p0 ≤ len w s ∧ Go w s r 0 (min a b) p0 u) ∧ u < len w s ∧ fit w s r (min a b) u ∧ Go w s r (min a b + 1) (max a b - min a b - 1) (u + 1) v ∧ v < len w s ∧ fit w s r (max a b) v ∧ ∃ z, z ≤ len w s ∧ Go w s r (max a b + 1) (n - max a b - 1) (v + 1) z := by
  rcases Nat.lt_or_gt_of_ne hab with h | h
  · have m1 : min a b = a := by omega
    have m2 : max a b = b := by omega
    rw [m1, m2]
    simp only [if_pos h]
    have sa : sd w r a = 1 := by rw [hs a ha, if_pos rfl]
    have sb : sd w r b = 2 := by rw [hs b hb, if_neg (by omega), if_pos rfl]
    have fa := hfix a ha (Or.inl rfl)
    have fb := hfix b hb (Or.inr rfl)
    constructor
    · rintro ⟨z, hz⟩
      have hz' : Rc w s r (b + 1 + (n - b - 1)) z l t := by rw [show b + 1 + (n - b - 1) = n by omega]; exact hz
      obtain ⟨v1, g1, g2⟩ := (Rc.run hs (b + 1) (n - b - 1) z l t (fun j h1 h2 => by omega) (by omega)).mp hz'
      obtain ⟨v, l0, t0, g3, g4, g5, g6⟩ := g1
      rw [if_neg (by rw [sb]; decide)] at g5
      rw [if_pos sb] at g6
      subst g5
      subst g6
      rcases g4 with ⟨k, -⟩ | ⟨-, k1, k2, k3⟩
      · exact absurd k fb
      subst k3
      have g3' : Rc w s r (a + 1 + (b - a - 1)) t l t0 := by rw [show a + 1 + (b - a - 1) = b by omega]; exact g3
      obtain ⟨u1, q1, q2⟩ := (Rc.run hs (a + 1) (b - a - 1) t l t0 (fun j h1 h2 => by omega) (by omega)).mp g3'
      obtain ⟨u, l1, t1, q3, q4, q5, q6⟩ := q1
      rw [if_pos sa] at q5
      subst q5
      rcases q4 with ⟨k, -⟩ | ⟨-, k4, k5, k6⟩
      · exact absurd k fa
      subst k6
      obtain ⟨-, -, p0, q7, q8⟩ := (Rc.lo hs a l l1 t1 (Nat.le_refl a) (by omega) (by omega)).mp q3
      exact ⟨l, t, ⟨rfl, rfl⟩, ⟨p0, q7, q8⟩, k4, k5, q2, k1, k2, z, Go.le (by omega) g2, g2⟩
    · rintro ⟨u, v, ⟨rfl, rfl⟩, ⟨p0, q7, q8⟩, k4, k5, q2, k1, k2, z, -, g2⟩
      refine ⟨z, ?_⟩
      rw [show n = b + 1 + (n - b - 1) by omega]
      refine (Rc.run hs (b + 1) (n - b - 1) z l t (fun j h1 h2 => by omega) (by omega)).mpr ⟨t + 1, ⟨t, l, 16, ?_, Or.inr ⟨fb, k1, k2, rfl⟩, by rw [if_neg (by rw [sb]; decide)], by rw [if_pos sb]⟩, g2⟩
      rw [show b = a + 1 + (b - a - 1) by omega]
      refine (Rc.run hs (a + 1) (b - a - 1) t l 16 (fun j h1 h2 => by omega) (by omega)).mpr ⟨l + 1, ⟨l, 16, 16, ?_, Or.inr ⟨fa, k4, k5, rfl⟩, by rw [if_pos sa], by rw [if_neg (by rw [sa]; decide)]⟩, q2⟩
      exact (Rc.lo hs a l 16 16 (Nat.le_refl a) (by omega) (by omega)).mpr ⟨rfl, rfl, p0, q7, q8⟩
  · have m1 : min a b = b := by omega
    have m2 : max a b = a := by omega
    rw [m1, m2]
    simp only [if_neg (show ¬ a < b by omega)]
    have sa : sd w r a = 1 := by rw [hs a ha, if_pos rfl]
    have sb : sd w r b = 2 := by rw [hs b hb, if_neg (by omega), if_pos rfl]
    have fa := hfix a ha (Or.inl rfl)
    have fb := hfix b hb (Or.inr rfl)
    constructor
    · rintro ⟨z, hz⟩
      have hz' : Rc w s r (a + 1 + (n - a - 1)) z l t := by rw [show a + 1 + (n - a - 1) = n by omega]; exact hz
      obtain ⟨v1, g1, g2⟩ := (Rc.run hs (a + 1) (n - a - 1) z l t (fun j h1 h2 => by omega) (by omega)).mp hz'
      obtain ⟨v, l0, t0, g3, g4, g5, g6⟩ := g1
      rw [if_pos sa] at g5
      rw [if_neg (by rw [sa]; decide)] at g6
      subst g5
      subst g6
      rcases g4 with ⟨k, -⟩ | ⟨-, k1, k2, k3⟩
      · exact absurd k fa
      subst k3
      have g3' : Rc w s r (b + 1 + (a - b - 1)) l l0 t := by rw [show b + 1 + (a - b - 1) = a by omega]; exact g3
      obtain ⟨u1, q1, q2⟩ := (Rc.run hs (b + 1) (a - b - 1) l l0 t (fun j h1 h2 => by omega) (by omega)).mp g3'
      obtain ⟨u, l1, t1, q3, q4, q5, q6⟩ := q1
      rw [if_pos sb] at q6
      subst q6
      rcases q4 with ⟨k, -⟩ | ⟨-, k4, k5, k6⟩
      · exact absurd k fb
      subst k6
      obtain ⟨-, -, p0, q7, q8⟩ := (Rc.lo hs b t l1 t1 (by omega) (Nat.le_refl b) (by omega)).mp q3
      exact ⟨t, l, ⟨rfl, rfl⟩, ⟨p0, q7, q8⟩, k4, k5, q2, k1, k2, z, Go.le (by omega) g2, g2⟩
    · rintro ⟨u, v, ⟨rfl, rfl⟩, ⟨p0, q7, q8⟩, k4, k5, q2, k1, k2, z, -, g2⟩
      refine ⟨z, ?_⟩
      rw [show n = a + 1 + (n - a - 1) by omega]
      refine (Rc.run hs (a + 1) (n - a - 1) z l t (fun j h1 h2 => by omega) (by omega)).mpr ⟨l + 1, ⟨l, 16, t, ?_, Or.inr ⟨fa, k1, k2, rfl⟩, by rw [if_pos sa], by rw [if_neg (by rw [sa]; decide)]⟩, g2⟩
      rw [show a = b + 1 + (a - b - 1) by omega]
      refine (Rc.run hs (b + 1) (a - b - 1) l 16 t (fun j h1 h2 => by omega) (by omega)).mpr ⟨t + 1, ⟨t, 16, 16, ?_, Or.inr ⟨fb, k4, k5, rfl⟩, by rw [if_neg (by rw [sb]; decide)], by rw [if_pos sb]⟩, q2⟩
      exact (Rc.lo hs b t 16 16 (by omega) (Nat.le_refl b) (by omega)).mpr ⟨rfl, rfl, p0, q7, q8⟩
end
end
section
/-! BITS: sets of places as numbers; how many bits a number has -/
theorem sub_nI {a b : Nat} (h : b ≤ a) : nI a - nI b = nI (a - b) := pk_sub h
theorem one_shl {k : Nat} (hk : k < 31) : nI 1 <<< (nI k &&& 31) = nI (2 ^ k) := by
  have h : 2 ^ k < 2 ^ 31 := Nat.pow_lt_pow_right (by decide) hk
  rw [shl_nI (by omega) (by omega), Nat.one_mul]
theorem tb_shl (n k q : Nat) : (n * 2 ^ k).testBit q = (decide (k ≤ q) && n.testBit (q - k)) := by
  rw [← Nat.shiftLeft_eq, Nat.testBit_shiftLeft]
theorem tb_shr (n k q : Nat) : (n / 2 ^ k).testBit q = n.testBit (k + q) := by
  rw [← Nat.shiftRight_eq_div_pow, Nat.testBit_shiftRight]
theorem tb_lt {n k q : Nat} (h : n < 2 ^ k) (hq : n.testBit q = true) : q < k := by
  by_cases hc : q < k
  · exact hc
  · rw [Nat.testBit_lt_two_pow (Nat.lt_of_lt_of_le h (Nat.pow_le_pow_right (by decide) (by omega)))] at hq
    cases hq
theorem tb_all (n q : Nat) : (2 ^ n - 1).testBit q = decide (q < n) := Nat.testBit_two_pow_sub_one n q
/-- a step over 'some' -/
theorem fw_some {a L q : Nat} : (((a ||| ((a * 2 ^ 1) ||| (a * 2 ^ 2)) ||| (a * 2 ^ 3)) &&& (2 ^ (L + 1) - 1)).testBit q = true) ↔ q ≤ L ∧ ∃ u, a.testBit u = true ∧ u ≤ q ∧ q ≤ u + 3 := by
  simp only [Nat.testBit_and, Nat.testBit_or, tb_shl, tb_all, Bool.and_eq_true, Bool.or_eq_true, decide_eq_true_eq]
  constructor
  · rintro ⟨h, hq⟩
    refine ⟨by omega, ?_⟩
    rcases h with (h | ⟨h1, h2⟩ | ⟨h1, h2⟩) | ⟨h1, h2⟩
    · exact ⟨q, h, by omega, by omega⟩
    · exact ⟨q - 1, h2, by omega, by omega⟩
    · exact ⟨q - 2, h2, by omega, by omega⟩
    · exact ⟨q - 3, h2, by omega, by omega⟩
  · rintro ⟨hq, u, h, h1, h2⟩
    refine ⟨?_, by omega⟩
    rcases (show u = q ∨ u = q - 1 ∧ 1 ≤ q ∨ u = q - 2 ∧ 2 ≤ q ∨ u = q - 3 ∧ 3 ≤ q by omega) with e | ⟨e, g⟩ | ⟨e, g⟩ | ⟨e, g⟩
    · subst e; exact Or.inl (Or.inl h)
    · subst e; exact Or.inl (Or.inr (Or.inl ⟨g, h⟩))
    · subst e; exact Or.inl (Or.inr (Or.inr ⟨g, h⟩))
    · subst e; exact Or.inr ⟨g, h⟩
theorem fw_spec {a f L q : Nat} : ((((a &&& f) * 2 ^ 1) &&& (2 ^ (L + 1) - 1)).testBit q = true) ↔ q ≤ L ∧ ∃ u, a.testBit u = true ∧ f.testBit u = true ∧ q = u + 1 := by
  simp only [Nat.testBit_and, tb_shl, tb_all, Bool.and_eq_true, decide_eq_true_eq]
  constructor
  · rintro ⟨⟨h1, h2, h3⟩, hq⟩
    exact ⟨by omega, q - 1, h2, h3, by omega⟩
  · rintro ⟨hq, u, h1, h2, rfl⟩
    exact ⟨⟨by omega, by simpa using h1, by simpa using h2⟩, by omega⟩
theorem bw_some {a q : Nat} : ((a ||| ((a / 2 ^ 1) ||| (a / 2 ^ 2)) ||| (a / 2 ^ 3)).testBit q = true) ↔ ∃ u, a.testBit u = true ∧ q ≤ u ∧ u ≤ q + 3 := by
  simp only [Nat.testBit_or, tb_shr, Bool.or_eq_true]
  constructor
  · rintro ((h | h | h) | h)
    · exact ⟨q, h, by omega, by omega⟩
    · exact ⟨_, h, by omega, by omega⟩
    · exact ⟨_, h, by omega, by omega⟩
    · exact ⟨_, h, by omega, by omega⟩
  · rintro ⟨u, h, h1, h2⟩
    rcases (show u = q ∨ u = 1 + q ∨ u = 2 + q ∨ u = 3 + q by omega) with e | e | e | e <;> subst e
    · exact Or.inl (Or.inl h)
    · exact Or.inl (Or.inr (Or.inl h))
    · exact Or.inl (Or.inr (Or.inr h))
    · exact Or.inr h
theorem bw_spec {a f q : Nat} : ((a / 2 ^ 1 &&& f).testBit q = true) ↔ a.testBit (q + 1) = true ∧ f.testBit q = true := by
  simp only [Nat.testBit_and, tb_shr, Bool.and_eq_true, Nat.add_comm 1 q]
/-! how many bits -/
def pcn (n c : Nat) : Nat := ct (fun q => c.testBit q) n
theorem pcn_le (n c : Nat) : pcn n c ≤ n := ct_le _ n
def sumN (f : Nat → Nat) : Nat → Nat
  | 0 => 0
  | n + 1 => sumN f n + f n
theorem sumN_cong {f g : Nat → Nat} : ∀ {n : Nat}, (∀ k, k < n → f k = g k) → sumN f n = sumN g n
  | 0, _ => rfl
  | n + 1, h => by rw [sumN, sumN, sumN_cong (fun k hk => h k (by omega)), h n (by omega)]
theorem sumN_le {f : Nat → Nat} {c : Nat} : ∀ {n : Nat}, (∀ k, k < n → f k ≤ c) → sumN f n ≤ n * c
  | 0, _ => by simp [sumN]
  | n + 1, h => by
    have h1 := sumN_le (n := n) (fun k hk => h k (by omega))
    have h2 := h n (by omega)
    rw [sumN, Nat.succ_mul]
    omega
theorem ct_add (p : Nat → Bool) (m : Nat) : ∀ n, ct p (m + n) = ct p m + ct (fun j => p (m + j)) n
  | 0 => rfl
  | n + 1 => by
    rw [← Nat.add_assoc, ct, ct, ct_add p m n, Nat.add_assoc]
theorem ct_mul (p : Nat → Bool) (n : Nat) : ∀ m, ct p (m * n) = sumN (fun i => ct (fun j => p (i * n + j)) n) m
  | 0 => by rw [Nat.zero_mul]; rfl
  | m + 1 => by rw [Nat.succ_mul, ct_add, ct_mul p n m, sumN]
theorem ct_zero {p : Nat → Bool} : ∀ {n : Nat}, (∀ k, k < n → p k = false) → ct p n = 0
  | 0, _ => rfl
  | n + 1, h => by
    rw [ct, ct_zero (fun k hk => h k (by omega)), h n (by omega)]
    rfl
theorem ct_none {p : Nat → Bool} : ∀ {n : Nat}, ct p n = 0 → ∀ k, k < n → p k = false
  | 0, _, k, hk => absurd hk (Nat.not_lt_zero k)
  | n + 1, h, k, hk => by
    rw [ct] at h
    by_cases e : k = n
    · subst e
      cases hp : p k with
      | false => rfl
      | true => rw [hp] at h; simp at h
    · exact ct_none (n := n) (by omega) k (by omega)
end
section
/-! HOW MANY BITS, by the JDK's way -/
def val : List Nat → Nat
  | [] => 0
  | b :: t => b + 256 * val t
theorem tb256 {q b i : Nat} (hb : b < 256) : (b + 256 * q).testBit i = if i < 8 then b.testBit i else q.testBit (i - 8) := by
  rw [Nat.add_comm, show (256 : Nat) = 2 ^ 8 from rfl, Nat.testBit_two_pow_mul_add q (show b < 2 ^ 8 from hb) i]
theorem and256 {q b m c : Nat} (hb : b < 256) (hc : c < 256) : (b + 256 * q) &&& (c + 256 * m) = (b &&& c) + 256 * (q &&& m) := by
  have h3 : b &&& c < 256 := Nat.lt_of_le_of_lt Nat.and_le_left hb
  apply Nat.eq_of_testBit_eq
  intro i
  rw [Nat.testBit_and, tb256 hb, tb256 hc, tb256 h3]
  split
  · rw [Nat.testBit_and]
  · rw [Nat.testBit_and]
def byts (l : List Nat) : Prop := ∀ b ∈ l, b < 256
theorem val_and {c : Nat} (hc : c < 256) : ∀ l : List Nat, byts l → val l &&& val (l.map (fun _ => c)) = val (l.map (fun b => b &&& c))
  | [], _ => by simp [val]
  | b :: t, h => by
    simp only [List.map_cons, val]
    rw [and256 (h b List.mem_cons_self) hc, val_and hc t (fun x hx => h x (List.mem_cons_of_mem _ hx))]
theorem h55 : ∀ y, y < 256 → y &&& 85 = (y % 128) &&& 85 := by decide +kernel
theorem h33 : ∀ y, y < 256 → y &&& 51 = (y % 64) &&& 51 := by decide +kernel
theorem val_h55 : ∀ l : List Nat, byts l → val l / 2 &&& val (l.map (fun _ => 85)) = val (l.map (fun b => b / 2 &&& 85))
  | [], _ => rfl
  | b :: t, h => by
    have hb := h b List.mem_cons_self
    simp only [List.map_cons, val]
    have e : (b + 256 * val t) / 2 = (b / 2 + 128 * (val t % 2)) + 256 * (val t / 2) := by omega
    have e2 : (b / 2 + 128 * (val t % 2)) % 128 = b / 2 := by omega
    rw [e, and256 (by omega) (by decide), val_h55 t (fun x hx => h x (List.mem_cons_of_mem _ hx)), h55 _ (by omega), e2]
theorem val_h33 : ∀ l : List Nat, byts l → val l / 4 &&& val (l.map (fun _ => 51)) = val (l.map (fun b => b / 4 &&& 51))
  | [], _ => rfl
  | b :: t, h => by
    have hb := h b List.mem_cons_self
    simp only [List.map_cons, val]
    have e : (b + 256 * val t) / 4 = (b / 4 + 64 * (val t % 4)) + 256 * (val t / 4) := by omega
    have e2 : (b / 4 + 64 * (val t % 4)) % 64 = b / 4 := by omega
    rw [e, and256 (by omega) (by decide), val_h33 t (fun x hx => h x (List.mem_cons_of_mem _ hx)), h33 _ (by omega), e2]
theorem val_sub {f : Nat → Nat} : ∀ l : List Nat, (∀ b ∈ l, f b ≤ b) → val l - val (l.map f) = val (l.map (fun b => b - f b)) ∧ val (l.map f) ≤ val l
  | [], _ => ⟨rfl, Nat.le_refl _⟩
  | b :: t, h => by
    obtain ⟨h1, h2⟩ := val_sub t (fun x hx => h x (List.mem_cons_of_mem _ hx))
    have hb := h b List.mem_cons_self
    simp only [List.map_cons, val]
    rw [← h1]
    omega
theorem val_add {f g : Nat → Nat} : ∀ l : List Nat, val (l.map f) + val (l.map g) = val (l.map (fun b => f b + g b))
  | [] => rfl
  | b :: t => by
    have := val_add (f := f) (g := g) t
    simp only [List.map_cons, val]
    rw [← this]
    omega
theorem and15 (x : Nat) : x &&& 15 = x % 16 := Nat.and_two_pow_sub_one_eq_mod x 4
theorem val_nib : ∀ l : List Nat, (∀ b ∈ l, b % 16 ≤ 4 ∧ b / 16 ≤ 4) → (val l + val l / 16) &&& val (l.map (fun _ => 15)) = val (l.map (fun b => (b + b / 16) &&& 15))
  | [], _ => rfl
  | b :: t, h => by
    have hb := h b List.mem_cons_self
    have ht : val t % 16 ≤ 4 := by
      cases t with
      | nil => decide
      | cons b2 t2 =>
        have := (h b2 (List.mem_cons_of_mem _ List.mem_cons_self)).1
        simp only [val]
        omega
    simp only [List.map_cons, val]
    have e : b + 256 * val t + (b + 256 * val t) / 16 = (b + b / 16 + 16 * (val t % 16)) + 256 * (val t + val t / 16) := by omega
    rw [e, and256 (by omega) (by decide), val_nib t (fun x hx => h x (List.mem_cons_of_mem _ hx)), and15, and15]
    have e2 : (b + b / 16 + 16 * (val t % 16)) % 16 = (b + b / 16) % 16 := by omega
    rw [e2]
def s1 (b : Nat) : Nat := b - (b / 2 &&& 85)
def s2 (b : Nat) : Nat := (s1 b &&& 51) + (s1 b / 4 &&& 51)
def s3 (b : Nat) : Nat := (s2 b + s2 b / 16) &&& 15
theorem s1_ok : ∀ b, b < 256 → s1 b < 256 ∧ (b / 2 &&& 85) ≤ b := by decide +kernel
theorem s2_ok : ∀ b, b < 256 → s2 b % 16 ≤ 4 ∧ s2 b / 16 ≤ 4 := by decide +kernel
theorem s3_ok : ∀ b, b < 256 → s3 b = pcn 8 b := by decide +kernel
/-- the first three lines -/
theorem pop3 (l : List Nat) (h : byts l) : ∃ c1 c2, c1 = val l - (val l / 2 &&& val (l.map (fun _ => 85))) ∧ (val l / 2 &&& val (l.map (fun _ => 85))) ≤ val l ∧ c2 = (c1 &&& val (l.map (fun _ => 51))) + (c1 / 4 &&& val (l.map (fun _ => 51))) ∧ c1 = val (l.map s1) ∧ c2 = val (l.map s2) ∧ (c2 + c2 / 16) &&& val (l.map (fun _ => 15)) = val (l.map (fun b => pcn 8 b)) := by
  have e0 := val_h55 l h
  obtain ⟨e1, e2⟩ := val_sub (f := fun b => b / 2 &&& 85) l (fun b hb => (s1_ok b (h b hb)).2)
  have h1 : byts (l.map s1) := by
    intro b hb
    obtain ⟨a, ha, rfl⟩ := List.mem_map.mp hb
    exact (s1_ok a (h a ha)).1
  have m1 : ∀ c : Nat, (l.map s1).map (fun _ => c) = l.map (fun _ => c) := fun c => by rw [List.map_map]; rfl
  have m2 : ∀ c : Nat, (l.map s2).map (fun _ => c) = l.map (fun _ => c) := fun c => by rw [List.map_map]; rfl
  have e3 := val_and (c := 51) (by decide) (l.map s1) h1
  have e4 := val_h33 (l.map s1) h1
  rw [m1, List.map_map] at e3 e4
  have e5 := val_nib (l.map s2) (by
    intro b hb
    obtain ⟨a, ha, rfl⟩ := List.mem_map.mp hb
    exact s2_ok a (h a ha))
  rw [m2, List.map_map] at e5
  have k1 : val l - (val l / 2 &&& val (l.map (fun _ => 85))) = val (l.map s1) := by rw [e0, e1]; rfl
  have k2 : (val (l.map s1) &&& val (l.map (fun _ => 51))) + (val (l.map s1) / 4 &&& val (l.map (fun _ => 51))) = val (l.map s2) := by
    rw [e3, e4, val_add]
    rfl
  refine ⟨_, _, rfl, by rw [e0]; exact e2, rfl, k1, by rw [k1, k2], ?_⟩
  rw [k1, k2, e5]
  congr 1
  apply List.map_congr_left
  intro b hb
  exact s3_ok b (h b hb)
theorem pcn_byte (n b v : Nat) (hb : b < 256) : pcn (8 + n) (b + 256 * v) = pcn 8 b + pcn n v := by
  unfold pcn
  rw [ct_add]
  congr 1
  · apply ct_cong
    intro k hk
    rw [tb256 hb, if_pos hk]
  · apply ct_cong
    intro k _
    rw [tb256 hb, if_neg (by omega), show 8 + k - 8 = k by omega]
theorem pcn_val : ∀ l : List Nat, byts l → pcn (8 * l.length) (val l) = sumN (fun i => pcn 8 (l.getD i 0)) l.length
  | [], _ => rfl
  | b :: t, h => by
    have ih := pcn_val t (fun x hx => h x (List.mem_cons_of_mem _ hx))
    rw [List.length_cons, show 8 * (t.length + 1) = 8 + 8 * t.length by omega]
    simp only [val]
    rw [pcn_byte _ _ _ (h b List.mem_cons_self), ih]
    have : ∀ (f : Nat → Nat) n, sumN f (n + 1) = f 0 + sumN (fun i => f (i + 1)) n := by
      intro f n
      induction n with
      | zero => simp [sumN]
      | succ n ihn => rw [sumN, ihn, sumN]; omega
    rw [this]
    rfl
theorem wb_tb (n : Nat) : (lN n).toBitVec = BitVec.ofNat 64 n := rfl
theorem wb_inj {a b : Int64} (h : a.toBitVec = b.toBitVec) : a = b := Int64.toBitVec_inj.mp h
theorem wb_tn {n : Nat} (h : n < 2 ^ 64) : (lN n).toBitVec.toNat = n := by rw [wb_tb, BitVec.toNat_ofNat, Nat.mod_eq_of_lt h]
theorem wb_of (x : Int64) : ∃ n, n < 2 ^ 64 ∧ x = lN n := ⟨x.toBitVec.toNat, x.toBitVec.isLt, wb_inj (by rw [wb_tb]; simp)⟩
theorem wb_of32 (x : Int32) : ∃ n, n < 2 ^ 32 ∧ x = nI n := ⟨x.toBitVec.toNat, x.toBitVec.isLt, Int32.toBitVec_inj.mp (by show _ = BitVec.ofNat 32 _; simp)⟩
theorem wb_c : ∀ k, k < 64 → ((nI k).toInt64 &&& 63) = lN k := by decide +kernel
theorem wb_cu : ∀ k, k < 64 → ((nI k).toInt64.toUInt64 &&& Int64.toUInt64 63) = UInt64.ofNat k := by decide +kernel
theorem wb_sm : ∀ k, k < 64 → (BitVec.ofNat 64 k).smod 64 = BitVec.ofNat 64 k := by decide +kernel
theorem wb_pw {a b : Nat} (h : a ≤ b) : 2 ^ b = 2 ^ a * 2 ^ (b - a) := by rw [← Nat.pow_add]; congr 1; omega
theorem wb_lt2 {a b : Nat} (h : a < b) : 2 ^ a < 2 ^ b := Nat.pow_lt_pow_right (by decide) h
theorem wb_mod (n : Nat) : lN n = lN (n % 2 ^ 64) := wb_inj (by rw [wb_tb, wb_tb]; apply BitVec.eq_of_toNat_eq; rw [BitVec.toNat_ofNat, BitVec.toNat_ofNat, Nat.mod_mod])
theorem wb_shr {n k : Nat} (hn : n < 2 ^ 64) (hk : k < 64) : ((lN n).toUInt64 >>> ((nI k).toInt64.toUInt64 &&& Int64.toUInt64 63)).toInt64 = lN (n / 2 ^ k) := by
  rw [wb_cu k hk]
  apply wb_inj
  apply BitVec.eq_of_toNat_eq
  show ((lN n).toUInt64 >>> UInt64.ofNat k).toNat = (BitVec.ofNat 64 _).toNat
  have h1 : (UInt64.ofNat k).toNat = k := by
    show (BitVec.ofNat 64 k).toNat = k
    rw [BitVec.toNat_ofNat, Nat.mod_eq_of_lt (by omega)]
  have h2 : (lN n).toUInt64.toNat = n := wb_tn hn
  rw [UInt64.toNat_shiftRight, h1, h2, Nat.mod_eq_of_lt hk, Nat.shiftRight_eq_div_pow, BitVec.toNat_ofNat, Nat.mod_eq_of_lt (Nat.lt_of_le_of_lt (Nat.div_le_self _ _) hn)]
theorem wb_shl (n : Nat) {k : Nat} (hk : k < 64) : lN n <<< ((nI k).toInt64 &&& 63) = lN (n * 2 ^ k) := by
  rw [wb_c k hk]
  apply wb_inj
  rw [Int64.toBitVec_shiftLeft, wb_tb, wb_tb, wb_tb, wb_sm k hk]
  apply BitVec.eq_of_toNat_eq
  rw [BitVec.shiftLeft_eq', BitVec.toNat_shiftLeft, BitVec.toNat_ofNat, BitVec.toNat_ofNat, BitVec.toNat_ofNat, Nat.mod_eq_of_lt (show k < 2 ^ 64 by omega), Nat.shiftLeft_eq, Nat.mul_mod, Nat.mod_mod, ← Nat.mul_mod]
theorem wb_and {a b : Nat} (ha : a < 2 ^ 64) (hb : b < 2 ^ 64) : lN a &&& lN b = lN (a &&& b) := by
  apply wb_inj
  rw [Int64.toBitVec_and, wb_tb, wb_tb, wb_tb]
  apply BitVec.eq_of_toNat_eq
  rw [BitVec.toNat_and, BitVec.toNat_ofNat, BitVec.toNat_ofNat, BitVec.toNat_ofNat, Nat.mod_eq_of_lt ha, Nat.mod_eq_of_lt hb, Nat.mod_eq_of_lt (Nat.and_lt_two_pow _ hb)]
theorem wb_or {a b : Nat} (ha : a < 2 ^ 64) (hb : b < 2 ^ 64) : lN a ||| lN b = lN (a ||| b) := by
  apply wb_inj
  rw [Int64.toBitVec_or, wb_tb, wb_tb, wb_tb]
  apply BitVec.eq_of_toNat_eq
  rw [BitVec.toNat_or, BitVec.toNat_ofNat, BitVec.toNat_ofNat, BitVec.toNat_ofNat, Nat.mod_eq_of_lt ha, Nat.mod_eq_of_lt hb, Nat.mod_eq_of_lt (Nat.or_lt_two_pow ha hb)]
theorem wb_mask {n k : Nat} (hn : n < 2 ^ 64) (hk : k < 64) : lN n &&& lN (2 ^ k - 1) = lN (n % 2 ^ k) := by
  rw [wb_and hn (by have := wb_lt2 hk; omega), Nat.and_two_pow_sub_one_eq_mod]
theorem wb_a1 {n : Nat} (hn : n < 2 ^ 64) : lN n &&& 1 = lN (n % 2) := wb_mask (k := 1) hn (by decide)
theorem wb_bit {n k : Nat} (hn : n < 2 ^ 64) (hk : k < 64) : ((lN n).toUInt64 >>> ((nI k).toInt64.toUInt64 &&& Int64.toUInt64 63)).toInt64 &&& 1 = lN (n / 2 ^ k % 2) := by
  rw [wb_shr hn hk, wb_a1 (Nat.lt_of_le_of_lt (Nat.div_le_self _ _) hn)]
theorem ushr_nI {n : Nat} (hn : n < 4294967296) (k : Nat) (hk : k < 32) : ((nI n).toUInt32 >>> ((nI k).toUInt32 &&& Int32.toUInt32 31)).toInt32 = nI (n / 2 ^ k) := by
  have h : ∀ k, k < 32 → (((nI k).toUInt32 &&& Int32.toUInt32 31).toBitVec % 32).toNat = k := by decide
  exact pk_ushrN hn _ k (h k hk)
theorem vdiv {b : Nat} (t : List Nat) (hb : b < 256) : val (b :: t) / 256 = val t := by
  simp only [val]
  omega
theorem vadd : ∀ l m : List Nat, l.length = m.length → val l + val m = val (List.zipWith (fun a b => a + b) l m)
  | [], [], _ => rfl
  | a :: l, b :: m, h => by
    have := vadd l m (by simpa using h)
    simp only [List.zipWith_cons_cons, val]
    rw [← this]
    omega
  | [], b :: m, h => by simp at h
  | a :: l, [], h => by simp at h
theorem vzero : ∀ l : List Nat, val (l ++ [0]) = val l
  | [] => rfl
  | b :: t => by
    have := vzero t
    simp only [List.cons_append, val]
    rw [this]
theorem popL (q0 q1 q2 q3 q4 q5 q6 q7 : Nat) (p0 : q0 ≤ 8) (p1 : q1 ≤ 8) (p2 : q2 ≤ 8) (p3 : q3 ≤ 8) (p4 : q4 ≤ 8) (p5 : q5 ≤ 8) (p6 : q6 ≤ 8) (p7 : q7 ≤ 8) :
    (val [q0, q1, q2, q3, q4, q5, q6, q7] + val [q0, q1, q2, q3, q4, q5, q6, q7] / 256 + (val [q0, q1, q2, q3, q4, q5, q6, q7] + val [q0, q1, q2, q3, q4, q5, q6, q7] / 256) / 65536 + (val [q0, q1, q2, q3, q4, q5, q6, q7] + val [q0, q1, q2, q3, q4, q5, q6, q7] / 256 + (val [q0, q1, q2, q3, q4, q5, q6, q7] + val [q0, q1, q2, q3, q4, q5, q6, q7] / 256) / 65536) / 4294967296) % 128 = q0 + q1 + q2 + q3 + q4 + q5 + q6 + q7 := by
  have a1 : val [q0, q1, q2, q3, q4, q5, q6, q7] / 256 = val [q1, q2, q3, q4, q5, q6, q7, 0] := by
    rw [vdiv _ (by omega)]
    exact (vzero [q1, q2, q3, q4, q5, q6, q7]).symm
  have a2 : val [q0, q1, q2, q3, q4, q5, q6, q7] + val [q1, q2, q3, q4, q5, q6, q7, 0] = val [q0 + q1, q1 + q2, q2 + q3, q3 + q4, q4 + q5, q5 + q6, q6 + q7, q7 + 0] := vadd _ _ rfl
  have d2 : ∀ (x y : Nat) (t : List Nat), x < 256 → y < 256 → val (x :: y :: t) / 65536 = val t := by
    intro x y t hx hy
    rw [show (65536 : Nat) = 256 * 256 from rfl, ← Nat.div_div_eq_div_mul, vdiv _ hx, vdiv _ hy]
  have a3 : val [q0 + q1, q1 + q2, q2 + q3, q3 + q4, q4 + q5, q5 + q6, q6 + q7, q7 + 0] / 65536 = val [q2 + q3, q3 + q4, q4 + q5, q5 + q6, q6 + q7, q7 + 0, 0, 0] := by
    rw [d2 _ _ _ (by omega) (by omega)]
    exact ((vzero [q2 + q3, q3 + q4, q4 + q5, q5 + q6, q6 + q7, q7 + 0, 0]).trans (vzero [q2 + q3, q3 + q4, q4 + q5, q5 + q6, q6 + q7, q7 + 0])).symm
  have a4 : val [q0 + q1, q1 + q2, q2 + q3, q3 + q4, q4 + q5, q5 + q6, q6 + q7, q7 + 0] + val [q2 + q3, q3 + q4, q4 + q5, q5 + q6, q6 + q7, q7 + 0, 0, 0] = val [q0 + q1 + (q2 + q3), q1 + q2 + (q3 + q4), q2 + q3 + (q4 + q5), q3 + q4 + (q5 + q6), q4 + q5 + (q6 + q7), q5 + q6 + (q7 + 0), q6 + q7 + 0, q7 + 0 + 0] := vadd _ _ rfl
  have a5 : val [q0 + q1 + (q2 + q3), q1 + q2 + (q3 + q4), q2 + q3 + (q4 + q5), q3 + q4 + (q5 + q6), q4 + q5 + (q6 + q7), q5 + q6 + (q7 + 0), q6 + q7 + 0, q7 + 0 + 0] / 4294967296 = val [q4 + q5 + (q6 + q7), q5 + q6 + (q7 + 0), q6 + q7 + 0, q7 + 0 + 0] := by
    rw [show (4294967296 : Nat) = 65536 * 65536 from rfl, ← Nat.div_div_eq_div_mul, d2 _ _ _ (by omega) (by omega), d2 _ _ _ (by omega) (by omega)]
  rw [a1, a2, a3, a4, a5]
  rw [show val [q0 + q1 + (q2 + q3), q1 + q2 + (q3 + q4), q2 + q3 + (q4 + q5), q3 + q4 + (q5 + q6), q4 + q5 + (q6 + q7), q5 + q6 + (q7 + 0), q6 + q7 + 0, q7 + 0 + 0] = q0 + q1 + (q2 + q3) + 256 * val [q1 + q2 + (q3 + q4), q2 + q3 + (q4 + q5), q3 + q4 + (q5 + q6), q4 + q5 + (q6 + q7), q5 + q6 + (q7 + 0), q6 + q7 + 0, q7 + 0 + 0] from rfl, show val [q4 + q5 + (q6 + q7), q5 + q6 + (q7 + 0), q6 + q7 + 0, q7 + 0 + 0] = q4 + q5 + (q6 + q7) + 256 * val [q5 + q6 + (q7 + 0), q6 + q7 + 0, q7 + 0 + 0] from rfl]
  generalize val [q1 + q2 + (q3 + q4), q2 + q3 + (q4 + q5), q3 + q4 + (q5 + q6), q4 + q5 + (q6 + q7), q5 + q6 + (q7 + 0), q6 + q7 + 0, q7 + 0 + 0] = A
  generalize val [q5 + q6 + (q7 + 0), q6 + q7 + 0, q7 + 0 + 0] = B
  omega
theorem c_Integer_bitCount {d : Nat} {w : Wd} {c : Nat} (hc : c < 4294967296) : EvI m_Integer_bitCount d [.int (nI c)] w (fun r w' => w' = w ∧ r = nI (pcn 32 c)) := by
  have hl : byts [c % 256, c / 256 % 256, c / 65536 % 256, c / 16777216] := by
    intro b hb
    simp only [List.mem_cons, List.not_mem_nil, or_false] at hb
    rcases hb with rfl | rfl | rfl | rfl <;> omega
  have hv : val [c % 256, c / 256 % 256, c / 65536 % 256, c / 16777216] = c := by simp only [val]; omega
  obtain ⟨c1, c2, e1, e2, e3, e4, e5, e6⟩ := pop3 _ hl
  have hp := pcn_val _ hl
  rw [hv] at e1 e2 hp
  simp only [List.length_cons, List.length_nil, sumN, List.getD_cons_zero, List.getD_cons_succ] at hp
  simp only [List.map_cons, List.map_nil, val] at e1 e2 e3 e6
  have p0 := pcn_le 8 (c % 256)
  have p1 := pcn_le 8 (c / 256 % 256)
  have p2 := pcn_le 8 (c / 65536 % 256)
  have p3 := pcn_le 8 (c / 16777216)
  generalize pcn 8 (c % 256) = q0 at hp e6 p0
  generalize pcn 8 (c / 256 % 256) = q1 at hp e6 p1
  generalize pcn 8 (c / 65536 % 256) = q2 at hp e6 p2
  generalize pcn 8 (c / 16777216) = q3 at hp e6 p3
  have l1 : c1 < 4294967296 := by omega
  have m33 : ∀ x : Nat, x &&& 858993459 ≤ 858993459 := fun x => Nat.and_le_right
  have l2 : c2 < 4294967296 := by
    have a := m33 c1
    have b := m33 (c1 / 4)
    simp only [Nat.reduceMul, Nat.reduceAdd] at e3
    omega
  simp only [Nat.reduceMul, Nat.reduceAdd] at e1 e2 e3 e6
  refine ev_Integer_bitCount _ (vc_Integer_bitCount_0 _ ?_)
  rw [ushr_nI hc 1 (by decide), show (1431655765 : Int32) = nI 1431655765 from rfl, and_nI, sub_nI e2, ← e1]
  refine vc_Integer_bitCount_10 _ ?_
  rw [ushr_nI l1 2 (by decide), show (858993459 : Int32) = nI 858993459 from rfl, and_nI, and_nI, nI_add, show (2 : Nat) ^ 2 = 4 from rfl, ← e3]
  refine vc_Integer_bitCount_24 _ ?_
  rw [ushr_nI l2 4 (by decide), show (252645135 : Int32) = nI 252645135 from rfl, nI_add, and_nI, show (2 : Nat) ^ 4 = 16 from rfl, e6]
  refine vc_Integer_bitCount_34 _ ?_
  rw [ushr_nI (by omega) 8 (by decide), nI_add]
  refine vc_Integer_bitCount_41 _ ?_
  rw [ushr_nI (by omega) 16 (by decide), nI_add]
  refine vc_Integer_bitCount_48 _ ⟨rfl, ?_⟩
  rw [pk_andN (by omega) 6 (by decide)]
  have hp' : pcn 32 c = q0 + q1 + q2 + q3 := by
    have : 8 * (0 + 1 + 1 + 1 + 1) = 32 := rfl
    rw [this] at hp
    rw [hp]
    omega
  rw [hp']
  congr 1
  simp only [Nat.reducePow]
  have d1 : (q0 + 256 * (q1 + 256 * (q2 + 256 * (q3 + 0)))) / 256 = q1 + 256 * (q2 + 256 * q3) := by omega
  rw [d1]
  have d2 : (q0 + 256 * (q1 + 256 * (q2 + 256 * (q3 + 0))) + (q1 + 256 * (q2 + 256 * q3))) / 65536 = (q2 + q3) + 256 * q3 := by omega
  rw [d2]
  omega
theorem lN_lit (n : Nat) : (OfNat.ofNat n : Int64) = lN n := rfl
def dg : Nat → Nat → List Nat
  | 0, _ => []
  | n + 1, c => c % 256 :: dg n (c / 256)
theorem dg_b : ∀ (n c : Nat), byts (dg n c)
  | 0, _, b, hb => by cases hb
  | n + 1, c, b, hb => by
    rcases List.mem_cons.mp hb with e | hb
    · omega
    · exact dg_b n (c / 256) b hb
theorem dg_v : ∀ (n c : Nat), c < 256 ^ n → val (dg n c) = c
  | 0, c, h => by
    have : c = 0 := by simpa using h
    subst this
    rfl
  | n + 1, c, h => by
    have h1 : c / 256 < 256 ^ n := by
      rw [Nat.pow_succ] at h
      exact Nat.div_lt_of_lt_mul (by rw [Nat.mul_comm]; exact h)
    simp only [dg, val]
    rw [dg_v n (c / 256) h1]
    omega
theorem hm32 (n : Nat) : nI n = nI (n % 4294967296) := by
  apply Int32.toBitVec_inj.mp
  show BitVec.ofNat 32 n = BitVec.ofNat 32 (n % 4294967296)
  apply BitVec.eq_of_toNat_eq
  rw [BitVec.toNat_ofNat, BitVec.toNat_ofNat]
  omega
/-- the Long way in numbers -/
theorem popN {c : Nat} (hc : c < 18446744073709551616) : ∃ c1 c2 c3, c1 = c - (c / 2 &&& 6148914691236517205) ∧ (c / 2 &&& 6148914691236517205) ≤ c ∧ c1 < 18446744073709551616 ∧ c2 = (c1 &&& 3689348814741910323) + (c1 / 4 &&& 3689348814741910323) ∧ c2 + c2 / 16 < 18446744073709551616 ∧ c3 = (c2 + c2 / 16) &&& 1085102592571150095 ∧ (c3 + c3 / 256 + (c3 + c3 / 256) / 65536 + (c3 + c3 / 256 + (c3 + c3 / 256) / 65536) / 4294967296) % 128 = pcn 64 c ∧ c3 ≤ 1085102592571150095 := by
  have hv := dg_v 8 c (by exact hc)
  obtain ⟨c1, c2, e1, e2, e3, e4, e5, e6⟩ := pop3 _ (dg_b 8 c)
  have hp := pcn_val _ (dg_b 8 c)
  rw [hv] at e1 e2 hp
  rw [show val ((dg 8 c).map (fun _ => 85)) = 6148914691236517205 by simp only [dg, List.map_cons, List.map_nil, val, Nat.reduceMul, Nat.reduceAdd]] at e1 e2
  rw [show val ((dg 8 c).map (fun _ => 51)) = 3689348814741910323 by simp only [dg, List.map_cons, List.map_nil, val, Nat.reduceMul, Nat.reduceAdd]] at e3
  rw [show val ((dg 8 c).map (fun _ => 15)) = 1085102592571150095 by simp only [dg, List.map_cons, List.map_nil, val, Nat.reduceMul, Nat.reduceAdd]] at e6
  have a := @Nat.and_le_right c1 3689348814741910323
  have b := @Nat.and_le_right (c1 / 4) 3689348814741910323
  refine ⟨c1, c2, _, e1, e2, by omega, e3, by omega, rfl, ?_, Nat.and_le_right⟩
  rw [e6]
  have h9 := popL (pcn 8 (c % 256)) (pcn 8 (c / 256 % 256)) (pcn 8 (c / 256 / 256 % 256)) (pcn 8 (c / 256 / 256 / 256 % 256)) (pcn 8 (c / 256 / 256 / 256 / 256 % 256)) (pcn 8 (c / 256 / 256 / 256 / 256 / 256 % 256)) (pcn 8 (c / 256 / 256 / 256 / 256 / 256 / 256 % 256)) (pcn 8 (c / 256 / 256 / 256 / 256 / 256 / 256 / 256 % 256)) (pcn_le 8 _) (pcn_le 8 _) (pcn_le 8 _) (pcn_le 8 _) (pcn_le 8 _) (pcn_le 8 _) (pcn_le 8 _) (pcn_le 8 _)
  have hp2 : pcn 64 c = 0 + pcn 8 (c % 256) + pcn 8 (c / 256 % 256) + pcn 8 (c / 256 / 256 % 256) + pcn 8 (c / 256 / 256 / 256 % 256) + pcn 8 (c / 256 / 256 / 256 / 256 % 256) + pcn 8 (c / 256 / 256 / 256 / 256 / 256 % 256) + pcn 8 (c / 256 / 256 / 256 / 256 / 256 / 256 % 256) + pcn 8 (c / 256 / 256 / 256 / 256 / 256 / 256 / 256 % 256) := hp
  rw [hp2, Nat.zero_add]
  exact h9
theorem c_Long_bitCount {d : Nat} {w : Wd} {c : Nat} (hc : c < 18446744073709551616) : EvI m_Long_bitCount d [.long (lN c)] w (fun r w' => w' = w ∧ r = nI (pcn 64 c)) := by
  obtain ⟨c1, c2, c3, e1, e2, l1, e3, l3, e4, h9, l4⟩ := popN hc
  have l2 : c2 < 18446744073709551616 := by omega
  refine ev_Long_bitCount _ (vc_Long_bitCount_0 _ ?_)
  rw [wb_shr hc (by decide), show (6148914691236517205 : Int64) = lN 6148914691236517205 from rfl, wb_and (Nat.lt_of_le_of_lt (Nat.div_le_self _ _) hc) (by decide), lN_sub e2, ← e1]
  refine vc_Long_bitCount_10 _ ?_
  rw [wb_shr l1 (by decide), show (3689348814741910323 : Int64) = lN 3689348814741910323 from rfl, wb_and l1 (by decide), wb_and (Nat.lt_of_le_of_lt (Nat.div_le_self _ _) l1) (by decide), lN_add, show (2 : Nat) ^ 2 = 4 from rfl, ← e3]
  refine vc_Long_bitCount_24 _ ?_
  rw [wb_shr l2 (by decide), show (1085102592571150095 : Int64) = lN 1085102592571150095 from rfl, lN_add, show (2 : Nat) ^ 4 = 16 from rfl, wb_and l3 (by decide), ← e4]
  refine vc_Long_bitCount_34 _ ?_
  rw [wb_shr (by omega) (by decide), lN_add, show (2 : Nat) ^ 8 = 256 from rfl]
  refine vc_Long_bitCount_41 _ ?_
  rw [wb_shr (by omega) (by decide), lN_add, show (2 : Nat) ^ 16 = 65536 from rfl]
  refine vc_Long_bitCount_48 _ ?_
  rw [wb_shr (by omega) (by decide), lN_add, show (2 : Nat) ^ 32 = 4294967296 from rfl]
  refine vc_Long_bitCount_55 _ ⟨rfl, ?_⟩
  rw [lN_i, hm32, pk_andN (Nat.mod_lt _ (by decide)) 7 (by decide), ← h9]
  congr 1
  generalize c3 + c3 / 256 + (c3 + c3 / 256) / 65536 + (c3 + c3 / 256 + (c3 + c3 / 256) / 65536) / 4294967296 = V
  omega
end
section
/-! THE FINDER draws -/
/-- what finds depend on is the same -/
def Mf (w w' : Wd) : Prop := w'.1 58 10 = w.1 58 10 ∧ w'.1 58 30 = w.1 58 30 ∧ ∀ a, (64 ≤ a ∧ a ≤ 70) ∨ a = 76 ∨ (79 ≤ a ∧ a ≤ 81) → w'.1 a = w.1 a
theorem Mf.hlE {w w' : Wd} (h : Mf w w') : hl w' = hl w := N_cg h.1
theorem Mf.cmE {w w' : Wd} (h : Mf w w') : cm w' = cm w := N_cg h.2.1
theorem Mf.NE {w w' : Wd} (h : Mf w w') {a : Nat} (ha : (64 ≤ a ∧ a ≤ 70) ∨ a = 76 ∨ (79 ≤ a ∧ a ≤ 81)) (k : Nat) : N w' a k = N w a k := N_cg (by rw [h.2.2 a ha])
theorem Mf.nrE {w w' : Wd} (h : Mf w w') : nr w' = nr w := by
  show N w' 64 (hl w') = _
  rw [h.hlE, h.NE (by omega)]
theorem Mf.ixE {w w' : Wd} (h : Mf w w') (r i : Nat) : ix w' r i = ix w r i := by
  show 10 * (12 * N w' 58 10 + r) + i = 10 * (12 * N w 58 10 + r) + i
  rw [N_cg h.1]
theorem Mf.niE {w w' : Wd} (h : Mf w w') (r : Nat) : ni w' r = ni w r := by
  show N w' 66 (12 * N w' 58 10 + r) = N w 66 (12 * N w 58 10 + r)
  rw [N_cg h.1, h.NE (by omega)]
theorem Mf.lenE {w w' : Wd} (h : Mf w w') (s : Nat) : len w' s = len w s := h.NE (by omega) s
theorem Mf.wrdE {w w' : Wd} (h : Mf w w') (s p : Nat) : wrd w' s p = wrd w s p := h.NE (by omega) _
theorem Mf.sdE {w w' : Wd} (h : Mf w w') (r i : Nat) : sd w' r i = sd w r i := by
  show N w' 68 (ix w' r i) = N w 68 (ix w r i)
  rw [h.ixE, h.NE (by omega)]
theorem Mf.fitPE {w w' : Wd} (h : Mf w w') (kd nb : Int32) (v : Nat) : fitP w' kd nb v = fitP w kd nb v := by
  unfold fitP
  rw [h.2.2 76 (by omega)]
theorem Mf.fitE {w w' : Wd} (h : Mf w w') (s r i p : Nat) : fit w' s r i p = fit w s r i p := by
  unfold fit
  rw [h.fitPE, h.ixE, h.wrdE, h.2.2 69 (by omega), h.2.2 70 (by omega)]
theorem Mf.StE {w w' : Wd} (h : Mf w w') (s r i p q : Nat) : St w' s r i p q = St w s r i p q := by
  unfold St
  rw [h.fitE, h.ixE, h.lenE, h.2.2 67 (by omega)]
theorem Mf.GoE {w w' : Wd} (h : Mf w w') (s r : Nat) : ∀ (m i p q : Nat), Go w' s r i m p q = Go w s r i m p q
  | 0, _, _, _ => rfl
  | m + 1, i, p, q => by
    show (∃ u, _ ∧ _) = (∃ u, _ ∧ _)
    congr 1
    funext u
    rw [h.StE, Mf.GoE h s r m (i + 1) u q]
theorem Mf.RcE {w w' : Wd} (h : Mf w w') (s r : Nat) : ∀ (i p l t : Nat), Rc w' s r i p l t = Rc w s r i p l t
  | 0, p, l, t => by
    show (p ≤ len w' s ∧ _) = (p ≤ len w s ∧ _)
    rw [h.lenE]
  | i + 1, q, l', t' => by
    show (∃ p l t, _ ∧ _ ∧ _ ∧ _) = (∃ p l t, _ ∧ _ ∧ _ ∧ _)
    congr 1
    funext p
    congr 1
    funext l
    congr 1
    funext t
    rw [Mf.RcE h s r i p l t, h.StE, h.sdE]
theorem Mf.FndE {w w' : Wd} (h : Mf w w') (s r l t : Nat) : Fnd w' s r l t = Fnd w s r l t := by
  unfold Fnd
  rw [h.cmE, h.nrE, h.niE, show thr w' s = thr w s by unfold thr; rw [h.2.2 81 (by omega)]]
  congr 5
  congr 1
  funext p
  rw [h.RcE]
/-- only the finder's own rows have changed -/
def Fr (w w' : Wd) : Prop := (∀ a, a < 37 ∨ 41 < a → w'.1 a = w.1 a) ∧ w'.2 = w.2
theorem Fr.rf {w : Wd} : Fr w w := ⟨fun _ _ => rfl, rfl⟩
theorem Fr.tr {w w1 w2 : Wd} (h : Fr w w1) (h2 : Fr w1 w2) : Fr w w2 := ⟨fun a ha => (h2.1 a ha).trans (h.1 a ha), h2.2.trans h.2⟩
theorem Fr.up {w : Wd} {a k : Nat} {v : Int32} (ha : 37 ≤ a ∧ a ≤ 41) : Fr w (up1 w a k v) := ⟨fun b hb => up1_off b (by omega), rfl⟩
theorem Fr.mf {w w' : Wd} (h : Fr w w') : Mf w w' := ⟨by rw [h.1 58 (by omega)], by rw [h.1 58 (by omega)], fun a ha => h.1 a (by omega)⟩
def CtI (w : Wd) : Prop := LexI w ∧ SenI w ∧ BkI w
theorem CtI.fr {w w' : Wd} (h : CtI w) (f : Fr w w') : CtI w' :=
  ⟨h.1.mv (f.1 1 (by omega)) (f.1 2 (by omega)) (f.1 76 (by omega)) (f.1 77 (by omega)),
   h.2.1.mv (by rw [f.1 58 (by omega)]) (by rw [f.1 58 (by omega)]) (f.1 3 (by omega)) (f.1 4 (by omega)) (f.1 5 (by omega)) (f.1 6 (by omega)) (f.1 7 (by omega)) (f.1 78 (by omega)) (f.1 79 (by omega)) (f.1 80 (by omega)) (f.1 81 (by omega)),
   h.2.2.mv (by rw [f.1 58 (by omega)]) (by rw [f.1 25 (by omega)]) (by rw [f.1 25 (by omega)]) (by rw [f.1 25 (by omega)]) (by rw [f.1 25 (by omega)]) (fun a ha => f.1 a (by omega))⟩
theorem CtI.w {w : Wd} (h : CtI w) {s p : Nat} (hs : s < cm w) (hp : p < len w s) : 1 ≤ wrd w s p ∧ wrd w s p ≤ 100 := ⟨(h.2.1.2.2.2.2.1 s hs p hp).1, (h.2.1.2.2.2.2.1 s hs p hp).2.1⟩
theorem CtI.l {w : Wd} (h : CtI w) {s : Nat} (hs : s < cm w) : 1 ≤ len w s ∧ len w s ≤ 16 ∧ s < 40 := by
  have a := h.2.1.2.2.2.1 s hs
  have b := h.2.1.2.2.1.1
  exact ⟨a.1, a.2.1, by omega⟩
/-- sentence s has a word that a bar names -/
def Brr (w : Wd) (s : Nat) : Prop := ∃ p, p < len w s ∧ brd w (nI (wrd w s p))
theorem z_hasBarredWord {d : Nat} {w : Wd} {Q : Int32 → Wd → Prop} (h : CtI w) {s : Nat} (hs : s < cm w) (hy : Brr w s → Q 1 w) (hn : ¬ Brr w s → Q 0 w) : ∀ (n p : Nat), p + n = len w s → (∀ p', p' < p → ¬ brd w (nI (wrd w s p'))) → Z m_Finder_hasBarredWord (d + 1) (qI Q) 2 [(0, .ref 36), (1, .int (nI s)), (2, .int (nI p))] [] w := by
  obtain ⟨l1, l2, l3⟩ := h.l hs
  intro n
  induction n with
  | zero =>
    intro p hp hno
    refine vc_Finder_hasBarredWord_2 _ _ ⟨_, c_Sentences_lengthOf h.2.1 hs, ?_⟩
    rintro r w1 ⟨rfl, rfl⟩
    refine ⟨fun _ => ⟨Or.inl rfl, hn (fun ⟨p', a, b⟩ => hno p' (by omega) b)⟩, fun g => absurd ?_ g⟩
    rw [nI_leI (by omega) (by omega)]
    omega
  | succ n ih =>
    intro p hp hno
    refine vc_Finder_hasBarredWord_2 _ _ ⟨_, c_Sentences_lengthOf h.2.1 hs, ?_⟩
    rintro r w1 ⟨rfl, rfl⟩
    refine ⟨fun g => ?_, fun _ => ⟨_, c_Sentences_wordAt h.2.1 hs (by omega), ?_⟩⟩
    · rw [nI_leI (by omega) (by omega)] at g
      omega
    · rintro r2 w2 ⟨rfl, rfl⟩
      refine ⟨_, c_Book_isBarred h.2.2 _, ?_⟩
      rintro r3 w3 ⟨rfl, hr⟩
      refine ⟨fun g => ?_, fun g => ⟨Or.inr rfl, hy ⟨p, by omega, hr.n g⟩⟩⟩
      rw [nI_add]
      refine ih (p + 1) (by omega) (fun p' hp' => ?_)
      by_cases e : p' = p
      · subst e; exact hr.z g
      · exact hno p' (by omega)
theorem c_hasBarredWord {d : Nat} {w : Wd} (h : CtI w) {s : Nat} (hs : s < cm w) : EvI m_Finder_hasBarredWord (d + 1) [.ref 36, .int (nI s)] w (fun r w' => w' = w ∧ Bo (Brr w s) r) :=
  ev_Finder_hasBarredWord _ (vc_Finder_hasBarredWord_0 _ (z_hasBarredWord h hs (fun a => ⟨rfl, Bo.t a⟩) (fun a => ⟨rfl, Bo.f a⟩) (len w s) 0 (Nat.zero_add _) (fun p' hp' => absurd hp' (Nat.not_lt_zero _))))
theorem or_pow {a p n : Nat} (ha : a < 2 ^ n) (hp : p < n) : a ||| 2 ^ p < 2 ^ n := or_lt ha (Nat.pow_lt_pow_right (by decide) hp)
theorem tb_or_pow (a p q : Nat) : (a ||| 2 ^ p).testBit q = true ↔ a.testBit q = true ∨ q = p := by
  rw [Nat.testBit_or, Nat.testBit_two_pow, Bool.or_eq_true, decide_eq_true_eq]
  constructor
  · rintro (h | h)
    · exact Or.inl h
    · exact Or.inr h.symm
  · rintro (h | h)
    · exact Or.inl h
    · exact Or.inr h.symm
theorem z_placesOf {d : Nat} {w : Wd} {Q : Int32 → Wd → Prop} (h : CtI w) {s : Nat} (hs : s < cm w) {kd nb : Int32} (hq : ∀ f, f < 65536 → (∀ p, f.testBit p = true ↔ p < len w s ∧ fitP w kd nb (wrd w s p)) → Q (nI f) w) : ∀ (n p f : Nat), p + n = len w s → f < 65536 → (∀ q, f.testBit q = true ↔ q < p ∧ fitP w kd nb (wrd w s q)) → Z m_Finder_placesOf (d + 1) (qI Q) 6 [(0, .ref 36), (1, .int (nI s)), (2, .int kd), (3, .int nb), (4, .int (nI f)), (5, .int (nI p))] [] w := by
  obtain ⟨l1, l2, l3⟩ := h.l hs
  intro n
  induction n with
  | zero =>
    intro p f hp hf hb
    refine vc_Finder_placesOf_6 _ _ _ _ _ ⟨_, c_Sentences_lengthOf h.2.1 hs, ?_⟩
    rintro r w1 ⟨rfl, rfl⟩
    refine ⟨fun _ => hq f hf (fun q => ?_), fun g => absurd ?_ g⟩
    · rw [hb, show p = len w1 s by omega]
    · rw [nI_leI (by omega) (by omega)]
      omega
  | succ n ih =>
    intro p f hp hf hb
    refine vc_Finder_placesOf_6 _ _ _ _ _ ⟨_, c_Sentences_lengthOf h.2.1 hs, ?_⟩
    rintro r w1 ⟨rfl, rfl⟩
    refine ⟨fun g => ?_, fun _ => ⟨_, c_Sentences_wordAt h.2.1 hs (by omega), ?_⟩⟩
    · rw [nI_leI (by omega) (by omega)] at g
      omega
    · rintro r2 w2 ⟨rfl, rfl⟩
      obtain ⟨v1, v2⟩ := h.w hs (show p < len w2 s by omega)
      refine ⟨_, c_Lexicon_fits h.1 _ _ v1 v2, ?_⟩
      rintro r3 w3 ⟨rfl, hr⟩
      refine ⟨fun g => ?_, fun g => ?_⟩
      · rw [nI_add]
        refine ih (p + 1) f (by omega) hf (fun q => ?_)
        rw [hb]
        constructor
        · rintro ⟨a, b⟩; exact ⟨by omega, b⟩
        · rintro ⟨a, b⟩
          by_cases e : q = p
          · subst e; exact absurd b (hr.z g)
          · exact ⟨by omega, b⟩
      · rw [nI_add, one_shl (by omega), or_nI]
        refine ih (p + 1) _ (by omega) (or_pow (n := 16) hf (by omega)) (fun q => ?_)
        rw [tb_or_pow, hb]
        constructor
        · rintro (⟨a, b⟩ | e)
          · exact ⟨by omega, b⟩
          · subst e; exact ⟨by omega, hr.n g⟩
        · rintro ⟨a, b⟩
          by_cases e : q = p
          · exact Or.inr e
          · exact Or.inl ⟨by omega, b⟩
theorem c_placesOf {d : Nat} {w : Wd} (h : CtI w) {s : Nat} (hs : s < cm w) (kd nb : Int32) : EvI m_Finder_placesOf (d + 1) [.ref 36, .int (nI s), .int kd, .int nb] w (fun r w' => w' = w ∧ ∃ f, f < 65536 ∧ r = nI f ∧ ∀ p, f.testBit p = true ↔ p < len w s ∧ fitP w kd nb (wrd w s p)) :=
  ev_Finder_placesOf _ _ _ (vc_Finder_placesOf_0 _ _ _ (z_placesOf h hs (fun f hf hb => ⟨rfl, f, hf, rfl, hb⟩) (len w s) 0 0 (Nat.zero_add _) (by decide) (fun q => ⟨fun e => absurd e (by rw [Nat.zero_testBit]; decide), fun e => absurd e.1 (Nat.not_lt_zero _)⟩)))
/-- the row 'fitting', for the first n items of rule r at sentence s -/
def FtI (w : Wd) (s r n : Nat) : Prop := ∀ i, i < n → (w.1 67 (ix w r i) = 1 ∧ w.1 41 i = -nI 1) ∨ (¬ w.1 67 (ix w r i) = 1 ∧ ∃ f, f < 65536 ∧ w.1 41 i = nI f ∧ ∀ p, f.testBit p = true ↔ p < len w s ∧ fit w s r i p)
theorem FtI.up {w : Wd} {s r n j : Nat} {v : Int32} (h : FtI w s r n) (hj : n ≤ j) : FtI (up1 w 41 j v) s r n := by
  have f : Fr w (up1 w 41 j v) := Fr.up (by omega)
  intro i hi
  rw [f.mf.ixE, f.1 67 (by omega), show (up1 w 41 j v).1 41 i = w.1 41 i by rw [up1_1, if_neg (by omega)]]
  rcases h i hi with a | ⟨a, q, b, c, e⟩
  · exact Or.inl a
  · exact Or.inr ⟨a, q, b, c, fun p => by rw [f.mf.lenE, f.mf.fitE]; exact e p⟩
theorem z_fitItems {d : Nat} {w0 : Wd} {Q : Wd → Prop} {s r : Nat} (h0 : CtI w0) (hs : s < cm w0) (hr : r < nr w0) (hq : ∀ w', Fr w0 w' → (∀ a, a ≠ 41 → w'.1 a = w0.1 a) → FtI w' s r (ni w0 r) → Q w') : ∀ (n i : Nat) (w : Wd), i + n = ni w0 r → Fr w0 w → (∀ a, a ≠ 41 → w.1 a = w0.1 a) → FtI w s r i → Z m_Finder_fitItems (d + 3) (qV Q) 2 [(0, .ref 36), (1, .int (nI s)), (2, .int (nI r)), (3, .int (nI i))] [] w := by
  intro n
  induction n with
  | zero =>
    intro i w hi hf h41 ht
    have hC := h0.fr hf
    have m := hf.mf
    have b1 := (hC.2.2.2.2.1 r (by rw [m.nrE]; exact hr)).2.1.1
    refine vc_Finder_fitItems_2 _ _ _ ⟨_, c_Book_itemsOf (d := d + 1) hC.2.2 (by rw [m.nrE]; exact hr), ?_⟩
    rintro x w1 ⟨rfl, rfl⟩
    rw [m.niE] at b1 ⊢
    refine ⟨fun _ => hq _ hf h41 (by rw [← hi]; exact ht), fun g => absurd ?_ g⟩
    rw [nI_leI (by omega) (by omega)]
    omega
  | succ n ih =>
    intro i w hi hf h41 ht
    have hC := h0.fr hf
    have m := hf.mf
    have hr' : r < nr w := by rw [m.nrE]; exact hr
    have hs' : s < cm w := by rw [m.cmE]; exact hs
    obtain ⟨-, ⟨b1, -, -⟩, a, b, ha, hb, hab, -, -, hit⟩ := hC.2.2.2.2.1 r hr'
    have hi' : i < ni w r := by rw [m.niE]; omega
    refine vc_Finder_fitItems_2 _ _ _ ⟨_, c_Book_itemsOf (d := d + 1) hC.2.2 hr', ?_⟩
    rintro x w1 ⟨rfl, rfl⟩
    refine ⟨fun g => ?_, fun _ => ⟨fun g => ?_, fun _ => ⟨_, c_Book_kindOf (d := d + 1) hC.2.2 hr' hi', ?_⟩⟩⟩
    · rw [nI_leI (by omega) (by omega)] at g; omega
    · rw [nI_leI (by omega) (by omega)] at g; omega
    · rintro x2 w2 ⟨rfl, rfl⟩
      have hit := hit i hi'
      refine ⟨fun g => ⟨_, c_Book_numberOf (d := d + 1) hC.2.2 hr' hi', ?_⟩, fun g => ⟨i, rfl, by omega, ?_⟩⟩
      · rintro x3 w3 ⟨rfl, rfl⟩
        refine ⟨_, c_placesOf (d := d + 1) hC hs' _ _, ?_⟩
        rintro x4 w4 ⟨rfl, f, hf1, rfl, hf2⟩
        refine ⟨i, rfl, by omega, ?_⟩
        rw [nI_add]
        refine ih (i + 1) _ (by omega) (hf.tr (Fr.up (by omega))) (fun a ha => by rw [up1_off a ha]; exact h41 a ha) (fun i' hi2 => ?_)
        by_cases e : i' = i
        · subst e
          have f2 : Fr w4 (up1 w4 41 i' (nI f)) := Fr.up (by omega)
          rw [f2.mf.ixE, f2.1 67 (by omega)]
          rcases hit with ⟨q1, q2, -⟩ | ⟨q1, q2, q3, -⟩
          · exact absurd q2 g
          · refine Or.inr ⟨by rw [q1]; decide, f, hf1, by rw [up1_1, if_pos ⟨rfl, rfl⟩], fun p => ?_⟩
            rw [f2.mf.lenE, f2.mf.fitE, hf2 p, q2, q3]
            rfl
        · exact (ht.up (Nat.le_refl i)) i' (by omega)
      · rw [nI_add]
        refine ih (i + 1) _ (by omega) (hf.tr (Fr.up (by omega))) (fun a ha => by rw [up1_off a ha]; exact h41 a ha) (fun i' hi2 => ?_)
        by_cases e : i' = i
        · subst e
          have f2 : Fr w2 (up1 w2 41 i' (-nI 1)) := Fr.up (by omega)
          rw [f2.mf.ixE, f2.1 67 (by omega)]
          rcases hit with ⟨q1, q2, -⟩ | ⟨q1, q2, q3, q4, -⟩
          · exact Or.inl ⟨q1, by rw [up1_1, if_pos ⟨rfl, rfl⟩]⟩
          · rw [g] at q2
            rw [← q2] at q4
            rcases q4 with e | e | e <;> exact absurd e (by decide)
        · exact (ht.up (Nat.le_refl i)) i' (by omega)
theorem c_fitItems {d : Nat} {w : Wd} (h : CtI w) {s r : Nat} (hs : s < cm w) (hr : r < nr w) : EvV m_Finder_fitItems (d + 3) [.ref 36, .int (nI s), .int (nI r)] w (fun w' => Fr w w' ∧ (∀ a, a ≠ 41 → w'.1 a = w.1 a) ∧ FtI w' s r (ni w r)) :=
  ev_Finder_fitItems _ _ (vc_Finder_fitItems_0 _ _ (z_fitItems h hs hr (fun w' a b c => ⟨a, b, c⟩) (ni w r) 0 w (Nat.zero_add _) Fr.rf (fun _ _ => rfl) (fun i hi => absurd hi (Nat.not_lt_zero _))))
end
section
/-! THE FINDER draws a rule -/
theorem all_nI {L : Nat} (hL : L ≤ 16) : (nI 1 <<< ((nI L + nI 1) &&& 31)) - nI 1 = nI (2 ^ (L + 1) - 1) := by
  rw [nI_add, one_shl (by omega), sub_nI (Nat.one_le_two_pow)]
theorem pow17 {L : Nat} (hL : L ≤ 16) : 2 ^ (L + 1) ≤ 131072 := Nat.pow_le_pow_right (n := 2) (by decide) (show L + 1 ≤ 17 by omega)
theorem and_all_lt {x L : Nat} : x &&& (2 ^ (L + 1) - 1) < 2 ^ (L + 1) := by
  have h := @Nat.and_le_right x (2 ^ (L + 1) - 1)
  have h2 : 0 < 2 ^ (L + 1) := Nat.two_pow_pos _
  omega
theorem z_forward {d : Nat} {w : Wd} {Q : Int32 → Wd → Prop} {s r a fr en : Nat} (hC : CtI w) (hs : s < cm w) (hf : FtI w s r (ni w r)) (hen : en ≤ ni w r) (hni : ni w r ≤ 10) (hq : ∀ c, c < 2 ^ (len w s + 1) → (∀ q, c.testBit q = true ↔ ∃ p, a.testBit p = true ∧ Go w s r fr (en - fr) p q) → Q (nI c) w) : ∀ (n i c : Nat), i + n = en → fr ≤ i → c < 2 ^ (len w s + 1) → (∀ q, c.testBit q = true ↔ ∃ p, a.testBit p = true ∧ Go w s r fr (i - fr) p q) → Z m_Finder_forward d (qI Q) 6 [(0, .ref 36), (1, .int (nI a)), (2, .int (nI fr)), (3, .int (nI en)), (4, .int (nI (2 ^ (len w s + 1) - 1))), (5, .int (nI c)), (6, .int (nI i))] [] w := by
  obtain ⟨l1, l2, l3⟩ := hC.l hs
  have hp := pow17 l2
  intro n
  induction n with
  | zero =>
    intro i c hi hfi hc hb
    refine vc_Finder_forward_6 _ _ _ _ _ _ ⟨fun _ => hq c hc (by rw [show en = i by omega]; exact hb), fun g => absurd ?_ g⟩
    rw [nI_leI (by omega) (by omega)]
    omega
  | succ n ih =>
    intro i c hi hfi hc hb
    have hc17 : c < 131072 := by omega
    refine vc_Finder_forward_6 _ _ _ _ _ _ ⟨fun g => ?_, fun _ => ⟨fun g => ?_, fun _ => ⟨i, rfl, by omega, fun g => ⟨i, rfl, by omega, ?_⟩, fun g => ?_⟩⟩⟩
    · rw [nI_leI (by omega) (by omega)] at g; omega
    · rw [nI_leI (by omega) (by omega)] at g; omega
    · rcases hf i (by omega) with ⟨-, k⟩ | ⟨k, f, f1, f2, f3⟩
      · exact absurd k g
      · have hcf : c &&& f < 131072 := Nat.lt_of_le_of_lt Nat.and_le_left hc17
        rw [f2, and_nI, shl_nI (by decide) (by omega), and_nI, nI_add]
        refine ih (i + 1) _ (by omega) (by omega) and_all_lt (fun q => ?_)
        rw [fw_spec, show i + 1 - fr = (i - fr) + 1 by omega]
        constructor
        · rintro ⟨hq1, u, u1, u2, rfl⟩
          obtain ⟨p, p1, p2⟩ := (hb u).mp u1
          refine ⟨p, p1, (Go.snoc (i - fr) fr p (u + 1)).mpr ⟨u, p2, Or.inr ?_⟩⟩
          rw [show fr + (i - fr) = i by omega]
          exact ⟨k, ((f3 u).mp u2).1, ((f3 u).mp u2).2, rfl⟩
        · rintro ⟨p, p1, p2⟩
          obtain ⟨u, u1, u2⟩ := (Go.snoc (i - fr) fr p q).mp p2
          rw [show fr + (i - fr) = i by omega] at u2
          refine ⟨u2.le, u, (hb u).mpr ⟨p, p1, u1⟩, ?_⟩
          rcases u2 with ⟨k2, -⟩ | ⟨-, k3, k4, k5⟩
          · exact absurd k2 k
          · exact ⟨(f3 u).mpr ⟨k3, k4⟩, k5⟩
    · rcases hf i (by omega) with ⟨k, -⟩ | ⟨k, f, f1, f2, f3⟩
      · rw [shl_nI (by decide) (by omega), shl_nI (by decide) (by omega), shl_nI (by decide) (by omega), or_nI, or_nI, or_nI, and_nI, nI_add]
        refine ih (i + 1) _ (by omega) (by omega) and_all_lt (fun q => ?_)
        rw [show (c ||| (c * 2 ^ 1 ||| c * 2 ^ 2 ||| c * 2 ^ 3)) = (c ||| ((c * 2 ^ 1) ||| (c * 2 ^ 2)) ||| (c * 2 ^ 3)) by rw [Nat.or_assoc c, Nat.or_assoc]]
        rw [fw_some, show i + 1 - fr = (i - fr) + 1 by omega]
        constructor
        · rintro ⟨hq1, u, u1, u2, u3⟩
          obtain ⟨p, p1, p2⟩ := (hb u).mp u1
          refine ⟨p, p1, (Go.snoc (i - fr) fr p q).mpr ⟨u, p2, Or.inl ?_⟩⟩
          rw [show fr + (i - fr) = i by omega]
          exact ⟨k, u2, u3, hq1⟩
        · rintro ⟨p, p1, p2⟩
          obtain ⟨u, u1, u2⟩ := (Go.snoc (i - fr) fr p q).mp p2
          rw [show fr + (i - fr) = i by omega] at u2
          refine ⟨u2.le, u, (hb u).mpr ⟨p, p1, u1⟩, ?_⟩
          rcases u2 with ⟨-, k3, k4, k5⟩ | ⟨k2, -⟩
          · exact ⟨k3, k4⟩
          · exact absurd k k2
      · rw [f2] at g
        exact absurd g (m1_ne f (by omega))
theorem c_forward {d : Nat} {w : Wd} {s r a fr en : Nat} (hC : CtI w) (hs : s < cm w) (hf : FtI w s r (ni w r)) (hen : en ≤ ni w r) (hni : ni w r ≤ 10) (hfe : fr ≤ en) (ha : a < 2 ^ (len w s + 1)) : EvI m_Finder_forward d [.ref 36, .int (nI a), .int (nI fr), .int (nI en), .int (nI (2 ^ (len w s + 1) - 1))] w (fun x w' => w' = w ∧ ∃ c, c < 2 ^ (len w s + 1) ∧ x = nI c ∧ ∀ q, c.testBit q = true ↔ ∃ p, a.testBit p = true ∧ Go w s r fr (en - fr) p q) :=
  ev_Finder_forward _ _ _ _ (vc_Finder_forward_0 _ _ _ _ (z_forward hC hs hf hen hni (fun c hc hb => ⟨rfl, c, hc, rfl, hb⟩) (en - fr) fr a (by omega) (Nat.le_refl _) ha (fun q => by
    rw [Nat.sub_self]
    exact ⟨fun h => ⟨q, h, rfl⟩, fun ⟨p, h, e⟩ => by have e : p = q := e; rw [← e]; exact h⟩)))
theorem add_m1 {n : Nat} (h : 1 ≤ n) : nI n + -nI 1 = nI (n - 1) := by
  rw [← Int32.sub_eq_add_neg, sub_nI h]
theorem z_backward {d : Nat} {w : Wd} {Q : Int32 → Wd → Prop} {s r a fr en : Nat} (hC : CtI w) (hs : s < cm w) (hf : FtI w s r (ni w r)) (hen : en ≤ ni w r) (hni : ni w r ≤ 10) (hfr : 1 ≤ fr) (hal : ∀ q, a.testBit q = true → q ≤ len w s) (hq : ∀ c, c < 131072 → (∀ p, c.testBit p = true ↔ ∃ q, a.testBit q = true ∧ Go w s r fr (en - fr) p q) → Q (nI c) w) : ∀ (n e c : Nat), fr + n = e → e ≤ en → c < 131072 → (∀ p, c.testBit p = true ↔ ∃ q, a.testBit q = true ∧ Go w s r e (en - e) p q) → Z m_Finder_backward (d + 1) (qI Q) 13 [(0, .ref 36), (1, .int (nI a)), (2, .int (nI fr)), (3, .int (nI en)), (4, .int (nI c)), (5, .int (nI (e - 1)))] [] w := by
  intro n
  induction n with
  | zero =>
    intro e c he hee hc hb
    refine vc_Finder_backward_13 _ _ _ _ _ ⟨fun _ => hq c hc (by rw [show fr = e by omega]; exact hb), fun g => absurd ?_ g⟩
    rw [nI_ltI (by omega) (by omega)]
    omega
  | succ n ih =>
    intro e c he hee hc hb
    have hlen : ∀ q, c.testBit q = true → q ≤ 16 := fun q hq => by
      have := tb_lt (k := 17) hc hq
      omega
    refine vc_Finder_backward_13 _ _ _ _ _ ⟨fun g => ?_, fun _ => ⟨e - 1, rfl, by omega, fun g => ⟨e - 1, rfl, by omega, ?_⟩, fun g => ?_⟩⟩
    · rw [nI_ltI (by omega) (by omega)] at g; omega
    · rcases hf (e - 1) (by omega) with ⟨-, k⟩ | ⟨k, f, f1, f2, f3⟩
      · exact absurd k g
      · rw [f2, shr_nI (by omega) (by decide), and_nI, add_m1 (by omega)]
        refine ih (e - 1) _ (by omega) (by omega) (Nat.lt_of_le_of_lt Nat.and_le_left (by omega)) (fun p => ?_)
        rw [bw_spec, hb, show en - (e - 1) = (en - e) + 1 by omega]
        constructor
        · rintro ⟨⟨q, q1, q2⟩, h2⟩
          obtain ⟨h3, h4⟩ := (f3 p).mp h2
          exact ⟨q, q1, p + 1, Or.inr ⟨k, h3, h4, rfl⟩, by rw [show e - 1 + 1 = e by omega]; exact q2⟩
        · rintro ⟨q, q1, u, u1, u2⟩
          rw [show e - 1 + 1 = e by omega] at u2
          rcases u1 with ⟨k2, -⟩ | ⟨-, k3, k4, rfl⟩
          · exact absurd k2 k
          · exact ⟨⟨q, q1, u2⟩, (f3 p).mpr ⟨k3, k4⟩⟩
    · rcases hf (e - 1) (by omega) with ⟨k, -⟩ | ⟨k, f, f1, f2, f3⟩
      · rw [shr_nI (by omega) (by decide), shr_nI (by omega) (by decide), shr_nI (by omega) (by decide), or_nI, or_nI, or_nI, add_m1 (by omega)]
        have d1 : c / 2 ^ 1 < 2 ^ 17 := Nat.lt_of_le_of_lt (Nat.div_le_self _ _) hc
        have d2 : c / 2 ^ 2 < 2 ^ 17 := Nat.lt_of_le_of_lt (Nat.div_le_self _ _) hc
        have d3 : c / 2 ^ 3 < 2 ^ 17 := Nat.lt_of_le_of_lt (Nat.div_le_self _ _) hc
        refine ih (e - 1) _ (by omega) (by omega) (or_lt (k := 17) hc (or_lt (or_lt d1 d2) d3)) (fun p => ?_)
        rw [show (c ||| (c / 2 ^ 1 ||| c / 2 ^ 2 ||| c / 2 ^ 3)) = (c ||| ((c / 2 ^ 1) ||| (c / 2 ^ 2)) ||| (c / 2 ^ 3)) by rw [Nat.or_assoc c, Nat.or_assoc]]
        rw [bw_some, show en - (e - 1) = (en - e) + 1 by omega]
        constructor
        · rintro ⟨u, u1, u2, u3⟩
          obtain ⟨q, q1, q2⟩ := (hb u).mp u1
          refine ⟨q, q1, u, Or.inl ⟨k, u2, u3, ?_⟩, by rw [show e - 1 + 1 = e by omega]; exact q2⟩
          by_cases hm : en - e = 0
          · rw [hm] at q2
            have q2 : u = q := q2
            rw [q2]
            exact hal q q1
          · rw [show en - e = (en - e - 1) + 1 by omega] at q2
            obtain ⟨v, v1, v2⟩ := q2
            rcases v1 with ⟨-, k3, k4, k5⟩ | ⟨-, k3, -⟩ <;> omega
        · rintro ⟨q, q1, u, u1, u2⟩
          rw [show e - 1 + 1 = e by omega] at u2
          rcases u1 with ⟨-, k3, k4, k5⟩ | ⟨k2, -⟩
          · exact ⟨u, (hb u).mpr ⟨q, q1, u2⟩, k3, k4⟩
          · exact absurd k k2
      · rw [f2] at g
        exact absurd g (m1_ne f (by omega))
theorem c_backward {d : Nat} {w : Wd} {s r fr en : Nat} (hC : CtI w) (hs : s < cm w) (hf : FtI w s r (ni w r)) (hen : en = ni w r) (hni : ni w r ≤ 10) (hfr : 1 ≤ fr) (hfe : fr ≤ en) : EvI m_Finder_backward (d + 1) [.ref 36, .int (nI (2 ^ (len w s + 1) - 1)), .int (nI fr), .int (nI en)] w (fun x w' => w' = w ∧ ∃ c, c < 131072 ∧ x = nI c ∧ ∀ p, c.testBit p = true ↔ ∃ q, q ≤ len w s ∧ Go w s r fr (en - fr) p q) := by
  obtain ⟨l1, l2, l3⟩ := hC.l hs
  have hp := pow17 l2
  have hpos : 0 < 2 ^ (len w s + 1) := Nat.two_pow_pos _
  refine ev_Finder_backward _ _ _ (vc_Finder_backward_0 _ _ _ ?_)
  have hm : (if nI 10 < nI en then nI 10 else nI en) = nI en := by
    rw [if_neg]
    rw [nI_ltI (by omega) (by omega)]
    omega
  rw [hm, sub_nI (by omega)]
  have hbase : ∀ p, (2 ^ (len w s + 1) - 1).testBit p = true ↔ ∃ q, (2 ^ (len w s + 1) - 1).testBit q = true ∧ Go w s r en (en - en) p q := by
    intro p
    rw [Nat.sub_self]
    exact ⟨fun h => ⟨p, h, rfl⟩, fun ⟨q, h, e⟩ => by have e : p = q := e; rw [e]; exact h⟩
  have hal : ∀ q, (2 ^ (len w s + 1) - 1).testBit q = true → q ≤ len w s := by
    intro q hq
    rw [tb_all, decide_eq_true_eq] at hq
    omega
  refine z_backward hC hs hf (by omega) hni hfr hal ?_ (en - fr) en _ (by omega) (Nat.le_refl _) (by omega) hbase
  intro c hc hb
  refine ⟨rfl, c, hc, rfl, fun p => (hb p).trans ?_⟩
  constructor
  · rintro ⟨q, q1, q2⟩
    exact ⟨q, hal q q1, q2⟩
  · rintro ⟨q, q1, q2⟩
    exact ⟨q, by rw [tb_all, decide_eq_true_eq]; omega, q2⟩
/-- the row of right places by left places, at base b: as a set of pairs -/
def RwI (w : Wd) (b : Nat) (S : Nat → Nat → Prop) : Prop := ∀ l, l < 16 → ∃ c, c < 65536 ∧ w.1 37 (b + l) = nI c ∧ ∀ t, c.testBit t = true ↔ S l t
theorem RwI.cg {w : Wd} {b : Nat} {S S' : Nat → Nat → Prop} (h : RwI w b S) (e : ∀ l t, l < 16 → (S l t ↔ S' l t)) : RwI w b S' := fun l hl => by
  obtain ⟨c, c1, c2, c3⟩ := h l hl
  exact ⟨c, c1, c2, fun t => (c3 t).trans (e l t hl)⟩
/-- only places b .. b + 15 of the row 37 have changed -/
def F37 (b : Nat) (w w' : Wd) : Prop := (∀ a k, ¬ (a = 37 ∧ b ≤ k ∧ k < b + 16) → w'.1 a k = w.1 a k) ∧ w'.2 = w.2
theorem F37.rf {b : Nat} {w : Wd} : F37 b w w := ⟨fun _ _ _ => rfl, rfl⟩
theorem F37.tr {b : Nat} {w w1 w2 : Wd} (h : F37 b w w1) (h2 : F37 b w1 w2) : F37 b w w2 := ⟨fun a k hk => (h2.1 a k hk).trans (h.1 a k hk), h2.2.trans h.2⟩
theorem F37.off {b : Nat} {w w' : Wd} (h : F37 b w w') {a : Nat} (ha : a ≠ 37) : w'.1 a = w.1 a := funext fun k => h.1 a k (fun e => ha e.1)
theorem F37.fr {b : Nat} {w w' : Wd} (h : F37 b w w') : Fr w w' := ⟨fun a ha => h.off (by omega), h.2⟩
theorem z_keepPairs {d : Nat} {w0 : Wd} {Q : Wd → Prop} {b u c : Nat} {x4 : Int32} (hb : b + 16 ≤ 7680) (hu : u < 16) (hc : c < 65536) {S : Nat → Nat → Prop} (h0 : RwI w0 b S) (hq : ∀ w', F37 b w0 w' → RwI w' b (fun l t => S l t ∨ (c.testBit l = true ∧ t = u)) → Q w') : ∀ (n l : Nat) (w : Wd), l + n = 16 → F37 b w0 w → RwI w b (fun l' t => S l' t ∨ (l' < l ∧ c.testBit l' = true ∧ t = u)) → Z m_Finder_keepPairs d (qV Q) 18 [(0, .ref 36), (1, .int (nI b)), (2, .int (nI u)), (3, .int (nI c)), (4, .int x4), (5, .int (nI l))] [] w := by
  intro n
  induction n with
  | zero =>
    intro l w hl hf hr
    refine vc_Finder_keepPairs_18 _ _ _ _ _ ⟨fun _ => hq w hf (hr.cg (fun l' t hl' => ?_)), fun g => absurd ?_ g⟩
    · constructor
      · rintro (h | ⟨-, h⟩)
        · exact Or.inl h
        · exact Or.inr h
      · rintro (h | h)
        · exact Or.inl h
        · exact Or.inr ⟨by omega, h⟩
    · rw [nI_leI (by omega) (by omega)]; omega
  | succ n ih =>
    intro l w hl hf hr
    refine vc_Finder_keepPairs_18 _ _ _ _ _ ⟨fun g => ?_, fun _ => ?_⟩
    · rw [nI_leI (by omega) (by omega)] at g; omega
    · rw [bit_nI (by omega) (by omega)]
      refine ⟨fun g => ?_, fun g => ⟨b + l, by rw [nI_add], by omega, b + l, by rw [nI_add], by omega, ?_⟩⟩
      · rw [nI_add]
        refine ih (l + 1) w (by omega) hf (hr.cg (fun l' t hl' => ?_))
        constructor
        · rintro (h | ⟨h1, h⟩)
          · exact Or.inl h
          · exact Or.inr ⟨by omega, h⟩
        · rintro (h | ⟨h1, h2, h3⟩)
          · exact Or.inl h
          · refine Or.inr ⟨?_, h2, h3⟩
            by_cases e : l' = l
            · subst e; exact absurd h2 g
            · omega
      · have g : c.testBit l = true := Classical.not_not.mp g
        obtain ⟨v, v1, v2, v3⟩ := hr l (by omega)
        rw [nI_add, v2, one_shl (by omega), or_nI]
        refine ih (l + 1) _ (by omega) (hf.tr ⟨fun a k hk => by rw [up1_1, if_neg (fun e => hk ⟨e.1, by omega, by omega⟩)], rfl⟩) (fun l' hl' => ?_)
        by_cases e : l' = l
        · subst e
          refine ⟨v ||| 2 ^ u, or_pow (n := 16) v1 (by omega), by rw [up1_1, if_pos ⟨rfl, rfl⟩], fun t => ?_⟩
          rw [tb_or_pow, v3]
          constructor
          · rintro ((h | ⟨h1, h2⟩) | h)
            · exact Or.inl h
            · exact Or.inr ⟨by omega, h2⟩
            · exact Or.inr ⟨by omega, g, h⟩
          · rintro (h | ⟨h1, h2, h3⟩)
            · exact Or.inl (Or.inl h)
            · exact Or.inr h3
        · obtain ⟨v', a1, a2, a3⟩ := hr l' hl'
          refine ⟨v', a1, by rw [up1_1, if_neg (by omega)]; exact a2, fun t => ?_⟩
          rw [a3]
          constructor
          · rintro (h | ⟨h1, h2⟩)
            · exact Or.inl h
            · exact Or.inr ⟨by omega, h2⟩
          · rintro (h | ⟨h1, h2⟩)
            · exact Or.inl h
            · exact Or.inr ⟨by omega, h2⟩
theorem c_keepPairs {d : Nat} {w : Wd} {b u c : Nat} (hb : b + 16 ≤ 7680) (hu : u < 16) (hc : c < 65536) {S : Nat → Nat → Prop} (h0 : RwI w b S) : EvV m_Finder_keepPairs d [.ref 36, .int (nI b), .int (nI u), .int (nI c), .int (nI 0)] w (fun w' => F37 b w w' ∧ RwI w' b (fun l t => S l t ∨ (c.testBit l = true ∧ t = u))) ∧ EvV m_Finder_keepPairs d [.ref 36, .int (nI b), .int (nI u), .int (nI c), .int (nI 1)] w (fun w' => F37 b w w' ∧ RwI w' b (fun l t => (l ≠ u ∧ S l t) ∨ (l = u ∧ c.testBit t = true))) := by
  refine ⟨ev_Finder_keepPairs _ _ _ _ (vc_Finder_keepPairs_0 _ _ _ _ ⟨fun _ => ?_, fun g => absurd rfl g⟩), ev_Finder_keepPairs _ _ _ _ (vc_Finder_keepPairs_0 _ _ _ _ ⟨fun g => absurd g (by decide), fun _ => ⟨b + u, by rw [nI_add], by omega, ?_, ?_⟩⟩)⟩
  · exact z_keepPairs hb hu hc h0 (fun w' a1 a2 => ⟨a1, a2⟩) 16 0 w rfl F37.rf (h0.cg (fun l t hl => ⟨Or.inl, fun h => h.elim id (fun e => absurd e.1 (Nat.not_lt_zero _))⟩))
  · exact ⟨fun a k hk => by rw [up1_1, if_neg (fun e => hk ⟨e.1, by omega, by omega⟩)], rfl⟩
  · intro l hl
    by_cases e : l = u
    · subst e
      exact ⟨c, hc, by rw [up1_1, if_pos ⟨rfl, rfl⟩], fun t => ⟨fun h => Or.inr ⟨rfl, h⟩, fun h => h.elim (fun x => absurd rfl x.1) (fun x => x.2)⟩⟩
    · obtain ⟨v, a1, a2, a3⟩ := h0 l hl
      exact ⟨v, a1, by rw [up1_1, if_neg (by omega)]; exact a2, fun t => by
        rw [a3]
        exact ⟨fun h => Or.inl ⟨e, h⟩, fun h => h.elim (fun x => x.2) (fun x => absurd x.1 e)⟩⟩
end
section
/-! THE FINDER draws a rule, a sentence, all -/
theorem FtI.f37 {w w' : Wd} {s r n b : Nat} (h : FtI w s r n) (f : F37 b w w') : FtI w' s r n := by
  have m := f.fr.mf
  intro i hi
  rw [m.ixE, f.off (a := 67) (by omega), f.off (a := 41) (by omega)]
  rcases h i hi with a | ⟨a, q, b, c, e⟩
  · exact Or.inl a
  · exact Or.inr ⟨a, q, b, c, fun p => by rw [m.lenE, m.fitE]; exact e p⟩
/-- first u and second v of a find -/
def Pr (w : Wd) (s r mn mx : Nat) (u v : Nat) : Prop := (∃ p0, p0 ≤ len w s ∧ Go w s r 0 mn p0 u) ∧ u < len w s ∧ fit w s r mn u ∧ Go w s r (mn + 1) (mx - mn - 1) (u + 1) v ∧ v < len w s ∧ fit w s r mx v ∧ ∃ z, z ≤ len w s ∧ Go w s r (mx + 1) (ni w r - mx - 1) (v + 1) z
theorem z_drawRule {d : Nat} {w0 : Wd} {Q : Wd → Prop} {s r a b F G0 : Nat} (hC : CtI w0) (hs : s < cm w0) (hr : r < nr w0) (ha : a < ni w0 r) (hb : b < ni w0 r) (hab : a ≠ b) (hni : ni w0 r ≤ 10) (hft : FtI w0 s r (ni w0 r))
    (hF : F < 65536) (hF2 : ∀ u, F.testBit u = true ↔ (∃ p0, p0 ≤ len w0 s ∧ Go w0 s r 0 (min a b) p0 u) ∧ u < len w0 s ∧ fit w0 s r (min a b) u)
    (hG : G0 < 65536) (hG2 : ∀ v, G0.testBit v = true ↔ (∃ z, z ≤ len w0 s ∧ Go w0 s r (max a b + 1) (ni w0 r - max a b - 1) (v + 1) z) ∧ v < len w0 s ∧ fit w0 s r (max a b) v)
    (hq : ∀ w', F37 ((s * 12 + r) * 16) w0 w' → RwI w' ((s * 12 + r) * 16) (fun l t => if a < b then Pr w0 s r a b l t else Pr w0 s r b a t l) → Q w') :
    ∀ (n u : Nat) (w : Wd), u + n = len w0 s → F37 ((s * 12 + r) * 16) w0 w → RwI w ((s * 12 + r) * 16) (fun l t => if a < b then l < u ∧ Pr w0 s r a b l t else t < u ∧ Pr w0 s r b a t l) →
      Z m_Finder_drawRule (d + 1) (qV Q) 141 [(0, .ref 36), (1, .int (nI s)), (2, .int (nI r)), (3, .int (nI (len w0 s))), (4, .int (nI (2 ^ (len w0 s + 1) - 1))), (5, .int (nI a)), (6, .int (nI b)), (7, .int (nI (min a b))), (8, .int (nI (max a b))), (9, .int (nI F)), (10, .int (nI G0)), (11, .int (nI u))] [] w := by
  obtain ⟨l1, l2, l3⟩ := hC.l hs
  have hnr := hC.2.2.2.1.1
  have hp17 := pow17 l2
  intro n
  induction n with
  | zero =>
    intro u w hu hf hR
    refine vc_Finder_drawRule_141 _ _ _ _ _ _ _ _ _ _ _ ⟨fun _ => hq w hf (hR.cg (fun l t hl => ?_)), fun g => absurd ?_ g⟩
    · split
      · exact ⟨fun h => h.2, fun h => ⟨by have := h.2.1; omega, h⟩⟩
      · exact ⟨fun h => h.2, fun h => ⟨by have := h.2.1; omega, h⟩⟩
    · rw [nI_leI (by omega) (by omega)]; omega
  | succ n ih =>
    intro u w hu hf hR
    have m := hf.fr.mf
    refine vc_Finder_drawRule_141 _ _ _ _ _ _ _ _ _ _ _ ⟨fun g => ?_, fun _ => ?_⟩
    · rw [nI_leI (by omega) (by omega)] at g; omega
    · rw [bit_nI (by omega) (by omega)]
      refine ⟨fun g => ?_, fun g => ?_⟩
      · rw [nI_add]
        refine ih (u + 1) w (by omega) hf (hR.cg (fun l t hl => ?_))
        have no : ∀ v, ¬ Pr w0 s r (min a b) (max a b) u v := fun v hv => g ((hF2 u).mpr ⟨hv.1, hv.2.1, hv.2.2.1⟩)
        split
        · rename_i hlt
          rw [show min a b = a by omega, show max a b = b by omega] at no
          constructor
          · rintro ⟨h1, h2⟩; exact ⟨by omega, h2⟩
          · rintro ⟨h1, h2⟩
            refine ⟨?_, h2⟩
            by_cases e : l = u
            · subst e; exact absurd h2 (no t)
            · omega
        · rename_i hlt
          rw [show min a b = b by omega, show max a b = a by omega] at no
          constructor
          · rintro ⟨h1, h2⟩; exact ⟨by omega, h2⟩
          · rintro ⟨h1, h2⟩
            refine ⟨?_, h2⟩
            by_cases e : t = u
            · subst e; exact absurd h2 (no l)
            · omega
      · have g : F.testBit u = true := Classical.not_not.mp g
        have gu := (hF2 u).mp g
        have hpu : 2 ^ (u + 1) < 2 ^ (len w s + 1) := by rw [m.lenE]; exact Nat.pow_lt_pow_right (by decide) (by omega)
        rw [nI_add, one_shl (by omega), nI_add]
        refine ⟨_, by rw [← m.lenE]; exact c_forward (hC.fr hf.fr) (by rw [m.cmE]; exact hs) (by rw [m.niE]; exact hft.f37 hf) (by rw [m.niE]; omega) (by rw [m.niE]; exact hni) (by omega) hpu, ?_⟩
        rintro x w1 ⟨rfl, c, c1, rfl, c2⟩
        rw [m.lenE] at c1
        have c2' : ∀ v, (c &&& G0).testBit v = true ↔ Pr w0 s r (min a b) (max a b) u v := by
          intro v
          rw [Nat.testBit_and, Bool.and_eq_true, c2 v, hG2 v]
          constructor
          · rintro ⟨⟨p, p1, p2⟩, q1, q2, q3⟩
            rw [Nat.testBit_two_pow, decide_eq_true_eq] at p1
            subst p1
            rw [m.GoE, show max a b - (min a b + 1) = max a b - min a b - 1 by omega] at p2
            exact ⟨gu.1, gu.2.1, gu.2.2, p2, q2, q3, q1⟩
          · rintro ⟨-, -, -, p2, q2, q3, q1⟩
            refine ⟨⟨u + 1, by rw [Nat.testBit_two_pow, decide_eq_true_eq], ?_⟩, q1, q2, q3⟩
            rw [m.GoE, show max a b - (min a b + 1) = max a b - min a b - 1 by omega]
            exact p2
        have hcg : c &&& G0 < 65536 := Nat.lt_of_le_of_lt Nat.and_le_right hG
        have hB : (s * 12 + r) * 16 + 16 ≤ 7680 := by omega
        have hbase : (nI s * nI 12 + nI r) * nI 16 = nI ((s * 12 + r) * 16) := by rw [pk_mul, nI_add, pk_mul]
        obtain ⟨k0, k1⟩ := c_keepPairs (d := d) (w := w1) hB (show u < 16 by omega) hcg hR
        rw [and_nI, hbase]
        refine ⟨fun e => ⟨_, k0, ?_⟩, fun e => ⟨_, k1, ?_⟩⟩
        · rintro w2 ⟨f2, R2⟩
          have hlt : ¬ a < b := fun h => e (by rw [show min a b = a by omega])
          rw [show min a b = b by omega, show max a b = a by omega] at c2'
          refine ih (u + 1) w2 (by omega) (hf.tr f2) (R2.cg (fun l t hl => ?_))
          simp only [if_neg hlt]
          rw [c2' l]
          constructor
          · rintro (⟨h1, h2⟩ | ⟨h1, h2⟩)
            · exact ⟨by omega, h2⟩
            · subst h2; exact ⟨by omega, h1⟩
          · rintro ⟨h1, h2⟩
            by_cases e2 : t = u
            · subst e2; exact Or.inr ⟨h2, rfl⟩
            · exact Or.inl ⟨by omega, h2⟩
        · rintro w2 ⟨f2, R2⟩
          have e3 := nI_inj (by omega) (by omega) e
          have hlt : a < b := by omega
          rw [show min a b = a by omega, show max a b = b by omega] at c2'
          refine ih (u + 1) w2 (by omega) (hf.tr f2) (R2.cg (fun l t hl => ?_))
          simp only [if_pos hlt]
          rw [c2' t]
          constructor
          · rintro (⟨h1, h2, h3⟩ | ⟨h1, h2⟩)
            · exact ⟨by omega, h3⟩
            · subst h1; exact ⟨by omega, h2⟩
          · rintro ⟨h1, h2⟩
            by_cases e2 : l = u
            · subst e2; exact Or.inr ⟨rfl, h2⟩
            · exact Or.inl ⟨e2, by omega, h2⟩
/-- the finder's rows at base b, and 'fitting' -/
def FD (b : Nat) (w w' : Wd) : Prop := (∀ a k, a ≠ 41 → ¬ (a = 37 ∧ b ≤ k ∧ k < b + 16) → w'.1 a k = w.1 a k) ∧ w'.2 = w.2
theorem FD.fr {b : Nat} {w w' : Wd} (h : FD b w w') : Fr w w' := ⟨fun a ha => funext fun k => h.1 a k (by omega) (by omega), h.2⟩
theorem RwI.cgw {w w' : Wd} {b : Nat} {S : Nat → Nat → Prop} (h : RwI w b S) (e : ∀ l, l < 16 → w'.1 37 (b + l) = w.1 37 (b + l)) : RwI w' b S := fun l hl => by
  obtain ⟨c, c1, c2, c3⟩ := h l hl
  exact ⟨c, c1, (e l hl).trans c2, c3⟩
theorem c_drawRule {d : Nat} {w : Wd} {s r : Nat} (hC : CtI w) (hs : s < cm w) (hr : r < nr w) (h0 : RwI w ((s * 12 + r) * 16) (fun _ _ => False)) : EvV m_Finder_drawRule (d + 4) [.ref 36, .int (nI s), .int (nI r)] w (fun w' => FD ((s * 12 + r) * 16) w w' ∧ RwI w' ((s * 12 + r) * 16) (fun l t => t < 16 ∧ ∃ p, Rc w s r (ni w r) p l t)) := by
  obtain ⟨l1, l2, l3⟩ := hC.l hs
  have hp17 := pow17 l2
  have hpos : 0 < 2 ^ (len w s + 1) := Nat.two_pow_pos _
  obtain ⟨-, ⟨hni, -, -⟩, a, b, ha, hb, hab, hl, hrt, hit⟩ := hC.2.2.2.2.1 r hr
  refine ev_Finder_drawRule _ _ (vc_Finder_drawRule_0 _ _ ⟨_, c_Sentences_lengthOf hC.2.1 hs, ?_⟩)
  rintro x1 w1 ⟨rfl, rfl⟩
  refine ⟨_, c_Book_leftItem (d := d + 2) hC.2.2 hr, ?_⟩
  rintro x2 w2 ⟨rfl, rfl⟩
  refine ⟨_, c_Book_rightItem (d := d + 2) hC.2.2 hr, ?_⟩
  rintro x3 w3 ⟨rfl, rfl⟩
  rw [hl, hrt]
  have p0 : ∀ {x : Nat}, x < 10 → ¬ nI x < 0 := fun hx h => by have := lt0 h; rw [nI_toInt (by omega)] at this; omega
  refine ⟨fun g => absurd g (p0 (by omega)), fun _ => ⟨fun g => ?_, fun _ => ⟨fun g => absurd g (p0 (by omega)), fun _ => ⟨fun _ => ⟨_, c_fitItems (d := d) hC hs hr, ?_⟩, fun g => absurd ?_ g⟩⟩⟩⟩
  · rw [nI_leI (by omega) (by omega)] at g; omega
  · rintro w4 ⟨f4, f41, ft⟩
    have m := f4.mf
    have hC4 := hC.fr f4
    have hs4 : s < cm w4 := by rw [m.cmE]; exact hs
    have hr4 : r < nr w4 := by rw [m.nrE]; exact hr
    have hni4 : ni w4 r ≤ 10 := by rw [m.niE]; exact hni
    have ft4 : FtI w4 s r (ni w4 r) := by rw [m.niE]; exact ft
    have emn : (if nI b < nI a then nI b else nI a) = nI (min a b) := by
      split
      · rename_i h; rw [nI_ltI (by omega) (by omega)] at h; congr 1; omega
      · rename_i h; rw [nI_ltI (by omega) (by omega)] at h; congr 1; omega
    have emx : (if nI a < nI b then nI b else nI a) = nI (max a b) := by
      split
      · rename_i h; rw [nI_ltI (by omega) (by omega)] at h; congr 1; omega
      · rename_i h; rw [nI_ltI (by omega) (by omega)] at h; congr 1; omega
    rw [emn, emx, all_nI l2]
    -- which items are some
    have notsome : ∀ i, i < ni w3 r → (i = a ∨ i = b) → ¬ w3.1 67 (ix w3 r i) = 1 := by
      intro i hi hor h
      rcases hit i hi with ⟨-, -, -, q1, q2⟩ | ⟨q, -⟩
      · rcases hor with e | e
        · exact q1 e
        · exact q2 e
      · rw [h] at q; exact absurd q (by decide)
    have fitc : ∀ i, i < ni w3 r → (i = a ∨ i = b) → ∃ f, f < 65536 ∧ w4.1 41 i = nI f ∧ ∀ p, f.testBit p = true ↔ p < len w4 s ∧ fit w4 s r i p := by
      intro i hi hor
      rcases ft i hi with ⟨q, -⟩ | ⟨-, q⟩
      · rw [m.ixE, f4.1 67 (by omega)] at q
        exact absurd q (notsome i hi hor)
      · exact q
    refine ⟨_, by rw [← m.lenE]; exact c_forward (s := s) (r := r) hC4 hs4 ft4 (en := min a b) (by rw [m.niE]; omega) hni4 (Nat.zero_le _) (by rw [m.lenE]; omega), ?_⟩
    rintro x5 w5 ⟨rfl, c5, c51, rfl, c52⟩
    rw [m.lenE] at c51
    obtain ⟨f1, f11, f12, f13⟩ := fitc (min a b) (by omega) (by omega)
    obtain ⟨f2, f21, f22, f23⟩ := fitc (max a b) (by omega) (by omega)
    refine ⟨min a b, rfl, by omega, _, c_Book_itemsOf (d := d + 2) hC4.2.2 hr4, ?_⟩
    rintro x6 w6 ⟨rfl, rfl⟩
    rw [nI_add]
    refine ⟨_, by rw [← m.lenE]; exact c_backward (d := d + 2) (s := s) (r := r) (en := ni w6 r) hC4 hs4 ft4 rfl hni4 (by omega) (by rw [m.niE]; omega), ?_⟩
    rintro x7 w7 ⟨rfl, c7, c71, rfl, c72⟩
    refine ⟨max a b, rfl, by omega, ?_⟩
    rw [f12, f22, and_nI, shr_nI (by omega) (by decide), and_nI]
    rw [← m.lenE]
    refine z_drawRule hC4 hs4 hr4 (by rw [m.niE]; exact ha) (by rw [m.niE]; exact hb) hab hni4 ft4 (Nat.lt_of_le_of_lt Nat.and_le_right f11) (fun u => ?_) (Nat.lt_of_le_of_lt Nat.and_le_right f21) (fun v => ?_) (fun w' g1 g2 => ?_) (len w7 s) 0 w7 (Nat.zero_add _) F37.rf ?_
    · rw [Nat.testBit_and, Bool.and_eq_true, c52, f13]
      constructor
      · rintro ⟨⟨p, p1, p2⟩, p3⟩
        rw [tb_all, decide_eq_true_eq] at p1
        exact ⟨⟨p, by omega, p2⟩, p3⟩
      · rintro ⟨⟨p, p1, p2⟩, p3⟩
        exact ⟨⟨p, by rw [tb_all, decide_eq_true_eq]; omega, p2⟩, p3⟩
    · rw [bw_spec, c72, f23, show ni w7 r - (max a b + 1) = ni w7 r - max a b - 1 by omega]
    · refine ⟨⟨fun x k h1 h2 => (g1.1 x k h2).trans (by rw [f41 x h1]), g1.2.trans f4.2⟩, g2.cg (fun l t hl => ?_)⟩
      have hsd : ∀ i, i < ni w3 r → sd w3 r i = if i = a then 1 else if i = b then 2 else 0 := by
        intro i hi
        rcases hit i hi with ⟨-, -, q3, q1, q2⟩ | ⟨-, -, -, -, q⟩
        · rw [if_neg q1, if_neg q2]; exact N_of q3
        · exact N_of q (by split <;> first | omega | (split <;> omega))
      by_cases ht : t < 16
      · have hcut := Rc.cut (w := w3) (s := s) (r := r) (n := ni w3 r) hsd ha hb hab notsome hl ht
        rw [hcut]
        have ePr : ∀ mn mx u v, Pr w7 s r mn mx u v = Pr w3 s r mn mx u v := by
          intro mn mx u v
          unfold Pr
          simp only [m.lenE, m.GoE, m.fitE, m.niE]
        simp only [ePr]
        by_cases hlt : a < b
        · simp only [if_pos hlt]
          rw [show min a b = a by omega, show max a b = b by omega]
          constructor
          · rintro h
            exact ⟨ht, l, t, ⟨rfl, rfl⟩, h.1, h.2.1, h.2.2.1, h.2.2.2.1, h.2.2.2.2.1, h.2.2.2.2.2.1, h.2.2.2.2.2.2⟩
          · rintro ⟨-, u, v, ⟨rfl, rfl⟩, h1, h2, h3, h4, h5, h6, h7⟩
            exact ⟨h1, h2, h3, h4, h5, h6, h7⟩
        · simp only [if_neg hlt]
          rw [show min a b = b by omega, show max a b = a by omega]
          constructor
          · rintro h
            exact ⟨ht, t, l, ⟨rfl, rfl⟩, h.1, h.2.1, h.2.2.1, h.2.2.2.1, h.2.2.2.2.1, h.2.2.2.2.2.1, h.2.2.2.2.2.2⟩
          · rintro ⟨-, u, v, ⟨rfl, rfl⟩, h1, h2, h3, h4, h5, h6, h7⟩
            exact ⟨h1, h2, h3, h4, h5, h6, h7⟩
      · have hno : ¬ (if a < b then Pr w7 s r a b l t else Pr w7 s r b a t l) := by
          split
          · intro h
            have := h.2.2.2.2.1
            rw [m.lenE] at this
            omega
          · intro h
            have := h.2.1
            rw [m.lenE] at this
            omega
        exact ⟨fun h => absurd h hno, fun h => absurd h.1 ht⟩
    · refine RwI.cg (S := fun _ _ => False) ?_ (fun l t hl => ?_)
      · exact h0.cgw (fun l hl => by rw [f41 37 (by omega)])
      · constructor
        · exact fun h => h.elim
        · intro h
          split at h <;> exact absurd h.1 (Nat.not_lt_zero _)
  · rw [nI_ltI (by omega) (by omega)]; omega
end
section
/-! THE FINDER's rows: counts, clearing, a sentence, all -/
theorem pcn_small {c : Nat} (h : c < 65536) : pcn 32 c = pcn 16 c := by
  unfold pcn
  rw [show (32 : Nat) = 16 + 16 from rfl, ct_add, ct_zero (p := fun j => c.testBit (16 + j)) (fun k _ => Nat.testBit_lt_two_pow (Nat.lt_of_lt_of_le (show c < 2 ^ 16 from h) (Nat.pow_le_pow_right (by decide) (by omega))))]
  rfl
theorem pcn_zero {c : Nat} (h : c < 65536) (hz : pcn 16 c = 0) : c = 0 := by
  apply Nat.eq_of_testBit_eq
  intro q
  rw [Nat.zero_testBit]
  by_cases hq : q < 16
  · exact ct_none hz q hq
  · exact Nat.testBit_lt_two_pow (Nat.lt_of_lt_of_le (show c < 2 ^ 16 from h) (Nat.pow_le_pow_right (by decide) (by omega)))
theorem sumN_zero {f : Nat → Nat} : ∀ {n : Nat}, sumN f n = 0 → ∀ k, k < n → f k = 0
  | 0, _, k, hk => absurd hk (Nat.not_lt_zero k)
  | n + 1, h, k, hk => by
    rw [sumN] at h
    by_cases e : k = n
    · subst e; omega
    · exact sumN_zero (n := n) (by omega) k (by omega)
abbrev rb (w : Wd) (s k l : Nat) : Nat := N w 37 ((s * 12 + k) * 16 + l)
abbrev cnt (w : Wd) (s k : Nat) : Nat := sumN (fun l => pcn 16 (rb w s k l)) 16
theorem cnt_le (w : Wd) (s k : Nat) : cnt w s k ≤ 256 := sumN_le (n := 16) (c := 16) (fun l _ => pcn_le 16 _)
/-- rule k's row at sentence s: numbers of 16 bits, and their count -/
def RoI (w : Wd) (s k : Nat) : Prop := ∀ l, l < 16 → rb w s k l < 65536 ∧ w.1 37 ((s * 12 + k) * 16 + l) = nI (rb w s k l)
def KI (w : Wd) (s k : Nat) : Prop := RoI w s k ∧ w.1 38 (s * 12 + k) = nI (cnt w s k)
theorem RoI.of {w : Wd} {s k : Nat} {S : Nat → Nat → Prop} (h : RwI w ((s * 12 + k) * 16) S) : RoI w s k ∧ ∀ l, l < 16 → ∀ t, (rb w s k l).testBit t = true ↔ S l t := by
  have key : ∀ l, l < 16 → rb w s k l < 65536 ∧ w.1 37 ((s * 12 + k) * 16 + l) = nI (rb w s k l) ∧ ∀ t, (rb w s k l).testBit t = true ↔ S l t := by
    intro l hl
    obtain ⟨c, c1, c2, c3⟩ := h l hl
    have e : rb w s k l = c := N_of c2
    rw [e]
    exact ⟨c1, c2, c3⟩
  exact ⟨fun l hl => ⟨(key l hl).1, (key l hl).2.1⟩, fun l hl => (key l hl).2.2⟩
theorem c_rightPlaces {d : Nat} {w : Wd} {s k l : Nat} (hs : s < 40) (hk : k < 12) (hl : l < 16) : EvI m_Finder_rightPlaces d [.ref 36, .int (nI s), .int (nI k), .int (nI l)] w (fun r w' => w' = w ∧ r = w.1 37 ((s * 12 + k) * 16 + l)) := by
  have p0 : ∀ {x : Nat}, x < 100 → ¬ nI x < 0 := fun hx h => by have := lt0 h; rw [nI_toInt (by omega)] at this; omega
  refine ev_Finder_rightPlaces _ _ _ (vc_Finder_rightPlaces_0 _ _ _ ⟨fun g => absurd g (p0 (by omega)), fun _ => ⟨fun g => ?_, fun _ => ⟨fun g => absurd g (p0 (by omega)), fun _ => ⟨fun g => ?_, fun _ => ⟨fun g => absurd g (p0 (by omega)), fun _ => ⟨fun _ => ⟨(s * 12 + k) * 16 + l, ?_, by omega, rfl, rfl⟩, fun g => absurd ?_ g⟩⟩⟩⟩⟩⟩)
  · rw [nI_leI (by omega) (by omega)] at g; omega
  · rw [nI_leI (by omega) (by omega)] at g; omega
  · rw [pk_mul, nI_add, pk_mul, nI_add]
  · rw [nI_ltI (by omega) (by omega)]; omega
theorem z_countPairs {d : Nat} {w : Wd} {Q : Int32 → Wd → Prop} {s k : Nat} (hs : s < 40) (hk : k < 12) (hR : RoI w s k) (hq : Q (nI (cnt w s k)) w) : ∀ (n l : Nat), l + n = 16 → Z m_Finder_countPairs (d + 1) (qI Q) 5 [(0, .ref 36), (1, .int (nI s)), (2, .int (nI k)), (3, .int (nI (sumN (fun l => pcn 16 (rb w s k l)) l))), (4, .int (nI l))] [] w := by
  intro n
  induction n with
  | zero =>
    intro l hl
    have e : l = 16 := by omega
    subst e
    exact vc_Finder_countPairs_5 _ _ _ _ ⟨fun _ => hq, fun g => absurd (by rw [nI_leI (by omega) (by omega)]; omega) g⟩
  | succ n ih =>
    intro l hl
    refine vc_Finder_countPairs_5 _ _ _ _ ⟨fun g => ?_, fun _ => ⟨_, c_rightPlaces hs hk (by omega), ?_⟩⟩
    · rw [nI_leI (by omega) (by omega)] at g; omega
    · rintro x1 w1 ⟨rfl, rfl⟩
      obtain ⟨r1, r2⟩ := hR l (by omega)
      rw [r2]
      refine ⟨_, c_Integer_bitCount (by omega), ?_⟩
      rintro x2 w2 ⟨rfl, rfl⟩
      rw [pcn_small r1, nI_add, nI_add]
      exact ih (l + 1) (by omega)
theorem c_countPairs {d : Nat} {w : Wd} {s k : Nat} (hs : s < 40) (hk : k < 12) (hR : RoI w s k) : EvI m_Finder_countPairs (d + 1) [.ref 36, .int (nI s), .int (nI k)] w (fun r w' => w' = w ∧ r = nI (cnt w s k)) :=
  ev_Finder_countPairs _ _ (vc_Finder_countPairs_0 _ _ (z_countPairs hs hk hR ⟨rfl, rfl⟩ 16 0 rfl))
/-- only sentence s's own rows have changed (and 'fitting') -/
def FS (s : Nat) (w w' : Wd) : Prop := (∀ a k, a ≠ 41 → ¬ (a = 37 ∧ s * 192 ≤ k ∧ k < s * 192 + 192) → ¬ (a = 38 ∧ s * 12 ≤ k ∧ k < s * 12 + 12) → ¬ (a = 39 ∧ k = s) → w'.1 a k = w.1 a k) ∧ w'.2 = w.2
theorem FS.rf {s : Nat} {w : Wd} : FS s w w := ⟨fun _ _ _ _ _ _ => rfl, rfl⟩
theorem FS.tr {s : Nat} {w w1 w2 : Wd} (h : FS s w w1) (h2 : FS s w1 w2) : FS s w w2 := ⟨fun a k g1 g2 g3 g4 => (h2.1 a k g1 g2 g3 g4).trans (h.1 a k g1 g2 g3 g4), h2.2.trans h.2⟩
theorem FS.fr {s : Nat} {w w' : Wd} (h : FS s w w') : Fr w w' := ⟨fun a ha => funext fun k => h.1 a k (by omega) (by omega) (by omega) (by omega), h.2⟩
theorem FS.up {s a k : Nat} {w : Wd} {v : Int32} (h : a = 41 ∨ (a = 37 ∧ s * 192 ≤ k ∧ k < s * 192 + 192) ∨ (a = 38 ∧ s * 12 ≤ k ∧ k < s * 12 + 12) ∨ (a = 39 ∧ k = s)) : FS s w (up1 w a k v) := by
  refine ⟨fun b j g1 g2 g3 g4 => ?_, rfl⟩
  rw [up1_1, if_neg]
  rintro ⟨rfl, rfl⟩
  rcases h with h | h | h | h
  · exact g1 h
  · exact g2 h
  · exact g3 h
  · exact g4 h
/-- rule k's row is empty -/
def E0 (w : Wd) (s k : Nat) : Prop := (∀ l, l < 16 → w.1 37 ((s * 12 + k) * 16 + l) = nI 0) ∧ w.1 38 (s * 12 + k) = nI 0
theorem KI.zero {w : Wd} {s k : Nat} (h : KI w s k) (hz : w.1 38 (s * 12 + k) ≤ 0) : E0 w s k := by
  have hc := cnt_le w s k
  rw [h.2, i_le, i_z, nI_toInt (by omega)] at hz
  have h0 : cnt w s k = 0 := by omega
  refine ⟨fun l hl => ?_, by rw [h.2, h0]⟩
  obtain ⟨r1, r2⟩ := h.1 l hl
  rw [r2, pcn_zero r1 (sumN_zero h0 l hl)]
theorem z_clear2 {d : Nat} {w0 : Wd} {Q : Wd → Prop} {s k : Nat} (hs : s < 40) (hk : k < 12) (h0 : KI w0 s k) (hnext : ∀ w', FS s w0 w' → (∀ a j, ¬ (a = 37 ∧ (s * 12 + k) * 16 ≤ j ∧ j < (s * 12 + k) * 16 + 16) → ¬ (a = 38 ∧ j = s * 12 + k) → w'.1 a j = w0.1 a j) → E0 w' s k → Z m_Finder_clearSentence d (qV Q) 9 [(0, .ref 36), (1, .int (nI s)), (2, .int (nI (k + 1)))] [] w') : ∀ (n l : Nat) (w : Wd), l + n = 16 → FS s w0 w → (∀ a j, ¬ (a = 37 ∧ (s * 12 + k) * 16 ≤ j ∧ j < (s * 12 + k) * 16 + l) → w.1 a j = w0.1 a j) → (∀ l', l' < l → w.1 37 ((s * 12 + k) * 16 + l') = nI 0) → Z m_Finder_clearSentence d (qV Q) 17 [(0, .ref 36), (1, .int (nI s)), (2, .int (nI k)), (3, .int (nI l))] [] w := by
  have fin : ∀ (w : Wd) (l : Nat), l ≤ 16 → FS s w0 w → (∀ a j, ¬ (a = 37 ∧ (s * 12 + k) * 16 ≤ j ∧ j < (s * 12 + k) * 16 + l) → w.1 a j = w0.1 a j) → (∀ l', l' < 16 → w.1 37 ((s * 12 + k) * 16 + l') = nI 0) → Z m_Finder_clearSentence d (qV Q) 9 [(0, .ref 36), (1, .int (nI s)), (2, .int (nI k + nI 1))] [] (up1 w 38 (s * 12 + k) (nI 0)) := by
    intro w l hl f1 f2 f3
    rw [nI_add]
    refine hnext _ (f1.tr (FS.up (by omega))) (fun a j g1 g2 => ?_) ⟨fun l' hl' => by rw [up1_1, if_neg (by omega)]; exact f3 l' hl', by rw [up1_1, if_pos ⟨rfl, rfl⟩]⟩
    rw [up1_1, if_neg g2]
    exact f2 a j (by omega)
  intro n
  induction n with
  | zero =>
    intro l w hl f1 f2 f3
    have e : l = 16 := by omega
    subst e
    refine vc_Finder_clearSentence_17 _ _ _ ⟨fun _ => ⟨s * 12 + k, by rw [pk_mul, nI_add], by omega, fin w 16 (Nat.le_refl _) f1 f2 f3⟩, fun g => absurd (by rw [nI_leI (by omega) (by omega)]; omega) g⟩
  | succ n ih =>
    intro l w hl f1 f2 f3
    have e38 : w.1 38 (s * 12 + k) = w0.1 38 (s * 12 + k) := f2 38 _ (by omega)
    refine vc_Finder_clearSentence_17 _ _ _ ⟨fun g => ?_, fun _ => ⟨s * 12 + k, by rw [pk_mul, nI_add], by omega, fun g => ⟨s * 12 + k, by rw [pk_mul, nI_add], by omega, ?_⟩, fun g => ⟨(s * 12 + k) * 16 + l, by rw [pk_mul, nI_add, pk_mul, nI_add], by omega, ?_⟩⟩⟩
    · rw [nI_leI (by omega) (by omega)] at g; omega
    · rw [e38] at g
      have hz := (h0.zero g).1
      refine fin w l (by omega) f1 f2 (fun l' hl' => ?_)
      by_cases e : l' < l
      · exact f3 l' e
      · rw [f2 37 _ (by omega)]
        exact hz l' hl'
    · rw [nI_add]
      refine ih (l + 1) _ (by omega) (f1.tr (FS.up (by omega))) (fun a j g1 => ?_) (fun l' hl' => ?_)
      · rw [up1_1, if_neg (by omega)]
        exact f2 a j (by omega)
      · rw [up1_1]
        split
        · rfl
        · exact f3 l' (by omega)
theorem z_clear1 {d : Nat} {w0 : Wd} {Q : Wd → Prop} {s : Nat} (hs : s < 40) (h0 : ∀ k, k < 12 → KI w0 s k) (hq : ∀ w', FS s w0 w' → w'.1 39 = w0.1 39 → (∀ k, k < 12 → E0 w' s k) → Q w') : ∀ (n k : Nat) (w : Wd), k + n = 12 → FS s w0 w → w.1 39 = w0.1 39 → (∀ k', k' < k → E0 w s k') → (∀ k', k ≤ k' → k' < 12 → KI w s k') → Z m_Finder_clearSentence d (qV Q) 9 [(0, .ref 36), (1, .int (nI s)), (2, .int (nI k))] [] w := by
  intro n
  induction n with
  | zero =>
    intro k w hk f1 f39 f2 f3
    have e : k = 12 := by omega
    subst e
    exact vc_Finder_clearSentence_9 _ _ ⟨fun _ => hq w f1 f39 f2, fun g => absurd (by rw [nI_leI (by omega) (by omega)]; omega) g⟩
  | succ n ih =>
    intro k w hk f1 f39 f2 f3
    refine vc_Finder_clearSentence_9 _ _ ⟨fun g => ?_, fun _ => ?_⟩
    · rw [nI_leI (by omega) (by omega)] at g; omega
    · refine z_clear2 hs (by omega) (f3 k (Nat.le_refl k) (by omega)) (fun w' g1 g2 g3 => ?_) 16 0 w rfl FS.rf (fun _ _ _ => rfl) (fun l' hl' => absurd hl' (Nat.not_lt_zero _))
      refine ih (k + 1) w' (by omega) (f1.tr g1) ?_ (fun k' hk' => ?_) (fun k' h1 h2 => ?_)
      · rw [← f39]
        funext j
        exact g2 39 j (by omega) (by omega)
      · by_cases e : k' = k
        · subst e; exact g3
        · obtain ⟨a, b⟩ := f2 k' (by omega)
          exact ⟨fun l hl => by rw [g2 37 _ (by omega) (by omega)]; exact a l hl, by rw [g2 38 _ (by omega) (by omega)]; exact b⟩
      · obtain ⟨a, b⟩ := f3 k' (by omega) h2
        have e : ∀ l, l < 16 → w'.1 37 ((s * 12 + k') * 16 + l) = w.1 37 ((s * 12 + k') * 16 + l) := fun l hl => g2 37 _ (by omega) (by omega)
        refine ⟨fun l hl => ?_, ?_⟩
        · rw [show rb w' s k' l = rb w s k' l from N_cg (e l hl), e l hl]
          exact a l hl
        · rw [g2 38 _ (by omega) (by omega), b]
          congr 1
          exact sumN_cong (fun l hl => by rw [show rb w' s k' l = rb w s k' l from N_cg (e l hl)])
theorem c_clearSentence {d : Nat} {w : Wd} {s : Nat} (hs : s < 40) (h0 : ∀ k, k < 12 → KI w s k) : EvV m_Finder_clearSentence d [.ref 36, .int (nI s)] w (fun w' => FS s w w' ∧ w'.1 39 s = 0 ∧ ∀ k, k < 12 → E0 w' s k) := by
  refine ev_Finder_clearSentence _ (vc_Finder_clearSentence_0 _ ⟨s, rfl, hs, Or.inl rfl, ?_⟩)
  have f : FS s w (up1 w 39 s (nI 0)) := FS.up (by omega)
  refine z_clear1 (w0 := up1 w 39 s (nI 0)) hs (fun k hk => h0 k hk) (fun w' g1 g2 g3 => ⟨f.tr g1, ?_, g3⟩) 12 0 _ rfl FS.rf rfl (fun k' hk' => absurd hk' (Nat.not_lt_zero _)) (fun k' _ hk' => h0 k' hk')
  rw [g2, up1_1, if_pos ⟨rfl, rfl⟩]
  rfl
end
