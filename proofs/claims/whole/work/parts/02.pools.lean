/-! shapes: every cell of the class and of the reference behind their constructors, by its number -/
abbrev Shp : Type := (Nat × List (Option Nat)) ⊕ (FieldType × Nat)
def shp : List Shp := [
  .inl (4, [some 1, some 2]),
  .inr (.int, 101),
  .inr (.int, 101),
  .inl (7, [some 4, some 5, some 6, some 7, none, none, none]),
  .inr (.int, 640),
  .inr (.int, 40),
  .inr (.boolean, 40),
  .inr (.int, 16),
  .inl (9, [some 9, none]),
  .inr (.char, 1200),
  .inl (10, [some 11, some 12, none, none]),
  .inr (.int, 1201),
  .inr (.int, 1201),
  .inl (1, [none, some 14, some 15, some 16, some 17, some 18, some 19, none, some 20, none, some 21, some 22, some 23, none]),
  .inr (.int, 12),
  .inr (.int, 12),
  .inr (.int, 12),
  .inr (.int, 12),
  .inr (.int, 120),
  .inr (.int, 120),
  .inr (.int, 10),
  .inr (.int, 6),
  .inr (.int, 6),
  .inr (.int, 6),
  .inl (6, [some 8, some 10, some 13, none]),
  .inl (1, [none, some 26, some 27, some 28, some 29, some 30, some 31, none, some 32, none, some 33, some 34, some 35, none]),
  .inr (.int, 12),
  .inr (.int, 12),
  .inr (.int, 12),
  .inr (.int, 12),
  .inr (.int, 120),
  .inr (.int, 120),
  .inr (.int, 10),
  .inr (.int, 6),
  .inr (.int, 6),
  .inr (.int, 6),
  .inl (2, [some 0, some 3, some 25, some 37, some 38, some 39, some 40, some 41]),
  .inr (.int, 7680),
  .inr (.int, 480),
  .inr (.boolean, 40),
  .inr (.boolean, 40),
  .inr (.int, 10),
  .inl (8, [some 0, some 3, some 25, some 36, some 43, some 44, none]),
  .inr (.long, 1010),
  .inr (.long, 1010),
  .inl (5, [some 3, some 25, some 36, some 46, some 47, some 48, some 49, some 50, none]),
  .inr (.int, 60),
  .inr (.int, 60),
  .inr (.int, 60),
  .inr (.int, 60),
  .inr (.boolean, 60),
  .inl (0, [some 52, some 53, none, none, none, none]),
  .inr (.long, 12),
  .inr (.long, 12),
  .inl (3, [some 0, some 3, some 45, some 55, some 56, none, none, none]),
  .inr (.int, 16),
  .inr (.int, 16),
  .inl (11, [some 0, some 3, some 8, some 24, some 25, some 36, some 42, some 45, some 51, some 54]),
  .inl (12, [none, some 59, none, none, some 60, some 61, some 62, none, none, some 63, none, none, some 64, some 65, some 66, some 67, some 68, some 69, some 70, some 71, some 72, some 73, some 74, some 75, none, none, some 76, some 77, none, some 78, none, some 79, some 80, some 81, none, some 82, some 83, some 84, some 85, none, some 86, some 87, some 88, some 89, some 90, some 91, some 92, none, none, none, some 93, some 94]),
  .inr (.int, 1200),
  .inr (.int, 1202),
  .inr (.int, 1202),
  .inr (.long, 1202),
  .inr (.long, 10),
  .inr (.int, 2),
  .inr (.int, 24),
  .inr (.int, 24),
  .inr (.boolean, 240),
  .inr (.int, 240),
  .inr (.int, 240),
  .inr (.int, 240),
  .inr (.int, 2),
  .inr (.int, 20),
  .inr (.int, 2),
  .inr (.int, 36),
  .inr (.boolean, 20),
  .inr (.int, 101),
  .inr (.int, 101),
  .inr (.int, 16),
  .inr (.int, 40),
  .inr (.int, 640),
  .inr (.boolean, 40),
  .inr (.boolean, 122880),
  .inr (.boolean, 4913),
  .inr (.boolean, 4913),
  .inr (.boolean, 102010),
  .inr (.int, 60),
  .inr (.int, 60),
  .inr (.int, 60),
  .inr (.int, 60),
  .inr (.boolean, 60),
  .inr (.long, 12),
  .inr (.long, 12),
  .inr (.int, 16),
  .inr (.int, 16)]
abbrev NS : Nat := 95
theorem shp_len : shp.length = NS := rfl
theorem shp_small : (shp.all fun x => match x with | .inr (_, n) => Nat.ble n 200000 | _ => true) = true := by decide +kernel
def clN : List String := ["RowDrawer$BestSet", "RowDrawer$Book", "RowDrawer$Finder", "RowDrawer$Lesson", "RowDrawer$Lexicon", "RowDrawer$Marks", "RowDrawer$Reader", "RowDrawer$Sentences", "RowDrawer$Table", "RowDrawer$Tape", "RowDrawer$Tokens", "RowDrawer", "RowDrawerModel", "java/lang/Integer", "java/lang/Long", "java/lang/Math", "java/util/Arrays", "java/lang/String"]
abbrev MI : Type := Nat × MethodName × ByteArray × Nat × Option FieldType
def mK (μ : MI) : Nat := μ.1
def mY (μ : MI) : MethodName := μ.2.1
def mB (μ : MI) : ByteArray := μ.2.2.1
def mL (μ : MI) : Nat := μ.2.2.2.1
def mR (μ : MI) : Option FieldType := μ.2.2.2.2
def FL (own : String) (q : Nat × Nat × Nat) : Prop := ∃ (C : String) (Tb : u_T) (N : Nat), vwCl[q.2.1]? = some (C, Tb, N) ∧ q.2.2 < N ∧ Cond.fieldLink own q.1 (Tb q.2.2).1 (Tb q.2.2).2.1 (Tb q.2.2).2.2.1 ∈ TT ∧ (∀ w ∈ u_ws C Tb N, w ∈ TT)
def PL (own : String) (q : Nat × Nat × Nat × Nat) : Prop := ∃ (C : String) (Tb : u_T) (N : Nat) (ty0 : Nat → FieldType), vwCl[q.2.1]? = some (C, Tb, N) ∧ q.2.2.1 < N ∧ Cond.fieldLink own q.1 (Tb q.2.2.1).1 (Tb q.2.2.1).2.1 (Tb q.2.2.1).2.2.1 ∈ TT ∧ (∀ w ∈ u_ws C Tb N, w ∈ TT) ∧ (∀ k, k < N → parseFieldDescriptor (Tb k).2.2.1 = some (ty0 k)) ∧ (∀ a, a < N → ∀ b, b < N → a ≠ b → (Tb a).2.1 ≠ (Tb b).2.1) ∧ (Tb q.2.2.1).2.2.2 = false ∧ parseFieldDescriptor (Tb q.2.2.1).2.2.1 = some (if q.2.2.2 = 0 then .int else .boolean)
def MOK (q : MI × Nat × Bool) : Prop := Cond.code (mY q.1) (mB q.1) (mL q.1) (mR q.1) ∈ TT ∧ Cond.initialized (mY q.1).cls ∈ TT ∧ (mY q.1).cls ≠ "java/lang/invoke/MethodHandle" ∧ (mY q.1).cls ≠ "java/lang/invoke/VarHandle" ∧ (parseMethodDescriptor (mY q.1).desc).map (fun d => d.parameters.length) = some q.2.1 ∧ (if q.2.2 = true then Cond.static (mY q.1) ∈ TT else Cond.instanceMethod (mY q.1) ∈ TT ∧ Cond.selects (mY q.1).cls (mY q.1) (mY q.1) ∈ TT) ∧ plainName (mY q.1).cls = true ∧ mL q.1 ≤ 21 ∧ (mY q.1).cls = clN.getD (mK q.1) ""
def nestL : List (String × Nat × MethodName × String) := [("RowDrawer$Book", 61, ⟨"RowDrawer", "isRelation", "(I)Z"⟩, "RowDrawer"), ("RowDrawer$Table", 92, ⟨"RowDrawer", "isRelation", "(I)Z"⟩, "RowDrawer")]
def m_BestSet_setCaught : MI := (0, ⟨"RowDrawer$BestSet", "setCaught", "(IJJ)V"⟩, prog_2_method_2_code, 6, none)
def m_BestSet_choose : MI := (0, ⟨"RowDrawer$BestSet", "choose", "(II)I"⟩, prog_2_method_3_code, 3, (some .int))
def m_BestSet_tryFrom : MI := (0, ⟨"RowDrawer$BestSet", "tryFrom", "(IIJJ)V"⟩, prog_2_method_4_code, 7, none)
def m_BestSet_weigh : MI := (0, ⟨"RowDrawer$BestSet", "weigh", "(II)V"⟩, prog_2_method_5_code, 4, none)
def m_Book_clear : MI := (1, ⟨"RowDrawer$Book", "clear", "()V"⟩, prog_3_method_2_code, 1, none)
def m_Book_become : MI := (1, ⟨"RowDrawer$Book", "become", "(LRowDrawer$Book;)V"⟩, prog_3_method_3_code, 2, none)
def m_Book_openRule : MI := (1, ⟨"RowDrawer$Book", "openRule", "(I)V"⟩, prog_3_method_4_code, 2, none)
def m_Book_openRuleHas : MI := (1, ⟨"RowDrawer$Book", "openRuleHas", "(I)Z"⟩, prog_3_method_5_code, 2, (some .boolean))
def m_Book_addItem : MI := (1, ⟨"RowDrawer$Book", "addItem", "(III)V"⟩, prog_3_method_6_code, 5, none)
def m_Book_closeRule : MI := (1, ⟨"RowDrawer$Book", "closeRule", "()V"⟩, prog_3_method_7_code, 1, none)
def m_Book_addBar : MI := (1, ⟨"RowDrawer$Book", "addBar", "(I)V"⟩, prog_3_method_8_code, 2, none)
def m_Book_addChain : MI := (1, ⟨"RowDrawer$Book", "addChain", "(III)V"⟩, prog_3_method_9_code, 4, none)
def m_Book_addSingle : MI := (1, ⟨"RowDrawer$Book", "addSingle", "(I)V"⟩, prog_3_method_10_code, 2, none)
def m_Book_rules : MI := (1, ⟨"RowDrawer$Book", "rules", "()I"⟩, prog_3_method_11_code, 1, (some .int))
def m_Book_bars : MI := (1, ⟨"RowDrawer$Book", "bars", "()I"⟩, prog_3_method_12_code, 1, (some .int))
def m_Book_chains : MI := (1, ⟨"RowDrawer$Book", "chains", "()I"⟩, prog_3_method_13_code, 1, (some .int))
def m_Book_hasRule : MI := (1, ⟨"RowDrawer$Book", "hasRule", "(I)Z"⟩, prog_3_method_14_code, 2, (some .boolean))
def m_Book_relationOf : MI := (1, ⟨"RowDrawer$Book", "relationOf", "(I)I"⟩, prog_3_method_15_code, 2, (some .int))
def m_Book_itemsOf : MI := (1, ⟨"RowDrawer$Book", "itemsOf", "(I)I"⟩, prog_3_method_16_code, 2, (some .int))
def m_Book_leftItem : MI := (1, ⟨"RowDrawer$Book", "leftItem", "(I)I"⟩, prog_3_method_17_code, 2, (some .int))
def m_Book_rightItem : MI := (1, ⟨"RowDrawer$Book", "rightItem", "(I)I"⟩, prog_3_method_18_code, 2, (some .int))
def m_Book_kindOf : MI := (1, ⟨"RowDrawer$Book", "kindOf", "(II)I"⟩, prog_3_method_19_code, 3, (some .int))
def m_Book_numberOf : MI := (1, ⟨"RowDrawer$Book", "numberOf", "(II)I"⟩, prog_3_method_20_code, 3, (some .int))
def m_Book_hasItem : MI := (1, ⟨"RowDrawer$Book", "hasItem", "(II)Z"⟩, prog_3_method_21_code, 3, (some .boolean))
def m_Book_isBarred : MI := (1, ⟨"RowDrawer$Book", "isBarred", "(I)Z"⟩, prog_3_method_22_code, 3, (some .boolean))
def m_Book_chainGoal : MI := (1, ⟨"RowDrawer$Book", "chainGoal", "(I)I"⟩, prog_3_method_23_code, 2, (some .int))
def m_Book_chainFirst : MI := (1, ⟨"RowDrawer$Book", "chainFirst", "(I)I"⟩, prog_3_method_24_code, 2, (some .int))
def m_Book_chainSecond : MI := (1, ⟨"RowDrawer$Book", "chainSecond", "(I)I"⟩, prog_3_method_25_code, 2, (some .int))
def m_Book_isSingle : MI := (1, ⟨"RowDrawer$Book", "isSingle", "(I)Z"⟩, prog_3_method_26_code, 2, (some .boolean))
def m_Finder_forget : MI := (2, ⟨"RowDrawer$Finder", "forget", "(I)V"⟩, prog_4_method_2_code, 2, none)
def m_Finder_forgetThoseWith : MI := (2, ⟨"RowDrawer$Finder", "forgetThoseWith", "(I)V"⟩, prog_4_method_3_code, 4, none)
def m_Finder_forgetAll : MI := (2, ⟨"RowDrawer$Finder", "forgetAll", "()V"⟩, prog_4_method_4_code, 2, none)
def m_Finder_refresh : MI := (2, ⟨"RowDrawer$Finder", "refresh", "()V"⟩, prog_4_method_5_code, 2, none)
def m_Finder_drawSentence : MI := (2, ⟨"RowDrawer$Finder", "drawSentence", "(I)V"⟩, prog_4_method_6_code, 3, none)
def m_Finder_clearSentence : MI := (2, ⟨"RowDrawer$Finder", "clearSentence", "(I)V"⟩, prog_4_method_7_code, 4, none)
def m_Finder_hasBarredWord : MI := (2, ⟨"RowDrawer$Finder", "hasBarredWord", "(I)Z"⟩, prog_4_method_8_code, 3, (some .boolean))
def m_Finder_drawRule : MI := (2, ⟨"RowDrawer$Finder", "drawRule", "(II)V"⟩, prog_4_method_9_code, 13, none)
def m_Finder_fitItems : MI := (2, ⟨"RowDrawer$Finder", "fitItems", "(II)V"⟩, prog_4_method_10_code, 5, none)
def m_Finder_placesOf : MI := (2, ⟨"RowDrawer$Finder", "placesOf", "(III)I"⟩, prog_4_method_11_code, 6, (some .int))
def m_Finder_forward : MI := (2, ⟨"RowDrawer$Finder", "forward", "(IIII)I"⟩, prog_4_method_12_code, 7, (some .int))
def m_Finder_backward : MI := (2, ⟨"RowDrawer$Finder", "backward", "(III)I"⟩, prog_4_method_13_code, 6, (some .int))
def m_Finder_keepPairs : MI := (2, ⟨"RowDrawer$Finder", "keepPairs", "(IIIZ)V"⟩, prog_4_method_14_code, 6, none)
def m_Finder_countPairs : MI := (2, ⟨"RowDrawer$Finder", "countPairs", "(II)I"⟩, prog_4_method_15_code, 5, (some .int))
def m_Finder_rightPlaces : MI := (2, ⟨"RowDrawer$Finder", "rightPlaces", "(III)I"⟩, prog_4_method_16_code, 4, (some .int))
def m_Finder_isBarred : MI := (2, ⟨"RowDrawer$Finder", "isBarred", "(I)Z"⟩, prog_4_method_17_code, 2, (some .boolean))
def m_Finder_has : MI := (2, ⟨"RowDrawer$Finder", "has", "(IIII)Z"⟩, prog_4_method_18_code, 5, (some .boolean))
def m_Finder_total : MI := (2, ⟨"RowDrawer$Finder", "total", "(Z)I"⟩, prog_4_method_19_code, 5, (some .int))
def m_Finder_totalOfRule : MI := (2, ⟨"RowDrawer$Finder", "totalOfRule", "(I)I"⟩, prog_4_method_20_code, 4, (some .int))
def m_Finder_tellOf : MI := (2, ⟨"RowDrawer$Finder", "tellOf", "(II)I"⟩, prog_4_method_21_code, 7, (some .int))
def m_Finder_tellWithin : MI := (2, ⟨"RowDrawer$Finder", "tellWithin", "(IIII)I"⟩, prog_4_method_22_code, 8, (some .int))
def m_Finder_part : MI := (2, ⟨"RowDrawer$Finder", "part", "(IIIII)I"⟩, prog_4_method_23_code, 6, (some .int))
def m_Lesson_study : MI := (3, ⟨"RowDrawer$Lesson", "study", "(I)I"⟩, prog_5_method_2_code, 4, (some .int))
def m_Lesson_begin : MI := (3, ⟨"RowDrawer$Lesson", "begin", "(II)V"⟩, prog_5_method_3_code, 5, none)
def m_Lesson_isLike : MI := (3, ⟨"RowDrawer$Lesson", "isLike", "(I)Z"⟩, prog_5_method_4_code, 3, (some .boolean))
def m_Lesson_wordAt : MI := (3, ⟨"RowDrawer$Lesson", "wordAt", "(II)I"⟩, prog_5_method_5_code, 4, (some .int))
def m_Lesson_widen : MI := (3, ⟨"RowDrawer$Lesson", "widen", "(I)V"⟩, prog_5_method_6_code, 4, none)
def m_Lesson_tellOf : MI := (3, ⟨"RowDrawer$Lesson", "tellOf", "(II)I"⟩, prog_5_method_7_code, 3, (some .int))
def m_Lesson_roleOf : MI := (3, ⟨"RowDrawer$Lesson", "roleOf", "(I)I"⟩, prog_5_method_8_code, 2, (some .int))
def m_Lesson_caught : MI := (3, ⟨"RowDrawer$Lesson", "caught", "(Z)I"⟩, prog_5_method_9_code, 4, (some .int))
def m_Lesson_standsAt : MI := (3, ⟨"RowDrawer$Lesson", "standsAt", "(I)Z"⟩, prog_5_method_10_code, 3, (some .boolean))
def m_Lexicon_has : MI := (4, ⟨"RowDrawer$Lexicon", "has", "(I)Z"⟩, prog_6_method_2_code, 1, (some .boolean))
def m_Lexicon_setSort : MI := (4, ⟨"RowDrawer$Lexicon", "setSort", "(II)Z"⟩, prog_6_method_3_code, 3, (some .boolean))
def m_Lexicon_sortOf : MI := (4, ⟨"RowDrawer$Lexicon", "sortOf", "(I)I"⟩, prog_6_method_4_code, 2, (some .int))
def m_Lexicon_link : MI := (4, ⟨"RowDrawer$Lexicon", "link", "(II)Z"⟩, prog_6_method_5_code, 3, (some .boolean))
def m_Lexicon_leadsTo : MI := (4, ⟨"RowDrawer$Lexicon", "leadsTo", "(II)Z"⟩, prog_6_method_6_code, 5, (some .boolean))
def m_Lexicon_nameOf : MI := (4, ⟨"RowDrawer$Lexicon", "nameOf", "(I)I"⟩, prog_6_method_7_code, 4, (some .int))
def m_Lexicon_fits : MI := (4, ⟨"RowDrawer$Lexicon", "fits", "(III)Z"⟩, prog_6_method_8_code, 4, (some .boolean))
def m_Marks_put : MI := (5, ⟨"RowDrawer$Marks", "put", "(IIIIZ)I"⟩, prog_7_method_2_code, 7, (some .int))
def m_Marks_indexOf : MI := (5, ⟨"RowDrawer$Marks", "indexOf", "(IIII)I"⟩, prog_7_method_3_code, 6, (some .int))
def m_Marks_size : MI := (5, ⟨"RowDrawer$Marks", "size", "()I"⟩, prog_7_method_4_code, 1, (some .int))
def m_Marks_isUsable : MI := (5, ⟨"RowDrawer$Marks", "isUsable", "(IIZ)Z"⟩, prog_7_method_5_code, 4, (some .boolean))
def m_Marks_sentenceOf : MI := (5, ⟨"RowDrawer$Marks", "sentenceOf", "(I)I"⟩, prog_7_method_6_code, 2, (some .int))
def m_Marks_leftOf : MI := (5, ⟨"RowDrawer$Marks", "leftOf", "(I)I"⟩, prog_7_method_7_code, 2, (some .int))
def m_Marks_rightOf : MI := (5, ⟨"RowDrawer$Marks", "rightOf", "(I)I"⟩, prog_7_method_8_code, 2, (some .int))
def m_Marks_caughtBy : MI := (5, ⟨"RowDrawer$Marks", "caughtBy", "(IZ)J"⟩, prog_7_method_9_code, 7, (some .long))
def m_Marks_shareOf : MI := (5, ⟨"RowDrawer$Marks", "shareOf", "(I)I"⟩, prog_7_method_10_code, 4, (some .int))
def m_Reader_draft : MI := (6, ⟨"RowDrawer$Reader", "draft", "()LRowDrawer$Book;"⟩, prog_8_method_2_code, 1, (some (.object "RowDrawer$Book")))
def m_Reader_read : MI := (6, ⟨"RowDrawer$Reader", "read", "()I"⟩, prog_8_method_3_code, 2, (some .int))
def m_Reader_readRule : MI := (6, ⟨"RowDrawer$Reader", "readRule", "()V"⟩, prog_8_method_4_code, 3, none)
def m_Reader_readItem : MI := (6, ⟨"RowDrawer$Reader", "readItem", "(I)Z"⟩, prog_8_method_5_code, 4, (some .boolean))
def m_Reader_isSpec : MI := (6, ⟨"RowDrawer$Reader", "isSpec", "(I)Z"⟩, prog_8_method_6_code, 1, (some .boolean))
def m_Reader_readSpec : MI := (6, ⟨"RowDrawer$Reader", "readSpec", "(I)Z"⟩, prog_8_method_7_code, 5, (some .boolean))
def m_Reader_readBar : MI := (6, ⟨"RowDrawer$Reader", "readBar", "()V"⟩, prog_8_method_8_code, 2, none)
def m_Reader_readChain : MI := (6, ⟨"RowDrawer$Reader", "readChain", "()V"⟩, prog_8_method_9_code, 4, none)
def m_Reader_readSingle : MI := (6, ⟨"RowDrawer$Reader", "readSingle", "()V"⟩, prog_8_method_10_code, 2, none)
def m_Reader_readNumber : MI := (6, ⟨"RowDrawer$Reader", "readNumber", "(II)I"⟩, prog_8_method_11_code, 4, (some .int))
def m_Reader_readSign : MI := (6, ⟨"RowDrawer$Reader", "readSign", "(I)Z"⟩, prog_8_method_12_code, 2, (some .boolean))
def m_Reader_fail : MI := (6, ⟨"RowDrawer$Reader", "fail", "(I)Z"⟩, prog_8_method_13_code, 2, (some .boolean))
def m_Sentences_tell : MI := (7, ⟨"RowDrawer$Sentences", "tell", "(I)I"⟩, prog_9_method_2_code, 2, (some .int))
def m_Sentences_close : MI := (7, ⟨"RowDrawer$Sentences", "close", "()I"⟩, prog_9_method_3_code, 2, (some .int))
def m_Sentences_remove : MI := (7, ⟨"RowDrawer$Sentences", "remove", "(I)Z"⟩, prog_9_method_4_code, 2, (some .boolean))
def m_Sentences_isThere : MI := (7, ⟨"RowDrawer$Sentences", "isThere", "(I)Z"⟩, prog_9_method_5_code, 2, (some .boolean))
def m_Sentences_lengthOf : MI := (7, ⟨"RowDrawer$Sentences", "lengthOf", "(I)I"⟩, prog_9_method_6_code, 2, (some .int))
def m_Sentences_wordAt : MI := (7, ⟨"RowDrawer$Sentences", "wordAt", "(II)I"⟩, prog_9_method_7_code, 4, (some .int))
def m_Sentences_told : MI := (7, ⟨"RowDrawer$Sentences", "told", "()I"⟩, prog_9_method_8_code, 1, (some .int))
def m_Sentences_came : MI := (7, ⟨"RowDrawer$Sentences", "came", "()I"⟩, prog_9_method_9_code, 1, (some .int))
def m_Sentences_present : MI := (7, ⟨"RowDrawer$Sentences", "present", "()I"⟩, prog_9_method_10_code, 1, (some .int))
def m_Table_forget : MI := (8, ⟨"RowDrawer$Table", "forget", "()V"⟩, prog_10_method_2_code, 1, none)
def m_Table_refresh : MI := (8, ⟨"RowDrawer$Table", "refresh", "()V"⟩, prog_10_method_3_code, 2, none)
def m_Table_addFindsOf : MI := (8, ⟨"RowDrawer$Table", "addFindsOf", "(I)V"⟩, prog_10_method_4_code, 6, none)
def m_Table_nameAt : MI := (8, ⟨"RowDrawer$Table", "nameAt", "(II)I"⟩, prog_10_method_5_code, 3, (some .int))
def m_Table_addRow : MI := (8, ⟨"RowDrawer$Table", "addRow", "(III)V"⟩, prog_10_method_6_code, 4, none)
def m_Table_followChains : MI := (8, ⟨"RowDrawer$Table", "followChains", "()V"⟩, prog_10_method_7_code, 4, none)
def m_Table_followChain : MI := (8, ⟨"RowDrawer$Table", "followChain", "(III)Z"⟩, prog_10_method_8_code, 6, (some .boolean))
def m_Table_followFrom : MI := (8, ⟨"RowDrawer$Table", "followFrom", "(IIII)Z"⟩, prog_10_method_9_code, 11, (some .boolean))
def m_Table_hasRow : MI := (8, ⟨"RowDrawer$Table", "hasRow", "(III)Z"⟩, prog_10_method_10_code, 5, (some .boolean))
def m_Table_degree : MI := (8, ⟨"RowDrawer$Table", "degree", "(II)I"⟩, prog_10_method_11_code, 4, (some .int))
def m_Table_size : MI := (8, ⟨"RowDrawer$Table", "size", "(I)I"⟩, prog_10_method_12_code, 4, (some .int))
def m_Table_name : MI := (8, ⟨"RowDrawer$Table", "name", "(IIZ)I"⟩, prog_10_method_13_code, 7, (some .int))
def m_Table_secondName : MI := (8, ⟨"RowDrawer$Table", "secondName", "(III)I"⟩, prog_10_method_14_code, 6, (some .int))
def m_Table_quarrelling : MI := (8, ⟨"RowDrawer$Table", "quarrelling", "(II)I"⟩, prog_10_method_15_code, 5, (some .int))
def m_Tape_put : MI := (9, ⟨"RowDrawer$Tape", "put", "(J)V"⟩, prog_11_method_2_code, 5, none)
def m_Tape_isKnown : MI := (9, ⟨"RowDrawer$Tape", "isKnown", "(I)Z"⟩, prog_11_method_3_code, 1, (some .boolean))
def m_Tape_length : MI := (9, ⟨"RowDrawer$Tape", "length", "()I"⟩, prog_11_method_4_code, 1, (some .int))
def m_Tape_at : MI := (9, ⟨"RowDrawer$Tape", "at", "(I)C"⟩, prog_11_method_5_code, 2, (some .char))
def m_Tape_clear : MI := (9, ⟨"RowDrawer$Tape", "clear", "()V"⟩, prog_11_method_6_code, 1, none)
def m_Tokens_scan : MI := (10, ⟨"RowDrawer$Tokens", "scan", "(LRowDrawer$Tape;)V"⟩, prog_12_method_2_code, 3, none)
def m_Tokens_add : MI := (10, ⟨"RowDrawer$Tokens", "add", "(II)V"⟩, prog_12_method_3_code, 3, none)
def m_Tokens_code : MI := (10, ⟨"RowDrawer$Tokens", "code", "()I"⟩, prog_12_method_4_code, 1, (some .int))
def m_Tokens_place : MI := (10, ⟨"RowDrawer$Tokens", "place", "()I"⟩, prog_12_method_5_code, 1, (some .int))
def m_Tokens_advance : MI := (10, ⟨"RowDrawer$Tokens", "advance", "()V"⟩, prog_12_method_6_code, 1, none)
def m_Tokens_goesOn : MI := (10, ⟨"RowDrawer$Tokens", "goesOn", "(LRowDrawer$Tape;I)Z"⟩, prog_12_method_7_code, 4, (some .boolean))
def m_Tokens_codeAt : MI := (10, ⟨"RowDrawer$Tokens", "codeAt", "(LRowDrawer$Tape;I)I"⟩, prog_12_method_8_code, 3, (some .int))
def m_Tokens_numberCode : MI := (10, ⟨"RowDrawer$Tokens", "numberCode", "(LRowDrawer$Tape;I)I"⟩, prog_12_method_9_code, 5, (some .int))
def m_Tokens_wordCode : MI := (10, ⟨"RowDrawer$Tokens", "wordCode", "(LRowDrawer$Tape;I)I"⟩, prog_12_method_10_code, 3, (some .int))
def m_Tokens_sWordCode : MI := (10, ⟨"RowDrawer$Tokens", "sWordCode", "(LRowDrawer$Tape;I)I"⟩, prog_12_method_11_code, 2, (some .int))
def m_Tokens_stands : MI := (10, ⟨"RowDrawer$Tokens", "stands", "(LRowDrawer$Tape;ILjava/lang/String;)Z"⟩, prog_12_method_12_code, 4, (some .boolean))
def m_Tokens_isBlank : MI := (10, ⟨"RowDrawer$Tokens", "isBlank", "(C)Z"⟩, prog_12_method_13_code, 1, (some .boolean))
def m_Tokens_isLetter : MI := (10, ⟨"RowDrawer$Tokens", "isLetter", "(C)Z"⟩, prog_12_method_14_code, 1, (some .boolean))
def m_Tokens_isDigit : MI := (10, ⟨"RowDrawer$Tokens", "isDigit", "(C)Z"⟩, prog_12_method_15_code, 1, (some .boolean))
def m_D_sort : MI := (11, ⟨"RowDrawer", "sort", "(II)Z"⟩, prog_1_method_2_code, 3, (some .boolean))
def m_D_join : MI := (11, ⟨"RowDrawer", "join", "(II)Z"⟩, prog_1_method_3_code, 3, (some .boolean))
def m_D_word : MI := (11, ⟨"RowDrawer", "word", "(I)I"⟩, prog_1_method_4_code, 2, (some .int))
def m_D_sentence : MI := (11, ⟨"RowDrawer", "sentence", "()I"⟩, prog_1_method_5_code, 2, (some .int))
def m_D_take : MI := (11, ⟨"RowDrawer", "take", "(I)Z"⟩, prog_1_method_6_code, 2, (some .boolean))
def m_D_feed : MI := (11, ⟨"RowDrawer", "feed", "(JJJ)I"⟩, prog_1_method_7_code, 7, (some .int))
def m_D_text : MI := (11, ⟨"RowDrawer", "text", "()I"⟩, prog_1_method_8_code, 2, (some .int))
def m_D_finds : MI := (11, ⟨"RowDrawer", "finds", "()I"⟩, prog_1_method_9_code, 1, (some .int))
def m_D_find : MI := (11, ⟨"RowDrawer", "find", "(II)I"⟩, prog_1_method_10_code, 3, (some .int))
def m_D_rows : MI := (11, ⟨"RowDrawer", "rows", "(I)I"⟩, prog_1_method_11_code, 2, (some .int))
def m_D_row : MI := (11, ⟨"RowDrawer", "row", "(III)I"⟩, prog_1_method_12_code, 4, (some .int))
def m_D_quarrel : MI := (11, ⟨"RowDrawer", "quarrel", "(II)I"⟩, prog_1_method_13_code, 3, (some .int))
def m_D_mark : MI := (11, ⟨"RowDrawer", "mark", "(IIIIZ)I"⟩, prog_1_method_14_code, 7, (some .int))
def m_D_best : MI := (11, ⟨"RowDrawer", "best", "(I)I"⟩, prog_1_method_16_code, 4, (some .int))
def m_D_learn : MI := (11, ⟨"RowDrawer", "learn", "(I)I"⟩, prog_1_method_17_code, 2, (some .int))
def m_D_learnt : MI := (11, ⟨"RowDrawer", "learnt", "(II)I"⟩, prog_1_method_18_code, 3, (some .int))
def m_D_catches : MI := (11, ⟨"RowDrawer", "catches", "(Z)I"⟩, prog_1_method_19_code, 2, (some .int))
def m_D_named : MI := (11, ⟨"RowDrawer", "named", "(I)I"⟩, prog_1_method_20_code, 2, (some .int))
def m_D_count : MI := (11, ⟨"RowDrawer", "count", "(I)I"⟩, prog_1_method_21_code, 2, (some .int))
def m_D_isRelation : MI := (11, ⟨"RowDrawer", "isRelation", "(I)Z"⟩, prog_1_method_22_code, 1, (some .boolean))
def m_M_thrown : MI := (12, ⟨"RowDrawerModel", "thrown", "()I"⟩, prog_14_method_1_code, 1, (some .int))
def m_M_feed : MI := (12, ⟨"RowDrawerModel", "feed", "(JJJ)I"⟩, prog_14_method_2_code, 7, (some .int))
def m_M_lay : MI := (12, ⟨"RowDrawerModel", "lay", "(J)V"⟩, prog_14_method_3_code, 5, none)
def m_M_isLetter : MI := (12, ⟨"RowDrawerModel", "isLetter", "(I)Z"⟩, prog_14_method_5_code, 1, (some .boolean))
def m_M_isDigit : MI := (12, ⟨"RowDrawerModel", "isDigit", "(I)Z"⟩, prog_14_method_6_code, 1, (some .boolean))
def m_M_rank : MI := (12, ⟨"RowDrawerModel", "rank", "(I)I"⟩, prog_14_method_7_code, 1, (some .int))
def m_M_isSignOf : MI := (12, ⟨"RowDrawerModel", "isSignOf", "(I)Z"⟩, prog_14_method_8_code, 1, (some .boolean))
def m_M_cutAll : MI := (12, ⟨"RowDrawerModel", "cutAll", "()V"⟩, prog_14_method_9_code, 7, none)
def m_M_wrong : MI := (12, ⟨"RowDrawerModel", "wrong", "(I)V"⟩, prog_14_method_10_code, 2, none)
def m_M_isSign : MI := (12, ⟨"RowDrawerModel", "isSign", "(I)Z"⟩, prog_14_method_11_code, 2, (some .boolean))
def m_M_isWord : MI := (12, ⟨"RowDrawerModel", "isWord", "(I)Z"⟩, prog_14_method_12_code, 2, (some .boolean))
def m_M_takeSign : MI := (12, ⟨"RowDrawerModel", "takeSign", "(I)V"⟩, prog_14_method_13_code, 2, none)
def m_M_hasWord : MI := (12, ⟨"RowDrawerModel", "hasWord", "(I)Z"⟩, prog_14_method_15_code, 3, (some .boolean))
def m_M_takeWord : MI := (12, ⟨"RowDrawerModel", "takeWord", "(I)V"⟩, prog_14_method_16_code, 2, none)
def m_M_takeNumber : MI := (12, ⟨"RowDrawerModel", "takeNumber", "(II)I"⟩, prog_14_method_17_code, 3, (some .int))
def m_M_text : MI := (12, ⟨"RowDrawerModel", "text", "()I"⟩, prog_14_method_18_code, 2, (some .int))
def m_M_statement : MI := (12, ⟨"RowDrawerModel", "statement", "()V"⟩, prog_14_method_19_code, 2, none)
def m_M_readChain : MI := (12, ⟨"RowDrawerModel", "readChain", "()V"⟩, prog_14_method_20_code, 2, none)
def m_M_readRule : MI := (12, ⟨"RowDrawerModel", "readRule", "()V"⟩, prog_14_method_21_code, 3, none)
def m_M_isItem : MI := (12, ⟨"RowDrawerModel", "isItem", "()Z"⟩, prog_14_method_22_code, 1, (some .boolean))
def m_M_item : MI := (12, ⟨"RowDrawerModel", "item", "(I)V"⟩, prog_14_method_23_code, 3, none)
def m_M_spec : MI := (12, ⟨"RowDrawerModel", "spec", "(I)V"⟩, prog_14_method_24_code, 2, none)
def m_M_isOne : MI := (12, ⟨"RowDrawerModel", "isOne", "(I)Z"⟩, prog_14_method_25_code, 1, (some .boolean))
def m_M_sort : MI := (12, ⟨"RowDrawerModel", "sort", "(II)Z"⟩, prog_14_method_26_code, 3, (some .boolean))
def m_M_nameOf : MI := (12, ⟨"RowDrawerModel", "nameOf", "(I)I"⟩, prog_14_method_27_code, 3, (some .int))
def m_M_join : MI := (12, ⟨"RowDrawerModel", "join", "(II)Z"⟩, prog_14_method_28_code, 4, (some .boolean))
def m_M_named : MI := (12, ⟨"RowDrawerModel", "named", "(I)I"⟩, prog_14_method_29_code, 2, (some .int))
def m_M_word : MI := (12, ⟨"RowDrawerModel", "word", "(I)I"⟩, prog_14_method_30_code, 2, (some .int))
def m_M_sentence : MI := (12, ⟨"RowDrawerModel", "sentence", "()I"⟩, prog_14_method_31_code, 2, (some .int))
def m_M_isThere : MI := (12, ⟨"RowDrawerModel", "isThere", "(I)Z"⟩, prog_14_method_32_code, 2, (some .boolean))
def m_M_take : MI := (12, ⟨"RowDrawerModel", "take", "(I)Z"⟩, prog_14_method_33_code, 2, (some .boolean))
def m_M_fits : MI := (12, ⟨"RowDrawerModel", "fits", "(III)Z"⟩, prog_14_method_34_code, 4, (some .boolean))
def m_M_findOf : MI := (12, ⟨"RowDrawerModel", "findOf", "(IIII)I"⟩, prog_14_method_35_code, 4, (some .int))
def m_M_findAll : MI := (12, ⟨"RowDrawerModel", "findAll", "()V"⟩, prog_14_method_36_code, 3, none)
def m_M_matches : MI := (12, ⟨"RowDrawerModel", "matches", "(II)V"⟩, prog_14_method_37_code, 8, none)
def m_M_goes : MI := (12, ⟨"RowDrawerModel", "goes", "(IIII)V"⟩, prog_14_method_38_code, 7, none)
def m_M_isBarred : MI := (12, ⟨"RowDrawerModel", "isBarred", "(I)Z"⟩, prog_14_method_39_code, 5, (some .boolean))
def m_M_finds : MI := (12, ⟨"RowDrawerModel", "finds", "()I"⟩, prog_14_method_40_code, 3, (some .int))
def m_M_find : MI := (12, ⟨"RowDrawerModel", "find", "(II)I"⟩, prog_14_method_41_code, 7, (some .int))
def m_M_findRows : MI := (12, ⟨"RowDrawerModel", "findRows", "()V"⟩, prog_14_method_42_code, 5, none)
def m_M_joins : MI := (12, ⟨"RowDrawerModel", "joins", "(III)Z"⟩, prog_14_method_43_code, 8, (some .boolean))
def m_M_isR : MI := (12, ⟨"RowDrawerModel", "isR", "(I)Z"⟩, prog_14_method_44_code, 1, (some .boolean))
def m_M_rows : MI := (12, ⟨"RowDrawerModel", "rows", "(I)I"⟩, prog_14_method_45_code, 4, (some .int))
def m_M_row : MI := (12, ⟨"RowDrawerModel", "row", "(III)I"⟩, prog_14_method_46_code, 6, (some .int))
def m_M_quarrel : MI := (12, ⟨"RowDrawerModel", "quarrel", "(II)I"⟩, prog_14_method_47_code, 7, (some .int))
def m_M_mark : MI := (12, ⟨"RowDrawerModel", "mark", "(IIIIZ)I"⟩, prog_14_method_48_code, 7, (some .int))
def m_M_catchesMark : MI := (12, ⟨"RowDrawerModel", "catchesMark", "(II)Z"⟩, prog_14_method_49_code, 3, (some .boolean))
def m_M_caught : MI := (12, ⟨"RowDrawerModel", "caught", "(IZ)I"⟩, prog_14_method_50_code, 5, (some .int))
def m_M_rule : MI := (12, ⟨"RowDrawerModel", "rule", "(II)I"⟩, prog_14_method_51_code, 8, (some .int))
def m_M_bits : MI := (12, ⟨"RowDrawerModel", "bits", "(J)I"⟩, prog_14_method_52_code, 4, (some .int))
def m_M_best : MI := (12, ⟨"RowDrawerModel", "best", "(I)I"⟩, prog_14_method_53_code, 10, (some .int))
def m_M_isLike : MI := (12, ⟨"RowDrawerModel", "isLike", "(III)Z"⟩, prog_14_method_54_code, 4, (some .boolean))
def m_M_least : MI := (12, ⟨"RowDrawerModel", "least", "(II)I"⟩, prog_14_method_55_code, 2, (some .int))
def m_M_wordAt : MI := (12, ⟨"RowDrawerModel", "wordAt", "(II)I"⟩, prog_14_method_56_code, 3, (some .int))
def m_M_learn : MI := (12, ⟨"RowDrawerModel", "learn", "(I)I"⟩, prog_14_method_57_code, 8, (some .int))
def m_M_learnt : MI := (12, ⟨"RowDrawerModel", "learnt", "(II)I"⟩, prog_14_method_58_code, 4, (some .int))
def m_M_catches : MI := (12, ⟨"RowDrawerModel", "catches", "(Z)I"⟩, prog_14_method_59_code, 6, (some .int))
def m_M_count : MI := (12, ⟨"RowDrawerModel", "count", "(I)I"⟩, prog_14_method_60_code, 4, (some .int))
def m_M_barredFinds : MI := (12, ⟨"RowDrawerModel", "barredFinds", "()I"⟩, prog_14_method_61_code, 3, (some .int))
def m_Integer_bitCount : MI := (13, ⟨"java/lang/Integer", "bitCount", "(I)I"⟩, prog_16_method_49_code, 1, (some .int))
def m_Long_bitCount : MI := (14, ⟨"java/lang/Long", "bitCount", "(J)I"⟩, prog_17_method_50_code, 2, (some .int))
def m_Arrays_fill : MI := (16, ⟨"java/util/Arrays", "fill", "([JJ)V"⟩, prog_25_method_101_code, 5, none)
def m_String_length : MI := (17, ⟨"java/lang/String", "length", "()I"⟩, prog_20_method_54_code, 1, (some .int))
def m_String_charAt : MI := (17, ⟨"java/lang/String", "charAt", "(I)C"⟩, prog_20_method_56_code, 2, (some .char))
def MT : List (MI × Nat × Bool) := [(m_BestSet_setCaught, 3, false), (m_BestSet_choose, 2, false), (m_BestSet_tryFrom, 4, false), (m_BestSet_weigh, 2, false), (m_Book_clear, 0, false), (m_Book_become, 1, false), (m_Book_openRule, 1, false), (m_Book_openRuleHas, 1, false), (m_Book_addItem, 3, false), (m_Book_closeRule, 0, false), (m_Book_addBar, 1, false), (m_Book_addChain, 3, false), (m_Book_addSingle, 1, false), (m_Book_rules, 0, false), (m_Book_bars, 0, false), (m_Book_chains, 0, false), (m_Book_hasRule, 1, false), (m_Book_relationOf, 1, false), (m_Book_itemsOf, 1, false), (m_Book_leftItem, 1, false), (m_Book_rightItem, 1, false), (m_Book_kindOf, 2, false), (m_Book_numberOf, 2, false), (m_Book_hasItem, 2, false), (m_Book_isBarred, 1, false), (m_Book_chainGoal, 1, false), (m_Book_chainFirst, 1, false), (m_Book_chainSecond, 1, false), (m_Book_isSingle, 1, false), (m_Finder_forget, 1, false), (m_Finder_forgetThoseWith, 1, false), (m_Finder_forgetAll, 0, false), (m_Finder_refresh, 0, false), (m_Finder_drawSentence, 1, false), (m_Finder_clearSentence, 1, false), (m_Finder_hasBarredWord, 1, false), (m_Finder_drawRule, 2, false), (m_Finder_fitItems, 2, false), (m_Finder_placesOf, 3, false), (m_Finder_forward, 4, false), (m_Finder_backward, 3, false), (m_Finder_keepPairs, 4, false), (m_Finder_countPairs, 2, false), (m_Finder_rightPlaces, 3, false), (m_Finder_isBarred, 1, false), (m_Finder_has, 4, false), (m_Finder_total, 1, false), (m_Finder_totalOfRule, 1, false), (m_Finder_tellOf, 2, false), (m_Finder_tellWithin, 4, false), (m_Finder_part, 5, false), (m_Lesson_study, 1, false), (m_Lesson_begin, 2, false), (m_Lesson_isLike, 1, false), (m_Lesson_wordAt, 2, false), (m_Lesson_widen, 1, false), (m_Lesson_tellOf, 2, false), (m_Lesson_roleOf, 1, false), (m_Lesson_caught, 1, false), (m_Lesson_standsAt, 1, false), (m_Lexicon_has, 1, true), (m_Lexicon_setSort, 2, false), (m_Lexicon_sortOf, 1, false), (m_Lexicon_link, 2, false), (m_Lexicon_leadsTo, 2, false), (m_Lexicon_nameOf, 1, false), (m_Lexicon_fits, 3, false), (m_Marks_put, 5, false), (m_Marks_indexOf, 4, false), (m_Marks_size, 0, false), (m_Marks_isUsable, 3, false), (m_Marks_sentenceOf, 1, false), (m_Marks_leftOf, 1, false), (m_Marks_rightOf, 1, false), (m_Marks_caughtBy, 2, false), (m_Marks_shareOf, 1, false), (m_Reader_draft, 0, false), (m_Reader_read, 0, false), (m_Reader_readRule, 0, false), (m_Reader_readItem, 1, false), (m_Reader_isSpec, 1, true), (m_Reader_readSpec, 1, false), (m_Reader_readBar, 0, false), (m_Reader_readChain, 0, false), (m_Reader_readSingle, 0, false), (m_Reader_readNumber, 2, false), (m_Reader_readSign, 1, false), (m_Reader_fail, 1, false), (m_Sentences_tell, 1, false), (m_Sentences_close, 0, false), (m_Sentences_remove, 1, false), (m_Sentences_isThere, 1, false), (m_Sentences_lengthOf, 1, false), (m_Sentences_wordAt, 2, false), (m_Sentences_told, 0, false), (m_Sentences_came, 0, false), (m_Sentences_present, 0, false), (m_Table_forget, 0, false), (m_Table_refresh, 0, false), (m_Table_addFindsOf, 1, false), (m_Table_nameAt, 2, false), (m_Table_addRow, 3, false), (m_Table_followChains, 0, false), (m_Table_followChain, 3, false), (m_Table_followFrom, 4, false), (m_Table_hasRow, 3, false), (m_Table_degree, 2, false), (m_Table_size, 1, false), (m_Table_name, 3, false), (m_Table_secondName, 3, false), (m_Table_quarrelling, 2, false), (m_Tape_put, 1, false), (m_Tape_isKnown, 1, true), (m_Tape_length, 0, false), (m_Tape_at, 1, false), (m_Tape_clear, 0, false), (m_Tokens_scan, 1, false), (m_Tokens_add, 2, false), (m_Tokens_code, 0, false), (m_Tokens_place, 0, false), (m_Tokens_advance, 0, false), (m_Tokens_goesOn, 2, true), (m_Tokens_codeAt, 2, true), (m_Tokens_numberCode, 2, true), (m_Tokens_wordCode, 2, true), (m_Tokens_sWordCode, 2, true), (m_Tokens_stands, 3, true), (m_Tokens_isBlank, 1, true), (m_Tokens_isLetter, 1, true), (m_Tokens_isDigit, 1, true), (m_D_sort, 2, false), (m_D_join, 2, false), (m_D_word, 1, false), (m_D_sentence, 0, false), (m_D_take, 1, false), (m_D_feed, 3, false), (m_D_text, 0, false), (m_D_finds, 0, false), (m_D_find, 2, false), (m_D_rows, 1, false), (m_D_row, 3, false), (m_D_quarrel, 2, false), (m_D_mark, 5, false), (m_D_best, 1, false), (m_D_learn, 1, false), (m_D_learnt, 2, false), (m_D_catches, 1, false), (m_D_named, 1, false), (m_D_count, 1, false), (m_D_isRelation, 1, true), (m_M_thrown, 0, false), (m_M_feed, 3, false), (m_M_lay, 1, false), (m_M_isLetter, 1, true), (m_M_isDigit, 1, true), (m_M_rank, 1, true), (m_M_isSignOf, 1, true), (m_M_cutAll, 0, false), (m_M_wrong, 1, false), (m_M_isSign, 1, false), (m_M_isWord, 1, false), (m_M_takeSign, 1, false), (m_M_hasWord, 1, false), (m_M_takeWord, 1, false), (m_M_takeNumber, 2, false), (m_M_text, 0, false), (m_M_statement, 0, false), (m_M_readChain, 0, false), (m_M_readRule, 0, false), (m_M_isItem, 0, false), (m_M_item, 1, false), (m_M_spec, 1, false), (m_M_isOne, 1, true), (m_M_sort, 2, false), (m_M_nameOf, 1, false), (m_M_join, 2, false), (m_M_named, 1, false), (m_M_word, 1, false), (m_M_sentence, 0, false), (m_M_isThere, 1, false), (m_M_take, 1, false), (m_M_fits, 3, false), (m_M_findOf, 4, true), (m_M_findAll, 0, false), (m_M_matches, 2, false), (m_M_goes, 4, false), (m_M_isBarred, 1, false), (m_M_finds, 0, false), (m_M_find, 2, false), (m_M_findRows, 0, false), (m_M_joins, 3, false), (m_M_isR, 1, true), (m_M_rows, 1, false), (m_M_row, 3, false), (m_M_quarrel, 2, false), (m_M_mark, 5, false), (m_M_catchesMark, 2, false), (m_M_caught, 2, false), (m_M_rule, 2, false), (m_M_bits, 1, true), (m_M_best, 1, false), (m_M_isLike, 3, false), (m_M_least, 2, true), (m_M_wordAt, 2, false), (m_M_learn, 1, false), (m_M_learnt, 2, false), (m_M_catches, 1, false), (m_M_count, 1, false), (m_M_barredFinds, 0, false), (m_Integer_bitCount, 1, true), (m_Long_bitCount, 1, true), (m_Arrays_fill, 2, true), (m_String_length, 0, false), (m_String_charAt, 1, false)]
def FR_0 : List (Nat × Nat × Nat) := [(9, 0, 0), (15, 0, 1), (24, 0, 2), (28, 0, 3), (31, 0, 4), (34, 0, 5)]
set_option maxRecDepth 100000 in
theorem FR_0_ok : ∀ q ∈ FR_0, FL "RowDrawer$BestSet" q := List.forall_mem_cons.mpr ⟨⟨_, _, _, rfl, by decide, tt_at 353 rfl rfl, inX0⟩, List.forall_mem_cons.mpr ⟨⟨_, _, _, rfl, by decide, tt_at 354 rfl rfl, inX0⟩, List.forall_mem_cons.mpr ⟨⟨_, _, _, rfl, by decide, tt_at 355 rfl rfl, inX0⟩, List.forall_mem_cons.mpr ⟨⟨_, _, _, rfl, by decide, tt_at 356 rfl rfl, inX0⟩, List.forall_mem_cons.mpr ⟨⟨_, _, _, rfl, by decide, tt_at 357 rfl rfl, inX0⟩, List.forall_mem_cons.mpr ⟨⟨_, _, _, rfl, by decide, tt_at 358 rfl rfl, inX0⟩, fun _ h => absurd h List.not_mem_nil⟩⟩⟩⟩⟩⟩
def PR_0 : List (Nat × Nat × Nat × Nat) := [(24, 0, 2, 0), (28, 0, 3, 0), (31, 0, 4, 0), (34, 0, 5, 0)]
set_option maxRecDepth 100000 in
theorem PR_0_ok : ∀ q ∈ PR_0, PL "RowDrawer$BestSet" q := List.forall_mem_cons.mpr ⟨⟨_, _, _, tyX0, rfl, by decide, tt_at 355 rfl rfl, inX0, tyX0_ok, nmX0, rfl, by decide +kernel⟩, List.forall_mem_cons.mpr ⟨⟨_, _, _, tyX0, rfl, by decide, tt_at 356 rfl rfl, inX0, tyX0_ok, nmX0, rfl, by decide +kernel⟩, List.forall_mem_cons.mpr ⟨⟨_, _, _, tyX0, rfl, by decide, tt_at 357 rfl rfl, inX0, tyX0_ok, nmX0, rfl, by decide +kernel⟩, List.forall_mem_cons.mpr ⟨⟨_, _, _, tyX0, rfl, by decide, tt_at 358 rfl rfl, inX0, tyX0_ok, nmX0, rfl, by decide +kernel⟩, fun _ h => absurd h List.not_mem_nil⟩⟩⟩⟩
def MR_0 : List (Nat × Nat × Nat) := [(18, 0, 5), (37, 2, 0), (41, 210, 1), (47, 3, 0), (53, 209, 1)]
def LI_0 : List (Nat × Int32) := []
set_option maxRecDepth 100000 in
theorem LI_0_ok : ∀ q ∈ LI_0, Cond.constant "RowDrawer$BestSet" q.1 q.2 ∈ TT := fun _ h => absurd h List.not_mem_nil
def LL_0 : List (Nat × Int64) := [(51, -1)]
set_option maxRecDepth 100000 in
theorem LL_0_ok : ∀ q ∈ LL_0, Cond.constantLong "RowDrawer$BestSet" q.1 q.2 ∈ TT := List.forall_mem_cons.mpr ⟨tt_at 1038 rfl rfl, fun _ h => absurd h List.not_mem_nil⟩
def FR_1 : List (Nat × Nat × Nat) := [(42, 1, 0), (9, 1, 1), (15, 1, 2), (18, 1, 3), (21, 1, 4), (24, 1, 5), (27, 1, 6), (46, 1, 7), (30, 1, 8), (49, 1, 9), (33, 1, 10), (36, 1, 11), (39, 1, 12), (52, 1, 13)]
set_option maxRecDepth 100000 in
theorem FR_1_ok : ∀ q ∈ FR_1, FL "RowDrawer$Book" q := List.forall_mem_cons.mpr ⟨⟨_, _, _, rfl, by decide, tt_at 195 rfl rfl, inX1⟩, List.forall_mem_cons.mpr ⟨⟨_, _, _, rfl, by decide, tt_at 196 rfl rfl, inX1⟩, List.forall_mem_cons.mpr ⟨⟨_, _, _, rfl, by decide, tt_at 197 rfl rfl, inX1⟩, List.forall_mem_cons.mpr ⟨⟨_, _, _, rfl, by decide, tt_at 198 rfl rfl, inX1⟩, List.forall_mem_cons.mpr ⟨⟨_, _, _, rfl, by decide, tt_at 199 rfl rfl, inX1⟩, List.forall_mem_cons.mpr ⟨⟨_, _, _, rfl, by decide, tt_at 200 rfl rfl, inX1⟩, List.forall_mem_cons.mpr ⟨⟨_, _, _, rfl, by decide, tt_at 201 rfl rfl, inX1⟩, List.forall_mem_cons.mpr ⟨⟨_, _, _, rfl, by decide, tt_at 202 rfl rfl, inX1⟩, List.forall_mem_cons.mpr ⟨⟨_, _, _, rfl, by decide, tt_at 203 rfl rfl, inX1⟩, List.forall_mem_cons.mpr ⟨⟨_, _, _, rfl, by decide, tt_at 204 rfl rfl, inX1⟩, List.forall_mem_cons.mpr ⟨⟨_, _, _, rfl, by decide, tt_at 205 rfl rfl, inX1⟩, List.forall_mem_cons.mpr ⟨⟨_, _, _, rfl, by decide, tt_at 206 rfl rfl, inX1⟩, List.forall_mem_cons.mpr ⟨⟨_, _, _, rfl, by decide, tt_at 207 rfl rfl, inX1⟩, List.forall_mem_cons.mpr ⟨⟨_, _, _, rfl, by decide, tt_at 208 rfl rfl, inX1⟩, fun _ h => absurd h List.not_mem_nil⟩⟩⟩⟩⟩⟩⟩⟩⟩⟩⟩⟩⟩⟩
def PR_1 : List (Nat × Nat × Nat × Nat) := [(42, 1, 0, 0), (46, 1, 7, 0), (49, 1, 9, 0), (52, 1, 13, 0)]
set_option maxRecDepth 100000 in
theorem PR_1_ok : ∀ q ∈ PR_1, PL "RowDrawer$Book" q := List.forall_mem_cons.mpr ⟨⟨_, _, _, tyX1, rfl, by decide, tt_at 195 rfl rfl, inX1, tyX1_ok, nmX1, rfl, by decide +kernel⟩, List.forall_mem_cons.mpr ⟨⟨_, _, _, tyX1, rfl, by decide, tt_at 202 rfl rfl, inX1, tyX1_ok, nmX1, rfl, by decide +kernel⟩, List.forall_mem_cons.mpr ⟨⟨_, _, _, tyX1, rfl, by decide, tt_at 204 rfl rfl, inX1, tyX1_ok, nmX1, rfl, by decide +kernel⟩, List.forall_mem_cons.mpr ⟨⟨_, _, _, tyX1, rfl, by decide, tt_at 208 rfl rfl, inX1, tyX1_ok, nmX1, rfl, by decide +kernel⟩, fun _ h => absurd h List.not_mem_nil⟩⟩⟩⟩
def MR_1 : List (Nat × Nat × Nat) := [(55, 0, 3), (65, 16, 0), (68, 23, 0), (61, 149, 2)]
def LI_1 : List (Nat × Int32) := []
set_option maxRecDepth 100000 in
theorem LI_1_ok : ∀ q ∈ LI_1, Cond.constant "RowDrawer$Book" q.1 q.2 ∈ TT := fun _ h => absurd h List.not_mem_nil
def LL_1 : List (Nat × Int64) := []
set_option maxRecDepth 100000 in
theorem LL_1_ok : ∀ q ∈ LL_1, Cond.constantLong "RowDrawer$Book" q.1 q.2 ∈ TT := fun _ h => absurd h List.not_mem_nil
def FR_2 : List (Nat × Nat × Nat) := [(28, 2, 0), (32, 2, 1), (36, 2, 2), (9, 2, 3), (15, 2, 4), (18, 2, 5), (22, 2, 6), (25, 2, 7)]
set_option maxRecDepth 100000 in
theorem FR_2_ok : ∀ q ∈ FR_2, FL "RowDrawer$Finder" q := List.forall_mem_cons.mpr ⟨⟨_, _, _, rfl, by decide, tt_at 259 rfl rfl, inX2⟩, List.forall_mem_cons.mpr ⟨⟨_, _, _, rfl, by decide, tt_at 260 rfl rfl, inX2⟩, List.forall_mem_cons.mpr ⟨⟨_, _, _, rfl, by decide, tt_at 261 rfl rfl, inX2⟩, List.forall_mem_cons.mpr ⟨⟨_, _, _, rfl, by decide, tt_at 262 rfl rfl, inX2⟩, List.forall_mem_cons.mpr ⟨⟨_, _, _, rfl, by decide, tt_at 263 rfl rfl, inX2⟩, List.forall_mem_cons.mpr ⟨⟨_, _, _, rfl, by decide, tt_at 264 rfl rfl, inX2⟩, List.forall_mem_cons.mpr ⟨⟨_, _, _, rfl, by decide, tt_at 265 rfl rfl, inX2⟩, List.forall_mem_cons.mpr ⟨⟨_, _, _, rfl, by decide, tt_at 266 rfl rfl, inX2⟩, fun _ h => absurd h List.not_mem_nil⟩⟩⟩⟩⟩⟩⟩⟩
def PR_2 : List (Nat × Nat × Nat × Nat) := []
set_option maxRecDepth 100000 in
theorem PR_2_ok : ∀ q ∈ PR_2, PL "RowDrawer$Finder" q := fun _ h => absurd h List.not_mem_nil
def MR_2 : List (Nat × Nat × Nat) := [(40, 95, 0), (46, 92, 0), (50, 93, 0), (54, 33, 0), (58, 34, 0), (61, 91, 0), (65, 35, 0), (80, 24, 0), (68, 13, 0), (73, 36, 0), (83, 19, 0), (86, 20, 0), (89, 37, 0), (104, 18, 0), (115, 21, 0), (118, 22, 0), (121, 38, 0), (124, 66, 0), (92, 0, 5), (97, 0, 6), (100, 39, 0), (107, 40, 0), (111, 41, 0), (77, 42, 0), (130, 43, 0), (133, 209, 1), (138, 49, 0), (141, 45, 0), (145, 50, 0), (149, 44, 0), (150, 17, 0)]
def LI_2 : List (Nat × Int32) := []
set_option maxRecDepth 100000 in
theorem LI_2_ok : ∀ q ∈ LI_2, Cond.constant "RowDrawer$Finder" q.1 q.2 ∈ TT := fun _ h => absurd h List.not_mem_nil
def LL_2 : List (Nat × Int64) := []
set_option maxRecDepth 100000 in
theorem LL_2_ok : ∀ q ∈ LL_2, Cond.constantLong "RowDrawer$Finder" q.1 q.2 ∈ TT := fun _ h => absurd h List.not_mem_nil
def FR_3 : List (Nat × Nat × Nat) := [(18, 3, 0), (22, 3, 1), (26, 3, 2), (9, 3, 3), (15, 3, 4), (52, 3, 5), (63, 3, 6), (66, 3, 7)]
set_option maxRecDepth 100000 in
theorem FR_3_ok : ∀ q ∈ FR_3, FL "RowDrawer$Lesson" q := List.forall_mem_cons.mpr ⟨⟨_, _, _, rfl, by decide, tt_at 378 rfl rfl, inX3⟩, List.forall_mem_cons.mpr ⟨⟨_, _, _, rfl, by decide, tt_at 379 rfl rfl, inX3⟩, List.forall_mem_cons.mpr ⟨⟨_, _, _, rfl, by decide, tt_at 380 rfl rfl, inX3⟩, List.forall_mem_cons.mpr ⟨⟨_, _, _, rfl, by decide, tt_at 381 rfl rfl, inX3⟩, List.forall_mem_cons.mpr ⟨⟨_, _, _, rfl, by decide, tt_at 382 rfl rfl, inX3⟩, List.forall_mem_cons.mpr ⟨⟨_, _, _, rfl, by decide, tt_at 383 rfl rfl, inX3⟩, List.forall_mem_cons.mpr ⟨⟨_, _, _, rfl, by decide, tt_at 384 rfl rfl, inX3⟩, List.forall_mem_cons.mpr ⟨⟨_, _, _, rfl, by decide, tt_at 385 rfl rfl, inX3⟩, fun _ h => absurd h List.not_mem_nil⟩⟩⟩⟩⟩⟩⟩⟩
def PR_3 : List (Nat × Nat × Nat × Nat) := [(52, 3, 5, 0), (63, 3, 6, 0), (66, 3, 7, 1)]
set_option maxRecDepth 100000 in
theorem PR_3_ok : ∀ q ∈ PR_3, PL "RowDrawer$Lesson" q := List.forall_mem_cons.mpr ⟨⟨_, _, _, tyX3, rfl, by decide, tt_at 383 rfl rfl, inX3, tyX3_ok, nmX3, rfl, by decide +kernel⟩, List.forall_mem_cons.mpr ⟨⟨_, _, _, tyX3, rfl, by decide, tt_at 384 rfl rfl, inX3, tyX3_ok, nmX3, rfl, by decide +kernel⟩, List.forall_mem_cons.mpr ⟨⟨_, _, _, tyX3, rfl, by decide, tt_at 385 rfl rfl, inX3, tyX3_ok, nmX3, rfl, by decide +kernel⟩, fun _ h => absurd h List.not_mem_nil⟩⟩⟩
def MR_3 : List (Nat × Nat × Nat) := [(30, 69, 0), (36, 70, 0), (40, 52, 0), (56, 73, 0), (60, 72, 0), (70, 0, 7), (75, 0, 5), (79, 54, 0), (82, 71, 0), (85, 93, 0), (44, 53, 0), (48, 55, 0), (88, 66, 0), (94, 62, 0), (97, 57, 0), (100, 59, 0)]
def LI_3 : List (Nat × Int32) := []
set_option maxRecDepth 100000 in
theorem LI_3_ok : ∀ q ∈ LI_3, Cond.constant "RowDrawer$Lesson" q.1 q.2 ∈ TT := fun _ h => absurd h List.not_mem_nil
def LL_3 : List (Nat × Int64) := []
set_option maxRecDepth 100000 in
theorem LL_3_ok : ∀ q ∈ LL_3, Cond.constantLong "RowDrawer$Lesson" q.1 q.2 ∈ TT := fun _ h => absurd h List.not_mem_nil
def FR_4 : List (Nat × Nat × Nat) := [(9, 4, 0), (15, 4, 1)]
set_option maxRecDepth 100000 in
theorem FR_4_ok : ∀ q ∈ FR_4, FL "RowDrawer$Lexicon" q := List.forall_mem_cons.mpr ⟨⟨_, _, _, rfl, by decide, tt_at 113 rfl rfl, inX4⟩, List.forall_mem_cons.mpr ⟨⟨_, _, _, rfl, by decide, tt_at 114 rfl rfl, inX4⟩, fun _ h => absurd h List.not_mem_nil⟩⟩
def PR_4 : List (Nat × Nat × Nat × Nat) := []
set_option maxRecDepth 100000 in
theorem PR_4_ok : ∀ q ∈ PR_4, PL "RowDrawer$Lexicon" q := fun _ h => absurd h List.not_mem_nil
def MR_4 : List (Nat × Nat × Nat) := [(18, 60, 1), (22, 64, 0)]
def LI_4 : List (Nat × Int32) := []
set_option maxRecDepth 100000 in
theorem LI_4_ok : ∀ q ∈ LI_4, Cond.constant "RowDrawer$Lexicon" q.1 q.2 ∈ TT := fun _ h => absurd h List.not_mem_nil
def LL_4 : List (Nat × Int64) := []
set_option maxRecDepth 100000 in
theorem LL_4_ok : ∀ q ∈ LL_4, Cond.constantLong "RowDrawer$Lexicon" q.1 q.2 ∈ TT := fun _ h => absurd h List.not_mem_nil
def FR_5 : List (Nat × Nat × Nat) := [(28, 5, 0), (32, 5, 1), (36, 5, 2), (9, 5, 3), (15, 5, 4), (18, 5, 5), (21, 5, 6), (24, 5, 7), (44, 5, 8)]
set_option maxRecDepth 100000 in
theorem FR_5_ok : ∀ q ∈ FR_5, FL "RowDrawer$Marks" q := List.forall_mem_cons.mpr ⟨⟨_, _, _, rfl, by decide, tt_at 319 rfl rfl, inX5⟩, List.forall_mem_cons.mpr ⟨⟨_, _, _, rfl, by decide, tt_at 320 rfl rfl, inX5⟩, List.forall_mem_cons.mpr ⟨⟨_, _, _, rfl, by decide, tt_at 321 rfl rfl, inX5⟩, List.forall_mem_cons.mpr ⟨⟨_, _, _, rfl, by decide, tt_at 322 rfl rfl, inX5⟩, List.forall_mem_cons.mpr ⟨⟨_, _, _, rfl, by decide, tt_at 323 rfl rfl, inX5⟩, List.forall_mem_cons.mpr ⟨⟨_, _, _, rfl, by decide, tt_at 324 rfl rfl, inX5⟩, List.forall_mem_cons.mpr ⟨⟨_, _, _, rfl, by decide, tt_at 325 rfl rfl, inX5⟩, List.forall_mem_cons.mpr ⟨⟨_, _, _, rfl, by decide, tt_at 326 rfl rfl, inX5⟩, List.forall_mem_cons.mpr ⟨⟨_, _, _, rfl, by decide, tt_at 327 rfl rfl, inX5⟩, fun _ h => absurd h List.not_mem_nil⟩⟩⟩⟩⟩⟩⟩⟩⟩
def PR_5 : List (Nat × Nat × Nat × Nat) := [(44, 5, 8, 0)]
set_option maxRecDepth 100000 in
theorem PR_5_ok : ∀ q ∈ PR_5, PL "RowDrawer$Marks" q := List.forall_mem_cons.mpr ⟨⟨_, _, _, tyX5, rfl, by decide, tt_at 327 rfl rfl, inX5, tyX5_ok, nmX5, rfl, by decide +kernel⟩, fun _ h => absurd h List.not_mem_nil⟩
def MR_5 : List (Nat × Nat × Nat) := [(40, 68, 0), (54, 17, 0), (60, 70, 0), (48, 91, 0), (64, 45, 0), (70, 74, 0), (74, 210, 1)]
def LI_5 : List (Nat × Int32) := []
set_option maxRecDepth 100000 in
theorem LI_5_ok : ∀ q ∈ LI_5, Cond.constant "RowDrawer$Marks" q.1 q.2 ∈ TT := fun _ h => absurd h List.not_mem_nil
def LL_5 : List (Nat × Int64) := []
set_option maxRecDepth 100000 in
theorem LL_5_ok : ∀ q ∈ LL_5, Cond.constantLong "RowDrawer$Marks" q.1 q.2 ∈ TT := fun _ h => absurd h List.not_mem_nil
def FR_6 : List (Nat × Nat × Nat) := [(25, 6, 0), (12, 6, 1), (21, 6, 2), (39, 6, 3)]
set_option maxRecDepth 100000 in
theorem FR_6_ok : ∀ q ∈ FR_6, FL "RowDrawer$Reader" q := List.forall_mem_cons.mpr ⟨⟨_, _, _, rfl, by decide, tt_at 238 rfl rfl, inX6⟩, List.forall_mem_cons.mpr ⟨⟨_, _, _, rfl, by decide, tt_at 239 rfl rfl, inX6⟩, List.forall_mem_cons.mpr ⟨⟨_, _, _, rfl, by decide, tt_at 240 rfl rfl, inX6⟩, List.forall_mem_cons.mpr ⟨⟨_, _, _, rfl, by decide, tt_at 241 rfl rfl, inX6⟩, fun _ h => absurd h List.not_mem_nil⟩⟩⟩⟩
def PR_6 : List (Nat × Nat × Nat × Nat) := [(39, 6, 3, 0)]
set_option maxRecDepth 100000 in
theorem PR_6_ok : ∀ q ∈ PR_6, PL "RowDrawer$Reader" q := List.forall_mem_cons.mpr ⟨⟨_, _, _, tyX6, rfl, by decide, tt_at 241 rfl rfl, inX6, tyX6_ok, nmX6, rfl, by decide +kernel⟩, fun _ h => absurd h List.not_mem_nil⟩
def MR_6 : List (Nat × Nat × Nat) := [(29, 116, 0), (33, 115, 0), (38, 4, 0), (43, 118, 0), (47, 78, 0), (63, 13, 0), (59, 87, 0), (114, 119, 0), (66, 120, 0), (69, 85, 0), (73, 86, 0), (76, 6, 0), (80, 79, 0), (83, 7, 0), (89, 80, 1), (92, 8, 0), (96, 81, 0), (86, 9, 0), (50, 82, 0), (99, 14, 0), (102, 10, 0), (53, 83, 0), (105, 15, 0), (108, 11, 0), (56, 84, 0), (111, 12, 0)]
def LI_6 : List (Nat × Int32) := []
set_option maxRecDepth 100000 in
theorem LI_6_ok : ∀ q ∈ LI_6, Cond.constant "RowDrawer$Reader" q.1 q.2 ∈ TT := fun _ h => absurd h List.not_mem_nil
def LL_6 : List (Nat × Int64) := []
set_option maxRecDepth 100000 in
theorem LL_6_ok : ∀ q ∈ LL_6, Cond.constantLong "RowDrawer$Reader" q.1 q.2 ∈ TT := fun _ h => absurd h List.not_mem_nil
def FR_7 : List (Nat × Nat × Nat) := [(9, 7, 0), (15, 7, 1), (18, 7, 2), (22, 7, 3), (25, 7, 4), (29, 7, 5), (38, 7, 6)]
set_option maxRecDepth 100000 in
theorem FR_7_ok : ∀ q ∈ FR_7, FL "RowDrawer$Sentences" q := List.forall_mem_cons.mpr ⟨⟨_, _, _, rfl, by decide, tt_at 127 rfl rfl, inX7⟩, List.forall_mem_cons.mpr ⟨⟨_, _, _, rfl, by decide, tt_at 128 rfl rfl, inX7⟩, List.forall_mem_cons.mpr ⟨⟨_, _, _, rfl, by decide, tt_at 129 rfl rfl, inX7⟩, List.forall_mem_cons.mpr ⟨⟨_, _, _, rfl, by decide, tt_at 130 rfl rfl, inX7⟩, List.forall_mem_cons.mpr ⟨⟨_, _, _, rfl, by decide, tt_at 131 rfl rfl, inX7⟩, List.forall_mem_cons.mpr ⟨⟨_, _, _, rfl, by decide, tt_at 132 rfl rfl, inX7⟩, List.forall_mem_cons.mpr ⟨⟨_, _, _, rfl, by decide, tt_at 133 rfl rfl, inX7⟩, fun _ h => absurd h List.not_mem_nil⟩⟩⟩⟩⟩⟩⟩
def PR_7 : List (Nat × Nat × Nat × Nat) := [(25, 7, 4, 0), (29, 7, 5, 0), (38, 7, 6, 0)]
set_option maxRecDepth 100000 in
theorem PR_7_ok : ∀ q ∈ PR_7, PL "RowDrawer$Sentences" q := List.forall_mem_cons.mpr ⟨⟨_, _, _, tyX7, rfl, by decide, tt_at 131 rfl rfl, inX7, tyX7_ok, nmX7, rfl, by decide +kernel⟩, List.forall_mem_cons.mpr ⟨⟨_, _, _, tyX7, rfl, by decide, tt_at 132 rfl rfl, inX7, tyX7_ok, nmX7, rfl, by decide +kernel⟩, List.forall_mem_cons.mpr ⟨⟨_, _, _, tyX7, rfl, by decide, tt_at 133 rfl rfl, inX7, tyX7_ok, nmX7, rfl, by decide +kernel⟩, fun _ h => absurd h List.not_mem_nil⟩⟩⟩
def MR_7 : List (Nat × Nat × Nat) := [(32, 0, 3), (41, 91, 0)]
def LI_7 : List (Nat × Int32) := []
set_option maxRecDepth 100000 in
theorem LI_7_ok : ∀ q ∈ LI_7, Cond.constant "RowDrawer$Sentences" q.1 q.2 ∈ TT := fun _ h => absurd h List.not_mem_nil
def LL_7 : List (Nat × Int64) := []
set_option maxRecDepth 100000 in
theorem LL_7_ok : ∀ q ∈ LL_7, Cond.constantLong "RowDrawer$Sentences" q.1 q.2 ∈ TT := fun _ h => absurd h List.not_mem_nil
def FR_8 : List (Nat × Nat × Nat) := [(18, 8, 0), (22, 8, 1), (26, 8, 2), (30, 8, 3), (11, 8, 4), (15, 8, 5), (34, 8, 6)]
set_option maxRecDepth 100000 in
theorem FR_8_ok : ∀ q ∈ FR_8, FL "RowDrawer$Table" q := List.forall_mem_cons.mpr ⟨⟨_, _, _, rfl, by decide, tt_at 290 rfl rfl, inX8⟩, List.forall_mem_cons.mpr ⟨⟨_, _, _, rfl, by decide, tt_at 291 rfl rfl, inX8⟩, List.forall_mem_cons.mpr ⟨⟨_, _, _, rfl, by decide, tt_at 292 rfl rfl, inX8⟩, List.forall_mem_cons.mpr ⟨⟨_, _, _, rfl, by decide, tt_at 293 rfl rfl, inX8⟩, List.forall_mem_cons.mpr ⟨⟨_, _, _, rfl, by decide, tt_at 294 rfl rfl, inX8⟩, List.forall_mem_cons.mpr ⟨⟨_, _, _, rfl, by decide, tt_at 295 rfl rfl, inX8⟩, List.forall_mem_cons.mpr ⟨⟨_, _, _, rfl, by decide, tt_at 296 rfl rfl, inX8⟩, fun _ h => absurd h List.not_mem_nil⟩⟩⟩⟩⟩⟩⟩
def PR_8 : List (Nat × Nat × Nat × Nat) := [(34, 8, 6, 1)]
set_option maxRecDepth 100000 in
theorem PR_8_ok : ∀ q ∈ PR_8, PL "RowDrawer$Table" q := List.forall_mem_cons.mpr ⟨⟨_, _, _, tyX8, rfl, by decide, tt_at 296 rfl rfl, inX8, tyX8_ok, nmX8, rfl, by decide +kernel⟩, fun _ h => absurd h List.not_mem_nil⟩
def MR_8 : List (Nat × Nat × Nat) := [(38, 211, 1), (44, 95, 0), (50, 44, 0), (56, 99, 0), (63, 13, 0), (68, 43, 0), (72, 17, 0), (76, 100, 0), (84, 93, 0), (87, 65, 0), (80, 101, 0), (95, 60, 1), (60, 102, 0), (99, 15, 0), (102, 25, 0), (105, 26, 0), (108, 27, 0), (111, 103, 0), (115, 106, 0), (127, 210, 1), (118, 104, 0), (122, 105, 0), (133, 109, 0), (92, 149, 2)]
def LI_8 : List (Nat × Int32) := [(98, 100001)]
set_option maxRecDepth 100000 in
theorem LI_8_ok : ∀ q ∈ LI_8, Cond.constant "RowDrawer$Table" q.1 q.2 ∈ TT := List.forall_mem_cons.mpr ⟨tt_at 924 rfl rfl, fun _ h => absurd h List.not_mem_nil⟩
def LL_8 : List (Nat × Int64) := [(125, -1)]
set_option maxRecDepth 100000 in
theorem LL_8_ok : ∀ q ∈ LL_8, Cond.constantLong "RowDrawer$Table" q.1 q.2 ∈ TT := List.forall_mem_cons.mpr ⟨tt_at 960 rfl rfl, fun _ h => absurd h List.not_mem_nil⟩
def FR_9 : List (Nat × Nat × Nat) := [(9, 9, 0), (19, 9, 1)]
set_option maxRecDepth 100000 in
theorem FR_9_ok : ∀ q ∈ FR_9, FL "RowDrawer$Tape" q := List.forall_mem_cons.mpr ⟨⟨_, _, _, rfl, by decide, tt_at 156 rfl rfl, inX9⟩, List.forall_mem_cons.mpr ⟨⟨_, _, _, rfl, by decide, tt_at 157 rfl rfl, inX9⟩, fun _ h => absurd h List.not_mem_nil⟩⟩
def PR_9 : List (Nat × Nat × Nat × Nat) := [(19, 9, 1, 0)]
set_option maxRecDepth 100000 in
theorem PR_9_ok : ∀ q ∈ PR_9, PL "RowDrawer$Tape" q := List.forall_mem_cons.mpr ⟨⟨_, _, _, tyX9, rfl, by decide, tt_at 157 rfl rfl, inX9, tyX9_ok, nmX9, rfl, by decide +kernel⟩, fun _ h => absurd h List.not_mem_nil⟩
def MR_9 : List (Nat × Nat × Nat) := [(15, 112, 1)]
def LI_9 : List (Nat × Int32) := []
set_option maxRecDepth 100000 in
theorem LI_9_ok : ∀ q ∈ LI_9, Cond.constant "RowDrawer$Tape" q.1 q.2 ∈ TT := fun _ h => absurd h List.not_mem_nil
def LL_9 : List (Nat × Int64) := []
set_option maxRecDepth 100000 in
theorem LL_9_ok : ∀ q ∈ LL_9, Cond.constantLong "RowDrawer$Tape" q.1 q.2 ∈ TT := fun _ h => absurd h List.not_mem_nil
def FR_10 : List (Nat × Nat × Nat) := [(9, 10, 0), (15, 10, 1), (18, 10, 2), (22, 10, 3)]
set_option maxRecDepth 100000 in
theorem FR_10_ok : ∀ q ∈ FR_10, FL "RowDrawer$Tokens" q := List.forall_mem_cons.mpr ⟨⟨_, _, _, rfl, by decide, tt_at 176 rfl rfl, inX10⟩, List.forall_mem_cons.mpr ⟨⟨_, _, _, rfl, by decide, tt_at 177 rfl rfl, inX10⟩, List.forall_mem_cons.mpr ⟨⟨_, _, _, rfl, by decide, tt_at 178 rfl rfl, inX10⟩, List.forall_mem_cons.mpr ⟨⟨_, _, _, rfl, by decide, tt_at 179 rfl rfl, inX10⟩, fun _ h => absurd h List.not_mem_nil⟩⟩⟩⟩
def PR_10 : List (Nat × Nat × Nat × Nat) := [(18, 10, 2, 0), (22, 10, 3, 0)]
set_option maxRecDepth 100000 in
theorem PR_10_ok : ∀ q ∈ PR_10, PL "RowDrawer$Tokens" q := List.forall_mem_cons.mpr ⟨⟨_, _, _, tyX10, rfl, by decide, tt_at 178 rfl rfl, inX10, tyX10_ok, nmX10, rfl, by decide +kernel⟩, List.forall_mem_cons.mpr ⟨⟨_, _, _, tyX10, rfl, by decide, tt_at 179 rfl rfl, inX10, tyX10_ok, nmX10, rfl, by decide +kernel⟩, fun _ h => absurd h List.not_mem_nil⟩⟩
def MR_10 : List (Nat × Nat × Nat) := [(25, 113, 0), (31, 114, 0), (35, 127, 1), (39, 121, 1), (51, 128, 1), (54, 129, 1), (43, 122, 1), (57, 123, 1), (60, 124, 1), (65, 126, 1), (90, 212, 4), (93, 213, 4), (79, 125, 1), (47, 117, 0)]
def LI_10 : List (Nat × Int32) := []
set_option maxRecDepth 100000 in
theorem LI_10_ok : ∀ q ∈ LI_10, Cond.constant "RowDrawer$Tokens" q.1 q.2 ∈ TT := fun _ h => absurd h List.not_mem_nil
def LL_10 : List (Nat × Int64) := []
set_option maxRecDepth 100000 in
theorem LL_10_ok : ∀ q ∈ LL_10, Cond.constantLong "RowDrawer$Tokens" q.1 q.2 ∈ TT := fun _ h => absurd h List.not_mem_nil
def FR_11 : List (Nat × Nat × Nat) := [(10, 11, 0), (19, 11, 1), (26, 11, 2), (35, 11, 3), (42, 11, 4), (51, 11, 5), (60, 11, 6), (69, 11, 7), (76, 11, 8), (85, 11, 9)]
set_option maxRecDepth 100000 in
theorem FR_11_ok : ∀ q ∈ FR_11, FL "RowDrawer" q := List.forall_mem_cons.mpr ⟨⟨_, _, _, rfl, by decide, tt_at 403 rfl rfl, inX11⟩, List.forall_mem_cons.mpr ⟨⟨_, _, _, rfl, by decide, tt_at 404 rfl rfl, inX11⟩, List.forall_mem_cons.mpr ⟨⟨_, _, _, rfl, by decide, tt_at 405 rfl rfl, inX11⟩, List.forall_mem_cons.mpr ⟨⟨_, _, _, rfl, by decide, tt_at 406 rfl rfl, inX11⟩, List.forall_mem_cons.mpr ⟨⟨_, _, _, rfl, by decide, tt_at 407 rfl rfl, inX11⟩, List.forall_mem_cons.mpr ⟨⟨_, _, _, rfl, by decide, tt_at 408 rfl rfl, inX11⟩, List.forall_mem_cons.mpr ⟨⟨_, _, _, rfl, by decide, tt_at 409 rfl rfl, inX11⟩, List.forall_mem_cons.mpr ⟨⟨_, _, _, rfl, by decide, tt_at 410 rfl rfl, inX11⟩, List.forall_mem_cons.mpr ⟨⟨_, _, _, rfl, by decide, tt_at 411 rfl rfl, inX11⟩, List.forall_mem_cons.mpr ⟨⟨_, _, _, rfl, by decide, tt_at 412 rfl rfl, inX11⟩, fun _ h => absurd h List.not_mem_nil⟩⟩⟩⟩⟩⟩⟩⟩⟩⟩
def PR_11 : List (Nat × Nat × Nat × Nat) := []
set_option maxRecDepth 100000 in
theorem PR_11_ok : ∀ q ∈ PR_11, PL "RowDrawer" q := fun _ h => absurd h List.not_mem_nil
def MR_11 : List (Nat × Nat × Nat) := [(89, 61, 0), (93, 30, 0), (97, 97, 0), (100, 63, 0), (103, 60, 1), (107, 88, 0), (111, 89, 0), (115, 29, 0), (117, 90, 0), (120, 111, 0), (124, 113, 0), (127, 77, 0), (130, 76, 0), (134, 5, 0), (138, 31, 0), (141, 32, 0), (144, 46, 0), (148, 48, 0), (152, 149, 1), (155, 98, 0), (156, 107, 0), (159, 108, 0), (163, 28, 0), (166, 110, 0), (169, 91, 0), (172, 92, 0), (175, 67, 0), (210, 13, 0), (191, 74, 0), (213, 0, 0), (217, 1, 0), (220, 51, 0), (223, 56, 0), (224, 58, 0), (227, 65, 0), (230, 95, 0), (233, 96, 0), (236, 14, 0), (239, 15, 0), (242, 69, 0), (244, 94, 0), (178, 16, 0), (188, 17, 0), (195, 210, 1), (201, 75, 0), (204, 18, 0), (207, 47, 0)]
def LI_11 : List (Nat × Int32) := []
set_option maxRecDepth 100000 in
theorem LI_11_ok : ∀ q ∈ LI_11, Cond.constant "RowDrawer" q.1 q.2 ∈ TT := fun _ h => absurd h List.not_mem_nil
def LL_11 : List (Nat × Int64) := []
set_option maxRecDepth 100000 in
theorem LL_11_ok : ∀ q ∈ LL_11, Cond.constantLong "RowDrawer" q.1 q.2 ∈ TT := fun _ h => absurd h List.not_mem_nil
def FR_12 : List (Nat × Nat × Nat) := [(1, 12, 0), (14, 12, 1), (11, 12, 2), (161, 12, 3), (24, 12, 4), (27, 12, 5), (30, 12, 6), (180, 12, 7), (183, 12, 8), (54, 12, 9), (202, 12, 10), (205, 12, 11), (57, 12, 12), (60, 12, 13), (63, 12, 14), (66, 12, 15), (70, 12, 16), (73, 12, 17), (76, 12, 18), (79, 12, 19), (82, 12, 20), (85, 12, 21), (88, 12, 22), (91, 12, 23), (224, 12, 24), (227, 12, 25), (94, 12, 26), (97, 12, 27), (249, 12, 28), (100, 12, 29), (252, 12, 30), (103, 12, 31), (106, 12, 32), (109, 12, 33), (112, 12, 34), (117, 12, 35), (120, 12, 36), (123, 12, 37), (127, 12, 38), (289, 12, 39), (130, 12, 40), (133, 12, 41), (136, 12, 42), (139, 12, 43), (142, 12, 44), (145, 12, 45), (148, 12, 46), (313, 12, 47), (307, 12, 48), (310, 12, 49), (151, 12, 50), (154, 12, 51)]
set_option maxRecDepth 100000 in
theorem FR_12_ok : ∀ q ∈ FR_12, FL "RowDrawerModel" q := List.forall_mem_cons.mpr ⟨⟨_, _, _, rfl, by decide, tt_at 1252 rfl rfl, inX12⟩, List.forall_mem_cons.mpr ⟨⟨_, _, _, rfl, by decide, tt_at 1253 rfl rfl, inX12⟩, List.forall_mem_cons.mpr ⟨⟨_, _, _, rfl, by decide, tt_at 1254 rfl rfl, inX12⟩, List.forall_mem_cons.mpr ⟨⟨_, _, _, rfl, by decide, tt_at 1255 rfl rfl, inX12⟩, List.forall_mem_cons.mpr ⟨⟨_, _, _, rfl, by decide, tt_at 1256 rfl rfl, inX12⟩, List.forall_mem_cons.mpr ⟨⟨_, _, _, rfl, by decide, tt_at 1257 rfl rfl, inX12⟩, List.forall_mem_cons.mpr ⟨⟨_, _, _, rfl, by decide, tt_at 1258 rfl rfl, inX12⟩, List.forall_mem_cons.mpr ⟨⟨_, _, _, rfl, by decide, tt_at 1259 rfl rfl, inX12⟩, List.forall_mem_cons.mpr ⟨⟨_, _, _, rfl, by decide, tt_at 1260 rfl rfl, inX12⟩, List.forall_mem_cons.mpr ⟨⟨_, _, _, rfl, by decide, tt_at 1261 rfl rfl, inX12⟩, List.forall_mem_cons.mpr ⟨⟨_, _, _, rfl, by decide, tt_at 1262 rfl rfl, inX12⟩, List.forall_mem_cons.mpr ⟨⟨_, _, _, rfl, by decide, tt_at 1263 rfl rfl, inX12⟩, List.forall_mem_cons.mpr ⟨⟨_, _, _, rfl, by decide, tt_at 1264 rfl rfl, inX12⟩, List.forall_mem_cons.mpr ⟨⟨_, _, _, rfl, by decide, tt_at 1265 rfl rfl, inX12⟩, List.forall_mem_cons.mpr ⟨⟨_, _, _, rfl, by decide, tt_at 1266 rfl rfl, inX12⟩, List.forall_mem_cons.mpr ⟨⟨_, _, _, rfl, by decide, tt_at 1267 rfl rfl, inX12⟩, List.forall_mem_cons.mpr ⟨⟨_, _, _, rfl, by decide, tt_at 1268 rfl rfl, inX12⟩, List.forall_mem_cons.mpr ⟨⟨_, _, _, rfl, by decide, tt_at 1269 rfl rfl, inX12⟩, List.forall_mem_cons.mpr ⟨⟨_, _, _, rfl, by decide, tt_at 1270 rfl rfl, inX12⟩, List.forall_mem_cons.mpr ⟨⟨_, _, _, rfl, by decide, tt_at 1271 rfl rfl, inX12⟩, List.forall_mem_cons.mpr ⟨⟨_, _, _, rfl, by decide, tt_at 1272 rfl rfl, inX12⟩, List.forall_mem_cons.mpr ⟨⟨_, _, _, rfl, by decide, tt_at 1273 rfl rfl, inX12⟩, List.forall_mem_cons.mpr ⟨⟨_, _, _, rfl, by decide, tt_at 1274 rfl rfl, inX12⟩, List.forall_mem_cons.mpr ⟨⟨_, _, _, rfl, by decide, tt_at 1275 rfl rfl, inX12⟩, List.forall_mem_cons.mpr ⟨⟨_, _, _, rfl, by decide, tt_at 1276 rfl rfl, inX12⟩, List.forall_mem_cons.mpr ⟨⟨_, _, _, rfl, by decide, tt_at 1277 rfl rfl, inX12⟩, List.forall_mem_cons.mpr ⟨⟨_, _, _, rfl, by decide, tt_at 1278 rfl rfl, inX12⟩, List.forall_mem_cons.mpr ⟨⟨_, _, _, rfl, by decide, tt_at 1279 rfl rfl, inX12⟩, List.forall_mem_cons.mpr ⟨⟨_, _, _, rfl, by decide, tt_at 1280 rfl rfl, inX12⟩, List.forall_mem_cons.mpr ⟨⟨_, _, _, rfl, by decide, tt_at 1281 rfl rfl, inX12⟩, List.forall_mem_cons.mpr ⟨⟨_, _, _, rfl, by decide, tt_at 1282 rfl rfl, inX12⟩, List.forall_mem_cons.mpr ⟨⟨_, _, _, rfl, by decide, tt_at 1283 rfl rfl, inX12⟩, List.forall_mem_cons.mpr ⟨⟨_, _, _, rfl, by decide, tt_at 1284 rfl rfl, inX12⟩, List.forall_mem_cons.mpr ⟨⟨_, _, _, rfl, by decide, tt_at 1285 rfl rfl, inX12⟩, List.forall_mem_cons.mpr ⟨⟨_, _, _, rfl, by decide, tt_at 1286 rfl rfl, inX12⟩, List.forall_mem_cons.mpr ⟨⟨_, _, _, rfl, by decide, tt_at 1287 rfl rfl, inX12⟩, List.forall_mem_cons.mpr ⟨⟨_, _, _, rfl, by decide, tt_at 1288 rfl rfl, inX12⟩, List.forall_mem_cons.mpr ⟨⟨_, _, _, rfl, by decide, tt_at 1289 rfl rfl, inX12⟩, List.forall_mem_cons.mpr ⟨⟨_, _, _, rfl, by decide, tt_at 1290 rfl rfl, inX12⟩, List.forall_mem_cons.mpr ⟨⟨_, _, _, rfl, by decide, tt_at 1291 rfl rfl, inX12⟩, List.forall_mem_cons.mpr ⟨⟨_, _, _, rfl, by decide, tt_at 1292 rfl rfl, inX12⟩, List.forall_mem_cons.mpr ⟨⟨_, _, _, rfl, by decide, tt_at 1293 rfl rfl, inX12⟩, List.forall_mem_cons.mpr ⟨⟨_, _, _, rfl, by decide, tt_at 1294 rfl rfl, inX12⟩, List.forall_mem_cons.mpr ⟨⟨_, _, _, rfl, by decide, tt_at 1295 rfl rfl, inX12⟩, List.forall_mem_cons.mpr ⟨⟨_, _, _, rfl, by decide, tt_at 1296 rfl rfl, inX12⟩, List.forall_mem_cons.mpr ⟨⟨_, _, _, rfl, by decide, tt_at 1297 rfl rfl, inX12⟩, List.forall_mem_cons.mpr ⟨⟨_, _, _, rfl, by decide, tt_at 1298 rfl rfl, inX12⟩, List.forall_mem_cons.mpr ⟨⟨_, _, _, rfl, by decide, tt_at 1299 rfl rfl, inX12⟩, List.forall_mem_cons.mpr ⟨⟨_, _, _, rfl, by decide, tt_at 1300 rfl rfl, inX12⟩, List.forall_mem_cons.mpr ⟨⟨_, _, _, rfl, by decide, tt_at 1301 rfl rfl, inX12⟩, List.forall_mem_cons.mpr ⟨⟨_, _, _, rfl, by decide, tt_at 1302 rfl rfl, inX12⟩, List.forall_mem_cons.mpr ⟨⟨_, _, _, rfl, by decide, tt_at 1303 rfl rfl, inX12⟩, fun _ h => absurd h List.not_mem_nil⟩⟩⟩⟩⟩⟩⟩⟩⟩⟩⟩⟩⟩⟩⟩⟩⟩⟩⟩⟩⟩⟩⟩⟩⟩⟩⟩⟩⟩⟩⟩⟩⟩⟩⟩⟩⟩⟩⟩⟩⟩⟩⟩⟩⟩⟩⟩⟩⟩⟩⟩⟩
def PR_12 : List (Nat × Nat × Nat × Nat) := [(1, 12, 0, 0), (11, 12, 2, 0), (161, 12, 3, 0), (180, 12, 7, 0), (183, 12, 8, 0), (202, 12, 10, 0), (205, 12, 11, 0), (224, 12, 24, 1), (227, 12, 25, 1), (249, 12, 28, 0), (252, 12, 30, 0), (112, 12, 34, 1), (289, 12, 39, 0), (313, 12, 47, 0), (307, 12, 48, 0), (310, 12, 49, 0)]
set_option maxRecDepth 100000 in
theorem PR_12_ok : ∀ q ∈ PR_12, PL "RowDrawerModel" q := List.forall_mem_cons.mpr ⟨⟨_, _, _, tyX12, rfl, by decide, tt_at 1252 rfl rfl, inX12, tyX12_ok, nmX12, rfl, by decide +kernel⟩, List.forall_mem_cons.mpr ⟨⟨_, _, _, tyX12, rfl, by decide, tt_at 1254 rfl rfl, inX12, tyX12_ok, nmX12, rfl, by decide +kernel⟩, List.forall_mem_cons.mpr ⟨⟨_, _, _, tyX12, rfl, by decide, tt_at 1255 rfl rfl, inX12, tyX12_ok, nmX12, rfl, by decide +kernel⟩, List.forall_mem_cons.mpr ⟨⟨_, _, _, tyX12, rfl, by decide, tt_at 1259 rfl rfl, inX12, tyX12_ok, nmX12, rfl, by decide +kernel⟩, List.forall_mem_cons.mpr ⟨⟨_, _, _, tyX12, rfl, by decide, tt_at 1260 rfl rfl, inX12, tyX12_ok, nmX12, rfl, by decide +kernel⟩, List.forall_mem_cons.mpr ⟨⟨_, _, _, tyX12, rfl, by decide, tt_at 1262 rfl rfl, inX12, tyX12_ok, nmX12, rfl, by decide +kernel⟩, List.forall_mem_cons.mpr ⟨⟨_, _, _, tyX12, rfl, by decide, tt_at 1263 rfl rfl, inX12, tyX12_ok, nmX12, rfl, by decide +kernel⟩, List.forall_mem_cons.mpr ⟨⟨_, _, _, tyX12, rfl, by decide, tt_at 1276 rfl rfl, inX12, tyX12_ok, nmX12, rfl, by decide +kernel⟩, List.forall_mem_cons.mpr ⟨⟨_, _, _, tyX12, rfl, by decide, tt_at 1277 rfl rfl, inX12, tyX12_ok, nmX12, rfl, by decide +kernel⟩, List.forall_mem_cons.mpr ⟨⟨_, _, _, tyX12, rfl, by decide, tt_at 1280 rfl rfl, inX12, tyX12_ok, nmX12, rfl, by decide +kernel⟩, List.forall_mem_cons.mpr ⟨⟨_, _, _, tyX12, rfl, by decide, tt_at 1282 rfl rfl, inX12, tyX12_ok, nmX12, rfl, by decide +kernel⟩, List.forall_mem_cons.mpr ⟨⟨_, _, _, tyX12, rfl, by decide, tt_at 1286 rfl rfl, inX12, tyX12_ok, nmX12, rfl, by decide +kernel⟩, List.forall_mem_cons.mpr ⟨⟨_, _, _, tyX12, rfl, by decide, tt_at 1291 rfl rfl, inX12, tyX12_ok, nmX12, rfl, by decide +kernel⟩, List.forall_mem_cons.mpr ⟨⟨_, _, _, tyX12, rfl, by decide, tt_at 1299 rfl rfl, inX12, tyX12_ok, nmX12, rfl, by decide +kernel⟩, List.forall_mem_cons.mpr ⟨⟨_, _, _, tyX12, rfl, by decide, tt_at 1300 rfl rfl, inX12, tyX12_ok, nmX12, rfl, by decide +kernel⟩, List.forall_mem_cons.mpr ⟨⟨_, _, _, tyX12, rfl, by decide, tt_at 1301 rfl rfl, inX12, tyX12_ok, nmX12, rfl, by decide +kernel⟩, fun _ h => absurd h List.not_mem_nil⟩⟩⟩⟩⟩⟩⟩⟩⟩⟩⟩⟩⟩⟩⟩⟩
def MR_12 : List (Nat × Nat × Nat) := [(7, 152, 0), (199, 157, 0), (157, 153, 1), (166, 155, 1), (170, 154, 1), (177, 156, 1), (208, 166, 0), (193, 160, 0), (211, 168, 0), (189, 158, 0), (214, 164, 0), (218, 161, 0), (186, 159, 0), (230, 170, 0), (233, 169, 0), (237, 171, 0), (196, 162, 0), (240, 163, 0), (221, 167, 0), (243, 172, 1), (246, 174, 0), (255, 179, 0), (274, 183, 0), (258, 184, 0), (262, 185, 0), (270, 181, 0), (266, 182, 1), (277, 186, 0), (283, 191, 1), (286, 189, 0), (280, 190, 0), (296, 197, 0), (292, 196, 0), (300, 199, 1), (316, 203, 0), (304, 202, 1), (319, 201, 0), (322, 208, 0)]
def LI_12 : List (Nat × Int32) := [(116, 122880), (126, 102010)]
set_option maxRecDepth 100000 in
theorem LI_12_ok : ∀ q ∈ LI_12, Cond.constant "RowDrawerModel" q.1 q.2 ∈ TT := List.forall_mem_cons.mpr ⟨tt_at 1250 rfl rfl, List.forall_mem_cons.mpr ⟨tt_at 1251 rfl rfl, fun _ h => absurd h List.not_mem_nil⟩⟩
def LL_12 : List (Nat × Int64) := [(34, 940952), (36, 2793), (38, 6029423), (40, 1335121806), (42, 983428), (44, 614923), (46, 34200674), (48, 1186224), (50, 983628), (52, 1912), (164, 37), (173, 10), (175, 48)]
set_option maxRecDepth 100000 in
theorem LL_12_ok : ∀ q ∈ LL_12, Cond.constantLong "RowDrawerModel" q.1 q.2 ∈ TT := List.forall_mem_cons.mpr ⟨tt_at 1240 rfl rfl, List.forall_mem_cons.mpr ⟨tt_at 1241 rfl rfl, List.forall_mem_cons.mpr ⟨tt_at 1242 rfl rfl, List.forall_mem_cons.mpr ⟨tt_at 1243 rfl rfl, List.forall_mem_cons.mpr ⟨tt_at 1244 rfl rfl, List.forall_mem_cons.mpr ⟨tt_at 1245 rfl rfl, List.forall_mem_cons.mpr ⟨tt_at 1246 rfl rfl, List.forall_mem_cons.mpr ⟨tt_at 1247 rfl rfl, List.forall_mem_cons.mpr ⟨tt_at 1248 rfl rfl, List.forall_mem_cons.mpr ⟨tt_at 1249 rfl rfl, List.forall_mem_cons.mpr ⟨tt_at 1420 rfl rfl, List.forall_mem_cons.mpr ⟨tt_at 1427 rfl rfl, List.forall_mem_cons.mpr ⟨tt_at 1428 rfl rfl, fun _ h => absurd h List.not_mem_nil⟩⟩⟩⟩⟩⟩⟩⟩⟩⟩⟩⟩⟩
def FR_13 : List (Nat × Nat × Nat) := []
set_option maxRecDepth 100000 in
theorem FR_13_ok : ∀ q ∈ FR_13, FL "java/lang/Integer" q := fun _ h => absurd h List.not_mem_nil
def PR_13 : List (Nat × Nat × Nat × Nat) := []
set_option maxRecDepth 100000 in
theorem PR_13_ok : ∀ q ∈ PR_13, PL "java/lang/Integer" q := fun _ h => absurd h List.not_mem_nil
def MR_13 : List (Nat × Nat × Nat) := []
def LI_13 : List (Nat × Int32) := [(265, 1431655765), (266, 858993459), (267, 252645135)]
set_option maxRecDepth 100000 in
theorem LI_13_ok : ∀ q ∈ LI_13, Cond.constant "java/lang/Integer" q.1 q.2 ∈ TT := List.forall_mem_cons.mpr ⟨tt_at 849 rfl rfl, List.forall_mem_cons.mpr ⟨tt_at 850 rfl rfl, List.forall_mem_cons.mpr ⟨tt_at 851 rfl rfl, fun _ h => absurd h List.not_mem_nil⟩⟩⟩
def LL_13 : List (Nat × Int64) := []
set_option maxRecDepth 100000 in
theorem LL_13_ok : ∀ q ∈ LL_13, Cond.constantLong "java/lang/Integer" q.1 q.2 ∈ TT := fun _ h => absurd h List.not_mem_nil
def FR_14 : List (Nat × Nat × Nat) := []
set_option maxRecDepth 100000 in
theorem FR_14_ok : ∀ q ∈ FR_14, FL "java/lang/Long" q := fun _ h => absurd h List.not_mem_nil
def PR_14 : List (Nat × Nat × Nat × Nat) := []
set_option maxRecDepth 100000 in
theorem PR_14_ok : ∀ q ∈ PR_14, PL "java/lang/Long" q := fun _ h => absurd h List.not_mem_nil
def MR_14 : List (Nat × Nat × Nat) := []
def LI_14 : List (Nat × Int32) := []
set_option maxRecDepth 100000 in
theorem LI_14_ok : ∀ q ∈ LI_14, Cond.constant "java/lang/Long" q.1 q.2 ∈ TT := fun _ h => absurd h List.not_mem_nil
def LL_14 : List (Nat × Int64) := [(314, 6148914691236517205), (316, 3689348814741910323), (318, 1085102592571150095)]
set_option maxRecDepth 100000 in
theorem LL_14_ok : ∀ q ∈ LL_14, Cond.constantLong "java/lang/Long" q.1 q.2 ∈ TT := List.forall_mem_cons.mpr ⟨tt_at 949 rfl rfl, List.forall_mem_cons.mpr ⟨tt_at 950 rfl rfl, List.forall_mem_cons.mpr ⟨tt_at 951 rfl rfl, fun _ h => absurd h List.not_mem_nil⟩⟩⟩
def FR_15 : List (Nat × Nat × Nat) := []
set_option maxRecDepth 100000 in
theorem FR_15_ok : ∀ q ∈ FR_15, FL "java/lang/Math" q := fun _ h => absurd h List.not_mem_nil
def PR_15 : List (Nat × Nat × Nat × Nat) := []
set_option maxRecDepth 100000 in
theorem PR_15_ok : ∀ q ∈ PR_15, PL "java/lang/Math" q := fun _ h => absurd h List.not_mem_nil
def MR_15 : List (Nat × Nat × Nat) := []
def LI_15 : List (Nat × Int32) := []
set_option maxRecDepth 100000 in
theorem LI_15_ok : ∀ q ∈ LI_15, Cond.constant "java/lang/Math" q.1 q.2 ∈ TT := fun _ h => absurd h List.not_mem_nil
def LL_15 : List (Nat × Int64) := []
set_option maxRecDepth 100000 in
theorem LL_15_ok : ∀ q ∈ LL_15, Cond.constantLong "java/lang/Math" q.1 q.2 ∈ TT := fun _ h => absurd h List.not_mem_nil
def FR_16 : List (Nat × Nat × Nat) := []
set_option maxRecDepth 100000 in
theorem FR_16_ok : ∀ q ∈ FR_16, FL "java/util/Arrays" q := fun _ h => absurd h List.not_mem_nil
def PR_16 : List (Nat × Nat × Nat × Nat) := []
set_option maxRecDepth 100000 in
theorem PR_16_ok : ∀ q ∈ PR_16, PL "java/util/Arrays" q := fun _ h => absurd h List.not_mem_nil
def MR_16 : List (Nat × Nat × Nat) := []
def LI_16 : List (Nat × Int32) := []
set_option maxRecDepth 100000 in
theorem LI_16_ok : ∀ q ∈ LI_16, Cond.constant "java/util/Arrays" q.1 q.2 ∈ TT := fun _ h => absurd h List.not_mem_nil
def LL_16 : List (Nat × Int64) := []
set_option maxRecDepth 100000 in
theorem LL_16_ok : ∀ q ∈ LL_16, Cond.constantLong "java/util/Arrays" q.1 q.2 ∈ TT := fun _ h => absurd h List.not_mem_nil
def FR_17 : List (Nat × Nat × Nat) := []
set_option maxRecDepth 100000 in
theorem FR_17_ok : ∀ q ∈ FR_17, FL "java/lang/String" q := fun _ h => absurd h List.not_mem_nil
def PR_17 : List (Nat × Nat × Nat × Nat) := []
set_option maxRecDepth 100000 in
theorem PR_17_ok : ∀ q ∈ PR_17, PL "java/lang/String" q := fun _ h => absurd h List.not_mem_nil
def MR_17 : List (Nat × Nat × Nat) := []
def LI_17 : List (Nat × Int32) := []
set_option maxRecDepth 100000 in
theorem LI_17_ok : ∀ q ∈ LI_17, Cond.constant "java/lang/String" q.1 q.2 ∈ TT := fun _ h => absurd h List.not_mem_nil
def LL_17 : List (Nat × Int64) := []
set_option maxRecDepth 100000 in
theorem LL_17_ok : ∀ q ∈ LL_17, Cond.constantLong "java/lang/String" q.1 q.2 ∈ TT := fun _ h => absurd h List.not_mem_nil
def ML (own : String) (q : Nat × Nat × Nat) : Prop := match q.2.2 with
  | 3 => Cond.methodLink own q.1 arraycopyName ∈ TT
  | 5 => Cond.methodLink own q.1 Lib.Math.min.name ∈ TT
  | 6 => Cond.methodLink own q.1 Lib.Math.max.name ∈ TT
  | 7 => Cond.methodLink own q.1 Lib.Math.abs.name ∈ TT
  | 2 => ∃ x, MT[q.2.1]? = some x ∧ ∃ host, (own, q.1, mY x.1, host) ∈ nestL
  | _ => ∃ x, MT[q.2.1]? = some x ∧ Cond.methodLink own q.1 (mY x.1) ∈ TT
set_option maxRecDepth 100000 in
theorem MR_0_ok : ∀ q ∈ MR_0, ML "RowDrawer$BestSet" q := List.forall_mem_cons.mpr ⟨tt_at 1027 rfl rfl, List.forall_mem_cons.mpr ⟨⟨_, rfl, tt_at 1028 rfl rfl⟩, List.forall_mem_cons.mpr ⟨⟨_, rfl, tt_at 1032 rfl rfl⟩, List.forall_mem_cons.mpr ⟨⟨_, rfl, tt_at 1033 rfl rfl⟩, List.forall_mem_cons.mpr ⟨⟨_, rfl, tt_at 1037 rfl rfl⟩, fun _ h => absurd h List.not_mem_nil⟩⟩⟩⟩⟩
set_option maxRecDepth 100000 in
theorem MR_1_ok : ∀ q ∈ MR_1, ML "RowDrawer$Book" q := List.forall_mem_cons.mpr ⟨tt_at 744 rfl rfl, List.forall_mem_cons.mpr ⟨⟨_, rfl, tt_at 784 rfl rfl⟩, List.forall_mem_cons.mpr ⟨⟨_, rfl, tt_at 804 rfl rfl⟩, List.forall_mem_cons.mpr ⟨⟨_, rfl, ⟨_, List.mem_of_getElem? (i := 0) rfl⟩⟩, fun _ h => absurd h List.not_mem_nil⟩⟩⟩⟩
set_option maxRecDepth 100000 in
theorem MR_2_ok : ∀ q ∈ MR_2, ML "RowDrawer$Finder" q := List.forall_mem_cons.mpr ⟨⟨_, rfl, tt_at 449 rfl rfl⟩, List.forall_mem_cons.mpr ⟨⟨_, rfl, tt_at 453 rfl rfl⟩, List.forall_mem_cons.mpr ⟨⟨_, rfl, tt_at 457 rfl rfl⟩, List.forall_mem_cons.mpr ⟨⟨_, rfl, tt_at 758 rfl rfl⟩, List.forall_mem_cons.mpr ⟨⟨_, rfl, tt_at 762 rfl rfl⟩, List.forall_mem_cons.mpr ⟨⟨_, rfl, tt_at 766 rfl rfl⟩, List.forall_mem_cons.mpr ⟨⟨_, rfl, tt_at 767 rfl rfl⟩, List.forall_mem_cons.mpr ⟨⟨_, rfl, tt_at 771 rfl rfl⟩, List.forall_mem_cons.mpr ⟨⟨_, rfl, tt_at 775 rfl rfl⟩, List.forall_mem_cons.mpr ⟨⟨_, rfl, tt_at 776 rfl rfl⟩, List.forall_mem_cons.mpr ⟨⟨_, rfl, tt_at 780 rfl rfl⟩, List.forall_mem_cons.mpr ⟨⟨_, rfl, tt_at 788 rfl rfl⟩, List.forall_mem_cons.mpr ⟨⟨_, rfl, tt_at 792 rfl rfl⟩, List.forall_mem_cons.mpr ⟨⟨_, rfl, tt_at 796 rfl rfl⟩, List.forall_mem_cons.mpr ⟨⟨_, rfl, tt_at 800 rfl rfl⟩, List.forall_mem_cons.mpr ⟨⟨_, rfl, tt_at 808 rfl rfl⟩, List.forall_mem_cons.mpr ⟨⟨_, rfl, tt_at 812 rfl rfl⟩, List.forall_mem_cons.mpr ⟨⟨_, rfl, tt_at 816 rfl rfl⟩, List.forall_mem_cons.mpr ⟨tt_at 820 rfl rfl, List.forall_mem_cons.mpr ⟨tt_at 823 rfl rfl, List.forall_mem_cons.mpr ⟨⟨_, rfl, tt_at 826 rfl rfl⟩, List.forall_mem_cons.mpr ⟨⟨_, rfl, tt_at 830 rfl rfl⟩, List.forall_mem_cons.mpr ⟨⟨_, rfl, tt_at 834 rfl rfl⟩, List.forall_mem_cons.mpr ⟨⟨_, rfl, tt_at 838 rfl rfl⟩, List.forall_mem_cons.mpr ⟨⟨_, rfl, tt_at 842 rfl rfl⟩, List.forall_mem_cons.mpr ⟨⟨_, rfl, tt_at 846 rfl rfl⟩, List.forall_mem_cons.mpr ⟨⟨_, rfl, tt_at 864 rfl rfl⟩, List.forall_mem_cons.mpr ⟨⟨_, rfl, tt_at 868 rfl rfl⟩, List.forall_mem_cons.mpr ⟨⟨_, rfl, tt_at 872 rfl rfl⟩, List.forall_mem_cons.mpr ⟨⟨_, rfl, tt_at 876 rfl rfl⟩, List.forall_mem_cons.mpr ⟨⟨_, rfl, tt_at 880 rfl rfl⟩, fun _ h => absurd h List.not_mem_nil⟩⟩⟩⟩⟩⟩⟩⟩⟩⟩⟩⟩⟩⟩⟩⟩⟩⟩⟩⟩⟩⟩⟩⟩⟩⟩⟩⟩⟩⟩⟩
set_option maxRecDepth 100000 in
theorem MR_3_ok : ∀ q ∈ MR_3, ML "RowDrawer$Lesson" q := List.forall_mem_cons.mpr ⟨⟨_, rfl, tt_at 1047 rfl rfl⟩, List.forall_mem_cons.mpr ⟨⟨_, rfl, tt_at 1051 rfl rfl⟩, List.forall_mem_cons.mpr ⟨⟨_, rfl, tt_at 1052 rfl rfl⟩, List.forall_mem_cons.mpr ⟨⟨_, rfl, tt_at 1056 rfl rfl⟩, List.forall_mem_cons.mpr ⟨⟨_, rfl, tt_at 1060 rfl rfl⟩, List.forall_mem_cons.mpr ⟨tt_at 1064 rfl rfl, List.forall_mem_cons.mpr ⟨tt_at 1067 rfl rfl, List.forall_mem_cons.mpr ⟨⟨_, rfl, tt_at 1068 rfl rfl⟩, List.forall_mem_cons.mpr ⟨⟨_, rfl, tt_at 1072 rfl rfl⟩, List.forall_mem_cons.mpr ⟨⟨_, rfl, tt_at 1076 rfl rfl⟩, List.forall_mem_cons.mpr ⟨⟨_, rfl, tt_at 1077 rfl rfl⟩, List.forall_mem_cons.mpr ⟨⟨_, rfl, tt_at 1081 rfl rfl⟩, List.forall_mem_cons.mpr ⟨⟨_, rfl, tt_at 1085 rfl rfl⟩, List.forall_mem_cons.mpr ⟨⟨_, rfl, tt_at 1086 rfl rfl⟩, List.forall_mem_cons.mpr ⟨⟨_, rfl, tt_at 1098 rfl rfl⟩, List.forall_mem_cons.mpr ⟨⟨_, rfl, tt_at 1110 rfl rfl⟩, fun _ h => absurd h List.not_mem_nil⟩⟩⟩⟩⟩⟩⟩⟩⟩⟩⟩⟩⟩⟩⟩⟩
set_option maxRecDepth 100000 in
theorem MR_4_ok : ∀ q ∈ MR_4, ML "RowDrawer$Lexicon" q := List.forall_mem_cons.mpr ⟨⟨_, rfl, tt_at 442 rfl rfl⟩, List.forall_mem_cons.mpr ⟨⟨_, rfl, tt_at 473 rfl rfl⟩, fun _ h => absurd h List.not_mem_nil⟩⟩
set_option maxRecDepth 100000 in
theorem MR_5_ok : ∀ q ∈ MR_5, ML "RowDrawer$Marks" q := List.forall_mem_cons.mpr ⟨⟨_, rfl, tt_at 999 rfl rfl⟩, List.forall_mem_cons.mpr ⟨⟨_, rfl, tt_at 1012 rfl rfl⟩, List.forall_mem_cons.mpr ⟨⟨_, rfl, tt_at 1013 rfl rfl⟩, List.forall_mem_cons.mpr ⟨⟨_, rfl, tt_at 1017 rfl rfl⟩, List.forall_mem_cons.mpr ⟨⟨_, rfl, tt_at 1018 rfl rfl⟩, List.forall_mem_cons.mpr ⟨⟨_, rfl, tt_at 1215 rfl rfl⟩, List.forall_mem_cons.mpr ⟨⟨_, rfl, tt_at 1216 rfl rfl⟩, fun _ h => absurd h List.not_mem_nil⟩⟩⟩⟩⟩⟩⟩
set_option maxRecDepth 100000 in
theorem MR_6_ok : ∀ q ∈ MR_6, ML "RowDrawer$Reader" q := List.forall_mem_cons.mpr ⟨⟨_, rfl, tt_at 536 rfl rfl⟩, List.forall_mem_cons.mpr ⟨⟨_, rfl, tt_at 634 rfl rfl⟩, List.forall_mem_cons.mpr ⟨⟨_, rfl, tt_at 638 rfl rfl⟩, List.forall_mem_cons.mpr ⟨⟨_, rfl, tt_at 642 rfl rfl⟩, List.forall_mem_cons.mpr ⟨⟨_, rfl, tt_at 646 rfl rfl⟩, List.forall_mem_cons.mpr ⟨⟨_, rfl, tt_at 650 rfl rfl⟩, List.forall_mem_cons.mpr ⟨⟨_, rfl, tt_at 654 rfl rfl⟩, List.forall_mem_cons.mpr ⟨⟨_, rfl, tt_at 658 rfl rfl⟩, List.forall_mem_cons.mpr ⟨⟨_, rfl, tt_at 662 rfl rfl⟩, List.forall_mem_cons.mpr ⟨⟨_, rfl, tt_at 666 rfl rfl⟩, List.forall_mem_cons.mpr ⟨⟨_, rfl, tt_at 670 rfl rfl⟩, List.forall_mem_cons.mpr ⟨⟨_, rfl, tt_at 674 rfl rfl⟩, List.forall_mem_cons.mpr ⟨⟨_, rfl, tt_at 678 rfl rfl⟩, List.forall_mem_cons.mpr ⟨⟨_, rfl, tt_at 682 rfl rfl⟩, List.forall_mem_cons.mpr ⟨⟨_, rfl, tt_at 686 rfl rfl⟩, List.forall_mem_cons.mpr ⟨⟨_, rfl, tt_at 689 rfl rfl⟩, List.forall_mem_cons.mpr ⟨⟨_, rfl, tt_at 693 rfl rfl⟩, List.forall_mem_cons.mpr ⟨⟨_, rfl, tt_at 697 rfl rfl⟩, List.forall_mem_cons.mpr ⟨⟨_, rfl, tt_at 701 rfl rfl⟩, List.forall_mem_cons.mpr ⟨⟨_, rfl, tt_at 705 rfl rfl⟩, List.forall_mem_cons.mpr ⟨⟨_, rfl, tt_at 709 rfl rfl⟩, List.forall_mem_cons.mpr ⟨⟨_, rfl, tt_at 713 rfl rfl⟩, List.forall_mem_cons.mpr ⟨⟨_, rfl, tt_at 717 rfl rfl⟩, List.forall_mem_cons.mpr ⟨⟨_, rfl, tt_at 721 rfl rfl⟩, List.forall_mem_cons.mpr ⟨⟨_, rfl, tt_at 725 rfl rfl⟩, List.forall_mem_cons.mpr ⟨⟨_, rfl, tt_at 729 rfl rfl⟩, fun _ h => absurd h List.not_mem_nil⟩⟩⟩⟩⟩⟩⟩⟩⟩⟩⟩⟩⟩⟩⟩⟩⟩⟩⟩⟩⟩⟩⟩⟩⟩⟩
set_option maxRecDepth 100000 in
theorem MR_7_ok : ∀ q ∈ MR_7, ML "RowDrawer$Sentences" q := List.forall_mem_cons.mpr ⟨tt_at 494 rfl rfl, List.forall_mem_cons.mpr ⟨⟨_, rfl, tt_at 509 rfl rfl⟩, fun _ h => absurd h List.not_mem_nil⟩⟩
set_option maxRecDepth 100000 in
theorem MR_8_ok : ∀ q ∈ MR_8, ML "RowDrawer$Table" q := List.forall_mem_cons.mpr ⟨⟨_, rfl, tt_at 893 rfl rfl⟩, List.forall_mem_cons.mpr ⟨⟨_, rfl, tt_at 896 rfl rfl⟩, List.forall_mem_cons.mpr ⟨⟨_, rfl, tt_at 897 rfl rfl⟩, List.forall_mem_cons.mpr ⟨⟨_, rfl, tt_at 898 rfl rfl⟩, List.forall_mem_cons.mpr ⟨⟨_, rfl, tt_at 902 rfl rfl⟩, List.forall_mem_cons.mpr ⟨⟨_, rfl, tt_at 903 rfl rfl⟩, List.forall_mem_cons.mpr ⟨⟨_, rfl, tt_at 904 rfl rfl⟩, List.forall_mem_cons.mpr ⟨⟨_, rfl, tt_at 905 rfl rfl⟩, List.forall_mem_cons.mpr ⟨⟨_, rfl, tt_at 909 rfl rfl⟩, List.forall_mem_cons.mpr ⟨⟨_, rfl, tt_at 910 rfl rfl⟩, List.forall_mem_cons.mpr ⟨⟨_, rfl, tt_at 914 rfl rfl⟩, List.forall_mem_cons.mpr ⟨⟨_, rfl, tt_at 919 rfl rfl⟩, List.forall_mem_cons.mpr ⟨⟨_, rfl, tt_at 920 rfl rfl⟩, List.forall_mem_cons.mpr ⟨⟨_, rfl, tt_at 925 rfl rfl⟩, List.forall_mem_cons.mpr ⟨⟨_, rfl, tt_at 926 rfl rfl⟩, List.forall_mem_cons.mpr ⟨⟨_, rfl, tt_at 930 rfl rfl⟩, List.forall_mem_cons.mpr ⟨⟨_, rfl, tt_at 934 rfl rfl⟩, List.forall_mem_cons.mpr ⟨⟨_, rfl, tt_at 938 rfl rfl⟩, List.forall_mem_cons.mpr ⟨⟨_, rfl, tt_at 942 rfl rfl⟩, List.forall_mem_cons.mpr ⟨⟨_, rfl, tt_at 946 rfl rfl⟩, List.forall_mem_cons.mpr ⟨⟨_, rfl, tt_at 952 rfl rfl⟩, List.forall_mem_cons.mpr ⟨⟨_, rfl, tt_at 956 rfl rfl⟩, List.forall_mem_cons.mpr ⟨⟨_, rfl, tt_at 973 rfl rfl⟩, List.forall_mem_cons.mpr ⟨⟨_, rfl, ⟨_, List.mem_of_getElem? (i := 1) rfl⟩⟩, fun _ h => absurd h List.not_mem_nil⟩⟩⟩⟩⟩⟩⟩⟩⟩⟩⟩⟩⟩⟩⟩⟩⟩⟩⟩⟩⟩⟩⟩⟩
set_option maxRecDepth 100000 in
theorem MR_9_ok : ∀ q ∈ MR_9, ML "RowDrawer$Tape" q := List.forall_mem_cons.mpr ⟨⟨_, rfl, tt_at 521 rfl rfl⟩, fun _ h => absurd h List.not_mem_nil⟩
set_option maxRecDepth 100000 in
theorem MR_10_ok : ∀ q ∈ MR_10, ML "RowDrawer$Tokens" q := List.forall_mem_cons.mpr ⟨⟨_, rfl, tt_at 540 rfl rfl⟩, List.forall_mem_cons.mpr ⟨⟨_, rfl, tt_at 541 rfl rfl⟩, List.forall_mem_cons.mpr ⟨⟨_, rfl, tt_at 545 rfl rfl⟩, List.forall_mem_cons.mpr ⟨⟨_, rfl, tt_at 548 rfl rfl⟩, List.forall_mem_cons.mpr ⟨⟨_, rfl, tt_at 551 rfl rfl⟩, List.forall_mem_cons.mpr ⟨⟨_, rfl, tt_at 554 rfl rfl⟩, List.forall_mem_cons.mpr ⟨⟨_, rfl, tt_at 557 rfl rfl⟩, List.forall_mem_cons.mpr ⟨⟨_, rfl, tt_at 560 rfl rfl⟩, List.forall_mem_cons.mpr ⟨⟨_, rfl, tt_at 563 rfl rfl⟩, List.forall_mem_cons.mpr ⟨⟨_, rfl, tt_at 567 rfl rfl⟩, List.forall_mem_cons.mpr ⟨⟨_, rfl, tt_at 570 rfl rfl⟩, List.forall_mem_cons.mpr ⟨⟨_, rfl, tt_at 580 rfl rfl⟩, List.forall_mem_cons.mpr ⟨⟨_, rfl, tt_at 623 rfl rfl⟩, List.forall_mem_cons.mpr ⟨⟨_, rfl, tt_at 630 rfl rfl⟩, fun _ h => absurd h List.not_mem_nil⟩⟩⟩⟩⟩⟩⟩⟩⟩⟩⟩⟩⟩⟩
set_option maxRecDepth 100000 in
theorem MR_11_ok : ∀ q ∈ MR_11, ML "RowDrawer" q := List.forall_mem_cons.mpr ⟨⟨_, rfl, tt_at 438 rfl rfl⟩, List.forall_mem_cons.mpr ⟨⟨_, rfl, tt_at 445 rfl rfl⟩, List.forall_mem_cons.mpr ⟨⟨_, rfl, tt_at 461 rfl rfl⟩, List.forall_mem_cons.mpr ⟨⟨_, rfl, tt_at 469 rfl rfl⟩, List.forall_mem_cons.mpr ⟨⟨_, rfl, tt_at 481 rfl rfl⟩, List.forall_mem_cons.mpr ⟨⟨_, rfl, tt_at 482 rfl rfl⟩, List.forall_mem_cons.mpr ⟨⟨_, rfl, tt_at 490 rfl rfl⟩, List.forall_mem_cons.mpr ⟨⟨_, rfl, tt_at 497 rfl rfl⟩, List.forall_mem_cons.mpr ⟨⟨_, rfl, tt_at 505 rfl rfl⟩, List.forall_mem_cons.mpr ⟨⟨_, rfl, tt_at 517 rfl rfl⟩, List.forall_mem_cons.mpr ⟨⟨_, rfl, tt_at 524 rfl rfl⟩, List.forall_mem_cons.mpr ⟨⟨_, rfl, tt_at 532 rfl rfl⟩, List.forall_mem_cons.mpr ⟨⟨_, rfl, tt_at 736 rfl rfl⟩, List.forall_mem_cons.mpr ⟨⟨_, rfl, tt_at 740 rfl rfl⟩, List.forall_mem_cons.mpr ⟨⟨_, rfl, tt_at 745 rfl rfl⟩, List.forall_mem_cons.mpr ⟨⟨_, rfl, tt_at 754 rfl rfl⟩, List.forall_mem_cons.mpr ⟨⟨_, rfl, tt_at 852 rfl rfl⟩, List.forall_mem_cons.mpr ⟨⟨_, rfl, tt_at 860 rfl rfl⟩, List.forall_mem_cons.mpr ⟨⟨_, rfl, tt_at 888 rfl rfl⟩, List.forall_mem_cons.mpr ⟨⟨_, rfl, tt_at 889 rfl rfl⟩, List.forall_mem_cons.mpr ⟨⟨_, rfl, tt_at 961 rfl rfl⟩, List.forall_mem_cons.mpr ⟨⟨_, rfl, tt_at 969 rfl rfl⟩, List.forall_mem_cons.mpr ⟨⟨_, rfl, tt_at 981 rfl rfl⟩, List.forall_mem_cons.mpr ⟨⟨_, rfl, tt_at 985 rfl rfl⟩, List.forall_mem_cons.mpr ⟨⟨_, rfl, tt_at 993 rfl rfl⟩, List.forall_mem_cons.mpr ⟨⟨_, rfl, tt_at 994 rfl rfl⟩, List.forall_mem_cons.mpr ⟨⟨_, rfl, tt_at 995 rfl rfl⟩, List.forall_mem_cons.mpr ⟨⟨_, rfl, tt_at 1007 rfl rfl⟩, List.forall_mem_cons.mpr ⟨⟨_, rfl, tt_at 1008 rfl rfl⟩, List.forall_mem_cons.mpr ⟨⟨_, rfl, tt_at 1019 rfl rfl⟩, List.forall_mem_cons.mpr ⟨⟨_, rfl, tt_at 1023 rfl rfl⟩, List.forall_mem_cons.mpr ⟨⟨_, rfl, tt_at 1043 rfl rfl⟩, List.forall_mem_cons.mpr ⟨⟨_, rfl, tt_at 1094 rfl rfl⟩, List.forall_mem_cons.mpr ⟨⟨_, rfl, tt_at 1106 rfl rfl⟩, List.forall_mem_cons.mpr ⟨⟨_, rfl, tt_at 1118 rfl rfl⟩, List.forall_mem_cons.mpr ⟨⟨_, rfl, tt_at 1123 rfl rfl⟩, List.forall_mem_cons.mpr ⟨⟨_, rfl, tt_at 1124 rfl rfl⟩, List.forall_mem_cons.mpr ⟨⟨_, rfl, tt_at 1128 rfl rfl⟩, List.forall_mem_cons.mpr ⟨⟨_, rfl, tt_at 1129 rfl rfl⟩, List.forall_mem_cons.mpr ⟨⟨_, rfl, tt_at 1130 rfl rfl⟩, List.forall_mem_cons.mpr ⟨⟨_, rfl, tt_at 1131 rfl rfl⟩, List.forall_mem_cons.mpr ⟨⟨_, rfl, tt_at 1143 rfl rfl⟩, List.forall_mem_cons.mpr ⟨⟨_, rfl, tt_at 1209 rfl rfl⟩, List.forall_mem_cons.mpr ⟨⟨_, rfl, tt_at 1210 rfl rfl⟩, List.forall_mem_cons.mpr ⟨⟨_, rfl, tt_at 1211 rfl rfl⟩, List.forall_mem_cons.mpr ⟨⟨_, rfl, tt_at 1217 rfl rfl⟩, List.forall_mem_cons.mpr ⟨⟨_, rfl, tt_at 1218 rfl rfl⟩, fun _ h => absurd h List.not_mem_nil⟩⟩⟩⟩⟩⟩⟩⟩⟩⟩⟩⟩⟩⟩⟩⟩⟩⟩⟩⟩⟩⟩⟩⟩⟩⟩⟩⟩⟩⟩⟩⟩⟩⟩⟩⟩⟩⟩⟩⟩⟩⟩⟩⟩⟩⟩⟩
set_option maxRecDepth 100000 in
theorem MR_12_ok : ∀ q ∈ MR_12, ML "RowDrawerModel" q := List.forall_mem_cons.mpr ⟨⟨_, rfl, tt_at 1230 rfl rfl⟩, List.forall_mem_cons.mpr ⟨⟨_, rfl, tt_at 1413 rfl rfl⟩, List.forall_mem_cons.mpr ⟨⟨_, rfl, tt_at 1417 rfl rfl⟩, List.forall_mem_cons.mpr ⟨⟨_, rfl, tt_at 1421 rfl rfl⟩, List.forall_mem_cons.mpr ⟨⟨_, rfl, tt_at 1424 rfl rfl⟩, List.forall_mem_cons.mpr ⟨⟨_, rfl, tt_at 1429 rfl rfl⟩, List.forall_mem_cons.mpr ⟨⟨_, rfl, tt_at 1432 rfl rfl⟩, List.forall_mem_cons.mpr ⟨⟨_, rfl, tt_at 1436 rfl rfl⟩, List.forall_mem_cons.mpr ⟨⟨_, rfl, tt_at 1440 rfl rfl⟩, List.forall_mem_cons.mpr ⟨⟨_, rfl, tt_at 1444 rfl rfl⟩, List.forall_mem_cons.mpr ⟨⟨_, rfl, tt_at 1448 rfl rfl⟩, List.forall_mem_cons.mpr ⟨⟨_, rfl, tt_at 1452 rfl rfl⟩, List.forall_mem_cons.mpr ⟨⟨_, rfl, tt_at 1456 rfl rfl⟩, List.forall_mem_cons.mpr ⟨⟨_, rfl, tt_at 1460 rfl rfl⟩, List.forall_mem_cons.mpr ⟨⟨_, rfl, tt_at 1464 rfl rfl⟩, List.forall_mem_cons.mpr ⟨⟨_, rfl, tt_at 1468 rfl rfl⟩, List.forall_mem_cons.mpr ⟨⟨_, rfl, tt_at 1472 rfl rfl⟩, List.forall_mem_cons.mpr ⟨⟨_, rfl, tt_at 1476 rfl rfl⟩, List.forall_mem_cons.mpr ⟨⟨_, rfl, tt_at 1480 rfl rfl⟩, List.forall_mem_cons.mpr ⟨⟨_, rfl, tt_at 1488 rfl rfl⟩, List.forall_mem_cons.mpr ⟨⟨_, rfl, tt_at 1499 rfl rfl⟩, List.forall_mem_cons.mpr ⟨⟨_, rfl, tt_at 1515 rfl rfl⟩, List.forall_mem_cons.mpr ⟨⟨_, rfl, tt_at 1523 rfl rfl⟩, List.forall_mem_cons.mpr ⟨⟨_, rfl, tt_at 1527 rfl rfl⟩, List.forall_mem_cons.mpr ⟨⟨_, rfl, tt_at 1531 rfl rfl⟩, List.forall_mem_cons.mpr ⟨⟨_, rfl, tt_at 1535 rfl rfl⟩, List.forall_mem_cons.mpr ⟨⟨_, rfl, tt_at 1539 rfl rfl⟩, List.forall_mem_cons.mpr ⟨⟨_, rfl, tt_at 1546 rfl rfl⟩, List.forall_mem_cons.mpr ⟨⟨_, rfl, tt_at 1554 rfl rfl⟩, List.forall_mem_cons.mpr ⟨⟨_, rfl, tt_at 1557 rfl rfl⟩, List.forall_mem_cons.mpr ⟨⟨_, rfl, tt_at 1561 rfl rfl⟩, List.forall_mem_cons.mpr ⟨⟨_, rfl, tt_at 1581 rfl rfl⟩, List.forall_mem_cons.mpr ⟨⟨_, rfl, tt_at 1585 rfl rfl⟩, List.forall_mem_cons.mpr ⟨⟨_, rfl, tt_at 1593 rfl rfl⟩, List.forall_mem_cons.mpr ⟨⟨_, rfl, tt_at 1600 rfl rfl⟩, List.forall_mem_cons.mpr ⟨⟨_, rfl, tt_at 1604 rfl rfl⟩, List.forall_mem_cons.mpr ⟨⟨_, rfl, tt_at 1607 rfl rfl⟩, List.forall_mem_cons.mpr ⟨⟨_, rfl, tt_at 1623 rfl rfl⟩, fun _ h => absurd h List.not_mem_nil⟩⟩⟩⟩⟩⟩⟩⟩⟩⟩⟩⟩⟩⟩⟩⟩⟩⟩⟩⟩⟩⟩⟩⟩⟩⟩⟩⟩⟩⟩⟩⟩⟩⟩⟩⟩⟩⟩
set_option maxRecDepth 100000 in
theorem MR_13_ok : ∀ q ∈ MR_13, ML "java/lang/Integer" q := fun _ h => absurd h List.not_mem_nil
set_option maxRecDepth 100000 in
theorem MR_14_ok : ∀ q ∈ MR_14, ML "java/lang/Long" q := fun _ h => absurd h List.not_mem_nil
set_option maxRecDepth 100000 in
theorem MR_15_ok : ∀ q ∈ MR_15, ML "java/lang/Math" q := fun _ h => absurd h List.not_mem_nil
set_option maxRecDepth 100000 in
theorem MR_16_ok : ∀ q ∈ MR_16, ML "java/util/Arrays" q := fun _ h => absurd h List.not_mem_nil
set_option maxRecDepth 100000 in
theorem MR_17_ok : ∀ q ∈ MR_17, ML "java/lang/String" q := fun _ h => absurd h List.not_mem_nil
def FR : Nat → List (Nat × Nat × Nat)
  | 0 => FR_0
  | 1 => FR_1
  | 2 => FR_2
  | 3 => FR_3
  | 4 => FR_4
  | 5 => FR_5
  | 6 => FR_6
  | 7 => FR_7
  | 8 => FR_8
  | 9 => FR_9
  | 10 => FR_10
  | 11 => FR_11
  | 12 => FR_12
  | 13 => FR_13
  | 14 => FR_14
  | 15 => FR_15
  | 16 => FR_16
  | 17 => FR_17
  | _ => []
def PR : Nat → List (Nat × Nat × Nat × Nat)
  | 0 => PR_0
  | 1 => PR_1
  | 2 => PR_2
  | 3 => PR_3
  | 4 => PR_4
  | 5 => PR_5
  | 6 => PR_6
  | 7 => PR_7
  | 8 => PR_8
  | 9 => PR_9
  | 10 => PR_10
  | 11 => PR_11
  | 12 => PR_12
  | 13 => PR_13
  | 14 => PR_14
  | 15 => PR_15
  | 16 => PR_16
  | 17 => PR_17
  | _ => []
def MR : Nat → List (Nat × Nat × Nat)
  | 0 => MR_0
  | 1 => MR_1
  | 2 => MR_2
  | 3 => MR_3
  | 4 => MR_4
  | 5 => MR_5
  | 6 => MR_6
  | 7 => MR_7
  | 8 => MR_8
  | 9 => MR_9
  | 10 => MR_10
  | 11 => MR_11
  | 12 => MR_12
  | 13 => MR_13
  | 14 => MR_14
  | 15 => MR_15
  | 16 => MR_16
  | 17 => MR_17
  | _ => []
def LI : Nat → List (Nat × Int32)
  | 0 => LI_0
  | 1 => LI_1
  | 2 => LI_2
  | 3 => LI_3
  | 4 => LI_4
  | 5 => LI_5
  | 6 => LI_6
  | 7 => LI_7
  | 8 => LI_8
  | 9 => LI_9
  | 10 => LI_10
  | 11 => LI_11
  | 12 => LI_12
  | 13 => LI_13
  | 14 => LI_14
  | 15 => LI_15
  | 16 => LI_16
  | 17 => LI_17
  | _ => []
def LL : Nat → List (Nat × Int64)
  | 0 => LL_0
  | 1 => LL_1
  | 2 => LL_2
  | 3 => LL_3
  | 4 => LL_4
  | 5 => LL_5
  | 6 => LL_6
  | 7 => LL_7
  | 8 => LL_8
  | 9 => LL_9
  | 10 => LL_10
  | 11 => LL_11
  | 12 => LL_12
  | 13 => LL_13
  | 14 => LL_14
  | 15 => LL_15
  | 16 => LL_16
  | 17 => LL_17
  | _ => []
theorem FR_ok : ∀ k, ∀ q ∈ FR k, FL (clN.getD k "") q
  | 0 => FR_0_ok
  | 1 => FR_1_ok
  | 2 => FR_2_ok
  | 3 => FR_3_ok
  | 4 => FR_4_ok
  | 5 => FR_5_ok
  | 6 => FR_6_ok
  | 7 => FR_7_ok
  | 8 => FR_8_ok
  | 9 => FR_9_ok
  | 10 => FR_10_ok
  | 11 => FR_11_ok
  | 12 => FR_12_ok
  | 13 => FR_13_ok
  | 14 => FR_14_ok
  | 15 => FR_15_ok
  | 16 => FR_16_ok
  | 17 => FR_17_ok
  | _ + 18 => fun _ h => absurd h List.not_mem_nil
theorem PR_ok : ∀ k, ∀ q ∈ PR k, PL (clN.getD k "") q
  | 0 => PR_0_ok
  | 1 => PR_1_ok
  | 2 => PR_2_ok
  | 3 => PR_3_ok
  | 4 => PR_4_ok
  | 5 => PR_5_ok
  | 6 => PR_6_ok
  | 7 => PR_7_ok
  | 8 => PR_8_ok
  | 9 => PR_9_ok
  | 10 => PR_10_ok
  | 11 => PR_11_ok
  | 12 => PR_12_ok
  | 13 => PR_13_ok
  | 14 => PR_14_ok
  | 15 => PR_15_ok
  | 16 => PR_16_ok
  | 17 => PR_17_ok
  | _ + 18 => fun _ h => absurd h List.not_mem_nil
theorem MR_ok : ∀ k, ∀ q ∈ MR k, ML (clN.getD k "") q
  | 0 => MR_0_ok
  | 1 => MR_1_ok
  | 2 => MR_2_ok
  | 3 => MR_3_ok
  | 4 => MR_4_ok
  | 5 => MR_5_ok
  | 6 => MR_6_ok
  | 7 => MR_7_ok
  | 8 => MR_8_ok
  | 9 => MR_9_ok
  | 10 => MR_10_ok
  | 11 => MR_11_ok
  | 12 => MR_12_ok
  | 13 => MR_13_ok
  | 14 => MR_14_ok
  | 15 => MR_15_ok
  | 16 => MR_16_ok
  | 17 => MR_17_ok
  | _ + 18 => fun _ h => absurd h List.not_mem_nil
theorem LI_ok : ∀ k, ∀ q ∈ LI k, Cond.constant (clN.getD k "") q.1 q.2 ∈ TT
  | 0 => LI_0_ok
  | 1 => LI_1_ok
  | 2 => LI_2_ok
  | 3 => LI_3_ok
  | 4 => LI_4_ok
  | 5 => LI_5_ok
  | 6 => LI_6_ok
  | 7 => LI_7_ok
  | 8 => LI_8_ok
  | 9 => LI_9_ok
  | 10 => LI_10_ok
  | 11 => LI_11_ok
  | 12 => LI_12_ok
  | 13 => LI_13_ok
  | 14 => LI_14_ok
  | 15 => LI_15_ok
  | 16 => LI_16_ok
  | 17 => LI_17_ok
  | _ + 18 => fun _ h => absurd h List.not_mem_nil
theorem LL_ok : ∀ k, ∀ q ∈ LL k, Cond.constantLong (clN.getD k "") q.1 q.2 ∈ TT
  | 0 => LL_0_ok
  | 1 => LL_1_ok
  | 2 => LL_2_ok
  | 3 => LL_3_ok
  | 4 => LL_4_ok
  | 5 => LL_5_ok
  | 6 => LL_6_ok
  | 7 => LL_7_ok
  | 8 => LL_8_ok
  | 9 => LL_9_ok
  | 10 => LL_10_ok
  | 11 => LL_11_ok
  | 12 => LL_12_ok
  | 13 => LL_13_ok
  | 14 => LL_14_ok
  | 15 => LL_15_ok
  | 16 => LL_16_ok
  | 17 => LL_17_ok
  | _ + 18 => fun _ h => absurd h List.not_mem_nil
set_option maxRecDepth 100000 in
theorem tt_ac_n : Cond.native arraycopyName ∈ TT := tt_at 496 rfl rfl
set_option maxRecDepth 100000 in
theorem tt_ac_s : Cond.static arraycopyName ∈ TT := tt_at 495 rfl rfl
set_option maxRecDepth 100000 in
theorem tt_sys : Cond.initialized "java/lang/System" ∈ TT := tt_at 86 rfl rfl
set_option maxRecDepth 100000 in
theorem tt_math : Cond.initialized "java/lang/Math" ∈ TT := tt_at 91 rfl rfl
set_option maxRecDepth 100000 in
theorem tt_min_s : Cond.static Lib.Math.min.name ∈ TT := tt_at 821 rfl rfl
set_option maxRecDepth 100000 in
theorem tt_min_c : Cond.code Lib.Math.min.name Lib.Math.min.code 2 (some .int) ∈ TT := tt_at 822 rfl rfl
set_option maxRecDepth 100000 in
theorem tt_max_s : Cond.static Lib.Math.max.name ∈ TT := tt_at 824 rfl rfl
set_option maxRecDepth 100000 in
theorem tt_max_c : Cond.code Lib.Math.max.name Lib.Math.max.code 2 (some .int) ∈ TT := tt_at 825 rfl rfl
set_option maxRecDepth 100000 in
theorem tt_abs_s : Cond.static Lib.Math.abs.name ∈ TT := tt_at 1065 rfl rfl
set_option maxRecDepth 100000 in
theorem tt_abs_c : Cond.code Lib.Math.abs.name Lib.Math.abs.code 1 (some .int) ∈ TT := tt_at 1066 rfl rfl
set_option maxRecDepth 100000 in
theorem m_BestSet_setCaught_ok : MOK (m_BestSet_setCaught, 3, false) := ⟨tt_at 1022 rfl rfl, tt_at 83 rfl rfl, by decide +kernel, by decide +kernel, by decide +kernel, ⟨tt_at 1020 rfl rfl, tt_at 1021 rfl rfl⟩, by decide +kernel, by decide, rfl⟩
set_option maxRecDepth 100000 in
theorem m_BestSet_choose_ok : MOK (m_BestSet_choose, 2, false) := ⟨tt_at 1026 rfl rfl, tt_at 83 rfl rfl, by decide +kernel, by decide +kernel, by decide +kernel, ⟨tt_at 1024 rfl rfl, tt_at 1025 rfl rfl⟩, by decide +kernel, by decide, rfl⟩
set_option maxRecDepth 100000 in
theorem m_BestSet_tryFrom_ok : MOK (m_BestSet_tryFrom, 4, false) := ⟨tt_at 1031 rfl rfl, tt_at 83 rfl rfl, by decide +kernel, by decide +kernel, by decide +kernel, ⟨tt_at 1030 rfl rfl, tt_at 34 rfl rfl⟩, by decide +kernel, by decide, rfl⟩
set_option maxRecDepth 100000 in
theorem m_BestSet_weigh_ok : MOK (m_BestSet_weigh, 2, false) := ⟨tt_at 1036 rfl rfl, tt_at 83 rfl rfl, by decide +kernel, by decide +kernel, by decide +kernel, ⟨tt_at 1035 rfl rfl, tt_at 35 rfl rfl⟩, by decide +kernel, by decide, rfl⟩
set_option maxRecDepth 100000 in
theorem m_Book_clear_ok : MOK (m_Book_clear, 0, false) := ⟨tt_at 641 rfl rfl, tt_at 79 rfl rfl, by decide +kernel, by decide +kernel, by decide +kernel, ⟨tt_at 639 rfl rfl, tt_at 640 rfl rfl⟩, by decide +kernel, by decide, rfl⟩
set_option maxRecDepth 100000 in
theorem m_Book_become_ok : MOK (m_Book_become, 1, false) := ⟨tt_at 743 rfl rfl, tt_at 79 rfl rfl, by decide +kernel, by decide +kernel, by decide +kernel, ⟨tt_at 741 rfl rfl, tt_at 742 rfl rfl⟩, by decide +kernel, by decide, rfl⟩
set_option maxRecDepth 100000 in
theorem m_Book_openRule_ok : MOK (m_Book_openRule, 1, false) := ⟨tt_at 677 rfl rfl, tt_at 79 rfl rfl, by decide +kernel, by decide +kernel, by decide +kernel, ⟨tt_at 675 rfl rfl, tt_at 676 rfl rfl⟩, by decide +kernel, by decide, rfl⟩
set_option maxRecDepth 100000 in
theorem m_Book_openRuleHas_ok : MOK (m_Book_openRuleHas, 1, false) := ⟨tt_at 685 rfl rfl, tt_at 79 rfl rfl, by decide +kernel, by decide +kernel, by decide +kernel, ⟨tt_at 683 rfl rfl, tt_at 684 rfl rfl⟩, by decide +kernel, by decide, rfl⟩
set_option maxRecDepth 100000 in
theorem m_Book_addItem_ok : MOK (m_Book_addItem, 3, false) := ⟨tt_at 692 rfl rfl, tt_at 79 rfl rfl, by decide +kernel, by decide +kernel, by decide +kernel, ⟨tt_at 690 rfl rfl, tt_at 691 rfl rfl⟩, by decide +kernel, by decide, rfl⟩
set_option maxRecDepth 100000 in
theorem m_Book_closeRule_ok : MOK (m_Book_closeRule, 0, false) := ⟨tt_at 700 rfl rfl, tt_at 79 rfl rfl, by decide +kernel, by decide +kernel, by decide +kernel, ⟨tt_at 698 rfl rfl, tt_at 699 rfl rfl⟩, by decide +kernel, by decide, rfl⟩
set_option maxRecDepth 100000 in
theorem m_Book_addBar_ok : MOK (m_Book_addBar, 1, false) := ⟨tt_at 712 rfl rfl, tt_at 79 rfl rfl, by decide +kernel, by decide +kernel, by decide +kernel, ⟨tt_at 710 rfl rfl, tt_at 711 rfl rfl⟩, by decide +kernel, by decide, rfl⟩
set_option maxRecDepth 100000 in
theorem m_Book_addChain_ok : MOK (m_Book_addChain, 3, false) := ⟨tt_at 724 rfl rfl, tt_at 79 rfl rfl, by decide +kernel, by decide +kernel, by decide +kernel, ⟨tt_at 722 rfl rfl, tt_at 723 rfl rfl⟩, by decide +kernel, by decide, rfl⟩
set_option maxRecDepth 100000 in
theorem m_Book_addSingle_ok : MOK (m_Book_addSingle, 1, false) := ⟨tt_at 732 rfl rfl, tt_at 79 rfl rfl, by decide +kernel, by decide +kernel, by decide +kernel, ⟨tt_at 730 rfl rfl, tt_at 731 rfl rfl⟩, by decide +kernel, by decide, rfl⟩
set_option maxRecDepth 100000 in
theorem m_Book_rules_ok : MOK (m_Book_rules, 0, false) := ⟨tt_at 653 rfl rfl, tt_at 79 rfl rfl, by decide +kernel, by decide +kernel, by decide +kernel, ⟨tt_at 651 rfl rfl, tt_at 652 rfl rfl⟩, by decide +kernel, by decide, rfl⟩
set_option maxRecDepth 100000 in
theorem m_Book_bars_ok : MOK (m_Book_bars, 0, false) := ⟨tt_at 708 rfl rfl, tt_at 79 rfl rfl, by decide +kernel, by decide +kernel, by decide +kernel, ⟨tt_at 706 rfl rfl, tt_at 707 rfl rfl⟩, by decide +kernel, by decide, rfl⟩
set_option maxRecDepth 100000 in
theorem m_Book_chains_ok : MOK (m_Book_chains, 0, false) := ⟨tt_at 720 rfl rfl, tt_at 79 rfl rfl, by decide +kernel, by decide +kernel, by decide +kernel, ⟨tt_at 718 rfl rfl, tt_at 719 rfl rfl⟩, by decide +kernel, by decide, rfl⟩
set_option maxRecDepth 100000 in
theorem m_Book_hasRule_ok : MOK (m_Book_hasRule, 1, false) := ⟨tt_at 787 rfl rfl, tt_at 79 rfl rfl, by decide +kernel, by decide +kernel, by decide +kernel, ⟨tt_at 785 rfl rfl, tt_at 786 rfl rfl⟩, by decide +kernel, by decide, rfl⟩
set_option maxRecDepth 100000 in
theorem m_Book_relationOf_ok : MOK (m_Book_relationOf, 1, false) := ⟨tt_at 883 rfl rfl, tt_at 79 rfl rfl, by decide +kernel, by decide +kernel, by decide +kernel, ⟨tt_at 881 rfl rfl, tt_at 882 rfl rfl⟩, by decide +kernel, by decide, rfl⟩
set_option maxRecDepth 100000 in
theorem m_Book_itemsOf_ok : MOK (m_Book_itemsOf, 1, false) := ⟨tt_at 799 rfl rfl, tt_at 79 rfl rfl, by decide +kernel, by decide +kernel, by decide +kernel, ⟨tt_at 797 rfl rfl, tt_at 798 rfl rfl⟩, by decide +kernel, by decide, rfl⟩
set_option maxRecDepth 100000 in
theorem m_Book_leftItem_ok : MOK (m_Book_leftItem, 1, false) := ⟨tt_at 783 rfl rfl, tt_at 79 rfl rfl, by decide +kernel, by decide +kernel, by decide +kernel, ⟨tt_at 781 rfl rfl, tt_at 782 rfl rfl⟩, by decide +kernel, by decide, rfl⟩
set_option maxRecDepth 100000 in
theorem m_Book_rightItem_ok : MOK (m_Book_rightItem, 1, false) := ⟨tt_at 791 rfl rfl, tt_at 79 rfl rfl, by decide +kernel, by decide +kernel, by decide +kernel, ⟨tt_at 789 rfl rfl, tt_at 790 rfl rfl⟩, by decide +kernel, by decide, rfl⟩
set_option maxRecDepth 100000 in
theorem m_Book_kindOf_ok : MOK (m_Book_kindOf, 2, false) := ⟨tt_at 803 rfl rfl, tt_at 79 rfl rfl, by decide +kernel, by decide +kernel, by decide +kernel, ⟨tt_at 801 rfl rfl, tt_at 802 rfl rfl⟩, by decide +kernel, by decide, rfl⟩
set_option maxRecDepth 100000 in
theorem m_Book_numberOf_ok : MOK (m_Book_numberOf, 2, false) := ⟨tt_at 811 rfl rfl, tt_at 79 rfl rfl, by decide +kernel, by decide +kernel, by decide +kernel, ⟨tt_at 809 rfl rfl, tt_at 810 rfl rfl⟩, by decide +kernel, by decide, rfl⟩
set_option maxRecDepth 100000 in
theorem m_Book_hasItem_ok : MOK (m_Book_hasItem, 2, false) := ⟨tt_at 807 rfl rfl, tt_at 79 rfl rfl, by decide +kernel, by decide +kernel, by decide +kernel, ⟨tt_at 806 rfl rfl, tt_at 16 rfl rfl⟩, by decide +kernel, by decide, rfl⟩
set_option maxRecDepth 100000 in
theorem m_Book_isBarred_ok : MOK (m_Book_isBarred, 1, false) := ⟨tt_at 774 rfl rfl, tt_at 79 rfl rfl, by decide +kernel, by decide +kernel, by decide +kernel, ⟨tt_at 772 rfl rfl, tt_at 773 rfl rfl⟩, by decide +kernel, by decide, rfl⟩
set_option maxRecDepth 100000 in
theorem m_Book_chainGoal_ok : MOK (m_Book_chainGoal, 1, false) := ⟨tt_at 929 rfl rfl, tt_at 79 rfl rfl, by decide +kernel, by decide +kernel, by decide +kernel, ⟨tt_at 927 rfl rfl, tt_at 928 rfl rfl⟩, by decide +kernel, by decide, rfl⟩
set_option maxRecDepth 100000 in
theorem m_Book_chainFirst_ok : MOK (m_Book_chainFirst, 1, false) := ⟨tt_at 933 rfl rfl, tt_at 79 rfl rfl, by decide +kernel, by decide +kernel, by decide +kernel, ⟨tt_at 931 rfl rfl, tt_at 932 rfl rfl⟩, by decide +kernel, by decide, rfl⟩
set_option maxRecDepth 100000 in
theorem m_Book_chainSecond_ok : MOK (m_Book_chainSecond, 1, false) := ⟨tt_at 937 rfl rfl, tt_at 79 rfl rfl, by decide +kernel, by decide +kernel, by decide +kernel, ⟨tt_at 935 rfl rfl, tt_at 936 rfl rfl⟩, by decide +kernel, by decide, rfl⟩
set_option maxRecDepth 100000 in
theorem m_Book_isSingle_ok : MOK (m_Book_isSingle, 1, false) := ⟨tt_at 984 rfl rfl, tt_at 79 rfl rfl, by decide +kernel, by decide +kernel, by decide +kernel, ⟨tt_at 982 rfl rfl, tt_at 983 rfl rfl⟩, by decide +kernel, by decide, rfl⟩
set_option maxRecDepth 100000 in
theorem m_Finder_forget_ok : MOK (m_Finder_forget, 1, false) := ⟨tt_at 500 rfl rfl, tt_at 80 rfl rfl, by decide +kernel, by decide +kernel, by decide +kernel, ⟨tt_at 498 rfl rfl, tt_at 499 rfl rfl⟩, by decide +kernel, by decide, rfl⟩
set_option maxRecDepth 100000 in
theorem m_Finder_forgetThoseWith_ok : MOK (m_Finder_forgetThoseWith, 1, false) := ⟨tt_at 448 rfl rfl, tt_at 80 rfl rfl, by decide +kernel, by decide +kernel, by decide +kernel, ⟨tt_at 446 rfl rfl, tt_at 447 rfl rfl⟩, by decide +kernel, by decide, rfl⟩
set_option maxRecDepth 100000 in
theorem m_Finder_forgetAll_ok : MOK (m_Finder_forgetAll, 0, false) := ⟨tt_at 748 rfl rfl, tt_at 80 rfl rfl, by decide +kernel, by decide +kernel, by decide +kernel, ⟨tt_at 746 rfl rfl, tt_at 747 rfl rfl⟩, by decide +kernel, by decide, rfl⟩
set_option maxRecDepth 100000 in
theorem m_Finder_refresh_ok : MOK (m_Finder_refresh, 0, false) := ⟨tt_at 757 rfl rfl, tt_at 80 rfl rfl, by decide +kernel, by decide +kernel, by decide +kernel, ⟨tt_at 755 rfl rfl, tt_at 756 rfl rfl⟩, by decide +kernel, by decide, rfl⟩
set_option maxRecDepth 100000 in
theorem m_Finder_drawSentence_ok : MOK (m_Finder_drawSentence, 1, false) := ⟨tt_at 761 rfl rfl, tt_at 80 rfl rfl, by decide +kernel, by decide +kernel, by decide +kernel, ⟨tt_at 760 rfl rfl, tt_at 11 rfl rfl⟩, by decide +kernel, by decide, rfl⟩
set_option maxRecDepth 100000 in
theorem m_Finder_clearSentence_ok : MOK (m_Finder_clearSentence, 1, false) := ⟨tt_at 765 rfl rfl, tt_at 80 rfl rfl, by decide +kernel, by decide +kernel, by decide +kernel, ⟨tt_at 764 rfl rfl, tt_at 12 rfl rfl⟩, by decide +kernel, by decide, rfl⟩
set_option maxRecDepth 100000 in
theorem m_Finder_hasBarredWord_ok : MOK (m_Finder_hasBarredWord, 1, false) := ⟨tt_at 770 rfl rfl, tt_at 80 rfl rfl, by decide +kernel, by decide +kernel, by decide +kernel, ⟨tt_at 769 rfl rfl, tt_at 13 rfl rfl⟩, by decide +kernel, by decide, rfl⟩
set_option maxRecDepth 100000 in
theorem m_Finder_drawRule_ok : MOK (m_Finder_drawRule, 2, false) := ⟨tt_at 779 rfl rfl, tt_at 80 rfl rfl, by decide +kernel, by decide +kernel, by decide +kernel, ⟨tt_at 778 rfl rfl, tt_at 14 rfl rfl⟩, by decide +kernel, by decide, rfl⟩
set_option maxRecDepth 100000 in
theorem m_Finder_fitItems_ok : MOK (m_Finder_fitItems, 2, false) := ⟨tt_at 795 rfl rfl, tt_at 80 rfl rfl, by decide +kernel, by decide +kernel, by decide +kernel, ⟨tt_at 794 rfl rfl, tt_at 15 rfl rfl⟩, by decide +kernel, by decide, rfl⟩
set_option maxRecDepth 100000 in
theorem m_Finder_placesOf_ok : MOK (m_Finder_placesOf, 3, false) := ⟨tt_at 815 rfl rfl, tt_at 80 rfl rfl, by decide +kernel, by decide +kernel, by decide +kernel, ⟨tt_at 814 rfl rfl, tt_at 17 rfl rfl⟩, by decide +kernel, by decide, rfl⟩
set_option maxRecDepth 100000 in
theorem m_Finder_forward_ok : MOK (m_Finder_forward, 4, false) := ⟨tt_at 829 rfl rfl, tt_at 80 rfl rfl, by decide +kernel, by decide +kernel, by decide +kernel, ⟨tt_at 828 rfl rfl, tt_at 18 rfl rfl⟩, by decide +kernel, by decide, rfl⟩
set_option maxRecDepth 100000 in
theorem m_Finder_backward_ok : MOK (m_Finder_backward, 3, false) := ⟨tt_at 833 rfl rfl, tt_at 80 rfl rfl, by decide +kernel, by decide +kernel, by decide +kernel, ⟨tt_at 832 rfl rfl, tt_at 19 rfl rfl⟩, by decide +kernel, by decide, rfl⟩
set_option maxRecDepth 100000 in
theorem m_Finder_keepPairs_ok : MOK (m_Finder_keepPairs, 4, false) := ⟨tt_at 837 rfl rfl, tt_at 80 rfl rfl, by decide +kernel, by decide +kernel, by decide +kernel, ⟨tt_at 836 rfl rfl, tt_at 20 rfl rfl⟩, by decide +kernel, by decide, rfl⟩
set_option maxRecDepth 100000 in
theorem m_Finder_countPairs_ok : MOK (m_Finder_countPairs, 2, false) := ⟨tt_at 841 rfl rfl, tt_at 80 rfl rfl, by decide +kernel, by decide +kernel, by decide +kernel, ⟨tt_at 840 rfl rfl, tt_at 21 rfl rfl⟩, by decide +kernel, by decide, rfl⟩
set_option maxRecDepth 100000 in
theorem m_Finder_rightPlaces_ok : MOK (m_Finder_rightPlaces, 3, false) := ⟨tt_at 845 rfl rfl, tt_at 80 rfl rfl, by decide +kernel, by decide +kernel, by decide +kernel, ⟨tt_at 843 rfl rfl, tt_at 844 rfl rfl⟩, by decide +kernel, by decide, rfl⟩
set_option maxRecDepth 100000 in
theorem m_Finder_isBarred_ok : MOK (m_Finder_isBarred, 1, false) := ⟨tt_at 879 rfl rfl, tt_at 80 rfl rfl, by decide +kernel, by decide +kernel, by decide +kernel, ⟨tt_at 877 rfl rfl, tt_at 878 rfl rfl⟩, by decide +kernel, by decide, rfl⟩
set_option maxRecDepth 100000 in
theorem m_Finder_has_ok : MOK (m_Finder_has, 4, false) := ⟨tt_at 871 rfl rfl, tt_at 80 rfl rfl, by decide +kernel, by decide +kernel, by decide +kernel, ⟨tt_at 869 rfl rfl, tt_at 870 rfl rfl⟩, by decide +kernel, by decide, rfl⟩
set_option maxRecDepth 100000 in
theorem m_Finder_total_ok : MOK (m_Finder_total, 1, false) := ⟨tt_at 855 rfl rfl, tt_at 80 rfl rfl, by decide +kernel, by decide +kernel, by decide +kernel, ⟨tt_at 853 rfl rfl, tt_at 854 rfl rfl⟩, by decide +kernel, by decide, rfl⟩
set_option maxRecDepth 100000 in
theorem m_Finder_totalOfRule_ok : MOK (m_Finder_totalOfRule, 1, false) := ⟨tt_at 1221 rfl rfl, tt_at 80 rfl rfl, by decide +kernel, by decide +kernel, by decide +kernel, ⟨tt_at 1219 rfl rfl, tt_at 1220 rfl rfl⟩, by decide +kernel, by decide, rfl⟩
set_option maxRecDepth 100000 in
theorem m_Finder_tellOf_ok : MOK (m_Finder_tellOf, 2, false) := ⟨tt_at 863 rfl rfl, tt_at 80 rfl rfl, by decide +kernel, by decide +kernel, by decide +kernel, ⟨tt_at 861 rfl rfl, tt_at 862 rfl rfl⟩, by decide +kernel, by decide, rfl⟩
set_option maxRecDepth 100000 in
theorem m_Finder_tellWithin_ok : MOK (m_Finder_tellWithin, 4, false) := ⟨tt_at 867 rfl rfl, tt_at 80 rfl rfl, by decide +kernel, by decide +kernel, by decide +kernel, ⟨tt_at 866 rfl rfl, tt_at 22 rfl rfl⟩, by decide +kernel, by decide, rfl⟩
set_option maxRecDepth 100000 in
theorem m_Finder_part_ok : MOK (m_Finder_part, 5, false) := ⟨tt_at 875 rfl rfl, tt_at 80 rfl rfl, by decide +kernel, by decide +kernel, by decide +kernel, ⟨tt_at 874 rfl rfl, tt_at 23 rfl rfl⟩, by decide +kernel, by decide, rfl⟩
set_option maxRecDepth 100000 in
theorem m_Lesson_study_ok : MOK (m_Lesson_study, 1, false) := ⟨tt_at 1046 rfl rfl, tt_at 84 rfl rfl, by decide +kernel, by decide +kernel, by decide +kernel, ⟨tt_at 1044 rfl rfl, tt_at 1045 rfl rfl⟩, by decide +kernel, by decide, rfl⟩
set_option maxRecDepth 100000 in
theorem m_Lesson_begin_ok : MOK (m_Lesson_begin, 2, false) := ⟨tt_at 1055 rfl rfl, tt_at 84 rfl rfl, by decide +kernel, by decide +kernel, by decide +kernel, ⟨tt_at 1054 rfl rfl, tt_at 36 rfl rfl⟩, by decide +kernel, by decide, rfl⟩
set_option maxRecDepth 100000 in
theorem m_Lesson_isLike_ok : MOK (m_Lesson_isLike, 1, false) := ⟨tt_at 1080 rfl rfl, tt_at 84 rfl rfl, by decide +kernel, by decide +kernel, by decide +kernel, ⟨tt_at 1079 rfl rfl, tt_at 38 rfl rfl⟩, by decide +kernel, by decide, rfl⟩
set_option maxRecDepth 100000 in
theorem m_Lesson_wordAt_ok : MOK (m_Lesson_wordAt, 2, false) := ⟨tt_at 1071 rfl rfl, tt_at 84 rfl rfl, by decide +kernel, by decide +kernel, by decide +kernel, ⟨tt_at 1070 rfl rfl, tt_at 37 rfl rfl⟩, by decide +kernel, by decide, rfl⟩
set_option maxRecDepth 100000 in
theorem m_Lesson_widen_ok : MOK (m_Lesson_widen, 1, false) := ⟨tt_at 1084 rfl rfl, tt_at 84 rfl rfl, by decide +kernel, by decide +kernel, by decide +kernel, ⟨tt_at 1083 rfl rfl, tt_at 39 rfl rfl⟩, by decide +kernel, by decide, rfl⟩
set_option maxRecDepth 100000 in
theorem m_Lesson_tellOf_ok : MOK (m_Lesson_tellOf, 2, false) := ⟨tt_at 1097 rfl rfl, tt_at 84 rfl rfl, by decide +kernel, by decide +kernel, by decide +kernel, ⟨tt_at 1095 rfl rfl, tt_at 1096 rfl rfl⟩, by decide +kernel, by decide, rfl⟩
set_option maxRecDepth 100000 in
theorem m_Lesson_roleOf_ok : MOK (m_Lesson_roleOf, 1, false) := ⟨tt_at 1101 rfl rfl, tt_at 84 rfl rfl, by decide +kernel, by decide +kernel, by decide +kernel, ⟨tt_at 1100 rfl rfl, tt_at 40 rfl rfl⟩, by decide +kernel, by decide, rfl⟩
set_option maxRecDepth 100000 in
theorem m_Lesson_caught_ok : MOK (m_Lesson_caught, 1, false) := ⟨tt_at 1109 rfl rfl, tt_at 84 rfl rfl, by decide +kernel, by decide +kernel, by decide +kernel, ⟨tt_at 1107 rfl rfl, tt_at 1108 rfl rfl⟩, by decide +kernel, by decide, rfl⟩
set_option maxRecDepth 100000 in
theorem m_Lesson_standsAt_ok : MOK (m_Lesson_standsAt, 1, false) := ⟨tt_at 1113 rfl rfl, tt_at 84 rfl rfl, by decide +kernel, by decide +kernel, by decide +kernel, ⟨tt_at 1112 rfl rfl, tt_at 41 rfl rfl⟩, by decide +kernel, by decide, rfl⟩
set_option maxRecDepth 100000 in
theorem m_Lexicon_has_ok : MOK (m_Lexicon_has, 1, true) := ⟨tt_at 444 rfl rfl, tt_at 74 rfl rfl, by decide +kernel, by decide +kernel, by decide +kernel, tt_at 443 rfl rfl, by decide +kernel, by decide, rfl⟩
set_option maxRecDepth 100000 in
theorem m_Lexicon_setSort_ok : MOK (m_Lexicon_setSort, 2, false) := ⟨tt_at 441 rfl rfl, tt_at 74 rfl rfl, by decide +kernel, by decide +kernel, by decide +kernel, ⟨tt_at 439 rfl rfl, tt_at 440 rfl rfl⟩, by decide +kernel, by decide, rfl⟩
set_option maxRecDepth 100000 in
theorem m_Lexicon_sortOf_ok : MOK (m_Lexicon_sortOf, 1, false) := ⟨tt_at 1089 rfl rfl, tt_at 74 rfl rfl, by decide +kernel, by decide +kernel, by decide +kernel, ⟨tt_at 1087 rfl rfl, tt_at 1088 rfl rfl⟩, by decide +kernel, by decide, rfl⟩
set_option maxRecDepth 100000 in
theorem m_Lexicon_link_ok : MOK (m_Lexicon_link, 2, false) := ⟨tt_at 472 rfl rfl, tt_at 74 rfl rfl, by decide +kernel, by decide +kernel, by decide +kernel, ⟨tt_at 470 rfl rfl, tt_at 471 rfl rfl⟩, by decide +kernel, by decide, rfl⟩
set_option maxRecDepth 100000 in
theorem m_Lexicon_leadsTo_ok : MOK (m_Lexicon_leadsTo, 2, false) := ⟨tt_at 476 rfl rfl, tt_at 74 rfl rfl, by decide +kernel, by decide +kernel, by decide +kernel, ⟨tt_at 475 rfl rfl, tt_at 0 rfl rfl⟩, by decide +kernel, by decide, rfl⟩
set_option maxRecDepth 100000 in
theorem m_Lexicon_nameOf_ok : MOK (m_Lexicon_nameOf, 1, false) := ⟨tt_at 913 rfl rfl, tt_at 74 rfl rfl, by decide +kernel, by decide +kernel, by decide +kernel, ⟨tt_at 911 rfl rfl, tt_at 912 rfl rfl⟩, by decide +kernel, by decide, rfl⟩
set_option maxRecDepth 100000 in
theorem m_Lexicon_fits_ok : MOK (m_Lexicon_fits, 3, false) := ⟨tt_at 819 rfl rfl, tt_at 74 rfl rfl, by decide +kernel, by decide +kernel, by decide +kernel, ⟨tt_at 817 rfl rfl, tt_at 818 rfl rfl⟩, by decide +kernel, by decide, rfl⟩
set_option maxRecDepth 100000 in
theorem m_Marks_put_ok : MOK (m_Marks_put, 5, false) := ⟨tt_at 998 rfl rfl, tt_at 82 rfl rfl, by decide +kernel, by decide +kernel, by decide +kernel, ⟨tt_at 996 rfl rfl, tt_at 997 rfl rfl⟩, by decide +kernel, by decide, rfl⟩
set_option maxRecDepth 100000 in
theorem m_Marks_indexOf_ok : MOK (m_Marks_indexOf, 4, false) := ⟨tt_at 1002 rfl rfl, tt_at 82 rfl rfl, by decide +kernel, by decide +kernel, by decide +kernel, ⟨tt_at 1001 rfl rfl, tt_at 33 rfl rfl⟩, by decide +kernel, by decide, rfl⟩
set_option maxRecDepth 100000 in
theorem m_Marks_size_ok : MOK (m_Marks_size, 0, false) := ⟨tt_at 1050 rfl rfl, tt_at 82 rfl rfl, by decide +kernel, by decide +kernel, by decide +kernel, ⟨tt_at 1048 rfl rfl, tt_at 1049 rfl rfl⟩, by decide +kernel, by decide, rfl⟩
set_option maxRecDepth 100000 in
theorem m_Marks_isUsable_ok : MOK (m_Marks_isUsable, 3, false) := ⟨tt_at 1016 rfl rfl, tt_at 82 rfl rfl, by decide +kernel, by decide +kernel, by decide +kernel, ⟨tt_at 1014 rfl rfl, tt_at 1015 rfl rfl⟩, by decide +kernel, by decide, rfl⟩
set_option maxRecDepth 100000 in
theorem m_Marks_sentenceOf_ok : MOK (m_Marks_sentenceOf, 1, false) := ⟨tt_at 1075 rfl rfl, tt_at 82 rfl rfl, by decide +kernel, by decide +kernel, by decide +kernel, ⟨tt_at 1073 rfl rfl, tt_at 1074 rfl rfl⟩, by decide +kernel, by decide, rfl⟩
set_option maxRecDepth 100000 in
theorem m_Marks_leftOf_ok : MOK (m_Marks_leftOf, 1, false) := ⟨tt_at 1063 rfl rfl, tt_at 82 rfl rfl, by decide +kernel, by decide +kernel, by decide +kernel, ⟨tt_at 1061 rfl rfl, tt_at 1062 rfl rfl⟩, by decide +kernel, by decide, rfl⟩
set_option maxRecDepth 100000 in
theorem m_Marks_rightOf_ok : MOK (m_Marks_rightOf, 1, false) := ⟨tt_at 1059 rfl rfl, tt_at 82 rfl rfl, by decide +kernel, by decide +kernel, by decide +kernel, ⟨tt_at 1057 rfl rfl, tt_at 1058 rfl rfl⟩, by decide +kernel, by decide, rfl⟩
set_option maxRecDepth 100000 in
theorem m_Marks_caughtBy_ok : MOK (m_Marks_caughtBy, 2, false) := ⟨tt_at 1011 rfl rfl, tt_at 82 rfl rfl, by decide +kernel, by decide +kernel, by decide +kernel, ⟨tt_at 1009 rfl rfl, tt_at 1010 rfl rfl⟩, by decide +kernel, by decide, rfl⟩
set_option maxRecDepth 100000 in
theorem m_Marks_shareOf_ok : MOK (m_Marks_shareOf, 1, false) := ⟨tt_at 1214 rfl rfl, tt_at 82 rfl rfl, by decide +kernel, by decide +kernel, by decide +kernel, ⟨tt_at 1212 rfl rfl, tt_at 1213 rfl rfl⟩, by decide +kernel, by decide, rfl⟩
set_option maxRecDepth 100000 in
theorem m_Reader_draft_ok : MOK (m_Reader_draft, 0, false) := ⟨tt_at 739 rfl rfl, tt_at 77 rfl rfl, by decide +kernel, by decide +kernel, by decide +kernel, ⟨tt_at 737 rfl rfl, tt_at 738 rfl rfl⟩, by decide +kernel, by decide, rfl⟩
set_option maxRecDepth 100000 in
theorem m_Reader_read_ok : MOK (m_Reader_read, 0, false) := ⟨tt_at 535 rfl rfl, tt_at 77 rfl rfl, by decide +kernel, by decide +kernel, by decide +kernel, ⟨tt_at 533 rfl rfl, tt_at 534 rfl rfl⟩, by decide +kernel, by decide, rfl⟩
set_option maxRecDepth 100000 in
theorem m_Reader_readRule_ok : MOK (m_Reader_readRule, 0, false) := ⟨tt_at 649 rfl rfl, tt_at 77 rfl rfl, by decide +kernel, by decide +kernel, by decide +kernel, ⟨tt_at 648 rfl rfl, tt_at 2 rfl rfl⟩, by decide +kernel, by decide, rfl⟩
set_option maxRecDepth 100000 in
theorem m_Reader_readItem_ok : MOK (m_Reader_readItem, 1, false) := ⟨tt_at 681 rfl rfl, tt_at 77 rfl rfl, by decide +kernel, by decide +kernel, by decide +kernel, ⟨tt_at 680 rfl rfl, tt_at 6 rfl rfl⟩, by decide +kernel, by decide, rfl⟩
set_option maxRecDepth 100000 in
theorem m_Reader_isSpec_ok : MOK (m_Reader_isSpec, 1, true) := ⟨tt_at 688 rfl rfl, tt_at 77 rfl rfl, by decide +kernel, by decide +kernel, by decide +kernel, tt_at 687 rfl rfl, by decide +kernel, by decide, rfl⟩
set_option maxRecDepth 100000 in
theorem m_Reader_readSpec_ok : MOK (m_Reader_readSpec, 1, false) := ⟨tt_at 696 rfl rfl, tt_at 77 rfl rfl, by decide +kernel, by decide +kernel, by decide +kernel, ⟨tt_at 695 rfl rfl, tt_at 7 rfl rfl⟩, by decide +kernel, by decide, rfl⟩
set_option maxRecDepth 100000 in
theorem m_Reader_readBar_ok : MOK (m_Reader_readBar, 0, false) := ⟨tt_at 704 rfl rfl, tt_at 77 rfl rfl, by decide +kernel, by decide +kernel, by decide +kernel, ⟨tt_at 703 rfl rfl, tt_at 8 rfl rfl⟩, by decide +kernel, by decide, rfl⟩
set_option maxRecDepth 100000 in
theorem m_Reader_readChain_ok : MOK (m_Reader_readChain, 0, false) := ⟨tt_at 716 rfl rfl, tt_at 77 rfl rfl, by decide +kernel, by decide +kernel, by decide +kernel, ⟨tt_at 715 rfl rfl, tt_at 9 rfl rfl⟩, by decide +kernel, by decide, rfl⟩
set_option maxRecDepth 100000 in
theorem m_Reader_readSingle_ok : MOK (m_Reader_readSingle, 0, false) := ⟨tt_at 728 rfl rfl, tt_at 77 rfl rfl, by decide +kernel, by decide +kernel, by decide +kernel, ⟨tt_at 727 rfl rfl, tt_at 10 rfl rfl⟩, by decide +kernel, by decide, rfl⟩
set_option maxRecDepth 100000 in
theorem m_Reader_readNumber_ok : MOK (m_Reader_readNumber, 2, false) := ⟨tt_at 669 rfl rfl, tt_at 77 rfl rfl, by decide +kernel, by decide +kernel, by decide +kernel, ⟨tt_at 668 rfl rfl, tt_at 4 rfl rfl⟩, by decide +kernel, by decide, rfl⟩
set_option maxRecDepth 100000 in
theorem m_Reader_readSign_ok : MOK (m_Reader_readSign, 1, false) := ⟨tt_at 673 rfl rfl, tt_at 77 rfl rfl, by decide +kernel, by decide +kernel, by decide +kernel, ⟨tt_at 672 rfl rfl, tt_at 5 rfl rfl⟩, by decide +kernel, by decide, rfl⟩
set_option maxRecDepth 100000 in
theorem m_Reader_fail_ok : MOK (m_Reader_fail, 1, false) := ⟨tt_at 657 rfl rfl, tt_at 77 rfl rfl, by decide +kernel, by decide +kernel, by decide +kernel, ⟨tt_at 656 rfl rfl, tt_at 3 rfl rfl⟩, by decide +kernel, by decide, rfl⟩
set_option maxRecDepth 100000 in
theorem m_Sentences_tell_ok : MOK (m_Sentences_tell, 1, false) := ⟨tt_at 485 rfl rfl, tt_at 75 rfl rfl, by decide +kernel, by decide +kernel, by decide +kernel, ⟨tt_at 483 rfl rfl, tt_at 484 rfl rfl⟩, by decide +kernel, by decide, rfl⟩
set_option maxRecDepth 100000 in
theorem m_Sentences_close_ok : MOK (m_Sentences_close, 0, false) := ⟨tt_at 493 rfl rfl, tt_at 75 rfl rfl, by decide +kernel, by decide +kernel, by decide +kernel, ⟨tt_at 491 rfl rfl, tt_at 492 rfl rfl⟩, by decide +kernel, by decide, rfl⟩
set_option maxRecDepth 100000 in
theorem m_Sentences_remove_ok : MOK (m_Sentences_remove, 1, false) := ⟨tt_at 508 rfl rfl, tt_at 75 rfl rfl, by decide +kernel, by decide +kernel, by decide +kernel, ⟨tt_at 506 rfl rfl, tt_at 507 rfl rfl⟩, by decide +kernel, by decide, rfl⟩
set_option maxRecDepth 100000 in
theorem m_Sentences_isThere_ok : MOK (m_Sentences_isThere, 1, false) := ⟨tt_at 512 rfl rfl, tt_at 75 rfl rfl, by decide +kernel, by decide +kernel, by decide +kernel, ⟨tt_at 510 rfl rfl, tt_at 511 rfl rfl⟩, by decide +kernel, by decide, rfl⟩
set_option maxRecDepth 100000 in
theorem m_Sentences_lengthOf_ok : MOK (m_Sentences_lengthOf, 1, false) := ⟨tt_at 456 rfl rfl, tt_at 75 rfl rfl, by decide +kernel, by decide +kernel, by decide +kernel, ⟨tt_at 454 rfl rfl, tt_at 455 rfl rfl⟩, by decide +kernel, by decide, rfl⟩
set_option maxRecDepth 100000 in
theorem m_Sentences_wordAt_ok : MOK (m_Sentences_wordAt, 2, false) := ⟨tt_at 460 rfl rfl, tt_at 75 rfl rfl, by decide +kernel, by decide +kernel, by decide +kernel, ⟨tt_at 458 rfl rfl, tt_at 459 rfl rfl⟩, by decide +kernel, by decide, rfl⟩
set_option maxRecDepth 100000 in
theorem m_Sentences_told_ok : MOK (m_Sentences_told, 0, false) := ⟨tt_at 1134 rfl rfl, tt_at 75 rfl rfl, by decide +kernel, by decide +kernel, by decide +kernel, ⟨tt_at 1132 rfl rfl, tt_at 1133 rfl rfl⟩, by decide +kernel, by decide, rfl⟩
set_option maxRecDepth 100000 in
theorem m_Sentences_came_ok : MOK (m_Sentences_came, 0, false) := ⟨tt_at 452 rfl rfl, tt_at 75 rfl rfl, by decide +kernel, by decide +kernel, by decide +kernel, ⟨tt_at 450 rfl rfl, tt_at 451 rfl rfl⟩, by decide +kernel, by decide, rfl⟩
set_option maxRecDepth 100000 in
theorem m_Sentences_present_ok : MOK (m_Sentences_present, 0, false) := ⟨tt_at 1127 rfl rfl, tt_at 75 rfl rfl, by decide +kernel, by decide +kernel, by decide +kernel, ⟨tt_at 1125 rfl rfl, tt_at 1126 rfl rfl⟩, by decide +kernel, by decide, rfl⟩
set_option maxRecDepth 100000 in
theorem m_Table_forget_ok : MOK (m_Table_forget, 0, false) := ⟨tt_at 464 rfl rfl, tt_at 81 rfl rfl, by decide +kernel, by decide +kernel, by decide +kernel, ⟨tt_at 462 rfl rfl, tt_at 463 rfl rfl⟩, by decide +kernel, by decide, rfl⟩
set_option maxRecDepth 100000 in
theorem m_Table_refresh_ok : MOK (m_Table_refresh, 0, false) := ⟨tt_at 892 rfl rfl, tt_at 81 rfl rfl, by decide +kernel, by decide +kernel, by decide +kernel, ⟨tt_at 890 rfl rfl, tt_at 891 rfl rfl⟩, by decide +kernel, by decide, rfl⟩
set_option maxRecDepth 100000 in
theorem m_Table_addFindsOf_ok : MOK (m_Table_addFindsOf, 1, false) := ⟨tt_at 901 rfl rfl, tt_at 81 rfl rfl, by decide +kernel, by decide +kernel, by decide +kernel, ⟨tt_at 900 rfl rfl, tt_at 24 rfl rfl⟩, by decide +kernel, by decide, rfl⟩
set_option maxRecDepth 100000 in
theorem m_Table_nameAt_ok : MOK (m_Table_nameAt, 2, false) := ⟨tt_at 908 rfl rfl, tt_at 81 rfl rfl, by decide +kernel, by decide +kernel, by decide +kernel, ⟨tt_at 907 rfl rfl, tt_at 25 rfl rfl⟩, by decide +kernel, by decide, rfl⟩
set_option maxRecDepth 100000 in
theorem m_Table_addRow_ok : MOK (m_Table_addRow, 3, false) := ⟨tt_at 917 rfl rfl, tt_at 81 rfl rfl, by decide +kernel, by decide +kernel, by decide +kernel, ⟨tt_at 916 rfl rfl, tt_at 26 rfl rfl⟩, by decide +kernel, by decide, rfl⟩
set_option maxRecDepth 100000 in
theorem m_Table_followChains_ok : MOK (m_Table_followChains, 0, false) := ⟨tt_at 923 rfl rfl, tt_at 81 rfl rfl, by decide +kernel, by decide +kernel, by decide +kernel, ⟨tt_at 922 rfl rfl, tt_at 27 rfl rfl⟩, by decide +kernel, by decide, rfl⟩
set_option maxRecDepth 100000 in
theorem m_Table_followChain_ok : MOK (m_Table_followChain, 3, false) := ⟨tt_at 941 rfl rfl, tt_at 81 rfl rfl, by decide +kernel, by decide +kernel, by decide +kernel, ⟨tt_at 940 rfl rfl, tt_at 28 rfl rfl⟩, by decide +kernel, by decide, rfl⟩
set_option maxRecDepth 100000 in
theorem m_Table_followFrom_ok : MOK (m_Table_followFrom, 4, false) := ⟨tt_at 955 rfl rfl, tt_at 81 rfl rfl, by decide +kernel, by decide +kernel, by decide +kernel, ⟨tt_at 954 rfl rfl, tt_at 30 rfl rfl⟩, by decide +kernel, by decide, rfl⟩
set_option maxRecDepth 100000 in
theorem m_Table_hasRow_ok : MOK (m_Table_hasRow, 3, false) := ⟨tt_at 959 rfl rfl, tt_at 81 rfl rfl, by decide +kernel, by decide +kernel, by decide +kernel, ⟨tt_at 958 rfl rfl, tt_at 31 rfl rfl⟩, by decide +kernel, by decide, rfl⟩
set_option maxRecDepth 100000 in
theorem m_Table_degree_ok : MOK (m_Table_degree, 2, false) := ⟨tt_at 945 rfl rfl, tt_at 81 rfl rfl, by decide +kernel, by decide +kernel, by decide +kernel, ⟨tt_at 944 rfl rfl, tt_at 29 rfl rfl⟩, by decide +kernel, by decide, rfl⟩
set_option maxRecDepth 100000 in
theorem m_Table_size_ok : MOK (m_Table_size, 1, false) := ⟨tt_at 964 rfl rfl, tt_at 81 rfl rfl, by decide +kernel, by decide +kernel, by decide +kernel, ⟨tt_at 962 rfl rfl, tt_at 963 rfl rfl⟩, by decide +kernel, by decide, rfl⟩
set_option maxRecDepth 100000 in
theorem m_Table_name_ok : MOK (m_Table_name, 3, false) := ⟨tt_at 972 rfl rfl, tt_at 81 rfl rfl, by decide +kernel, by decide +kernel, by decide +kernel, ⟨tt_at 970 rfl rfl, tt_at 971 rfl rfl⟩, by decide +kernel, by decide, rfl⟩
set_option maxRecDepth 100000 in
theorem m_Table_secondName_ok : MOK (m_Table_secondName, 3, false) := ⟨tt_at 976 rfl rfl, tt_at 81 rfl rfl, by decide +kernel, by decide +kernel, by decide +kernel, ⟨tt_at 975 rfl rfl, tt_at 32 rfl rfl⟩, by decide +kernel, by decide, rfl⟩
set_option maxRecDepth 100000 in
theorem m_Table_quarrelling_ok : MOK (m_Table_quarrelling, 2, false) := ⟨tt_at 988 rfl rfl, tt_at 81 rfl rfl, by decide +kernel, by decide +kernel, by decide +kernel, ⟨tt_at 986 rfl rfl, tt_at 987 rfl rfl⟩, by decide +kernel, by decide, rfl⟩
set_option maxRecDepth 100000 in
theorem m_Tape_put_ok : MOK (m_Tape_put, 1, false) := ⟨tt_at 520 rfl rfl, tt_at 76 rfl rfl, by decide +kernel, by decide +kernel, by decide +kernel, ⟨tt_at 518 rfl rfl, tt_at 519 rfl rfl⟩, by decide +kernel, by decide, rfl⟩
set_option maxRecDepth 100000 in
theorem m_Tape_isKnown_ok : MOK (m_Tape_isKnown, 1, true) := ⟨tt_at 523 rfl rfl, tt_at 76 rfl rfl, by decide +kernel, by decide +kernel, by decide +kernel, tt_at 522 rfl rfl, by decide +kernel, by decide, rfl⟩
set_option maxRecDepth 100000 in
theorem m_Tape_length_ok : MOK (m_Tape_length, 0, false) := ⟨tt_at 527 rfl rfl, tt_at 76 rfl rfl, by decide +kernel, by decide +kernel, by decide +kernel, ⟨tt_at 525 rfl rfl, tt_at 526 rfl rfl⟩, by decide +kernel, by decide, rfl⟩
set_option maxRecDepth 100000 in
theorem m_Tape_at_ok : MOK (m_Tape_at, 1, false) := ⟨tt_at 544 rfl rfl, tt_at 76 rfl rfl, by decide +kernel, by decide +kernel, by decide +kernel, ⟨tt_at 542 rfl rfl, tt_at 543 rfl rfl⟩, by decide +kernel, by decide, rfl⟩
set_option maxRecDepth 100000 in
theorem m_Tape_clear_ok : MOK (m_Tape_clear, 0, false) := ⟨tt_at 637 rfl rfl, tt_at 76 rfl rfl, by decide +kernel, by decide +kernel, by decide +kernel, ⟨tt_at 635 rfl rfl, tt_at 636 rfl rfl⟩, by decide +kernel, by decide, rfl⟩
set_option maxRecDepth 100000 in
theorem m_Tokens_scan_ok : MOK (m_Tokens_scan, 1, false) := ⟨tt_at 539 rfl rfl, tt_at 78 rfl rfl, by decide +kernel, by decide +kernel, by decide +kernel, ⟨tt_at 537 rfl rfl, tt_at 538 rfl rfl⟩, by decide +kernel, by decide, rfl⟩
set_option maxRecDepth 100000 in
theorem m_Tokens_add_ok : MOK (m_Tokens_add, 2, false) := ⟨tt_at 633 rfl rfl, tt_at 78 rfl rfl, by decide +kernel, by decide +kernel, by decide +kernel, ⟨tt_at 632 rfl rfl, tt_at 1 rfl rfl⟩, by decide +kernel, by decide, rfl⟩
set_option maxRecDepth 100000 in
theorem m_Tokens_code_ok : MOK (m_Tokens_code, 0, false) := ⟨tt_at 645 rfl rfl, tt_at 78 rfl rfl, by decide +kernel, by decide +kernel, by decide +kernel, ⟨tt_at 643 rfl rfl, tt_at 644 rfl rfl⟩, by decide +kernel, by decide, rfl⟩
set_option maxRecDepth 100000 in
theorem m_Tokens_place_ok : MOK (m_Tokens_place, 0, false) := ⟨tt_at 661 rfl rfl, tt_at 78 rfl rfl, by decide +kernel, by decide +kernel, by decide +kernel, ⟨tt_at 659 rfl rfl, tt_at 660 rfl rfl⟩, by decide +kernel, by decide, rfl⟩
set_option maxRecDepth 100000 in
theorem m_Tokens_advance_ok : MOK (m_Tokens_advance, 0, false) := ⟨tt_at 665 rfl rfl, tt_at 78 rfl rfl, by decide +kernel, by decide +kernel, by decide +kernel, ⟨tt_at 663 rfl rfl, tt_at 664 rfl rfl⟩, by decide +kernel, by decide, rfl⟩
set_option maxRecDepth 100000 in
theorem m_Tokens_goesOn_ok : MOK (m_Tokens_goesOn, 2, true) := ⟨tt_at 550 rfl rfl, tt_at 78 rfl rfl, by decide +kernel, by decide +kernel, by decide +kernel, tt_at 549 rfl rfl, by decide +kernel, by decide, rfl⟩
set_option maxRecDepth 100000 in
theorem m_Tokens_codeAt_ok : MOK (m_Tokens_codeAt, 2, true) := ⟨tt_at 559 rfl rfl, tt_at 78 rfl rfl, by decide +kernel, by decide +kernel, by decide +kernel, tt_at 558 rfl rfl, by decide +kernel, by decide, rfl⟩
set_option maxRecDepth 100000 in
theorem m_Tokens_numberCode_ok : MOK (m_Tokens_numberCode, 2, true) := ⟨tt_at 562 rfl rfl, tt_at 78 rfl rfl, by decide +kernel, by decide +kernel, by decide +kernel, tt_at 561 rfl rfl, by decide +kernel, by decide, rfl⟩
set_option maxRecDepth 100000 in
theorem m_Tokens_wordCode_ok : MOK (m_Tokens_wordCode, 2, true) := ⟨tt_at 565 rfl rfl, tt_at 78 rfl rfl, by decide +kernel, by decide +kernel, by decide +kernel, tt_at 564 rfl rfl, by decide +kernel, by decide, rfl⟩
set_option maxRecDepth 100000 in
theorem m_Tokens_sWordCode_ok : MOK (m_Tokens_sWordCode, 2, true) := ⟨tt_at 625 rfl rfl, tt_at 78 rfl rfl, by decide +kernel, by decide +kernel, by decide +kernel, tt_at 624 rfl rfl, by decide +kernel, by decide, rfl⟩
set_option maxRecDepth 100000 in
theorem m_Tokens_stands_ok : MOK (m_Tokens_stands, 3, true) := ⟨tt_at 569 rfl rfl, tt_at 78 rfl rfl, by decide +kernel, by decide +kernel, by decide +kernel, tt_at 568 rfl rfl, by decide +kernel, by decide, rfl⟩
set_option maxRecDepth 100000 in
theorem m_Tokens_isBlank_ok : MOK (m_Tokens_isBlank, 1, true) := ⟨tt_at 547 rfl rfl, tt_at 78 rfl rfl, by decide +kernel, by decide +kernel, by decide +kernel, tt_at 546 rfl rfl, by decide +kernel, by decide, rfl⟩
set_option maxRecDepth 100000 in
theorem m_Tokens_isLetter_ok : MOK (m_Tokens_isLetter, 1, true) := ⟨tt_at 553 rfl rfl, tt_at 78 rfl rfl, by decide +kernel, by decide +kernel, by decide +kernel, tt_at 552 rfl rfl, by decide +kernel, by decide, rfl⟩
set_option maxRecDepth 100000 in
theorem m_Tokens_isDigit_ok : MOK (m_Tokens_isDigit, 1, true) := ⟨tt_at 556 rfl rfl, tt_at 78 rfl rfl, by decide +kernel, by decide +kernel, by decide +kernel, tt_at 555 rfl rfl, by decide +kernel, by decide, rfl⟩
set_option maxRecDepth 100000 in
theorem m_D_sort_ok : MOK (m_D_sort, 2, false) := ⟨tt_at 437 rfl rfl, tt_at 73 rfl rfl, by decide +kernel, by decide +kernel, by decide +kernel, ⟨tt_at 435 rfl rfl, tt_at 436 rfl rfl⟩, by decide +kernel, by decide, rfl⟩
set_option maxRecDepth 100000 in
theorem m_D_join_ok : MOK (m_D_join, 2, false) := ⟨tt_at 468 rfl rfl, tt_at 73 rfl rfl, by decide +kernel, by decide +kernel, by decide +kernel, ⟨tt_at 466 rfl rfl, tt_at 467 rfl rfl⟩, by decide +kernel, by decide, rfl⟩
set_option maxRecDepth 100000 in
theorem m_D_word_ok : MOK (m_D_word, 1, false) := ⟨tt_at 480 rfl rfl, tt_at 73 rfl rfl, by decide +kernel, by decide +kernel, by decide +kernel, ⟨tt_at 478 rfl rfl, tt_at 479 rfl rfl⟩, by decide +kernel, by decide, rfl⟩
set_option maxRecDepth 100000 in
theorem m_D_sentence_ok : MOK (m_D_sentence, 0, false) := ⟨tt_at 489 rfl rfl, tt_at 73 rfl rfl, by decide +kernel, by decide +kernel, by decide +kernel, ⟨tt_at 487 rfl rfl, tt_at 488 rfl rfl⟩, by decide +kernel, by decide, rfl⟩
set_option maxRecDepth 100000 in
theorem m_D_take_ok : MOK (m_D_take, 1, false) := ⟨tt_at 504 rfl rfl, tt_at 73 rfl rfl, by decide +kernel, by decide +kernel, by decide +kernel, ⟨tt_at 502 rfl rfl, tt_at 503 rfl rfl⟩, by decide +kernel, by decide, rfl⟩
set_option maxRecDepth 100000 in
theorem m_D_feed_ok : MOK (m_D_feed, 3, false) := ⟨tt_at 516 rfl rfl, tt_at 73 rfl rfl, by decide +kernel, by decide +kernel, by decide +kernel, ⟨tt_at 514 rfl rfl, tt_at 515 rfl rfl⟩, by decide +kernel, by decide, rfl⟩
set_option maxRecDepth 100000 in
theorem m_D_text_ok : MOK (m_D_text, 0, false) := ⟨tt_at 531 rfl rfl, tt_at 73 rfl rfl, by decide +kernel, by decide +kernel, by decide +kernel, ⟨tt_at 529 rfl rfl, tt_at 530 rfl rfl⟩, by decide +kernel, by decide, rfl⟩
set_option maxRecDepth 100000 in
theorem m_D_finds_ok : MOK (m_D_finds, 0, false) := ⟨tt_at 753 rfl rfl, tt_at 73 rfl rfl, by decide +kernel, by decide +kernel, by decide +kernel, ⟨tt_at 751 rfl rfl, tt_at 752 rfl rfl⟩, by decide +kernel, by decide, rfl⟩
set_option maxRecDepth 100000 in
theorem m_D_find_ok : MOK (m_D_find, 2, false) := ⟨tt_at 859 rfl rfl, tt_at 73 rfl rfl, by decide +kernel, by decide +kernel, by decide +kernel, ⟨tt_at 857 rfl rfl, tt_at 858 rfl rfl⟩, by decide +kernel, by decide, rfl⟩
set_option maxRecDepth 100000 in
theorem m_D_rows_ok : MOK (m_D_rows, 1, false) := ⟨tt_at 887 rfl rfl, tt_at 73 rfl rfl, by decide +kernel, by decide +kernel, by decide +kernel, ⟨tt_at 885 rfl rfl, tt_at 886 rfl rfl⟩, by decide +kernel, by decide, rfl⟩
set_option maxRecDepth 100000 in
theorem m_D_row_ok : MOK (m_D_row, 3, false) := ⟨tt_at 968 rfl rfl, tt_at 73 rfl rfl, by decide +kernel, by decide +kernel, by decide +kernel, ⟨tt_at 966 rfl rfl, tt_at 967 rfl rfl⟩, by decide +kernel, by decide, rfl⟩
set_option maxRecDepth 100000 in
theorem m_D_quarrel_ok : MOK (m_D_quarrel, 2, false) := ⟨tt_at 980 rfl rfl, tt_at 73 rfl rfl, by decide +kernel, by decide +kernel, by decide +kernel, ⟨tt_at 978 rfl rfl, tt_at 979 rfl rfl⟩, by decide +kernel, by decide, rfl⟩
set_option maxRecDepth 100000 in
theorem m_D_mark_ok : MOK (m_D_mark, 5, false) := ⟨tt_at 992 rfl rfl, tt_at 73 rfl rfl, by decide +kernel, by decide +kernel, by decide +kernel, ⟨tt_at 990 rfl rfl, tt_at 991 rfl rfl⟩, by decide +kernel, by decide, rfl⟩
set_option maxRecDepth 100000 in
theorem m_D_best_ok : MOK (m_D_best, 1, false) := ⟨tt_at 1006 rfl rfl, tt_at 73 rfl rfl, by decide +kernel, by decide +kernel, by decide +kernel, ⟨tt_at 1004 rfl rfl, tt_at 1005 rfl rfl⟩, by decide +kernel, by decide, rfl⟩
set_option maxRecDepth 100000 in
theorem m_D_learn_ok : MOK (m_D_learn, 1, false) := ⟨tt_at 1042 rfl rfl, tt_at 73 rfl rfl, by decide +kernel, by decide +kernel, by decide +kernel, ⟨tt_at 1040 rfl rfl, tt_at 1041 rfl rfl⟩, by decide +kernel, by decide, rfl⟩
set_option maxRecDepth 100000 in
theorem m_D_learnt_ok : MOK (m_D_learnt, 2, false) := ⟨tt_at 1093 rfl rfl, tt_at 73 rfl rfl, by decide +kernel, by decide +kernel, by decide +kernel, ⟨tt_at 1091 rfl rfl, tt_at 1092 rfl rfl⟩, by decide +kernel, by decide, rfl⟩
set_option maxRecDepth 100000 in
theorem m_D_catches_ok : MOK (m_D_catches, 1, false) := ⟨tt_at 1105 rfl rfl, tt_at 73 rfl rfl, by decide +kernel, by decide +kernel, by decide +kernel, ⟨tt_at 1103 rfl rfl, tt_at 1104 rfl rfl⟩, by decide +kernel, by decide, rfl⟩
set_option maxRecDepth 100000 in
theorem m_D_named_ok : MOK (m_D_named, 1, false) := ⟨tt_at 1117 rfl rfl, tt_at 73 rfl rfl, by decide +kernel, by decide +kernel, by decide +kernel, ⟨tt_at 1115 rfl rfl, tt_at 1116 rfl rfl⟩, by decide +kernel, by decide, rfl⟩
set_option maxRecDepth 100000 in
theorem m_D_count_ok : MOK (m_D_count, 1, false) := ⟨tt_at 1122 rfl rfl, tt_at 73 rfl rfl, by decide +kernel, by decide +kernel, by decide +kernel, ⟨tt_at 1120 rfl rfl, tt_at 1121 rfl rfl⟩, by decide +kernel, by decide, rfl⟩
set_option maxRecDepth 100000 in
theorem m_D_isRelation_ok : MOK (m_D_isRelation, 1, true) := ⟨tt_at 735 rfl rfl, tt_at 73 rfl rfl, by decide +kernel, by decide +kernel, by decide +kernel, tt_at 734 rfl rfl, by decide +kernel, by decide, rfl⟩
set_option maxRecDepth 100000 in
theorem m_M_thrown_ok : MOK (m_M_thrown, 0, false) := ⟨tt_at 1225 rfl rfl, tt_at 85 rfl rfl, by decide +kernel, by decide +kernel, by decide +kernel, ⟨tt_at 1223 rfl rfl, tt_at 1224 rfl rfl⟩, by decide +kernel, by decide, rfl⟩
set_option maxRecDepth 100000 in
theorem m_M_feed_ok : MOK (m_M_feed, 3, false) := ⟨tt_at 1229 rfl rfl, tt_at 85 rfl rfl, by decide +kernel, by decide +kernel, by decide +kernel, ⟨tt_at 1227 rfl rfl, tt_at 1228 rfl rfl⟩, by decide +kernel, by decide, rfl⟩
set_option maxRecDepth 100000 in
theorem m_M_lay_ok : MOK (m_M_lay, 1, false) := ⟨tt_at 1234 rfl rfl, tt_at 85 rfl rfl, by decide +kernel, by decide +kernel, by decide +kernel, ⟨tt_at 1232 rfl rfl, tt_at 43 rfl rfl⟩, by decide +kernel, by decide, rfl⟩
set_option maxRecDepth 100000 in
theorem m_M_isLetter_ok : MOK (m_M_isLetter, 1, true) := ⟨tt_at 1419 rfl rfl, tt_at 85 rfl rfl, by decide +kernel, by decide +kernel, by decide +kernel, tt_at 1418 rfl rfl, by decide +kernel, by decide, rfl⟩
set_option maxRecDepth 100000 in
theorem m_M_isDigit_ok : MOK (m_M_isDigit, 1, true) := ⟨tt_at 1426 rfl rfl, tt_at 85 rfl rfl, by decide +kernel, by decide +kernel, by decide +kernel, tt_at 1425 rfl rfl, by decide +kernel, by decide, rfl⟩
set_option maxRecDepth 100000 in
theorem m_M_rank_ok : MOK (m_M_rank, 1, true) := ⟨tt_at 1423 rfl rfl, tt_at 85 rfl rfl, by decide +kernel, by decide +kernel, by decide +kernel, tt_at 1422 rfl rfl, by decide +kernel, by decide, rfl⟩
set_option maxRecDepth 100000 in
theorem m_M_isSignOf_ok : MOK (m_M_isSignOf, 1, true) := ⟨tt_at 1431 rfl rfl, tt_at 85 rfl rfl, by decide +kernel, by decide +kernel, by decide +kernel, tt_at 1430 rfl rfl, by decide +kernel, by decide, rfl⟩
set_option maxRecDepth 100000 in
theorem m_M_cutAll_ok : MOK (m_M_cutAll, 0, false) := ⟨tt_at 1416 rfl rfl, tt_at 85 rfl rfl, by decide +kernel, by decide +kernel, by decide +kernel, ⟨tt_at 1415 rfl rfl, tt_at 44 rfl rfl⟩, by decide +kernel, by decide, rfl⟩
set_option maxRecDepth 100000 in
theorem m_M_wrong_ok : MOK (m_M_wrong, 1, false) := ⟨tt_at 1447 rfl rfl, tt_at 85 rfl rfl, by decide +kernel, by decide +kernel, by decide +kernel, ⟨tt_at 1446 rfl rfl, tt_at 48 rfl rfl⟩, by decide +kernel, by decide, rfl⟩
set_option maxRecDepth 100000 in
theorem m_M_isSign_ok : MOK (m_M_isSign, 1, false) := ⟨tt_at 1459 rfl rfl, tt_at 85 rfl rfl, by decide +kernel, by decide +kernel, by decide +kernel, ⟨tt_at 1458 rfl rfl, tt_at 51 rfl rfl⟩, by decide +kernel, by decide, rfl⟩
set_option maxRecDepth 100000 in
theorem m_M_isWord_ok : MOK (m_M_isWord, 1, false) := ⟨tt_at 1439 rfl rfl, tt_at 85 rfl rfl, by decide +kernel, by decide +kernel, by decide +kernel, ⟨tt_at 1438 rfl rfl, tt_at 46 rfl rfl⟩, by decide +kernel, by decide, rfl⟩
set_option maxRecDepth 100000 in
theorem m_M_takeSign_ok : MOK (m_M_takeSign, 1, false) := ⟨tt_at 1455 rfl rfl, tt_at 85 rfl rfl, by decide +kernel, by decide +kernel, by decide +kernel, ⟨tt_at 1454 rfl rfl, tt_at 50 rfl rfl⟩, by decide +kernel, by decide, rfl⟩
set_option maxRecDepth 100000 in
theorem m_M_hasWord_ok : MOK (m_M_hasWord, 1, false) := ⟨tt_at 1475 rfl rfl, tt_at 85 rfl rfl, by decide +kernel, by decide +kernel, by decide +kernel, ⟨tt_at 1474 rfl rfl, tt_at 55 rfl rfl⟩, by decide +kernel, by decide, rfl⟩
set_option maxRecDepth 100000 in
theorem m_M_takeWord_ok : MOK (m_M_takeWord, 1, false) := ⟨tt_at 1479 rfl rfl, tt_at 85 rfl rfl, by decide +kernel, by decide +kernel, by decide +kernel, ⟨tt_at 1478 rfl rfl, tt_at 56 rfl rfl⟩, by decide +kernel, by decide, rfl⟩
set_option maxRecDepth 100000 in
theorem m_M_takeNumber_ok : MOK (m_M_takeNumber, 2, false) := ⟨tt_at 1451 rfl rfl, tt_at 85 rfl rfl, by decide +kernel, by decide +kernel, by decide +kernel, ⟨tt_at 1450 rfl rfl, tt_at 49 rfl rfl⟩, by decide +kernel, by decide, rfl⟩
set_option maxRecDepth 100000 in
theorem m_M_text_ok : MOK (m_M_text, 0, false) := ⟨tt_at 1412 rfl rfl, tt_at 85 rfl rfl, by decide +kernel, by decide +kernel, by decide +kernel, ⟨tt_at 1410 rfl rfl, tt_at 1411 rfl rfl⟩, by decide +kernel, by decide, rfl⟩
set_option maxRecDepth 100000 in
theorem m_M_statement_ok : MOK (m_M_statement, 0, false) := ⟨tt_at 1435 rfl rfl, tt_at 85 rfl rfl, by decide +kernel, by decide +kernel, by decide +kernel, ⟨tt_at 1434 rfl rfl, tt_at 45 rfl rfl⟩, by decide +kernel, by decide, rfl⟩
set_option maxRecDepth 100000 in
theorem m_M_readChain_ok : MOK (m_M_readChain, 0, false) := ⟨tt_at 1483 rfl rfl, tt_at 85 rfl rfl, by decide +kernel, by decide +kernel, by decide +kernel, ⟨tt_at 1482 rfl rfl, tt_at 57 rfl rfl⟩, by decide +kernel, by decide, rfl⟩
set_option maxRecDepth 100000 in
theorem m_M_readRule_ok : MOK (m_M_readRule, 0, false) := ⟨tt_at 1443 rfl rfl, tt_at 85 rfl rfl, by decide +kernel, by decide +kernel, by decide +kernel, ⟨tt_at 1442 rfl rfl, tt_at 47 rfl rfl⟩, by decide +kernel, by decide, rfl⟩
set_option maxRecDepth 100000 in
theorem m_M_isItem_ok : MOK (m_M_isItem, 0, false) := ⟨tt_at 1467 rfl rfl, tt_at 85 rfl rfl, by decide +kernel, by decide +kernel, by decide +kernel, ⟨tt_at 1466 rfl rfl, tt_at 53 rfl rfl⟩, by decide +kernel, by decide, rfl⟩
set_option maxRecDepth 100000 in
theorem m_M_item_ok : MOK (m_M_item, 1, false) := ⟨tt_at 1463 rfl rfl, tt_at 85 rfl rfl, by decide +kernel, by decide +kernel, by decide +kernel, ⟨tt_at 1462 rfl rfl, tt_at 52 rfl rfl⟩, by decide +kernel, by decide, rfl⟩
set_option maxRecDepth 100000 in
theorem m_M_spec_ok : MOK (m_M_spec, 1, false) := ⟨tt_at 1471 rfl rfl, tt_at 85 rfl rfl, by decide +kernel, by decide +kernel, by decide +kernel, ⟨tt_at 1470 rfl rfl, tt_at 54 rfl rfl⟩, by decide +kernel, by decide, rfl⟩
set_option maxRecDepth 100000 in
theorem m_M_isOne_ok : MOK (m_M_isOne, 1, true) := ⟨tt_at 1490 rfl rfl, tt_at 85 rfl rfl, by decide +kernel, by decide +kernel, by decide +kernel, tt_at 1489 rfl rfl, by decide +kernel, by decide, rfl⟩
set_option maxRecDepth 100000 in
theorem m_M_sort_ok : MOK (m_M_sort, 2, false) := ⟨tt_at 1487 rfl rfl, tt_at 85 rfl rfl, by decide +kernel, by decide +kernel, by decide +kernel, ⟨tt_at 1485 rfl rfl, tt_at 1486 rfl rfl⟩, by decide +kernel, by decide, rfl⟩
set_option maxRecDepth 100000 in
theorem m_M_nameOf_ok : MOK (m_M_nameOf, 1, false) := ⟨tt_at 1502 rfl rfl, tt_at 85 rfl rfl, by decide +kernel, by decide +kernel, by decide +kernel, ⟨tt_at 1501 rfl rfl, tt_at 58 rfl rfl⟩, by decide +kernel, by decide, rfl⟩
set_option maxRecDepth 100000 in
theorem m_M_join_ok : MOK (m_M_join, 2, false) := ⟨tt_at 1494 rfl rfl, tt_at 85 rfl rfl, by decide +kernel, by decide +kernel, by decide +kernel, ⟨tt_at 1492 rfl rfl, tt_at 1493 rfl rfl⟩, by decide +kernel, by decide, rfl⟩
set_option maxRecDepth 100000 in
theorem m_M_named_ok : MOK (m_M_named, 1, false) := ⟨tt_at 1498 rfl rfl, tt_at 85 rfl rfl, by decide +kernel, by decide +kernel, by decide +kernel, ⟨tt_at 1496 rfl rfl, tt_at 1497 rfl rfl⟩, by decide +kernel, by decide, rfl⟩
set_option maxRecDepth 100000 in
theorem m_M_word_ok : MOK (m_M_word, 1, false) := ⟨tt_at 1506 rfl rfl, tt_at 85 rfl rfl, by decide +kernel, by decide +kernel, by decide +kernel, ⟨tt_at 1504 rfl rfl, tt_at 1505 rfl rfl⟩, by decide +kernel, by decide, rfl⟩
set_option maxRecDepth 100000 in
theorem m_M_sentence_ok : MOK (m_M_sentence, 0, false) := ⟨tt_at 1510 rfl rfl, tt_at 85 rfl rfl, by decide +kernel, by decide +kernel, by decide +kernel, ⟨tt_at 1508 rfl rfl, tt_at 1509 rfl rfl⟩, by decide +kernel, by decide, rfl⟩
set_option maxRecDepth 100000 in
theorem m_M_isThere_ok : MOK (m_M_isThere, 1, false) := ⟨tt_at 1518 rfl rfl, tt_at 85 rfl rfl, by decide +kernel, by decide +kernel, by decide +kernel, ⟨tt_at 1517 rfl rfl, tt_at 59 rfl rfl⟩, by decide +kernel, by decide, rfl⟩
set_option maxRecDepth 100000 in
theorem m_M_take_ok : MOK (m_M_take, 1, false) := ⟨tt_at 1514 rfl rfl, tt_at 85 rfl rfl, by decide +kernel, by decide +kernel, by decide +kernel, ⟨tt_at 1512 rfl rfl, tt_at 1513 rfl rfl⟩, by decide +kernel, by decide, rfl⟩
set_option maxRecDepth 100000 in
theorem m_M_fits_ok : MOK (m_M_fits, 3, false) := ⟨tt_at 1538 rfl rfl, tt_at 85 rfl rfl, by decide +kernel, by decide +kernel, by decide +kernel, ⟨tt_at 1537 rfl rfl, tt_at 63 rfl rfl⟩, by decide +kernel, by decide, rfl⟩
set_option maxRecDepth 100000 in
theorem m_M_findOf_ok : MOK (m_M_findOf, 4, true) := ⟨tt_at 1541 rfl rfl, tt_at 85 rfl rfl, by decide +kernel, by decide +kernel, by decide +kernel, tt_at 1540 rfl rfl, by decide +kernel, by decide, rfl⟩
set_option maxRecDepth 100000 in
theorem m_M_findAll_ok : MOK (m_M_findAll, 0, false) := ⟨tt_at 1526 rfl rfl, tt_at 85 rfl rfl, by decide +kernel, by decide +kernel, by decide +kernel, ⟨tt_at 1525 rfl rfl, tt_at 60 rfl rfl⟩, by decide +kernel, by decide, rfl⟩
set_option maxRecDepth 100000 in
theorem m_M_matches_ok : MOK (m_M_matches, 2, false) := ⟨tt_at 1530 rfl rfl, tt_at 85 rfl rfl, by decide +kernel, by decide +kernel, by decide +kernel, ⟨tt_at 1529 rfl rfl, tt_at 61 rfl rfl⟩, by decide +kernel, by decide, rfl⟩
set_option maxRecDepth 100000 in
theorem m_M_goes_ok : MOK (m_M_goes, 4, false) := ⟨tt_at 1534 rfl rfl, tt_at 85 rfl rfl, by decide +kernel, by decide +kernel, by decide +kernel, ⟨tt_at 1533 rfl rfl, tt_at 62 rfl rfl⟩, by decide +kernel, by decide, rfl⟩
set_option maxRecDepth 100000 in
theorem m_M_isBarred_ok : MOK (m_M_isBarred, 1, false) := ⟨tt_at 1549 rfl rfl, tt_at 85 rfl rfl, by decide +kernel, by decide +kernel, by decide +kernel, ⟨tt_at 1548 rfl rfl, tt_at 64 rfl rfl⟩, by decide +kernel, by decide, rfl⟩
set_option maxRecDepth 100000 in
theorem m_M_finds_ok : MOK (m_M_finds, 0, false) := ⟨tt_at 1522 rfl rfl, tt_at 85 rfl rfl, by decide +kernel, by decide +kernel, by decide +kernel, ⟨tt_at 1520 rfl rfl, tt_at 1521 rfl rfl⟩, by decide +kernel, by decide, rfl⟩
set_option maxRecDepth 100000 in
theorem m_M_find_ok : MOK (m_M_find, 2, false) := ⟨tt_at 1545 rfl rfl, tt_at 85 rfl rfl, by decide +kernel, by decide +kernel, by decide +kernel, ⟨tt_at 1543 rfl rfl, tt_at 1544 rfl rfl⟩, by decide +kernel, by decide, rfl⟩
set_option maxRecDepth 100000 in
theorem m_M_findRows_ok : MOK (m_M_findRows, 0, false) := ⟨tt_at 1560 rfl rfl, tt_at 85 rfl rfl, by decide +kernel, by decide +kernel, by decide +kernel, ⟨tt_at 1559 rfl rfl, tt_at 65 rfl rfl⟩, by decide +kernel, by decide, rfl⟩
set_option maxRecDepth 100000 in
theorem m_M_joins_ok : MOK (m_M_joins, 3, false) := ⟨tt_at 1564 rfl rfl, tt_at 85 rfl rfl, by decide +kernel, by decide +kernel, by decide +kernel, ⟨tt_at 1563 rfl rfl, tt_at 66 rfl rfl⟩, by decide +kernel, by decide, rfl⟩
set_option maxRecDepth 100000 in
theorem m_M_isR_ok : MOK (m_M_isR, 1, true) := ⟨tt_at 1556 rfl rfl, tt_at 85 rfl rfl, by decide +kernel, by decide +kernel, by decide +kernel, tt_at 1555 rfl rfl, by decide +kernel, by decide, rfl⟩
set_option maxRecDepth 100000 in
theorem m_M_rows_ok : MOK (m_M_rows, 1, false) := ⟨tt_at 1553 rfl rfl, tt_at 85 rfl rfl, by decide +kernel, by decide +kernel, by decide +kernel, ⟨tt_at 1551 rfl rfl, tt_at 1552 rfl rfl⟩, by decide +kernel, by decide, rfl⟩
set_option maxRecDepth 100000 in
theorem m_M_row_ok : MOK (m_M_row, 3, false) := ⟨tt_at 1568 rfl rfl, tt_at 85 rfl rfl, by decide +kernel, by decide +kernel, by decide +kernel, ⟨tt_at 1566 rfl rfl, tt_at 1567 rfl rfl⟩, by decide +kernel, by decide, rfl⟩
set_option maxRecDepth 100000 in
theorem m_M_quarrel_ok : MOK (m_M_quarrel, 2, false) := ⟨tt_at 1572 rfl rfl, tt_at 85 rfl rfl, by decide +kernel, by decide +kernel, by decide +kernel, ⟨tt_at 1570 rfl rfl, tt_at 1571 rfl rfl⟩, by decide +kernel, by decide, rfl⟩
set_option maxRecDepth 100000 in
theorem m_M_mark_ok : MOK (m_M_mark, 5, false) := ⟨tt_at 1576 rfl rfl, tt_at 85 rfl rfl, by decide +kernel, by decide +kernel, by decide +kernel, ⟨tt_at 1574 rfl rfl, tt_at 1575 rfl rfl⟩, by decide +kernel, by decide, rfl⟩
set_option maxRecDepth 100000 in
theorem m_M_catchesMark_ok : MOK (m_M_catchesMark, 2, false) := ⟨tt_at 1588 rfl rfl, tt_at 85 rfl rfl, by decide +kernel, by decide +kernel, by decide +kernel, ⟨tt_at 1587 rfl rfl, tt_at 68 rfl rfl⟩, by decide +kernel, by decide, rfl⟩
set_option maxRecDepth 100000 in
theorem m_M_caught_ok : MOK (m_M_caught, 2, false) := ⟨tt_at 1584 rfl rfl, tt_at 85 rfl rfl, by decide +kernel, by decide +kernel, by decide +kernel, ⟨tt_at 1583 rfl rfl, tt_at 67 rfl rfl⟩, by decide +kernel, by decide, rfl⟩
set_option maxRecDepth 100000 in
theorem m_M_rule_ok : MOK (m_M_rule, 2, false) := ⟨tt_at 1580 rfl rfl, tt_at 85 rfl rfl, by decide +kernel, by decide +kernel, by decide +kernel, ⟨tt_at 1578 rfl rfl, tt_at 1579 rfl rfl⟩, by decide +kernel, by decide, rfl⟩
set_option maxRecDepth 100000 in
theorem m_M_bits_ok : MOK (m_M_bits, 1, true) := ⟨tt_at 1595 rfl rfl, tt_at 85 rfl rfl, by decide +kernel, by decide +kernel, by decide +kernel, tt_at 1594 rfl rfl, by decide +kernel, by decide, rfl⟩
set_option maxRecDepth 100000 in
theorem m_M_best_ok : MOK (m_M_best, 1, false) := ⟨tt_at 1592 rfl rfl, tt_at 85 rfl rfl, by decide +kernel, by decide +kernel, by decide +kernel, ⟨tt_at 1590 rfl rfl, tt_at 1591 rfl rfl⟩, by decide +kernel, by decide, rfl⟩
set_option maxRecDepth 100000 in
theorem m_M_isLike_ok : MOK (m_M_isLike, 3, false) := ⟨tt_at 1610 rfl rfl, tt_at 85 rfl rfl, by decide +kernel, by decide +kernel, by decide +kernel, ⟨tt_at 1609 rfl rfl, tt_at 70 rfl rfl⟩, by decide +kernel, by decide, rfl⟩
set_option maxRecDepth 100000 in
theorem m_M_least_ok : MOK (m_M_least, 2, true) := ⟨tt_at 1606 rfl rfl, tt_at 85 rfl rfl, by decide +kernel, by decide +kernel, by decide +kernel, tt_at 1605 rfl rfl, by decide +kernel, by decide, rfl⟩
set_option maxRecDepth 100000 in
theorem m_M_wordAt_ok : MOK (m_M_wordAt, 2, false) := ⟨tt_at 1603 rfl rfl, tt_at 85 rfl rfl, by decide +kernel, by decide +kernel, by decide +kernel, ⟨tt_at 1602 rfl rfl, tt_at 69 rfl rfl⟩, by decide +kernel, by decide, rfl⟩
set_option maxRecDepth 100000 in
theorem m_M_learn_ok : MOK (m_M_learn, 1, false) := ⟨tt_at 1599 rfl rfl, tt_at 85 rfl rfl, by decide +kernel, by decide +kernel, by decide +kernel, ⟨tt_at 1597 rfl rfl, tt_at 1598 rfl rfl⟩, by decide +kernel, by decide, rfl⟩
set_option maxRecDepth 100000 in
theorem m_M_learnt_ok : MOK (m_M_learnt, 2, false) := ⟨tt_at 1614 rfl rfl, tt_at 85 rfl rfl, by decide +kernel, by decide +kernel, by decide +kernel, ⟨tt_at 1612 rfl rfl, tt_at 1613 rfl rfl⟩, by decide +kernel, by decide, rfl⟩
set_option maxRecDepth 100000 in
theorem m_M_catches_ok : MOK (m_M_catches, 1, false) := ⟨tt_at 1618 rfl rfl, tt_at 85 rfl rfl, by decide +kernel, by decide +kernel, by decide +kernel, ⟨tt_at 1616 rfl rfl, tt_at 1617 rfl rfl⟩, by decide +kernel, by decide, rfl⟩
set_option maxRecDepth 100000 in
theorem m_M_count_ok : MOK (m_M_count, 1, false) := ⟨tt_at 1622 rfl rfl, tt_at 85 rfl rfl, by decide +kernel, by decide +kernel, by decide +kernel, ⟨tt_at 1620 rfl rfl, tt_at 1621 rfl rfl⟩, by decide +kernel, by decide, rfl⟩
set_option maxRecDepth 100000 in
theorem m_M_barredFinds_ok : MOK (m_M_barredFinds, 0, false) := ⟨tt_at 1626 rfl rfl, tt_at 85 rfl rfl, by decide +kernel, by decide +kernel, by decide +kernel, ⟨tt_at 1625 rfl rfl, tt_at 71 rfl rfl⟩, by decide +kernel, by decide, rfl⟩
set_option maxRecDepth 100000 in
theorem m_Integer_bitCount_ok : MOK (m_Integer_bitCount, 1, true) := ⟨tt_at 848 rfl rfl, tt_at 92 rfl rfl, by decide +kernel, by decide +kernel, by decide +kernel, tt_at 847 rfl rfl, by decide +kernel, by decide, rfl⟩
set_option maxRecDepth 100000 in
theorem m_Long_bitCount_ok : MOK (m_Long_bitCount, 1, true) := ⟨tt_at 948 rfl rfl, tt_at 94 rfl rfl, by decide +kernel, by decide +kernel, by decide +kernel, tt_at 947 rfl rfl, by decide +kernel, by decide, rfl⟩
set_option maxRecDepth 100000 in
theorem m_Arrays_fill_ok : MOK (m_Arrays_fill, 2, true) := ⟨tt_at 895 rfl rfl, tt_at 93 rfl rfl, by decide +kernel, by decide +kernel, by decide +kernel, tt_at 894 rfl rfl, by decide +kernel, by decide, rfl⟩
set_option maxRecDepth 100000 in
theorem m_String_length_ok : MOK (m_String_length, 0, false) := ⟨tt_at 573 rfl rfl, tt_at 87 rfl rfl, by decide +kernel, by decide +kernel, by decide +kernel, ⟨tt_at 571 rfl rfl, tt_at 572 rfl rfl⟩, by decide +kernel, by decide, rfl⟩
set_option maxRecDepth 100000 in
theorem m_String_charAt_ok : MOK (m_String_charAt, 1, false) := ⟨tt_at 583 rfl rfl, tt_at 87 rfl rfl, by decide +kernel, by decide +kernel, by decide +kernel, ⟨tt_at 581 rfl rfl, tt_at 582 rfl rfl⟩, by decide +kernel, by decide, rfl⟩
set_option maxRecDepth 100000 in
theorem MT_ok : ∀ q ∈ MT, MOK q := List.forall_mem_cons.mpr ⟨m_BestSet_setCaught_ok, List.forall_mem_cons.mpr ⟨m_BestSet_choose_ok, List.forall_mem_cons.mpr ⟨m_BestSet_tryFrom_ok, List.forall_mem_cons.mpr ⟨m_BestSet_weigh_ok, List.forall_mem_cons.mpr ⟨m_Book_clear_ok, List.forall_mem_cons.mpr ⟨m_Book_become_ok, List.forall_mem_cons.mpr ⟨m_Book_openRule_ok, List.forall_mem_cons.mpr ⟨m_Book_openRuleHas_ok, List.forall_mem_cons.mpr ⟨m_Book_addItem_ok, List.forall_mem_cons.mpr ⟨m_Book_closeRule_ok, List.forall_mem_cons.mpr ⟨m_Book_addBar_ok, List.forall_mem_cons.mpr ⟨m_Book_addChain_ok, List.forall_mem_cons.mpr ⟨m_Book_addSingle_ok, List.forall_mem_cons.mpr ⟨m_Book_rules_ok, List.forall_mem_cons.mpr ⟨m_Book_bars_ok, List.forall_mem_cons.mpr ⟨m_Book_chains_ok, List.forall_mem_cons.mpr ⟨m_Book_hasRule_ok, List.forall_mem_cons.mpr ⟨m_Book_relationOf_ok, List.forall_mem_cons.mpr ⟨m_Book_itemsOf_ok, List.forall_mem_cons.mpr ⟨m_Book_leftItem_ok, List.forall_mem_cons.mpr ⟨m_Book_rightItem_ok, List.forall_mem_cons.mpr ⟨m_Book_kindOf_ok, List.forall_mem_cons.mpr ⟨m_Book_numberOf_ok, List.forall_mem_cons.mpr ⟨m_Book_hasItem_ok, List.forall_mem_cons.mpr ⟨m_Book_isBarred_ok, List.forall_mem_cons.mpr ⟨m_Book_chainGoal_ok, List.forall_mem_cons.mpr ⟨m_Book_chainFirst_ok, List.forall_mem_cons.mpr ⟨m_Book_chainSecond_ok, List.forall_mem_cons.mpr ⟨m_Book_isSingle_ok, List.forall_mem_cons.mpr ⟨m_Finder_forget_ok, List.forall_mem_cons.mpr ⟨m_Finder_forgetThoseWith_ok, List.forall_mem_cons.mpr ⟨m_Finder_forgetAll_ok, List.forall_mem_cons.mpr ⟨m_Finder_refresh_ok, List.forall_mem_cons.mpr ⟨m_Finder_drawSentence_ok, List.forall_mem_cons.mpr ⟨m_Finder_clearSentence_ok, List.forall_mem_cons.mpr ⟨m_Finder_hasBarredWord_ok, List.forall_mem_cons.mpr ⟨m_Finder_drawRule_ok, List.forall_mem_cons.mpr ⟨m_Finder_fitItems_ok, List.forall_mem_cons.mpr ⟨m_Finder_placesOf_ok, List.forall_mem_cons.mpr ⟨m_Finder_forward_ok, List.forall_mem_cons.mpr ⟨m_Finder_backward_ok, List.forall_mem_cons.mpr ⟨m_Finder_keepPairs_ok, List.forall_mem_cons.mpr ⟨m_Finder_countPairs_ok, List.forall_mem_cons.mpr ⟨m_Finder_rightPlaces_ok, List.forall_mem_cons.mpr ⟨m_Finder_isBarred_ok, List.forall_mem_cons.mpr ⟨m_Finder_has_ok, List.forall_mem_cons.mpr ⟨m_Finder_total_ok, List.forall_mem_cons.mpr ⟨m_Finder_totalOfRule_ok, List.forall_mem_cons.mpr ⟨m_Finder_tellOf_ok, List.forall_mem_cons.mpr ⟨m_Finder_tellWithin_ok, List.forall_mem_cons.mpr ⟨m_Finder_part_ok, List.forall_mem_cons.mpr ⟨m_Lesson_study_ok, List.forall_mem_cons.mpr ⟨m_Lesson_begin_ok, List.forall_mem_cons.mpr ⟨m_Lesson_isLike_ok, List.forall_mem_cons.mpr ⟨m_Lesson_wordAt_ok, List.forall_mem_cons.mpr ⟨m_Lesson_widen_ok, List.forall_mem_cons.mpr ⟨m_Lesson_tellOf_ok, List.forall_mem_cons.mpr ⟨m_Lesson_roleOf_ok, List.forall_mem_cons.mpr ⟨m_Lesson_caught_ok, List.forall_mem_cons.mpr ⟨m_Lesson_standsAt_ok, List.forall_mem_cons.mpr ⟨m_Lexicon_has_ok, List.forall_mem_cons.mpr ⟨m_Lexicon_setSort_ok, List.forall_mem_cons.mpr ⟨m_Lexicon_sortOf_ok, List.forall_mem_cons.mpr ⟨m_Lexicon_link_ok, List.forall_mem_cons.mpr ⟨m_Lexicon_leadsTo_ok, List.forall_mem_cons.mpr ⟨m_Lexicon_nameOf_ok, List.forall_mem_cons.mpr ⟨m_Lexicon_fits_ok, List.forall_mem_cons.mpr ⟨m_Marks_put_ok, List.forall_mem_cons.mpr ⟨m_Marks_indexOf_ok, List.forall_mem_cons.mpr ⟨m_Marks_size_ok, List.forall_mem_cons.mpr ⟨m_Marks_isUsable_ok, List.forall_mem_cons.mpr ⟨m_Marks_sentenceOf_ok, List.forall_mem_cons.mpr ⟨m_Marks_leftOf_ok, List.forall_mem_cons.mpr ⟨m_Marks_rightOf_ok, List.forall_mem_cons.mpr ⟨m_Marks_caughtBy_ok, List.forall_mem_cons.mpr ⟨m_Marks_shareOf_ok, List.forall_mem_cons.mpr ⟨m_Reader_draft_ok, List.forall_mem_cons.mpr ⟨m_Reader_read_ok, List.forall_mem_cons.mpr ⟨m_Reader_readRule_ok, List.forall_mem_cons.mpr ⟨m_Reader_readItem_ok, List.forall_mem_cons.mpr ⟨m_Reader_isSpec_ok, List.forall_mem_cons.mpr ⟨m_Reader_readSpec_ok, List.forall_mem_cons.mpr ⟨m_Reader_readBar_ok, List.forall_mem_cons.mpr ⟨m_Reader_readChain_ok, List.forall_mem_cons.mpr ⟨m_Reader_readSingle_ok, List.forall_mem_cons.mpr ⟨m_Reader_readNumber_ok, List.forall_mem_cons.mpr ⟨m_Reader_readSign_ok, List.forall_mem_cons.mpr ⟨m_Reader_fail_ok, List.forall_mem_cons.mpr ⟨m_Sentences_tell_ok, List.forall_mem_cons.mpr ⟨m_Sentences_close_ok, List.forall_mem_cons.mpr ⟨m_Sentences_remove_ok, List.forall_mem_cons.mpr ⟨m_Sentences_isThere_ok, List.forall_mem_cons.mpr ⟨m_Sentences_lengthOf_ok, List.forall_mem_cons.mpr ⟨m_Sentences_wordAt_ok, List.forall_mem_cons.mpr ⟨m_Sentences_told_ok, List.forall_mem_cons.mpr ⟨m_Sentences_came_ok, List.forall_mem_cons.mpr ⟨m_Sentences_present_ok, List.forall_mem_cons.mpr ⟨m_Table_forget_ok, List.forall_mem_cons.mpr ⟨m_Table_refresh_ok, List.forall_mem_cons.mpr ⟨m_Table_addFindsOf_ok, List.forall_mem_cons.mpr ⟨m_Table_nameAt_ok, List.forall_mem_cons.mpr ⟨m_Table_addRow_ok, List.forall_mem_cons.mpr ⟨m_Table_followChains_ok, List.forall_mem_cons.mpr ⟨m_Table_followChain_ok, List.forall_mem_cons.mpr ⟨m_Table_followFrom_ok, List.forall_mem_cons.mpr ⟨m_Table_hasRow_ok, List.forall_mem_cons.mpr ⟨m_Table_degree_ok, List.forall_mem_cons.mpr ⟨m_Table_size_ok, List.forall_mem_cons.mpr ⟨m_Table_name_ok, List.forall_mem_cons.mpr ⟨m_Table_secondName_ok, List.forall_mem_cons.mpr ⟨m_Table_quarrelling_ok, List.forall_mem_cons.mpr ⟨m_Tape_put_ok, List.forall_mem_cons.mpr ⟨m_Tape_isKnown_ok, List.forall_mem_cons.mpr ⟨m_Tape_length_ok, List.forall_mem_cons.mpr ⟨m_Tape_at_ok, List.forall_mem_cons.mpr ⟨m_Tape_clear_ok, List.forall_mem_cons.mpr ⟨m_Tokens_scan_ok, List.forall_mem_cons.mpr ⟨m_Tokens_add_ok, List.forall_mem_cons.mpr ⟨m_Tokens_code_ok, List.forall_mem_cons.mpr ⟨m_Tokens_place_ok, List.forall_mem_cons.mpr ⟨m_Tokens_advance_ok, List.forall_mem_cons.mpr ⟨m_Tokens_goesOn_ok, List.forall_mem_cons.mpr ⟨m_Tokens_codeAt_ok, List.forall_mem_cons.mpr ⟨m_Tokens_numberCode_ok, List.forall_mem_cons.mpr ⟨m_Tokens_wordCode_ok, List.forall_mem_cons.mpr ⟨m_Tokens_sWordCode_ok, List.forall_mem_cons.mpr ⟨m_Tokens_stands_ok, List.forall_mem_cons.mpr ⟨m_Tokens_isBlank_ok, List.forall_mem_cons.mpr ⟨m_Tokens_isLetter_ok, List.forall_mem_cons.mpr ⟨m_Tokens_isDigit_ok, List.forall_mem_cons.mpr ⟨m_D_sort_ok, List.forall_mem_cons.mpr ⟨m_D_join_ok, List.forall_mem_cons.mpr ⟨m_D_word_ok, List.forall_mem_cons.mpr ⟨m_D_sentence_ok, List.forall_mem_cons.mpr ⟨m_D_take_ok, List.forall_mem_cons.mpr ⟨m_D_feed_ok, List.forall_mem_cons.mpr ⟨m_D_text_ok, List.forall_mem_cons.mpr ⟨m_D_finds_ok, List.forall_mem_cons.mpr ⟨m_D_find_ok, List.forall_mem_cons.mpr ⟨m_D_rows_ok, List.forall_mem_cons.mpr ⟨m_D_row_ok, List.forall_mem_cons.mpr ⟨m_D_quarrel_ok, List.forall_mem_cons.mpr ⟨m_D_mark_ok, List.forall_mem_cons.mpr ⟨m_D_best_ok, List.forall_mem_cons.mpr ⟨m_D_learn_ok, List.forall_mem_cons.mpr ⟨m_D_learnt_ok, List.forall_mem_cons.mpr ⟨m_D_catches_ok, List.forall_mem_cons.mpr ⟨m_D_named_ok, List.forall_mem_cons.mpr ⟨m_D_count_ok, List.forall_mem_cons.mpr ⟨m_D_isRelation_ok, List.forall_mem_cons.mpr ⟨m_M_thrown_ok, List.forall_mem_cons.mpr ⟨m_M_feed_ok, List.forall_mem_cons.mpr ⟨m_M_lay_ok, List.forall_mem_cons.mpr ⟨m_M_isLetter_ok, List.forall_mem_cons.mpr ⟨m_M_isDigit_ok, List.forall_mem_cons.mpr ⟨m_M_rank_ok, List.forall_mem_cons.mpr ⟨m_M_isSignOf_ok, List.forall_mem_cons.mpr ⟨m_M_cutAll_ok, List.forall_mem_cons.mpr ⟨m_M_wrong_ok, List.forall_mem_cons.mpr ⟨m_M_isSign_ok, List.forall_mem_cons.mpr ⟨m_M_isWord_ok, List.forall_mem_cons.mpr ⟨m_M_takeSign_ok, List.forall_mem_cons.mpr ⟨m_M_hasWord_ok, List.forall_mem_cons.mpr ⟨m_M_takeWord_ok, List.forall_mem_cons.mpr ⟨m_M_takeNumber_ok, List.forall_mem_cons.mpr ⟨m_M_text_ok, List.forall_mem_cons.mpr ⟨m_M_statement_ok, List.forall_mem_cons.mpr ⟨m_M_readChain_ok, List.forall_mem_cons.mpr ⟨m_M_readRule_ok, List.forall_mem_cons.mpr ⟨m_M_isItem_ok, List.forall_mem_cons.mpr ⟨m_M_item_ok, List.forall_mem_cons.mpr ⟨m_M_spec_ok, List.forall_mem_cons.mpr ⟨m_M_isOne_ok, List.forall_mem_cons.mpr ⟨m_M_sort_ok, List.forall_mem_cons.mpr ⟨m_M_nameOf_ok, List.forall_mem_cons.mpr ⟨m_M_join_ok, List.forall_mem_cons.mpr ⟨m_M_named_ok, List.forall_mem_cons.mpr ⟨m_M_word_ok, List.forall_mem_cons.mpr ⟨m_M_sentence_ok, List.forall_mem_cons.mpr ⟨m_M_isThere_ok, List.forall_mem_cons.mpr ⟨m_M_take_ok, List.forall_mem_cons.mpr ⟨m_M_fits_ok, List.forall_mem_cons.mpr ⟨m_M_findOf_ok, List.forall_mem_cons.mpr ⟨m_M_findAll_ok, List.forall_mem_cons.mpr ⟨m_M_matches_ok, List.forall_mem_cons.mpr ⟨m_M_goes_ok, List.forall_mem_cons.mpr ⟨m_M_isBarred_ok, List.forall_mem_cons.mpr ⟨m_M_finds_ok, List.forall_mem_cons.mpr ⟨m_M_find_ok, List.forall_mem_cons.mpr ⟨m_M_findRows_ok, List.forall_mem_cons.mpr ⟨m_M_joins_ok, List.forall_mem_cons.mpr ⟨m_M_isR_ok, List.forall_mem_cons.mpr ⟨m_M_rows_ok, List.forall_mem_cons.mpr ⟨m_M_row_ok, List.forall_mem_cons.mpr ⟨m_M_quarrel_ok, List.forall_mem_cons.mpr ⟨m_M_mark_ok, List.forall_mem_cons.mpr ⟨m_M_catchesMark_ok, List.forall_mem_cons.mpr ⟨m_M_caught_ok, List.forall_mem_cons.mpr ⟨m_M_rule_ok, List.forall_mem_cons.mpr ⟨m_M_bits_ok, List.forall_mem_cons.mpr ⟨m_M_best_ok, List.forall_mem_cons.mpr ⟨m_M_isLike_ok, List.forall_mem_cons.mpr ⟨m_M_least_ok, List.forall_mem_cons.mpr ⟨m_M_wordAt_ok, List.forall_mem_cons.mpr ⟨m_M_learn_ok, List.forall_mem_cons.mpr ⟨m_M_learnt_ok, List.forall_mem_cons.mpr ⟨m_M_catches_ok, List.forall_mem_cons.mpr ⟨m_M_count_ok, List.forall_mem_cons.mpr ⟨m_M_barredFinds_ok, List.forall_mem_cons.mpr ⟨m_Integer_bitCount_ok, List.forall_mem_cons.mpr ⟨m_Long_bitCount_ok, List.forall_mem_cons.mpr ⟨m_Arrays_fill_ok, List.forall_mem_cons.mpr ⟨m_String_length_ok, List.forall_mem_cons.mpr ⟨m_String_charAt_ok, fun _ h => absurd h List.not_mem_nil⟩⟩⟩⟩⟩⟩⟩⟩⟩⟩⟩⟩⟩⟩⟩⟩⟩⟩⟩⟩⟩⟩⟩⟩⟩⟩⟩⟩⟩⟩⟩⟩⟩⟩⟩⟩⟩⟩⟩⟩⟩⟩⟩⟩⟩⟩⟩⟩⟩⟩⟩⟩⟩⟩⟩⟩⟩⟩⟩⟩⟩⟩⟩⟩⟩⟩⟩⟩⟩⟩⟩⟩⟩⟩⟩⟩⟩⟩⟩⟩⟩⟩⟩⟩⟩⟩⟩⟩⟩⟩⟩⟩⟩⟩⟩⟩⟩⟩⟩⟩⟩⟩⟩⟩⟩⟩⟩⟩⟩⟩⟩⟩⟩⟩⟩⟩⟩⟩⟩⟩⟩⟩⟩⟩⟩⟩⟩⟩⟩⟩⟩⟩⟩⟩⟩⟩⟩⟩⟩⟩⟩⟩⟩⟩⟩⟩⟩⟩⟩⟩⟩⟩⟩⟩⟩⟩⟩⟩⟩⟩⟩⟩⟩⟩⟩⟩⟩⟩⟩⟩⟩⟩⟩⟩⟩⟩⟩⟩⟩⟩⟩⟩⟩⟩⟩⟩⟩⟩⟩⟩⟩⟩⟩⟩⟩⟩⟩⟩⟩⟩⟩⟩⟩⟩⟩⟩⟩⟩⟩⟩⟩⟩⟩⟩
