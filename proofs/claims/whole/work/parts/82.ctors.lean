set_option maxRecDepth 100000
theorem df0 : ∀ j, j < 6 → defaultValue (tyX0 j) = vp_V [.null, .null, .int 0, .int 0, .int 0, .int 0] j := by decide +kernel
theorem df1 : ∀ j, j < 14 → defaultValue (tyX1 j) = vp_V [.int 0, .null, .null, .null, .null, .null, .null, .int 0, .null, .int 0, .null, .null, .null, .int 0] j := by decide +kernel
theorem df2 : ∀ j, j < 8 → defaultValue (tyX2 j) = vp_V [.null, .null, .null, .null, .null, .null, .null, .null] j := by decide +kernel
theorem df3 : ∀ j, j < 8 → defaultValue (tyX3 j) = vp_V [.null, .null, .null, .null, .null, .int 0, .int 0, .int 0] j := by decide +kernel
theorem df4 : ∀ j, j < 2 → defaultValue (tyX4 j) = vp_V [.null, .null] j := by decide +kernel
theorem df5 : ∀ j, j < 9 → defaultValue (tyX5 j) = vp_V [.null, .null, .null, .null, .null, .null, .null, .null, .int 0] j := by decide +kernel
theorem df6 : ∀ j, j < 4 → defaultValue (tyX6 j) = vp_V [.null, .null, .null, .int 0] j := by decide +kernel
theorem df7 : ∀ j, j < 7 → defaultValue (tyX7 j) = vp_V [.null, .null, .null, .null, .int 0, .int 0, .int 0] j := by decide +kernel
theorem df8 : ∀ j, j < 7 → defaultValue (tyX8 j) = vp_V [.null, .null, .null, .null, .null, .null, .int 0] j := by decide +kernel
theorem df9 : ∀ j, j < 2 → defaultValue (tyX9 j) = vp_V [.null, .int 0] j := by decide +kernel
theorem df10 : ∀ j, j < 4 → defaultValue (tyX10 j) = vp_V [.null, .null, .int 0, .int 0] j := by decide +kernel
theorem df11 : ∀ j, j < 10 → defaultValue (tyX11 j) = vp_V [.null, .null, .null, .null, .null, .null, .null, .null, .null, .null] j := by decide +kernel
theorem df12 : ∀ j, j < 52 → defaultValue (tyX12 j) = vp_V [.int 0, .null, .int 0, .int 0, .null, .null, .null, .int 0, .int 0, .null, .int 0, .int 0, .null, .null, .null, .null, .null, .null, .null, .null, .null, .null, .null, .null, .int 0, .int 0, .null, .null, .int 0, .null, .int 0, .null, .null, .null, .int 0, .null, .null, .null, .null, .int 0, .null, .null, .null, .null, .null, .null, .null, .int 0, .int 0, .int 0, .null, .null] j := by decide +kernel
def lwf (xs : List Int64) : Nat → Int64 := fun j => xs.getD j 0
def N_lex (cA : FieldType → ClassId) (b : Nat) : List va_E := .inr (4, [.ref (b + 1), .ref (b + 2)]) :: (([] ++ [arrE cA .int 101]) ++ [arrE cA .int 101])
set_option maxHeartbeats 2000000 in
theorem ci_lex {l : Launch} {G : va_G} {cA : FieldType → ClassId} {b : Nat} : CM l ⟨"RowDrawer$Lexicon", "<init>", "()V"⟩ prog_6_method_1_code 1 1 2 202 G cA b [.ref b] [.inr (4, [.null, .null])] (N_lex cA b) := by
  refine CM.of (by decide +kernel) rfl (Nat.le_of_ble_eq_true rfl) ?_
  intro p e s m below meth c S hF hin hr hlk hs0
  have hs0 : s.heap.size = b + 1 := hs0
  refine k_aload_n (k := 0) (x := b) S (by decide +kernel) rfl ?_
  refine k_obj S (tt_at 112 rfl rfl) (by decide +kernel) (Nat.le_of_ble_eq_true rfl) (Nat.le_of_ble_eq_true rfl) rfl ?_
  refine k_aload_n (k := 0) (x := b) S (by decide +kernel) rfl ?_
  refine k_bipush (n := 101) S (by decide) (by decide) (by decide +kernel) ?_
  refine k_newa' (at' := .int) (ty := .int) (N := 101) (a := b + 1) S hF rfl (Or.inl rfl) (by decide) (by decide) (Nat.le_of_lt (by rw [hs0]; exact Nat.lt_succ_self b)) (by rw [hs0]; rfl) (Nat.le_of_ble_eq_true rfl) (Nat.le_of_ble_eq_true rfl) (by decide +kernel) rfl ?_
  refine k_put (j := 0) (fs' := [.ref (b + 1), .null]) S hF hin cd4 (Nat.le_of_ble_eq_true rfl) (tt_at 113 rfl rfl) rfl rfl rfl rfl (Nat.le_of_ble_eq_true rfl) rfl (by decide +kernel) ?_
  refine k_aload_n (k := 0) (x := b) S (by decide +kernel) rfl ?_
  refine k_bipush (n := 101) S (by decide) (by decide) (by decide +kernel) ?_
  refine k_newa' (at' := .int) (ty := .int) (N := 101) (a := b + 2) S hF rfl (Or.inl rfl) (by decide) (by decide) (Nat.le_of_lt (by rw [hs0]; exact Nat.lt_succ_self b)) (by rw [hs0]; rfl) (Nat.le_of_ble_eq_true rfl) (Nat.le_of_ble_eq_true rfl) (by decide +kernel) rfl ?_
  refine k_put (j := 1) (fs' := [.ref (b + 1), .ref (b + 2)]) S hF hin cd4 (Nat.le_of_ble_eq_true rfl) (tt_at 114 rfl rfl) rfl rfl rfl rfl (Nat.le_of_ble_eq_true rfl) rfl (by decide +kernel) ?_
  exact k_ret S hr hlk (by decide +kernel)
def N_sen (cA : FieldType → ClassId) (b : Nat) : List va_E := .inr (7, [.ref (b + 1), .ref (b + 2), .ref (b + 3), .ref (b + 4), .int 0, .int 0, .int 0]) :: (((([] ++ [arrE cA .int 640]) ++ [arrE cA .int 40]) ++ [arrE cA .boolean 40]) ++ [arrE cA .int 16])
set_option maxHeartbeats 2000000 in
theorem ci_sen {l : Launch} {G : va_G} {cA : FieldType → ClassId} {b : Nat} : CM l ⟨"RowDrawer$Sentences", "<init>", "()V"⟩ prog_9_method_1_code 1 1 4 736 G cA b [.ref b] [.inr (7, [.null, .null, .null, .null, .int 0, .int 0, .int 0])] (N_sen cA b) := by
  refine CM.of (by decide +kernel) rfl (Nat.le_of_ble_eq_true rfl) ?_
  intro p e s m below meth c S hF hin hr hlk hs0
  have hs0 : s.heap.size = b + 1 := hs0
  refine k_aload_n (k := 0) (x := b) S (by decide +kernel) rfl ?_
  refine k_obj S (tt_at 126 rfl rfl) (by decide +kernel) (Nat.le_of_ble_eq_true rfl) (Nat.le_of_ble_eq_true rfl) rfl ?_
  refine k_aload_n (k := 0) (x := b) S (by decide +kernel) rfl ?_
  refine k_sipush (n := 640) S (by decide) (by decide) (by decide +kernel) ?_
  refine k_newa' (at' := .int) (ty := .int) (N := 640) (a := b + 1) S hF rfl (Or.inl rfl) (by decide) (by decide) (Nat.le_of_lt (by rw [hs0]; exact Nat.lt_succ_self b)) (by rw [hs0]; rfl) (Nat.le_of_ble_eq_true rfl) (Nat.le_of_ble_eq_true rfl) (by decide +kernel) rfl ?_
  refine k_put (j := 0) (fs' := [.ref (b + 1), .null, .null, .null, .int 0, .int 0, .int 0]) S hF hin cd7 (Nat.le_of_ble_eq_true rfl) (tt_at 127 rfl rfl) rfl rfl rfl rfl (Nat.le_of_ble_eq_true rfl) rfl (by decide +kernel) ?_
  refine k_aload_n (k := 0) (x := b) S (by decide +kernel) rfl ?_
  refine k_bipush (n := 40) S (by decide) (by decide) (by decide +kernel) ?_
  refine k_newa' (at' := .int) (ty := .int) (N := 40) (a := b + 2) S hF rfl (Or.inl rfl) (by decide) (by decide) (Nat.le_of_lt (by rw [hs0]; exact Nat.lt_succ_self b)) (by rw [hs0]; rfl) (Nat.le_of_ble_eq_true rfl) (Nat.le_of_ble_eq_true rfl) (by decide +kernel) rfl ?_
  refine k_put (j := 1) (fs' := [.ref (b + 1), .ref (b + 2), .null, .null, .int 0, .int 0, .int 0]) S hF hin cd7 (Nat.le_of_ble_eq_true rfl) (tt_at 128 rfl rfl) rfl rfl rfl rfl (Nat.le_of_ble_eq_true rfl) rfl (by decide +kernel) ?_
  refine k_aload_n (k := 0) (x := b) S (by decide +kernel) rfl ?_
  refine k_bipush (n := 40) S (by decide) (by decide) (by decide +kernel) ?_
  refine k_newa' (at' := .boolean) (ty := .boolean) (N := 40) (a := b + 3) S hF rfl (Or.inr (Or.inl rfl)) (by decide) (by decide) (Nat.le_of_lt (by rw [hs0]; exact Nat.lt_succ_self b)) (by rw [hs0]; rfl) (Nat.le_of_ble_eq_true rfl) (Nat.le_of_ble_eq_true rfl) (by decide +kernel) rfl ?_
  refine k_put (j := 2) (fs' := [.ref (b + 1), .ref (b + 2), .ref (b + 3), .null, .int 0, .int 0, .int 0]) S hF hin cd7 (Nat.le_of_ble_eq_true rfl) (tt_at 129 rfl rfl) rfl rfl rfl rfl (Nat.le_of_ble_eq_true rfl) rfl (by decide +kernel) ?_
  refine k_aload_n (k := 0) (x := b) S (by decide +kernel) rfl ?_
  refine k_bipush (n := 16) S (by decide) (by decide) (by decide +kernel) ?_
  refine k_newa' (at' := .int) (ty := .int) (N := 16) (a := b + 4) S hF rfl (Or.inl rfl) (by decide) (by decide) (Nat.le_of_lt (by rw [hs0]; exact Nat.lt_succ_self b)) (by rw [hs0]; rfl) (Nat.le_of_ble_eq_true rfl) (Nat.le_of_ble_eq_true rfl) (by decide +kernel) rfl ?_
  refine k_put (j := 3) (fs' := [.ref (b + 1), .ref (b + 2), .ref (b + 3), .ref (b + 4), .int 0, .int 0, .int 0]) S hF hin cd7 (Nat.le_of_ble_eq_true rfl) (tt_at 130 rfl rfl) rfl rfl rfl rfl (Nat.le_of_ble_eq_true rfl) rfl (by decide +kernel) ?_
  exact k_ret S hr hlk (by decide +kernel)
def N_tap (cA : FieldType → ClassId) (b : Nat) : List va_E := .inr (9, [.ref (b + 1), .int 0]) :: ([] ++ [arrE cA .char 1200])
set_option maxHeartbeats 2000000 in
theorem ci_tap {l : Launch} {G : va_G} {cA : FieldType → ClassId} {b : Nat} : CM l ⟨"RowDrawer$Tape", "<init>", "()V"⟩ prog_11_method_1_code 1 1 1 1200 G cA b [.ref b] [.inr (9, [.null, .int 0])] (N_tap cA b) := by
  refine CM.of (by decide +kernel) rfl (Nat.le_of_ble_eq_true rfl) ?_
  intro p e s m below meth c S hF hin hr hlk hs0
  have hs0 : s.heap.size = b + 1 := hs0
  refine k_aload_n (k := 0) (x := b) S (by decide +kernel) rfl ?_
  refine k_obj S (tt_at 155 rfl rfl) (by decide +kernel) (Nat.le_of_ble_eq_true rfl) (Nat.le_of_ble_eq_true rfl) rfl ?_
  refine k_aload_n (k := 0) (x := b) S (by decide +kernel) rfl ?_
  refine k_sipush (n := 1200) S (by decide) (by decide) (by decide +kernel) ?_
  refine k_newa' (at' := .char) (ty := .char) (N := 1200) (a := b + 1) S hF rfl (Or.inr (Or.inr (Or.inl rfl))) (by decide) (by decide) (Nat.le_of_lt (by rw [hs0]; exact Nat.lt_succ_self b)) (by rw [hs0]; rfl) (Nat.le_of_ble_eq_true rfl) (Nat.le_of_ble_eq_true rfl) (by decide +kernel) rfl ?_
  refine k_put (j := 0) (fs' := [.ref (b + 1), .int 0]) S hF hin cd9 (Nat.le_of_ble_eq_true rfl) (tt_at 156 rfl rfl) rfl rfl rfl rfl (Nat.le_of_ble_eq_true rfl) rfl (by decide +kernel) ?_
  exact k_ret S hr hlk (by decide +kernel)
def N_tok (cA : FieldType → ClassId) (b : Nat) : List va_E := .inr (10, [.ref (b + 1), .ref (b + 2), .int 0, .int 0]) :: (([] ++ [arrE cA .int 1201]) ++ [arrE cA .int 1201])
set_option maxHeartbeats 2000000 in
theorem ci_tok {l : Launch} {G : va_G} {cA : FieldType → ClassId} {b : Nat} : CM l ⟨"RowDrawer$Tokens", "<init>", "()V"⟩ prog_12_method_1_code 1 1 2 2402 G cA b [.ref b] [.inr (10, [.null, .null, .int 0, .int 0])] (N_tok cA b) := by
  refine CM.of (by decide +kernel) rfl (Nat.le_of_ble_eq_true rfl) ?_
  intro p e s m below meth c S hF hin hr hlk hs0
  have hs0 : s.heap.size = b + 1 := hs0
  refine k_aload_n (k := 0) (x := b) S (by decide +kernel) rfl ?_
  refine k_obj S (tt_at 175 rfl rfl) (by decide +kernel) (Nat.le_of_ble_eq_true rfl) (Nat.le_of_ble_eq_true rfl) rfl ?_
  refine k_aload_n (k := 0) (x := b) S (by decide +kernel) rfl ?_
  refine k_sipush (n := 1201) S (by decide) (by decide) (by decide +kernel) ?_
  refine k_newa' (at' := .int) (ty := .int) (N := 1201) (a := b + 1) S hF rfl (Or.inl rfl) (by decide) (by decide) (Nat.le_of_lt (by rw [hs0]; exact Nat.lt_succ_self b)) (by rw [hs0]; rfl) (Nat.le_of_ble_eq_true rfl) (Nat.le_of_ble_eq_true rfl) (by decide +kernel) rfl ?_
  refine k_put (j := 0) (fs' := [.ref (b + 1), .null, .int 0, .int 0]) S hF hin cd10 (Nat.le_of_ble_eq_true rfl) (tt_at 176 rfl rfl) rfl rfl rfl rfl (Nat.le_of_ble_eq_true rfl) rfl (by decide +kernel) ?_
  refine k_aload_n (k := 0) (x := b) S (by decide +kernel) rfl ?_
  refine k_sipush (n := 1201) S (by decide) (by decide) (by decide +kernel) ?_
  refine k_newa' (at' := .int) (ty := .int) (N := 1201) (a := b + 2) S hF rfl (Or.inl rfl) (by decide) (by decide) (Nat.le_of_lt (by rw [hs0]; exact Nat.lt_succ_self b)) (by rw [hs0]; rfl) (Nat.le_of_ble_eq_true rfl) (Nat.le_of_ble_eq_true rfl) (by decide +kernel) rfl ?_
  refine k_put (j := 1) (fs' := [.ref (b + 1), .ref (b + 2), .int 0, .int 0]) S hF hin cd10 (Nat.le_of_ble_eq_true rfl) (tt_at 177 rfl rfl) rfl rfl rfl rfl (Nat.le_of_ble_eq_true rfl) rfl (by decide +kernel) ?_
  exact k_ret S hr hlk (by decide +kernel)
def N_bok (cA : FieldType → ClassId) (b : Nat) : List va_E := .inr (1, [.int 0, .ref (b + 1), .ref (b + 2), .ref (b + 3), .ref (b + 4), .ref (b + 5), .ref (b + 6), .int 0, .ref (b + 7), .int 0, .ref (b + 8), .ref (b + 9), .ref (b + 10), .int 0]) :: (((((((((([] ++ [arrE cA .int 12]) ++ [arrE cA .int 12]) ++ [arrE cA .int 12]) ++ [arrE cA .int 12]) ++ [arrE cA .int 120]) ++ [arrE cA .int 120]) ++ [arrE cA .int 10]) ++ [arrE cA .int 6]) ++ [arrE cA .int 6]) ++ [arrE cA .int 6])
set_option maxHeartbeats 2000000 in
theorem ci_bok {l : Launch} {G : va_G} {cA : FieldType → ClassId} {b : Nat} : CM l ⟨"RowDrawer$Book", "<init>", "()V"⟩ prog_3_method_1_code 1 1 10 316 G cA b [.ref b] [.inr (1, [.int 0, .null, .null, .null, .null, .null, .null, .int 0, .null, .int 0, .null, .null, .null, .int 0])] (N_bok cA b) := by
  refine CM.of (by decide +kernel) rfl (Nat.le_of_ble_eq_true rfl) ?_
  intro p e s m below meth c S hF hin hr hlk hs0
  have hs0 : s.heap.size = b + 1 := hs0
  refine k_aload_n (k := 0) (x := b) S (by decide +kernel) rfl ?_
  refine k_obj S (tt_at 194 rfl rfl) (by decide +kernel) (Nat.le_of_ble_eq_true rfl) (Nat.le_of_ble_eq_true rfl) rfl ?_
  refine k_aload_n (k := 0) (x := b) S (by decide +kernel) rfl ?_
  refine k_bipush (n := 12) S (by decide) (by decide) (by decide +kernel) ?_
  refine k_newa' (at' := .int) (ty := .int) (N := 12) (a := b + 1) S hF rfl (Or.inl rfl) (by decide) (by decide) (Nat.le_of_lt (by rw [hs0]; exact Nat.lt_succ_self b)) (by rw [hs0]; rfl) (Nat.le_of_ble_eq_true rfl) (Nat.le_of_ble_eq_true rfl) (by decide +kernel) rfl ?_
  refine k_put (j := 1) (fs' := [.int 0, .ref (b + 1), .null, .null, .null, .null, .null, .int 0, .null, .int 0, .null, .null, .null, .int 0]) S hF hin cd1 (Nat.le_of_ble_eq_true rfl) (tt_at 196 rfl rfl) rfl rfl rfl rfl (Nat.le_of_ble_eq_true rfl) rfl (by decide +kernel) ?_
  refine k_aload_n (k := 0) (x := b) S (by decide +kernel) rfl ?_
  refine k_bipush (n := 12) S (by decide) (by decide) (by decide +kernel) ?_
  refine k_newa' (at' := .int) (ty := .int) (N := 12) (a := b + 2) S hF rfl (Or.inl rfl) (by decide) (by decide) (Nat.le_of_lt (by rw [hs0]; exact Nat.lt_succ_self b)) (by rw [hs0]; rfl) (Nat.le_of_ble_eq_true rfl) (Nat.le_of_ble_eq_true rfl) (by decide +kernel) rfl ?_
  refine k_put (j := 2) (fs' := [.int 0, .ref (b + 1), .ref (b + 2), .null, .null, .null, .null, .int 0, .null, .int 0, .null, .null, .null, .int 0]) S hF hin cd1 (Nat.le_of_ble_eq_true rfl) (tt_at 197 rfl rfl) rfl rfl rfl rfl (Nat.le_of_ble_eq_true rfl) rfl (by decide +kernel) ?_
  refine k_aload_n (k := 0) (x := b) S (by decide +kernel) rfl ?_
  refine k_bipush (n := 12) S (by decide) (by decide) (by decide +kernel) ?_
  refine k_newa' (at' := .int) (ty := .int) (N := 12) (a := b + 3) S hF rfl (Or.inl rfl) (by decide) (by decide) (Nat.le_of_lt (by rw [hs0]; exact Nat.lt_succ_self b)) (by rw [hs0]; rfl) (Nat.le_of_ble_eq_true rfl) (Nat.le_of_ble_eq_true rfl) (by decide +kernel) rfl ?_
  refine k_put (j := 3) (fs' := [.int 0, .ref (b + 1), .ref (b + 2), .ref (b + 3), .null, .null, .null, .int 0, .null, .int 0, .null, .null, .null, .int 0]) S hF hin cd1 (Nat.le_of_ble_eq_true rfl) (tt_at 198 rfl rfl) rfl rfl rfl rfl (Nat.le_of_ble_eq_true rfl) rfl (by decide +kernel) ?_
  refine k_aload_n (k := 0) (x := b) S (by decide +kernel) rfl ?_
  refine k_bipush (n := 12) S (by decide) (by decide) (by decide +kernel) ?_
  refine k_newa' (at' := .int) (ty := .int) (N := 12) (a := b + 4) S hF rfl (Or.inl rfl) (by decide) (by decide) (Nat.le_of_lt (by rw [hs0]; exact Nat.lt_succ_self b)) (by rw [hs0]; rfl) (Nat.le_of_ble_eq_true rfl) (Nat.le_of_ble_eq_true rfl) (by decide +kernel) rfl ?_
  refine k_put (j := 4) (fs' := [.int 0, .ref (b + 1), .ref (b + 2), .ref (b + 3), .ref (b + 4), .null, .null, .int 0, .null, .int 0, .null, .null, .null, .int 0]) S hF hin cd1 (Nat.le_of_ble_eq_true rfl) (tt_at 199 rfl rfl) rfl rfl rfl rfl (Nat.le_of_ble_eq_true rfl) rfl (by decide +kernel) ?_
  refine k_aload_n (k := 0) (x := b) S (by decide +kernel) rfl ?_
  refine k_bipush (n := 120) S (by decide) (by decide) (by decide +kernel) ?_
  refine k_newa' (at' := .int) (ty := .int) (N := 120) (a := b + 5) S hF rfl (Or.inl rfl) (by decide) (by decide) (Nat.le_of_lt (by rw [hs0]; exact Nat.lt_succ_self b)) (by rw [hs0]; rfl) (Nat.le_of_ble_eq_true rfl) (Nat.le_of_ble_eq_true rfl) (by decide +kernel) rfl ?_
  refine k_put (j := 5) (fs' := [.int 0, .ref (b + 1), .ref (b + 2), .ref (b + 3), .ref (b + 4), .ref (b + 5), .null, .int 0, .null, .int 0, .null, .null, .null, .int 0]) S hF hin cd1 (Nat.le_of_ble_eq_true rfl) (tt_at 200 rfl rfl) rfl rfl rfl rfl (Nat.le_of_ble_eq_true rfl) rfl (by decide +kernel) ?_
  refine k_aload_n (k := 0) (x := b) S (by decide +kernel) rfl ?_
  refine k_bipush (n := 120) S (by decide) (by decide) (by decide +kernel) ?_
  refine k_newa' (at' := .int) (ty := .int) (N := 120) (a := b + 6) S hF rfl (Or.inl rfl) (by decide) (by decide) (Nat.le_of_lt (by rw [hs0]; exact Nat.lt_succ_self b)) (by rw [hs0]; rfl) (Nat.le_of_ble_eq_true rfl) (Nat.le_of_ble_eq_true rfl) (by decide +kernel) rfl ?_
  refine k_put (j := 6) (fs' := [.int 0, .ref (b + 1), .ref (b + 2), .ref (b + 3), .ref (b + 4), .ref (b + 5), .ref (b + 6), .int 0, .null, .int 0, .null, .null, .null, .int 0]) S hF hin cd1 (Nat.le_of_ble_eq_true rfl) (tt_at 201 rfl rfl) rfl rfl rfl rfl (Nat.le_of_ble_eq_true rfl) rfl (by decide +kernel) ?_
  refine k_aload_n (k := 0) (x := b) S (by decide +kernel) rfl ?_
  refine k_bipush (n := 10) S (by decide) (by decide) (by decide +kernel) ?_
  refine k_newa' (at' := .int) (ty := .int) (N := 10) (a := b + 7) S hF rfl (Or.inl rfl) (by decide) (by decide) (Nat.le_of_lt (by rw [hs0]; exact Nat.lt_succ_self b)) (by rw [hs0]; rfl) (Nat.le_of_ble_eq_true rfl) (Nat.le_of_ble_eq_true rfl) (by decide +kernel) rfl ?_
  refine k_put (j := 8) (fs' := [.int 0, .ref (b + 1), .ref (b + 2), .ref (b + 3), .ref (b + 4), .ref (b + 5), .ref (b + 6), .int 0, .ref (b + 7), .int 0, .null, .null, .null, .int 0]) S hF hin cd1 (Nat.le_of_ble_eq_true rfl) (tt_at 203 rfl rfl) rfl rfl rfl rfl (Nat.le_of_ble_eq_true rfl) rfl (by decide +kernel) ?_
  refine k_aload_n (k := 0) (x := b) S (by decide +kernel) rfl ?_
  refine k_bipush (n := 6) S (by decide) (by decide) (by decide +kernel) ?_
  refine k_newa' (at' := .int) (ty := .int) (N := 6) (a := b + 8) S hF rfl (Or.inl rfl) (by decide) (by decide) (Nat.le_of_lt (by rw [hs0]; exact Nat.lt_succ_self b)) (by rw [hs0]; rfl) (Nat.le_of_ble_eq_true rfl) (Nat.le_of_ble_eq_true rfl) (by decide +kernel) rfl ?_
  refine k_put (j := 10) (fs' := [.int 0, .ref (b + 1), .ref (b + 2), .ref (b + 3), .ref (b + 4), .ref (b + 5), .ref (b + 6), .int 0, .ref (b + 7), .int 0, .ref (b + 8), .null, .null, .int 0]) S hF hin cd1 (Nat.le_of_ble_eq_true rfl) (tt_at 205 rfl rfl) rfl rfl rfl rfl (Nat.le_of_ble_eq_true rfl) rfl (by decide +kernel) ?_
  refine k_aload_n (k := 0) (x := b) S (by decide +kernel) rfl ?_
  refine k_bipush (n := 6) S (by decide) (by decide) (by decide +kernel) ?_
  refine k_newa' (at' := .int) (ty := .int) (N := 6) (a := b + 9) S hF rfl (Or.inl rfl) (by decide) (by decide) (Nat.le_of_lt (by rw [hs0]; exact Nat.lt_succ_self b)) (by rw [hs0]; rfl) (Nat.le_of_ble_eq_true rfl) (Nat.le_of_ble_eq_true rfl) (by decide +kernel) rfl ?_
  refine k_put (j := 11) (fs' := [.int 0, .ref (b + 1), .ref (b + 2), .ref (b + 3), .ref (b + 4), .ref (b + 5), .ref (b + 6), .int 0, .ref (b + 7), .int 0, .ref (b + 8), .ref (b + 9), .null, .int 0]) S hF hin cd1 (Nat.le_of_ble_eq_true rfl) (tt_at 206 rfl rfl) rfl rfl rfl rfl (Nat.le_of_ble_eq_true rfl) rfl (by decide +kernel) ?_
  refine k_aload_n (k := 0) (x := b) S (by decide +kernel) rfl ?_
  refine k_bipush (n := 6) S (by decide) (by decide) (by decide +kernel) ?_
  refine k_newa' (at' := .int) (ty := .int) (N := 6) (a := b + 10) S hF rfl (Or.inl rfl) (by decide) (by decide) (Nat.le_of_lt (by rw [hs0]; exact Nat.lt_succ_self b)) (by rw [hs0]; rfl) (Nat.le_of_ble_eq_true rfl) (Nat.le_of_ble_eq_true rfl) (by decide +kernel) rfl ?_
  refine k_put (j := 12) (fs' := [.int 0, .ref (b + 1), .ref (b + 2), .ref (b + 3), .ref (b + 4), .ref (b + 5), .ref (b + 6), .int 0, .ref (b + 7), .int 0, .ref (b + 8), .ref (b + 9), .ref (b + 10), .int 0]) S hF hin cd1 (Nat.le_of_ble_eq_true rfl) (tt_at 207 rfl rfl) rfl rfl rfl rfl (Nat.le_of_ble_eq_true rfl) rfl (by decide +kernel) ?_
  exact k_ret S hr hlk (by decide +kernel)
def N_rdr (cA : FieldType → ClassId) (b : Nat) (t1 : Nat) : List va_E := .inr (6, [.ref t1, .ref (b + 1), .ref (b + 4), .int 0]) :: (([] ++ N_tok cA (b + 1)) ++ N_bok cA (b + 4))
set_option maxHeartbeats 2000000 in
theorem ci_rdr {l : Launch} {G : va_G} {cA : FieldType → ClassId} {b : Nat} (t1 : Nat) : CM l ⟨"RowDrawer$Reader", "<init>", "(LRowDrawer$Tape;)V"⟩ prog_8_method_1_code 2 2 14 2736 G cA b [.ref b, .ref t1] [.inr (6, [.null, .null, .null, .int 0])] (N_rdr cA b t1) := by
  refine CM.of (by decide +kernel) rfl (Nat.le_of_ble_eq_true rfl) ?_
  intro p e s m below meth c S hF hin hr hlk hs0
  have hs0 : s.heap.size = b + 1 := hs0
  refine k_aload_n (k := 0) (x := b) S (by decide +kernel) rfl ?_
  refine k_obj S (tt_at 169 rfl rfl) (by decide +kernel) (Nat.le_of_ble_eq_true rfl) (Nat.le_of_ble_eq_true rfl) rfl ?_
  refine k_aload_n (k := 0) (x := b) S (by decide +kernel) rfl ?_
  refine k_new' (fs := [.null, .null, .int 0, .int 0]) (a := b + 1) S hF cd10 (tt_at 170 rfl rfl) (tt_at 171 rfl rfl) (tt_at 78 rfl rfl) df10 (Nat.le_of_lt (by rw [hs0]; exact Nat.lt_succ_self b)) (by rw [hs0]; rfl) (Nat.le_of_ble_eq_true rfl) (Nat.le_of_ble_eq_true rfl) (by decide +kernel) rfl ?_
  refine k_dup S (by decide +kernel) ?_
  refine k_initN (n := 0) (x := 11) (A := .inr (6, [.null, .null, .null, .int 0]) :: _) (as := []) (st := [.ref (b + 1), .ref b]) (host := "RowDrawer") S hF (ci_tok (l := l) (G := G) (cA := cA) (b := b + 1)) (by decide) (tt_at 174 rfl rfl) (tt_at 78 rfl rfl) (tt_at 173 rfl rfl) ⟨rfl, by decide +kernel, by decide +kernel, by decide +kernel⟩ rfl ⟨(Nat.le_of_ble_eq_true rfl), (Nat.le_of_ble_eq_true rfl)⟩ (Nat.le_of_lt (by rw [hs0]; exact Nat.lt_succ_self b)) (by rw [hs0]; rfl) rfl rfl rfl ⟨(Nat.le_of_ble_eq_true rfl), (Nat.le_of_ble_eq_true rfl)⟩ (by decide +kernel) ?_
  refine k_put (j := 1) (fs' := [.null, .ref (b + 1), .null, .int 0]) S hF hin cd6 (Nat.le_of_ble_eq_true rfl) (tt_at 239 rfl rfl) rfl rfl rfl rfl (Nat.le_of_ble_eq_true rfl) rfl (by decide +kernel) ?_
  refine k_aload_n (k := 0) (x := b) S (by decide +kernel) rfl ?_
  refine k_new' (fs := [.int 0, .null, .null, .null, .null, .null, .null, .int 0, .null, .int 0, .null, .null, .null, .int 0]) (a := b + 4) S hF cd1 (tt_at 189 rfl rfl) (tt_at 190 rfl rfl) (tt_at 79 rfl rfl) df1 (Nat.le_of_lt (by rw [hs0]; exact Nat.lt_succ_self b)) (by rw [hs0]; rfl) (Nat.le_of_ble_eq_true rfl) (Nat.le_of_ble_eq_true rfl) (by decide +kernel) rfl ?_
  refine k_dup S (by decide +kernel) ?_
  refine k_initN (n := 0) (x := 20) (A := .inr (6, [.null, .ref (b + 1), .null, .int 0]) :: _) (as := []) (st := [.ref (b + 4), .ref b]) (host := "RowDrawer") S hF (ci_bok (l := l) (G := G) (cA := cA) (b := b + 4)) (by decide) (tt_at 193 rfl rfl) (tt_at 79 rfl rfl) (tt_at 192 rfl rfl) ⟨rfl, by decide +kernel, by decide +kernel, by decide +kernel⟩ rfl ⟨(Nat.le_of_ble_eq_true rfl), (Nat.le_of_ble_eq_true rfl)⟩ (Nat.le_of_lt (by rw [hs0]; exact Nat.lt_succ_self b)) (by rw [hs0]; rfl) rfl rfl rfl ⟨(Nat.le_of_ble_eq_true rfl), (Nat.le_of_ble_eq_true rfl)⟩ (by decide +kernel) ?_
  refine k_put (j := 2) (fs' := [.null, .ref (b + 1), .ref (b + 4), .int 0]) S hF hin cd6 (Nat.le_of_ble_eq_true rfl) (tt_at 240 rfl rfl) rfl rfl rfl rfl (Nat.le_of_ble_eq_true rfl) rfl (by decide +kernel) ?_
  refine k_aload_n (k := 0) (x := b) S (by decide +kernel) rfl ?_
  refine k_aload_n (k := 1) (x := t1) S (by decide +kernel) rfl ?_
  refine k_put (j := 0) (fs' := [.ref t1, .ref (b + 1), .ref (b + 4), .int 0]) S hF hin cd6 (Nat.le_of_ble_eq_true rfl) (tt_at 238 rfl rfl) rfl rfl rfl rfl (Nat.le_of_ble_eq_true rfl) rfl (by decide +kernel) ?_
  exact k_ret S hr hlk (by decide +kernel)
def N_fin (cA : FieldType → ClassId) (b : Nat) (t1 : Nat) (t2 : Nat) (t3 : Nat) : List va_E := .inr (2, [.ref t1, .ref t2, .ref t3, .ref (b + 1), .ref (b + 2), .ref (b + 3), .ref (b + 4), .ref (b + 5)]) :: ((((([] ++ [arrE cA .int 7680]) ++ [arrE cA .int 480]) ++ [arrE cA .boolean 40]) ++ [arrE cA .boolean 40]) ++ [arrE cA .int 10])
set_option maxHeartbeats 2000000 in
theorem ci_fin {l : Launch} {G : va_G} {cA : FieldType → ClassId} {b : Nat} (t1 : Nat) (t2 : Nat) (t3 : Nat) : CM l ⟨"RowDrawer$Finder", "<init>", "(LRowDrawer$Lexicon;LRowDrawer$Sentences;LRowDrawer$Book;)V"⟩ prog_4_method_1_code 4 1 5 8250 G cA b [.ref b, .ref t1, .ref t2, .ref t3] [.inr (2, [.null, .null, .null, .null, .null, .null, .null, .null])] (N_fin cA b t1 t2 t3) := by
  refine CM.of (by decide +kernel) rfl (Nat.le_of_ble_eq_true rfl) ?_
  intro p e s m below meth c S hF hin hr hlk hs0
  have hs0 : s.heap.size = b + 1 := hs0
  refine k_aload_n (k := 0) (x := b) S (by decide +kernel) rfl ?_
  refine k_obj S (tt_at 258 rfl rfl) (by decide +kernel) (Nat.le_of_ble_eq_true rfl) (Nat.le_of_ble_eq_true rfl) rfl ?_
  refine k_aload_n (k := 0) (x := b) S (by decide +kernel) rfl ?_
  refine k_sipush (n := 7680) S (by decide) (by decide) (by decide +kernel) ?_
  refine k_newa' (at' := .int) (ty := .int) (N := 7680) (a := b + 1) S hF rfl (Or.inl rfl) (by decide) (by decide) (Nat.le_of_lt (by rw [hs0]; exact Nat.lt_succ_self b)) (by rw [hs0]; rfl) (Nat.le_of_ble_eq_true rfl) (Nat.le_of_ble_eq_true rfl) (by decide +kernel) rfl ?_
  refine k_put (j := 3) (fs' := [.null, .null, .null, .ref (b + 1), .null, .null, .null, .null]) S hF hin cd2 (Nat.le_of_ble_eq_true rfl) (tt_at 262 rfl rfl) rfl rfl rfl rfl (Nat.le_of_ble_eq_true rfl) rfl (by decide +kernel) ?_
  refine k_aload_n (k := 0) (x := b) S (by decide +kernel) rfl ?_
  refine k_sipush (n := 480) S (by decide) (by decide) (by decide +kernel) ?_
  refine k_newa' (at' := .int) (ty := .int) (N := 480) (a := b + 2) S hF rfl (Or.inl rfl) (by decide) (by decide) (Nat.le_of_lt (by rw [hs0]; exact Nat.lt_succ_self b)) (by rw [hs0]; rfl) (Nat.le_of_ble_eq_true rfl) (Nat.le_of_ble_eq_true rfl) (by decide +kernel) rfl ?_
  refine k_put (j := 4) (fs' := [.null, .null, .null, .ref (b + 1), .ref (b + 2), .null, .null, .null]) S hF hin cd2 (Nat.le_of_ble_eq_true rfl) (tt_at 263 rfl rfl) rfl rfl rfl rfl (Nat.le_of_ble_eq_true rfl) rfl (by decide +kernel) ?_
  refine k_aload_n (k := 0) (x := b) S (by decide +kernel) rfl ?_
  refine k_bipush (n := 40) S (by decide) (by decide) (by decide +kernel) ?_
  refine k_newa' (at' := .boolean) (ty := .boolean) (N := 40) (a := b + 3) S hF rfl (Or.inr (Or.inl rfl)) (by decide) (by decide) (Nat.le_of_lt (by rw [hs0]; exact Nat.lt_succ_self b)) (by rw [hs0]; rfl) (Nat.le_of_ble_eq_true rfl) (Nat.le_of_ble_eq_true rfl) (by decide +kernel) rfl ?_
  refine k_put (j := 5) (fs' := [.null, .null, .null, .ref (b + 1), .ref (b + 2), .ref (b + 3), .null, .null]) S hF hin cd2 (Nat.le_of_ble_eq_true rfl) (tt_at 264 rfl rfl) rfl rfl rfl rfl (Nat.le_of_ble_eq_true rfl) rfl (by decide +kernel) ?_
  refine k_aload_n (k := 0) (x := b) S (by decide +kernel) rfl ?_
  refine k_bipush (n := 40) S (by decide) (by decide) (by decide +kernel) ?_
  refine k_newa' (at' := .boolean) (ty := .boolean) (N := 40) (a := b + 4) S hF rfl (Or.inr (Or.inl rfl)) (by decide) (by decide) (Nat.le_of_lt (by rw [hs0]; exact Nat.lt_succ_self b)) (by rw [hs0]; rfl) (Nat.le_of_ble_eq_true rfl) (Nat.le_of_ble_eq_true rfl) (by decide +kernel) rfl ?_
  refine k_put (j := 6) (fs' := [.null, .null, .null, .ref (b + 1), .ref (b + 2), .ref (b + 3), .ref (b + 4), .null]) S hF hin cd2 (Nat.le_of_ble_eq_true rfl) (tt_at 265 rfl rfl) rfl rfl rfl rfl (Nat.le_of_ble_eq_true rfl) rfl (by decide +kernel) ?_
  refine k_aload_n (k := 0) (x := b) S (by decide +kernel) rfl ?_
  refine k_bipush (n := 10) S (by decide) (by decide) (by decide +kernel) ?_
  refine k_newa' (at' := .int) (ty := .int) (N := 10) (a := b + 5) S hF rfl (Or.inl rfl) (by decide) (by decide) (Nat.le_of_lt (by rw [hs0]; exact Nat.lt_succ_self b)) (by rw [hs0]; rfl) (Nat.le_of_ble_eq_true rfl) (Nat.le_of_ble_eq_true rfl) (by decide +kernel) rfl ?_
  refine k_put (j := 7) (fs' := [.null, .null, .null, .ref (b + 1), .ref (b + 2), .ref (b + 3), .ref (b + 4), .ref (b + 5)]) S hF hin cd2 (Nat.le_of_ble_eq_true rfl) (tt_at 266 rfl rfl) rfl rfl rfl rfl (Nat.le_of_ble_eq_true rfl) rfl (by decide +kernel) ?_
  refine k_aload_n (k := 0) (x := b) S (by decide +kernel) rfl ?_
  refine k_aload_n (k := 1) (x := t1) S (by decide +kernel) rfl ?_
  refine k_put (j := 0) (fs' := [.ref t1, .null, .null, .ref (b + 1), .ref (b + 2), .ref (b + 3), .ref (b + 4), .ref (b + 5)]) S hF hin cd2 (Nat.le_of_ble_eq_true rfl) (tt_at 259 rfl rfl) rfl rfl rfl rfl (Nat.le_of_ble_eq_true rfl) rfl (by decide +kernel) ?_
  refine k_aload_n (k := 0) (x := b) S (by decide +kernel) rfl ?_
  refine k_aload_n (k := 2) (x := t2) S (by decide +kernel) rfl ?_
  refine k_put (j := 1) (fs' := [.ref t1, .ref t2, .null, .ref (b + 1), .ref (b + 2), .ref (b + 3), .ref (b + 4), .ref (b + 5)]) S hF hin cd2 (Nat.le_of_ble_eq_true rfl) (tt_at 260 rfl rfl) rfl rfl rfl rfl (Nat.le_of_ble_eq_true rfl) rfl (by decide +kernel) ?_
  refine k_aload_n (k := 0) (x := b) S (by decide +kernel) rfl ?_
  refine k_aload_n (k := 3) (x := t3) S (by decide +kernel) rfl ?_
  refine k_put (j := 2) (fs' := [.ref t1, .ref t2, .ref t3, .ref (b + 1), .ref (b + 2), .ref (b + 3), .ref (b + 4), .ref (b + 5)]) S hF hin cd2 (Nat.le_of_ble_eq_true rfl) (tt_at 261 rfl rfl) rfl rfl rfl rfl (Nat.le_of_ble_eq_true rfl) rfl (by decide +kernel) ?_
  exact k_ret S hr hlk (by decide +kernel)
def N_tab (cA : FieldType → ClassId) (b : Nat) (t1 : Nat) (t2 : Nat) (t3 : Nat) (t4 : Nat) : List va_E := .inr (8, [.ref t1, .ref t2, .ref t3, .ref t4, .ref (b + 1), .ref (b + 2), .int 0]) :: (([] ++ [arrE cA .long 1010]) ++ [arrE cA .long 1010])
set_option maxHeartbeats 2000000 in
theorem ci_tab {l : Launch} {G : va_G} {cA : FieldType → ClassId} {b : Nat} (t1 : Nat) (t2 : Nat) (t3 : Nat) (t4 : Nat) : CM l ⟨"RowDrawer$Table", "<init>", "(LRowDrawer$Lexicon;LRowDrawer$Sentences;LRowDrawer$Book;LRowDrawer$Finder;)V"⟩ prog_10_method_1_code 5 1 2 2020 G cA b [.ref b, .ref t1, .ref t2, .ref t3, .ref t4] [.inr (8, [.null, .null, .null, .null, .null, .null, .int 0])] (N_tab cA b t1 t2 t3 t4) := by
  refine CM.of (by decide +kernel) rfl (Nat.le_of_ble_eq_true rfl) ?_
  intro p e s m below meth c S hF hin hr hlk hs0
  have hs0 : s.heap.size = b + 1 := hs0
  refine k_aload_n (k := 0) (x := b) S (by decide +kernel) rfl ?_
  refine k_obj S (tt_at 289 rfl rfl) (by decide +kernel) (Nat.le_of_ble_eq_true rfl) (Nat.le_of_ble_eq_true rfl) rfl ?_
  refine k_aload_n (k := 0) (x := b) S (by decide +kernel) rfl ?_
  refine k_sipush (n := 1010) S (by decide) (by decide) (by decide +kernel) ?_
  refine k_newa' (at' := .long) (ty := .long) (N := 1010) (a := b + 1) S hF rfl (Or.inr (Or.inr (Or.inr rfl))) (by decide) (by decide) (Nat.le_of_lt (by rw [hs0]; exact Nat.lt_succ_self b)) (by rw [hs0]; rfl) (Nat.le_of_ble_eq_true rfl) (Nat.le_of_ble_eq_true rfl) (by decide +kernel) rfl ?_
  refine k_put (j := 4) (fs' := [.null, .null, .null, .null, .ref (b + 1), .null, .int 0]) S hF hin cd8 (Nat.le_of_ble_eq_true rfl) (tt_at 294 rfl rfl) rfl rfl rfl rfl (Nat.le_of_ble_eq_true rfl) rfl (by decide +kernel) ?_
  refine k_aload_n (k := 0) (x := b) S (by decide +kernel) rfl ?_
  refine k_sipush (n := 1010) S (by decide) (by decide) (by decide +kernel) ?_
  refine k_newa' (at' := .long) (ty := .long) (N := 1010) (a := b + 2) S hF rfl (Or.inr (Or.inr (Or.inr rfl))) (by decide) (by decide) (Nat.le_of_lt (by rw [hs0]; exact Nat.lt_succ_self b)) (by rw [hs0]; rfl) (Nat.le_of_ble_eq_true rfl) (Nat.le_of_ble_eq_true rfl) (by decide +kernel) rfl ?_
  refine k_put (j := 5) (fs' := [.null, .null, .null, .null, .ref (b + 1), .ref (b + 2), .int 0]) S hF hin cd8 (Nat.le_of_ble_eq_true rfl) (tt_at 295 rfl rfl) rfl rfl rfl rfl (Nat.le_of_ble_eq_true rfl) rfl (by decide +kernel) ?_
  refine k_aload_n (k := 0) (x := b) S (by decide +kernel) rfl ?_
  refine k_aload_n (k := 1) (x := t1) S (by decide +kernel) rfl ?_
  refine k_put (j := 0) (fs' := [.ref t1, .null, .null, .null, .ref (b + 1), .ref (b + 2), .int 0]) S hF hin cd8 (Nat.le_of_ble_eq_true rfl) (tt_at 290 rfl rfl) rfl rfl rfl rfl (Nat.le_of_ble_eq_true rfl) rfl (by decide +kernel) ?_
  refine k_aload_n (k := 0) (x := b) S (by decide +kernel) rfl ?_
  refine k_aload_n (k := 2) (x := t2) S (by decide +kernel) rfl ?_
  refine k_put (j := 1) (fs' := [.ref t1, .ref t2, .null, .null, .ref (b + 1), .ref (b + 2), .int 0]) S hF hin cd8 (Nat.le_of_ble_eq_true rfl) (tt_at 291 rfl rfl) rfl rfl rfl rfl (Nat.le_of_ble_eq_true rfl) rfl (by decide +kernel) ?_
  refine k_aload_n (k := 0) (x := b) S (by decide +kernel) rfl ?_
  refine k_aload_n (k := 3) (x := t3) S (by decide +kernel) rfl ?_
  refine k_put (j := 2) (fs' := [.ref t1, .ref t2, .ref t3, .null, .ref (b + 1), .ref (b + 2), .int 0]) S hF hin cd8 (Nat.le_of_ble_eq_true rfl) (tt_at 292 rfl rfl) rfl rfl rfl rfl (Nat.le_of_ble_eq_true rfl) rfl (by decide +kernel) ?_
  refine k_aload_n (k := 0) (x := b) S (by decide +kernel) rfl ?_
  refine k_aload (k := 4) (x := t4) S (by decide +kernel) rfl ?_
  refine k_put (j := 3) (fs' := [.ref t1, .ref t2, .ref t3, .ref t4, .ref (b + 1), .ref (b + 2), .int 0]) S hF hin cd8 (Nat.le_of_ble_eq_true rfl) (tt_at 293 rfl rfl) rfl rfl rfl rfl (Nat.le_of_ble_eq_true rfl) rfl (by decide +kernel) ?_
  exact k_ret S hr hlk (by decide +kernel)
def N_mrk (cA : FieldType → ClassId) (b : Nat) (t1 : Nat) (t2 : Nat) (t3 : Nat) : List va_E := .inr (5, [.ref t1, .ref t2, .ref t3, .ref (b + 1), .ref (b + 2), .ref (b + 3), .ref (b + 4), .ref (b + 5), .int 0]) :: ((((([] ++ [arrE cA .int 60]) ++ [arrE cA .int 60]) ++ [arrE cA .int 60]) ++ [arrE cA .int 60]) ++ [arrE cA .boolean 60])
set_option maxHeartbeats 2000000 in
theorem ci_mrk {l : Launch} {G : va_G} {cA : FieldType → ClassId} {b : Nat} (t1 : Nat) (t2 : Nat) (t3 : Nat) : CM l ⟨"RowDrawer$Marks", "<init>", "(LRowDrawer$Sentences;LRowDrawer$Book;LRowDrawer$Finder;)V"⟩ prog_7_method_1_code 4 1 5 300 G cA b [.ref b, .ref t1, .ref t2, .ref t3] [.inr (5, [.null, .null, .null, .null, .null, .null, .null, .null, .int 0])] (N_mrk cA b t1 t2 t3) := by
  refine CM.of (by decide +kernel) rfl (Nat.le_of_ble_eq_true rfl) ?_
  intro p e s m below meth c S hF hin hr hlk hs0
  have hs0 : s.heap.size = b + 1 := hs0
  refine k_aload_n (k := 0) (x := b) S (by decide +kernel) rfl ?_
  refine k_obj S (tt_at 318 rfl rfl) (by decide +kernel) (Nat.le_of_ble_eq_true rfl) (Nat.le_of_ble_eq_true rfl) rfl ?_
  refine k_aload_n (k := 0) (x := b) S (by decide +kernel) rfl ?_
  refine k_bipush (n := 60) S (by decide) (by decide) (by decide +kernel) ?_
  refine k_newa' (at' := .int) (ty := .int) (N := 60) (a := b + 1) S hF rfl (Or.inl rfl) (by decide) (by decide) (Nat.le_of_lt (by rw [hs0]; exact Nat.lt_succ_self b)) (by rw [hs0]; rfl) (Nat.le_of_ble_eq_true rfl) (Nat.le_of_ble_eq_true rfl) (by decide +kernel) rfl ?_
  refine k_put (j := 3) (fs' := [.null, .null, .null, .ref (b + 1), .null, .null, .null, .null, .int 0]) S hF hin cd5 (Nat.le_of_ble_eq_true rfl) (tt_at 322 rfl rfl) rfl rfl rfl rfl (Nat.le_of_ble_eq_true rfl) rfl (by decide +kernel) ?_
  refine k_aload_n (k := 0) (x := b) S (by decide +kernel) rfl ?_
  refine k_bipush (n := 60) S (by decide) (by decide) (by decide +kernel) ?_
  refine k_newa' (at' := .int) (ty := .int) (N := 60) (a := b + 2) S hF rfl (Or.inl rfl) (by decide) (by decide) (Nat.le_of_lt (by rw [hs0]; exact Nat.lt_succ_self b)) (by rw [hs0]; rfl) (Nat.le_of_ble_eq_true rfl) (Nat.le_of_ble_eq_true rfl) (by decide +kernel) rfl ?_
  refine k_put (j := 4) (fs' := [.null, .null, .null, .ref (b + 1), .ref (b + 2), .null, .null, .null, .int 0]) S hF hin cd5 (Nat.le_of_ble_eq_true rfl) (tt_at 323 rfl rfl) rfl rfl rfl rfl (Nat.le_of_ble_eq_true rfl) rfl (by decide +kernel) ?_
  refine k_aload_n (k := 0) (x := b) S (by decide +kernel) rfl ?_
  refine k_bipush (n := 60) S (by decide) (by decide) (by decide +kernel) ?_
  refine k_newa' (at' := .int) (ty := .int) (N := 60) (a := b + 3) S hF rfl (Or.inl rfl) (by decide) (by decide) (Nat.le_of_lt (by rw [hs0]; exact Nat.lt_succ_self b)) (by rw [hs0]; rfl) (Nat.le_of_ble_eq_true rfl) (Nat.le_of_ble_eq_true rfl) (by decide +kernel) rfl ?_
  refine k_put (j := 5) (fs' := [.null, .null, .null, .ref (b + 1), .ref (b + 2), .ref (b + 3), .null, .null, .int 0]) S hF hin cd5 (Nat.le_of_ble_eq_true rfl) (tt_at 324 rfl rfl) rfl rfl rfl rfl (Nat.le_of_ble_eq_true rfl) rfl (by decide +kernel) ?_
  refine k_aload_n (k := 0) (x := b) S (by decide +kernel) rfl ?_
  refine k_bipush (n := 60) S (by decide) (by decide) (by decide +kernel) ?_
  refine k_newa' (at' := .int) (ty := .int) (N := 60) (a := b + 4) S hF rfl (Or.inl rfl) (by decide) (by decide) (Nat.le_of_lt (by rw [hs0]; exact Nat.lt_succ_self b)) (by rw [hs0]; rfl) (Nat.le_of_ble_eq_true rfl) (Nat.le_of_ble_eq_true rfl) (by decide +kernel) rfl ?_
  refine k_put (j := 6) (fs' := [.null, .null, .null, .ref (b + 1), .ref (b + 2), .ref (b + 3), .ref (b + 4), .null, .int 0]) S hF hin cd5 (Nat.le_of_ble_eq_true rfl) (tt_at 325 rfl rfl) rfl rfl rfl rfl (Nat.le_of_ble_eq_true rfl) rfl (by decide +kernel) ?_
  refine k_aload_n (k := 0) (x := b) S (by decide +kernel) rfl ?_
  refine k_bipush (n := 60) S (by decide) (by decide) (by decide +kernel) ?_
  refine k_newa' (at' := .boolean) (ty := .boolean) (N := 60) (a := b + 5) S hF rfl (Or.inr (Or.inl rfl)) (by decide) (by decide) (Nat.le_of_lt (by rw [hs0]; exact Nat.lt_succ_self b)) (by rw [hs0]; rfl) (Nat.le_of_ble_eq_true rfl) (Nat.le_of_ble_eq_true rfl) (by decide +kernel) rfl ?_
  refine k_put (j := 7) (fs' := [.null, .null, .null, .ref (b + 1), .ref (b + 2), .ref (b + 3), .ref (b + 4), .ref (b + 5), .int 0]) S hF hin cd5 (Nat.le_of_ble_eq_true rfl) (tt_at 326 rfl rfl) rfl rfl rfl rfl (Nat.le_of_ble_eq_true rfl) rfl (by decide +kernel) ?_
  refine k_aload_n (k := 0) (x := b) S (by decide +kernel) rfl ?_
  refine k_aload_n (k := 1) (x := t1) S (by decide +kernel) rfl ?_
  refine k_put (j := 0) (fs' := [.ref t1, .null, .null, .ref (b + 1), .ref (b + 2), .ref (b + 3), .ref (b + 4), .ref (b + 5), .int 0]) S hF hin cd5 (Nat.le_of_ble_eq_true rfl) (tt_at 319 rfl rfl) rfl rfl rfl rfl (Nat.le_of_ble_eq_true rfl) rfl (by decide +kernel) ?_
  refine k_aload_n (k := 0) (x := b) S (by decide +kernel) rfl ?_
  refine k_aload_n (k := 2) (x := t2) S (by decide +kernel) rfl ?_
  refine k_put (j := 1) (fs' := [.ref t1, .ref t2, .null, .ref (b + 1), .ref (b + 2), .ref (b + 3), .ref (b + 4), .ref (b + 5), .int 0]) S hF hin cd5 (Nat.le_of_ble_eq_true rfl) (tt_at 320 rfl rfl) rfl rfl rfl rfl (Nat.le_of_ble_eq_true rfl) rfl (by decide +kernel) ?_
  refine k_aload_n (k := 0) (x := b) S (by decide +kernel) rfl ?_
  refine k_aload_n (k := 3) (x := t3) S (by decide +kernel) rfl ?_
  refine k_put (j := 2) (fs' := [.ref t1, .ref t2, .ref t3, .ref (b + 1), .ref (b + 2), .ref (b + 3), .ref (b + 4), .ref (b + 5), .int 0]) S hF hin cd5 (Nat.le_of_ble_eq_true rfl) (tt_at 321 rfl rfl) rfl rfl rfl rfl (Nat.le_of_ble_eq_true rfl) rfl (by decide +kernel) ?_
  exact k_ret S hr hlk (by decide +kernel)
def N_bst (cA : FieldType → ClassId) (b : Nat) : List va_E := .inr (0, [.ref (b + 1), .ref (b + 2), .int 0, .int 0, .int 0, .int 0]) :: (([] ++ [arrE cA .long 12]) ++ [arrE cA .long 12])
set_option maxHeartbeats 2000000 in
theorem ci_bst {l : Launch} {G : va_G} {cA : FieldType → ClassId} {b : Nat} : CM l ⟨"RowDrawer$BestSet", "<init>", "()V"⟩ prog_2_method_1_code 1 1 2 24 G cA b [.ref b] [.inr (0, [.null, .null, .int 0, .int 0, .int 0, .int 0])] (N_bst cA b) := by
  refine CM.of (by decide +kernel) rfl (Nat.le_of_ble_eq_true rfl) ?_
  intro p e s m below meth c S hF hin hr hlk hs0
  have hs0 : s.heap.size = b + 1 := hs0
  refine k_aload_n (k := 0) (x := b) S (by decide +kernel) rfl ?_
  refine k_obj S (tt_at 352 rfl rfl) (by decide +kernel) (Nat.le_of_ble_eq_true rfl) (Nat.le_of_ble_eq_true rfl) rfl ?_
  refine k_aload_n (k := 0) (x := b) S (by decide +kernel) rfl ?_
  refine k_bipush (n := 12) S (by decide) (by decide) (by decide +kernel) ?_
  refine k_newa' (at' := .long) (ty := .long) (N := 12) (a := b + 1) S hF rfl (Or.inr (Or.inr (Or.inr rfl))) (by decide) (by decide) (Nat.le_of_lt (by rw [hs0]; exact Nat.lt_succ_self b)) (by rw [hs0]; rfl) (Nat.le_of_ble_eq_true rfl) (Nat.le_of_ble_eq_true rfl) (by decide +kernel) rfl ?_
  refine k_put (j := 0) (fs' := [.ref (b + 1), .null, .int 0, .int 0, .int 0, .int 0]) S hF hin cd0 (Nat.le_of_ble_eq_true rfl) (tt_at 353 rfl rfl) rfl rfl rfl rfl (Nat.le_of_ble_eq_true rfl) rfl (by decide +kernel) ?_
  refine k_aload_n (k := 0) (x := b) S (by decide +kernel) rfl ?_
  refine k_bipush (n := 12) S (by decide) (by decide) (by decide +kernel) ?_
  refine k_newa' (at' := .long) (ty := .long) (N := 12) (a := b + 2) S hF rfl (Or.inr (Or.inr (Or.inr rfl))) (by decide) (by decide) (Nat.le_of_lt (by rw [hs0]; exact Nat.lt_succ_self b)) (by rw [hs0]; rfl) (Nat.le_of_ble_eq_true rfl) (Nat.le_of_ble_eq_true rfl) (by decide +kernel) rfl ?_
  refine k_put (j := 1) (fs' := [.ref (b + 1), .ref (b + 2), .int 0, .int 0, .int 0, .int 0]) S hF hin cd0 (Nat.le_of_ble_eq_true rfl) (tt_at 354 rfl rfl) rfl rfl rfl rfl (Nat.le_of_ble_eq_true rfl) rfl (by decide +kernel) ?_
  exact k_ret S hr hlk (by decide +kernel)
def N_les (cA : FieldType → ClassId) (b : Nat) (t1 : Nat) (t2 : Nat) (t3 : Nat) : List va_E := .inr (3, [.ref t1, .ref t2, .ref t3, .ref (b + 1), .ref (b + 2), .int 0, .int 0, .int 0]) :: (([] ++ [arrE cA .int 16]) ++ [arrE cA .int 16])
set_option maxHeartbeats 2000000 in
theorem ci_les {l : Launch} {G : va_G} {cA : FieldType → ClassId} {b : Nat} (t1 : Nat) (t2 : Nat) (t3 : Nat) : CM l ⟨"RowDrawer$Lesson", "<init>", "(LRowDrawer$Lexicon;LRowDrawer$Sentences;LRowDrawer$Marks;)V"⟩ prog_5_method_1_code 4 1 2 32 G cA b [.ref b, .ref t1, .ref t2, .ref t3] [.inr (3, [.null, .null, .null, .null, .null, .int 0, .int 0, .int 0])] (N_les cA b t1 t2 t3) := by
  refine CM.of (by decide +kernel) rfl (Nat.le_of_ble_eq_true rfl) ?_
  intro p e s m below meth c S hF hin hr hlk hs0
  have hs0 : s.heap.size = b + 1 := hs0
  refine k_aload_n (k := 0) (x := b) S (by decide +kernel) rfl ?_
  refine k_obj S (tt_at 377 rfl rfl) (by decide +kernel) (Nat.le_of_ble_eq_true rfl) (Nat.le_of_ble_eq_true rfl) rfl ?_
  refine k_aload_n (k := 0) (x := b) S (by decide +kernel) rfl ?_
  refine k_bipush (n := 16) S (by decide) (by decide) (by decide +kernel) ?_
  refine k_newa' (at' := .int) (ty := .int) (N := 16) (a := b + 1) S hF rfl (Or.inl rfl) (by decide) (by decide) (Nat.le_of_lt (by rw [hs0]; exact Nat.lt_succ_self b)) (by rw [hs0]; rfl) (Nat.le_of_ble_eq_true rfl) (Nat.le_of_ble_eq_true rfl) (by decide +kernel) rfl ?_
  refine k_put (j := 3) (fs' := [.null, .null, .null, .ref (b + 1), .null, .int 0, .int 0, .int 0]) S hF hin cd3 (Nat.le_of_ble_eq_true rfl) (tt_at 381 rfl rfl) rfl rfl rfl rfl (Nat.le_of_ble_eq_true rfl) rfl (by decide +kernel) ?_
  refine k_aload_n (k := 0) (x := b) S (by decide +kernel) rfl ?_
  refine k_bipush (n := 16) S (by decide) (by decide) (by decide +kernel) ?_
  refine k_newa' (at' := .int) (ty := .int) (N := 16) (a := b + 2) S hF rfl (Or.inl rfl) (by decide) (by decide) (Nat.le_of_lt (by rw [hs0]; exact Nat.lt_succ_self b)) (by rw [hs0]; rfl) (Nat.le_of_ble_eq_true rfl) (Nat.le_of_ble_eq_true rfl) (by decide +kernel) rfl ?_
  refine k_put (j := 4) (fs' := [.null, .null, .null, .ref (b + 1), .ref (b + 2), .int 0, .int 0, .int 0]) S hF hin cd3 (Nat.le_of_ble_eq_true rfl) (tt_at 382 rfl rfl) rfl rfl rfl rfl (Nat.le_of_ble_eq_true rfl) rfl (by decide +kernel) ?_
  refine k_aload_n (k := 0) (x := b) S (by decide +kernel) rfl ?_
  refine k_aload_n (k := 1) (x := t1) S (by decide +kernel) rfl ?_
  refine k_put (j := 0) (fs' := [.ref t1, .null, .null, .ref (b + 1), .ref (b + 2), .int 0, .int 0, .int 0]) S hF hin cd3 (Nat.le_of_ble_eq_true rfl) (tt_at 378 rfl rfl) rfl rfl rfl rfl (Nat.le_of_ble_eq_true rfl) rfl (by decide +kernel) ?_
  refine k_aload_n (k := 0) (x := b) S (by decide +kernel) rfl ?_
  refine k_aload_n (k := 2) (x := t2) S (by decide +kernel) rfl ?_
  refine k_put (j := 1) (fs' := [.ref t1, .ref t2, .null, .ref (b + 1), .ref (b + 2), .int 0, .int 0, .int 0]) S hF hin cd3 (Nat.le_of_ble_eq_true rfl) (tt_at 379 rfl rfl) rfl rfl rfl rfl (Nat.le_of_ble_eq_true rfl) rfl (by decide +kernel) ?_
  refine k_aload_n (k := 0) (x := b) S (by decide +kernel) rfl ?_
  refine k_aload_n (k := 3) (x := t3) S (by decide +kernel) rfl ?_
  refine k_put (j := 2) (fs' := [.ref t1, .ref t2, .ref t3, .ref (b + 1), .ref (b + 2), .int 0, .int 0, .int 0]) S hF hin cd3 (Nat.le_of_ble_eq_true rfl) (tt_at 380 rfl rfl) rfl rfl rfl rfl (Nat.le_of_ble_eq_true rfl) rfl (by decide +kernel) ?_
  exact k_ret S hr hlk (by decide +kernel)
def N_row (cA : FieldType → ClassId) (b : Nat) : List va_E := .inr (11, [.ref (b + 1), .ref (b + 4), .ref (b + 9), .ref (b + 11), .ref (b + 26), .ref (b + 37), .ref (b + 43), .ref (b + 46), .ref (b + 52), .ref (b + 55)]) :: (((((((((([] ++ N_lex cA (b + 1)) ++ N_sen cA (b + 4)) ++ N_tap cA (b + 9)) ++ N_rdr cA (b + 11) (b + 9)) ++ N_bok cA (b + 26)) ++ N_fin cA (b + 37) (b + 1) (b + 4) (b + 26)) ++ N_tab cA (b + 43) (b + 1) (b + 4) (b + 26) (b + 37)) ++ N_mrk cA (b + 46) (b + 4) (b + 26) (b + 37)) ++ N_bst cA (b + 52)) ++ N_les cA (b + 55) (b + 1) (b + 4) (b + 46))
set_option maxHeartbeats 2000000 in
theorem ci_row {l : Launch} {G : va_G} {cA : FieldType → ClassId} {b : Nat} : CM l ⟨"RowDrawer", "<init>", "()V"⟩ prog_1_method_1_code 1 3 57 15883 G cA b [.ref b] [.inr (11, [.null, .null, .null, .null, .null, .null, .null, .null, .null, .null])] (N_row cA b) := by
  refine CM.of (by decide +kernel) rfl (Nat.le_of_ble_eq_true rfl) ?_
  intro p e s m below meth c S hF hin hr hlk hs0
  have hs0 : s.heap.size = b + 1 := hs0
  refine k_aload_n (k := 0) (x := b) S (by decide +kernel) rfl ?_
  refine k_obj S (tt_at 104 rfl rfl) (by decide +kernel) (Nat.le_of_ble_eq_true rfl) (Nat.le_of_ble_eq_true rfl) rfl ?_
  refine k_aload_n (k := 0) (x := b) S (by decide +kernel) rfl ?_
  refine k_new' (fs := [.null, .null]) (a := b + 1) S hF cd4 (tt_at 107 rfl rfl) (tt_at 108 rfl rfl) (tt_at 74 rfl rfl) df4 (Nat.le_of_lt (by rw [hs0]; exact Nat.lt_succ_self b)) (by rw [hs0]; rfl) (Nat.le_of_ble_eq_true rfl) (Nat.le_of_ble_eq_true rfl) (by decide +kernel) rfl ?_
  refine k_dup S (by decide +kernel) ?_
  refine k_initN (n := 0) (x := 9) (A := .inr (11, [.null, .null, .null, .null, .null, .null, .null, .null, .null, .null]) :: _) (as := []) (st := [.ref (b + 1), .ref b]) (host := "RowDrawer") S hF (ci_lex (l := l) (G := G) (cA := cA) (b := b + 1)) (by decide) (tt_at 111 rfl rfl) (tt_at 74 rfl rfl) (tt_at 110 rfl rfl) ⟨rfl, by decide +kernel, by decide +kernel, by decide +kernel⟩ rfl ⟨(Nat.le_of_ble_eq_true rfl), (Nat.le_of_ble_eq_true rfl)⟩ (Nat.le_of_lt (by rw [hs0]; exact Nat.lt_succ_self b)) (by rw [hs0]; rfl) rfl rfl rfl ⟨(Nat.le_of_ble_eq_true rfl), (Nat.le_of_ble_eq_true rfl)⟩ (by decide +kernel) ?_
  refine k_put (j := 0) (fs' := [.ref (b + 1), .null, .null, .null, .null, .null, .null, .null, .null, .null]) S hF hin cd11 (Nat.le_of_ble_eq_true rfl) (tt_at 403 rfl rfl) rfl rfl rfl rfl (Nat.le_of_ble_eq_true rfl) rfl (by decide +kernel) ?_
  refine k_aload_n (k := 0) (x := b) S (by decide +kernel) rfl ?_
  refine k_new' (fs := [.null, .null, .null, .null, .int 0, .int 0, .int 0]) (a := b + 4) S hF cd7 (tt_at 121 rfl rfl) (tt_at 122 rfl rfl) (tt_at 75 rfl rfl) df7 (Nat.le_of_lt (by rw [hs0]; exact Nat.lt_succ_self b)) (by rw [hs0]; rfl) (Nat.le_of_ble_eq_true rfl) (Nat.le_of_ble_eq_true rfl) (by decide +kernel) rfl ?_
  refine k_dup S (by decide +kernel) ?_
  refine k_initN (n := 0) (x := 18) (A := .inr (11, [.ref (b + 1), .null, .null, .null, .null, .null, .null, .null, .null, .null]) :: _) (as := []) (st := [.ref (b + 4), .ref b]) (host := "RowDrawer") S hF (ci_sen (l := l) (G := G) (cA := cA) (b := b + 4)) (by decide) (tt_at 125 rfl rfl) (tt_at 75 rfl rfl) (tt_at 124 rfl rfl) ⟨rfl, by decide +kernel, by decide +kernel, by decide +kernel⟩ rfl ⟨(Nat.le_of_ble_eq_true rfl), (Nat.le_of_ble_eq_true rfl)⟩ (Nat.le_of_lt (by rw [hs0]; exact Nat.lt_succ_self b)) (by rw [hs0]; rfl) rfl rfl rfl ⟨(Nat.le_of_ble_eq_true rfl), (Nat.le_of_ble_eq_true rfl)⟩ (by decide +kernel) ?_
  refine k_put (j := 1) (fs' := [.ref (b + 1), .ref (b + 4), .null, .null, .null, .null, .null, .null, .null, .null]) S hF hin cd11 (Nat.le_of_ble_eq_true rfl) (tt_at 404 rfl rfl) rfl rfl rfl rfl (Nat.le_of_ble_eq_true rfl) rfl (by decide +kernel) ?_
  refine k_aload_n (k := 0) (x := b) S (by decide +kernel) rfl ?_
  refine k_new' (fs := [.null, .int 0]) (a := b + 9) S hF cd9 (tt_at 150 rfl rfl) (tt_at 151 rfl rfl) (tt_at 76 rfl rfl) df9 (Nat.le_of_lt (by rw [hs0]; exact Nat.lt_succ_self b)) (by rw [hs0]; rfl) (Nat.le_of_ble_eq_true rfl) (Nat.le_of_ble_eq_true rfl) (by decide +kernel) rfl ?_
  refine k_dup S (by decide +kernel) ?_
  refine k_initN (n := 0) (x := 25) (A := .inr (11, [.ref (b + 1), .ref (b + 4), .null, .null, .null, .null, .null, .null, .null, .null]) :: _) (as := []) (st := [.ref (b + 9), .ref b]) (host := "RowDrawer") S hF (ci_tap (l := l) (G := G) (cA := cA) (b := b + 9)) (by decide) (tt_at 154 rfl rfl) (tt_at 76 rfl rfl) (tt_at 153 rfl rfl) ⟨rfl, by decide +kernel, by decide +kernel, by decide +kernel⟩ rfl ⟨(Nat.le_of_ble_eq_true rfl), (Nat.le_of_ble_eq_true rfl)⟩ (Nat.le_of_lt (by rw [hs0]; exact Nat.lt_succ_self b)) (by rw [hs0]; rfl) rfl rfl rfl ⟨(Nat.le_of_ble_eq_true rfl), (Nat.le_of_ble_eq_true rfl)⟩ (by decide +kernel) ?_
  refine k_put (j := 2) (fs' := [.ref (b + 1), .ref (b + 4), .ref (b + 9), .null, .null, .null, .null, .null, .null, .null]) S hF hin cd11 (Nat.le_of_ble_eq_true rfl) (tt_at 405 rfl rfl) rfl rfl rfl rfl (Nat.le_of_ble_eq_true rfl) rfl (by decide +kernel) ?_
  refine k_aload_n (k := 0) (x := b) S (by decide +kernel) rfl ?_
  refine k_new' (fs := [.null, .null, .null, .int 0]) (a := b + 11) S hF cd6 (tt_at 164 rfl rfl) (tt_at 165 rfl rfl) (tt_at 77 rfl rfl) df6 (Nat.le_of_lt (by rw [hs0]; exact Nat.lt_succ_self b)) (by rw [hs0]; rfl) (Nat.le_of_ble_eq_true rfl) (Nat.le_of_ble_eq_true rfl) (by decide +kernel) rfl ?_
  refine k_dup S (by decide +kernel) ?_
  refine k_aload_n (k := 0) (x := b) S (by decide +kernel) rfl ?_
  refine k_get (j := 2) (v := .ref (b + 9)) S hF cd11 (Nat.le_of_ble_eq_true rfl) (tt_at 405 rfl rfl) rfl (by decide +kernel) ?_
  refine k_init (n := 1) (x := 32) (A := .inr (11, [.ref (b + 1), .ref (b + 4), .ref (b + 9), .null, .null, .null, .null, .null, .null, .null]) :: _) (as := [.ref (b + 9)]) (st := [.ref (b + 11), .ref b]) S hF (ci_rdr (l := l) (G := G) (cA := cA) (b := b + 11) (b + 9)) (tt_at 166 rfl rfl) (tt_at 168 rfl rfl) (tt_at 77 rfl rfl) (tt_at 167 rfl rfl) ⟨rfl, by decide +kernel, by decide +kernel, by decide +kernel⟩ rfl ⟨(Nat.le_of_ble_eq_true rfl), (Nat.le_of_ble_eq_true rfl)⟩ (Nat.le_of_lt (by rw [hs0]; exact Nat.lt_succ_self b)) (by rw [hs0]; rfl) rfl rfl rfl ⟨(Nat.le_of_ble_eq_true rfl), (Nat.le_of_ble_eq_true rfl)⟩ (by decide +kernel) ?_
  refine k_put (j := 3) (fs' := [.ref (b + 1), .ref (b + 4), .ref (b + 9), .ref (b + 11), .null, .null, .null, .null, .null, .null]) S hF hin cd11 (Nat.le_of_ble_eq_true rfl) (tt_at 406 rfl rfl) rfl rfl rfl rfl (Nat.le_of_ble_eq_true rfl) rfl (by decide +kernel) ?_
  refine k_aload_n (k := 0) (x := b) S (by decide +kernel) rfl ?_
  refine k_new' (fs := [.int 0, .null, .null, .null, .null, .null, .null, .int 0, .null, .int 0, .null, .null, .null, .int 0]) (a := b + 26) S hF cd1 (tt_at 251 rfl rfl) (tt_at 190 rfl rfl) (tt_at 79 rfl rfl) df1 (Nat.le_of_lt (by rw [hs0]; exact Nat.lt_succ_self b)) (by rw [hs0]; rfl) (Nat.le_of_ble_eq_true rfl) (Nat.le_of_ble_eq_true rfl) (by decide +kernel) rfl ?_
  refine k_dup S (by decide +kernel) ?_
  refine k_initN (n := 0) (x := 41) (A := .inr (11, [.ref (b + 1), .ref (b + 4), .ref (b + 9), .ref (b + 11), .null, .null, .null, .null, .null, .null]) :: _) (as := []) (st := [.ref (b + 26), .ref b]) (host := "RowDrawer") S hF (ci_bok (l := l) (G := G) (cA := cA) (b := b + 26)) (by decide) (tt_at 193 rfl rfl) (tt_at 79 rfl rfl) (tt_at 192 rfl rfl) ⟨rfl, by decide +kernel, by decide +kernel, by decide +kernel⟩ rfl ⟨(Nat.le_of_ble_eq_true rfl), (Nat.le_of_ble_eq_true rfl)⟩ (Nat.le_of_lt (by rw [hs0]; exact Nat.lt_succ_self b)) (by rw [hs0]; rfl) rfl rfl rfl ⟨(Nat.le_of_ble_eq_true rfl), (Nat.le_of_ble_eq_true rfl)⟩ (by decide +kernel) ?_
  refine k_put (j := 4) (fs' := [.ref (b + 1), .ref (b + 4), .ref (b + 9), .ref (b + 11), .ref (b + 26), .null, .null, .null, .null, .null]) S hF hin cd11 (Nat.le_of_ble_eq_true rfl) (tt_at 407 rfl rfl) rfl rfl rfl rfl (Nat.le_of_ble_eq_true rfl) rfl (by decide +kernel) ?_
  refine k_aload_n (k := 0) (x := b) S (by decide +kernel) rfl ?_
  refine k_new' (fs := [.null, .null, .null, .null, .null, .null, .null, .null]) (a := b + 37) S hF cd2 (tt_at 253 rfl rfl) (tt_at 254 rfl rfl) (tt_at 80 rfl rfl) df2 (Nat.le_of_lt (by rw [hs0]; exact Nat.lt_succ_self b)) (by rw [hs0]; rfl) (Nat.le_of_ble_eq_true rfl) (Nat.le_of_ble_eq_true rfl) (by decide +kernel) rfl ?_
  refine k_dup S (by decide +kernel) ?_
  refine k_aload_n (k := 0) (x := b) S (by decide +kernel) rfl ?_
  refine k_get (j := 0) (v := .ref (b + 1)) S hF cd11 (Nat.le_of_ble_eq_true rfl) (tt_at 403 rfl rfl) rfl (by decide +kernel) ?_
  refine k_aload_n (k := 0) (x := b) S (by decide +kernel) rfl ?_
  refine k_get (j := 1) (v := .ref (b + 4)) S hF cd11 (Nat.le_of_ble_eq_true rfl) (tt_at 404 rfl rfl) rfl (by decide +kernel) ?_
  refine k_aload_n (k := 0) (x := b) S (by decide +kernel) rfl ?_
  refine k_get (j := 4) (v := .ref (b + 26)) S hF cd11 (Nat.le_of_ble_eq_true rfl) (tt_at 407 rfl rfl) rfl (by decide +kernel) ?_
  refine k_init (n := 3) (x := 48) (A := .inr (11, [.ref (b + 1), .ref (b + 4), .ref (b + 9), .ref (b + 11), .ref (b + 26), .null, .null, .null, .null, .null]) :: _) (as := [.ref (b + 1), .ref (b + 4), .ref (b + 26)]) (st := [.ref (b + 37), .ref b]) S hF (ci_fin (l := l) (G := G) (cA := cA) (b := b + 37) (b + 1) (b + 4) (b + 26)) (tt_at 255 rfl rfl) (tt_at 257 rfl rfl) (tt_at 80 rfl rfl) (tt_at 256 rfl rfl) ⟨rfl, by decide +kernel, by decide +kernel, by decide +kernel⟩ rfl ⟨(Nat.le_of_ble_eq_true rfl), (Nat.le_of_ble_eq_true rfl)⟩ (Nat.le_of_lt (by rw [hs0]; exact Nat.lt_succ_self b)) (by rw [hs0]; rfl) rfl rfl rfl ⟨(Nat.le_of_ble_eq_true rfl), (Nat.le_of_ble_eq_true rfl)⟩ (by decide +kernel) ?_
  refine k_put (j := 5) (fs' := [.ref (b + 1), .ref (b + 4), .ref (b + 9), .ref (b + 11), .ref (b + 26), .ref (b + 37), .null, .null, .null, .null]) S hF hin cd11 (Nat.le_of_ble_eq_true rfl) (tt_at 408 rfl rfl) rfl rfl rfl rfl (Nat.le_of_ble_eq_true rfl) rfl (by decide +kernel) ?_
  refine k_aload_n (k := 0) (x := b) S (by decide +kernel) rfl ?_
  refine k_new' (fs := [.null, .null, .null, .null, .null, .null, .int 0]) (a := b + 43) S hF cd8 (tt_at 284 rfl rfl) (tt_at 285 rfl rfl) (tt_at 81 rfl rfl) df8 (Nat.le_of_lt (by rw [hs0]; exact Nat.lt_succ_self b)) (by rw [hs0]; rfl) (Nat.le_of_ble_eq_true rfl) (Nat.le_of_ble_eq_true rfl) (by decide +kernel) rfl ?_
  refine k_dup S (by decide +kernel) ?_
  refine k_aload_n (k := 0) (x := b) S (by decide +kernel) rfl ?_
  refine k_get (j := 0) (v := .ref (b + 1)) S hF cd11 (Nat.le_of_ble_eq_true rfl) (tt_at 403 rfl rfl) rfl (by decide +kernel) ?_
  refine k_aload_n (k := 0) (x := b) S (by decide +kernel) rfl ?_
  refine k_get (j := 1) (v := .ref (b + 4)) S hF cd11 (Nat.le_of_ble_eq_true rfl) (tt_at 404 rfl rfl) rfl (by decide +kernel) ?_
  refine k_aload_n (k := 0) (x := b) S (by decide +kernel) rfl ?_
  refine k_get (j := 4) (v := .ref (b + 26)) S hF cd11 (Nat.le_of_ble_eq_true rfl) (tt_at 407 rfl rfl) rfl (by decide +kernel) ?_
  refine k_aload_n (k := 0) (x := b) S (by decide +kernel) rfl ?_
  refine k_get (j := 5) (v := .ref (b + 37)) S hF cd11 (Nat.le_of_ble_eq_true rfl) (tt_at 408 rfl rfl) rfl (by decide +kernel) ?_
  refine k_init (n := 4) (x := 57) (A := .inr (11, [.ref (b + 1), .ref (b + 4), .ref (b + 9), .ref (b + 11), .ref (b + 26), .ref (b + 37), .null, .null, .null, .null]) :: _) (as := [.ref (b + 1), .ref (b + 4), .ref (b + 26), .ref (b + 37)]) (st := [.ref (b + 43), .ref b]) S hF (ci_tab (l := l) (G := G) (cA := cA) (b := b + 43) (b + 1) (b + 4) (b + 26) (b + 37)) (tt_at 286 rfl rfl) (tt_at 288 rfl rfl) (tt_at 81 rfl rfl) (tt_at 287 rfl rfl) ⟨rfl, by decide +kernel, by decide +kernel, by decide +kernel⟩ rfl ⟨(Nat.le_of_ble_eq_true rfl), (Nat.le_of_ble_eq_true rfl)⟩ (Nat.le_of_lt (by rw [hs0]; exact Nat.lt_succ_self b)) (by rw [hs0]; rfl) rfl rfl rfl ⟨(Nat.le_of_ble_eq_true rfl), (Nat.le_of_ble_eq_true rfl)⟩ (by decide +kernel) ?_
  refine k_put (j := 6) (fs' := [.ref (b + 1), .ref (b + 4), .ref (b + 9), .ref (b + 11), .ref (b + 26), .ref (b + 37), .ref (b + 43), .null, .null, .null]) S hF hin cd11 (Nat.le_of_ble_eq_true rfl) (tt_at 409 rfl rfl) rfl rfl rfl rfl (Nat.le_of_ble_eq_true rfl) rfl (by decide +kernel) ?_
  refine k_aload_n (k := 0) (x := b) S (by decide +kernel) rfl ?_
  refine k_new' (fs := [.null, .null, .null, .null, .null, .null, .null, .null, .int 0]) (a := b + 46) S hF cd5 (tt_at 313 rfl rfl) (tt_at 314 rfl rfl) (tt_at 82 rfl rfl) df5 (Nat.le_of_lt (by rw [hs0]; exact Nat.lt_succ_self b)) (by rw [hs0]; rfl) (Nat.le_of_ble_eq_true rfl) (Nat.le_of_ble_eq_true rfl) (by decide +kernel) rfl ?_
  refine k_dup S (by decide +kernel) ?_
  refine k_aload_n (k := 0) (x := b) S (by decide +kernel) rfl ?_
  refine k_get (j := 1) (v := .ref (b + 4)) S hF cd11 (Nat.le_of_ble_eq_true rfl) (tt_at 404 rfl rfl) rfl (by decide +kernel) ?_
  refine k_aload_n (k := 0) (x := b) S (by decide +kernel) rfl ?_
  refine k_get (j := 4) (v := .ref (b + 26)) S hF cd11 (Nat.le_of_ble_eq_true rfl) (tt_at 407 rfl rfl) rfl (by decide +kernel) ?_
  refine k_aload_n (k := 0) (x := b) S (by decide +kernel) rfl ?_
  refine k_get (j := 5) (v := .ref (b + 37)) S hF cd11 (Nat.le_of_ble_eq_true rfl) (tt_at 408 rfl rfl) rfl (by decide +kernel) ?_
  refine k_init (n := 3) (x := 66) (A := .inr (11, [.ref (b + 1), .ref (b + 4), .ref (b + 9), .ref (b + 11), .ref (b + 26), .ref (b + 37), .ref (b + 43), .null, .null, .null]) :: _) (as := [.ref (b + 4), .ref (b + 26), .ref (b + 37)]) (st := [.ref (b + 46), .ref b]) S hF (ci_mrk (l := l) (G := G) (cA := cA) (b := b + 46) (b + 4) (b + 26) (b + 37)) (tt_at 315 rfl rfl) (tt_at 317 rfl rfl) (tt_at 82 rfl rfl) (tt_at 316 rfl rfl) ⟨rfl, by decide +kernel, by decide +kernel, by decide +kernel⟩ rfl ⟨(Nat.le_of_ble_eq_true rfl), (Nat.le_of_ble_eq_true rfl)⟩ (Nat.le_of_lt (by rw [hs0]; exact Nat.lt_succ_self b)) (by rw [hs0]; rfl) rfl rfl rfl ⟨(Nat.le_of_ble_eq_true rfl), (Nat.le_of_ble_eq_true rfl)⟩ (by decide +kernel) ?_
  refine k_put (j := 7) (fs' := [.ref (b + 1), .ref (b + 4), .ref (b + 9), .ref (b + 11), .ref (b + 26), .ref (b + 37), .ref (b + 43), .ref (b + 46), .null, .null]) S hF hin cd11 (Nat.le_of_ble_eq_true rfl) (tt_at 410 rfl rfl) rfl rfl rfl rfl (Nat.le_of_ble_eq_true rfl) rfl (by decide +kernel) ?_
  refine k_aload_n (k := 0) (x := b) S (by decide +kernel) rfl ?_
  refine k_new' (fs := [.null, .null, .int 0, .int 0, .int 0, .int 0]) (a := b + 52) S hF cd0 (tt_at 347 rfl rfl) (tt_at 348 rfl rfl) (tt_at 83 rfl rfl) df0 (Nat.le_of_lt (by rw [hs0]; exact Nat.lt_succ_self b)) (by rw [hs0]; rfl) (Nat.le_of_ble_eq_true rfl) (Nat.le_of_ble_eq_true rfl) (by decide +kernel) rfl ?_
  refine k_dup S (by decide +kernel) ?_
  refine k_initN (n := 0) (x := 75) (A := .inr (11, [.ref (b + 1), .ref (b + 4), .ref (b + 9), .ref (b + 11), .ref (b + 26), .ref (b + 37), .ref (b + 43), .ref (b + 46), .null, .null]) :: _) (as := []) (st := [.ref (b + 52), .ref b]) (host := "RowDrawer") S hF (ci_bst (l := l) (G := G) (cA := cA) (b := b + 52)) (by decide) (tt_at 351 rfl rfl) (tt_at 83 rfl rfl) (tt_at 350 rfl rfl) ⟨rfl, by decide +kernel, by decide +kernel, by decide +kernel⟩ rfl ⟨(Nat.le_of_ble_eq_true rfl), (Nat.le_of_ble_eq_true rfl)⟩ (Nat.le_of_lt (by rw [hs0]; exact Nat.lt_succ_self b)) (by rw [hs0]; rfl) rfl rfl rfl ⟨(Nat.le_of_ble_eq_true rfl), (Nat.le_of_ble_eq_true rfl)⟩ (by decide +kernel) ?_
  refine k_put (j := 8) (fs' := [.ref (b + 1), .ref (b + 4), .ref (b + 9), .ref (b + 11), .ref (b + 26), .ref (b + 37), .ref (b + 43), .ref (b + 46), .ref (b + 52), .null]) S hF hin cd11 (Nat.le_of_ble_eq_true rfl) (tt_at 411 rfl rfl) rfl rfl rfl rfl (Nat.le_of_ble_eq_true rfl) rfl (by decide +kernel) ?_
  refine k_aload_n (k := 0) (x := b) S (by decide +kernel) rfl ?_
  refine k_new' (fs := [.null, .null, .null, .null, .null, .int 0, .int 0, .int 0]) (a := b + 55) S hF cd3 (tt_at 372 rfl rfl) (tt_at 373 rfl rfl) (tt_at 84 rfl rfl) df3 (Nat.le_of_lt (by rw [hs0]; exact Nat.lt_succ_self b)) (by rw [hs0]; rfl) (Nat.le_of_ble_eq_true rfl) (Nat.le_of_ble_eq_true rfl) (by decide +kernel) rfl ?_
  refine k_dup S (by decide +kernel) ?_
  refine k_aload_n (k := 0) (x := b) S (by decide +kernel) rfl ?_
  refine k_get (j := 0) (v := .ref (b + 1)) S hF cd11 (Nat.le_of_ble_eq_true rfl) (tt_at 403 rfl rfl) rfl (by decide +kernel) ?_
  refine k_aload_n (k := 0) (x := b) S (by decide +kernel) rfl ?_
  refine k_get (j := 1) (v := .ref (b + 4)) S hF cd11 (Nat.le_of_ble_eq_true rfl) (tt_at 404 rfl rfl) rfl (by decide +kernel) ?_
  refine k_aload_n (k := 0) (x := b) S (by decide +kernel) rfl ?_
  refine k_get (j := 7) (v := .ref (b + 46)) S hF cd11 (Nat.le_of_ble_eq_true rfl) (tt_at 410 rfl rfl) rfl (by decide +kernel) ?_
  refine k_init (n := 3) (x := 82) (A := .inr (11, [.ref (b + 1), .ref (b + 4), .ref (b + 9), .ref (b + 11), .ref (b + 26), .ref (b + 37), .ref (b + 43), .ref (b + 46), .ref (b + 52), .null]) :: _) (as := [.ref (b + 1), .ref (b + 4), .ref (b + 46)]) (st := [.ref (b + 55), .ref b]) S hF (ci_les (l := l) (G := G) (cA := cA) (b := b + 55) (b + 1) (b + 4) (b + 46)) (tt_at 374 rfl rfl) (tt_at 376 rfl rfl) (tt_at 84 rfl rfl) (tt_at 375 rfl rfl) ⟨rfl, by decide +kernel, by decide +kernel, by decide +kernel⟩ rfl ⟨(Nat.le_of_ble_eq_true rfl), (Nat.le_of_ble_eq_true rfl)⟩ (Nat.le_of_lt (by rw [hs0]; exact Nat.lt_succ_self b)) (by rw [hs0]; rfl) rfl rfl rfl ⟨(Nat.le_of_ble_eq_true rfl), (Nat.le_of_ble_eq_true rfl)⟩ (by decide +kernel) ?_
  refine k_put (j := 9) (fs' := [.ref (b + 1), .ref (b + 4), .ref (b + 9), .ref (b + 11), .ref (b + 26), .ref (b + 37), .ref (b + 43), .ref (b + 46), .ref (b + 52), .ref (b + 55)]) S hF hin cd11 (Nat.le_of_ble_eq_true rfl) (tt_at 412 rfl rfl) rfl rfl rfl rfl (Nat.le_of_ble_eq_true rfl) rfl (by decide +kernel) ?_
  exact k_ret S hr hlk (by decide +kernel)
