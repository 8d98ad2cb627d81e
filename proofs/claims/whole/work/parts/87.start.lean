set_option maxRecDepth 100000
/-! THE LAW'S START: both constructors, the out row, and what is given -/
theorem arr_at {args : Array Value} {s : State} {ty : FieldType} (h : (Cond.arrayClass ty).before args s = true) (hp : ty = .int ∨ ty = .boolean ∨ ty = .char ∨ ty = .long) : ∃ cB, ArrOfT s cB ty ∧ va_RA s cB ty := by
  obtain ⟨cB, k, comp, h1, h2, h3⟩ := Cond.arrayClass_spec h
  refine ⟨cB, fun n z => ⟨fun k h => (by cases h), k, h2, comp, h3⟩, ?_⟩
  rcases hp with rfl | rfl | rfl | rfl <;> exact h1
theorem vw_all : ∀ r ∈ vwCl, (∀ w ∈ u_ws r.1 r.2.1 r.2.2, w ∈ TT) ∧ Cond.instantiable r.1 r.2.2 ∈ TT := List.forall_mem_cons.mpr ⟨⟨inX0, tt_at 348 rfl rfl⟩, List.forall_mem_cons.mpr ⟨⟨inX1, tt_at 190 rfl rfl⟩, List.forall_mem_cons.mpr ⟨⟨inX2, tt_at 254 rfl rfl⟩, List.forall_mem_cons.mpr ⟨⟨inX3, tt_at 373 rfl rfl⟩, List.forall_mem_cons.mpr ⟨⟨inX4, tt_at 108 rfl rfl⟩, List.forall_mem_cons.mpr ⟨⟨inX5, tt_at 314 rfl rfl⟩, List.forall_mem_cons.mpr ⟨⟨inX6, tt_at 165 rfl rfl⟩, List.forall_mem_cons.mpr ⟨⟨inX7, tt_at 122 rfl rfl⟩, List.forall_mem_cons.mpr ⟨⟨inX8, tt_at 285 rfl rfl⟩, List.forall_mem_cons.mpr ⟨⟨inX9, tt_at 151 rfl rfl⟩, List.forall_mem_cons.mpr ⟨⟨inX10, tt_at 171 rfl rfl⟩, List.forall_mem_cons.mpr ⟨⟨inX11, tt_at 100 rfl rfl⟩, List.forall_mem_cons.mpr ⟨⟨inX12, tt_at 1233 rfl rfl⟩, fun _ h => absurd h List.not_mem_nil⟩⟩⟩⟩⟩⟩⟩⟩⟩⟩⟩⟩⟩
theorem known {args : Array Value} {s : State} (hts : ∀ w ∈ TT, w.before args s = true) : ∃ (G : va_G) (cA : FieldType → ClassId), va_K G vwCl (tysA cA) s := by
  have h0 : ∀ k : Nat, ∃ q : ClassId × (Nat → Nat), ∀ r : vw_C, vwCl[k]? = some r → u_Kn s r.1 r.2.1 r.2.2 q.1 q.2 := by
    intro k
    cases hk : vwCl[k]? with
    | none => exact ⟨(0, fun _ => 0), fun r h => by cases h⟩
    | some r =>
      obtain ⟨a1, a2⟩ := vw_all r (List.mem_of_getElem? hk)
      obtain ⟨cC, iS, h⟩ := u_known hts a1 (hts _ a2)
      exact ⟨(cC, iS), fun r' h' => by cases h'; exact h⟩
  obtain ⟨g, hg⟩ := Classical.axiomOfChoice h0
  obtain ⟨cI, hI⟩ := arr_at (hts (.arrayClass .int) (tt_at 120 rfl rfl)) (Or.inl rfl)
  obtain ⟨cB, hB⟩ := arr_at (hts (.arrayClass .boolean) (tt_at 149 rfl rfl)) (Or.inr (Or.inl rfl))
  obtain ⟨cC, hC⟩ := arr_at (hts (.arrayClass .char) (tt_at 163 rfl rfl)) (Or.inr (Or.inr (Or.inl rfl)))
  obtain ⟨cL, hL⟩ := arr_at (hts (.arrayClass .long) (tt_at 312 rfl rfl)) (Or.inr (Or.inr (Or.inr rfl)))
  refine ⟨(fun k => (g k).1, fun k => (g k).2), fun ty => match ty with | .int => cI | .boolean => cB | .char => cC | _ => cL, fun k q hq => hg k q hq, fun k q hq => ?_⟩
  match k, hq with
  | 0, hq => cases hq; exact hI
  | 1, hq => cases hq; exact hB
  | 2, hq => cases hq; exact hC
  | 3, hq => cases hq; exact hL
  | k + 4, hq => cases hq
def gvL : List Cond := flatC (Jvm.Cond.and given_1 narrow_1)
def tmS (i : Nat) : Term := .string "RowDrawer$Tokens" (sIdx i)
theorem gv_ex : ∀ i : Nat, i < 10 → Cond.exactly (tmS i) "java/lang/String" ∈ gvL := by decide +kernel
theorem gv_co : ∀ i : Nat, i < 10 → Cond.eq (.field (tmS i) "java/lang/String" "coder" "B") (.int 0) ∈ gvL := by decide +kernel
theorem gv_ar : ∀ i : Nat, i < 10 → Cond.arrayOf (.field (tmS i) "java/lang/String" "value" "[B") .byte ∈ gvL := by decide +kernel
theorem gv_le : ∀ i : Nat, i < 10 → Cond.eq (.length (.field (tmS i) "java/lang/String" "value" "[B")) (.int (Int32.ofNat (sLen.getD i 0))) ∈ gvL := by decide +kernel
theorem gv_el : ∀ i : Nat, i < 10 → ∀ j : Nat, j < sLen.getD i 0 → Cond.eq (.elem (.field (tmS i) "java/lang/String" "value" "[B") (.int (Int32.ofNat j))) (.int ((sByt.getD i []).getD j 0)) ∈ gvL := by decide +kernel
theorem gv_ne : ∀ i : Nat, i < 10 → ∀ j : Nat, j < 10 → i ≠ j → Cond.not (Cond.eq (tmS i) (tmS j)) ∈ gvL ∨ Cond.not (Cond.eq (tmS j) (tmS i)) ∈ gvL := by decide +kernel
theorem gv_sr : ∀ i : Nat, i < 10 → Cond.stringRef "RowDrawer$Tokens" (sIdx i) (sTxt i) ∈ lw_tbl := by decide +kernel
theorem vk_S.cg {N : Nat} {len : List Nat} {byt : List (List Int32)} {aK aV aK' aV' : Nat → Nat} {A : Nat → Prop} {U : State} {H : Heap} (h : vk_S N len byt aK aV A U H) (h1 : ∀ i, i < N → aK' i = aK i) (h2 : ∀ i, i < N → aV' i = aV i) : vk_S N len byt aK' aV' A U H :=
  ⟨fun i hi => by rw [h1 i hi, h2 i hi]; exact h.1 i hi, fun i j hi hj e => h.2 i j hi hj (by rw [← h1 i hi, ← h1 j hj]; exact e)⟩
theorem adL_K (z b : Nat) (aK aV : Nat → Nat) (fz rt : Nat) : ∀ k, k < 10 → adL z b aK aV fz rt (200 + k) = aK k := fun k hk => by
  match k, hk with
  | 0, _ => rfl
  | 1, _ => rfl
  | 2, _ => rfl
  | 3, _ => rfl
  | 4, _ => rfl
  | 5, _ => rfl
  | 6, _ => rfl
  | 7, _ => rfl
  | 8, _ => rfl
  | 9, _ => rfl
  | k + 10, h => omega
theorem adL_V (z b : Nat) (aK aV : Nat → Nat) (fz rt : Nat) : ∀ k, k < 10 → adL z b aK aV fz rt (300 + k) = aV k := fun k hk => by
  match k, hk with
  | 0, _ => rfl
  | 1, _ => rfl
  | 2, _ => rfl
  | 3, _ => rfl
  | 4, _ => rfl
  | 5, _ => rfl
  | 6, _ => rfl
  | 7, _ => rfl
  | 8, _ => rfl
  | 9, _ => rfl
  | k + 10, h => omega
theorem facts {p : Program} {s : State} {m : MethodId} {meth : Method} {c : Code} {b L : Nat} {xs : Nat → Int32} (C0 : lw_At p s m meth c b L xs) : ∃ (G : va_G) (cA : FieldType → ClassId) (aK aV : Nat → Nat) (fz rt : Nat), Fc G cA s ∧ Fx G cA (adL s.heap.size b aK aV fz rt) s.heap.size s ∧ Ft (adL s.heap.size b aK aV fz rt) s.heap.size s := by
  obtain ⟨hx, hb, hr, hml, hown, hts, hX, hbl, hlocks, hgv⟩ := C0
  have htt : ∀ w ∈ TT, w.before #[Value.ref b] s = true := fun w hw => hts w (List.mem_filter.mp hw).1
  have hg : ∀ w ∈ gvL, w.before #[Value.ref b] s = true := flat_of_before _ hgv
  obtain ⟨G, cA, hK⟩ := known htt
  have hA : ∀ a : Nat, a < s.heap.size → ¬ (fun q : Nat => s.heap.size ≤ q) a := fun a h => Nat.not_le.mpr h
  obtain ⟨aK, aV, hS, hE⟩ := vk_Sof (args := #[Value.ref b]) (s := s) (N := 10) (tm := tmS) (len := sLen) (byt := sByt) (A := fun q => s.heap.size ≤ q) (by decide) (fun i hi => hg _ (gv_ex i hi)) (fun i hi => hg _ (gv_co i hi)) (fun i hi => hg _ (gv_ar i hi)) (fun i hi => hg _ (gv_le i hi)) (fun i hi j hj => hg _ (gv_el i hi j hj)) (fun i j hi hj hn => (gv_ne i hi j hj hn).imp (hg _) (hg _)) hA
  have hZ1 : va_Z "java/lang/String" "COMPACT_STRINGS" "Z" (.int 1) (fun q => s.heap.size ≤ q) s s.heap := va_Zof (hts (.laysStatic "java/lang/String" "COMPACT_STRINGS" "Z") (List.mem_of_getElem? (i := 579) rfl)) (hts (.initialized "java/lang/String") (List.mem_of_getElem? (i := 87) rfl)) (va_eqt (hg (.eq (.static "java/lang/String" "COMPACT_STRINGS" "Z") (.int 1)) (by decide +kernel))) hA
  have hZ2 : va_Zq "jdk/internal/util/Preconditions" "SIOOBE_FORMATTER" "Ljava/util/function/BiFunction;" (fun q => s.heap.size ≤ q) s s.heap := va_Zqof (hts (.laysStatic "jdk/internal/util/Preconditions" "SIOOBE_FORMATTER" "Ljava/util/function/BiFunction;") (List.mem_of_getElem? (i := 595) rfl)) (hts (.initialized "jdk/internal/util/Preconditions") (List.mem_of_getElem? (i := 89) rfl)) (hg (.isRef (.static "jdk/internal/util/Preconditions" "SIOOBE_FORMATTER" "Ljava/util/function/BiFunction;")) (by decide +kernel)) hA
  have hZ3 : vx_Zq Bundle.tN "UNASSIGNED_STACK" Bundle.steD (fun q => s.heap.size ≤ q) s s.heap := vx_Zqof (hts (.laysStatic Bundle.tN "UNASSIGNED_STACK" Bundle.steD) (List.mem_of_getElem? (i := 1171) rfl)) (hts (.initialized Bundle.tN) (List.mem_of_getElem? (i := 95) rfl)) (hg (.isRef (.static Bundle.tN "UNASSIGNED_STACK" Bundle.steD)) (by decide +kernel)) hA
  have hZ4 : vx_Zq Bundle.tN "SUPPRESSED_SENTINEL" Bundle.listD (fun q => s.heap.size ≤ q) s s.heap := vx_Zqof (hts (.laysStatic Bundle.tN "SUPPRESSED_SENTINEL" Bundle.listD) (List.mem_of_getElem? (i := 1173) rfl)) (hts (.initialized Bundle.tN) (List.mem_of_getElem? (i := 95) rfl)) (hg (.isRef (.static Bundle.tN "SUPPRESSED_SENTINEL" Bundle.listD)) (by decide +kernel)) hA
  obtain ⟨rt, cR, cB, kB, q1, -⟩ := Cond.exactly_spec (args := #[Value.ref b]) (first := s) (o := none) (s := s) (idx := []) (t := .string "RowDrawer" 183) (cls := "java/lang/String") (hg (.exactly (.string "RowDrawer" 183) "java/lang/String") (by decide +kernel))
  obtain ⟨fz, hfz⟩ : ∃ fz : Nat, va_Z "jdk/internal/util/Preconditions" "SIOOBE_FORMATTER" "Ljava/util/function/BiFunction;" .null (fun q => s.heap.size ≤ q) s s.heap ∨ va_Z "jdk/internal/util/Preconditions" "SIOOBE_FORMATTER" "Ljava/util/function/BiFunction;" (.ref fz) (fun q => s.heap.size ≤ q) s s.heap := by
    rcases hZ2 with h | ⟨t, h⟩
    · exact ⟨0, Or.inl h⟩
    · exact ⟨t, Or.inr h⟩
  have hAA : ∀ q, AA (adL s.heap.size b aK aV fz rt) s.heap.size q → s.heap.size ≤ q := by
    rintro q (⟨i, hi, e⟩ | h)
    · rw [e, adL_lt hi]
      omega
    · exact h
  refine ⟨G, cA, aK, aV, fz, rt, ⟨hK, fun q hq => ?_⟩, ⟨hK, fun q hq => ?_, fun k hk => ?_, ?_, hZ1.narrow hAA, hfz.imp (fun z => z.narrow hAA) (fun z => z.narrow hAA)⟩, hZ3.narrow hAA, hZ4.narrow hAA, ?_, fun w hw => ?_⟩
  · refine va_Nw.of rfl (hts _ ?_)
    have h : ∀ q ∈ nestI, Cond.methodLinkNest q.1 q.2.1 q.2.2.1 q.2.2.2 ∈ lw_tbl := by decide +kernel
    exact h q hq
  · refine va_Nw.of rfl (hts _ ?_)
    have h : ∀ q ∈ nestL, Cond.methodLinkNest q.1 q.2.1 q.2.2.1 q.2.2.2 ∈ lw_tbl := by decide +kernel
    exact h q hq
  · rw [adL_K _ _ _ _ _ _ k hk]
    exact vk_R.of (A := #[Value.ref b]) (hts _ (gv_sr k hk)) (hE k hk)
  · exact (hS.cg (adL_K _ _ _ _ _ _) (adL_V _ _ _ _ _ _)).narrow hAA
  · exact vk_R.of (A := #[Value.ref b]) (hts (.stringRef "RowDrawer" 183 ruT) (List.mem_of_getElem? (i := 1183) rfl)) q1
  · refine va_Nw.of (nw_tab w hw) (hts _ ?_)
    have h : ∀ w ∈ nwL, w ∈ lw_tbl := by decide +kernel
    exact h w hw
theorem N_row_len (cA : FieldType → ClassId) (z : Nat) : (N_row cA z).length = 58 := by
  simp only [N_lex, N_sen, N_tap, N_tok, N_bok, N_rdr, N_fin, N_tab, N_mrk, N_bst, N_les, N_row, List.length_append, List.length_cons, List.length_nil]
theorem Nm_len (cA : FieldType → ClassId) (z : Nat) (f : Nat → Int32) : (Nm cA z f).length = 37 := rfl
theorem k_istore {p : Program} {l : Launch} {e : Env} {R : Room} {s : State} {m : MethodId} {args : Array Value} {below : List Frame} {meth : Method} {c : Code} {G : va_G} {cA : FieldType → ClassId} {b nL : Nat} {Q : State → Prop} {cc : ByteArray} {own : String} {cells slots pc : Nat} {lv : List (Nat × Value)} {st : List Value} {M : List va_E} {k : Nat} {x : Int32} {lv' : List (Nat × Value)} (S : CallFix p m c cc nL s args TT own) (hd : decode cc pc = .ok (.istore k, 2)) (hn : k < nL) (hl' : lput1 lv k (.int x) = lv') (kk : CZ p l e R s m args below meth c G cA b nL Q cells slots (pc + 2) lv' st M) : CZ p l e R s m args below meth c G cA b nL Q cells slots pc lv (.int x :: st) M := fun H locs ls hP hS hl => lv_istore (lv' := lv') S.1 S.2.1 hd hl hn hl' (fun ls2 hl2 => kk H locs ls2 hP hS hl2)
theorem whole_start {p : Program} {e : Env} {s : State} {m : MethodId} {below : List Frame} {meth : Method} {c : Code} (l : Launch) (hlt : l.stackTraces = false) {b L : Nat} {xs : Nat → Int32} (hL : L ≤ 3584) (C0 : lw_At p s m meth c b L xs) : W p l e room_1 s m #[Value.ref b] below meth c s.heap [] 0 0 (lw_Z below #[Value.ref b] s) (entryFrame m ([Value.ref b] : List Value).toArray 7) := by
  obtain ⟨G, cA, aK, aV, fz, rt, hF, hFx, hFt⟩ := facts C0
  obtain ⟨hx, hb, hr, hml, hown, hts, hX, hbl, hlocks, hgv⟩ := C0
  have S : CallFix p m c code 7 s #[Value.ref b] TT "RowDrawerLaw" := ⟨hx, hb, hml, hown, fun w hw => hts w (List.mem_filter.mp hw).1⟩
  obtain ⟨z, hz⟩ : ∃ z, z = s.heap.size := ⟨_, rfl⟩
  have hl := lv_entry ([.ref b]) (n := 7) (Nat.le_of_ble_eq_true rfl)
  rw [lg_entry_eq]
  suffices key : CZ p l e room_1 s m #[Value.ref b] below meth c G cA z 7 (lw_Z below #[Value.ref b] s) 0 0 0 [(0, .ref b)] [] [] from key s.heap [] _ (fun k q h => by cases h) va_S.rf hl
  have C : LC p l s m meth c b L xs G cA (adL z b aK aV fz rt) := by
    rw [← hz] at hFx hFt
    refine ⟨S, ⟨hr, hlocks⟩, ⟨hX, hbl, hL⟩, ⟨by rw [← hz]; exact hFx, adL_inj _ _ _ _ _ _, by rw [← hz]; exact hFt⟩, ⟨rfl, fun i hi => ?_, ?_, fun i hi => ?_⟩, hlt⟩
    · rw [adL_lt hi]
      have := pm_lt i hi
      show z + 95 ≠ z + pmL.getD i 0
      omega
    · show s.heap.size ≤ z + 95
      omega
    · rw [adL_lt hi]
      omega
  have zle : z ≤ s.heap.size := by omega
  refine k_new (x := 8) (ci := 11) (fs := [.null, .null, .null, .null, .null, .null, .null, .null, .null, .null]) S hF cd11 (tt_at 99 rfl rfl) (tt_at 100 rfl rfl) (tt_at 73 rfl rfl) df11 zle (by rw [← hz]; rfl) (Nat.le_of_ble_eq_true rfl) (Nat.le_of_ble_eq_true rfl) (by decide +kernel) ?_
  refine k_dup (x := z) S (by decide +kernel) ?_
  refine k_init (n := 0) (x := 15) (a := z) (A := []) (as := []) (st := [.ref z]) S hF (ci_row (l := l) (G := G) (cA := cA) (b := z)) (tt_at 101 rfl rfl) (tt_at 103 rfl rfl) (tt_at 73 rfl rfl) (tt_at 102 rfl rfl) ⟨rfl, by decide +kernel, by decide +kernel, by decide +kernel⟩ rfl ⟨Nat.le_of_ble_eq_true rfl, Nat.le_of_ble_eq_true rfl⟩ zle (by rw [← hz]; rfl) rfl rfl rfl ⟨Nat.le_of_ble_eq_true rfl, Nat.le_of_ble_eq_true rfl⟩ (by decide +kernel) ?_
  refine k_astore_n (k := 1) (lv' := [(1, .ref z), (0, .ref b)]) S (by decide +kernel) (by decide) rfl ?_
  have e58 := N_row_len cA z
  show CZ p l e room_1 s m #[Value.ref b] below meth c G cA z 7 (lw_Z below #[Value.ref b] s) 58 15893 8 [(1, .ref z), (0, .ref b)] [] (N_row cA z)
  refine k_new (x := 16) (ci := 12) (fs := [.int 0, .null, .int 0, .int 0, .null, .null, .null, .int 0, .int 0, .null, .int 0, .int 0, .null, .null, .null, .null, .null, .null, .null, .null, .null, .null, .null, .null, .int 0, .int 0, .null, .null, .int 0, .null, .int 0, .null, .null, .null, .int 0, .null, .null, .null, .null, .int 0, .null, .null, .null, .null, .null, .null, .null, .int 0, .int 0, .int 0, .null, .null]) S hF cd12 (tt_at 1235 rfl rfl) (tt_at 1233 rfl rfl) (tt_at 85 rfl rfl) df12 zle (by rw [← hz, e58]) (Nat.le_of_ble_eq_true rfl) (Nat.le_of_ble_eq_true rfl) (by decide +kernel) ?_
  rw [e58]
  refine k_dup (x := z + 58) S (by decide +kernel) ?_
  refine k_init (n := 0) (x := 18) (a := z + 58) (A := N_row cA z) (as := []) (st := [.ref (z + 58)]) S hF (ci_mod (l := l) (G := G) (cA := cA) (b := z + 58)) (tt_at 1236 rfl rfl) (tt_at 1238 rfl rfl) (tt_at 85 rfl rfl) (tt_at 1237 rfl rfl) ⟨rfl, by decide +kernel, by decide +kernel, by decide +kernel⟩ rfl ⟨Nat.le_of_ble_eq_true rfl, Nat.le_of_ble_eq_true rfl⟩ zle (by rw [← hz, List.length_append, e58]; rfl) (by rw [e58]) rfl rfl ⟨Nat.le_of_ble_eq_true rfl, Nat.le_of_ble_eq_true rfl⟩ (by decide +kernel) ?_
  refine k_astore_n (k := 2) (lv' := [(2, .ref (z + 58)), (1, .ref z), (0, .ref b)]) S (by decide +kernel) (by decide) rfl ?_
  have e95 : (N_row cA z ++ Nm cA (z + 58) (jof 101)).length = 95 := by rw [List.length_append, e58, Nm_len]
  refine k_iconst (n := 1) S (by decide +kernel) ?_
  refine k_newa (at' := .long) (ty := .long) (N := 1) S hF rfl (Or.inr (Or.inr (Or.inr rfl))) (by decide) (by decide) zle (by rw [← hz, e95]) (Nat.le_of_ble_eq_true rfl) (Nat.le_of_ble_eq_true rfl) (by decide +kernel) ?_
  rw [e95]
  refine k_astore_n (k := 3) (lv' := [(3, .ref (z + 95)), (2, .ref (z + 58)), (1, .ref z), (0, .ref b)]) S (by decide +kernel) (by decide) rfl ?_
  refine k_iconst (n := 0) S (by decide +kernel) ?_
  refine k_istore (k := 4) (lv' := [(4, .int (nI 0)), (3, .ref (z + 95)), (2, .ref (z + 58)), (1, .ref z), (0, .ref b)]) S (by decide +kernel) (by decide) rfl ?_
  intro H locs ls hP hS hl
  have hP : va_P G vwCl (num z (MTc cA z)) H := hP
  have hS' : va_S (AA (adL z b aK aV fz rt) s.heap.size) s.heap H locs := by
    refine ⟨hS.1, fun q a1 a2 => hS.2.1 q a1 (fun h => a2 (Or.inr (by rw [← hz]; exact h))), fun q hq => Or.inr (by rw [← hz]; exact hS.2.2 q hq)⟩
  exact l_loop C 513 0 w0 (fun _ => 0) 96 257862 (by omega) (by decide) (by decide) (by decide) w0_Inv H locs ls (w0_P hP) hS' (w0_out hP) (lv_sub hl [0, 4, 3, 2, 1] rfl)
