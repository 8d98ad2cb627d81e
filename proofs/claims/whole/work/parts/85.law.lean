set_option maxRecDepth 100000
/-! THE LAW'S BODY -/
def R_law : String := "RowDrawerLaw"
def lw_P (b : Addr) (xs : List Int32) (args : Array Value) (s : State) : Prop := args = #[.ref b] ∧ s.IntsAt b xs ∧ xs.length ≤ 3584 ∧ (Jvm.Cond.and given_1 narrow_1).before args s = true
def lw_Q (_ : Array Value) (s : State) (o : Outcome) (t : State) : Prop := o = .returned (some (.int 1)) ∧ Framed s o t [] 601024 7293034
def lw_Z (below : List Frame) (a : Array Value) (s : State) : State → Prop := fun t => ∃ o, t.status = .running ∧ Ended t below o ∧ lw_Q a s o t
theorem lw_ret {p : Program} {l : Launch} {e : Env} {s : State} {m : MethodId} {below : List Frame} {meth : Method} {c : Code} {b : Nat} (hx : p.tables.exec = Jvm.exec) (hb : c.code = code) (hr : meth.sig.returnType = ret) (hlocks : meth.locks = false) {pc : Nat} {H : Heap} {ls : Array Slot} (hdg : decode code pc = .ok (.ireturn, 1)) : W p l e room_1 s m #[Value.ref b] below meth c H [] 601024 7293034 (lw_Z below #[Value.ref b] s) (F0 m pc ls [.int 1]) := by
  intro T hT X
  obtain ⟨fs, hret, hrun, hended, hW, hframe⟩ := X.leave (v := some (.int 1)) (hlocks := hlocks) (fun h => by rw [hr] at h; cases h)
  have hmeth' : T.vm.method? m = some meth := X.method'
  refine ⟨T.setFrames fs, ?_, .returned (some (.int 1)), hrun, hended, rfl, ⟨_, rfl⟩, hW, hframe⟩
  jvm_step X.here [X.here.top, hx, hb, hdg, hmeth', hr, ret, narrow_b1]
  (try refine ⟨rfl, ?_⟩); (try refine ⟨rfl, ?_⟩)
  first | (intro acts; rw [hret _ acts rfl rfl rfl]) | rw [hret _ _ rfl rfl rfl]
  exact Steps.refl _
def lw_At (p : Program) (s : State) (m : MethodId) (meth : Method) (c : Code) (b L : Nat) (xs : Nat → Int32) : Prop :=
  p.tables.exec = Jvm.exec ∧ c.code = code ∧ meth.sig.returnType = ret ∧ c.maxLocals = 7 ∧ s.vm.findClass R_law = some m.cls ∧ (∀ w ∈ lw_tbl, w.before #[Value.ref b] s = true) ∧ va_X b L xs s s.heap ∧ b < s.heap.size ∧ meth.locks = false ∧ (Jvm.Cond.and given_1 narrow_1).before #[Value.ref b] s = true
/-- the out row -/
def Kf (G : va_G) (cA : FieldType → ClassId) (ad : Nat → Nat) (f : Nat → Int64) : Heap → Prop := fun H => va_P G vwCl [(ad 501, outE cA f)] H
def LC (p : Program) (l : Launch) (s : State) (m : MethodId) (meth : Method) (c : Code) (b L : Nat) (xs : Nat → Int32) (G : va_G) (cA : FieldType → ClassId) (ad : Nat → Nat) : Prop :=
  CallFix p m c code 7 s #[Value.ref b] TT "RowDrawerLaw" ∧ (meth.sig.returnType = ret ∧ meth.locks = false) ∧ (va_X b L xs s s.heap ∧ b < s.heap.size ∧ L ≤ 3584) ∧ (Fx G cA ad s.heap.size s ∧ Inj ad ∧ Ft ad s.heap.size s) ∧ (ad 500 = b ∧ (∀ i, i < NS → ad 501 ≠ ad i) ∧ s.heap.size ≤ ad 501 ∧ ∀ i, i < NS → s.heap.size ≤ ad i) ∧ l.stackTraces = false
def lvL (i : Nat) : List (Nat × Value) := [(4, .int (nI i)), (0, .ref 500), (1, .ref 57), (2, .ref 58), (3, .ref 501)]
/-- script[i + k] onto the stack -/
def argB (pc k : Nat) : Prop := decode code pc = .ok (.aload_n 0, 1) ∧ decode code (pc + 1) = .ok (.iload 4, 2) ∧ decode code (pc + 3) = .ok (.iconst k, 1) ∧ decode code (pc + 4) = .ok (.iadd, 1) ∧ decode code (pc + 5) = .ok (.iaload, 1)
def argC (pc k : Nat) : Prop := decode code pc = .ok (.aload_n 0, 1) ∧ decode code (pc + 1) = .ok (.iload 4, 2) ∧ decode code (pc + 3) = .ok (.bipush k, 2) ∧ decode code (pc + 5) = .ok (.iadd, 1) ∧ decode code (pc + 6) = .ok (.iaload, 1)
def booB (pc : Nat) : Prop := decode code pc = .ok (.ifCond .eq 7, 3) ∧ decode code (pc + 3) = .ok (.iconst 1, 1) ∧ decode code (pc + 4) = .ok (.goto 4, 3) ∧ decode code (pc + 7) = .ok (.iconst 0, 1)
def bv (x : Int32) : Int32 := if x = 0 then 0 else 1
theorem bv_01 (x : Int32) : bv x = 0 ∨ bv x = 1 := by
  unfold bv
  by_cases h : x = 0
  · exact Or.inl (if_pos h)
  · exact Or.inr (if_neg h)
def jl (x y : Int32) : Int64 := (x.toInt64 <<< ((iI 32).toInt64 &&& 63)) ||| (y.toInt64 &&& 4294967295)
def lonB (pc : Nat) : Prop := decode code pc = .ok (.i2l, 1) ∧ decode code (pc + 1) = .ok (.bipush 32, 2) ∧ decode code (pc + 3) = .ok (.lshl, 1)
def lonC (pc : Nat) : Prop := decode code pc = .ok (.i2l, 1) ∧ decode code (pc + 1) = .ok (.ldc2_w 43, 3) ∧ decode code (pc + 4) = .ok (.land, 1) ∧ decode code (pc + 5) = .ok (.lor, 1)
theorem swc_of {x : Int32} {df : Int} {pc : Nat} {K : Nat → Prop} (hd : jp pc df K) : ∀ (l : List (Int × Int)), (∀ q ∈ l, jp pc q.2 K) → swc x df pc K l
  | [], _ => hd
  | q :: t, h => by
    have ih := swc_of hd (x := x) t (fun z hz => h z (List.mem_cons_of_mem _ hz))
    obtain ⟨tg, h1, h2⟩ := jp_inv (h q List.mem_cons_self)
    show jp pc q.2 fun tg => (x = iI q.1 → K tg) ∧ (¬ x = iI q.1 → swc x df pc K t)
    unfold jp
    rw [h1]
    exact ⟨fun _ => h2, fun _ => ih⟩
theorem jp_of {pc tg : Nat} {off : Int} {K : Nat → Prop} (h : (pc : Int) + off = (tg : Int)) (k : K tg) : jp pc off K := by
  unfold jp
  rw [h]
  exact k
theorem cmp_self (x : Int64) : lg_cmp x x = 0 := by
  simp [lg_cmp]
section
variable {p : Program} {l : Launch} {e : Env} {s : State} {m : MethodId} {below : List Frame} {meth : Method} {c : Code} {b L : Nat} {xs : Nat → Int32} {G : va_G} {cA : FieldType → ClassId} {ad : Nat → Nat} {f : Nat → Int64} {cells slots pc i : Nat} {lv : List (Nat × Value)} {st : List Value} {w : Wd}
theorem Kf_st (hOa : ∀ i, i < NS → ad 501 ≠ ad i) : Kst ad (Kf G cA ad f) := by
  intro H H1 hz hk hK
  have hlt : ad 501 < H.size := (hK 0 _ rfl).lt
  refine one_cell hK (hk _ hlt ?_)
  rintro (⟨i, hi, e⟩ | h)
  · exact hOa i hi e
  · omega
theorem LC.notA (C : LC p l s m meth c b L xs G cA ad) : ¬ AA ad s.heap.size b := by
  rintro (⟨i, hi, e⟩ | h)
  · have := C.2.2.2.2.1.2.2.2 i hi
    have := C.2.2.1.2.1
    omega
  · have := C.2.2.1.2.1
    omega
theorem l_pick (ks : List Nat) (h : GZ p l e room_1 s m #[Value.ref b] below meth c G cA ad 7 (Kf G cA ad f) (lw_Z below #[Value.ref b] s) cells slots pc (lpick lv ks) st w) : GZ p l e room_1 s m #[Value.ref b] below meth c G cA ad 7 (Kf G cA ad f) (lw_Z below #[Value.ref b] s) cells slots pc lv st w := fun H locs ls hP hS hK hl => h H locs ls hP hS hK (lvc_pick ks hl)
theorem l_sld {k : Nat} (C : LC p l s m meth c b L xs G cA ad) (hk : k < L) (hd : decode code pc = .ok (.iaload, 1)) (kk : GZ p l e room_1 s m #[Value.ref b] below meth c G cA ad 7 (Kf G cA ad f) (lw_Z below #[Value.ref b] s) cells slots (pc + 1) lv (.int (xs k) :: st) w) : GZ p l e room_1 s m #[Value.ref b] below meth c G cA ad 7 (Kf G cA ad f) (lw_Z below #[Value.ref b] s) cells slots pc lv (.int (nI k) :: .ref 500 :: st) w := by
  intro H locs ls hP hS hK hl
  have hL := C.2.2.1.2.2
  have h := va_sld (rest := st.map (cv ad)) (Q := lw_Z below #[Value.ref b] s) (p := p) (l := l) (e := e) (R := room_1) (m := m) (args := #[Value.ref b]) (below := below) (meth := meth) (c := c) (locs := locs) (cells := cells) (slots := slots) (ls := ls) C.1.1 C.1.2.1 C.2.2.1.1 C.2.2.1.2.1 C.notA hS (vp_in_nI hk (by omega)) hd (by
    rw [nI_clamp (by omega)]
    exact kk H locs ls hP hS hK hl)
  have e5 : cv ad (.ref 500) = .ref b := by
    show Value.ref (ad 500) = .ref b
    rw [C.2.2.2.2.1.1]
  show W p l e room_1 s m #[Value.ref b] below meth c H locs cells slots _ (F0 m pc ls (.int (nI k) :: cv ad (.ref 500) :: st.map (cv ad)))
  rw [e5]
  exact h
theorem l_slen (C : LC p l s m meth c b L xs G cA ad) (hd : decode code pc = .ok (.arraylength, 1)) (kk : GZ p l e room_1 s m #[Value.ref b] below meth c G cA ad 7 (Kf G cA ad f) (lw_Z below #[Value.ref b] s) cells slots (pc + 1) lv (.int (nI L) :: st) w) : GZ p l e room_1 s m #[Value.ref b] below meth c G cA ad 7 (Kf G cA ad f) (lw_Z below #[Value.ref b] s) cells slots pc lv (.ref 500 :: st) w := by
  intro H locs ls hP hS hK hl
  have h := va_slen (rest := st.map (cv ad)) (Q := lw_Z below #[Value.ref b] s) (p := p) (l := l) (e := e) (R := room_1) (m := m) (args := #[Value.ref b]) (below := below) (meth := meth) (c := c) (locs := locs) (cells := cells) (slots := slots) (ls := ls) C.1.1 C.1.2.1 C.2.2.1.1 C.2.2.1.2.1 C.notA hS hd (kk H locs ls hP hS hK hl)
  have e5 : cv ad (.ref 500) = .ref b := by
    show Value.ref (ad 500) = .ref b
    rw [C.2.2.2.2.1.1]
  show W p l e room_1 s m #[Value.ref b] below meth c H locs cells slots _ (F0 m pc ls (cv ad (.ref 500) :: st.map (cv ad)))
  rw [e5]
  exact h
theorem l_arg {k : Nat} (C : LC p l s m meth c b L xs G cA ad) (h0 : lget lv 0 = some (.ref 500)) (h4 : lget lv 4 = some (.int (nI i))) (hk : i + k < L) (hB : argB pc k) (kk : GZ p l e room_1 s m #[Value.ref b] below meth c G cA ad 7 (Kf G cA ad f) (lw_Z below #[Value.ref b] s) cells slots (pc + 6) lv (.int (xs (i + k)) :: st) w) : GZ p l e room_1 s m #[Value.ref b] below meth c G cA ad 7 (Kf G cA ad f) (lw_Z below #[Value.ref b] s) cells slots pc lv st w := by
  obtain ⟨d0, d1, d2, d3, d4⟩ := hB
  refine g_aload_n (k := 0) (x := 500) C.1.1 C.1.2.1 d0 h0 ?_
  refine g_iload (k := 4) C.1.1 C.1.2.1 d1 h4 ?_
  refine g_iconst (n := k) C.1.1 C.1.2.1 d2 ?_
  refine g_iadd C.1.1 C.1.2.1 d3 ?_
  have e1 : nI i + iI (k : Int) = nI (i + k) := nI_add i k
  rw [e1]
  exact l_sld C hk d4 kk
theorem l_argC {k : Nat} (C : LC p l s m meth c b L xs G cA ad) (h0 : lget lv 0 = some (.ref 500)) (h4 : lget lv 4 = some (.int (nI i))) (hk : i + k < L) (hk2 : k < 128) (hB : argC pc k) (kk : GZ p l e room_1 s m #[Value.ref b] below meth c G cA ad 7 (Kf G cA ad f) (lw_Z below #[Value.ref b] s) cells slots (pc + 7) lv (.int (xs (i + k)) :: st) w) : GZ p l e room_1 s m #[Value.ref b] below meth c G cA ad 7 (Kf G cA ad f) (lw_Z below #[Value.ref b] s) cells slots pc lv st w := by
  obtain ⟨d0, d1, d2, d3, d4⟩ := hB
  refine g_aload_n (k := 0) (x := 500) C.1.1 C.1.2.1 d0 h0 ?_
  refine g_iload (k := 4) C.1.1 C.1.2.1 d1 h4 ?_
  refine g_bipush (n := k) C.1.1 C.1.2.1 (by omega) (by omega) d2 ?_
  refine g_iadd C.1.1 C.1.2.1 d3 ?_
  have e1 : nI i + iI (k : Int) = nI (i + k) := nI_add i k
  rw [e1]
  exact l_sld C hk d4 kk
theorem l_bool {x : Int32} {pc' : Nat} (C : LC p l s m meth c b L xs G cA ad) (hB : booB pc) (hpc : pc + 8 = pc') (kk : GZ p l e room_1 s m #[Value.ref b] below meth c G cA ad 7 (Kf G cA ad f) (lw_Z below #[Value.ref b] s) cells slots pc' lv (.int (bv x) :: st) w) : GZ p l e room_1 s m #[Value.ref b] below meth c G cA ad 7 (Kf G cA ad f) (lw_Z below #[Value.ref b] s) cells slots pc lv (.int x :: st) w := by
  obtain ⟨d0, d1, d2, d3⟩ := hB
  subst hpc
  refine g_if (cd := .eq) (off := 7) (tgt := pc + 7) C.1.1 C.1.2.1 d0 rfl (fun h => ?_) (fun h => ?_)
  · refine g_iconst (n := 0) C.1.1 C.1.2.1 d3 ?_
    have e1 : bv x = iI 0 := if_pos h
    rw [e1] at kk
    exact kk
  · refine g_iconst (n := 1) C.1.1 C.1.2.1 d1 ?_
    refine g_goto (off := 4) (tgt := pc + 8) C.1.1 C.1.2.1 d2 (by omega) ?_
    have e1 : bv x = iI 1 := if_neg h
    rw [e1] at kk
    exact kk
theorem l_lonB {x : Int32} {pc' : Nat} (C : LC p l s m meth c b L xs G cA ad) (hB : lonB pc) (hpc : pc + 4 = pc') (kk : GZ p l e room_1 s m #[Value.ref b] below meth c G cA ad 7 (Kf G cA ad f) (lw_Z below #[Value.ref b] s) cells slots pc' lv (.long (x.toInt64 <<< ((iI 32).toInt64 &&& 63)) :: st) w) : GZ p l e room_1 s m #[Value.ref b] below meth c G cA ad 7 (Kf G cA ad f) (lw_Z below #[Value.ref b] s) cells slots pc lv (.int x :: st) w := by
  obtain ⟨d0, d1, d2⟩ := hB
  subst hpc
  refine g_i2l C.1.1 C.1.2.1 d0 ?_
  refine g_bipush (n := 32) C.1.1 C.1.2.1 (by decide) (by decide) d1 ?_
  exact g_lshl C.1.1 C.1.2.1 d2 kk
theorem l_lonC {y : Int32} {a : Int64} {pc' : Nat} (C : LC p l s m meth c b L xs G cA ad) (hB : lonC pc) (hpc : pc + 6 = pc') (kk : GZ p l e room_1 s m #[Value.ref b] below meth c G cA ad 7 (Kf G cA ad f) (lw_Z below #[Value.ref b] s) cells slots pc' lv (.long (a ||| (y.toInt64 &&& 4294967295)) :: st) w) : GZ p l e room_1 s m #[Value.ref b] below meth c G cA ad 7 (Kf G cA ad f) (lw_Z below #[Value.ref b] s) cells slots pc lv (.int y :: .long a :: st) w := by
  obtain ⟨d0, d1, d2, d3⟩ := hB
  subst hpc
  refine g_i2l C.1.1 C.1.2.1 d0 ?_
  refine g_ldc2 (x := 43) (v := 4294967295) (own := "RowDrawerLaw") C.1.1 C.1.2.1 C.1.2.2.2.1 (C.1.2.2.2.2 _ (tt_at 1627 rfl rfl)) d1 ?_
  refine g_land C.1.1 C.1.2.1 d2 ?_
  exact g_lor C.1.1 C.1.2.1 d3 kk
/-- a call of an operation: the class's -/
theorem l_call {x a n pc' : Nat} {μ' : MI} {as st' : List Value} {Q' : Int32 → Wd → Prop} (C : LC p l s m meth c b L xs G cA ad) (hcs : cells ≤ 601024 ∧ slots ≤ 7293034) (hd : decode code pc = .ok (.invokevirtual x, 3)) (hpc : pc + 3 = pc') (hlk : Cond.methodLink "RowDrawerLaw" x (mY μ') ∈ TT) (hM : MOK (μ', n, false)) (has : as.length = n) (hc : isC a (mK μ') = true) (hst : stW st = true) (hs' : st' = as.reverse ++ .ref a :: st) (hE : EvI μ' 30 (.ref a :: as) w Q')
    (kk : ∀ (r : Int32) (w' : Wd), Q' r w' → GZ p l e room_1 s m #[Value.ref b] below meth c G cA ad 7 (Kf G cA ad f) (lw_Z below #[Value.ref b] s) cells slots pc' lv (.int r :: st) w') : GZ p l e room_1 s m #[Value.ref b] below meth c G cA ad 7 (Kf G cA ad f) (lw_Z below #[Value.ref b] s) cells slots pc lv st' w := by
  subst hpc
  subst hs'
  exact g_callI C.1 C.2.2.2.1.1 C.2.2.2.1.2.1 (Kf_st C.2.2.2.2.1.2.1) hcs ⟨Nat.le_of_ble_eq_true rfl, Nat.le_of_ble_eq_true rfl⟩ hd hlk hM has hc hst hE kk
theorem l_lald {pc' : Nat} (C : LC p l s m meth c b L xs G cA ad) (hd : decode code pc = .ok (.laload, 1)) (hpc : pc + 1 = pc') (kk : GZ p l e room_1 s m #[Value.ref b] below meth c G cA ad 7 (Kf G cA ad f) (lw_Z below #[Value.ref b] s) cells slots pc' lv (.long (f 0) :: st) w) : GZ p l e room_1 s m #[Value.ref b] below meth c G cA ad 7 (Kf G cA ad f) (lw_Z below #[Value.ref b] s) cells slots pc lv (.int (iI 0) :: .ref 501 :: st) w := by
  subst hpc
  intro H locs ls hP hS hK hl
  exact va_lald (D := G) (cl := vwCl) (a := ad 501) (f := f) (i := iI 0) C.1.1 C.1.2.1 C.2.2.2.1.1.1 hK 0 3 rfl rfl (show vp_in (nI 0) 1 from vp_in_nI (by decide) (by decide)) hd (kk H locs ls hP hS hK hl)
/-- the call of the law's own rule -/
theorem l_rule {x y : Int32} (C : LC p l s m meth c b L xs G cA ad) (h : Inv w) (hcs : cells + 1 ≤ 601024 ∧ slots + 6 ≤ 7293034)
    (kk : ∀ (k : Int32) (w' : Wd) (f' : Nat → Int64), Lrp x y w k w' f' → GZ p l e room_1 s m #[Value.ref b] below meth c G cA ad 7 (Kf G cA ad f') (lw_Z below #[Value.ref b] s) (cells + 1) (slots + 6) 700 lv [.int k] w') : GZ p l e room_1 s m #[Value.ref b] below meth c G cA ad 7 (Kf G cA ad f) (lw_Z below #[Value.ref b] s) cells slots 697 lv [.ref 501, .int y, .int x, .ref 57] w := by
  intro H locs ls hP hS hK hl T hT X
  have hF := C.2.2.2.1.1
  have hr := vx_runSW (p := p) (l := l) (e := e) (R := room_1) (s := s) (m := m) (args := #[Value.ref b]) (below := below) (meth := meth) (c := c) (H := H) (locs := locs) (cells := cells) (slots := slots) (As := List.map (cv ad) [.ref 57, .int x, .int y, .ref 501]) (n := 4) (nL := 7) (Ts := TT) (rest := []) (g := F0 m 697 ls (List.map (cv ad) [.ref 501, .int y, .int x, .ref 57])) (own := "RowDrawerLaw") (index := 80) (bytes := method_3_code) (maxL := 5) (ret := some .int) (hh := hhL) C.1 (c_L_rule h x y C.2.2.2.2.2 G cA ad H.size f) (vx_cwSW (ws' := TT) 4 C.1.2.2.2.2 (fun z hz => by
      rcases List.mem_append.mp hz with hz | hz
      · simp only [List.mem_cons, List.not_mem_nil, or_false] at hz
        rcases hz with e | e | e <;> subst e
        · exact ⟨tt_at 1135 rfl rfl, tt_good (tt_at 1135 rfl rfl)⟩
        · exact ⟨tt_at 1136 rfl rfl, tt_good (tt_at 1136 rfl rfl)⟩
        · exact ⟨tt_at 72 rfl rfl, tt_good (tt_at 72 rfl rfl)⟩
      · rcases List.mem_cons.mp hz with e | hz
        · subst e
          exact ⟨tt_at 1137 rfl rfl, tt_good (tt_at 1137 rfl rfl)⟩
        · exact ⟨hz, tt_good hz⟩) rfl rfl rfl ⟨by decide +kernel, by decide +kernel, by decide +kernel⟩ ⟨Nat.le_of_ble_eq_true rfl, Nat.le_of_ble_eq_true rfl⟩) ⟨PLr_blind, fun U hU hW => ⟨rfl, by rw [hU], by rw [hU]; exact hP, hF.go hS hU hW, C.2.2.2.1.2.1, C.2.2.2.1.2.2.go hS hU hW, by rw [hU]; exact hK, C.2.2.2.2.1.2.1⟩⟩ rfl rfl hl.1 rfl (Nat.le_of_ble_eq_true rfl) (show decode code 697 = .ok (.invokestatic 80, 3) by decide +kernel) hcs
  obtain ⟨v, st₀, t, T', L', h0, X', hL, e1, e2, ⟨⟨k, w', f', hv, hp, hP', hO'⟩, hz, hk⟩, sg⟩ := hr T hT X
  have hv' : v = some (.int k) := by cases hv; rfl
  subst hv'
  rw [h0] at hz hk
  have hn : ∀ q, AO ad H.size q → AA ad s.heap.size q := by
    rintro q ((⟨i, hi, e⟩ | hq) | hq)
    · exact Or.inl ⟨i, hi, e⟩
    · exact Or.inr (Nat.le_trans hS.1 hq)
    · rw [hq]
      exact Or.inr C.2.2.2.2.1.2.2.1
  have hS' : va_S (AA ad s.heap.size) s.heap T'.heap (locs ++ L') := ⟨Nat.le_trans hS.1 (by rw [e1]; exact hz), fun q h1 h2 => by rw [e1, hk q (Nat.lt_of_lt_of_le h1 hS.1) (fun z => h2 (hn q z))]; exact hS.2.1 q h1 h2, fun q hq => by
      rcases List.mem_append.mp hq with h | h
      · exact hS.2.2 q h
      · exact hn _ (hL q h)⟩
  obtain ⟨t2, a1, b1⟩ := kk k w' f' hp T'.heap (locs ++ L') ls (by rw [e1]; exact hP') hS' (by show va_P G vwCl _ T'.heap; rw [e1]; exact hO') hl T' rfl X'
  exact ⟨t2, sg t2 a1, b1⟩
/-- behind a case: on to the next -/
theorem l_next (C : LC p l s m meth c b L xs G cA ad) (kk : GZ p l e room_1 s m #[Value.ref b] below meth c G cA ad 7 (Kf G cA ad f) (lw_Z below #[Value.ref b] s) cells slots 23 (lvL (i + 7)) [] w) : GZ p l e room_1 s m #[Value.ref b] below meth c G cA ad 7 (Kf G cA ad f) (lw_Z below #[Value.ref b] s) cells slots 929 (lvL i) [] w := by
  refine g_iinc (k := 4) (n := 7) (x := nI i) C.1.1 C.1.2.1 (by decide +kernel) rfl (by decide) ?_
  refine g_goto (off := -909) (tgt := 23) C.1.1 C.1.2.1 (by decide +kernel) (by decide) ?_
  have e1 : nI i + iI 7 = nI (i + 7) := nI_add i 7
  rw [e1]
  exact kk
/-- the law's end -/
theorem l_end (C : LC p l s m meth c b L xs G cA ad) (hcs : cells ≤ 601024 ∧ slots ≤ 7293034) : GZ p l e room_1 s m #[Value.ref b] below meth c G cA ad 7 (Kf G cA ad f) (lw_Z below #[Value.ref b] s) cells slots 935 lv [] w := by
  refine g_iconst (n := 1) C.1.1 C.1.2.1 (by decide +kernel) ?_
  intro H locs ls hP hS hK hl
  refine va_forget (fun q hq => ?_) ?_
  · rcases hS.2.2 q hq with ⟨i, hi, e⟩ | h
    · rw [e]
      exact C.2.2.2.2.1.2.2.2 i hi
    · exact h
  · refine W.widen (k := 601024) (n := 7293034) hcs.1 hcs.2 ?_
    exact lw_ret (pc := 936) C.1.1 C.1.2.1 C.2.1.1 C.2.1.2 (by decide +kernel)
end
