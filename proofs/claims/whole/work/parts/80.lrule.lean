set_option maxRecDepth 100000
/-! THE LAW'S OWN 'rule': it calls RowDrawer.rule, and catches what that throws -/
def outE (cA : FieldType → ClassId) (f : Nat → Int64) : va_E := .inl (cA .long, 1, .inr (.inl f))
def yLr : MethodName := ⟨"RowDrawerLaw", "rule", "(LRowDrawer;II[J)I"⟩
def hhL : List (Nat × Nat × Nat × Nat) := [(0, 10, 13, 13)]
def wsLr : List Cond := Cond.codeWith yLr method_3_code 5 (some .int) hhL :: TT
theorem tx_ofWH {l : Launch} {y : MethodName} {ws ws' : List Cond} {rm : Room} {Pc : Array Value → State → Prop} {Qc : Array Value → State → Outcome → State → Prop} {mc ms : Nat} {free : Addr → Prop} {cc : ByteArray} {maxL : Nat} {ret : Option FieldType} {hh : List (Nat × Nat × Nat × Nat)}
    (hy : plainName y.cls = true) (hw : ws = Cond.codeWith y cc maxL ret hh :: ws')
    (body : ∀ p e s m args below meth c s₁, BodyLoose p l y (headSpec ws rm) cc maxL ret e s m args below meth c s₁ → c.maxLocals = maxL → Pc args s →
      W p l e (headSpec ws rm).room s m args below meth c s.heap [] 0 0 (MQ below Qc args s mc ms free) (entryFrame m args maxL)) : Met l y ws rm Pc Qc mc ms free := by
  refine MetFree.of_bodyS (code := cc) (maxLocals := maxL) (ret := ret) hy ?_ ?_
  · intro args s m h hn
    obtain ⟨m9, meth, c, hn9, h1, h2, h3, h4, -, h5, h6, -⟩ := Cond.codeWith_spec (atoms_spec (ws := ws) h _ (by rw [hw]; exact List.mem_cons_self))
    cases hn.symm.trans hn9
    exact ⟨meth, c, h1, h2, h3, h4, h5, h6⟩
  · intro p e s m args below meth c s₁ B hml hP _
    have hh0 : s₁.heap = s.heap := by rw [B.state]; rfl
    obtain ⟨t, a1, o, b1, b2, b3⟩ := body p e s m args below meth c s₁ B hml hP s₁ hh0 (Stand.of_body B)
    exact ⟨t, o, a1, b1, b2, ⟨b3.1, b3.2⟩⟩
def Lrp (x y : Int32) (w : Wd) (k : Int32) (w' : Wd) (f' : Nat → Int64) : Prop := (k = 0 ∧ Inv w' ∧ RuOk w' x y ∧ ∀ j, j < nr w' → x = nI j → f' 0 = (ruA w' j y).toInt64) ∨ (k = 1 ∧ ¬ RuOk w x y ∧ w' = w)
def AO (ad : Nat → Nat) (sz : Nat) : Nat → Prop := fun q => AA ad sz q ∨ q = ad 501
def PLr (G : va_G) (cA : FieldType → ClassId) (ad : Nat → Nat) (sz : Nat) (x y : Int32) (w : Wd) (f : Nat → Int64) : Array Value → State → Prop :=
  va_Pc (List.map (cv ad) [.ref 57, .int x, .int y, .ref 501]) (fun U => U.heap.size = sz ∧ va_P G vwCl (wsl ad cA w) U.heap ∧ Fx G cA ad sz U ∧ Inj ad ∧ Ft ad sz U ∧ va_P G vwCl [(ad 501, outE cA f)] U.heap ∧ ∀ i, i < NS → ad 501 ≠ ad i)
def QLr (G : va_G) (cA : FieldType → ClassId) (ad : Nat → Nat) (sz : Nat) (x y : Int32) (w : Wd) : Array Value → State → Outcome → State → Prop :=
  fun _ st oc t => (∃ (k : Int32) (w' : Wd) (f' : Nat → Int64), oc = .returned (some (.int k)) ∧ Lrp x y w k w' f' ∧ va_P G vwCl (wsl ad cA w') t.heap ∧ va_P G vwCl [(ad 501, outE cA f')] t.heap) ∧ va_F (AO ad sz) st t
theorem PLr_blind {G : va_G} {cA : FieldType → ClassId} {ad : Nat → Nat} {sz : Nat} {x y : Int32} {w : Wd} {f : Nat → Int64} : FrameBlind (PLr G cA ad sz x y w f) := fun a U g mk h => by
  obtain ⟨h1, h2, h3, h4, h5, h6, h7, h8⟩ := h
  exact ⟨h1, h2, h3, h4.calling g mk a, h5, h6.calling g mk a, h7, h8⟩
theorem one_cell {G : va_G} {cA : FieldType → ClassId} {o : Nat} {f : Nat → Int64} {H H1 : Heap} (h : va_P G vwCl [(o, outE cA f)] H) (hq : H1[o]? = H[o]?) : va_P G vwCl [(o, outE cA f)] H1 := by
  refine h.kept (fun k q hk => ?_)
  cases k with
  | zero => cases hk; exact hq
  | succ k => cases hk
theorem wv_hd {D : va_G} {cl : List vw_C} {x : Nat × va_E} {t : va_W} {H : Heap} (h : va_P D cl (x :: t) H) : va_P D cl [x] H := fun k q hk => by
  cases k with
  | zero => exact h 0 q hk
  | succ k => cases hk
theorem wv_tl {D : va_G} {cl : List vw_C} {x : Nat × va_E} {t : va_W} {H : Heap} (h : va_P D cl (x :: t) H) : va_P D cl t H := fun k q hk => h (k + 1) q (by rw [List.getElem?_cons_succ]; exact hk)
theorem wv_st0 {D : va_G} {cl : List vw_C} {x y : Nat × va_E} {t : va_W} {H : Heap} (h : va_P D cl ((x :: t).set 0 y) H) : va_P D cl (y :: t) H := h
theorem c_L_rule {w : Wd} (h : Inv w) (x y : Int32) {l : Launch} (hlt : l.stackTraces = false) (G : va_G) (cA : FieldType → ClassId) (ad : Nat → Nat) (sz : Nat) (f : Nat → Int64) :
    Met l yLr wsLr (rmX 32) (PLr G cA ad sz x y w f) (QLr G cA ad sz x y w) 1 6 (AO ad sz) := by
  refine tx_ofWH (cc := method_3_code) (maxL := 5) (ret := some .int) (hh := hhL) (by decide +kernel) rfl ?_
  intro p e s m args below meth c s₁ B hml hv
  obtain ⟨rfl, hsz, hP, hF, hI, hT, hO, hOa⟩ := hv
  subst hsz
  have hts := atoms_spec (ws := wsLr) B.pre
  have hown : s.vm.findClass "RowDrawerLaw" = some m.cls := findClass_of_methodNamed B.named
  have S : CallFix p m c method_3_code 5 s (List.map (cv ad) [.ref 57, .int x, .int y, .ref 501]).toArray TT "RowDrawerLaw" := ⟨B.exec, B.bytes, hml, hown, fun z hz => hts z (List.mem_cons_of_mem _ hz)⟩
  have htab := vx_table (x := yLr) B (hts _ List.mem_cons_self)
  have hl := lv_entry (List.map (cv ad) [.ref 57, .int x, .int y, .ref 501]) (n := 5) (Nat.le_of_ble_eq_true rfl)
  have hlocks := B.notSynchronized
  have holt : ad 501 < s.heap.size := (hO 0 _ rfl).lt
  have hoA : ¬ AA ad s.heap.size (ad 501) := by
    rintro (⟨i, hi, e⟩ | hz)
    · exact hOa i hi e
    · omega
  rw [lg_entry_eq]
  suffices key : ∀ ls : Array Slot, lv_has ls 5 (lvc ad [(0, .ref 57), (1, .int x), (2, .int y), (3, .ref 501)]) → W p l e (rmX 32) s m (List.map (cv ad) [.ref 57, .int x, .int y, .ref 501]).toArray below meth c s.heap [] 0 0 (MQ below (QLr G cA ad s.heap.size x y w) (List.map (cv ad) [.ref 57, .int x, .int y, .ref 501]).toArray s 1 6 (AO ad s.heap.size)) (F0 m 0 ls []) from key _ hl
  intro ls hl
  refine lv_aload_n (k := 3) S.1 S.2.1 (by decide +kernel) rfl (lvc_get (v := .ref 501) hl rfl) ?_
  refine lv_iconst (n := 0) (v := 0) S.1 S.2.1 (by decide +kernel) (by decide) ?_
  refine lv_aload_n (k := 0) S.1 S.2.1 (by decide +kernel) rfl (lvc_get (v := .ref 57) hl rfl) ?_
  refine lv_iload_n (k := 1) S.1 S.2.1 (by decide +kernel) rfl (lvc_get (v := .int x) hl rfl) ?_
  refine lv_iload_n (k := 2) S.1 S.2.1 (by decide +kernel) rfl (lvc_get (v := .int y) hl rfl) ?_
  have hr := vx_runV (p := p) (l := l) (e := e) (R := rmX 32) (s := s) (m := m) (below := below) (meth := meth) (c := c) (H := s.heap) (locs := []) (cells := 0) (slots := 0) (As := [.int x, .int y]) (b := ad 57) (n := 2) (nL := 5) (Ts := TT) (rest := [.int 0, .ref (ad 501)]) (g := F0 m 5 ls [.int y, .int x, .ref (ad 57), .int 0, .ref (ad 501)]) S (c_D_rule h x y hlt G cA ad s.heap.size) (g_cwR S.2.2.2.2 (tt_at 1139 rfl rfl) m_D_rule_ok rfl rfl ⟨Nat.le_refl _, Nat.le_of_ble_eq_true rfl⟩) ⟨Pth_blind, g_recv hF m_D_rule_ok rfl hP, fun U hU hW => ⟨rfl, by rw [hU], by rw [hU]; exact hP, hF.go va_S.rf hU hW, hI, hT.go va_S.rf hU hW⟩⟩ rfl rfl hl.1 rfl (Nat.le_of_ble_eq_true rfl) (show decode method_3_code 5 = .ok (.invokevirtual 7, 3) by decide +kernel) ⟨Nat.le_refl _, Nat.le_refl _⟩
  intro T hT0 X
  rcases hr T hT0 X with ⟨v, st₀, t, T', L, h0, X', hL, e1, e2, ⟨⟨r, w1, hv, hq, hP'⟩, hz, hk⟩, sg⟩ | ⟨q, st₀, t, T', L, E, ce, h0, X', hL, e1, e2, ⟨rfl, hno, hP', hz, hk⟩, hce, hcv, hcl, sg⟩
  · rw [h0] at hz hk
    cases r with
    | none => exact hq.elim
    | some r =>
      cases r with
      | int r =>
        obtain ⟨i1, ok, hr1⟩ : Inv w1 ∧ RuOk w1 x y ∧ ∀ j, j < nr w1 → x = nI j → r = ruA w1 j y := hq
        have hv' : v = some (.int r) := by cases hv; rfl
        subst hv'
        have hS' : va_S (AO ad s.heap.size) s.heap T'.heap ([] ++ L) := ⟨by rw [e1]; exact hz, fun q a b => by rw [e1]; exact hk q a (fun z => b (Or.inl z)), fun q hq => Or.inl (hL q hq)⟩
        have hP1 : va_P G vwCl (wsl ad cA w1) T'.heap := by rw [e1]; exact hP'
        have hO1 : va_P G vwCl [(ad 501, outE cA f)] T'.heap := one_cell hO (by rw [e1]; exact hk _ holt hoA)
        have hP2 : va_P G vwCl ((ad 501, outE cA f) :: wsl ad cA w1) T'.heap := hO1.app hP1
        have hD2 : va_D (AO ad s.heap.size) ((ad 501, outE cA f) :: wsl ad cA w1) := by
          refine va_D.app (w1 := [(ad 501, outE cA f)]) ⟨?_, ?_⟩ ((wsl_D (sz := s.heap.size) hI).weaken (fun _ _ _ z => Or.inl z)) ?_
          · intro i j a b ha hb _
            have h1 := (List.getElem?_eq_some_iff.mp ha).1
            have h2 := (List.getElem?_eq_some_iff.mp hb).1
            simp only [List.length_cons, List.length_nil] at h1 h2
            omega
          · intro k q hk
            cases k with
            | zero => cases hk; exact Or.inr rfl
            | succ k => cases hk
          · intro i j a b ha hb hab
            obtain ⟨c1, c2⟩ := wsl_lt hb
            cases i with
            | zero => cases ha; exact hOa j c1 (hab.trans c2)
            | succ i => cases ha
        have main : W p l e (rmX 32) s m (List.map (cv ad) [.ref 57, .int x, .int y, .ref 501]).toArray below meth c T'.heap ([] ++ L) (0 + 1) (0 + 6) (MQ below (QLr G cA ad s.heap.size x y w) (List.map (cv ad) [.ref 57, .int x, .int y, .ref 501]).toArray s 1 6 (AO ad s.heap.size)) (F0 m 8 ls [.int r, .int 0, .ref (ad 501)]) := by
          refine lv_i2l S.1 S.2.1 (by decide +kernel) rfl ?_
          refine va_last (D := G) (cl := vwCl) S.1 S.2.1 hF.1 hP2 hD2 hS' 0 3 rfl rfl (show vp_in (nI 0) 1 from vp_in_nI (by decide) (by decide)) (by decide +kernel) (fun H1 locs1 hP3 hD3 hS3 => ?_)
          rw [show Int32.toNatClampNeg 0 = 0 by decide] at hP3
          have hP4 := wv_st0 hP3
          refine lv_goto (off := 7) (tgt := 17) S.1 S.2.1 (by decide +kernel) (by decide) ?_
          refine lv_iconst (n := 0) S.1 S.2.1 (by decide +kernel) (iI_eq 0) ?_
          refine W.iret (Qc := QLr G cA ad s.heap.size x y w) S.1 S.2.1 B.returns (fun t ht hW => ⟨⟨0, w1, vp_updL f 0 r.toInt64, rfl, Or.inl ⟨rfl, i1, ok, fun j hj ex => ?_⟩, ?_, ?_⟩, hS3.F ht⟩) hS3.2.2 (by decide +kernel)
          · rw [← hr1 j hj ex]
            simp [vp_updL]
          · rw [ht]
            exact wv_tl hP4
          · rw [ht]
            exact wv_hd hP4
        obtain ⟨t2, a1, b1⟩ := main T' rfl X'
        exact ⟨t2, sg t2 a1, b1⟩
      | _ => exact hq.elim
  · rw [h0] at hz hk
    have hS' : va_S (AO ad s.heap.size) s.heap T'.heap ([] ++ L) := ⟨by rw [e1]; exact hz, fun q a b => by rw [e1]; exact hk q a (fun z => b (Or.inl z)), fun q hq => Or.inl (hL q hq)⟩
    have hO1 : va_P G vwCl [(ad 501, outE cA f)] T'.heap := one_cell hO (by rw [e1]; exact hk _ holt hoA)
    have main : vx_W p l e (rmX 32) s m (List.map (cv ad) [.ref 57, .int x, .int y, .ref 501]).toArray below meth c T'.heap ([] ++ L) (0 + 1) (0 + 6) (MQ below (QLr G cA ad s.heap.size x y w) (List.map (cv ad) [.ref 57, .int x, .int y, .ref 501]).toArray s 1 6 (AO ad s.heap.size)) (F0 m 5 ls [.int 0, .ref (ad 501)]) q := by
      refine tx_catch (own := "RowDrawerLaw") (name := NSE) (E := NSE) (x := ⟨0, 10, 13, 13⟩) hown htab (by decide) (by decide) (S.2.2.2.2 _ (tt_at 1138 rfl rfl)) (va_Nw.use rfl (hT.2.2.2 _ List.mem_cons_self)) (by rw [e1]; exact hce) hcv hcl ?_
      refine lv_astore (i := 4) S.1 S.2.1 (by decide +kernel) hl (by decide) rfl (fun ls2 hl2 => ?_)
      refine lv_iconst (n := 1) S.1 S.2.1 (by decide +kernel) (iI_eq 1) ?_
      refine W.iret (Qc := QLr G cA ad s.heap.size x y w) S.1 S.2.1 B.returns (fun t2 ht hW => ⟨⟨1, w, f, rfl, Or.inr ⟨rfl, hno, rfl⟩, ?_, ?_⟩, hS'.F ht⟩) hS'.2.2 (by decide +kernel)
      · rw [ht, e1]
        exact hP'
      · rw [ht]
        exact hO1
    obtain ⟨t2, a1, b1⟩ := main T' rfl X'
    exact ⟨t2, sg.trans a1, b1⟩
