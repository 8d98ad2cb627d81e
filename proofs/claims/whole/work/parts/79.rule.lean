set_option maxRecDepth 100000
def m_D_rule : MI := (11, ⟨"RowDrawer", "rule", "(II)I"⟩, prog_1_method_15_code, 3, (some .int))
theorem m_D_rule_ok : MOK (m_D_rule, 2, false) := ⟨tt_at 1142 rfl rfl, tt_at 73 rfl rfl, by decide +kernel, by decide +kernel, by decide +kernel, ⟨tt_at 1140 rfl rfl, tt_at 1141 rfl rfl⟩, by decide +kernel, by decide, rfl⟩
def P_D_rule : Prog := [(30, .aload_n 0), (31, .getfield 51), (34, .invokevirtual 141), (37, .iload_n 2), (38, .tableswitch 87 0 4 #[34, 43, 56, 69, 78]), (72, .aload_n 0), (73, .getfield 42), (76, .iload_n 1), (77, .invokevirtual 188), (80, .ireturn), (81, .aload_n 0), (82, .getfield 69), (85, .iload_n 1), (86, .iconst 1), (87, .invokevirtual 191), (90, .invokestatic 195), (93, .ireturn), (94, .aload_n 0), (95, .getfield 69), (98, .iload_n 1), (99, .iconst 0), (100, .invokevirtual 191), (103, .invokestatic 195), (106, .ireturn), (107, .aload_n 0), (108, .getfield 69), (111, .iload_n 1), (112, .invokevirtual 201), (115, .ireturn), (116, .aload_n 0), (117, .getfield 42), (120, .iload_n 1), (121, .invokevirtual 204), (124, .ireturn), (125, .aload_n 0), (126, .getfield 51), (129, .iload_n 1), (130, .invokevirtual 207), (133, .ireturn)]
theorem pr_D_rule : prOK m_D_rule P_D_rule = true := by decide +kernel
set_option maxRecDepth 20000 in
set_option maxHeartbeats 1000000 in
theorem vc_D_rule_30 {d : Nat} {w : Wd} {Q : Int32 → Wd → Prop} (x1 : Int32) (x2 : Int32) (h : ∃ Q1 : Wd → Prop, EvV m_Finder_refresh d [.ref 36] w Q1 ∧ ∀ w1 : Wd, Q1 w1 → ((x2 = nI 0 → ∃ Q2 : Int32 → Wd → Prop, EvI m_Book_relationOf d [.ref 25, .int x1] w1 Q2 ∧ ∀ (r2 : Int32) (w2 : Wd), Q2 r2 w2 → Q r2 w2) ∧ (¬ x2 = nI 0 → ((x2 = nI 1 → ∃ Q3 : Int64 → Wd → Prop, EvL m_Marks_caughtBy d [.ref 45, .int x1, .int (nI 1)] w1 Q3 ∧ ∀ (r3 : Int64) (w3 : Wd), Q3 r3 w3 → ∃ Q4 : Int32 → Wd → Prop, EvI m_Long_bitCount d [.long r3] w3 Q4 ∧ ∀ (r4 : Int32) (w4 : Wd), Q4 r4 w4 → Q r4 w4) ∧ (¬ x2 = nI 1 → ((x2 = nI 2 → ∃ Q5 : Int64 → Wd → Prop, EvL m_Marks_caughtBy d [.ref 45, .int x1, .int (nI 0)] w1 Q5 ∧ ∀ (r5 : Int64) (w5 : Wd), Q5 r5 w5 → ∃ Q6 : Int32 → Wd → Prop, EvI m_Long_bitCount d [.long r5] w5 Q6 ∧ ∀ (r6 : Int32) (w6 : Wd), Q6 r6 w6 → Q r6 w6) ∧ (¬ x2 = nI 2 → ((x2 = nI 3 → ∃ Q7 : Int32 → Wd → Prop, EvI m_Marks_shareOf d [.ref 45, .int x1] w1 Q7 ∧ ∀ (r7 : Int32) (w7 : Wd), Q7 r7 w7 → Q r7 w7) ∧ (¬ x2 = nI 3 → ((x2 = nI 4 → ∃ Q8 : Int32 → Wd → Prop, EvI m_Book_itemsOf d [.ref 25, .int x1] w1 Q8 ∧ ∀ (r8 : Int32) (w8 : Wd), Q8 r8 w8 → Q r8 w8) ∧ (¬ x2 = nI 4 → ∃ Q9 : Int32 → Wd → Prop, EvI m_Finder_totalOfRule d [.ref 36, .int x1] w1 Q9 ∧ ∀ (r9 : Int32) (w9 : Wd), Q9 r9 w9 → Q r9 w9))))))))))) : Z m_D_rule (d + 1) (qI Q) 30 [(0, .ref 57), (1, .int x1), (2, .int x2)] [] w := wp_ok (P := P_D_rule) (S := []) rfl pr_D_rule 13 _ _ _ _ h
def rmX (d : Nat) : Room := { frames := d, cells := 1, slots := 6, locals := 40 * d }
abbrev NSE : String := "java/util/NoSuchElementException"
abbrev RTE : String := "java/lang/RuntimeException"
def ruT : String := "no such rule, or nothing such to tell of it"
def nwL : List Cond := [.castable NSE NSE, .declares (Bundle.initS RTE), .declares (Bundle.initS "java/lang/Exception"), .declares (Bundle.initS Bundle.tN)]
theorem nw_tab : ∀ w ∈ nwL, w.onTables = true := by
  intro w hw
  simp only [nwL, List.mem_cons, List.not_mem_nil, or_false] at hw
  rcases hw with rfl | rfl | rfl | rfl <;> rfl
theorem nw_warm {s U : State} (hW : s.WarmedH U.vm) (h : ∀ w ∈ nwL, va_Nw w s) : ∀ w ∈ nwL, va_Nw w U := by
  intro w hw
  have h2 := h w hw
  simp only [nwL, List.mem_cons, List.not_mem_nil, or_false] at hw
  rcases hw with rfl | rfl | rfl | rfl
  · exact va_Nw.warmC hW h2
  · exact va_Nw.warmD hW h2
  · exact va_Nw.warmD hW h2
  · exact va_Nw.warmD hW h2
/-- what a throw needs of the heap and of the tables -/
def Ft (ad : Nat → Nat) (sz : Nat) (U : State) : Prop :=
  vx_Zq Bundle.tN "UNASSIGNED_STACK" Bundle.steD (AA ad sz) U U.heap ∧ vx_Zq Bundle.tN "SUPPRESSED_SENTINEL" Bundle.listD (AA ad sz) U U.heap ∧ vk_R "RowDrawer" 183 ruT (ad 600) U ∧ ∀ w ∈ nwL, va_Nw w U
theorem Ft.go {ad : Nat → Nat} {s U : State} {H : Heap} {locs : List Loc} (h : Ft ad s.heap.size s) (hS : va_S (AA ad s.heap.size) s.heap H locs) (hU : U.heap = H) (hW : s.WarmedH U.vm) : Ft ad H.size U := by
  obtain ⟨h1, h2, h3, h4⟩ := h
  have hn : ∀ q, AA ad H.size q → AA ad s.heap.size q := fun q hq => hq.elim Or.inl (fun z => Or.inr (Nat.le_trans hS.1 z))
  refine ⟨?_, ?_, h3.warm hW, nw_warm hW h4⟩
  · rw [hU]
    exact ((h1.kept hS.2.1).moved hW.alike).narrow hn
  · rw [hU]
    exact ((h2.kept hS.2.1).moved hW.alike).narrow hn
theorem Ft.calling {ad : Nat → Nat} {sz : Nat} {U : State} (g : JFrame) (mk : MethodId) (a : Array Value) (h : Ft ad sz U) : Ft ad sz (U.calling g mk a) := by
  obtain ⟨h1, h2, h3, h4⟩ := h
  exact ⟨vx_Zq.moved (u := U) (U := U.calling g mk a) (Vm.Alike.refl U.vm) h1, vx_Zq.moved (u := U) (U := U.calling g mk a) (Vm.Alike.refl U.vm) h2, vk_R.same (u := U) (U := U.calling g mk a) rfl h3, fun w hw => va_Nw.same (u := U) (U := U.calling g mk a) (nw_tab w hw) rfl (h4 w hw)⟩
def rxL : List Cond := (tx_at "RowDrawer" 185 NSE 13 prog_26_method_4_code RTE ["java/lang/Exception"]).filter vx_no
theorem rx_in : ∀ w ∈ rxL.filter goodWord, w ∈ TT := by
  have hp : rxL.filter goodWord = [95, 1166, 1175, 1177, 1180, 1182, 1167, 1168, 105, 106, 1169, 1174, 1178, 1198, 1156, 1199, 1158, 1200, 1160, 1170, 1172, 1162, 1194, 1195, 1197, 1162, 1185, 1186, 1187, 1188, 1188, 1189, 1190, 1191, 1191, 1192, 1193, 1194, 1184, 1145, 1153, 1154, 1155, 1157, 1159, 1161, 1165, 1164, 1163].filterMap (fun i => lw_tbl[i]?) := by decide +kernel
  intro w hw
  have hg := (List.mem_filter.mp hw).2
  rw [hp] at hw
  obtain ⟨i, -, hi⟩ := List.mem_filterMap.mp hw
  exact tt_at i hi hg
theorem rx_no : ∀ w ∈ rxL.filter (fun w => !goodWord w), w ∈ nwL := by decide +kernel
theorem rx_ot : ∀ w ∈ Cond.classLink "RowDrawer" 181 NSE :: Cond.initialized NSE :: rxL, vx_ot w = true := by decide +kernel
def Pth (G : va_G) (cA : FieldType → ClassId) (ad : Nat → Nat) (sz : Nat) (as : List Value) (w : Wd) : Array Value → State → Prop :=
  va_Pc (as.map (cv ad)) (fun U => U.heap.size = sz ∧ va_P G vwCl (wsl ad cA w) U.heap ∧ Fx G cA ad sz U ∧ Inj ad ∧ Ft ad sz U)
theorem Pth_blind {G : va_G} {cA : FieldType → ClassId} {ad : Nat → Nat} {sz : Nat} {as : List Value} {w : Wd} : FrameBlind (Pth G cA ad sz as w) := fun a U g mk h => by
  obtain ⟨h1, h2, h3, h4, h5, h6⟩ := h
  exact ⟨h1, h2, h3, h4.calling g mk a, h5, h6.calling g mk a⟩
/-- where it has thrown: the world is as it was -/
def Xr (G : va_G) (cA : FieldType → ClassId) (ad : Nat → Nat) (sz : Nat) (P : Prop) (w : Wd) : String → State → State → Prop :=
  fun E st t => E = NSE ∧ P ∧ va_P G vwCl (wsl ad cA w) t.heap ∧ va_F (AA ad sz) st t
theorem c_D_rule30 {w : Wd} (h : Inv w) {k : Nat} (hk : k < nr w) (y : Int32) (hy : 0 ≤ y.toInt ∧ y.toInt ≤ 5) : Z m_D_rule 31 (qI fun r w1 => Inv w1 ∧ RuOk w1 (nI k) y ∧ ∀ j, j < nr w1 → nI k = nI j → r = ruA w1 j y) 30 [(0, .ref 57), (1, .int (nI k)), (2, .int y)] [] w := by
  refine vc_D_rule_30 (d := 30) _ _ ⟨_, c_refresh (d := 24) h.1 h.2.2.1, ?_⟩
  rintro w1 ⟨f1, a1, a2⟩
  have i1 : Inv w1 := h.rfr f1 a1 MFr.rf (RefI.fr h.2.2.2.2.1 f1)
  have ff : FF w1 := ⟨i1.1, a1, a2⟩
  have e0 : hl w1 = hl w := N_cg (congrFun (f1.1 58 (by omega)) 10)
  have en : nr w1 = nr w := by
    show N w1 64 (hl w1) = N w 64 (hl w)
    rw [e0]
    exact N_cg (congrFun (f1.1 64 (by omega)) _)
  have hk1 : k < nr w1 := by omega
  have k12 : nr w1 ≤ 12 := i1.1.2.2.2.1.1
  have ok : RuOk w1 (nI k) y := ⟨isRu_nI i1.1.2.2 hk1, hy⟩
  have one : ∀ {r : Int32}, r = ruA w1 k y → Inv w1 ∧ RuOk w1 (nI k) y ∧ ∀ j, j < nr w1 → nI k = nI j → r = ruA w1 j y := by
    intro r hr
    refine ⟨i1, ok, fun j hj e => ?_⟩
    have : k = j := nI_inj (by omega) (by omega) e
    subst this
    exact hr
  have m60 : mk w1 ≤ 60 := i1.2.2.2.2.2.1.1.1
  refine ⟨fun g0 => ⟨_, c_Book_relationOf (d := 29) i1.1.2.2 hk1, ?_⟩, fun g0 => ⟨fun g1 => ⟨_, c_caughtBy (d := 28) ff i1.2.2.2.2.2.1 hk1 (nI 1), ?_⟩, fun g1 => ⟨fun g2 => ⟨_, c_caughtBy (d := 28) ff i1.2.2.2.2.2.1 hk1 (nI 0), ?_⟩, fun g2 => ⟨fun g3 => ⟨_, c_shareOf (d := 27) ff i1.2.2.2.2.2.1 hk1, ?_⟩, fun g3 => ⟨fun g4 => ⟨_, c_Book_itemsOf (d := 29) i1.1.2.2 hk1, ?_⟩, fun g4 => ⟨_, c_Finder_totalOfRule (d := 29) ff (show k < 12 by omega), ?_⟩⟩⟩⟩⟩⟩
  · rintro r w2 ⟨rfl, rfl⟩
    refine one ?_
    unfold ruA
    rw [if_pos g0]
  · rintro r w2 ⟨rfl, rfl⟩
    refine ⟨_, c_Long_bitCount (d := 30) (Nat.lt_of_lt_of_le (bset_lt64 _ (show mk w2 ≤ 64 by omega)) (by decide)), ?_⟩
    rintro r w3 ⟨rfl, rfl⟩
    refine one ?_
    unfold ruA
    rw [if_neg g0, if_pos g1, bset_pcn _ (by omega)]
  · rintro r w2 ⟨rfl, rfl⟩
    refine ⟨_, c_Long_bitCount (d := 30) (Nat.lt_of_lt_of_le (bset_lt64 _ (show mk w2 ≤ 64 by omega)) (by decide)), ?_⟩
    rintro r w3 ⟨rfl, rfl⟩
    refine one ?_
    unfold ruA
    rw [if_neg g0, if_neg g1, if_pos g2, bset_pcn _ (by omega)]
  · rintro r w2 ⟨rfl, rfl⟩
    refine one ?_
    unfold ruA
    rw [if_neg g0, if_neg g1, if_neg g2, if_pos g3]
  · rintro r w2 ⟨rfl, rfl⟩
    refine one ?_
    unfold ruA
    rw [if_neg g0, if_neg g1, if_neg g2, if_neg g3, if_pos g4]
  · rintro r w2 ⟨rfl, rfl⟩
    refine one ?_
    unfold ruA
    rw [if_neg g0, if_neg g1, if_neg g2, if_neg g3, if_neg g4]
theorem c_D_rule {w : Wd} (h : Inv w) (x y : Int32) {l : Launch} (hlt : l.stackTraces = false) (G : va_G) (cA : FieldType → ClassId) (ad : Nat → Nat) (sz : Nat) :
    vx_Met l (mY m_D_rule) (wsM m_D_rule) (rmX 31) (Pth G cA ad sz [.ref 57, .int x, .int y] w) (Qw G cA ad sz (qI fun r w1 => Inv w1 ∧ RuOk w1 x y ∧ ∀ j, j < nr w1 → x = nI j → r = ruA w1 j y)) (Xr G cA ad sz (¬ RuOk w x y) w) 1 6 (AA ad sz) := by
  refine vx_ofW (cc := mB m_D_rule) (maxL := 3) (ret := some .int) (by decide +kernel) rfl ?_
  intro p e s m args below meth c s₁ B hml hex hv
  obtain ⟨rfl, hsz, hP, hF, hI, hT⟩ := hv
  subst hsz
  have hts := atoms_spec (ws := wsM m_D_rule) B.pre
  have hown : s.vm.findClass "RowDrawer" = some m.cls := findClass_of_methodNamed B.named
  have S : CallFix p m c (mB m_D_rule) 3 s (List.map (cv ad) [.ref 57, .int x, .int y]).toArray TT "RowDrawer" := ⟨B.exec, B.bytes, hml, hown, fun z hz => hts z (in_ws hz)⟩
  have hl := lv_entry (List.map (cv ad) [.ref 57, .int x, .int y]) (n := 3) (Nat.le_refl _)
  rw [lg_entry_eq]
  have key : GZ p l e (rmX 31) s m (List.map (cv ad) [.ref 57, .int x, .int y]).toArray below meth c G cA ad 3 (fun _ => True) (vx_MQ below (Qw G cA ad s.heap.size (qI fun r w1 => Inv w1 ∧ RuOk w1 x y ∧ ∀ j, j < nr w1 → x = nI j → r = ruA w1 j y)) (Xr G cA ad s.heap.size (¬ RuOk w x y) w) (List.map (cv ad) [.ref 57, .int x, .int y]).toArray s 1 6 (AA ad s.heap.size)) 0 0 0 [(0, .ref 57), (1, .int x), (2, .int y)] [] w := by
    have thr : ∀ {lv : List (Nat × Value)}, ¬ RuOk w x y → GZ p l e (rmX 31) s m (List.map (cv ad) [.ref 57, .int x, .int y]).toArray below meth c G cA ad 3 (fun _ => True) (vx_MQ below (Qw G cA ad s.heap.size (qI fun r w1 => Inv w1 ∧ RuOk w1 x y ∧ ∀ j, j < nr w1 → x = nI j → r = ruA w1 j y)) (Xr G cA ad s.heap.size (¬ RuOk w x y) w) (List.map (cv ad) [.ref 57, .int x, .int y]).toArray s 1 6 (AA ad s.heap.size)) 0 0 20 lv [] w := by
      intro lv hno H locs ls hP hS _ hl
      refine tx_throw (own := "RowDrawer") (cls := NSE) (sup := RTE) (text := ruT) (r := ["java/lang/Exception"]) (ik := 181) (is := 183) (ic := 185) (ix := 13) (sa := ad 600) (rx := prog_26_method_4_code) (A := AA ad s.heap.size) S.1 S.2.1 hlt (by decide +kernel) (by decide +kernel) (by decide +kernel) (by decide +kernel) hown (by decide +kernel) (by decide +kernel) (by decide +kernel) (hts _ (in_ws (tt_at 1144 rfl rfl))) (hts _ (in_ws (tt_at 98 rfl rfl))) hT.2.2.1 (vx_hat (B := nwL) (fun z hz => hts z (in_ws (rx_in z hz))) rx_no (fun z hz => va_Nw.use (nw_tab z hz) (hT.2.2.2 z hz))) rx_ot hT.1 hT.2.1 hS (hl.1.trans hml.symm) (by decide +kernel) (by decide +kernel) (by decide +kernel) (by decide +kernel) (by decide +kernel) (fun z hz => (hex z hz).elim) (Nat.le_of_ble_eq_true rfl) (Nat.le_of_ble_eq_true rfl) (Nat.le_of_ble_eq_true rfl) (Nat.le_of_ble_eq_true rfl) B.notSynchronized ?_ hS.2.2 (Nat.le_refl _) (Nat.le_refl _)
      intro t _ h1 h2
      refine ⟨rfl, hno, hP.kept (fun k q hq => h2 q.1 (hP k q hq).lt), Nat.le_trans hS.1 h1, fun q a b => ?_⟩
      rw [h2 q (Nat.lt_of_lt_of_le a hS.1)]
      exact hS.2.1 q a b
    have go : ∀ (k : Nat), k < nr w → x = nI k → (0 ≤ y.toInt ∧ y.toInt ≤ 5) → GZ p l e (rmX 31) s m (List.map (cv ad) [.ref 57, .int x, .int y]).toArray below meth c G cA ad 3 (fun _ => True) (vx_MQ below (Qw G cA ad s.heap.size (qI fun r w1 => Inv w1 ∧ RuOk w1 x y ∧ ∀ j, j < nr w1 → x = nI j → r = ruA w1 j y)) (Xr G cA ad s.heap.size (¬ RuOk w x y) w) (List.map (cv ad) [.ref 57, .int x, .int y]).toArray s 1 6 (AA ad s.heap.size)) 0 0 30 [(0, .ref 57), (1, .int x), (2, .int y)] [] w := by
      intro k hk ex hy H locs ls hP hS _ hl
      subst ex
      refine vx_ret (w_imp (w_room (R := rmD 31) (Nat.le_refl _) (Nat.le_refl _) (Nat.zero_le _) (Nat.zero_le _) (c_D_rule30 h hk y hy p l e s m _ below meth c G cA ad ⟨B.exec, B.bytes, B.returns, hml, hown, hts, B.notSynchronized⟩ hF hI H locs ls hP hS hl)) (fun t ht => mq_wide ht))
    refine g_aload_n (k := 0) (x := 57) S.1 S.2.1 (by decide +kernel) rfl ?_
    refine g_get S hF (by decide +kernel) (kn := 11) rfl (x := 42) (q := (11, 4)) rfl (v := .ref 25) rfl ?_
    refine g_iload_n (k := 1) (x := x) S.1 S.2.1 (by decide +kernel) rfl ?_
    refine g_callI (as := [.int x]) (st := []) (b := 25) (d := 30) (n := 1) (μ' := m_Book_hasRule) S hF hI (fun _ _ _ _ z => z) ⟨Nat.zero_le _, Nat.zero_le _⟩ ⟨Nat.le_refl _, Nat.le_refl _⟩ (by decide +kernel) (tt_at 1143 rfl rfl) m_Book_hasRule_ok rfl rfl rfl (c_Book_hasRule h.1.2.2 x) ?_
    rintro r w1 ⟨rfl, hr⟩
    refine g_if (cd := .eq) (off := 12) (tgt := 20) S.1 S.2.1 (by decide +kernel) (by decide) (fun g => ?_) (fun g => ?_)
    · refine thr (fun ok => ?_)
      rcases hr with ⟨-, e⟩ | ⟨a, -⟩
      · rw [e] at g
        exact absurd g (show ¬ ((1 : Int32) = 0) by decide)
      · exact a ok.1
    · have hru : isRu w1 x := by
        rcases hr with ⟨a, -⟩ | ⟨-, e⟩
        · exact a
        · exact absurd e g
      refine g_iload_n (k := 2) (x := y) S.1 S.2.1 (by decide +kernel) rfl ?_
      refine g_if (cd := .lt) (off := 8) (tgt := 20) S.1 S.2.1 (by decide +kernel) (by decide) (fun g2 => thr (fun ok => ?_)) (fun g2 => ?_)
      · have := lt0 g2
        have := ok.2.1
        omega
      · refine g_iload_n (k := 2) (x := y) S.1 S.2.1 (by decide +kernel) rfl ?_
        refine g_iconst (n := 5) S.1 S.2.1 (by decide +kernel) ?_
        refine g_icmp (cd := .le) (off := 13) (tgt := 30) S.1 S.2.1 (by decide +kernel) (by decide) (fun g3 => ?_) (fun g3 => thr (fun ok => ?_))
        · obtain ⟨k, hk, ex⟩ := isRu_of hru
          refine go k hk ex ⟨nlt0 g2, ?_⟩
          have g4 : y ≤ iI 5 := g3
          rw [i_le] at g4
          have e5 : (iI 5).toInt = 5 := by decide
          omega
        · have g4 : ¬ y ≤ iI 5 := g3
          rw [i_le] at g4
          have e5 : (iI 5).toInt = 5 := by decide
          have := ok.2.2
          omega
  exact key s.heap [] _ hP va_S.rf trivial hl
