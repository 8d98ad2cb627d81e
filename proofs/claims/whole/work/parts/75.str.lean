set_option maxRecDepth 100000
/-! WHAT String.length AND String.charAt ANSWER FOR THE TEN WORDS, out of the JDK's own code -/
def m_coder : MI := (17, ⟨"java/lang/String", "coder", "()B"⟩, prog_20_method_152_code, 1, (some .byte))
def m_isLatin1 : MI := (17, ⟨"java/lang/String", "isLatin1", "()Z"⟩, prog_20_method_154_code, 1, (some .boolean))
def m_L1 : MI := (99, ⟨"java/lang/StringLatin1", "charAt", "([BI)C"⟩, prog_21_method_2_code, 2, (some .char))
def m_chk : MI := (17, ⟨"java/lang/String", "checkIndex", "(II)V"⟩, prog_20_method_155_code, 2, none)
def m_pre : MI := (99, ⟨"jdk/internal/util/Preconditions", "checkIndex", "(IILjava/util/function/BiFunction;)I"⟩, prog_27_method_11_code, 3, (some .int))
theorem m_coder_ok : MOK (m_coder, 0, false) := ⟨tt_at 577 rfl rfl, tt_at 87 rfl rfl, by decide +kernel, by decide +kernel, by decide +kernel, ⟨tt_at 575 rfl rfl, tt_at 576 rfl rfl⟩, by decide +kernel, by decide, rfl⟩
theorem m_isLatin1_ok : MOK (m_isLatin1, 0, false) := ⟨tt_at 587 rfl rfl, tt_at 87 rfl rfl, by decide +kernel, by decide +kernel, by decide +kernel, ⟨tt_at 585 rfl rfl, tt_at 586 rfl rfl⟩, by decide +kernel, by decide, rfl⟩
theorem z_strV {μ : MI} {d : Nat} {Q : Option Value → Wd → Prop} {pc : Nat} {lv : List (Nat × Value)} {st : List Value} {w : Wd} {x n k : Nat} {μ' : MI} {as : List Value} {Q' : Option Value → Wd → Prop} (ho : (mY μ).cls = clN.getD (mK μ) "") (hd : decode (mB μ) pc = .ok (.invokevirtual x, 3)) (hlk : Cond.methodLink (clN.getD (mK μ) "") x (mY μ') ∈ TT) (hM : MOK (μ', n, false)) (has : as.length = n) (hk : k < 10) (hcl : (mY μ').cls = "java/lang/String") (hst : stW st = true) (hE : Ev μ' d (.ref (200 + k) :: as) w Q')
    (kk : ∀ (r : Option Value) (w' : Wd), Q' r w' → Z μ (d + 1) Q (pc + 3) lv (r.toList ++ st) w') : Z μ (d + 1) Q pc lv (as.reverse ++ .ref (200 + k) :: st) w := by
  refine z_back (as := .ref (200 + k) :: as) (Q' := Q') ?_ kk
  intro p l e s m args below meth c G cA ad hC hF hI H locs ls hP hS hl
  refine va_runV (As := as.map (cv ad)) (b := ad (200 + k)) (n := n) (nL := mL μ) (Ts := wsM μ) ⟨hC.1, hC.2.1, hC.2.2.2.1, hC.2.2.2.2.1, hC.2.2.2.2.2.1⟩ (hE l G cA ad H.size) (cw_V ho hC.2.2.2.2.2.1 hlk hM) ⟨Pw_blind, ?_, fun U hU hW => ⟨rfl, by rw [hU], by rw [hU]; exact hP, hF.go hS hU hW, hI⟩⟩ rfl (by simpa using has) hl.1 (by simp [List.map_reverse, cv]) (lv_room (stW_le ad hst)) hd ⟨Nat.zero_le _, Nat.zero_le _⟩
  rw [hcl]
  exact vk_recv (adK := fun k => ad (200 + k)) hF.2.2.2.1 hk hS
theorem z_strS {μ : MI} {d : Nat} {Q : Option Value → Wd → Prop} {pc : Nat} {lv : List (Nat × Value)} {st : List Value} {w : Wd} {x n : Nat} {μ' : MI} {as : List Value} {Q' : Option Value → Wd → Prop} (hd : decode (mB μ) pc = .ok (.invokestatic x, 3)) (hlk : Cond.methodLink (mY μ).cls x (mY μ') ∈ TT) (m1 : Cond.code (mY μ') (mB μ') (mL μ') (mR μ') ∈ TT) (m2 : Cond.initialized (mY μ').cls ∈ TT) (m6 : Cond.static (mY μ') ∈ TT) (m3 : (mY μ').cls ≠ "java/lang/invoke/MethodHandle" ∧ (mY μ').cls ≠ "java/lang/invoke/VarHandle" ∧ (parseMethodDescriptor (mY μ').desc).map (fun d => d.parameters.length) = some n) (m9 : mL μ' ≤ 21) (has : as.length = n) (hst : stW st = true) (hE : Ev μ' d as w Q')
    (kk : ∀ (r : Option Value) (w' : Wd), Q' r w' → Z μ (d + 1) Q (pc + 3) lv (r.toList ++ st) w') : Z μ (d + 1) Q pc lv (as.reverse ++ st) w := by
  refine z_back (as := as) (Q' := Q') ?_ kk
  intro p l e s m args below meth c G cA ad hC hF hI H locs ls hP hS hl
  have hcw : CallB (rmD (d + 1)) s args (mY μ).cls x (mY μ') (mB μ') (mL μ') (mR μ') (wsM μ') (rmD d) 0 0 n ∧ (Cond.static (mY μ')).before args s = true := by
    refine va_cwS (Ts := wsM μ) n hC.2.2.2.2.2.1 ?_ rfl rfl rfl m3 (rm_fit m9)
    intro z hz
    rcases List.mem_append.mp hz with hz | hz
    · simp only [List.mem_cons, List.not_mem_nil, or_false] at hz
      rcases hz with e | e | e <;> subst e
      · exact ⟨in_ws hlk, tt_good hlk⟩
      · exact ⟨in_ws m6, tt_good m6⟩
      · exact ⟨in_ws m2, tt_good m2⟩
    · exact good_ws m1 z hz
  exact va_runS (As := as.map (cv ad)) (n := n) (nL := mL μ) (Ts := wsM μ) ⟨hC.1, hC.2.1, hC.2.2.2.1, hC.2.2.2.2.1, hC.2.2.2.2.2.1⟩ (hE l G cA ad H.size) hcw ⟨Pw_blind, fun U hU hW => ⟨rfl, by rw [hU], by rw [hU]; exact hP, hF.go hS hU hW, hI⟩⟩ rfl (by simpa using has) hl.1 (by simp [List.map_reverse]) (lv_room (stW_le ad hst)) hd ⟨Nat.zero_le _, Nat.zero_le _⟩
section
variable {μ : MI} {d : Nat} {Q : Option Value → Wd → Prop} {pc : Nat} {lv : List (Nat × Value)} {st : List Value} {w : Wd}
theorem z_sval {k : Nat} (hk : k < 10) (ho : (mY μ).cls = "java/lang/String") (hd : decode (mB μ) pc = .ok (.getfield 9, 3)) (kk : Z μ d Q (pc + 3) lv (.ref (300 + k) :: st) w) : Z μ d Q pc lv (.ref (200 + k) :: st) w := by
  intro p l e s m args below meth c G cA ad hC hF hI H locs ls hP hS hl
  have hown := hC.2.2.2.2.1
  rw [ho] at hown
  exact vk_getf hC.1 hC.2.1 (hF.2.2.2.1.1 k hk).2.2.1 hS hown (hC.2.2.2.2.2.1 _ (in_ws (tt_at 1645 rfl rfl))) (fun _ h => h) hd (kk p l e s m args below meth c G cA ad hC hF hI H locs ls hP hS hl)
theorem z_scod {k : Nat} (hk : k < 10) (ho : (mY μ).cls = "java/lang/String") (hd : decode (mB μ) pc = .ok (.getfield 15, 3)) (kk : Z μ d Q (pc + 3) lv (.int 0 :: st) w) : Z μ d Q pc lv (.ref (200 + k) :: st) w := by
  intro p l e s m args below meth c G cA ad hC hF hI H locs ls hP hS hl
  have hown := hC.2.2.2.2.1
  rw [ho] at hown
  exact vk_getf hC.1 hC.2.1 (hF.2.2.2.1.1 k hk).2.1 hS hown (hC.2.2.2.2.2.1 _ (in_ws (tt_at 1646 rfl rfl))) (fun _ h => h) hd (kk p l e s m args below meth c G cA ad hC hF hI H locs ls hP hS hl)
theorem z_scmp (ho : (mY μ).cls = "java/lang/String") (hd : decode (mB μ) pc = .ok (.getstatic 38, 3)) (kk : Z μ d Q (pc + 3) lv (.int 1 :: st) w) : Z μ d Q pc lv st w := by
  intro p l e s m args below meth c G cA ad hC hF hI H locs ls hP hS hl
  have hown := hC.2.2.2.2.1
  rw [ho] at hown
  exact va_gets hC.1 hC.2.1 hF.2.2.2.2.1 hS hown (hC.2.2.2.2.2.1 _ (in_ws (tt_at 578 rfl rfl))) (fun _ h => h) hd (kk p l e s m args below meth c G cA ad hC hF hI H locs ls hP hS hl)
theorem z_sfmt (ho : (mY μ).cls = "java/lang/String") (hd : decode (mB μ) pc = .ok (.getstatic 1053, 3)) (k1 : Z μ d Q (pc + 3) lv (.null :: st) w) (k2 : Z μ d Q (pc + 3) lv (.ref 400 :: st) w) : Z μ d Q pc lv st w := by
  intro p l e s m args below meth c G cA ad hC hF hI H locs ls hP hS hl
  have hown := hC.2.2.2.2.1
  rw [ho] at hown
  rcases hF.2.2.2.2.2 with h | h
  · exact va_gets hC.1 hC.2.1 h hS hown (hC.2.2.2.2.2.1 _ (in_ws (tt_at 594 rfl rfl))) (fun _ h => h) hd (k1 p l e s m args below meth c G cA ad hC hF hI H locs ls hP hS hl)
  · exact va_gets hC.1 hC.2.1 h hS hown (hC.2.2.2.2.2.1 _ (in_ws (tt_at 594 rfl rfl))) (fun _ h => h) hd (k2 p l e s m args below meth c G cA ad hC hF hI H locs ls hP hS hl)
theorem z_slen {k : Nat} (hk : k < 10) (hd : decode (mB μ) pc = .ok (.arraylength, 1)) (kk : Z μ d Q (pc + 1) lv (.int (nI (sLen.getD k 0)) :: st) w) : Z μ d Q pc lv (.ref (300 + k) :: st) w := by
  intro p l e s m args below meth c G cA ad hC hF hI H locs ls hP hS hl
  exact va_tlen hC.1 hC.2.1 (hF.2.2.2.1.1 k hk).2.2.2 hS rfl hd (kk p l e s m args below meth c G cA ad hC hF hI H locs ls hP hS hl)
theorem z_sbyt {k i : Nat} (hk : k < 10) (hi : i < sLen.getD k 0) (hi2 : sLen.getD k 0 < 2 ^ 31) (hd : decode (mB μ) pc = .ok (.baload, 1)) (kk : Z μ d Q (pc + 1) lv (.int ((sByt.getD k []).getD i 0) :: st) w) : Z μ d Q pc lv (.int (nI i) :: .ref (300 + k) :: st) w := by
  intro p l e s m args below meth c G cA ad hC hF hI H locs ls hP hS hl
  exact va_tb (v := .int ((sByt.getD k []).getD i 0)) hC.1 hC.2.1 (hF.2.2.2.1.1 k hk).2.2.2 hS (vp_in_nI hi hi2) (by rw [nI_clamp (by omega)]) hd (kk p l e s m args below meth c G cA ad hC hF hI H locs ls hP hS hl)
end
theorem c_coder {d k : Nat} {w : Wd} (hk : k < 10) : EvI m_coder d [.ref (200 + k)] w (fun r w' => w' = w ∧ r = 0) := by
  refine Ev.ofZ (by decide +kernel) (Nat.le_refl _) ?_
  refine z_scmp rfl (by decide +kernel) ?_
  refine z_if (cd := .eq) (off := 10) (pc := 3) (tgt := 13) (by decide +kernel) (by decide) (fun h => absurd h (show ¬ ((1 : Int32) = 0) by decide)) (fun _ => ?_)
  refine z_aload_n (k := 0) (x := 200 + k) (by decide +kernel) rfl ?_
  refine z_scod hk rfl (by decide +kernel) ?_
  refine z_goto (off := 4) (tgt := 14) (by decide +kernel) (by decide) ?_
  exact z_ret (st := []) (by decide +kernel) rfl rfl ⟨rfl, rfl⟩
theorem c_isLatin1 {d k : Nat} {w : Wd} (hk : k < 10) : EvI m_isLatin1 d [.ref (200 + k)] w (fun r w' => w' = w ∧ r = 1) := by
  refine Ev.ofZ (by decide +kernel) (Nat.le_refl _) ?_
  refine z_scmp rfl (by decide +kernel) ?_
  refine z_if (cd := .eq) (off := 14) (pc := 3) (tgt := 17) (by decide +kernel) (by decide) (fun h => absurd h (show ¬ ((1 : Int32) = 0) by decide)) (fun _ => ?_)
  refine z_aload_n (k := 0) (x := 200 + k) (by decide +kernel) rfl ?_
  refine z_scod hk rfl (by decide +kernel) ?_
  refine z_if (cd := .ne) (off := 7) (pc := 10) (tgt := 17) (by decide +kernel) (by decide) (fun h => absurd rfl h) (fun _ => ?_)
  refine z_iconst (n := 1) (by decide +kernel) ?_
  refine z_goto (off := 4) (tgt := 18) (by decide +kernel) (by decide) ?_
  exact z_ret (st := []) (by decide +kernel) rfl rfl ⟨rfl, rfl⟩
theorem c_pre {d i n : Nat} {w : Wd} {v : Value} (hv : v = .null ∨ v = .ref 400) (h : i < n) (hn : n < 100) : EvI m_pre d [.int (nI i), .int (nI n), v] w (fun _ w' => w' = w) := by
  refine Ev.ofZ (by decide +kernel) (by rcases hv with rfl | rfl <;> exact Nat.le_refl _) ?_
  refine z_iload_n (k := 0) (x := nI i) (by decide +kernel) rfl ?_
  refine z_if (cd := .lt) (off := 8) (pc := 1) (tgt := 9) (by decide +kernel) (by decide) (fun h0 => absurd h0 (nn0 i)) (fun _ => ?_)
  refine z_iload_n (k := 0) (x := nI i) (by decide +kernel) rfl ?_
  refine z_iload_n (k := 1) (x := nI n) (by decide +kernel) rfl ?_
  refine z_icmp (cd := .lt) (off := 10) (pc := 6) (tgt := 16) (by decide +kernel) (by decide) (fun _ => ?_) (fun h0 => absurd (nI_lt h (by omega)) h0)
  refine z_iload_n (k := 0) (x := nI i) (by decide +kernel) rfl ?_
  exact z_ret (st := []) (by decide +kernel) rfl rfl rfl
theorem c_chk {d i n : Nat} {w : Wd} (h : i < n) (hn : n < 100) : EvV m_chk (d + 1) [.int (nI i), .int (nI n)] w (fun w' => w' = w) := by
  refine Ev.ofZ (by decide +kernel) (Nat.le_refl _) ?_
  refine z_iload_n (k := 0) (x := nI i) (by decide +kernel) rfl ?_
  refine z_iload_n (k := 1) (x := nI n) (by decide +kernel) rfl ?_
  have key : ∀ v : Value, (v = .null ∨ v = .ref 400) → Z m_chk (d + 1) (qV fun w' => w' = w) 5 (lv_args 0 [.int (nI i), .int (nI n)]) (v :: .int (nI n) :: .int (nI i) :: []) w := by
    intro v hv
    refine z_strS (μ' := m_pre) (n := 3) (as := [.int (nI i), .int (nI n), v]) (st := []) (by decide +kernel) (tt_at 596 rfl rfl) (tt_at 598 rfl rfl) (tt_at 89 rfl rfl) (tt_at 597 rfl rfl) ⟨by decide +kernel, by decide +kernel, by decide +kernel⟩ (by decide) rfl rfl (c_pre hv h hn) ?_
    intro r w' hq
    cases r with
    | none => exact hq.elim
    | some v =>
      cases v with
      | int v =>
        have e : w' = w := hq
        subst e
        exact z_pop rfl (by decide +kernel) (z_vret (st := []) (by decide +kernel) rfl rfl)
      | _ => exact hq.elim
  exact z_sfmt rfl (by decide +kernel) (key _ (Or.inl rfl)) (key _ (Or.inr rfl))
theorem by_ok : ∀ k, k < 10 → sLen.getD k 0 = (ws k).length ∧ (ws k).length < 7 ∧ ∀ i, i < (ws k).length → (sByt.getD k []).getD i 0 = nI ((ws k).getD i 0) ∧ (ws k).getD i 0 < 128 := by decide
theorem c_L1 {d i k : Nat} {w : Wd} (hk : k < 10) (h : i < (ws k).length) : EvI m_L1 (d + 2) [.ref (300 + k), .int (nI i)] w (fun r w' => w' = w ∧ r = nI ((ws k).getD i 0)) := by
  obtain ⟨e1, e2, e3⟩ := by_ok k hk
  obtain ⟨e4, e5⟩ := e3 i h
  refine Ev.ofZ (by decide +kernel) (Nat.le_refl _) ?_
  refine z_iload_n (k := 1) (x := nI i) (by decide +kernel) rfl ?_
  refine z_aload_n (k := 0) (x := 300 + k) (by decide +kernel) rfl ?_
  refine z_slen hk (by decide +kernel) ?_
  refine z_strS (μ' := m_chk) (n := 2) (as := [.int (nI i), .int (nI (sLen.getD k 0))]) (st := []) (by decide +kernel) (tt_at 591 rfl rfl) (tt_at 593 rfl rfl) (tt_at 87 rfl rfl) (tt_at 592 rfl rfl) ⟨by decide +kernel, by decide +kernel, by decide +kernel⟩ (by decide) rfl rfl (c_chk (by rw [e1]; exact h) (by rw [e1]; omega)) ?_
  intro r w' hq
  cases r with
  | some v => exact hq.elim
  | none =>
    have e : w' = w := hq
    subst e
    refine z_aload_n (k := 0) (x := 300 + k) (by decide +kernel) rfl ?_
    refine z_iload_n (k := 1) (x := nI i) (by decide +kernel) rfl ?_
    refine z_sbyt hk (by rw [e1]; exact h) (by rw [e1]; omega) (by decide +kernel) ?_
    rw [e4]
    refine z_sipush (n := 255) (by decide) (by decide) (by decide +kernel) ?_
    refine z_iand (by decide +kernel) ?_
    have e6 : ∀ c, c < 128 → ((nI c &&& iI 255).toUInt32 % 65536).toInt32 = nI c ∧ narrow .char (.int (nI c)) = .int (nI c) := by decide
    refine z_i2c (by decide +kernel) ?_
    rw [(e6 _ e5).1]
    exact z_ret (st := []) (by decide +kernel) rfl (e6 _ e5).2 ⟨rfl, rfl⟩
theorem str_ok : StrOK := by
  intro d w j hj
  obtain ⟨e1, e2, e3⟩ := by_ok j hj
  refine ⟨?_, fun i hi => ?_⟩
  · refine Ev.ofZ (by decide +kernel) (Nat.le_refl _) ?_
    refine z_aload_n (k := 0) (x := 200 + j) (by decide +kernel) rfl ?_
    refine z_sval hj rfl (by decide +kernel) ?_
    refine z_slen hj (by decide +kernel) ?_
    refine z_aload_n (k := 0) (x := 200 + j) (by decide +kernel) rfl ?_
    refine z_strV (μ' := m_coder) (n := 0) (as := []) (x := 335) rfl (by decide +kernel) (tt_at 574 rfl rfl) m_coder_ok rfl hj rfl rfl (c_coder hj) ?_
    intro r w' hq
    cases r with
    | none => exact hq.elim
    | some v =>
      cases v with
      | int v =>
        obtain ⟨rfl, rfl⟩ : w' = w ∧ v = 0 := hq
        rw [e1]
        refine z_ishr (by decide +kernel) ?_
        have e4 : ∀ n, n < 7 → nI n >>> ((0 : Int32) &&& 31) = nI n := by decide
        rw [e4 _ e2]
        exact z_ret (st := []) (by decide +kernel) rfl rfl ⟨rfl, rfl⟩
      | _ => exact hq.elim
  · obtain ⟨e4, e5⟩ := e3 i hi
    refine Ev.ofZ (by decide +kernel) (Nat.le_refl _) ?_
    refine z_aload_n (k := 0) (x := 200 + j) (by decide +kernel) rfl ?_
    refine z_strV (μ' := m_isLatin1) (n := 0) (as := []) (x := 492) rfl (by decide +kernel) (tt_at 584 rfl rfl) m_isLatin1_ok rfl hj rfl rfl (c_isLatin1 hj) ?_
    intro r w' hq
    cases r with
    | none => exact hq.elim
    | some v =>
      cases v with
      | int v =>
        obtain ⟨rfl, rfl⟩ : w' = w ∧ v = 1 := hq
        refine z_if (cd := .eq) (off := 12) (pc := 4) (tgt := 16) (by decide +kernel) (by decide) (fun h => absurd h (show ¬ ((1 : Int32) = 0) by decide)) (fun _ => ?_)
        refine z_aload_n (k := 0) (x := 200 + j) (by decide +kernel) rfl ?_
        refine z_sval hj rfl (by decide +kernel) ?_
        refine z_iload_n (k := 1) (x := nI i) (by decide +kernel) rfl ?_
        refine z_strS (μ' := m_L1) (n := 2) (as := [.ref (300 + j), .int (nI i)]) (st := []) (by decide +kernel) (tt_at 588 rfl rfl) (tt_at 590 rfl rfl) (tt_at 88 rfl rfl) (tt_at 589 rfl rfl) ⟨by decide +kernel, by decide +kernel, by decide +kernel⟩ (by decide) rfl rfl (c_L1 hj hi) ?_
        intro r w2 hq
        cases r with
        | none => exact hq.elim
        | some v =>
          cases v with
          | int v =>
            obtain ⟨rfl, rfl⟩ : w2 = w' ∧ v = nI ((ws j).getD i 0) := hq
            have e6 : ∀ c, c < 128 → narrow .char (.int (nI c)) = .int (nI c) := by decide
            exact z_ret (st := []) (by decide +kernel) rfl (e6 _ e5) ⟨rfl, rfl⟩
          | _ => exact hq.elim
      | _ => exact hq.elim
