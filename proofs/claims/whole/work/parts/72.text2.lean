/-! TEXT: the class's whole run -/
/-- the tape, as told -/
def tpf (w : Wd) (k : Nat) : Nat := if k < tp w then N w 59 k else 0
theorem tpf_ok {w : Wd} (h : TapI w) : TA (tp w) (tpf w) w ∧ TB (tp w) (tpf w) w := by
  have key : ∀ k, k < tp w → w.1 9 k = nI (tpf w k) ∧ w.1 59 k = nI (tpf w k) ∧ tpf w k < 128 := fun k hk => by
    obtain ⟨c, hc, e1, e2⟩ := h.2 k hk
    have e : tpf w k = c := by
      unfold tpf
      rw [if_pos hk]
      exact N_of e2
    rw [e]
    exact ⟨e1, e2, by omega⟩
  have z : ∀ k, tp w ≤ k → tpf w k = 0 := fun k hk => by unfold tpf; rw [if_neg (by omega)]
  exact ⟨⟨h.1.1, h.1.2.2, fun k hk => ⟨(key k hk).1, (key k hk).2.2⟩, z⟩, h.1.1, fun k hk => ⟨(key k hk).2.1, (key k hk).2.2⟩, z⟩
/-- the world in which the reader begins -/
def ST (L : Nat) (t : Nat → Nat) (w W : Wd) : Prop := (∀ a k, ¬ (a = 8 ∧ k = 1) → ¬ (10 ≤ a ∧ a ≤ 13) → a ≠ 24 → W.1 a k = w.1 a k) ∧ W.2 = w.2 ∧ W.1 8 1 = nI 0 ∧ TkC L t W ∧ W.1 13 0 = nI 0 ∧ W.1 13 7 = nI 0 ∧ W.1 13 9 = nI 0 ∧ W.1 13 13 = nI 0 ∧ W.1 24 3 = nI 0
theorem ST.cvd {L : Nat} {t : Nat → Nat} {w W : Wd} (hL : L ≤ 1200) (h : ST L t w W) : CVD W ∧ tk W = 0 := by
  obtain ⟨-, -, -, ⟨t1, t2, t3, t4, t5⟩, e0, e7, e9, -, e24⟩ := h
  have hc := ct_le (stB t) L
  have tk0 : tk W = 0 := N_of t2
  refine ⟨⟨⟨ct (stB t) L + 1, by omega, by omega, t1, t4, by omega, by rw [tk0]; exact t2, fun j hj => ?_⟩, ?_, e24⟩, tk0⟩
  · by_cases e : j = ct (stB t) L
    · rw [e, t5]; exact ⟨L, hL, rfl⟩
    · obtain ⟨k, k1, k2, k3, k4⟩ := ct_find (p := stB t) (i := j) (A := 0) (B := L) (Nat.zero_le _) (Nat.zero_le _) (by omega)
      rw [← k4, (t3 k k2 k3).2]
      exact ⟨k, by omega, rfl⟩
  · unfold DV
    rw [show nd W = 0 from N_of e0, show nb W = 0 from N_of e7, show nc W = 0 from N_of e9]
    exact ⟨e0, by omega, e7, by omega, e9, by omega⟩
theorem c_read (hs : StrOK) {w : Wd} (h : TapI w) : EvI m_Reader_read 29 [.ref 24] w (fun r w' => ∃ W, ST (tp w) (tpf w) w W ∧ w' = fRead 1200 W ∧ r = w'.1 24 3 ∧ (¬ w'.1 24 3 = 0 ∨ (CVD w' ∧ cd w' = -nI 1))) := by
  obtain ⟨hA, -⟩ := tpf_ok h
  refine ev_Reader_read (vc_Reader_read_0 ⟨_, c_scan (d := 20) hs hA, ?_⟩)
  rintro w1 ⟨o1, T1⟩
  refine ⟨_, ev_Tape_clear (vc_Tape_clear_0 (Q := fun w' => w' = up1 w1 8 1 (nI 0)) rfl), ?_⟩
  rintro w2 rfl
  refine ⟨_, ev_Book_clear_d (vc_Book_clear_d_0 (Q := fun w' => w' = up1 (up1 (up1 (up1 (up1 w1 8 1 (nI 0)) 13 0 (nI 0)) 13 7 (nI 0)) 13 9 (nI 0)) 13 13 (nI 0)) rfl), ?_⟩
  rintro w3 rfl
  have hST : ST (tp w) (tpf w) w (up1 (up1 (up1 (up1 (up1 (up1 w1 8 1 (nI 0)) 13 0 (nI 0)) 13 7 (nI 0)) 13 9 (nI 0)) 13 13 (nI 0)) 24 3 (nI 0)) := by
    refine ⟨fun a k h1 h2 h3 => ?_, ?_, ?_, ?_, ?_, ?_, ?_, ?_, ?_⟩
    · rw [u_o (by omega), u_o (by omega), u_o (by omega), u_o (by omega), u_o (by omega), u_o h1, o1.1 a (by omega)]
    · rw [up1_2, up1_2, up1_2, up1_2, up1_2, up1_2, o1.2]
    · rw [u_o (by omega), u_o (by omega), u_o (by omega), u_o (by omega), u_o (by omega), u_s]
    · have c : ∀ a k, 10 ≤ a → a ≤ 12 → (up1 (up1 (up1 (up1 (up1 (up1 w1 8 1 (nI 0)) 13 0 (nI 0)) 13 7 (nI 0)) 13 9 (nI 0)) 13 13 (nI 0)) 24 3 (nI 0)).1 a k = w1.1 a k := fun a k h1 h2 => by
        rw [u_o (by omega), u_o (by omega), u_o (by omega), u_o (by omega), u_o (by omega), u_o (by omega)]
      unfold TkC
      rw [c 10 2 (by omega) (by omega), c 10 3 (by omega) (by omega), c 11 _ (by omega) (by omega), c 12 _ (by omega) (by omega)]
      obtain ⟨t1, t2, t3, t4, t5⟩ := T1
      exact ⟨t1, t2, fun k hk hst => by rw [c 11 _ (by omega) (by omega), c 12 _ (by omega) (by omega)]; exact t3 k hk hst, t4, t5⟩
    · rw [u_o (by omega), u_o (by omega), u_o (by omega), u_o (by omega), u_s]
    · rw [u_o (by omega), u_o (by omega), u_o (by omega), u_s]
    · rw [u_o (by omega), u_o (by omega), u_s]
    · rw [u_o (by omega), u_s]
    · rw [u_s]
  generalize up1 (up1 (up1 (up1 (up1 (up1 w1 8 1 (nI 0)) 13 0 (nI 0)) 13 7 (nI 0)) 13 9 (nI 0)) 13 13 (nI 0)) 24 3 (nI 0) = W at *
  obtain ⟨cv, tk0⟩ := hST.cvd hA.1
  exact c_stmts (d := 23) 1200 W (Nat.le_refl _) (Or.inr ⟨cv, by omega⟩) (fun w' e p => ⟨W, hST, e, rfl, p⟩)
/-- the book behind become -/
def BC (w w' : Wd) : Prop := (∀ a k, ¬ (25 ≤ a ∧ a ≤ 35) → w'.1 a k = w.1 a k) ∧ w'.2 = w.2 ∧ (∀ k, k = 0 ∨ k = 7 ∨ k = 9 ∨ k = 13 → w'.1 25 k = w.1 13 k) ∧ (∀ a k, 26 ≤ a → a ≤ 29 → k < 12 → w'.1 a k = w.1 (a - 12) k) ∧ (∀ a k, 30 ≤ a → a ≤ 31 → k < 120 → w'.1 a k = w.1 (a - 12) k) ∧ (∀ k, k < 10 → w'.1 32 k = w.1 20 k) ∧ ∀ a k, 33 ≤ a → a ≤ 35 → k < 6 → w'.1 a k = w.1 (a - 12) k
theorem uA_o {w : Wd} {a b j : Nat} {f : Nat → Int32} (h : b ≠ a) : (upA w a f).1 b j = w.1 b j := by rw [upA_1, if_neg h]
theorem cpy0 (f g : Nat → Int32) {m k : Nat} (h : k < m) : va_cpy f g 0 0 m k = f k := by
  unfold va_cpy
  simp
  omega
theorem cpS (w : Wd) (a b m : Nat) : (∀ x k, x ≠ b → (upA w b (va_cpy (w.1 a) (w.1 b) 0 0 m)).1 x k = w.1 x k) ∧ (upA w b (va_cpy (w.1 a) (w.1 b) 0 0 m)).2 = w.2 ∧ ∀ k, k < m → (upA w b (va_cpy (w.1 a) (w.1 b) 0 0 m)).1 b k = w.1 a k := by
  refine ⟨fun x k hx => uA_o hx, upA_2 _ _ _, fun k hk => ?_⟩
  rw [upA_1, if_pos rfl, cpy0 _ _ hk]
theorem c_become {d : Nat} {w : Wd} : EvV m_Book_become (d + 1) [.ref 25, .ref 13] w (fun w' => BC w w') := by
  refine ev_Book_become (vc_Book_become_0 ?_)
  have o0 : ∀ a k, a ≠ 25 → (up1 (up1 (up1 (up1 w 25 0 (w.1 13 0)) 25 7 (w.1 13 7)) 25 9 (w.1 13 9)) 25 13 (w.1 13 13)).1 a k = w.1 a k := fun a k ha => by rw [u_o (by omega), u_o (by omega), u_o (by omega), u_o (by omega)]
  have e0 : (up1 (up1 (up1 (up1 w 25 0 (w.1 13 0)) 25 7 (w.1 13 7)) 25 9 (w.1 13 9)) 25 13 (w.1 13 13)).2 = w.2 := by rw [up1_2, up1_2, up1_2, up1_2]
  have c0 : ∀ k, k = 0 ∨ k = 7 ∨ k = 9 ∨ k = 13 → (up1 (up1 (up1 (up1 w 25 0 (w.1 13 0)) 25 7 (w.1 13 7)) 25 9 (w.1 13 9)) 25 13 (w.1 13 13)).1 25 k = w.1 13 k := by
    rintro k (rfl | rfl | rfl | rfl)
    · rw [u_o (by omega), u_o (by omega), u_o (by omega), u_s]
    · rw [u_o (by omega), u_o (by omega), u_s]
    · rw [u_o (by omega), u_s]
    · rw [u_s]
  generalize up1 (up1 (up1 (up1 w 25 0 (w.1 13 0)) 25 7 (w.1 13 7)) 25 9 (w.1 13 9)) 25 13 (w.1 13 13) = w0 at *
  refine vc_Book_become_32 ⟨0, 0, 12, rfl, rfl, rfl, by omega, by omega, ?_⟩
  obtain ⟨o1, e1, c1⟩ := cpS w0 14 26 12
  generalize upA w0 26 (va_cpy (w0.1 14) (w0.1 26) 0 0 12) = w1 at *
  refine vc_Book_become_47 ⟨0, 0, 12, rfl, rfl, rfl, by omega, by omega, ?_⟩
  obtain ⟨o2, e2, c2⟩ := cpS w1 15 27 12
  generalize upA w1 27 (va_cpy (w1.1 15) (w1.1 27) 0 0 12) = w2 at *
  refine vc_Book_become_62 ⟨0, 0, 12, rfl, rfl, rfl, by omega, by omega, ?_⟩
  obtain ⟨o3, e3, c3⟩ := cpS w2 16 28 12
  generalize upA w2 28 (va_cpy (w2.1 16) (w2.1 28) 0 0 12) = w3 at *
  refine vc_Book_become_77 ⟨0, 0, 12, rfl, rfl, rfl, by omega, by omega, ?_⟩
  obtain ⟨o4, e4, c4⟩ := cpS w3 17 29 12
  generalize upA w3 29 (va_cpy (w3.1 17) (w3.1 29) 0 0 12) = w4 at *
  refine vc_Book_become_92 ⟨0, 0, 120, rfl, rfl, rfl, by omega, by omega, ?_⟩
  obtain ⟨o5, e5, c5⟩ := cpS w4 18 30 120
  generalize upA w4 30 (va_cpy (w4.1 18) (w4.1 30) 0 0 120) = w5 at *
  refine vc_Book_become_107 ⟨0, 0, 120, rfl, rfl, rfl, by omega, by omega, ?_⟩
  obtain ⟨o6, e6, c6⟩ := cpS w5 19 31 120
  generalize upA w5 31 (va_cpy (w5.1 19) (w5.1 31) 0 0 120) = w6 at *
  refine vc_Book_become_122 ⟨0, 0, 10, rfl, rfl, rfl, by omega, by omega, ?_⟩
  obtain ⟨o7, e7, c7⟩ := cpS w6 20 32 10
  generalize upA w6 32 (va_cpy (w6.1 20) (w6.1 32) 0 0 10) = w7 at *
  refine vc_Book_become_137 ⟨0, 0, 6, rfl, rfl, rfl, by omega, by omega, ?_⟩
  obtain ⟨o8, e8, c8⟩ := cpS w7 21 33 6
  generalize upA w7 33 (va_cpy (w7.1 21) (w7.1 33) 0 0 6) = w8 at *
  refine vc_Book_become_152 ⟨0, 0, 6, rfl, rfl, rfl, by omega, by omega, ?_⟩
  obtain ⟨o9, e9, c9⟩ := cpS w8 22 34 6
  generalize upA w8 34 (va_cpy (w8.1 22) (w8.1 34) 0 0 6) = w9 at *
  refine vc_Book_become_167 ⟨0, 0, 6, rfl, rfl, rfl, by omega, by omega, ?_⟩
  obtain ⟨o10, e10, c10⟩ := cpS w9 23 35 6
  generalize upA w9 35 (va_cpy (w9.1 23) (w9.1 35) 0 0 6) = w10 at *
  refine ⟨fun a k ha => ?_, ?_, fun k hk => ?_, fun a k h1 h2 hk => ?_, fun a k h1 h2 hk => ?_, fun k hk => ?_, fun a k h1 h2 hk => ?_⟩
  · rw [o10 a k (by omega), o9 a k (by omega), o8 a k (by omega), o7 a k (by omega), o6 a k (by omega), o5 a k (by omega), o4 a k (by omega), o3 a k (by omega), o2 a k (by omega), o1 a k (by omega), o0 a k (by omega)]
  · rw [e10, e9, e8, e7, e6, e5, e4, e3, e2, e1, e0]
  · rw [o10 25 k (by omega), o9 25 k (by omega), o8 25 k (by omega), o7 25 k (by omega), o6 25 k (by omega), o5 25 k (by omega), o4 25 k (by omega), o3 25 k (by omega), o2 25 k (by omega), o1 25 k (by omega)]; exact c0 k hk
  · have : a = 26 ∨ a = 27 ∨ a = 28 ∨ a = 29 := by omega
    rcases this with rfl | rfl | rfl | rfl
    · rw [o10 26 k (by omega), o9 26 k (by omega), o8 26 k (by omega), o7 26 k (by omega), o6 26 k (by omega), o5 26 k (by omega), o4 26 k (by omega), o3 26 k (by omega), o2 26 k (by omega), c1 k hk, o0 14 k (by omega)]
    · rw [o10 27 k (by omega), o9 27 k (by omega), o8 27 k (by omega), o7 27 k (by omega), o6 27 k (by omega), o5 27 k (by omega), o4 27 k (by omega), o3 27 k (by omega), c2 k hk, o1 15 k (by omega), o0 15 k (by omega)]
    · rw [o10 28 k (by omega), o9 28 k (by omega), o8 28 k (by omega), o7 28 k (by omega), o6 28 k (by omega), o5 28 k (by omega), o4 28 k (by omega), c3 k hk, o2 16 k (by omega), o1 16 k (by omega), o0 16 k (by omega)]
    · rw [o10 29 k (by omega), o9 29 k (by omega), o8 29 k (by omega), o7 29 k (by omega), o6 29 k (by omega), o5 29 k (by omega), c4 k hk, o3 17 k (by omega), o2 17 k (by omega), o1 17 k (by omega), o0 17 k (by omega)]
  · have : a = 30 ∨ a = 31 := by omega
    rcases this with rfl | rfl
    · rw [o10 30 k (by omega), o9 30 k (by omega), o8 30 k (by omega), o7 30 k (by omega), o6 30 k (by omega), c5 k hk, o4 18 k (by omega), o3 18 k (by omega), o2 18 k (by omega), o1 18 k (by omega), o0 18 k (by omega)]
    · rw [o10 31 k (by omega), o9 31 k (by omega), o8 31 k (by omega), o7 31 k (by omega), c6 k hk, o5 19 k (by omega), o4 19 k (by omega), o3 19 k (by omega), o2 19 k (by omega), o1 19 k (by omega), o0 19 k (by omega)]
  · rw [o10 32 k (by omega), o9 32 k (by omega), o8 32 k (by omega), c7 k hk, o6 20 k (by omega), o5 20 k (by omega), o4 20 k (by omega), o3 20 k (by omega), o2 20 k (by omega), o1 20 k (by omega), o0 20 k (by omega)]
  · have : a = 33 ∨ a = 34 ∨ a = 35 := by omega
    rcases this with rfl | rfl | rfl
    · rw [o10 33 k (by omega), o9 33 k (by omega), c8 k hk, o7 21 k (by omega), o6 21 k (by omega), o5 21 k (by omega), o4 21 k (by omega), o3 21 k (by omega), o2 21 k (by omega), o1 21 k (by omega), o0 21 k (by omega)]
    · rw [o10 34 k (by omega), c9 k hk, o8 22 k (by omega), o7 22 k (by omega), o6 22 k (by omega), o5 22 k (by omega), o4 22 k (by omega), o3 22 k (by omega), o2 22 k (by omega), o1 22 k (by omega), o0 22 k (by omega)]
    · rw [c10 k hk, o9 23 k (by omega), o8 23 k (by omega), o7 23 k (by omega), o6 23 k (by omega), o5 23 k (by omega), o4 23 k (by omega), o3 23 k (by omega), o2 23 k (by omega), o1 23 k (by omega), o0 23 k (by omega)]
theorem c_forgetAll {d : Nat} {w : Wd} : EvV m_Finder_forgetAll d [.ref 36] w (fun w' => Of (fun a => a = 40) w w' ∧ ∀ s, s < 40 → w'.1 40 s = 1) := by
  refine ev_Finder_forgetAll (vc_Finder_forgetAll_0 ?_)
  refine lpU (I := fun k w' => Of (fun a => a = 40) w w' ∧ ∀ s, s < k → w'.1 40 s = 1) (G := fun k w' => Z m_Finder_forgetAll d (qV (fun w' => Of (fun a => a = 40) w w' ∧ ∀ s, s < 40 → w'.1 40 s = 1)) 2 [(0, .ref 36), (1, .int (nI k))] [] w') (M := 40) ?_ ?_ 0 (Nat.zero_le _) _ ⟨Of.rf, fun s hs => absurd hs (Nat.not_lt_zero _)⟩
  · rintro w1 h
    exact vc_Finder_forgetAll_2 _ ⟨fun _ => h, fun g => absurd (mle (Nat.le_refl _)) g⟩
  · rintro k w1 hk ⟨h1, h2⟩ nx
    refine vc_Finder_forgetAll_2 _ ⟨fun g => absurd (gle g) (by omega), fun _ => ⟨k, rfl, hk, Or.inr rfl, ?_⟩⟩
    rw [nI_add]
    refine nx _ ⟨h1.tr (Of.up rfl), fun s hs => ?_⟩
    by_cases e : s = k
    · rw [e, u_s]; rfl
    · rw [u_o (by omega)]; exact h2 s (by omega)
