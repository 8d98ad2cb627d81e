/-! feed -/
theorem sg_bits (y z : BitVec 64) (k : Nat) (hk : k ≤ 56) (hz : z.toNat = k) : (y.sshiftRight' z).signExtend 32 &&& BitVec.ofNat 32 255 = (y >>> z).signExtend 32 &&& BitVec.ofNat 32 255 := by
  apply BitVec.eq_of_getLsbD_eq
  intro i hi
  have h255 : (BitVec.ofNat 32 255).getLsbD i = decide (i < 8) := by
    have : ∀ i, i < 32 → (BitVec.ofNat 32 255).getLsbD i = decide (i < 8) := by decide
    exact this i hi
  rw [BitVec.getLsbD_and, BitVec.getLsbD_and, h255]
  by_cases h8 : i < 8
  · rw [BitVec.getLsbD_signExtend, BitVec.getLsbD_signExtend]
    simp only [BitVec.sshiftRight', hz, BitVec.getLsbD_sshiftRight, BitVec.ushiftRight_eq', BitVec.getLsbD_ushiftRight]
    rw [if_pos (show i < 64 by omega), if_pos (show i < 64 by omega), if_pos (show k + i < 64 by omega)]
    simp [show ¬ 64 ≤ i by omega]
  · simp [h8]
theorem sg_eq (x : Int64) {k : Nat} (hk : k ≤ 56) : ((x >>> ((nI k).toInt64 &&& 63)).toInt32 &&& nI 255) = (((x.toUInt64 >>> ((nI k).toInt64.toUInt64 &&& Int64.toUInt64 63)).toInt64).toInt32 &&& nI 255) := by
  apply Int32.toBitVec_inj.mp
  rw [wb_c k (by omega), wb_cu k (by omega)]
  rw [Int32.toBitVec_and, Int32.toBitVec_and, Int64.toBitVec_toInt32, Int64.toBitVec_toInt32, Int64.toBitVec_shiftRight]
  rw [show (lN k).toBitVec = BitVec.ofNat 64 k from rfl, wb_sm k (by omega)]
  have e := sg_bits x.toBitVec (BitVec.ofNat 64 k) k hk (by rw [BitVec.toNat_ofNat]; omega)
  rw [show (nI 255).toBitVec = BitVec.ofNat 32 255 from rfl, e]
  congr 2
  show _ = (x.toUInt64 >>> UInt64.ofNat k).toBitVec
  rw [UInt64.toBitVec_shiftRight]
  show x.toBitVec >>> BitVec.ofNat 64 k = x.toBitVec >>> ((BitVec.ofNat 64 k) % 64)
  congr 1
  apply BitVec.eq_of_toNat_eq
  rw [BitVec.toNat_umod, BitVec.toNat_ofNat]
  show _ = _ % 64
  omega
def sgn (x : Int64) (k : Nat) : Int32 := ((x.toUInt64 >>> ((nI k).toInt64.toUInt64 &&& Int64.toUInt64 63)).toInt64).toInt32 &&& nI 255
theorem sgn_lt (x : Int64) (k : Nat) : ∃ c, c < 256 ∧ sgn x k = nI c := by
  refine ⟨_, Nat.mod_lt _ (by decide), pk_and _ (m := nI 255) 8 (by decide)⟩
def kn (c : Int32) : Prop := c = nI 10 ∨ (nI 32 ≤ c ∧ c ≤ nI 126)
theorem kn_nI {c : Nat} (h : c < 256) : kn (nI c) ↔ c = 10 ∨ (32 ≤ c ∧ c ≤ 126) := by
  unfold kn
  rw [nI_eq (by omega) (by omega), nI_leI (by omega) (by omega), nI_leI (by omega) (by omega)]
theorem c_isKnown {d : Nat} {w : Wd} {c : Nat} (h : c < 256) : EvI m_Tape_isKnown d [.int (nI c)] w (fun r w' => w' = w ∧ Bo (kn (nI c)) r) := by
  refine ev_Tape_isKnown _ (vc_Tape_isKnown_0 _ ⟨fun g => ⟨Or.inr rfl, rfl, Bo.t (Or.inl g)⟩, fun g => ⟨fun g2 => ⟨Or.inl rfl, rfl, Bo.f ?_⟩, fun g2 => ⟨fun g3 => ⟨Or.inl rfl, rfl, Bo.f ?_⟩, fun g3 => ⟨Or.inr rfl, rfl, Bo.t (Or.inr ⟨?_, ?_⟩)⟩⟩⟩⟩)
  · rintro (e | ⟨e, -⟩)
    · exact g e
    · have := glt g2; have := gle e; omega
  · rintro (e | ⟨-, e⟩)
    · exact g e
    · have := glt g3; have := gle e; omega
  · exact mle (nglt g2)
  · exact mle (nglt g3)
/-- a sign is laid on a tape -/
noncomputable def ap (c : Int32) (st : Nat × (Nat → Int32)) : Nat × (Nat → Int32) := @ite _ (kn c ∧ st.1 < 1200) (Classical.propDecidable _) (st.1 + 1, fun k => if k = st.1 then c else st.2 k) st
theorem ap_y {c : Int32} {st : Nat × (Nat → Int32)} (h : kn c ∧ st.1 < 1200) : ap c st = (st.1 + 1, fun k => if k = st.1 then c else st.2 k) := by unfold ap; rw [if_pos h]
theorem ap_n {c : Int32} {st : Nat × (Nat → Int32)} (h : ¬ (kn c ∧ st.1 < 1200)) : ap c st = st := by unfold ap; rw [if_neg h]
noncomputable def pu (x : Int64) : Nat → Nat × (Nat → Int32) → Nat × (Nat → Int32)
  | 0, st => st
  | j + 1, st => pu x j (ap (sgn x (8 * j)) st)
/-- both tapes bear the same -/
def Ag (s1 s2 : Nat × (Nat → Int32)) : Prop := s1.1 = s2.1 ∧ s1.1 ≤ 1200 ∧ ∀ k, k < s1.1 → ∃ c, (c = 10 ∨ (32 ≤ c ∧ c ≤ 126)) ∧ s1.2 k = nI c ∧ s2.2 k = nI c
theorem Ag.ap {c : Nat} (hc : c < 256) {s1 s2 : Nat × (Nat → Int32)} (h : Ag s1 s2) : Ag (ap (nI c) s1) (ap (nI c) s2) := by
  obtain ⟨h1, h2, h3⟩ := h
  by_cases g : kn (nI c) ∧ s1.1 < 1200
  · rw [ap_y g, ap_y (by rw [← h1]; exact g)]
    refine ⟨by show s1.1 + 1 = s2.1 + 1; rw [h1], by show s1.1 + 1 ≤ 1200; omega, fun k hk => ?_⟩
    show ∃ c', _ ∧ (if k = s1.1 then nI c else s1.2 k) = _ ∧ (if k = s2.1 then nI c else s2.2 k) = _
    rw [← h1]
    by_cases e : k = s1.1
    · rw [if_pos e, if_pos e]; exact ⟨c, (kn_nI hc).mp g.1, rfl, rfl⟩
    · rw [if_neg e, if_neg e]
      exact h3 k (by have : k < s1.1 + 1 := hk; omega)
  · rw [ap_n g, ap_n (by rw [← h1]; exact g)]
    exact ⟨h1, h2, h3⟩
theorem Ag.pu {x : Int64} : ∀ (j : Nat) {s1 s2 : Nat × (Nat → Int32)}, Ag s1 s2 → Ag (pu x j s1) (pu x j s2)
  | 0, _, _, h => h
  | j + 1, _, _, h => by
    obtain ⟨c, hc, e⟩ := sgn_lt x (8 * j)
    show Ag (Jvm.Pilot.CRowDrawerLaw_law_r8222_c6552c.pu x j _) (Jvm.Pilot.CRowDrawerLaw_law_r8222_c6552c.pu x j _)
    rw [e]
    exact Ag.pu j (h.ap hc)
def sh : Nat → Int32
  | 0 => -nI 8
  | j + 1 => nI (8 * j)
theorem sh_step : ∀ j, sh (j + 1) + -nI 8 = sh j
  | 0 => by decide
  | j + 1 => by
    show nI (8 * (j + 1)) + -nI 8 = nI (8 * j)
    rw [show 8 * (j + 1) = 8 * j + 8 by omega, ← nI_add, Int32.add_assoc, show nI 8 + -nI 8 = 0 by decide, Int32.add_zero]
theorem ap_le {c : Int32} {st : Nat × (Nat → Int32)} (h : st.1 ≤ 1200) : (ap c st).1 ≤ 1200 := by
  by_cases g : kn c ∧ st.1 < 1200
  · rw [ap_y g]; show st.1 + 1 ≤ 1200; omega
  · rw [ap_n g]; exact h
def CT (a k : Nat) : Prop := a = 9 ∨ (a = 8 ∧ k = 1)
theorem z_tput {d : Nat} {w0 : Wd} {Q : Wd → Prop} {x : Int64} : ∀ (j : Nat) (w : Wd) (st : Nat × (Nat → Int32)), j ≤ 8 → st.1 ≤ 1200 → w.1 8 1 = nI st.1 → w.1 9 = st.2 → (Sm CT w0 w ∧ w.2 = w0.2) → (∀ w', (Sm CT w0 w' ∧ w'.2 = w0.2) → w'.1 8 1 = nI (pu x j st).1 → w'.1 9 = (pu x j st).2 → Q w') → Z m_Tape_put (d + 1) (qV Q) 3 [(0, .ref 8), (1, .long (x)), (3, .int (sh j))] [] w := by
  intro j
  induction j with
  | zero =>
    intro w st _ _ h1 h2 h3 hq
    exact vc_Tape_put_3 _ _ ⟨fun _ => hq w h3 h1 h2, fun g => absurd (by decide) g⟩
  | succ j ih =>
    intro w st hj h0 h1 h2 h3 hq
    refine vc_Tape_put_3 _ _ ⟨fun g => absurd g (nn0 (8 * j)), fun _ => ?_⟩
    rw [sh_step j]
    obtain ⟨c, hc, ec⟩ := sgn_lt x (8 * j)
    have ec' : ((x.toUInt64 >>> ((sh (j + 1)).toInt64.toUInt64 &&& Int64.toUInt64 63)).toInt64).toInt32 &&& nI 255 = nI c := ec
    rw [ec']
    have hq' : ∀ w', (Sm CT w0 w' ∧ w'.2 = w0.2) → w'.1 8 1 = nI (pu x j (ap (nI c) st)).1 → w'.1 9 = (pu x j (ap (nI c) st)).2 → Q w' := by
      rw [← ec]; exact hq
    refine ⟨_, c_isKnown (d := d) hc, ?_⟩
    rintro r w1 ⟨rfl, hr⟩
    rw [h1]
    refine ⟨fun g => ?_, fun g => ⟨fun g2 => ?_, fun g2 => ⟨st.1, rfl, ngle g2, ⟨c, by omega, ?_⟩, ?_⟩⟩⟩
    · exact ih w1 st (by omega) h0 h1 h2 h3 (by rw [ap_n (fun e => hr.z g e.1)] at hq'; exact hq')
    · have := gle g2
      exact ih w1 st (by omega) h0 h1 h2 h3 (by rw [ap_n (fun e => by have := e.2; omega)] at hq'; exact hq')
    · rw [pk_char, show (nI c).toBitVec.toNat = c by rw [show (nI c).toBitVec = BitVec.ofNat 32 c from rfl, BitVec.toNat_ofNat]; omega, Nat.mod_eq_of_lt (by omega)]
    · have := ngle g2
      have ey := ap_y (c := nI c) (st := st) ⟨hr.n g, by omega⟩
      rw [ey] at hq'
      rw [pk_char, show (nI c).toBitVec.toNat = c by rw [show (nI c).toBitVec = BitVec.ofNat 32 c from rfl, BitVec.toNat_ofNat]; omega, Nat.mod_eq_of_lt (by omega), nI_add]
      refine ih _ (st.1 + 1, fun k => if k = st.1 then nI c else st.2 k) (by omega) (by show st.1 + 1 ≤ 1200; omega) rfl ?_ ⟨h3.1.tr ((Sm.up (Or.inl rfl)).tr (Sm.up (Or.inr ⟨rfl, rfl⟩))), h3.2⟩ hq'
      funext k
      show (if 9 = 9 ∧ k = st.1 then nI c else w1.1 9 k) = if k = st.1 then nI c else st.2 k
      rw [h2]
      simp
theorem c_put {d n : Nat} {w : Wd} (x : Int64) (hn : n ≤ 1200) (h : w.1 8 1 = nI n) : EvV m_Tape_put (d + 1) [.ref 8, .long (x)] w (fun w' => (Sm CT w w' ∧ w'.2 = w.2) ∧ w'.1 8 1 = nI (pu x 8 (n, w.1 9)).1 ∧ w'.1 9 = (pu x 8 (n, w.1 9)).2) :=
  ev_Tape_put _ (vc_Tape_put_0 _ (z_tput 8 w (n, w.1 9) (Nat.le_refl _) hn h rfl ⟨Sm.rf, rfl⟩ (fun w' a b c => ⟨a, b, c⟩)))
theorem pu_le {x : Int64} : ∀ (j : Nat) {st : Nat × (Nat → Int32)}, st.1 ≤ 1200 → (pu x j st).1 ≤ 1200
  | 0, _, h => h
  | j + 1, _, h => pu_le j (ap_le h)
def CL (a k : Nat) : Prop := a = 59 ∨ (a = 58 ∧ (k = 2 ∨ k = 0))
theorem z_lay {d : Nat} {w0 : Wd} {Q : Wd → Prop} {x : Int64} : ∀ (j : Nat) (w : Wd) (st : Nat × (Nat → Int32)), j ≤ 8 → st.1 ≤ 1200 → w.1 58 2 = nI st.1 → w.1 59 = st.2 → (Sm CL w0 w ∧ w.2 = w0.2) → (∀ w', (Sm CL w0 w' ∧ w'.2 = w0.2) → w'.1 58 2 = nI (pu x j st).1 → w'.1 59 = (pu x j st).2 → Q w') → Z m_M_lay d (qV Q) 3 [(0, .ref 58), (1, .long (x)), (3, .int (sh j))] [] w := by
  intro j
  induction j with
  | zero =>
    intro w st _ _ h1 h2 h3 hq
    exact vc_M_lay_3 _ _ ⟨fun _ => hq w h3 h1 h2, fun g => absurd (by decide) g⟩
  | succ j ih =>
    intro w st hj h0 h1 h2 h3 hq
    refine vc_M_lay_3 _ _ ⟨fun g => absurd g (nn0 (8 * j)), fun _ => ?_⟩
    rw [sh_step j]
    obtain ⟨c, hc, ec⟩ := sgn_lt x (8 * j)
    have ec' : (x >>> ((sh (j + 1)).toInt64 &&& 63)).toInt32 &&& nI 255 = nI c := (sg_eq x (by omega)).trans ec
    rw [ec', h1]
    have hq' : ∀ w', (Sm CL w0 w' ∧ w'.2 = w0.2) → w'.1 58 2 = nI (pu x j (ap (nI c) st)).1 → w'.1 59 = (pu x j (ap (nI c) st)).2 → Q w' := by
      rw [← ec]; exact hq
    have no : ¬ (kn (nI c) ∧ st.1 < 1200) → Z m_M_lay d (qV Q) 3 [(0, .ref 58), (1, .long (x)), (3, .int (sh j))] [] w := fun e => ih w st (by omega) h0 h1 h2 h3 (by rw [ap_n e] at hq'; exact hq')
    have yes : kn (nI c) → ((nI 1200 ≤ nI st.1 → Z m_M_lay d (qV Q) 3 [(0, .ref 58), (1, .long (x)), (3, .int (sh j))] [] w) ∧ (¬ nI 1200 ≤ nI st.1 → ∃ j1 : Nat, nI st.1 = nI j1 ∧ j1 < 1200 ∧ Z m_M_lay d (qV Q) 3 [(0, .ref 58), (1, .long (x)), (3, .int (sh j))] [] (up1 (up1 w 59 j1 (nI c)) 58 2 (nI st.1 + nI 1)))) := by
      intro hk
      refine ⟨fun g => no (fun e => by have := gle g; have := e.2; omega), fun g => ⟨st.1, rfl, ngle g, ?_⟩⟩
      have := ngle g
      have ey := ap_y (c := nI c) (st := st) ⟨hk, by omega⟩
      rw [ey] at hq'
      rw [nI_add]
      refine ih _ (st.1 + 1, fun k => if k = st.1 then nI c else st.2 k) (by omega) (by show st.1 + 1 ≤ 1200; omega) rfl ?_ ⟨h3.1.tr ((Sm.up (Or.inl rfl)).tr (Sm.up (Or.inr ⟨rfl, Or.inl rfl⟩))), h3.2⟩ hq'
      funext k
      show (if 59 = 59 ∧ k = st.1 then nI c else w.1 59 k) = if k = st.1 then nI c else st.2 k
      rw [h2]
      simp
    refine ⟨fun g => yes (Or.inl g), fun g => ⟨fun g2 => no (fun e => e.1.elim g (fun e => ?_)), fun g2 => ⟨fun g3 => no (fun e => e.1.elim g (fun e => ?_)), fun g3 => yes (Or.inr ⟨mle (nglt g2), mle (nglt g3)⟩)⟩⟩⟩
    · have := glt g2; have := gle e.1; omega
    · have := glt g3; have := gle e.2; omega
theorem c_lay {d n : Nat} {w : Wd} (x : Int64) (hn : n ≤ 1200) (h : w.1 58 2 = nI n) : EvV m_M_lay d [.ref 58, .long (x)] w (fun w' => (Sm CL w w' ∧ w'.2 = w.2) ∧ w'.1 58 2 = nI (pu x 8 (n, w.1 59)).1 ∧ w'.1 59 = (pu x 8 (n, w.1 59)).2) :=
  ev_M_lay _ (vc_M_lay_0 _ (z_lay 8 w (n, w.1 59) (Nat.le_refl _) hn h rfl ⟨Sm.rf, rfl⟩ (fun w' a b c => ⟨a, b, c⟩)))
def CFe (a k : Nat) : Prop := a = 9 ∨ (a = 8 ∧ k = 1) ∨ a = 59 ∨ (a = 58 ∧ (k = 2 ∨ k = 0))
theorem op_feed {w : Wd} (h : Inv w) (x y z : Int64) : Op m_D_feed m_M_feed [.long x, .long y, .long z] w := by
  obtain ⟨⟨t1, t2, t3⟩, t4⟩ := h.2.1
  have a0 : Ag (tp w, w.1 9) (tp w, w.1 59) := ⟨rfl, t1, t4⟩
  refine ev_D_feed x y z (vc_D_feed_0 x y z ⟨_, c_put (d := 28) x t1 t3, ?_⟩)
  rintro w1 ⟨f1, p1, q1⟩
  have b1 := pu_le (x := x) 8 (st := (tp w, w.1 9)) t1
  refine ⟨_, c_put (d := 28) y b1 p1, ?_⟩
  rintro w2 ⟨f2, p2, q2⟩
  have b2 := pu_le (x := y) 8 (st := ((pu x 8 (tp w, w.1 9)).1, w1.1 9)) b1
  refine ⟨_, c_put (d := 28) z b2 p2, ?_⟩
  rintro w3 ⟨f3, p3, q3⟩
  refine ⟨_, ev_Tape_length (vc_Tape_length_0 (Q := fun r w' => w' = w3 ∧ r = w3.1 8 1) ⟨rfl, rfl⟩), ?_⟩
  rintro r w4 ⟨rfl, rfl⟩
  have f : Sm CT w w4 := (f1.1.tr f2.1).tr f3.1
  have e59 : w4.1 59 = w.1 59 := funext fun k => f 59 k (by unfold CT; omega)
  have e58 : w4.1 58 2 = w.1 58 2 := f 58 2 (by unfold CT; omega)
  refine ev_M_feed x y z (vc_M_feed_0 x y z ⟨_, c_lay (d := 29) (w := up1 w4 58 0 (nI 0)) (n := tp w) x t1 (e58.trans t2), ?_⟩)
  rintro u1 ⟨g1, r1, v1⟩
  have r1 : u1.1 58 2 = nI (pu x 8 (tp w, w.1 59)).1 := by
    rw [r1]
    show nI (pu x 8 (tp w, w4.1 59)).1 = _
    rw [e59]
  have v1 : u1.1 59 = (pu x 8 (tp w, w.1 59)).2 := by
    rw [v1]
    show (pu x 8 (tp w, w4.1 59)).2 = _
    rw [e59]
  have c1 := pu_le (x := x) 8 (st := (tp w, w.1 59)) t1
  refine ⟨_, c_lay (d := 29) y c1 r1, ?_⟩
  rintro u2 ⟨g2, r2, v2⟩
  have c2 := pu_le (x := y) 8 (st := ((pu x 8 (tp w, w.1 59)).1, u1.1 59)) c1
  refine ⟨_, c_lay (d := 29) z c2 r2, ?_⟩
  rintro u3 ⟨g3, r3, v3⟩
  -- both tapes
  have A1 : Ag (pu x 8 (tp w, w.1 9)) (pu x 8 (tp w, w.1 59)) := a0.pu 8
  rw [q1] at p2 q2
  rw [v1] at r2 v2
  have A2 : Ag (pu y 8 (pu x 8 (tp w, w.1 9))) (pu y 8 (pu x 8 (tp w, w.1 59))) := A1.pu 8
  rw [q1, q2] at p3 q3
  rw [v1, v2] at r3 v3
  have A3 : Ag (pu z 8 (pu y 8 (pu x 8 (tp w, w.1 9)))) (pu z 8 (pu y 8 (pu x 8 (tp w, w.1 59)))) := A2.pu 8
  have p3 : w4.1 8 1 = nI (pu z 8 (pu y 8 (pu x 8 (tp w, w.1 9)))).1 := p3
  have q3 : w4.1 9 = (pu z 8 (pu y 8 (pu x 8 (tp w, w.1 9)))).2 := q3
  have r3 : u3.1 58 2 = nI (pu z 8 (pu y 8 (pu x 8 (tp w, w.1 59)))).1 := r3
  have v3 : u3.1 59 = (pu z 8 (pu y 8 (pu x 8 (tp w, w.1 59)))).2 := v3
  generalize hP : pu z 8 (pu y 8 (pu x 8 (tp w, w.1 9))) = P at *
  generalize hR : pu z 8 (pu y 8 (pu x 8 (tp w, w.1 59))) = R at *
  refine ⟨by rw [r3, p3, A3.1], ?_⟩
  have F : Sm CFe w u3 := by
    refine ((f.mono (fun a k x => by unfold CT at x; unfold CFe; omega)).tr (w1 := w4) (Sm.tr (w1 := up1 w4 58 0 (nI 0)) (Sm.up (by unfold CFe; omega)) ?_))
    exact (((g1.1.tr g2.1).tr g3.1).mono (fun a k x => by unfold CL at x; unfold CFe; omega))
  have fM : Sm CL w4 u3 := Sm.tr (w1 := up1 w4 58 0 (nI 0)) (Sm.up (by unfold CL; omega)) ((g1.1.tr g2.1).tr g3.1)
  have E2 : u3.2 = w.2 := by
    rw [g3.2, g2.2, g1.2]
    show w4.2 = w.2
    rw [f3.2, f2.2, f1.2]
  have eR : N u3 58 2 = R.1 := N_of r3 (by have := A3.1; have := A3.2.1; omega)
  have hT : TapI u3 := by
    unfold TapI tp
    rw [eR]
    refine ⟨⟨by have := A3.1; have := A3.2.1; omega, r3, ?_⟩, fun k hk => ?_⟩
    · rw [fM 8 1 (by unfold CL; omega), p3, A3.1]
    · obtain ⟨c, hc, e1, e2⟩ := A3.2.2 k (by rw [A3.1]; exact hk)
      refine ⟨c, hc, ?_, ?_⟩
      · rw [fM 9 k (by unfold CL; omega), q3]; exact e1
      · rw [v3]; exact e2
  have fR : Sa KR w u3 := F.sa (fun a k x => by unfold KR at x; unfold CFe; omega)
  have S := SemF.of (KR.f fR)
  have o : ∀ a, a ≠ 8 → a ≠ 9 → a ≠ 58 → a ≠ 59 → u3.1 a = w.1 a := fun a g1 g2 g3 g4 => funext fun k => F a k (by unfold CFe; omega)
  exact ⟨h.1.sa (F.sa (fun a k x => by unfold KC at x; unfold CFe; omega)), hT, h.2.2.1.mv S (fun a _ _ => o a (by omega) (by omega) (by omega) (by omega)), h.2.2.2.1.mv (SemR.of fR) (F 42 6 (by unfold CFe; omega)) (by rw [E2]) (by rw [E2]), h.2.2.2.2.1.mv S (F 58 34 (by unfold CFe; omega)) (o 82 (by omega) (by omega) (by omega) (by omega)), h.2.2.2.2.2.1.mv (by rw [S.1]; exact Nat.le_refl _) (fun s _ => N_cg (F 79 s (by unfold CFe; omega))) (F 58 39 (by unfold CFe; omega)) (F 45 8 (by unfold CFe; omega)) (fun a _ => o a (by omega) (by omega) (by omega) (by omega)), h.2.2.2.2.2.2.1.mv (fun k _ _ => F 58 k (by unfold CFe; omega)) (fun a _ => o a (by omega) (by omega) (by omega) (by omega)), fun k hk => by rw [E2]; exact h.2.2.2.2.2.2.2 k hk⟩
