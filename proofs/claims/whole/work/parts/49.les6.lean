/-! catches -/
def FtA (w : Wd) (n m : Nat) : Prop := ∀ i, i < m → fitP w (w.1 93 i) (w.1 94 i) (wa w n i)
def CtP (w : Wd) (b : Int32) (n : Nat) : Prop := MU w (w.1 58 48) b n ∧ df w n = w.1 58 49 ∧ FtA w n (sp w)
noncomputable def ctB (w : Wd) (b : Int32) (n : Nat) : Bool := @decide (CtP w b n) (Classical.propDecidable _)
theorem ctB_t {w : Wd} {n : Nat} {b : Int32} (h : CtP w b n) : ctB w b n = true := by
  unfold ctB; exact (@decide_eq_true_iff _ (Classical.propDecidable _)).mpr h
theorem ctB_f {w : Wd} {n : Nat} {b : Int32} (h : ¬ CtP w b n) : ctB w b n = false := by
  cases e : ctB w b n with
  | false => rfl
  | true => exact absurd ((@decide_eq_true_iff _ (Classical.propDecidable _)).mp e) h
theorem dn_sp {w : Wd} (h : Inv w) (h0 : 0 < sp w) {n : Nat} (hn : n < mk w) (e : df w n = w.1 58 49) : dn w n = sp w := by
  obtain ⟨⟨l1, l2, l3⟩, l4⟩ := h.2.2.2.2.2.2.1
  obtain ⟨s2, -, s3, -⟩ := l4 h0
  obtain ⟨⟨a1, a2, a3, a4, a5, a6⟩, -⟩ := h.2.2.2.2.2.1.at h.1.2.1 hn
  have e2 := df_int (w := w) (n := n) (by omega) (by omega)
  rw [e] at e2
  unfold dn
  rcases s3 with ⟨z1, z2⟩ | ⟨z1, z2⟩
  · rw [z2, nI_toInt (by omega)] at e2
    split <;> omega
  · rw [z2, show sp w = (sp w - 1) + 1 by omega, one_sub (by omega), neg_int (by omega)] at e2
    split <;> omega
theorem c_standsAt {w : Wd} (h : Inv w) (h0 : 0 < sp w) {d n : Nat} (hn : n < mk w) (e : df w n = w.1 58 49) : EvI m_Lesson_standsAt (d + 2) [.ref 54, .int (nI n)] w (fun r w' => w' = w ∧ Bo (FtA w n (sp w)) r) := by
  obtain ⟨⟨l1, l2, l3⟩, l4⟩ := h.2.2.2.2.2.2.1
  obtain ⟨s2, -, s3, s4⟩ := l4 h0
  have hM := h.2.2.2.2.2.1
  have ed := dn_sp h h0 hn e
  refine ev_Lesson_standsAt _ (vc_Lesson_standsAt_0 _ ?_)
  refine lpU (I := fun m w' => w' = w ∧ FtA w n m) (G := fun m w' => Z m_Lesson_standsAt (d + 2) (qI (fun r w' => w' = w ∧ Bo (FtA w n (sp w)) r)) 2 [(0, .ref 54), (1, .int (nI n)), (2, .int (nI m))] [] w') (M := sp w) ?_ ?_ 0 (Nat.zero_le _) _ ⟨rfl, fun i hi => absurd hi (Nat.not_lt_zero _)⟩
  · rintro w1 ⟨rfl, hA⟩
    refine vc_Lesson_standsAt_2 _ _ ?_
    rw [l3]
    exact ⟨fun _ => ⟨Or.inr rfl, rfl, Bo.t hA⟩, fun g => absurd (mle (Nat.le_refl _)) g⟩
  · rintro m w1 hm ⟨rfl, hA⟩ nx
    refine vc_Lesson_standsAt_2 _ _ ?_
    rw [l3]
    refine ⟨fun g => absurd (gle g) (by omega), fun _ => ⟨fun g => absurd (gle g) (by omega), fun _ => ⟨m, rfl, by omega, m, rfl, by omega, _, c_Lesson_wordAt (d := d) hM h.1.2.1 hn (i := m) (by omega), ?_⟩⟩⟩
    rintro y w2 ⟨rfl, rfl⟩
    obtain ⟨v1, v2⟩ := wa_ok h.1.2.1 hM hn (i := m) (by omega)
    refine ⟨_, c_Lexicon_fits (d := d + 1) h.1.1 _ _ v1 v2, ?_⟩
    rintro y w1 ⟨rfl, hy⟩
    rw [(s4 m hm).1, (s4 m hm).2.1] at hy
    refine ⟨fun g => ?_, fun g => ⟨Or.inl rfl, rfl, Bo.f (fun x => hy.z g (x m hm))⟩⟩
    rw [nI_add]
    refine nx _ ⟨rfl, fun i hi => ?_⟩
    by_cases e : i = m
    · rw [e]; exact hy.n g
    · exact hA i (by omega)
theorem c_caught {w : Wd} (h : Inv w) (d : Nat) (b : Int32) : EvI m_Lesson_caught (d + 3) [.ref 54, .int (b)] w (fun r w' => w' = w ∧ r = if sp w = 0 then -nI 1 else nI (ct (ctB w b) (mk w))) := by
  obtain ⟨⟨l1, l2, l3⟩, l4⟩ := h.2.2.2.2.2.2.1
  have hM := h.2.2.2.2.2.1
  have mk60 := hM.1.1
  refine ev_Lesson_caught _ (vc_Lesson_caught_0 _ ?_)
  rw [l3]
  refine ⟨fun g0 => ?_, fun g => ⟨rfl, by rw [if_pos (nI_inj (b := 0) (by omega) (by omega) g)]⟩⟩
  have h0 : 0 < sp w := Nat.pos_of_ne_zero (fun e => g0 (by rw [e]; rfl))
  rw [if_neg (by omega)]
  obtain ⟨s2, ⟨rr, rr1, rr2, rr3⟩, s3, s4⟩ := l4 h0
  refine lpU (I := fun n w' => w' = w) (G := fun n w' => Z m_Lesson_caught (d + 3) (qI (fun r w' => w' = w ∧ r = nI (ct (ctB w b) (mk w)))) 13 [(0, .ref 54), (1, .int (b)), (2, .int (nI (ct (ctB w b) n))), (3, .int (nI n))] [] w') (M := mk w) ?_ ?_ 0 (Nat.zero_le _) _ rfl
  · rintro w1 rfl
    refine vc_Lesson_caught_13 _ _ _ ⟨_, ev_Marks_size (d := d + 2) (vc_Marks_size_0 (Q := fun r w' => w' = w1 ∧ r = w1.1 45 8) ⟨rfl, rfl⟩), ?_⟩
    rintro y w2 ⟨rfl, rfl⟩
    rw [hM.1.2.2]
    exact ⟨fun _ => ⟨rfl, rfl⟩, fun g => absurd (mle (Nat.le_refl _)) g⟩
  · rintro n w1 hn rfl nx
    have no : ¬ CtP w1 b n → Z m_Lesson_caught (d + 3) (qI (fun r w' => w' = w1 ∧ r = nI (ct (ctB w1 b) (mk w1)))) 13 [(0, .ref 54), (1, .int (b)), (2, .int (nI (ct (ctB w1 b) n))), (3, .int (nI n + nI 1))] [] w1 := fun x => by
      rw [nI_add, ← ct_succ_f (p := ctB w1 b) (k := n) (ctB_f x)]
      exact nx _ rfl
    refine vc_Lesson_caught_13 _ _ _ ⟨_, ev_Marks_size (d := d + 2) (vc_Marks_size_0 (Q := fun r w' => w' = w1 ∧ r = w1.1 45 8) ⟨rfl, rfl⟩), ?_⟩
    rintro y w2 ⟨rfl, rfl⟩
    rw [hM.1.2.2, rr3, ← rr2]
    refine ⟨fun g => absurd (gle g) (by omega), fun _ => ⟨_, c_isUsable (d := d + 1) hM h.1.2.1 hn _ _, ?_⟩⟩
    rintro y w1 ⟨rfl, hy⟩
    refine ⟨fun g => no (fun x => hy.z g x.1), fun g => ⟨_, c_Lesson_isLike (d := d + 1) hM h.1.2.1 hn (x := w1.1 58 49) ?_, ?_⟩⟩
    · rw [l3]
      rcases s3 with ⟨z1, z2⟩ | ⟨z1, z2⟩
      · exact Or.inr ⟨z1, by rw [z2, sub_nI (by omega)]⟩
      · exact Or.inl ⟨z1, z2⟩
    rintro z w2 ⟨rfl, hz⟩
    refine ⟨fun g2 => no (fun x => hz.z g2 x.2.1), fun g2 => ⟨_, c_standsAt (d := d) h h0 hn (hz.n g2), ?_⟩⟩
    rintro u w1 ⟨rfl, hu⟩
    refine ⟨fun g3 => no (fun x => hu.z g3 x.2.2), fun g3 => ?_⟩
    rw [nI_add, nI_add, ← ct_succ_t (p := ctB w1 b) (k := n) (ctB_t ⟨hy.n g, hz.n g2, hu.n g3⟩)]
    exact nx _ rfl
theorem c_M_catches {w : Wd} (h : Inv w) (b : Int32) (hb : b = 0 ∨ b = 1) : EvI m_M_catches 30 [.ref 58, .int (b)] w (fun r w' => w' = up1 w 58 0 (nI 0) ∧ r = if sp w = 0 then -nI 1 else nI (ct (ctB w b) (mk w))) := by
  obtain ⟨⟨l1, l2, l3⟩, l4⟩ := h.2.2.2.2.2.2.1
  have h' := h.th (nI 0)
  have hM := h.2.2.2.2.2.1
  have hM' := h'.2.2.2.2.2.1
  have mk60 := hM.1.1
  have fl : FLs w (up1 w 58 0 (nI 0)) := FLs.up (by unfold CLs; omega)
  refine ev_M_catches _ (vc_M_catches_0 _ ?_)
  rw [l2]
  refine ⟨fun g0 => ?_, fun g => ⟨rfl, by rw [if_pos (nI_inj (b := 0) (by omega) (by omega) g)]⟩⟩
  have h0 : 0 < sp w := Nat.pos_of_ne_zero (fun e => g0 (by rw [e]; rfl))
  rw [if_neg (by omega)]
  obtain ⟨s2, ⟨rr, rr1, rr2, rr3⟩, s3, s4⟩ := l4 h0
  refine lpU (I := fun n w' => w' = up1 w 58 0 (nI 0)) (G := fun n w' => Z m_M_catches 30 (qI (fun r w' => w' = up1 w 58 0 (nI 0) ∧ r = nI (ct (ctB w b) (mk w)))) 18 [(0, .ref 58), (1, .int (b)), (2, .int (nI (ct (ctB w b) n))), (3, .int (nI n))] [] w') (M := mk w) ?_ ?_ 0 (Nat.zero_le _) _ rfl
  · rintro w1 rfl
    refine vc_M_catches_18 _ _ _ ?_
    rw [show (up1 w 58 0 (nI 0)).1 58 39 = w.1 58 39 from rfl, hM.1.2.1]
    exact ⟨fun _ => ⟨rfl, rfl⟩, fun g => absurd (mle (Nat.le_refl _)) g⟩
  · rintro n w1 hn rfl nx
    obtain ⟨⟨a1, a2, a3, a4, a5, a6⟩, ⟨b1, b2, b3, b4, b5⟩, -⟩ := hM.at h.1.2.1 hn
    have no : ¬ CtP w b n → Z m_M_catches 30 (qI (fun r w' => w' = up1 w 58 0 (nI 0) ∧ r = nI (ct (ctB w b) (mk w)))) 62 [(0, .ref 58), (1, .int (b)), (2, .int (nI (ct (ctB w b) n))), (3, .int (nI n)), (4, .int (nI 0)), (5, .int (nI 0))] [] (up1 w 58 0 (nI 0)) := fun x => by
      refine vc_M_catches_62 _ _ _ _ _ ?_
      rw [show (up1 w 58 0 (nI 0)).1 58 47 = w.1 58 47 from rfl, l2]
      refine ⟨fun g => absurd (gle g) (by omega), fun _ => ⟨fun _ => ⟨fun _ => ?_, fun g => absurd rfl g⟩, fun g => absurd rfl g⟩⟩
      rw [nI_add, nI_add, Nat.add_zero, ← ct_succ_f (p := ctB w b) (k := n) (ctB_f x)]
      exact nx _ rfl
    refine vc_M_catches_18 _ _ _ ?_
    rw [show (up1 w 58 0 (nI 0)).1 58 39 = w.1 58 39 from rfl, show (up1 w 58 0 (nI 0)).1 58 48 = w.1 58 48 from rfl, show (up1 w 58 0 (nI 0)).1 58 49 = w.1 58 49 from rfl, show (up1 w 58 0 (nI 0)).1 90 = w.1 90 from rfl, hM.1.2.1]
    refine ⟨fun g => absurd (gle g) (by omega), fun _ => ⟨n, rfl, by omega, fun g => no (fun x => g x.1.2.1), fun g => ⟨_, c_M_isLike (d := 29) (w := up1 w 58 0 (nI 0)) hM' h'.1.2.1 (n := n) hn _ _, ?_⟩⟩⟩
    rintro y w1 ⟨rfl, hy⟩
    refine ⟨fun g2 => no (fun x => hy.z g2 ⟨x.1.1, x.1.2.2, x.2.1⟩), fun g2 => ?_⟩
    obtain ⟨y1, y2, y3⟩ := hy.n g2
    have y1 : w.1 89 n = w.1 58 48 := y1
    have y2 : thr w (ms w n) := y2
    have y3 : df w n = w.1 58 49 := y3
    have ed := dn_sp h h0 hn y3
    refine lpU (I := fun m w' => w' = up1 w 58 0 (nI 0)) (G := fun m w' => ∀ x4, Bo (FtA w n m) x4 → Z m_M_catches 30 (qI (fun r w' => w' = up1 w 58 0 (nI 0) ∧ r = nI (ct (ctB w b) (mk w)))) 62 [(0, .ref 58), (1, .int (b)), (2, .int (nI (ct (ctB w b) n))), (3, .int (nI n)), (4, .int (x4)), (5, .int (nI m))] [] w') (M := sp w) ?_ ?_ 0 (Nat.zero_le _) _ rfl (nI 1) (Bo.t (fun i hi => absurd hi (Nat.not_lt_zero _)))
    · rintro w1 rfl x4 h4
      refine vc_M_catches_62 _ _ _ _ _ ?_
      rw [show (up1 w 58 0 (nI 0)).1 58 47 = w.1 58 47 from rfl, l2]
      refine ⟨fun _ => ⟨fun g3 => ?_, fun g3 => ?_⟩, fun g => absurd (mle (Nat.le_refl _)) g⟩
      · rw [nI_add, nI_add, Nat.add_zero, ← ct_succ_f (p := ctB w b) (k := n) (ctB_f (fun x => h4.z g3 x.2.2))]
        exact nx _ rfl
      · rw [nI_add, nI_add, ← ct_succ_t (p := ctB w b) (k := n) (ctB_t ⟨⟨y1, g, y2⟩, y3, h4.n g3⟩)]
        exact nx _ rfl
    · rintro m w1 hm rfl nm x4 h4
      refine vc_M_catches_62 _ _ _ _ _ ?_
      rw [show (up1 w 58 0 (nI 0)).1 58 47 = w.1 58 47 from rfl, l2]
      refine ⟨fun g => absurd (gle g) (by omega), fun _ => ⟨fun g3 => ⟨fun _ => ?_, fun g => absurd g3 g⟩, fun g3 => ⟨m, rfl, by omega, m, rfl, by omega, _, c_M_wordAt (d := 28) (w := up1 w 58 0 (nI 0)) h'.1 hM' (n := n) (i := m) hn (by rw [fl.d.2.1, ed]; exact hm), ?_⟩⟩⟩
      · rw [nI_add, nI_add, Nat.add_zero, ← ct_succ_f (p := ctB w b) (k := n) (ctB_f (fun x => h4.z g3 (fun i hi => x.2.2 i (by omega))))]
        exact nx _ rfl
      · rintro y w1 ⟨rfl, rfl⟩
        rw [fl.d.2.2]
        obtain ⟨v1, v2⟩ := wa_ok h.1.2.1 hM hn (i := m) (by omega)
        refine ⟨_, c_M_fits (d := 29) (w := up1 w 58 0 (nI 0)) (w.1 93 m) (w.1 94 m) (s4 m hm).2.2 v1 v2, ?_⟩
        rintro u w1 ⟨rfl, hu⟩
        have hu : Bo (fitP w (w.1 93 m) (w.1 94 m) (wa w n m)) u := hu
        rw [nI_add]
        refine nm _ rfl u (hu.imp ⟨fun x i hi => ?_, fun x => x m (by omega)⟩)
        by_cases e : i = m
        · rw [e]; exact x
        · exact h4.n g3 i (by omega)
theorem op_catches {w : Wd} (h : Inv w) (b : Int32) (hb : b = 0 ∨ b = 1) : Op m_D_catches m_M_catches [.int b] w := by
  refine ev_D_catches b (vc_D_catches_0 b ⟨_, c_caught h 26 b, ?_⟩)
  rintro r w1 ⟨rfl, rfl⟩
  refine (c_M_catches h b hb).imp ?_
  rintro r2 w2 ⟨rfl, rfl⟩
  exact ⟨rfl, h.th _⟩
