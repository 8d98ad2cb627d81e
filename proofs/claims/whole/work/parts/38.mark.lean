/-! mark -/
def Hit (w : Wd) (x1 x2 x3 x4 : Int32) (k : Nat) : Prop := w.1 86 k = x1 ∧ w.1 87 k = x2 ∧ w.1 88 k = x3 ∧ w.1 89 k = x4
theorem MrkI.e {w : Wd} (h : MrkI w) {k : Nat} (hk : k < mk w) : w.1 46 k = w.1 86 k ∧ w.1 47 k = w.1 87 k ∧ w.1 48 k = w.1 88 k ∧ w.1 49 k = w.1 89 k ∧ w.1 50 k = w.1 90 k := by
  obtain ⟨s, l, t, r, -, -, -, -, -, ⟨a1, a2, a3, a4, -⟩, b1, b2, b3, b4, b5⟩ := h.2 k hk
  exact ⟨b1.trans a1.symm, b2.trans a2.symm, b3.trans a3.symm, b4.trans a4.symm, b5⟩
theorem c_indexOf {d : Nat} {w : Wd} (h : MrkI w) (x1 x2 x3 x4 : Int32) : EvI m_Marks_indexOf d [.ref 45, .int (x1), .int (x2), .int (x3), .int (x4)] w (fun r w' => w' = w ∧ ((∃ k, k < mk w ∧ (∀ j, j < k → ¬ Hit w x1 x2 x3 x4 j) ∧ Hit w x1 x2 x3 x4 k ∧ r = nI k) ∨ ((∀ j, j < mk w → ¬ Hit w x1 x2 x3 x4 j) ∧ r = -nI 1))) := by
  obtain ⟨⟨m1, m2, m3⟩, -⟩ := id h
  refine ev_Marks_indexOf x1 x2 x3 x4 (vc_Marks_indexOf_0 x1 x2 x3 x4 ?_)
  refine lpU (I := fun k w' => w' = w ∧ ∀ j, j < k → ¬ Hit w x1 x2 x3 x4 j) (G := fun k w' => Z m_Marks_indexOf d (qI (fun r w' => w' = w ∧ ((∃ k, k < mk w ∧ (∀ j, j < k → ¬ Hit w x1 x2 x3 x4 j) ∧ Hit w x1 x2 x3 x4 k ∧ r = nI k) ∨ ((∀ j, j < mk w → ¬ Hit w x1 x2 x3 x4 j) ∧ r = -nI 1)))) 3 [(0, .ref 45), (1, .int (x1)), (2, .int (x2)), (3, .int (x3)), (4, .int (x4)), (5, .int (nI k))] [] w') (M := mk w) ?_ ?_ 0 (Nat.zero_le _) _ ⟨rfl, fun j hj => absurd hj (Nat.not_lt_zero _)⟩
  · rintro w1 ⟨rfl, hn⟩
    refine vc_Marks_indexOf_3 _ _ _ _ _ ?_
    rw [m3]
    exact ⟨fun _ => ⟨rfl, Or.inr ⟨hn, rfl⟩⟩, fun g => absurd (mle (Nat.le_refl _)) g⟩
  · rintro k w1 hk ⟨rfl, hn⟩ nx
    refine vc_Marks_indexOf_3 _ _ _ _ _ ?_
    obtain ⟨e1, e2, e3, e4, -⟩ := h.e hk
    have nx' : ¬ Hit w1 x1 x2 x3 x4 k → Z m_Marks_indexOf d (qI (fun r w' => w' = w1 ∧ ((∃ k, k < mk w1 ∧ (∀ j, j < k → ¬ Hit w1 x1 x2 x3 x4 j) ∧ Hit w1 x1 x2 x3 x4 k ∧ r = nI k) ∨ ((∀ j, j < mk w1 → ¬ Hit w1 x1 x2 x3 x4 j) ∧ r = -nI 1)))) 3 [(0, .ref 45), (1, .int (x1)), (2, .int (x2)), (3, .int (x3)), (4, .int (x4)), (5, .int (nI k + nI 1))] [] w1 := fun hh => by
      rw [nI_add]
      refine nx _ ⟨rfl, fun j hj => ?_⟩
      by_cases e : j = k
      · rw [e]; exact hh
      · exact hn j (by omega)
    rw [m3]
    refine ⟨fun g => absurd (gle g) (by omega), fun _ => ⟨fun g => absurd (gle g) (by omega), fun _ => ⟨k, rfl, by omega, fun g => nx' (fun a => g (e1.trans a.1)), fun g1 => ⟨k, rfl, by omega, fun g => nx' (fun a => g (e2.trans a.2.1)), fun g2 => ⟨k, rfl, by omega, fun g => nx' (fun a => g (e3.trans a.2.2.1)), fun g3 => ⟨k, rfl, by omega, fun g => nx' (fun a => g (e4.trans a.2.2.2)), fun g4 => ?_⟩⟩⟩⟩⟩⟩
    exact ⟨rfl, Or.inl ⟨k, hk, hn, ⟨e1.symm.trans g1, e2.symm.trans g2, e3.symm.trans g3, e4.symm.trans g4⟩, rfl⟩⟩
/-- the world after a mark is put -/
def pM (w : Wd) (k : Nat) (x1 x2 x3 x4 x5 : Int32) : Wd := up1 (up1 (up1 (up1 (up1 w 46 k x1) 47 k x2) 48 k x3) 49 k x4) 50 k x5
def pRf (w : Wd) (k : Nat) (x1 x2 x3 x4 x5 : Int32) : Wd := up1 (up1 (up1 (up1 (up1 w 86 k x1) 87 k x2) 88 k x3) 89 k x4) 90 k x5
def CMk (a k : Nat) : Prop := (45 ≤ a ∧ a ≤ 50) ∨ (86 ≤ a ∧ a ≤ 90) ∨ (a = 58 ∧ (k = 0 ∨ k = 39))
theorem pM_sm (w : Wd) (k : Nat) (x1 x2 x3 x4 x5 : Int32) : Sm CMk w (pM w k x1 x2 x3 x4 x5) :=
  ((((Sm.up (by unfold CMk; omega)).tr (Sm.up (by unfold CMk; omega))).tr (Sm.up (by unfold CMk; omega))).tr (Sm.up (by unfold CMk; omega))).tr (Sm.up (by unfold CMk; omega))
theorem pRf_sm (w : Wd) (k : Nat) (x1 x2 x3 x4 x5 : Int32) : Sm CMk w (pRf w k x1 x2 x3 x4 x5) :=
  ((((Sm.up (by unfold CMk; omega)).tr (Sm.up (by unfold CMk; omega))).tr (Sm.up (by unfold CMk; omega))).tr (Sm.up (by unfold CMk; omega))).tr (Sm.up (by unfold CMk; omega))
theorem Inv.mrk {w w' : Wd} (h : Inv w) (f : Sm CMk w w') (e2 : w'.2 = w.2) (hM : MrkI w') : Inv w' := by
  obtain ⟨h1, h2, h3, h4, h5, h6, h7, h8⟩ := h
  have r : ∀ a, ¬ (45 ≤ a ∧ a ≤ 50) → ¬ (86 ≤ a ∧ a ≤ 90) → a ≠ 58 → w'.1 a = w.1 a := fun a g1 g2 g3 => funext fun j => f a j (by unfold CMk; omega)
  have q : ∀ k, k ≠ 0 → k ≠ 39 → w'.1 58 k = w.1 58 k := fun k g1 g2 => f 58 k (by unfold CMk; omega)
  have fR : Sa KR w w' := f.sa (fun a k x => by unfold KR at x; unfold CMk; omega)
  have S := SemF.of (KR.f fR)
  exact ⟨h1.sa (f.sa (fun a k x => by unfold KC at x; unfold CMk; omega)), h2.mv (q 2 (by decide) (by decide)) (by rw [r 8 (by decide) (by decide) (by decide)]) (r 9 (by decide) (by decide) (by decide)) (r 59 (by decide) (by decide) (by decide)), h3.mv S (fun a _ _ => r a (by omega) (by omega) (by omega)), h4.mv (SemR.of fR) (by rw [r 42 (by decide) (by decide) (by decide)]) (by rw [e2]) (by rw [e2]), h5.mv S (q 34 (by decide) (by decide)) (r 82 (by decide) (by decide) (by decide)), hM, h7.mv (fun k _ _ => q k (by omega) (by omega)) (fun a _ => r a (by omega) (by omega) (by omega)), fun k hk => by rw [e2]; exact h8 k hk⟩
theorem Inv.put {w w' : Wd} (h : Inv w) {s l t r k : Nat} {x5 : Int32} (hs : s < cm w) (hl' : l < len w s) (ht : t < len w s) (hlt : l ≠ t) (hr : r < 10) (h5 : x5 = 0 ∨ x5 = 1) (hk : k < 60) (hk2 : k ≤ mk w) (f : Sm CMk w w') (e2 : w'.2 = w.2) (n : Nat) (hn : n = if k = mk w then mk w + 1 else mk w)
    (e39 : w'.1 58 39 = nI n) (e45 : w'.1 45 8 = nI n)
    (b : ∀ j, (w'.1 46 j = if j = k then nI s else w.1 46 j) ∧ (w'.1 47 j = if j = k then nI l else w.1 47 j) ∧ (w'.1 48 j = if j = k then nI t else w.1 48 j) ∧ (w'.1 49 j = if j = k then nI r else w.1 49 j) ∧ (w'.1 50 j = if j = k then x5 else w.1 50 j))
    (c : ∀ j, (w'.1 86 j = if j = k then nI s else w.1 86 j) ∧ (w'.1 87 j = if j = k then nI l else w.1 87 j) ∧ (w'.1 88 j = if j = k then nI t else w.1 88 j) ∧ (w'.1 89 j = if j = k then nI r else w.1 89 j) ∧ (w'.1 90 j = if j = k then x5 else w.1 90 j)) : Inv w' := by
  refine h.mrk f e2 ?_
  have hm := h.2.2.2.2.2.1
  have hm1 := hm.1.1
  have en : mk w' = n := by
    show N w' 58 39 = n
    unfold N
    rw [e39]
    exact nI_clamp (by split at hn <;> omega)
  have ecm : cm w' = cm w := N_cg (f 58 30 (by unfold CMk; omega))
  have el : ∀ s, len w' s = len w s := fun s => N_cg (f 79 s (by unfold CMk; omega))
  unfold MrkI
  rw [en, ecm]
  refine ⟨⟨by split at hn <;> omega, e39, e45⟩, fun j hj => ?_⟩
  obtain ⟨b1, b2, b3, b4, b5⟩ := b j
  obtain ⟨c1, c2, c3, c4, c5⟩ := c j
  rw [b1, b2, b3, b4, b5, c1, c2, c3, c4, c5]
  by_cases e : j = k
  · simp only [if_pos e, el]
    exact ⟨s, l, t, r, hs, hl', ht, hlt, hr, ⟨rfl, rfl, rfl, rfl, h5⟩, rfl, rfl, rfl, rfl, trivial⟩
  · simp only [if_neg e, el]
    exact hm.2 j (by split at hn <;> omega)
/-- a mark that may be put -/
def MkOk (w : Wd) (x1 x2 x3 x4 : Int32) : Prop := ∃ s l t r, s < cm w ∧ thr w s ∧ l < len w s ∧ t < len w s ∧ l ≠ t ∧ r < 10 ∧ x1 = nI s ∧ x2 = nI l ∧ x3 = nI t ∧ x4 = nI r
def Fst (w : Wd) (x1 x2 x3 x4 : Int32) (k : Nat) : Prop := k ≤ mk w ∧ (∀ j, j < k → ¬ Hit w x1 x2 x3 x4 j) ∧ (k < mk w → Hit w x1 x2 x3 x4 k)
theorem Fst.one {w : Wd} {x1 x2 x3 x4 : Int32} {k k' : Nat} (h : Fst w x1 x2 x3 x4 k) (h' : Fst w x1 x2 x3 x4 k') : k = k' := by
  obtain ⟨a1, a2, a3⟩ := h
  obtain ⟨b1, b2, b3⟩ := h'
  rcases Nat.lt_trichotomy k k' with g | g | g
  · exact absurd (a3 (by omega)) (b2 k g)
  · exact g
  · exact absurd (b3 (by omega)) (a2 k' g)
def mn (w : Wd) (k : Nat) : Nat := if k = mk w then mk w + 1 else mk w
theorem c_D_mark {w : Wd} (h : Inv w) (x1 x2 x3 x4 x5 : Int32) (h5 : x5 = 0 ∨ x5 = 1) : EvI m_D_mark 30 [.ref 57, .int (x1), .int (x2), .int (x3), .int (x4), .int (x5)] w (fun r w' => (¬ MkOk w x1 x2 x3 x4 ∧ r = -nI 1 ∧ w' = w) ∨ (MkOk w x1 x2 x3 x4 ∧ ∃ k, Fst w x1 x2 x3 x4 k ∧ ((k = 60 ∧ r = -nI 1 ∧ w' = w) ∨ (k < 60 ∧ r = nI (mn w k) ∧ ∃ w0, (w0 = w ∨ w0 = up1 w 45 8 (nI (mn w k))) ∧ w' = pM w0 k x1 x2 x3 x4 x5 ∧ w'.1 45 8 = nI (mn w k))))) := by
  have hS := h.1.2.1
  have hM := h.2.2.2.2.2.1
  obtain ⟨⟨m1, m2, m3⟩, -⟩ := id hM
  refine ev_D_mark x1 x2 x3 x4 x5 (vc_D_mark_0 x1 x2 x3 x4 x5 ⟨_, c_Sentences_isThere (d := 29) hS x1, ?_⟩)
  rintro r w1 ⟨rfl, hr⟩
  refine ⟨fun g => Or.inl ⟨?_, rfl, rfl⟩, fun g => ⟨_, c_isRelation (d := 29) x4, ?_⟩⟩
  · rintro ⟨s, l, t, r, a1, a2, a3, a4, a5, a6, rfl, -⟩
    exact hr.z g ⟨s, a1, rfl, a2⟩
  obtain ⟨s, s1, rfl, s2⟩ := hr.n g
  rintro r2 w2 ⟨rfl, hr2⟩
  have hle : len w2 s ≤ 16 := (hS.2.2.2.1 s s1).2.1
  refine ⟨fun g2 => ⟨_, c_Sentences_lengthOf (d := 29) hS s1, ?_⟩, fun g2 => Or.inl ⟨?_, rfl, rfl⟩⟩
  · rintro r3 w3 ⟨rfl, rfl⟩
    obtain ⟨r, r1, rfl⟩ := isRl_of (hr2.n g2)
    have hc := hS.2.2.1.1
    refine ⟨fun g3 => Or.inl ⟨?_, rfl, rfl⟩, fun g3 => ⟨fun g4 => Or.inl ⟨?_, rfl, rfl⟩, fun g4 => ⟨fun g5 => Or.inl ⟨?_, rfl, rfl⟩, fun g5 => ⟨fun g6 => Or.inl ⟨?_, rfl, rfl⟩, fun g6 => ⟨fun g7 => ?_, fun g7 => Or.inl ⟨?_, rfl, rfl⟩⟩⟩⟩⟩⟩
    · rintro ⟨s', l, t, r, a1, a2, a3, a4, a5, a6, a7, rfl, -⟩
      have := nI_inj (by omega) (by omega) a7
      subst this
      exact nn0 l (by omega) g3
    · rintro ⟨s', l, t, r, a1, a2, a3, a4, a5, a6, a7, rfl, -⟩
      have := nI_inj (by omega) (by omega) a7
      subst this
      exact absurd (gle g4) (by omega)
    · rintro ⟨s', l, t, r, a1, a2, a3, a4, a5, a6, a7, -, rfl, -⟩
      have := nI_inj (by omega) (by omega) a7
      subst this
      exact nn0 t (by omega) g5
    · rintro ⟨s', l, t, r, a1, a2, a3, a4, a5, a6, a7, -, rfl, -⟩
      have := nI_inj (by omega) (by omega) a7
      subst this
      exact absurd (gle g6) (by omega)
    · obtain ⟨l, l0, rfl, -⟩ := i_nat (nlt0 g3)
      obtain ⟨t, t0, rfl, -⟩ := i_nat (nlt0 g5)
      have l1 := ngle g4
      have t1 := ngle g6
      have hok : MkOk w3 (nI s) (nI l) (nI t) (nI r) := ⟨s, l, t, r, s1, s2, l1, t1, fun e => g7 (by rw [e]), r1, rfl, rfl, rfl, rfl⟩
      refine ⟨_, ev_Marks_put _ _ _ _ x5 (vc_Marks_put_0 _ _ _ _ x5 (Q := fun r' w' => ∃ k, Fst w3 (nI s) (nI l) (nI t) (nI r) k ∧ ((k = 60 ∧ r' = -nI 1 ∧ w' = w3) ∨ (k < 60 ∧ r' = nI (mn w3 k) ∧ ∃ w0, (w0 = w3 ∨ w0 = up1 w3 45 8 (nI (mn w3 k))) ∧ w' = pM w0 k (nI s) (nI l) (nI t) (nI r) x5 ∧ w'.1 45 8 = nI (mn w3 k)))) ⟨_, c_indexOf (d := 28) hM _ _ _ _, ?_⟩), ?_⟩
      · rintro r4 w4 ⟨rfl, (⟨k, k1, k2, k3, rfl⟩ | ⟨k2, rfl⟩)⟩
        · refine ⟨fun _ => ⟨k, rfl, by omega, k, rfl, by omega, k, rfl, by omega, k, rfl, by omega, k, rfl, by omega, h5, k, ⟨by omega, k2, fun _ => k3⟩, Or.inr ⟨by omega, ?_, w4, Or.inl rfl, rfl, ?_⟩⟩, fun g => absurd g (m1_ne k (by omega))⟩
          · rw [m3]; unfold mn; rw [if_neg (by omega)]
          · unfold mn; rw [if_neg (by omega)]; exact m3
        · refine ⟨fun g => absurd rfl g, fun _ => ⟨fun g => ?_, fun g => ⟨mk w4, ⟨Nat.le_refl _, k2, fun e => absurd e (Nat.lt_irrefl _)⟩, Or.inl ⟨?_, rfl, rfl⟩⟩⟩⟩
          · rw [m3] at g
            have g := glt g
            refine ⟨mk w4, m3, g, mk w4, m3, g, mk w4, m3, g, mk w4, m3, g, mk w4, m3, g, h5, mk w4, ⟨Nat.le_refl _, k2, fun e => absurd e (Nat.lt_irrefl _)⟩, Or.inr ⟨g, ?_, up1 w4 45 8 (w4.1 45 8 + nI 1), Or.inr ?_, rfl, ?_⟩⟩
            · rw [m3, nI_add]; unfold mn; rw [if_pos rfl]
            · rw [m3, nI_add]; unfold mn; rw [if_pos rfl]
            · show w4.1 45 8 + nI 1 = _
              rw [m3, nI_add]; unfold mn; rw [if_pos rfl]
          · rw [m3] at g
            have g := nglt g
            omega
      · rintro r4 w4 hq
        exact Or.inr ⟨hok, hq⟩
    · rintro ⟨s', l, t, r, a1, a2, a3, a4, a5, a6, a7, rfl, rfl, -⟩
      have := nI_inj (by omega) (by omega) a7
      subst this
      exact a5 (nI_inj (by omega) (by omega) g7)
  · rintro ⟨s, l, t, r, a1, a2, a3, a4, a5, a6, -, -, -, rfl⟩
    exact hr2.z g2 (isRl_nI a6)
theorem c_M_mark {w : Wd} (h1 : cm w ≤ 40) (h2 : w.1 58 30 = nI (cm w)) (h3 : ∀ s, s < cm w → len w s ≤ 16 ∧ w.1 79 s = nI (len w s)) (m1 : mk w ≤ 60) (m2 : w.1 58 39 = nI (mk w)) (x1 x2 x3 x4 x5 : Int32) (h5 : x5 = 0 ∨ x5 = 1) : EvI m_M_mark 30 [.ref 58, .int (x1), .int (x2), .int (x3), .int (x4), .int (x5)] w (fun r w' => (¬ MkOk w x1 x2 x3 x4 ∧ r = -nI 1 ∧ w' = up1 w 58 0 (nI 0)) ∨ (MkOk w x1 x2 x3 x4 ∧ ∃ k, Fst w x1 x2 x3 x4 k ∧ ((k = 60 ∧ r = -nI 1 ∧ w' = up1 w 58 0 (nI 0)) ∨ (k < 60 ∧ r = nI (mn w k) ∧ w' = up1 (pRf (up1 w 58 0 (nI 0)) k x1 x2 x3 x4 x5) 58 39 (nI (mn w k)))))) := by
  refine ev_M_mark x1 x2 x3 x4 x5 (vc_M_mark_0 x1 x2 x3 x4 x5 ⟨_, c_M_isThere2 (d := 29) (w := up1 w 58 0 (nI 0)) h1 h2 x1, ?_⟩)
  rintro r w1 ⟨rfl, hr⟩
  refine ⟨fun g => Or.inl ⟨?_, rfl, rfl⟩, fun g => ?_⟩
  · rintro ⟨s, l, t, r, a1, a2, a3, a4, a5, a6, rfl, -⟩
    exact hr.z g ⟨s, a1, rfl, a2⟩
  obtain ⟨s, s1, rfl, s2⟩ := hr.n g
  have s1 : s < cm w := s1
  obtain ⟨hle, e79⟩ := h3 s s1
  rw [show (up1 w 58 0 (nI 0)).1 79 = w.1 79 from rfl]
  refine ⟨fun g3 => Or.inl ⟨?_, rfl, rfl⟩, fun g3 => ⟨s, rfl, by omega, ?_⟩⟩
  · rintro ⟨s', l, t, r, a1, a2, a3, a4, a5, a6, a7, rfl, -⟩
    have := nI_inj (by omega) (by omega) a7
    subst this
    exact nn0 l (by omega) g3
  rw [e79]
  refine ⟨fun g4 => Or.inl ⟨?_, rfl, rfl⟩, fun g4 => ⟨fun g5 => Or.inl ⟨?_, rfl, rfl⟩, fun g5 => ⟨s, rfl, by omega, ?_⟩⟩⟩
  · rintro ⟨s', l, t, r, a1, a2, a3, a4, a5, a6, a7, rfl, -⟩
    have := nI_inj (by omega) (by omega) a7
    subst this
    exact absurd (gle g4) (by omega)
  · rintro ⟨s', l, t, r, a1, a2, a3, a4, a5, a6, a7, -, rfl, -⟩
    have := nI_inj (by omega) (by omega) a7
    subst this
    exact nn0 t (by omega) g5
  rw [e79]
  refine ⟨fun g6 => Or.inl ⟨?_, rfl, rfl⟩, fun g6 => ⟨fun g7 => Or.inl ⟨?_, rfl, rfl⟩, fun g7 => ⟨_, c_M_isR (d := 29) x4, ?_⟩⟩⟩
  · rintro ⟨s', l, t, r, a1, a2, a3, a4, a5, a6, a7, -, rfl, -⟩
    have := nI_inj (by omega) (by omega) a7
    subst this
    exact absurd (gle g6) (by omega)
  · rintro ⟨s', l, t, r, a1, a2, a3, a4, a5, a6, a7, rfl, rfl, -⟩
    have := nI_inj (by omega) (by omega) a7
    subst this
    exact a5 (nI_inj (by omega) (by omega) g7)
  rintro r2 w2 ⟨rfl, hr2⟩
  refine ⟨fun g2 => ?_, fun g2 => Or.inl ⟨?_, rfl, rfl⟩⟩
  · obtain ⟨r, r1, rfl⟩ := isRl_of (hr2.n g2)
    obtain ⟨l, l0, rfl, -⟩ := i_nat (nlt0 g3)
    obtain ⟨t, t0, rfl, -⟩ := i_nat (nlt0 g5)
    have l1 := ngle g4
    have t1 := ngle g6
    have hok : MkOk w (nI s) (nI l) (nI t) (nI r) := ⟨s, l, t, r, s1, s2, l1, t1, fun e => g7 (by rw [e]), r1, rfl, rfl, rfl, rfl⟩
    generalize nI s = x1 at *
    generalize nI l = x2 at *
    generalize nI t = x3 at *
    generalize nI r = x4 at *
    have fin : ∀ k, k < 60 → Fst w x1 x2 x3 x4 k → ((¬ nI k = w.1 58 39 → (¬ MkOk w x1 x2 x3 x4 ∧ w.1 58 39 = -nI 1 ∧ up1 (pRf (up1 w 58 0 (nI 0)) k x1 x2 x3 x4 x5) 58 39 (w.1 58 39) = up1 w 58 0 (nI 0)) ∨ (MkOk w x1 x2 x3 x4 ∧ ∃ k', Fst w x1 x2 x3 x4 k' ∧ ((k' = 60 ∧ w.1 58 39 = -nI 1 ∧ up1 (pRf (up1 w 58 0 (nI 0)) k x1 x2 x3 x4 x5) 58 39 (w.1 58 39) = up1 w 58 0 (nI 0)) ∨ (k' < 60 ∧ w.1 58 39 = nI (mn w k') ∧ up1 (pRf (up1 w 58 0 (nI 0)) k x1 x2 x3 x4 x5) 58 39 (w.1 58 39) = up1 (pRf (up1 w 58 0 (nI 0)) k' x1 x2 x3 x4 x5) 58 39 (nI (mn w k')))))) ∧ (nI k = w.1 58 39 → (¬ MkOk w x1 x2 x3 x4 ∧ w.1 58 39 + nI 1 = -nI 1 ∧ up1 (pRf (up1 w 58 0 (nI 0)) k x1 x2 x3 x4 x5) 58 39 (w.1 58 39 + nI 1) = up1 w 58 0 (nI 0)) ∨ (MkOk w x1 x2 x3 x4 ∧ ∃ k', Fst w x1 x2 x3 x4 k' ∧ ((k' = 60 ∧ w.1 58 39 + nI 1 = -nI 1 ∧ up1 (pRf (up1 w 58 0 (nI 0)) k x1 x2 x3 x4 x5) 58 39 (w.1 58 39 + nI 1) = up1 w 58 0 (nI 0)) ∨ (k' < 60 ∧ w.1 58 39 + nI 1 = nI (mn w k') ∧ up1 (pRf (up1 w 58 0 (nI 0)) k x1 x2 x3 x4 x5) 58 39 (w.1 58 39 + nI 1) = up1 (pRf (up1 w 58 0 (nI 0)) k' x1 x2 x3 x4 x5) 58 39 (nI (mn w k'))))))) := by
      intro k k60 hk
      rw [m2, nI_add]
      refine ⟨fun e => Or.inr ⟨hok, k, hk, Or.inr ⟨k60, ?_⟩⟩, fun e => Or.inr ⟨hok, k, hk, Or.inr ⟨k60, ?_⟩⟩⟩
      · have : mn w k = mk w := by unfold mn; rw [if_neg (fun e' => e (by rw [e']))]
        rw [this]
        exact ⟨rfl, rfl⟩
      · have : mn w k = mk w + 1 := by unfold mn; rw [if_pos (nI_inj (by omega) (by omega) e)]
        rw [this]
        exact ⟨rfl, rfl⟩
    refine lpU (I := fun k w' => w' = up1 w 58 0 (nI 0) ∧ ∀ j, j < k → ¬ Hit w x1 x2 x3 x4 j) (G := fun k w' => Z m_M_mark 30 (qI (fun r w' => (¬ MkOk w x1 x2 x3 x4 ∧ r = -nI 1 ∧ w' = up1 w 58 0 (nI 0)) ∨ (MkOk w x1 x2 x3 x4 ∧ ∃ k, Fst w x1 x2 x3 x4 k ∧ ((k = 60 ∧ r = -nI 1 ∧ w' = up1 w 58 0 (nI 0)) ∨ (k < 60 ∧ r = nI (mn w k) ∧ w' = up1 (pRf (up1 w 58 0 (nI 0)) k x1 x2 x3 x4 x5) 58 39 (nI (mn w k))))))) 59 [(0, .ref 58), (1, .int (x1)), (2, .int (x2)), (3, .int (x3)), (4, .int (x4)), (5, .int (x5)), (6, .int (nI k))] [] w') (M := mk w) ?_ ?_ 0 (Nat.zero_le _) _ ⟨rfl, fun j hj => absurd hj (Nat.not_lt_zero _)⟩
    · rintro w1 ⟨rfl, hn⟩
      refine vc_M_mark_59 _ _ _ _ _ _ ?_
      have hF : Fst w x1 x2 x3 x4 (mk w) := ⟨Nat.le_refl _, hn, fun e => absurd e (Nat.lt_irrefl _)⟩
      rw [show (up1 w 58 0 (nI 0)).1 58 39 = w.1 58 39 from rfl]
      refine ⟨fun _ => ⟨fun g => ?_, fun g => Or.inr ⟨hok, mk w, hF, Or.inl ⟨nI_inj (by omega) (by omega) g, rfl, rfl⟩⟩⟩, fun g => absurd (mle (Nat.le_refl (mk w))) (by rw [m2] at g; exact g)⟩
      have k60 : mk w < 60 := by
        rcases Nat.lt_or_ge (mk w) 60 with a | a
        · exact a
        · exact absurd (by rw [show mk w = 60 by omega]) g
      exact ⟨mk w, rfl, k60, mk w, rfl, k60, mk w, rfl, k60, mk w, rfl, k60, mk w, rfl, k60, h5, fin (mk w) k60 hF⟩
    · rintro k w1 hk ⟨rfl, hn⟩ nx
      refine vc_M_mark_59 _ _ _ _ _ _ ?_
      rw [show (up1 w 58 0 (nI 0)).1 58 39 = w.1 58 39 from rfl, show (up1 w 58 0 (nI 0)).1 86 = w.1 86 from rfl, show (up1 w 58 0 (nI 0)).1 87 = w.1 87 from rfl, show (up1 w 58 0 (nI 0)).1 88 = w.1 88 from rfl, show (up1 w 58 0 (nI 0)).1 89 = w.1 89 from rfl]
      have nx' := fun (hh : ¬ Hit w x1 x2 x3 x4 k) => nx (up1 w 58 0 (nI 0)) ⟨rfl, fun j hj => by
        by_cases e : j = k
        · rw [e]; exact hh
        · exact hn j (by omega)⟩
      rw [← nI_add] at nx'
      refine ⟨fun g => absurd (gle (by rw [m2] at g; exact g)) (by omega), fun _ => ⟨k, rfl, by omega, fun g => nx' (fun a => g a.1), fun g1 => ⟨k, rfl, by omega, fun g => nx' (fun a => g a.2.1), fun g2 => ⟨k, rfl, by omega, fun g => nx' (fun a => g a.2.2.1), fun g3 => ⟨k, rfl, by omega, fun g4 => ?_, fun g => nx' (fun a => g a.2.2.2)⟩⟩⟩⟩⟩
      have k60 : k < 60 := by omega
      refine ⟨fun _ => ?_, fun g => absurd (nI_inj (by omega) (by omega) g) (by omega)⟩
      exact ⟨k, rfl, k60, k, rfl, k60, k, rfl, k60, k, rfl, k60, k, rfl, k60, h5, fin k k60 ⟨by omega, hn, fun _ => ⟨g1, g2, g3, g4⟩⟩⟩
  · rintro ⟨s, l, t, r, a1, a2, a3, a4, a5, a6, -, -, -, rfl⟩
    exact hr2.z g2 (isRl_nI a6)
theorem op_mark {w : Wd} (h : Inv w) (x1 x2 x3 x4 x5 : Int32) (h5 : x5 = 0 ∨ x5 = 1) : Op m_D_mark m_M_mark [.int x1, .int x2, .int x3, .int x4, .int x5] w := by
  refine (c_D_mark h x1 x2 x3 x4 x5 h5).imp ?_
  have hS := h.1.2.1
  have hm := h.2.2.2.2.2.1.1
  have go : ∀ w1, (∀ a, ¬ (45 ≤ a ∧ a ≤ 50) → w1.1 a = w.1 a) → ∀ Q : Int32 → Wd → Prop, (∀ r w', (¬ MkOk w x1 x2 x3 x4 ∧ r = -nI 1 ∧ w' = up1 w1 58 0 (nI 0)) ∨ (MkOk w x1 x2 x3 x4 ∧ ∃ k, Fst w x1 x2 x3 x4 k ∧ ((k = 60 ∧ r = -nI 1 ∧ w' = up1 w1 58 0 (nI 0)) ∨ (k < 60 ∧ r = nI (mn w k) ∧ w' = up1 (pRf (up1 w1 58 0 (nI 0)) k x1 x2 x3 x4 x5) 58 39 (nI (mn w k))))) → Q r w') → EvI m_M_mark 30 [.ref 58, .int (x1), .int (x2), .int (x3), .int (x4), .int (x5)] w1 Q := by
    intro w1 e Q hq
    have ecm : cm w1 = cm w := N_cg (by rw [e 58 (by decide)])
    have emk : mk w1 = mk w := N_cg (by rw [e 58 (by decide)])
    have el : ∀ s, len w1 s = len w s := fun s => N_cg (by rw [e 79 (by decide)])
    have eM : MkOk w1 x1 x2 x3 x4 = MkOk w x1 x2 x3 x4 := by
      unfold MkOk
      rw [ecm]
      simp only [el, thr, e 81 (by decide)]
    have eF : ∀ k, Fst w1 x1 x2 x3 x4 k = Fst w x1 x2 x3 x4 k := fun k => by
      unfold Fst Hit
      rw [emk, e 86 (by decide), e 87 (by decide), e 88 (by decide), e 89 (by decide)]
    have en : ∀ k, mn w1 k = mn w k := fun k => by unfold mn; rw [emk]
    refine (c_M_mark (w := w1) (by rw [ecm]; exact hS.2.2.1.1) (by rw [ecm, e 58 (by decide)]; exact hS.2.2.1.2.1) (fun s hs => by rw [ecm] at hs; rw [el, e 79 (by decide)]; exact ⟨(hS.2.2.2.1 s hs).2.1, (hS.2.2.2.1 s hs).2.2.1⟩) (by rw [emk]; exact hm.1) (by rw [emk, e 58 (by decide)]; exact hm.2.1) x1 x2 x3 x4 x5 h5).imp ?_
    intro r w' hr
    rw [eM] at hr
    simp only [eF, en] at hr
    exact hq r w' hr
  rintro r w1 (⟨a1, rfl, rfl⟩ | ⟨a1, k, hk, (⟨rfl, rfl, rfl⟩ | ⟨k60, rfl, w0, h0, rfl, h45⟩)⟩)
  · refine go w1 (fun a _ => rfl) _ ?_
    rintro r w' (⟨b1, rfl, rfl⟩ | ⟨b1, -⟩)
    · exact ⟨rfl, h.th _⟩
    · exact absurd b1 a1
  · refine go w1 (fun a _ => rfl) _ ?_
    rintro r w' (⟨b1, rfl, rfl⟩ | ⟨b1, k', hk', (⟨rfl, rfl, rfl⟩ | ⟨k60', rfl, rfl⟩)⟩)
    · exact absurd a1 b1
    · exact ⟨rfl, h.th _⟩
    · have := hk.one hk'
      omega
  · have f0 : Sm CMk w w0 := by
      rcases h0 with rfl | rfl
      · exact Sm.rf
      · exact Sm.up (by unfold CMk; omega)
    have r0 : ∀ a, a ≠ 45 → w0.1 a = w.1 a := fun a ha => by
      rcases h0 with rfl | rfl
      · rfl
      · exact up1_off a ha
    have e02 : w0.2 = w.2 := by rcases h0 with rfl | rfl <;> rfl
    have r1 : ∀ a, ¬ (45 ≤ a ∧ a ≤ 50) → (pM w0 k x1 x2 x3 x4 x5).1 a = w.1 a := fun a ha => by
      rw [← r0 a (by omega)]
      exact (up1_off a (by omega)).trans ((up1_off a (by omega)).trans ((up1_off a (by omega)).trans ((up1_off a (by omega)).trans (up1_off a (by omega)))))
    have b0 : ∀ j, ((pM w0 k x1 x2 x3 x4 x5).1 46 j = if j = k then x1 else w.1 46 j) ∧ ((pM w0 k x1 x2 x3 x4 x5).1 47 j = if j = k then x2 else w.1 47 j) ∧ ((pM w0 k x1 x2 x3 x4 x5).1 48 j = if j = k then x3 else w.1 48 j) ∧ ((pM w0 k x1 x2 x3 x4 x5).1 49 j = if j = k then x4 else w.1 49 j) ∧ ((pM w0 k x1 x2 x3 x4 x5).1 50 j = if j = k then x5 else w.1 50 j) := fun j => by
      rw [← r0 46 (by decide), ← r0 47 (by decide), ← r0 48 (by decide), ← r0 49 (by decide), ← r0 50 (by decide)]
      refine ⟨?_, ?_, ?_, ?_, ?_⟩
      · show (if 46 = 46 ∧ j = k then x1 else w0.1 46 j) = _
        simp
      · show (if 47 = 47 ∧ j = k then x2 else w0.1 47 j) = _
        simp
      · show (if 48 = 48 ∧ j = k then x3 else w0.1 48 j) = _
        simp
      · show (if 49 = 49 ∧ j = k then x4 else w0.1 49 j) = _
        simp
      · show (if 50 = 50 ∧ j = k then x5 else w0.1 50 j) = _
        simp
    have f1 : Sm CMk w (pM w0 k x1 x2 x3 x4 x5) := f0.tr (pM_sm _ _ _ _ _ _ _)
    have e12 : (pM w0 k x1 x2 x3 x4 x5).2 = w.2 := e02
    generalize pM w0 k x1 x2 x3 x4 x5 = w1 at *
    refine go w1 r1 _ ?_
    rintro r w' (⟨b1, rfl, rfl⟩ | ⟨b1, k', hk', (⟨rfl, rfl, rfl⟩ | ⟨k60', rfl, rfl⟩)⟩)
    · exact absurd a1 b1
    · have := hk.one hk'
      omega
    · have := hk.one hk'
      subst this
      refine ⟨rfl, ?_⟩
      obtain ⟨s, l, t, r, c1, c2, c3, c4, c5, c6, rfl, rfl, rfl, rfl⟩ := a1
      refine h.put (n := mn w k) c1 c3 c4 c5 c6 h5 k60 hk.1 ((f1.tr (Sm.up (by unfold CMk; omega))).tr ((pRf_sm _ _ _ _ _ _ _).tr (Sm.up (by unfold CMk; omega)))) e12 rfl rfl h45 b0 (fun j => ?_)
      rw [← r1 86 (by decide), ← r1 87 (by decide), ← r1 88 (by decide), ← r1 89 (by decide), ← r1 90 (by decide)]
      refine ⟨?_, ?_, ?_, ?_, ?_⟩
      · show (if 86 = 86 ∧ j = k then nI s else w1.1 86 j) = _
        simp
      · show (if 87 = 87 ∧ j = k then nI l else w1.1 87 j) = _
        simp
      · show (if 88 = 88 ∧ j = k then nI t else w1.1 88 j) = _
        simp
      · show (if 89 = 89 ∧ j = k then nI r else w1.1 89 j) = _
        simp
      · show (if 90 = 90 ∧ j = k then x5 else w1.1 90 j) = _
        simp
