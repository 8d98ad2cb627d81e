/-! OPERATIONS -/
def Op (mD mM : MI) (as : List Value) (w : Wd) : Prop := EvI mD 30 (.ref 57 :: as) w (fun r w1 => EvI mM 30 (.ref 58 :: as) w1 (fun r2 w2 => r2 = r ∧ Inv w2))
theorem op_named {w : Wd} (h : Inv w) (x : Int32) : Op m_D_named m_M_named [.int x] w := by
  refine ev_D_named x (vc_D_named_0 x ⟨_, c_Lexicon_nameOf (d := 28) h.1.1 x, ?_⟩)
  rintro r w1 ⟨rfl, hr⟩
  refine (c_M_named (d := 29) h.1.1 x).imp ?_
  rintro r2 w2 ⟨rfl, hr2⟩
  refine ⟨?_, h.th _⟩
  rcases hr with ⟨a, rfl⟩ | ⟨k, a, b, rfl, rfl⟩ <;> rcases hr2 with ⟨a2, rfl⟩ | ⟨k2, a2, b2, e, rfl⟩
  · rfl
  · rw [e] at a; exact absurd (isW_nI a2 b2) a
  · exact absurd (isW_nI a b) a2
  · rw [nI_inj (by omega) (by omega) e]
def KO (a k : Nat) : Prop := (86 ≤ a ∧ a ≤ 90) ∨ a = 93 ∨ a = 94 ∨ (a = 58 ∧ (k = 2 ∨ k = 39 ∨ k = 47 ∨ k = 48 ∨ k = 49)) ∨ a = 8 ∨ a = 9 ∨ a = 59 ∨ (45 ≤ a ∧ a ≤ 50) ∨ (54 ≤ a ∧ a ≤ 56)
theorem Inv.oth {w w' : Wd} (h : Inv w) (f : Sa KO w w') (e2 : w'.2 63 = w.2 63) (hc : cm w ≤ cm w') (hl : ∀ s, s < cm w → len w' s = len w s) : TapI w' ∧ MrkI w' ∧ LesI w' ∧ ConI w' := by
  obtain ⟨h1, h2, h3, h4, h5, h6, h7, h8⟩ := h
  refine ⟨h2.mv (f 58 2 (by unfold KO; omega)) (f 8 1 (by unfold KO; omega)) (f.row 9 (fun k => by unfold KO; omega)) (f.row 59 (fun k => by unfold KO; omega)), h6.mv hc hl (f 58 39 (by unfold KO; omega)) (f 45 8 (by unfold KO; omega)) (fun a ha => f.row a (fun k => by unfold KO; omega)), h7.mv (fun k h1 h2 => f 58 k (by unfold KO; omega)) (fun a ha => f.row a (fun k => by unfold KO; omega)), fun k hk => by rw [e2]; exact h8 k hk⟩
def KN (a k : Nat) : Prop := (64 ≤ a ∧ a ≤ 74) ∨ a = 76 ∨ a = 77 ∨ (79 ≤ a ∧ a ≤ 82) ∨ (86 ≤ a ∧ a ≤ 90) ∨ a = 93 ∨ a = 94 ∨ (a = 58 ∧ (k = 2 ∨ k = 10 ∨ k = 30 ∨ k = 34 ∨ k = 39 ∨ k = 47 ∨ k = 48 ∨ k = 49)) ∨ a = 8 ∨ a = 9 ∨ a = 59 ∨ (37 ≤ a ∧ a ≤ 40) ∨ (a = 42 ∧ k = 6) ∨ (45 ≤ a ∧ a ≤ 50) ∨ (54 ≤ a ∧ a ≤ 56)
theorem Inv.kn {w w' : Wd} (h : Inv w) (f : Sa KN w w') (e2 : ∀ a, a = 43 ∨ a = 44 ∨ a = 63 → w'.2 a = w.2 a) (hC : CtI w') : Inv w' := by
  have fR : Sa KR w w' := f.mo (fun a k x => by unfold KR at x; unfold KN; omega)
  have S := SemF.of (KR.f fR)
  obtain ⟨o1, o2, o3, o4⟩ := h.oth (f.mo (fun a k x => by unfold KO at x; unfold KN; omega)) (e2 63 (by omega)) (by rw [S.1]; exact Nat.le_refl _) (fun s _ => N_cg (f 79 s (by unfold KN; omega)))
  exact ⟨hC, o1, h.2.2.1.mv S (fun a _ _ => f.row a (fun k => by unfold KN; omega)), h.2.2.2.1.mv (SemR.of fR) (f 42 6 (by unfold KN; omega)) (e2 43 (by omega)) (e2 44 (by omega)), h.2.2.2.2.1.mv S (f 58 34 (by unfold KN; omega)) (f.row 82 (fun k => by unfold KN; omega)), o2, o3, o4⟩
theorem Sm.sa {C K : Nat → Nat → Prop} {w w' : Wd} (f : Sm C w w') (hk : ∀ a k, K a k → ¬ C a k) : Sa K w w' := fun a k x => f a k (hk a k x)
def CW (a k : Nat) : Prop := a = 7 ∨ a = 3 ∨ a = 78 ∨ (a = 58 ∧ (k = 0 ∨ k = 28))
theorem op_word {w : Wd} (h : Inv w) (x : Int32) : Op m_D_word m_M_word [.int x] w := by
  have hS := h.1.2.1
  refine ev_D_word x (vc_D_word_0 x ⟨_, c_has (d := 29) x, ?_⟩)
  rintro r w1 ⟨rfl, hr⟩
  refine ⟨fun g => ?_, fun g => ⟨_, c_Sentences_tell (d := 29) hS x, ?_⟩⟩
  · refine ev_M_word x (vc_M_word_0 x ⟨_, c_M_isOne (d := 29) x, ?_⟩)
    rintro r2 w2 ⟨rfl, hr2⟩
    exact ⟨fun _ => ⟨rfl, h.th _⟩, fun g2 => absurd (hr2.n g2) (hr.z g)⟩
  · rintro r2 w2 (⟨ht, rfl, rfl⟩ | ⟨ht, rfl, rfl⟩)
    · refine ev_M_word x (vc_M_word_0 x ⟨_, c_M_isOne (d := 29) x, ?_⟩)
      rintro r3 w3 ⟨rfl, hr3⟩
      refine ⟨fun g2 => absurd (hr.n g) (hr3.z g2), fun _ => ⟨fun _ => ⟨td w1, ?_, ht, ?_⟩, fun g2 => ?_⟩⟩
      · exact hS.1.2.1
      · obtain ⟨k, k1, k2, rfl⟩ := isW_of (hr.n g)
        show (w1.1 58 28 + nI 1 = nI (td w1 + 1)) ∧ Inv (up1 (up1 (up1 (up1 (up1 w1 7 (td w1) (nI k)) 3 4 (nI (td w1 + 1))) 58 0 (nI 0)) 78 (td w1) (nI k)) 58 28 (w1.1 58 28 + nI 1))
        have e28 : w1.1 58 28 + nI 1 = nI (td w1 + 1) := by rw [hS.1.2.1, nI_add]
        rw [e28]
        refine ⟨rfl, ?_⟩
        generalize hw : (up1 (up1 (up1 (up1 (up1 w1 7 (td w1) (nI k)) 3 4 (nI (td w1 + 1))) 58 0 (nI 0)) 78 (td w1) (nI k)) 58 28 (nI (td w1 + 1))) = w2
        have f : Sm CW w1 w2 := by
          rw [← hw]
          exact ((((Sm.up (by unfold CW; omega)).tr (Sm.up (by unfold CW; omega))).tr (Sm.up (by unfold CW; omega))).tr (Sm.up (by unfold CW; omega))).tr (Sm.up (by unfold CW; omega))
        have r : ∀ a, a ≠ 7 → a ≠ 3 → a ≠ 78 → a ≠ 58 → w2.1 a = w1.1 a := fun a g1 g2 g3 g4 => funext fun j => f a j (by unfold CW; omega)
        have t28 : w2.1 58 28 = nI (td w1 + 1) := by rw [← hw]; rfl
        have t34 : w2.1 3 4 = nI (td w1 + 1) := by rw [← hw]; rfl
        have t35 : w2.1 3 5 = w1.1 3 5 := by rw [← hw]; rfl
        have t36 : w2.1 3 6 = w1.1 3 6 := by rw [← hw]; rfl
        have t30 : w2.1 58 30 = w1.1 58 30 := f 58 30 (by unfold CW; omega)
        have t7 : ∀ p, w2.1 7 p = if p = td w1 then nI k else w1.1 7 p := fun p => by
          rw [← hw]
          show (if 7 = 7 ∧ p = td w1 then nI k else w1.1 7 p) = _
          simp
        have t78 : ∀ p, w2.1 78 p = if p = td w1 then nI k else w1.1 78 p := fun p => by
          rw [← hw]
          show (if 78 = 78 ∧ p = td w1 then nI k else w1.1 78 p) = _
          simp
        have e2 : w2.2 = w1.2 := by rw [← hw]; rfl
        have htd : td w2 = td w1 + 1 := N_of t28
        refine h.kn (f.sa (fun a k x => by unfold KN at x; unfold CW; omega)) (fun a _ => by rw [e2]) ⟨h.1.1.mv (r 1 (by decide) (by decide) (by decide) (by decide)) (r 2 (by decide) (by decide) (by decide) (by decide)) (r 76 (by decide) (by decide) (by decide) (by decide)) (r 77 (by decide) (by decide) (by decide) (by decide)), ?_, h.1.2.2.mv (f 58 10 (by unfold CW; omega)) (f 25 0 (by unfold CW; omega)) (f 25 7 (by unfold CW; omega)) (f 25 9 (by unfold CW; omega)) (f 25 13 (by unfold CW; omega)) (fun a ha => r a (by omega) (by omega) (by omega) (by omega))⟩
        obtain ⟨s1, s2, s3, s4, s5, s6, s7, s8⟩ := hS
        have ecm : cm w2 = cm w1 := N_cg t30
        have el : ∀ s, len w2 s = len w1 s := fun s => N_cg (by rw [r 79 (by decide) (by decide) (by decide) (by decide)])
        have ew : ∀ s p, wrd w2 s p = wrd w1 s p := fun s p => N_cg (by rw [r 80 (by decide) (by decide) (by decide) (by decide)])
        unfold SenI
        rw [htd, ecm, t28, t34, t30, t35, t36, r 79 (by decide) (by decide) (by decide) (by decide), r 80 (by decide) (by decide) (by decide) (by decide), r 81 (by decide) (by decide) (by decide) (by decide), r 4 (by decide) (by decide) (by decide) (by decide), r 5 (by decide) (by decide) (by decide) (by decide), r 6 (by decide) (by decide) (by decide) (by decide)]
        refine ⟨⟨by omega, rfl, rfl⟩, fun p hp => ?_, s3, fun s hs => by rw [el]; exact s4 s hs, fun s hs p hp => by rw [el] at hp; rw [ew]; exact s5 s hs p hp, s6, s7, s8⟩
        by_cases e : p = td w1
        · rw [show N w2 78 p = k from N_of (by rw [t78, if_pos e]), t78, t7, if_pos e, if_pos e]
          exact ⟨k1, k2, rfl, rfl⟩
        · rw [show N w2 78 p = N w1 78 p from N_cg (by rw [t78, if_neg e]), t78, t7, if_neg e, if_neg e]
          exact s2 p (by omega)
      · exfalso
        have g2 : w1.1 58 28 = nI 16 := g2
        rw [hS.1.2.1] at g2
        have := nI_inj (by omega) (by omega) g2
        omega
    · refine ev_M_word x (vc_M_word_0 x ⟨_, c_M_isOne (d := 29) x, ?_⟩)
      rintro r3 w3 ⟨rfl, hr3⟩
      refine ⟨fun _ => ⟨rfl, h.th _⟩, fun _ => ⟨fun g2 => absurd ?_ g2, fun _ => ⟨rfl, h.th _⟩⟩⟩
      show w2.1 58 28 = nI 16
      rw [hS.1.2.1, ht]
theorem c_Finder_forget {d : Nat} {w : Wd} {s : Nat} (hs : s < 40) : EvV m_Finder_forget d [.ref 36, .int (nI s)] w (fun w' => w' = up1 w 40 s (nI 1)) :=
  ev_Finder_forget _ (vc_Finder_forget_0 _ ⟨fun g => absurd g (nn0 s), fun _ => ⟨fun g => absurd (gle g) (by omega), fun _ => ⟨s, rfl, hs, Or.inr rfl, rfl⟩⟩⟩)
theorem c_Table_forget {d : Nat} {w : Wd} : EvV m_Table_forget d [.ref 42] w (fun w' => w' = up1 w 42 6 (nI 1)) := ev_Table_forget (vc_Table_forget_0 ⟨Or.inr rfl, rfl⟩)
