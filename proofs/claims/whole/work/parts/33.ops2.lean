/-! finds, find -/
def CFR (a k : Nat) : Prop := (37 ≤ a ∧ a ≤ 41) ∨ (82 ≤ a ∧ a ≤ 85) ∨ (a = 58 ∧ (k = 0 ∨ k = 34))
theorem Fr.sm {w w' : Wd} (h : Fr w w') : Sm CFR w w' := fun a k g => by rw [h.1 a (by unfold CFR at g; omega)]
theorem MFr.sm {w w' : Wd} (h : MFr w w') : Sm CFR w w' := fun a k g => h.1 a k (by unfold CFR at g; omega) (by unfold CFR at g; omega)
/-- behind a refreshing of both -/
theorem Inv.rfr {w w1 w2 : Wd} (h : Inv w) (f1 : Fr w w1) (h1 : FinI w1) (f2 : MFr w1 w2) (h2 : RefI w2) : Inv w2 := by
  have f : Sm CFR w w2 := f1.sm.tr f2.sm
  have e2 : w2.2 = w.2 := f2.2.trans f1.2
  have fR : Sa KR w w2 := f.sa (fun a k x => by unfold KR at x; unfold CFR; omega)
  have S := SemF.of (KR.f fR)
  obtain ⟨o1, o2, o3, o4⟩ := h.oth (f.sa (fun a k x => by unfold KO at x; unfold CFR; omega)) (by rw [e2]) (by rw [S.1]; exact Nat.le_refl _) (fun s _ => N_cg (f 79 s (by unfold CFR; omega)))
  exact ⟨f2.ct (h.1.fr f1), o1, h1.mv (SemF.of (f2.sm.sa (fun a k x => by unfold KF at x; unfold CFR; omega))) (fun a g1 g2 => f2.off (by omega) (by omega)), h.2.2.2.1.mv (SemR.of fR) (f 42 6 (by unfold CFR; omega)) (by rw [e2]) (by rw [e2]), h2, o2, o3, o4⟩
theorem RF0.i {w : Wd} (h : RF0 w) : RefI w := ⟨Or.inl h.2, fun _ => h.1⟩
/-- the reference's rows behind the class's refreshing -/
theorem RefI.fr {w w1 : Wd} (h : RefI w) (f : Fr w w1) : RefI w1 := h.mv (SemF.of (f.sm.sa (fun a k x => by unfold KF at x; unfold CFR; omega))) (by rw [f.1 58 (by omega)]) (f.1 82 (by omega))
theorem nfb0 (w : Wd) : sumN (nfb w (nI 0)) 480 = ct (fN w) 122880 := by
  rw [finds_sum]
  exact sumN_cong (fun i _ => nfb_yes (Or.inl rfl))
theorem op_finds {w : Wd} (h : Inv w) : Op m_D_finds m_M_finds [] w := by
  refine ev_D_finds (vc_D_finds_0 ⟨_, c_refresh (d := 23) h.1 h.2.2.1, ?_⟩)
  rintro w1 ⟨f1, a1, b1⟩
  have hC1 := h.1.fr f1
  refine ⟨_, c_Finder_total (d := 28) ⟨hC1, a1, b1⟩ (nI 0), ?_⟩
  rintro r w2 ⟨rfl, rfl⟩
  refine (c_M_finds (d := 26) hC1 (h.2.2.2.2.1.fr f1).2).imp ?_
  rintro r2 w3 ⟨m, r0, rfl⟩
  exact ⟨by rw [nfb0], h.rfr f1 a1 m r0.i⟩
theorem op_find {w : Wd} (h : Inv w) (x y : Int32) : Op m_D_find m_M_find [.int x, .int y] w := by
  refine ev_D_find x y (vc_D_find_0 x y ⟨_, c_refresh (d := 23) h.1 h.2.2.1, ?_⟩)
  rintro w1 ⟨f1, a1, b1⟩
  have hC1 := h.1.fr f1
  refine ⟨_, z_tellOf (d := 25) (Q := fun r w' => w' = w1 ∧ Nth (fN w1) 122880 x (prt w1 y) r) ⟨hC1, a1, b1⟩ x y (fun r hr => ⟨rfl, hr⟩), ?_⟩
  rintro r w2 ⟨rfl, hr⟩
  refine (c_M_find (d := 26) hC1 (h.2.2.2.2.1.fr f1).2 x y).imp ?_
  rintro r2 w3 ⟨m, r0, hr2⟩
  exact ⟨hr.one (by decide) hr2, h.rfr f1 a1 m r0.i⟩
theorem z_M_join2 {d : Nat} {w : Wd} {Q : Int32 → Wd → Prop} (hJ : ∀ c, 1 ≤ c → c ≤ 100 → 1 ≤ Jn w c ∧ Jn w c ≤ 100 ∧ w.1 77 c = nI (Jn w c)) {a b : Nat} (a1 : 1 ≤ a) (a2 : a ≤ 100) (b1 : 1 ≤ b) (b2 : b ≤ 100) (hy : joinOK w a b → Q 1 (up1 w 77 a (nI b))) (hn : ¬ joinOK w a b → Q 0 w) : ∀ (n c : Nat), 1 ≤ c → c ≤ 100 → Jn w (it (Jn w) n c) = it (Jn w) n c → ((∃ m, it (Jn w) m b = a) ↔ ∃ m, it (Jn w) m c = a) → (a = b → c = b) → Z m_M_join (d + 1) (qI Q) 23 [(0, .ref 58), (1, .int (nI a)), (2, .int (nI b)), (3, .int (nI c))] [] w := by
  have hab : ∀ {p q : Nat}, p ≤ 100 → q ≤ 100 → nI p = nI q → p = q := fun hp hq e => nI_inj (by omega) (by omega) e
  intro n
  induction n with
  | zero =>
    intro c c1 c2 hf hm hc
    have hf : Jn w c = c := hf
    obtain ⟨j1, j2, j3⟩ := hJ c c1 c2
    refine vc_M_join_23 _ _ _ ⟨fun h => ⟨fun e => ⟨a, rfl, by omega, Or.inr rfl, hy (Or.inl (hab a2 b2 e))⟩, fun e => ⟨fun h2 => absurd h h2, fun _ => ⟨Or.inl rfl, hn (fun hj => ?_)⟩⟩⟩, fun h => ⟨c, rfl, by omega, fun _ => ⟨fun e => ⟨a, rfl, by omega, Or.inr rfl, hy (Or.inl (hab a2 b2 e))⟩, fun e => ⟨fun _ => ⟨a, rfl, by omega, Or.inr rfl, hy (Or.inr (fun hp => ?_))⟩, fun h2 => absurd h2 h⟩⟩, fun h2 => absurd (by rw [j3]; exact congrArg nI hf) h2⟩⟩
    · rcases hj with hj | hj
      · exact e (congrArg nI hj)
      · exact hj (hm.mpr ⟨0, hab c2 a2 h⟩)
    · obtain ⟨m, e2⟩ := hm.mp hp
      rw [it_fix hf] at e2
      exact h (congrArg nI e2)
  | succ n ih =>
    intro c c1 c2 hf hm hc
    obtain ⟨j1, j2, j3⟩ := hJ c c1 c2
    refine vc_M_join_23 _ _ _ ⟨fun h => ⟨fun e => ⟨a, rfl, by omega, Or.inr rfl, hy (Or.inl (hab a2 b2 e))⟩, fun e => ⟨fun h2 => absurd h h2, fun _ => ⟨Or.inl rfl, hn (fun hj => ?_)⟩⟩⟩, fun h => ⟨c, rfl, by omega, fun h3 => ⟨fun e => ⟨a, rfl, by omega, Or.inr rfl, hy (Or.inl (hab a2 b2 e))⟩, fun e => ⟨fun _ => ⟨a, rfl, by omega, Or.inr rfl, hy (Or.inr (fun hp => ?_))⟩, fun h2 => absurd h2 h⟩⟩, fun h2 => ⟨c, rfl, by omega, ?_⟩⟩⟩
    · rcases hj with hj | hj
      · exact e (congrArg nI hj)
      · exact hj (hm.mpr ⟨0, hab c2 a2 h⟩)
    · rw [j3] at h3
      have e3 := hab j2 c2 h3
      obtain ⟨m, e2⟩ := hm.mp hp
      rw [it_fix e3] at e2
      exact h (congrArg nI e2)
    · rw [j3]
      refine ih (Jn w c) j1 j2 hf (hm.trans ⟨fun ⟨m, e⟩ => ?_, fun ⟨m, e⟩ => ⟨m + 1, e⟩⟩) (fun e => absurd (congrArg nI ((hc e).trans e.symm)) h)
      cases m with
      | zero => exact absurd (congrArg nI e) h
      | succ m => exact ⟨m, e⟩
theorem c_M_join2 {d : Nat} {w : Wd} (hJ : ∀ c, 1 ≤ c → c ≤ 100 → 1 ≤ Jn w c ∧ Jn w c ≤ 100 ∧ w.1 77 c = nI (Jn w c)) (hs : ∀ c, 1 ≤ c → c ≤ 100 → Jn w (nmOf w c) = nmOf w c) (x y : Int32) : EvI m_M_join (d + 1) [.ref 58, .int x, .int y] w (fun r w' => (r = 0 ∧ w' = up1 w 58 0 (nI 0) ∧ ¬ (∃ a b, 1 ≤ a ∧ a ≤ 100 ∧ 1 ≤ b ∧ b ≤ 100 ∧ x = nI a ∧ y = nI b ∧ joinOK w a b)) ∨ (r = 1 ∧ ∃ a b, 1 ≤ a ∧ a ≤ 100 ∧ 1 ≤ b ∧ b ≤ 100 ∧ x = nI a ∧ y = nI b ∧ joinOK w a b ∧ w' = up1 (up1 w 58 0 (nI 0)) 77 a (nI b))) := by
  refine ev_M_join x y (vc_M_join_0 x y ⟨_, c_M_isOne x, ?_⟩)
  rintro r w1 ⟨rfl, hr⟩
  refine ⟨fun h => ⟨Or.inl rfl, Or.inl ⟨rfl, rfl, fun ⟨a, b, a1, a2, b1, b2, e, _⟩ => hr.z h (by rw [e]; exact isW_nI a1 a2)⟩⟩, fun h => ⟨_, c_M_isOne y, ?_⟩⟩
  rintro r2 w2 ⟨rfl, hr2⟩
  refine ⟨fun h2 => ?_, fun h2 => ⟨Or.inl rfl, Or.inl ⟨rfl, rfl, fun ⟨a, b, a1, a2, b1, b2, e, e2, _⟩ => hr2.z h2 (by rw [e2]; exact isW_nI b1 b2)⟩⟩⟩
  obtain ⟨a, a1, a2, rfl⟩ := isW_of (hr.n h)
  obtain ⟨b, b1, b2, rfl⟩ := isW_of (hr2.n h2)
  refine z_M_join2 (w := up1 w 58 0 (nI 0)) hJ a1 a2 b1 b2 (fun hj => Or.inr ⟨rfl, a, b, a1, a2, b1, b2, rfl, rfl, hj, rfl⟩) (fun hj => Or.inl ⟨rfl, rfl, ?_⟩) 100 b b1 b2 (hs b b1 b2) Iff.rfl (fun _ => rfl)
  rintro ⟨a', b', c1, c2, c3, c4, e1, e2, hj'⟩
  have ea := nI_inj (by omega) (by omega) e1
  have eb := nI_inj (by omega) (by omega) e2
  subst ea
  subst eb
  exact hj hj'
/-! join -/
def CJ (a k : Nat) : Prop := a = 2 ∨ a = 77 ∨ (a = 42 ∧ k = 6) ∨ (a = 58 ∧ k = 0)
theorem op_join {w : Wd} (h : Inv w) (x y : Int32) : Op m_D_join m_M_join [.int x, .int y] w := by
  refine ev_D_join x y (vc_D_join_0 x y ⟨_, c_Lexicon_link (d := 27) h.1.1 x y, ?_⟩)
  rintro r w1 (⟨rfl, rfl, hno⟩ | ⟨rfl, a, b, a1, a2, b1, b2, rfl, rfl, hj, rfl⟩)
  · refine ⟨fun g => absurd rfl g, fun _ => ⟨Or.inl rfl, ?_⟩⟩
    refine (c_M_join (d := 29) h.1.1 x y).imp ?_
    rintro r2 w2 (⟨rfl, rfl, -⟩ | ⟨-, a, b, g1, g2, g3, g4, g5, g6, g7, -⟩)
    · exact ⟨rfl, h.th _⟩
    · exact absurd ⟨a, b, g1, g2, g3, g4, g5, g6, g7⟩ hno
  · refine ⟨fun _ => ⟨_, c_Table_forget, ?_⟩, fun g => absurd g (by decide)⟩
    rintro w2 rfl
    refine ⟨Or.inr rfl, ?_⟩
    refine (c_M_join2 (d := 29) (w := up1 (up1 w 2 a (nI (if b = a then 0 else b))) 42 6 (nI 1)) (fun c c1 c2 => ?_) (fun c c1 c2 => h.1.1.stay c1 c2) (nI a) (nI b)).imp ?_
    · obtain ⟨q1, q2, q3, -⟩ := h.1.1.J c1 c2
      exact ⟨q1, q2, q3⟩
    · rintro r2 w3 (⟨-, -, hno⟩ | ⟨rfl, a', b', g1, g2, g3, g4, g5, g6, g7, rfl⟩)
      · exact absurd ⟨a, b, a1, a2, b1, b2, rfl, rfl, hj⟩ hno
      · have ea := nI_inj (by omega) (by omega) g5
        have eb := nI_inj (by omega) (by omega) g6
        subst ea eb
        refine ⟨rfl, ?_⟩
        generalize hw : (up1 (up1 (up1 (up1 w 2 a (nI (if b = a then 0 else b))) 42 6 (nI 1)) 58 0 (nI 0)) 77 a (nI b)) = w2
        have f : Sm CJ w w2 := by
          rw [← hw]
          exact (((Sm.up (by unfold CJ; omega)).tr (Sm.up (by unfold CJ; omega))).tr (Sm.up (by unfold CJ; omega))).tr (Sm.up (by unfold CJ; omega))
        have e2 : w2.2 = w.2 := by rw [← hw]; rfl
        have r : ∀ a, a ≠ 2 → a ≠ 77 → a ≠ 42 → a ≠ 58 → w2.1 a = w.1 a := fun a g1 g2 g3 g4 => funext fun j => f a j (by unfold CJ; omega)
        have S : SemF w w2 := SemF.of (f.sa (fun a k x => by unfold KF at x; unfold CJ; omega))
        have hL : LexI w2 := h.1.1.join a1 a2 b1 b2 hj (r 1 (by decide) (by decide) (by decide) (by decide)) (r 76 (by decide) (by decide) (by decide) (by decide)) (fun k => by rw [← hw]; show (if 2 = 2 ∧ k = a then _ else _) = _; simp) (fun k => by rw [← hw]; show (if 77 = 77 ∧ k = a then nI b else w.1 77 k) = _; simp)
        have hC : CtI w2 := ⟨hL, h.1.2.1.mv (f 58 28 (by unfold CJ; omega)) (f 58 30 (by unfold CJ; omega)) (r 3 (by decide) (by decide) (by decide) (by decide)) (r 4 (by decide) (by decide) (by decide) (by decide)) (r 5 (by decide) (by decide) (by decide) (by decide)) (r 6 (by decide) (by decide) (by decide) (by decide)) (r 7 (by decide) (by decide) (by decide) (by decide)) (r 78 (by decide) (by decide) (by decide) (by decide)) (r 79 (by decide) (by decide) (by decide) (by decide)) (r 80 (by decide) (by decide) (by decide) (by decide)) (r 81 (by decide) (by decide) (by decide) (by decide)), h.1.2.2.mv (f 58 10 (by unfold CJ; omega)) (f 25 0 (by unfold CJ; omega)) (f 25 7 (by unfold CJ; omega)) (f 25 9 (by unfold CJ; omega)) (f 25 13 (by unfold CJ; omega)) (fun a ha => r a (by omega) (by omega) (by omega) (by omega))⟩
        obtain ⟨o1, o2, o3, o4⟩ := h.oth (f.sa (fun a k x => by unfold KO at x; unfold CJ; omega)) (by rw [e2]) (by rw [S.1]; exact Nat.le_refl _) (fun s _ => N_cg (f 79 s (by unfold CJ; omega)))
        exact ⟨hC, o1, h.2.2.1.mv S (fun a _ _ => r a (by omega) (by omega) (by omega) (by omega)), TabI.stale (by rw [← hw]; rfl), h.2.2.2.2.1.mv S (f 58 34 (by unfold CJ; omega)) (r 82 (by decide) (by decide) (by decide) (by decide)), o2, o3, o4⟩
/-! sort -/
theorem c_forgetThose {d : Nat} {w : Wd} (hS : SenI w) (h40 : ∀ s, s < 40 → w.1 40 s = 0 ∨ w.1 40 s = 1) (x : Int32) : EvV m_Finder_forgetThoseWith (d + 1) [.ref 36, .int (x)] w (fun w' => Of (fun a => a = 40) w w' ∧ (∀ s, s < 40 → w'.1 40 s = 0 ∨ w'.1 40 s = 1) ∧ ∀ s, s < cm w → w'.1 40 s = 0 → w.1 40 s = 0 ∧ ∀ p, p < len w s → ¬ nI (wrd w s p) = x) := by
  have hcm := hS.2.2.1.1
  refine ev_Finder_forgetThoseWith _ (vc_Finder_forgetThoseWith_0 _ ?_)
  have mvS : ∀ w', Of (fun a => a = 40) w w' → SenI w' ∧ cm w' = cm w ∧ (∀ s, len w' s = len w s) ∧ ∀ s p, wrd w' s p = wrd w s p := fun w' f => ⟨hS.mv (by rw [f.1 58 (by decide)]) (by rw [f.1 58 (by decide)]) (f.1 3 (by decide)) (f.1 4 (by decide)) (f.1 5 (by decide)) (f.1 6 (by decide)) (f.1 7 (by decide)) (f.1 78 (by decide)) (f.1 79 (by decide)) (f.1 80 (by decide)) (f.1 81 (by decide)), N_cg (by rw [f.1 58 (by decide)]), fun s => N_cg (by rw [f.1 79 (by decide)]), fun s p => N_cg (by rw [f.1 80 (by decide)])⟩
  refine lpU (I := fun s w' => Of (fun a => a = 40) w w' ∧ (∀ t, t < 40 → w'.1 40 t = 0 ∨ w'.1 40 t = 1) ∧ (∀ t, s ≤ t → w'.1 40 t = w.1 40 t) ∧ ∀ t, t < s → w'.1 40 t = 0 → w.1 40 t = 0 ∧ ∀ p, p < len w t → ¬ nI (wrd w t p) = x) (G := fun s w' => Z m_Finder_forgetThoseWith (d + 1) (qV _) 2 [(0, .ref 36), (1, .int (x)), (2, .int (nI s))] [] w') (M := cm w) ?_ ?_ 0 (Nat.zero_le _) w ⟨Of.rf, h40, fun _ _ => rfl, fun t ht => absurd ht (Nat.not_lt_zero _)⟩
  · rintro w1 ⟨i1, i2, -, i3⟩
    obtain ⟨S1, ec, -⟩ := mvS w1 i1
    refine vc_Finder_forgetThoseWith_2 _ _ ⟨_, c_came S1, ?_⟩
    rintro r w2 ⟨rfl, rfl⟩
    rw [ec]
    exact ⟨fun _ => ⟨i1, i2, i3⟩, fun g => absurd (mle (Nat.le_refl _)) g⟩
  · rintro s w1 hs ⟨i1, i2, i4, i3⟩ nx
    obtain ⟨S1, ec, el, ew⟩ := mvS w1 i1
    have hl16 := (hS.2.2.2.1 s hs).2.1
    refine vc_Finder_forgetThoseWith_2 _ _ ⟨_, c_came S1, ?_⟩
    rintro r w2 ⟨rfl, rfl⟩
    rw [ec]
    refine ⟨fun g => absurd (gle g) (by omega), fun _ => ⟨fun g => absurd (gle g) (by omega), fun _ => ?_⟩⟩
    refine lpU (I := fun p w' => Of (fun a => a = 40) w w' ∧ (∀ t, t < 40 → w'.1 40 t = 0 ∨ w'.1 40 t = 1) ∧ (∀ t, s < t → w'.1 40 t = w.1 40 t) ∧ (∀ t, t < s → w'.1 40 t = 0 → w.1 40 t = 0 ∧ ∀ p, p < len w t → ¬ nI (wrd w t p) = x) ∧ (w'.1 40 s = 0 → w.1 40 s = 0 ∧ ∀ p', p' < p → ¬ nI (wrd w s p') = x)) (G := fun p w' => Z m_Finder_forgetThoseWith (d + 1) (qV _) 21 [(0, .ref 36), (1, .int (x)), (2, .int (nI s)), (3, .int (nI p))] [] w') (M := len w s) ?_ ?_ 0 (Nat.zero_le _) w2 ⟨i1, i2, fun t ht => i4 t (by omega), i3, fun g => ⟨by rw [← i4 s (Nat.le_refl _)]; exact g, fun p' hp => absurd hp (Nat.not_lt_zero _)⟩⟩
    · rintro w3 ⟨j1, j2, j3, j4, j5⟩
      obtain ⟨S3, ec3, el3, ew3⟩ := mvS w3 j1
      refine vc_Finder_forgetThoseWith_21 _ _ _ ⟨_, c_Sentences_lengthOf S3 (by rw [ec3]; exact hs), ?_⟩
      rintro r w4 ⟨rfl, rfl⟩
      rw [el3, nI_add]
      refine ⟨fun _ => nx w4 ⟨j1, j2, fun t ht => j3 t (by omega), fun t ht g => ?_⟩, fun g => absurd (mle (Nat.le_refl _)) g⟩
      by_cases e : t = s
      · subst e; exact j5 g
      · exact j4 t (by omega) g
    · rintro p w3 hp ⟨j1, j2, j3, j4, j5⟩ np
      obtain ⟨S3, ec3, el3, ew3⟩ := mvS w3 j1
      refine vc_Finder_forgetThoseWith_21 _ _ _ ⟨_, c_Sentences_lengthOf S3 (by rw [ec3]; exact hs), ?_⟩
      rintro r w4 ⟨rfl, rfl⟩
      rw [el3, nI_add, nI_add]
      refine ⟨fun g => absurd (gle g) (by omega), fun _ => ⟨s, rfl, by omega, fun g => nx w4 ⟨j1, j2, fun t ht => j3 t (by omega), fun t ht g2 => ?_⟩, fun g => ⟨_, c_Sentences_wordAt S3 (by rw [ec3]; exact hs) (by rw [el3]; exact hp), ?_⟩⟩⟩
      · by_cases e : t = s
        · subst e; exact absurd g2 g
        · exact j4 t (by omega) g2
      · rintro r2 w5 ⟨rfl, rfl⟩
        rw [ew3]
        have put : ∀ v, (v = nI 0 ∧ ¬ nI (wrd w s p) = x) ∨ v = nI 1 → Z m_Finder_forgetThoseWith (d + 1) (qV (fun w' => Of (fun a => a = 40) w w' ∧ (∀ s, s < 40 → w'.1 40 s = 0 ∨ w'.1 40 s = 1) ∧ ∀ s, s < cm w → w'.1 40 s = 0 → w.1 40 s = 0 ∧ ∀ p, p < len w s → ¬ nI (wrd w s p) = x)) 21 [(0, .ref 36), (1, .int (x)), (2, .int (nI s)), (3, .int (nI (p + 1)))] [] (up1 w5 40 s v) := by
          intro v hv
          have at40 : ∀ t, t ≠ s → (up1 w5 40 s v).1 40 t = w5.1 40 t := fun t ht => by rw [up1_1, if_neg (fun e => ht e.2)]
          have s40 : (up1 w5 40 s v).1 40 s = v := by rw [up1_1, if_pos ⟨rfl, rfl⟩]
          refine np _ ⟨j1.tr (Of.up rfl), fun t ht => ?_, fun t ht => by rw [at40 t (by omega)]; exact j3 t ht, fun t ht g2 => j4 t ht (by rw [at40 t (by omega)] at g2; exact g2), fun g2 => ?_⟩
          · by_cases e : t = s
            · subst e
              rw [s40]
              rcases hv with ⟨e, -⟩ | e <;> rw [e]
              · exact Or.inl rfl
              · exact Or.inr rfl
            · rw [at40 t e]; exact j2 t ht
          · rw [s40] at g2
            rcases hv with ⟨-, hv⟩ | e
            · refine ⟨(j5 g).1, fun p' hp' => ?_⟩
              by_cases e : p' = p
              · subst e; exact hv
              · exact (j5 g).2 p' (by omega)
            · rw [e] at g2; exact absurd g2 (by decide)
        exact ⟨fun g2 => ⟨s, rfl, by omega, Or.inl rfl, put _ (Or.inl ⟨rfl, g2⟩)⟩, fun g2 => ⟨s, rfl, by omega, Or.inr rfl, put _ (Or.inr rfl)⟩⟩
def CS (a k : Nat) : Prop := a = 1 ∨ a = 76 ∨ a = 40 ∨ (a = 42 ∧ k = 6) ∨ (a = 58 ∧ (k = 0 ∨ k = 34))
theorem op_sort {w : Wd} (h : Inv w) (x y : Int32) : Op m_D_sort m_M_sort [.int x, .int y] w := by
  refine ev_D_sort x y (vc_D_sort_0 x y ⟨_, c_Lexicon_setSort (d := 28) x y, ?_⟩)
  rintro r w1 (⟨rfl, rfl, hno⟩ | ⟨rfl, k, j, k1, k2, rfl, hj, rfl, rfl⟩)
  · refine ⟨fun g => absurd rfl g, fun _ => ⟨Or.inl rfl, ?_⟩⟩
    refine (c_M_sort (d := 29) x y).imp ?_
    rintro r2 w2 (⟨rfl, rfl, -⟩ | ⟨-, a, b, g1, g2, rfl, g3, rfl, -⟩)
    · exact ⟨rfl, h.th _⟩
    · exact absurd ⟨isW_nI g1 g2, by rw [nI_toInt (by omega)]; omega, by rw [nI_toInt (by omega)]; omega⟩ hno
  · have hS1 : SenI (up1 w 1 k (nI j)) := h.1.2.1.mv rfl rfl rfl rfl rfl rfl rfl rfl rfl rfl rfl
    refine ⟨fun _ => ⟨_, c_forgetThose (d := 28) hS1 h.2.2.1.2.1 (nI k), ?_⟩, fun g => absurd g (by decide)⟩
    rintro w1 ⟨f1, g1, g2⟩
    refine ⟨_, c_Table_forget, ?_⟩
    rintro w3 rfl
    refine ⟨Or.inr rfl, (c_M_sort (d := 29) (nI k) (nI j)).imp ?_⟩
    rintro r2 w2 (⟨rfl, rfl, hno⟩ | ⟨rfl, k', j', c1, c2, e1, c3, e2, hw⟩)
    · exact absurd ⟨isW_nI k1 k2, by rw [nI_toInt (by omega)]; omega, by rw [nI_toInt (by omega)]; omega⟩ hno
    · have e1 := nI_inj (by omega) (by omega) e1
      subst e1
      refine ⟨rfl, ?_⟩
      have f : Sm CS w w2 := by
        rw [hw]
        refine ((((Sm.tr (w1 := up1 w 1 k (nI j)) (Sm.up (by unfold CS; omega)) (fun a i g => ?_)).tr (Sm.up (by unfold CS; omega))).tr (Sm.up (by unfold CS; omega))).tr (Sm.up (by unfold CS; omega))).tr (Sm.up (by unfold CS; omega))
        rw [f1.1 a (by unfold CS at g; omega)]
      have e2 : w2.2 = w.2 := by rw [hw]; exact f1.2
      have r : ∀ a, a ≠ 1 → a ≠ 76 → a ≠ 40 → a ≠ 42 → a ≠ 58 → w2.1 a = w.1 a := fun a g1 g2 g3 g4 g5 => funext fun j => f a j (by unfold CS; omega)
      have t1 : ∀ i, w2.1 1 i = if i = k then nI j else w.1 1 i := fun i => by
        rw [hw]
        show w1.1 1 i = _
        rw [f1.1 1 (by decide), up1_1]
        simp
      have t76 : ∀ i, w2.1 76 i = if i = k then nI j else w.1 76 i := fun i => by
        rw [hw]
        show (if 76 = 76 ∧ i = k then nI j else w1.1 76 i) = _
        rw [f1.1 76 (by decide)]
        show (if 76 = 76 ∧ i = k then nI j else w.1 76 i) = _
        simp
      have t40 : w2.1 40 = w1.1 40 := by rw [hw]; rfl
      have e10 : w2.1 58 10 = w.1 58 10 := f 58 10 (by unfold CS; omega)
      have e30 : w2.1 58 30 = w.1 58 30 := f 58 30 (by unfold CS; omega)
      have ecm : cm w2 = cm w := N_cg e30
      have e77 := r 77 (by decide) (by decide) (by decide) (by decide) (by decide)
      have el : ∀ s, len w2 s = len w s := fun s => N_cg (f 79 s (by unfold CS; omega))
      have ew : ∀ s p, wrd w2 s p = wrd w s p := fun s p => N_cg (f 80 _ (by unfold CS; omega))
      have hL : LexI w2 := by
        obtain ⟨q1, rk, q2⟩ := h.1.1
        have eJ : Jn w2 = Jn w := by funext i; unfold Jn; rw [e77]
        refine ⟨fun i i1 i2 => ?_, rk, by rw [eJ]; exact q2⟩
        obtain ⟨⟨s, u1, u2, u3⟩, u4⟩ := q1 i i1 i2
        rw [t1, t76, e77, r 2 (by decide) (by decide) (by decide) (by decide) (by decide)]
        refine ⟨?_, u4⟩
        by_cases e : i = k
        · rw [if_pos e, if_pos e]; exact ⟨j, hj, rfl, rfl⟩
        · rw [if_neg e, if_neg e]; exact ⟨s, u1, u2, u3⟩
      have hC : CtI w2 := ⟨hL, h.1.2.1.mv (f 58 28 (by unfold CS; omega)) e30 (r 3 (by decide) (by decide) (by decide) (by decide) (by decide)) (r 4 (by decide) (by decide) (by decide) (by decide) (by decide)) (r 5 (by decide) (by decide) (by decide) (by decide) (by decide)) (r 6 (by decide) (by decide) (by decide) (by decide) (by decide)) (r 7 (by decide) (by decide) (by decide) (by decide) (by decide)) (r 78 (by decide) (by decide) (by decide) (by decide) (by decide)) (r 79 (by decide) (by decide) (by decide) (by decide) (by decide)) (r 80 (by decide) (by decide) (by decide) (by decide) (by decide)) (r 81 (by decide) (by decide) (by decide) (by decide) (by decide)), h.1.2.2.mv e10 (f 25 0 (by unfold CS; omega)) (f 25 7 (by unfold CS; omega)) (f 25 9 (by unfold CS; omega)) (f 25 13 (by unfold CS; omega)) (fun a ha => r a (by omega) (by omega) (by omega) (by omega) (by omega))⟩
      obtain ⟨o1, o2, o3, o4⟩ := h.oth (f.sa (fun a k x => by unfold KO at x; unfold CS; omega)) (by rw [e2]) (by rw [ecm]; exact Nat.le_refl _) (fun s _ => el s)
      have hH : Hf w w2 := Hf.rows e10 (fun a h1 h2 => r a (by omega) (by omega) (by omega) (by omega) (by omega))
      refine ⟨hC, o1, h.2.2.1.mvS (fun a h1 h2 => r a (by omega) (by omega) (by omega) (by omega) (by omega)) (fun s hs => by rw [t40]; exact g1 s hs) (fun s hs g => ?_), TabI.stale (by rw [hw]; rfl), RefI.old (by rw [hw]; rfl), o2, o3, o4⟩
      rw [t40] at g
      rw [ecm] at hs
      obtain ⟨v1, v2⟩ := g2 s hs g
      refine ⟨hs, v1, fun r' l t => hH.FndE h.1.2.2 (el s) (fun p hp => ⟨ew s p, ?_⟩) (by rw [ecm]) (by show w2.1 81 s = 0 ↔ w.1 81 s = 0; rw [f 81 s (by unfold CS; omega)]) r' l t, hH.BrrE h.1.2.2 (el s) (fun p _ => ew s p), by show w2.1 81 s = 0 ↔ w.1 81 s = 0; rw [f 81 s (by unfold CS; omega)]⟩
      rw [t76, if_neg (show ¬ wrd w s p = k from fun e => v2 p hp (congrArg nI e))]
