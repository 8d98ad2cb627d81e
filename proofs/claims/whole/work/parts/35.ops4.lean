/-! take, feed, count -/
theorem c_M_isThere2 {d : Nat} {w : Wd} (h1 : cm w ≤ 40) (h2 : w.1 58 30 = nI (cm w)) (x : Int32) : EvI m_M_isThere d [.ref 58, .int (x)] w (fun r w' => w' = w ∧ Bo (isT w x) r) := by
  refine ev_M_isThere x (vc_M_isThere_0 x ?_)
  rw [h2]
  refine ⟨fun g => ⟨Or.inl rfl, rfl, Bo.f ?_⟩, fun g => ⟨fun g2 => ⟨Or.inl rfl, rfl, Bo.f ?_⟩, fun g2 => ?_⟩⟩
  · rintro ⟨s, a, rfl, -⟩
    exact nn0 s (by omega) g
  · rintro ⟨s, a, rfl, -⟩
    exact absurd (gle g2) (by omega)
  · rw [le_nI] at g2
    obtain ⟨s, -, rfl, e⟩ := i_nat (nlt0 g)
    refine ⟨s, rfl, by omega, fun g3 => ⟨Or.inl rfl, rfl, Bo.f ?_⟩, fun g3 => ⟨Or.inr rfl, rfl, Bo.t ⟨s, by omega, rfl, g3⟩⟩⟩
    rintro ⟨s', a, e', b⟩
    have := nI_inj (by omega) (by omega) e'
    subst this
    exact g3 b
theorem op_take {w : Wd} (h : Inv w) (x : Int32) : Op m_D_take m_M_take [.int x] w := by
  obtain ⟨s1, s2, ⟨s3, s3a, s3b⟩, s4, s5, s6, s7, s8⟩ := h.1.2.1
  refine ev_D_take x (vc_D_take_0 x ⟨_, ev_Sentences_remove x (vc_Sentences_remove_0 x (Q := fun r w' => (r = 0 ∧ w' = w ∧ ¬ isT w x) ∨ (r = 1 ∧ ∃ s, s < cm w ∧ x = nI s ∧ thr w s ∧ w' = up1 (up1 w 6 s (nI 0)) 3 6 (w.1 3 6 - nI 1))) ⟨_, c_Sentences_isThere (d := 28) h.1.2.1 x, ?_⟩), ?_⟩)
  · rintro r w1 ⟨rfl, hr⟩
    refine ⟨fun g => ?_, fun g => ⟨Or.inl rfl, Or.inl ⟨rfl, rfl, hr.z g⟩⟩⟩
    obtain ⟨s, a, e, b⟩ := hr.n g
    exact ⟨s, e, by omega, Or.inl rfl, Or.inr rfl, Or.inr ⟨rfl, s, a, e, b, rfl⟩⟩
  · rintro r w1 (⟨rfl, rfl, hno⟩ | ⟨rfl, s, hs, rfl, ht, rfl⟩)
    · refine ⟨fun g => absurd rfl g, fun _ => ⟨Or.inl rfl, ?_⟩⟩
      refine ev_M_take x (vc_M_take_0 x ⟨_, c_M_isThere2 (d := 29) (w := up1 w1 58 0 (nI 0)) s3 s3a x, ?_⟩)
      rintro r2 w2 ⟨rfl, hr2⟩
      exact ⟨fun g => absurd (hr2.n g) hno, fun _ => ⟨Or.inl rfl, rfl, h.th _⟩⟩
    · refine ⟨fun _ => ⟨_, c_Finder_forget (d := 29) (s := s) (by omega), ?_⟩, fun g => absurd g (by decide)⟩
      rintro w2 rfl
      refine ⟨_, c_Table_forget, ?_⟩
      rintro w2 rfl
      refine ⟨Or.inr rfl, ?_⟩
      refine ev_M_take _ (vc_M_take_0 _ ⟨_, c_M_isThere2 (d := 29) (w := up1 (up1 (up1 (up1 (up1 w 6 s (nI 0)) 3 6 (w.1 3 6 - nI 1)) 40 s (nI 1)) 42 6 (nI 1)) 58 0 (nI 0)) s3 s3a (nI s), ?_⟩)
      rintro r2 w1 ⟨rfl, hr2⟩
      refine ⟨fun _ => ⟨s, rfl, by omega, Or.inr rfl, Or.inr rfl, Or.inr rfl, rfl, ?_⟩, fun g => absurd ⟨s, hs, rfl, ht⟩ (hr2.z g)⟩
      generalize hw : up1 (up1 (up1 (up1 (up1 (up1 (up1 w 6 s (nI 0)) 3 6 (w.1 3 6 - nI 1)) 40 s (nI 1)) 42 6 (nI 1)) 58 0 (nI 0)) 81 s (nI 1)) 58 34 (nI 1) = w2
      have f : Sm CSe w w2 := by
        rw [← hw]
        exact ((((((Sm.up (by unfold CSe; omega)).tr (Sm.up (by unfold CSe; omega))).tr (Sm.up (by unfold CSe; omega))).tr (Sm.up (by unfold CSe; omega))).tr (Sm.up (by unfold CSe; omega))).tr (Sm.up (by unfold CSe; omega))).tr (Sm.up (by unfold CSe; omega))
      have e2 : w2.2 = w.2 := by rw [← hw]; rfl
      have t6 : ∀ i, w2.1 6 i = if i = s then nI 0 else w.1 6 i := fun i => by
        rw [← hw]
        show (if 6 = 6 ∧ i = s then nI 0 else w.1 6 i) = _
        simp
      have t81 : ∀ i, w2.1 81 i = if i = s then nI 1 else w.1 81 i := fun i => by
        rw [← hw]
        show (if 81 = 81 ∧ i = s then nI 1 else w.1 81 i) = _
        simp
      have t40 : ∀ i, w2.1 40 i = if i = s then nI 1 else w.1 40 i := fun i => by
        rw [← hw]
        show (if 40 = 40 ∧ i = s then nI 1 else w.1 40 i) = _
        simp
      have t36 : w2.1 3 6 = w.1 3 6 - nI 1 := by rw [← hw]; rfl
      have t34 : w2.1 3 4 = w.1 3 4 := by rw [← hw]; rfl
      have t35 : w2.1 3 5 = w.1 3 5 := by rw [← hw]; rfl
      have t28 : w2.1 58 28 = w.1 58 28 := by rw [← hw]; rfl
      have t30 : w2.1 58 30 = w.1 58 30 := by rw [← hw]; rfl
      have t79 : w2.1 79 = w.1 79 := by rw [← hw]; rfl
      have t80 : w2.1 80 = w.1 80 := by rw [← hw]; rfl
      have t4 : w2.1 4 = w.1 4 := by rw [← hw]; rfl
      have t5 : w2.1 5 = w.1 5 := by rw [← hw]; rfl
      have r : ∀ a, ¬ (3 ≤ a ∧ a ≤ 6) → a ≠ 40 → a ≠ 42 → a ≠ 58 → ¬ (79 ≤ a ∧ a ≤ 81) → w2.1 a = w.1 a := fun a g1 g2 g3 g4 g5 => funext fun j => f a j (by unfold CSe; omega)
      have e10 : w2.1 58 10 = w.1 58 10 := f 58 10 (by unfold CSe; omega)
      have ecm : cm w2 = cm w := N_cg t30
      have etd : td w2 = td w := N_cg t28
      have el : ∀ s, len w2 s = len w s := fun s => N_cg (by rw [t79])
      have ew : ∀ s p, wrd w2 s p = wrd w s p := fun s p => N_cg (by rw [t80])
      have hSen : SenI w2 := by
        unfold SenI
        rw [etd, ecm, t28, t30, t34, t35, t36, t79, t80, t4, t5, r 7 (by decide) (by decide) (by decide) (by decide) (by decide)]
        refine ⟨s1, fun p hp => ?_, ⟨s3, s3a, s3b⟩, fun s hs => by rw [el]; exact s4 s hs, fun s hs p hp => by rw [el] at hp; rw [ew]; exact s5 s hs p hp, fun i hi => ?_, fun i hi => ?_, ?_⟩
        · have e78 := r 78 (by decide) (by decide) (by decide) (by decide) (by decide)
          rw [show N w2 78 p = N w 78 p from N_cg (by rw [e78]), e78]
          exact s2 p hp
        · rw [t6, t81]
          by_cases e : i = s
          · rw [if_pos e, if_pos e]; exact Or.inr ⟨rfl, rfl⟩
          · rw [if_neg e, if_neg e]; exact s6 i hi
        · rw [t81, if_neg (by omega)]; exact s7 i hi
        · have e := ct_off (p := fun s => decide (w.1 81 s = 0)) (q := fun s => decide (w2.1 81 s = 0)) (i := s) (by rw [decide_eq_true_eq]; exact ht) (by rw [t81, if_pos rfl]; rfl) hs (fun k hk hne => by rw [t81, if_neg hne])
          rw [s8, ← e, sub_nI (by omega)]
          congr 1
      have hC : CtI w2 := ⟨h.1.1.mv (r 1 (by decide) (by decide) (by decide) (by decide) (by decide)) (r 2 (by decide) (by decide) (by decide) (by decide) (by decide)) (r 76 (by decide) (by decide) (by decide) (by decide) (by decide)) (r 77 (by decide) (by decide) (by decide) (by decide) (by decide)), hSen, h.1.2.2.mv e10 (f 25 0 (by unfold CSe; omega)) (f 25 7 (by unfold CSe; omega)) (f 25 9 (by unfold CSe; omega)) (f 25 13 (by unfold CSe; omega)) (fun a ha => r a (by omega) (by omega) (by omega) (by omega) (by omega))⟩
      obtain ⟨o1, o2, o3, o5⟩ := h.oth (f.sa (fun a k x => by unfold KO at x; unfold CSe; omega)) (by rw [e2]) (by rw [ecm]; exact Nat.le_refl _) (fun s hs => el s)
      have hH : Hf w w2 := Hf.rows e10 (fun a h1 h2 => r a (by omega) (by omega) (by omega) (by omega) (by omega))
      have e76 := r 76 (by decide) (by decide) (by decide) (by decide) (by decide)
      refine ⟨hC, o1, h.2.2.1.mvS (fun a h1 h2 => r a (by omega) (by omega) (by omega) (by omega) (by omega)) (fun i hi => ?_) (fun i hi g => ?_), TabI.stale (by rw [← hw]; rfl), RefI.old (by rw [← hw]; rfl), o2, o3, o5⟩
      · rw [t40]
        by_cases e : i = s
        · rw [if_pos e]; exact Or.inr rfl
        · rw [if_neg e]; exact h.2.2.1.2.1 i hi
      · rw [ecm] at hi
        rw [t40] at g
        have e : i ≠ s := fun e => by rw [if_pos e] at g; exact absurd g (by decide)
        rw [if_neg e] at g
        have ht' : thr w2 i ↔ thr w i := by show w2.1 81 i = 0 ↔ w.1 81 i = 0; rw [t81, if_neg e]
        exact ⟨hi, g, fun r' l t => hH.FndE h.1.2.2 (el i) (fun p hp => ⟨ew i p, by rw [e76]⟩) (by rw [ecm]) ht' r' l t, hH.BrrE h.1.2.2 (el i) (fun p hp => ew i p), ht'⟩
