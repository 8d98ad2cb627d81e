/-! sentence, take -/
def CSe (a k : Nat) : Prop := (3 ≤ a ∧ a ≤ 6) ∨ a = 40 ∨ (a = 42 ∧ k = 6) ∨ a = 79 ∨ a = 80 ∨ a = 81 ∨ (a = 58 ∧ (k = 0 ∨ k = 28 ∨ k = 30 ∨ k = 34))
theorem nI_eqn {a b : Nat} (h : nI a = nI b) (ha : a < 2147483648 := by omega) (hb : b < 2147483648 := by omega) : a = b := nI_inj ha hb h
theorem N_cg2' {w w' : Wd} {a b k k' : Nat} (h : w'.1 a k' = w.1 b k) : N w' a k' = N w b k := by unfold N; rw [h]
theorem c_M_copy {d n c : Nat} {w0 : Wd} {Q : Int32 → Wd → Prop} (hn : n ≤ 16) (hc : c < 40) (e28 : w0.1 58 28 = nI n) (e30 : w0.1 58 30 = nI c) (hq : ∀ w', Of (fun a => a = 80) w0 w' → (∀ i, w'.1 80 i = if 16 * c ≤ i ∧ i < 16 * c + n then w0.1 78 (i - 16 * c) else w0.1 80 i) → Q (nI c) (up1 (up1 (up1 (up1 w' 79 c (nI n)) 58 28 (nI 0)) 58 30 (nI (c + 1))) 58 34 (nI 1))) : Z m_M_sentence d (qI Q) 25 [(0, .ref 58), (1, .int (nI 0))] [] w0 := by
  refine lpU (I := fun k w' => Of (fun a => a = 80) w0 w' ∧ ∀ i, w'.1 80 i = if 16 * c ≤ i ∧ i < 16 * c + k then w0.1 78 (i - 16 * c) else w0.1 80 i) (G := fun k w' => Z m_M_sentence d (qI Q) 25 [(0, .ref 58), (1, .int (nI k))] [] w') (M := n) ?_ ?_ 0 (Nat.zero_le _) w0 ⟨Of.rf, fun i => by rw [if_neg (by omega)]⟩
  · rintro w1 ⟨i1, i2⟩
    refine vc_M_sentence_25 _ ?_
    rw [i1.1 58 (by decide), e28, e30, nI_add]
    refine ⟨fun _ => ⟨c, rfl, hc, Or.inr rfl, ?_⟩, fun g => absurd (mle (Nat.le_refl _)) g⟩
    rw [sub_nI (by omega), show c + 1 - 1 = c by omega]
    exact hq w1 i1 i2
  · rintro k w1 hk ⟨i1, i2⟩ nk
    refine vc_M_sentence_25 _ ?_
    rw [i1.1 58 (by decide), e28, e30]
    refine ⟨fun g => absurd (gle g) (by omega), fun _ => ⟨k, rfl, by omega, 16 * c + k, by rw [pk_mul, nI_add], by omega, ?_⟩⟩
    rw [nI_add]
    refine nk _ ⟨i1.tr (Of.up rfl), fun i => ?_⟩
    rw [up1_1, i1.1 78 (by decide)]
    by_cases e : i = 16 * c + k
    · rw [if_pos ⟨rfl, e⟩, if_pos (by omega), e, show 16 * c + k - 16 * c = k by omega]
    · rw [if_neg (fun x => e x.2), i2]
      by_cases e2 : 16 * c ≤ i ∧ i < 16 * c + k
      · rw [if_pos e2, if_pos (by omega)]
      · rw [if_neg e2, if_neg (by omega)]
theorem op_sentence {w : Wd} (h : Inv w) : Op m_D_sentence m_M_sentence [] w := by
  obtain ⟨⟨s1, s1a, s1b⟩, s2, ⟨s3, s3a, s3b⟩, s4, s5, s6, s7, s8⟩ := h.1.2.1
  have none : ∀ w', w' = w → (w.1 58 28 = 0 ∨ w.1 58 30 = nI 40) → EvI m_M_sentence 30 [.ref 58] w' (fun r2 w2 => r2 = -nI 1 ∧ Inv w2) := by
    rintro w' rfl g
    refine ev_M_sentence (vc_M_sentence_0 ⟨fun _ => ⟨rfl, h.th _⟩, fun g1 => ⟨fun g2 => ?_, fun _ => ⟨rfl, h.th _⟩⟩⟩)
    exact absurd g (fun e => e.elim g1 g2)
  refine ev_D_sentence (vc_D_sentence_0 ⟨_, ev_Sentences_close (vc_Sentences_close_0 (Q := fun r w' => (r = -nI 1 ∧ w' = w ∧ (w.1 58 28 = 0 ∨ w.1 58 30 = nI 40)) ∨ (0 < td w ∧ cm w < 40 ∧ r = nI (cm w) ∧ w' = up1 (up1 (up1 (up1 (up1 (upA w 4 (va_cpy (w.1 7) (w.1 4) 0 (cm w * 16) (td w))) 5 (cm w) (w.1 3 4)) 6 (cm w) (nI 1)) 3 4 (nI 0)) 3 5 ((w.1 3 5) + (nI 1))) 3 6 ((w.1 3 6) + (nI 1)))) ⟨fun g => Or.inl ⟨rfl, rfl, Or.inl ?_⟩, fun g => ⟨fun g2 => ?_, fun g2 => Or.inl ⟨rfl, rfl, Or.inr ?_⟩⟩⟩), ?_⟩)
  · rw [s1a, ← s1b]; exact g
  · rw [s3b] at g2 ⊢
    rw [s1b] at g
    have hc := glt g2
    have hn : 0 < td w := Nat.pos_of_ne_zero (fun e => g (by rw [e]; rfl))
    exact ⟨0, cm w * 16, td w, rfl, pk_mul _ _, s1b, by omega, by omega, cm w, rfl, hc, cm w, rfl, hc, Or.inr rfl, Or.inr ⟨hn, hc, rfl, rfl⟩⟩
  · rw [s3b] at g2
    have := nglt g2
    rw [s3a, show cm w = 40 by omega]
  · rintro r w1 (⟨rfl, rfl, hg⟩ | ⟨hn, hc, rfl, hw1⟩)
    · exact ⟨fun _ => none w1 rfl hg, fun g => absurd rfl g⟩
    · refine ⟨fun g => absurd g (m1_ne _ (by omega)), fun _ => ⟨_, c_Finder_forget (d := 29) hc, ?_⟩⟩
      rintro w2 rfl
      refine ⟨_, c_Table_forget, ?_⟩
      rintro w2 rfl
      have z28 : w1.1 58 28 = nI (td w) := by rw [hw1]; exact s1a
      have z30 : w1.1 58 30 = nI (cm w) := by rw [hw1]; exact s3a
      have z78 : w1.1 78 = w.1 78 := by rw [hw1]; rfl
      have z80 : w1.1 80 = w.1 80 := by rw [hw1]; rfl
      refine ev_M_sentence (vc_M_sentence_0 ⟨fun g => ?_, fun _ => ⟨fun _ => ?_, fun g => ?_⟩⟩)
      · have g : w1.1 58 28 = nI 0 := g
        rw [z28] at g
        have := nI_eqn g
        omega
      · refine c_M_copy (n := td w) (c := cm w) s1 hc z28 z30 ?_
        intro w3 f3 t80
        refine ⟨rfl, ?_⟩
        have t80 : ∀ i, w3.1 80 i = if 16 * cm w ≤ i ∧ i < 16 * cm w + td w then w.1 78 (i - 16 * cm w) else w.1 80 i := fun i => by
          rw [t80]
          show (if _ then w1.1 78 _ else w1.1 80 i) = _
          rw [z78, z80]
        generalize hw : up1 (up1 (up1 (up1 w3 79 (cm w) (nI (td w))) 58 28 (nI 0)) 58 30 (nI (cm w + 1))) 58 34 (nI 1) = w2
        have f : Sm CSe w w2 := by
          intro a i g
          have e1 : w2.1 a i = w3.1 a i := by
            rw [← hw]
            exact ((((Sm.up (Ch := CSe) (by unfold CSe; omega)).tr (Sm.up (by unfold CSe; omega))).tr (Sm.up (by unfold CSe; omega))).tr (Sm.up (by unfold CSe; omega))) a i g
          have e2 : w3.1 a i = (up1 (up1 (up1 w1 40 (cm w) (nI 1)) 42 6 (nI 1)) 58 0 (nI 0)).1 a i := by rw [f3.1 a (by unfold CSe at g; omega)]
          have e3 : (up1 (up1 (up1 w1 40 (cm w) (nI 1)) 42 6 (nI 1)) 58 0 (nI 0)).1 a i = w1.1 a i := (((Sm.up (Ch := CSe) (by unfold CSe; omega)).tr (Sm.up (by unfold CSe; omega))).tr (Sm.up (by unfold CSe; omega))) a i g
          have e4 : w1.1 a i = (upA w 4 (va_cpy (w.1 7) (w.1 4) 0 (cm w * 16) (td w))).1 a i := by
            rw [hw1]
            exact (((((Sm.up (Ch := CSe) (by unfold CSe; omega)).tr (Sm.up (by unfold CSe; omega))).tr (Sm.up (by unfold CSe; omega))).tr (Sm.up (by unfold CSe; omega))).tr (Sm.up (by unfold CSe; omega))) a i g
          rw [e1, e2, e3, e4, upA_1, if_neg (by unfold CSe at g; omega)]
        have t4 : ∀ i, w2.1 4 i = if 16 * cm w ≤ i ∧ i < 16 * cm w + td w then w.1 7 (i - 16 * cm w) else w.1 4 i := fun i => by
          have : w2.1 4 i = w3.1 4 i := by rw [← hw]; rfl
          rw [this, f3.1 4 (by decide)]
          have : (up1 (up1 (up1 w1 40 (cm w) (nI 1)) 42 6 (nI 1)) 58 0 (nI 0)).1 4 i = va_cpy (w.1 7) (w.1 4) 0 (cm w * 16) (td w) i := by rw [hw1]; rfl
          rw [this]
          unfold va_cpy
          rw [Nat.mul_comm, Nat.zero_add]
        have t80' : ∀ i, w2.1 80 i = if 16 * cm w ≤ i ∧ i < 16 * cm w + td w then w.1 78 (i - 16 * cm w) else w.1 80 i := fun i => by
          rw [← t80, ← hw]; rfl
        have t5 : ∀ i, w2.1 5 i = if i = cm w then nI (td w) else w.1 5 i := fun i => by
          have : w2.1 5 i = w3.1 5 i := by rw [← hw]; rfl
          rw [this, f3.1 5 (by decide)]
          have : (up1 (up1 (up1 w1 40 (cm w) (nI 1)) 42 6 (nI 1)) 58 0 (nI 0)).1 5 i = if 5 = 5 ∧ i = cm w then w.1 3 4 else w.1 5 i := by rw [hw1]; rfl
          rw [this, s1b]
          simp
        have t6 : ∀ i, w2.1 6 i = if i = cm w then nI 1 else w.1 6 i := fun i => by
          have : w2.1 6 i = w3.1 6 i := by rw [← hw]; rfl
          rw [this, f3.1 6 (by decide)]
          have : (up1 (up1 (up1 w1 40 (cm w) (nI 1)) 42 6 (nI 1)) 58 0 (nI 0)).1 6 i = if 6 = 6 ∧ i = cm w then nI 1 else w.1 6 i := by rw [hw1]; rfl
          rw [this]
          simp
        have t79 : ∀ i, w2.1 79 i = if i = cm w then nI (td w) else w.1 79 i := fun i => by
          have : w2.1 79 i = if 79 = 79 ∧ i = cm w then nI (td w) else w3.1 79 i := by rw [← hw]; rfl
          rw [this, f3.1 79 (by decide)]
          have : (up1 (up1 (up1 w1 40 (cm w) (nI 1)) 42 6 (nI 1)) 58 0 (nI 0)).1 79 i = w.1 79 i := by rw [hw1]; rfl
          rw [this]
          simp
        have t40 : ∀ i, w2.1 40 i = if i = cm w then nI 1 else w.1 40 i := fun i => by
          have : w2.1 40 i = w3.1 40 i := by rw [← hw]; rfl
          rw [this, f3.1 40 (by decide)]
          have : (up1 (up1 (up1 w1 40 (cm w) (nI 1)) 42 6 (nI 1)) 58 0 (nI 0)).1 40 i = if 40 = 40 ∧ i = cm w then nI 1 else w.1 40 i := by rw [hw1]; rfl
          rw [this]
          simp
        have t81 : ∀ i, w2.1 81 i = w.1 81 i := fun i => by
          have : w2.1 81 i = w3.1 81 i := by rw [← hw]; rfl
          rw [this, f3.1 81 (by decide)]
          rw [hw1]; rfl
        have g3 : ∀ k, w3.1 3 k = w1.1 3 k := fun k => by rw [f3.1 3 (by decide)]; rfl
        have t34 : w2.1 3 4 = nI 0 := by
          have : w2.1 3 4 = w3.1 3 4 := by rw [← hw]; rfl
          rw [this, g3, hw1]; rfl
        have t35 : w2.1 3 5 = nI (cm w + 1) := by
          have : w2.1 3 5 = w3.1 3 5 := by rw [← hw]; rfl
          rw [this, g3, hw1, ← nI_add, ← s3b]; rfl
        have t36 : w2.1 3 6 = w.1 3 6 + nI 1 := by
          have : w2.1 3 6 = w3.1 3 6 := by rw [← hw]; rfl
          rw [this, g3, hw1]; rfl
        have t28 : w2.1 58 28 = nI 0 := by rw [← hw]; rfl
        have t30 : w2.1 58 30 = nI (cm w + 1) := by rw [← hw]; rfl
        have e2 : w2.2 = w.2 := by
          have : w2.2 = w3.2 := by rw [← hw]; rfl
          rw [this, f3.2, hw1]; rfl
        have r : ∀ a, ¬ (3 ≤ a ∧ a ≤ 6) → a ≠ 40 → a ≠ 42 → a ≠ 58 → ¬ (79 ≤ a ∧ a ≤ 81) → w2.1 a = w.1 a := fun a g1 g2 g3 g4 g5 => funext fun j => f a j (by unfold CSe; omega)
        have etd : td w2 = 0 := N_of t28
        have ecm : cm w2 = cm w + 1 := N_of t30
        have el : ∀ s, s ≠ cm w → len w2 s = len w s := fun s hs => N_cg (by rw [t79, if_neg hs])
        have elc : len w2 (cm w) = td w := N_of (by rw [t79, if_pos rfl])
        have o80 : ∀ s, s < cm w → ∀ p, p < 16 → w2.1 80 (16 * s + p) = w.1 80 (16 * s + p) := fun s hs p hp => by rw [t80', if_neg (by omega)]
        have o4 : ∀ s, s < cm w → ∀ p, p < 16 → w2.1 4 (16 * s + p) = w.1 4 (16 * s + p) := fun s hs p hp => by rw [t4, if_neg (by omega)]
        have ew : ∀ s, s < cm w → ∀ p, p < 16 → wrd w2 s p = wrd w s p := fun s hs p hp => N_cg (o80 s hs p hp)
        have hSen : SenI w2 := by
          unfold SenI
          rw [etd, ecm, t28, t30, t34, t35, t36]
          refine ⟨⟨by omega, rfl, rfl⟩, fun p hp => absurd hp (Nat.not_lt_zero _), ⟨by omega, rfl, rfl⟩, fun s hs => ?_, fun s hs p hp => ?_, fun s hs => ?_, fun s hs => ?_, ?_⟩
          · by_cases e : s = cm w
            · subst e
              rw [elc, t79, t5, if_pos rfl, if_pos rfl]
              exact ⟨hn, s1, rfl, rfl⟩
            · rw [el s e, t79, t5, if_neg e, if_neg e]
              exact s4 s (by omega)
          · by_cases e : s = cm w
            · subst e
              rw [elc] at hp
              have q := s2 p hp
              have x80 : w2.1 80 (16 * cm w + p) = w.1 78 p := by rw [t80', if_pos (by omega), show 16 * cm w + p - 16 * cm w = p by omega]
              rw [show wrd w2 (cm w) p = N w 78 p from N_cg2' x80, x80, t4, if_pos (by omega), show 16 * cm w + p - 16 * cm w = p by omega]
              exact q
            · have hp' := hp
              rw [el s e] at hp'
              have l16 := (s4 s (by omega)).2.1
              rw [ew s (by omega) p (by omega), o80 s (by omega) p (by omega), o4 s (by omega) p (by omega)]
              exact s5 s (by omega) p hp'
          · rw [t81, t6]
            by_cases e : s = cm w
            · rw [if_pos e]; exact Or.inl ⟨s7 s (by omega), rfl⟩
            · rw [if_neg e]; exact s6 s (by omega)
          · rw [t81]; exact s7 s (by omega)
          · have eq : ct (fun s => decide (w2.1 81 s = 0)) (cm w + 1) = ct (fun s => decide (w.1 81 s = 0)) (cm w) + 1 := by
              rw [show (fun s => decide (w2.1 81 s = 0)) = (fun s => decide (w.1 81 s = 0)) by funext s; rw [t81]]
              exact ct_succ_t (by rw [decide_eq_true_eq]; exact s7 _ (Nat.le_refl _))
            rw [eq, s8, nI_add]
        have e10 : w2.1 58 10 = w.1 58 10 := f 58 10 (by unfold CSe; omega)
        have hC : CtI w2 := ⟨h.1.1.mv (r 1 (by decide) (by decide) (by decide) (by decide) (by decide)) (r 2 (by decide) (by decide) (by decide) (by decide) (by decide)) (r 76 (by decide) (by decide) (by decide) (by decide) (by decide)) (r 77 (by decide) (by decide) (by decide) (by decide) (by decide)), hSen, h.1.2.2.mv e10 (f 25 0 (by unfold CSe; omega)) (f 25 7 (by unfold CSe; omega)) (f 25 9 (by unfold CSe; omega)) (f 25 13 (by unfold CSe; omega)) (fun a ha => r a (by omega) (by omega) (by omega) (by omega) (by omega))⟩
        obtain ⟨o1, o2, o3, o5⟩ := h.oth (f.sa (fun a k x => by unfold KO at x; unfold CSe; omega)) (by rw [e2]) (by rw [ecm]; omega) (fun s hs => el s (by omega))
        have hH : Hf w w2 := Hf.rows e10 (fun a h1 h2 => r a (by omega) (by omega) (by omega) (by omega) (by omega))
        have e76 := r 76 (by decide) (by decide) (by decide) (by decide) (by decide)
        refine ⟨hC, o1, h.2.2.1.mvS (fun a h1 h2 => r a (by omega) (by omega) (by omega) (by omega) (by omega)) (fun s hs => ?_) (fun s hs g => ?_), TabI.stale ?_, RefI.old (by rw [← hw]; rfl), o2, o3, o5⟩
        · rw [t40]
          by_cases e : s = cm w
          · rw [if_pos e]; exact Or.inr rfl
          · rw [if_neg e]; exact h.2.2.1.2.1 s hs
        · rw [ecm] at hs
          rw [t40] at g
          have e : s ≠ cm w := fun e => by rw [if_pos e] at g; exact absurd g (by decide)
          rw [if_neg e] at g
          have hs' : s < cm w := by omega
          have l16 := (s4 s hs').2.1
          have ht : thr w2 s ↔ thr w s := by show w2.1 81 s = 0 ↔ w.1 81 s = 0; rw [t81]
          exact ⟨hs', g, fun r' l t => hH.FndE h.1.2.2 (el s e) (fun p hp => ⟨ew s hs' p (by omega), by rw [e76]⟩) (by rw [ecm]; omega) ht r' l t, hH.BrrE h.1.2.2 (el s e) (fun p hp => ew s hs' p (by omega)), ht⟩
        · have : w2.1 42 6 = w3.1 42 6 := by rw [← hw]; rfl
          rw [this, f3.1 42 (by decide)]; rfl
      · have g : w1.1 58 30 = nI 40 := g
        rw [z30] at g
        have := nI_eqn g
        omega
