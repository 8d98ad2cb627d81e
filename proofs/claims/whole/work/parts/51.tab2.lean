/-! THE TABLE: rows told by sentences -/
def BsN (w : Wd) (c : Nat) : Nat → Nat → Nat → Prop := fun r a b => ∃ j, j < c ∧ fN w j = true ∧ ¬ Brr w (j / 3072) ∧ rl w (j / 256 % 12) = r ∧ nmOf w (wrd w (j / 3072) (j / 16 % 16)) = a ∧ nmOf w (wrd w (j / 3072) (j % 16)) = b
theorem BsN_all {w : Wd} (hC : CtI w) : BsN w 122880 = Bs w := by
  funext r a b
  apply propext
  constructor
  · rintro ⟨j, -, h1, h2, h3, h4, h5⟩
    exact ⟨_, _, _, _, (fN_iff w j).mp h1, h2, h3, h4, h5⟩
  · rintro ⟨s, k, l, t, h1, h2, h3, h4, h5⟩
    have g1 := h1.1
    have g2 := h1.2.2.1
    have g3 := h1.2.2.2.1
    have g4 := h1.2.2.2.2.1
    have hcm := hC.2.1.2.2.1.1
    have hnr := hC.2.2.2.1.1
    have e1 : (256 * (12 * s + k) + 16 * l + t) / 3072 = s := by omega
    have e2 : (256 * (12 * s + k) + 16 * l + t) / 256 % 12 = k := by omega
    have e3 : (256 * (12 * s + k) + 16 * l + t) / 16 % 16 = l := by omega
    have e4 : (256 * (12 * s + k) + 16 * l + t) % 16 = t := by omega
    exact ⟨256 * (12 * s + k) + 16 * l + t, by omega, (fN_at w (by omega) g3 g4).mpr h1, by rw [e1]; exact h2, by rw [e2]; exact h3, by rw [e1, e3]; exact h4, by rw [e1, e4]; exact h5⟩
theorem BsN_skip {w : Wd} {c c' : Nat} (h : c ≤ c') (hn : ∀ j, c ≤ j → j < c' → fN w j = true → Brr w (j / 3072)) : BsN w c' = BsN w c := by
  funext r a b
  apply propext
  constructor
  · rintro ⟨j, h1, h2, h3, h4⟩
    refine ⟨j, ?_, h2, h3, h4⟩
    rcases Nat.lt_or_ge j c with g | g
    · exact g
    · exact absurd (hn j g h1 h2) h3
  · rintro ⟨j, h1, h2⟩
    exact ⟨j, by omega, h2⟩
theorem BsN_add {w : Wd} {j : Nat} (h1 : fN w j = true) (h2 : ¬ Brr w (j / 3072)) : BsN w (j + 1) = Ad (BsN w j) (rl w (j / 256 % 12)) (nmOf w (wrd w (j / 3072) (j / 16 % 16))) (nmOf w (wrd w (j / 3072) (j % 16))) := by
  funext r a b
  apply propext
  constructor
  · rintro ⟨j', g1, g2, g3, g4, g5, g6⟩
    by_cases e : j' = j
    · subst e
      exact Or.inr ⟨g4.symm, g5.symm, g6.symm⟩
    · exact Or.inl ⟨j', by omega, g2, g3, g4, g5, g6⟩
  · rintro (⟨j', g1, g2⟩ | ⟨rfl, rfl, rfl⟩)
    · exact ⟨j', by omega, g2⟩
    · exact ⟨j, by omega, h1, h2, rfl, rfl, rfl⟩
theorem c_nameAt {d : Nat} {w : Wd} (hC : CtI w) {s p : Nat} (hs : s < cm w) (hp : p < len w s) : EvI m_Table_nameAt (d + 2) [.ref 42, .int (nI s), .int (nI p)] w (fun r w' => w' = w ∧ r = nI (nmOf w (wrd w s p))) := by
  refine ev_Table_nameAt _ _ (vc_Table_nameAt_0 _ _ ⟨_, c_Sentences_wordAt (d := d + 1) hC.2.1 hs hp, ?_⟩)
  rintro r w1 ⟨rfl, rfl⟩
  refine ⟨_, c_Lexicon_nameOf (d := d) hC.1 _, ?_⟩
  obtain ⟨v1, v2, -⟩ := hC.2.1.2.2.2.2.1 s hs p hp
  rintro r w2 ⟨rfl, (⟨g, -⟩ | ⟨k, k1, k2, e, rfl⟩)⟩
  · exact absurd (isW_nI v1 v2) g
  · rw [nI_inj (by omega) (by omega) e]
    exact ⟨rfl, rfl⟩
theorem c_addFinds {d : Nat} {w0 : Wd} (hF : FF w0) {s : Nat} (hs : s < cm w0) (hb : ¬ (thr w0 s ∧ Brr w0 s)) {w : Wd} (hw : F2 w0 w) (hT : TbI (BsN w0 (3072 * s)) w) : EvV m_Table_addFindsOf (d + 3) [.ref 42, .int (nI s)] w (fun w' => F2 w0 w' ∧ TbI (BsN w0 (3072 * (s + 1))) w') := by
  have hC := hF.1
  have hcm := hC.2.1.2.2.1.1
  have n12 := hC.2.2.2.1.1
  refine ev_Table_addFindsOf _ (vc_Table_addFindsOf_0 _ ?_)
  refine lpU (I := fun k w' => F2 w0 w' ∧ TbI (BsN w0 (256 * (12 * s + k))) w') (G := fun k w' => Z m_Table_addFindsOf (d + 3) (qV (fun w' => F2 w0 w' ∧ TbI (BsN w0 (3072 * (s + 1))) w')) 2 [(0, .ref 42), (1, .int (nI s)), (2, .int (nI k))] [] w') (M := nr w0) ?_ ?_ 0 (Nat.zero_le _) _ ⟨hw, by rw [show 256 * (12 * s + 0) = 3072 * s by omega]; exact hT⟩
  · rintro ⟨p, q⟩ ⟨h1, h2⟩
    have e1 : p = w0.1 := h1.1
    subst e1
    refine vc_Table_addFindsOf_2 _ _ ⟨_, c_Book_rules (d := d + 2) (hC.w2 q).2.2, ?_⟩
    rintro r w1 ⟨rfl, rfl⟩
    refine ⟨fun _ => ⟨h1, ?_⟩, fun g => absurd (mle (Nat.le_refl (nr w0))) g⟩
    rw [BsN_skip (c := 256 * (12 * s + nr w0)) (by omega)]
    · exact h2
    · intro j g1 g2 g3
      have := ((fN_iff w0 j).mp g3).2.2.1
      omega
  · rintro k ⟨p, q⟩ hk ⟨h1, h2⟩ nk
    have e1 : p = w0.1 := h1.1
    subst e1
    refine vc_Table_addFindsOf_2 _ _ ⟨_, c_Book_rules (d := d + 2) (hC.w2 q).2.2, ?_⟩
    rintro r w1 ⟨rfl, rfl⟩
    refine ⟨fun g => absurd (gle (a := nr w0) g) (by omega), fun _ => ?_⟩
    refine lpU (I := fun l w' => F2 w0 w' ∧ TbI (BsN w0 (256 * (12 * s + k) + 16 * l)) w') (G := fun l w' => Z m_Table_addFindsOf (d + 3) (qV (fun w' => F2 w0 w' ∧ TbI (BsN w0 (3072 * (s + 1))) w')) 15 [(0, .ref 42), (1, .int (nI s)), (2, .int (nI k)), (3, .int (nI l))] [] w') (M := 16) ?_ ?_ 0 (Nat.zero_le _) _ ⟨h1, h2⟩
    · rintro w1 ⟨g1, g2⟩
      refine vc_Table_addFindsOf_15 _ _ _ ⟨fun _ => ?_, fun g => absurd (mle (Nat.le_refl _)) g⟩
      rw [nI_add]
      exact nk _ ⟨g1, by rw [show 256 * (12 * s + (k + 1)) = 256 * (12 * s + k) + 16 * 16 by omega]; exact g2⟩
    · rintro l ⟨p, q⟩ hl16 ⟨h1, h2⟩ nl
      have e1 : p = w0.1 := h1.1
      subst e1
      refine vc_Table_addFindsOf_15 _ _ _ ⟨fun g => absurd (gle g) (by omega), fun _ => ⟨_, c_rightPlaces (d := d + 2) (s := s) (k := k) (l := l) (by omega) (by omega) hl16, ?_⟩⟩
      rintro r w1 ⟨rfl, rfl⟩
      have hR := (hF.rgt hs).1 k (by omega) l hl16
      obtain ⟨c65, ec⟩ : rb w0 s k l < 65536 ∧ w0.1 37 ((s * 12 + k) * 16 + l) = nI (rb w0 s k l) := (hF.2.1.1 s (by omega) k (by omega)).1 l hl16
      rw [show (w0.1, q).1 37 ((s * 12 + k) * 16 + l) = w0.1 37 ((s * 12 + k) * 16 + l) from rfl, ec]
      have hR' : ∀ t, t < 16 → ((rb w0 s k l).testBit t = true ↔ fN w0 (256 * (12 * s + k) + 16 * l + t) = true) := fun t ht => by rw [hR, fN_at w0 (by omega) hl16 ht]
      refine lpU (I := fun t w' => F2 w0 w' ∧ TbI (BsN w0 (256 * (12 * s + k) + 16 * l + t)) w') (G := fun t w' => Z m_Table_addFindsOf (d + 3) (qV (fun w' => F2 w0 w' ∧ TbI (BsN w0 (3072 * (s + 1))) w')) 36 [(0, .ref 42), (1, .int (nI s)), (2, .int (nI k)), (3, .int (nI l)), (4, .int (nI (rb w0 s k l))), (5, .int (nI t))] [] w') (M := 16) ?_ ?_ 0 (Nat.zero_le _) _ ⟨h1, h2⟩
      · rintro w1 ⟨g1, g2⟩
        refine vc_Table_addFindsOf_36 _ _ _ _ _ ⟨fun _ => ?_, fun g => absurd (mle (Nat.le_refl _)) g⟩
        rw [nI_add]
        exact nl _ ⟨g1, g2⟩
      · rintro t ⟨p, q⟩ ht16 ⟨h1, h2⟩ nt
        have e1 : p = w0.1 := h1.1
        subst e1
        have hj1 : (256 * (12 * s + k) + 16 * l + t) / 3072 = s := by omega
        have hj2 : (256 * (12 * s + k) + 16 * l + t) / 256 % 12 = k := by omega
        have hj3 : (256 * (12 * s + k) + 16 * l + t) / 16 % 16 = l := by omega
        have hj4 : (256 * (12 * s + k) + 16 * l + t) % 16 = t := by omega
        refine vc_Table_addFindsOf_36 _ _ _ _ _ ⟨fun g => absurd (gle g) (by omega), fun _ => ⟨fun g => ?_, fun _ => ?_⟩⟩
        · have g := nI_inj (b := 0) (by omega) (by omega) g
          rw [nI_add]
          refine nl _ ⟨h1, ?_⟩
          rw [BsN_skip (c := 256 * (12 * s + k) + 16 * l + t) (by omega)]
          · exact h2
          · intro j g1 g2 g3
            have := (hR' (j - (256 * (12 * s + k) + 16 * l)) (by omega)).mpr (by rw [show 256 * (12 * s + k) + 16 * l + (j - (256 * (12 * s + k) + 16 * l)) = j by omega]; exact g3)
            rw [g, Nat.zero_testBit] at this
            exact absurd this (by decide)
        · rw [bit_nI (by omega) (by omega), nI_add]
          refine ⟨fun g => ?_, fun g => ?_⟩
          · refine nt _ ⟨h1, ?_⟩
            rw [← Nat.add_assoc, BsN_skip (c := 256 * (12 * s + k) + 16 * l + t) (by omega)]
            · exact h2
            · intro j g1 g2 g3
              have : j = 256 * (12 * s + k) + 16 * l + t := by omega
              rw [this] at g3
              exact absurd ((hR' t ht16).mpr g3) g
          · have g : (rb w0 s k l).testBit t = true := Classical.byContradiction g
            have hf := (hR t).mp g
            obtain ⟨i1, i2, i3, i4⟩ := hf.in hC
            refine ⟨_, c_Book_relationOf (d := d + 1) (hC.w2 q).2.2 (r := k) hk, ?_⟩
            rintro r w1 ⟨rfl, rfl⟩
            refine ⟨_, c_nameAt (d := d) (hC.w2 q) (s := s) (p := l) hs i3, ?_⟩
            rintro r w1 ⟨rfl, rfl⟩
            refine ⟨_, c_nameAt (d := d) (hC.w2 q) (s := s) (p := t) hs i4, ?_⟩
            rintro r w1 ⟨rfl, rfl⟩
            obtain ⟨u1, u2, -⟩ := hC.2.1.2.2.2.2.1 s hs l i3
            obtain ⟨v1, v2, -⟩ := hC.2.1.2.2.2.2.1 s hs t i4
            have n1 := nm_ok hC.1 u1 u2
            have n2 := nm_ok hC.1 v1 v2
            refine ⟨_, c_addRow (d := d + 1) h2 (hC.2.2.2.2.1 k hk).1.1 n1.1 n1.2 n2.1 n2.2, ?_⟩
            rintro w2 ⟨k1, k2⟩
            refine nt _ ⟨h1.tr k1, ?_⟩
            have e := BsN_add (w := w0) (j := 256 * (12 * s + k) + 16 * l + t) ((hR' t ht16).mp g) (by rw [hj1]; exact fun x => hb ⟨hf.2.1, x⟩)
            rw [hj1, hj2, hj3, hj4] at e
            rw [← Nat.add_assoc, e]
            exact k2
theorem c_fill {d : Nat} {w : Wd} : EvV m_Arrays_fill d [.ref 43, .long (lN 0)] w (fun w' => F2 w w' ∧ (∀ k, k < 1010 → w'.2 43 k = lN 0) ∧ w'.2 44 = w.2 44) := by
  refine ev_Arrays_fill _ (vc_Arrays_fill_0 _ ?_)
  refine lpU (I := fun k w' => F2 w w' ∧ (∀ j, j < k → w'.2 43 j = lN 0) ∧ w'.2 44 = w.2 44) (G := fun k w' => Z m_Arrays_fill d (qV (fun w' => F2 w w' ∧ (∀ k, k < 1010 → w'.2 43 k = lN 0) ∧ w'.2 44 = w.2 44)) 6 [(0, .ref 43), (1, .long (lN 0)), (3, .int (nI k)), (4, .int (nI 1010))] [] w') (M := 1010) ?_ ?_ 0 (Nat.zero_le _) _ ⟨F2.rf, fun j hj => absurd hj (Nat.not_lt_zero _), rfl⟩
  · rintro w1 h
    exact vc_Arrays_fill_6 _ _ _ ⟨fun _ => h, fun g => absurd (mle (Nat.le_refl _)) g⟩
  · rintro k w1 hk ⟨h1, h2, h3⟩ nx
    refine vc_Arrays_fill_6 _ _ _ ⟨fun g => absurd (gle g) (by omega), fun _ => ⟨k, rfl, hk, ?_⟩⟩
    rw [nI_add]
    refine nx _ ⟨h1.tr (F2.up (Or.inl rfl)), fun j hj => ?_, ?_⟩
    · rw [up2_2]
      by_cases e : j = k
      · rw [if_pos ⟨rfl, e⟩]
      · rw [if_neg (fun x => e x.2)]; exact h2 j (by omega)
    · funext j
      rw [up2_2, if_neg (by omega), h3]
theorem c_fill_h {d : Nat} {w : Wd} : EvV m_Arrays_fill d [.ref 44, .long (lN 0)] w (fun w' => F2 w w' ∧ (∀ k, k < 1010 → w'.2 44 k = lN 0) ∧ w'.2 43 = w.2 43) := by
  refine ev_Arrays_fill_h _ (vc_Arrays_fill_h_0 _ ?_)
  refine lpU (I := fun k w' => F2 w w' ∧ (∀ j, j < k → w'.2 44 j = lN 0) ∧ w'.2 43 = w.2 43) (G := fun k w' => Z m_Arrays_fill d (qV (fun w' => F2 w w' ∧ (∀ k, k < 1010 → w'.2 44 k = lN 0) ∧ w'.2 43 = w.2 43)) 6 [(0, .ref 44), (1, .long (lN 0)), (3, .int (nI k)), (4, .int (nI 1010))] [] w') (M := 1010) ?_ ?_ 0 (Nat.zero_le _) _ ⟨F2.rf, fun j hj => absurd hj (Nat.not_lt_zero _), rfl⟩
  · rintro w1 h
    exact vc_Arrays_fill_h_6 _ _ _ ⟨fun _ => h, fun g => absurd (mle (Nat.le_refl _)) g⟩
  · rintro k w1 hk ⟨h1, h2, h3⟩ nx
    refine vc_Arrays_fill_h_6 _ _ _ ⟨fun g => absurd (gle g) (by omega), fun _ => ⟨k, rfl, hk, ?_⟩⟩
    rw [nI_add]
    refine nx _ ⟨h1.tr (F2.up (Or.inr rfl)), fun j hj => ?_, ?_⟩
    · rw [up2_2]
      by_cases e : j = k
      · rw [if_pos ⟨rfl, e⟩]
      · rw [if_neg (fun x => e x.2)]; exact h2 j (by omega)
    · funext j
      rw [up2_2, if_neg (by omega), h3]
