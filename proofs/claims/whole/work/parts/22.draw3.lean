/-! THE FINDER draws a rule, a sentence, all -/
theorem FtI.f37 {w w' : Wd} {s r n b : Nat} (h : FtI w s r n) (f : F37 b w w') : FtI w' s r n := by
  have m := f.fr.mf
  intro i hi
  rw [m.ixE, f.off (a := 67) (by omega), f.off (a := 41) (by omega)]
  rcases h i hi with a | ⟨a, q, b, c, e⟩
  · exact Or.inl a
  · exact Or.inr ⟨a, q, b, c, fun p => by rw [m.lenE, m.fitE]; exact e p⟩
/-- first u and second v of a find -/
def Pr (w : Wd) (s r mn mx : Nat) (u v : Nat) : Prop := (∃ p0, p0 ≤ len w s ∧ Go w s r 0 mn p0 u) ∧ u < len w s ∧ fit w s r mn u ∧ Go w s r (mn + 1) (mx - mn - 1) (u + 1) v ∧ v < len w s ∧ fit w s r mx v ∧ ∃ z, z ≤ len w s ∧ Go w s r (mx + 1) (ni w r - mx - 1) (v + 1) z
theorem z_drawRule {d : Nat} {w0 : Wd} {Q : Wd → Prop} {s r a b F G0 : Nat} (hC : CtI w0) (hs : s < cm w0) (hr : r < nr w0) (ha : a < ni w0 r) (hb : b < ni w0 r) (hab : a ≠ b) (hni : ni w0 r ≤ 10) (hft : FtI w0 s r (ni w0 r))
    (hF : F < 65536) (hF2 : ∀ u, F.testBit u = true ↔ (∃ p0, p0 ≤ len w0 s ∧ Go w0 s r 0 (min a b) p0 u) ∧ u < len w0 s ∧ fit w0 s r (min a b) u)
    (hG : G0 < 65536) (hG2 : ∀ v, G0.testBit v = true ↔ (∃ z, z ≤ len w0 s ∧ Go w0 s r (max a b + 1) (ni w0 r - max a b - 1) (v + 1) z) ∧ v < len w0 s ∧ fit w0 s r (max a b) v)
    (hq : ∀ w', F37 ((s * 12 + r) * 16) w0 w' → RwI w' ((s * 12 + r) * 16) (fun l t => if a < b then Pr w0 s r a b l t else Pr w0 s r b a t l) → Q w') :
    ∀ (n u : Nat) (w : Wd), u + n = len w0 s → F37 ((s * 12 + r) * 16) w0 w → RwI w ((s * 12 + r) * 16) (fun l t => if a < b then l < u ∧ Pr w0 s r a b l t else t < u ∧ Pr w0 s r b a t l) →
      Z m_Finder_drawRule (d + 1) (qV Q) 141 [(0, .ref 36), (1, .int (nI s)), (2, .int (nI r)), (3, .int (nI (len w0 s))), (4, .int (nI (2 ^ (len w0 s + 1) - 1))), (5, .int (nI a)), (6, .int (nI b)), (7, .int (nI (min a b))), (8, .int (nI (max a b))), (9, .int (nI F)), (10, .int (nI G0)), (11, .int (nI u))] [] w := by
  obtain ⟨l1, l2, l3⟩ := hC.l hs
  have hnr := hC.2.2.2.1.1
  have hp17 := pow17 l2
  intro n
  induction n with
  | zero =>
    intro u w hu hf hR
    refine vc_Finder_drawRule_141 _ _ _ _ _ _ _ _ _ _ _ ⟨fun _ => hq w hf (hR.cg (fun l t hl => ?_)), fun g => absurd ?_ g⟩
    · split
      · exact ⟨fun h => h.2, fun h => ⟨by have := h.2.1; omega, h⟩⟩
      · exact ⟨fun h => h.2, fun h => ⟨by have := h.2.1; omega, h⟩⟩
    · rw [nI_leI (by omega) (by omega)]; omega
  | succ n ih =>
    intro u w hu hf hR
    have m := hf.fr.mf
    refine vc_Finder_drawRule_141 _ _ _ _ _ _ _ _ _ _ _ ⟨fun g => ?_, fun _ => ?_⟩
    · rw [nI_leI (by omega) (by omega)] at g; omega
    · rw [bit_nI (by omega) (by omega)]
      refine ⟨fun g => ?_, fun g => ?_⟩
      · rw [nI_add]
        refine ih (u + 1) w (by omega) hf (hR.cg (fun l t hl => ?_))
        have no : ∀ v, ¬ Pr w0 s r (min a b) (max a b) u v := fun v hv => g ((hF2 u).mpr ⟨hv.1, hv.2.1, hv.2.2.1⟩)
        split
        · rename_i hlt
          rw [show min a b = a by omega, show max a b = b by omega] at no
          constructor
          · rintro ⟨h1, h2⟩; exact ⟨by omega, h2⟩
          · rintro ⟨h1, h2⟩
            refine ⟨?_, h2⟩
            by_cases e : l = u
            · subst e; exact absurd h2 (no t)
            · omega
        · rename_i hlt
          rw [show min a b = b by omega, show max a b = a by omega] at no
          constructor
          · rintro ⟨h1, h2⟩; exact ⟨by omega, h2⟩
          · rintro ⟨h1, h2⟩
            refine ⟨?_, h2⟩
            by_cases e : t = u
            · subst e; exact absurd h2 (no l)
            · omega
      · have g : F.testBit u = true := Classical.not_not.mp g
        have gu := (hF2 u).mp g
        have hpu : 2 ^ (u + 1) < 2 ^ (len w s + 1) := by rw [m.lenE]; exact Nat.pow_lt_pow_right (by decide) (by omega)
        rw [nI_add, one_shl (by omega), nI_add]
        refine ⟨_, by rw [← m.lenE]; exact c_forward (hC.fr hf.fr) (by rw [m.cmE]; exact hs) (by rw [m.niE]; exact hft.f37 hf) (by rw [m.niE]; omega) (by rw [m.niE]; exact hni) (by omega) hpu, ?_⟩
        rintro x w1 ⟨rfl, c, c1, rfl, c2⟩
        rw [m.lenE] at c1
        have c2' : ∀ v, (c &&& G0).testBit v = true ↔ Pr w0 s r (min a b) (max a b) u v := by
          intro v
          rw [Nat.testBit_and, Bool.and_eq_true, c2 v, hG2 v]
          constructor
          · rintro ⟨⟨p, p1, p2⟩, q1, q2, q3⟩
            rw [Nat.testBit_two_pow, decide_eq_true_eq] at p1
            subst p1
            rw [m.GoE, show max a b - (min a b + 1) = max a b - min a b - 1 by omega] at p2
            exact ⟨gu.1, gu.2.1, gu.2.2, p2, q2, q3, q1⟩
          · rintro ⟨-, -, -, p2, q2, q3, q1⟩
            refine ⟨⟨u + 1, by rw [Nat.testBit_two_pow, decide_eq_true_eq], ?_⟩, q1, q2, q3⟩
            rw [m.GoE, show max a b - (min a b + 1) = max a b - min a b - 1 by omega]
            exact p2
        have hcg : c &&& G0 < 65536 := Nat.lt_of_le_of_lt Nat.and_le_right hG
        have hB : (s * 12 + r) * 16 + 16 ≤ 7680 := by omega
        have hbase : (nI s * nI 12 + nI r) * nI 16 = nI ((s * 12 + r) * 16) := by rw [pk_mul, nI_add, pk_mul]
        obtain ⟨k0, k1⟩ := c_keepPairs (d := d) (w := w1) hB (show u < 16 by omega) hcg hR
        rw [and_nI, hbase]
        refine ⟨fun e => ⟨_, k0, ?_⟩, fun e => ⟨_, k1, ?_⟩⟩
        · rintro w2 ⟨f2, R2⟩
          have hlt : ¬ a < b := fun h => e (by rw [show min a b = a by omega])
          rw [show min a b = b by omega, show max a b = a by omega] at c2'
          refine ih (u + 1) w2 (by omega) (hf.tr f2) (R2.cg (fun l t hl => ?_))
          simp only [if_neg hlt]
          rw [c2' l]
          constructor
          · rintro (⟨h1, h2⟩ | ⟨h1, h2⟩)
            · exact ⟨by omega, h2⟩
            · subst h2; exact ⟨by omega, h1⟩
          · rintro ⟨h1, h2⟩
            by_cases e2 : t = u
            · subst e2; exact Or.inr ⟨h2, rfl⟩
            · exact Or.inl ⟨by omega, h2⟩
        · rintro w2 ⟨f2, R2⟩
          have e3 := nI_inj (by omega) (by omega) e
          have hlt : a < b := by omega
          rw [show min a b = a by omega, show max a b = b by omega] at c2'
          refine ih (u + 1) w2 (by omega) (hf.tr f2) (R2.cg (fun l t hl => ?_))
          simp only [if_pos hlt]
          rw [c2' t]
          constructor
          · rintro (⟨h1, h2, h3⟩ | ⟨h1, h2⟩)
            · exact ⟨by omega, h3⟩
            · subst h1; exact ⟨by omega, h2⟩
          · rintro ⟨h1, h2⟩
            by_cases e2 : l = u
            · subst e2; exact Or.inr ⟨rfl, h2⟩
            · exact Or.inl ⟨e2, by omega, h2⟩
/-- the finder's rows at base b, and 'fitting' -/
def FD (b : Nat) (w w' : Wd) : Prop := (∀ a k, a ≠ 41 → ¬ (a = 37 ∧ b ≤ k ∧ k < b + 16) → w'.1 a k = w.1 a k) ∧ w'.2 = w.2
theorem FD.fr {b : Nat} {w w' : Wd} (h : FD b w w') : Fr w w' := ⟨fun a ha => funext fun k => h.1 a k (by omega) (by omega), h.2⟩
theorem RwI.cgw {w w' : Wd} {b : Nat} {S : Nat → Nat → Prop} (h : RwI w b S) (e : ∀ l, l < 16 → w'.1 37 (b + l) = w.1 37 (b + l)) : RwI w' b S := fun l hl => by
  obtain ⟨c, c1, c2, c3⟩ := h l hl
  exact ⟨c, c1, (e l hl).trans c2, c3⟩
theorem c_drawRule {d : Nat} {w : Wd} {s r : Nat} (hC : CtI w) (hs : s < cm w) (hr : r < nr w) (h0 : RwI w ((s * 12 + r) * 16) (fun _ _ => False)) : EvV m_Finder_drawRule (d + 4) [.ref 36, .int (nI s), .int (nI r)] w (fun w' => FD ((s * 12 + r) * 16) w w' ∧ RwI w' ((s * 12 + r) * 16) (fun l t => t < 16 ∧ ∃ p, Rc w s r (ni w r) p l t)) := by
  obtain ⟨l1, l2, l3⟩ := hC.l hs
  have hp17 := pow17 l2
  have hpos : 0 < 2 ^ (len w s + 1) := Nat.two_pow_pos _
  obtain ⟨-, ⟨hni, -, -⟩, a, b, ha, hb, hab, hl, hrt, hit⟩ := hC.2.2.2.2.1 r hr
  refine ev_Finder_drawRule _ _ (vc_Finder_drawRule_0 _ _ ⟨_, c_Sentences_lengthOf hC.2.1 hs, ?_⟩)
  rintro x1 w1 ⟨rfl, rfl⟩
  refine ⟨_, c_Book_leftItem (d := d + 2) hC.2.2 hr, ?_⟩
  rintro x2 w2 ⟨rfl, rfl⟩
  refine ⟨_, c_Book_rightItem (d := d + 2) hC.2.2 hr, ?_⟩
  rintro x3 w3 ⟨rfl, rfl⟩
  rw [hl, hrt]
  have p0 : ∀ {x : Nat}, x < 10 → ¬ nI x < 0 := fun hx h => by have := lt0 h; rw [nI_toInt (by omega)] at this; omega
  refine ⟨fun g => absurd g (p0 (by omega)), fun _ => ⟨fun g => ?_, fun _ => ⟨fun g => absurd g (p0 (by omega)), fun _ => ⟨fun _ => ⟨_, c_fitItems (d := d) hC hs hr, ?_⟩, fun g => absurd ?_ g⟩⟩⟩⟩
  · rw [nI_leI (by omega) (by omega)] at g; omega
  · rintro w4 ⟨f4, f41, ft⟩
    have m := f4.mf
    have hC4 := hC.fr f4
    have hs4 : s < cm w4 := by rw [m.cmE]; exact hs
    have hr4 : r < nr w4 := by rw [m.nrE]; exact hr
    have hni4 : ni w4 r ≤ 10 := by rw [m.niE]; exact hni
    have ft4 : FtI w4 s r (ni w4 r) := by rw [m.niE]; exact ft
    have emn : (if nI b < nI a then nI b else nI a) = nI (min a b) := by
      split
      · rename_i h; rw [nI_ltI (by omega) (by omega)] at h; congr 1; omega
      · rename_i h; rw [nI_ltI (by omega) (by omega)] at h; congr 1; omega
    have emx : (if nI a < nI b then nI b else nI a) = nI (max a b) := by
      split
      · rename_i h; rw [nI_ltI (by omega) (by omega)] at h; congr 1; omega
      · rename_i h; rw [nI_ltI (by omega) (by omega)] at h; congr 1; omega
    rw [emn, emx, all_nI l2]
    -- which items are some
    have notsome : ∀ i, i < ni w3 r → (i = a ∨ i = b) → ¬ w3.1 67 (ix w3 r i) = 1 := by
      intro i hi hor h
      rcases hit i hi with ⟨-, -, -, q1, q2⟩ | ⟨q, -⟩
      · rcases hor with e | e
        · exact q1 e
        · exact q2 e
      · rw [h] at q; exact absurd q (by decide)
    have fitc : ∀ i, i < ni w3 r → (i = a ∨ i = b) → ∃ f, f < 65536 ∧ w4.1 41 i = nI f ∧ ∀ p, f.testBit p = true ↔ p < len w4 s ∧ fit w4 s r i p := by
      intro i hi hor
      rcases ft i hi with ⟨q, -⟩ | ⟨-, q⟩
      · rw [m.ixE, f4.1 67 (by omega)] at q
        exact absurd q (notsome i hi hor)
      · exact q
    refine ⟨_, by rw [← m.lenE]; exact c_forward (s := s) (r := r) hC4 hs4 ft4 (en := min a b) (by rw [m.niE]; omega) hni4 (Nat.zero_le _) (by rw [m.lenE]; omega), ?_⟩
    rintro x5 w5 ⟨rfl, c5, c51, rfl, c52⟩
    rw [m.lenE] at c51
    obtain ⟨f1, f11, f12, f13⟩ := fitc (min a b) (by omega) (by omega)
    obtain ⟨f2, f21, f22, f23⟩ := fitc (max a b) (by omega) (by omega)
    refine ⟨min a b, rfl, by omega, _, c_Book_itemsOf (d := d + 2) hC4.2.2 hr4, ?_⟩
    rintro x6 w6 ⟨rfl, rfl⟩
    rw [nI_add]
    refine ⟨_, by rw [← m.lenE]; exact c_backward (d := d + 2) (s := s) (r := r) (en := ni w6 r) hC4 hs4 ft4 rfl hni4 (by omega) (by rw [m.niE]; omega), ?_⟩
    rintro x7 w7 ⟨rfl, c7, c71, rfl, c72⟩
    refine ⟨max a b, rfl, by omega, ?_⟩
    rw [f12, f22, and_nI, shr_nI (by omega) (by decide), and_nI]
    rw [← m.lenE]
    refine z_drawRule hC4 hs4 hr4 (by rw [m.niE]; exact ha) (by rw [m.niE]; exact hb) hab hni4 ft4 (Nat.lt_of_le_of_lt Nat.and_le_right f11) (fun u => ?_) (Nat.lt_of_le_of_lt Nat.and_le_right f21) (fun v => ?_) (fun w' g1 g2 => ?_) (len w7 s) 0 w7 (Nat.zero_add _) F37.rf ?_
    · rw [Nat.testBit_and, Bool.and_eq_true, c52, f13]
      constructor
      · rintro ⟨⟨p, p1, p2⟩, p3⟩
        rw [tb_all, decide_eq_true_eq] at p1
        exact ⟨⟨p, by omega, p2⟩, p3⟩
      · rintro ⟨⟨p, p1, p2⟩, p3⟩
        exact ⟨⟨p, by rw [tb_all, decide_eq_true_eq]; omega, p2⟩, p3⟩
    · rw [bw_spec, c72, f23, show ni w7 r - (max a b + 1) = ni w7 r - max a b - 1 by omega]
    · refine ⟨⟨fun x k h1 h2 => (g1.1 x k h2).trans (by rw [f41 x h1]), g1.2.trans f4.2⟩, g2.cg (fun l t hl => ?_)⟩
      have hsd : ∀ i, i < ni w3 r → sd w3 r i = if i = a then 1 else if i = b then 2 else 0 := by
        intro i hi
        rcases hit i hi with ⟨-, -, q3, q1, q2⟩ | ⟨-, -, -, -, q⟩
        · rw [if_neg q1, if_neg q2]; exact N_of q3
        · exact N_of q (by split <;> first | omega | (split <;> omega))
      by_cases ht : t < 16
      · have hcut := Rc.cut (w := w3) (s := s) (r := r) (n := ni w3 r) hsd ha hb hab notsome hl ht
        rw [hcut]
        have ePr : ∀ mn mx u v, Pr w7 s r mn mx u v = Pr w3 s r mn mx u v := by
          intro mn mx u v
          unfold Pr
          simp only [m.lenE, m.GoE, m.fitE, m.niE]
        simp only [ePr]
        by_cases hlt : a < b
        · simp only [if_pos hlt]
          rw [show min a b = a by omega, show max a b = b by omega]
          constructor
          · rintro h
            exact ⟨ht, l, t, ⟨rfl, rfl⟩, h.1, h.2.1, h.2.2.1, h.2.2.2.1, h.2.2.2.2.1, h.2.2.2.2.2.1, h.2.2.2.2.2.2⟩
          · rintro ⟨-, u, v, ⟨rfl, rfl⟩, h1, h2, h3, h4, h5, h6, h7⟩
            exact ⟨h1, h2, h3, h4, h5, h6, h7⟩
        · simp only [if_neg hlt]
          rw [show min a b = b by omega, show max a b = a by omega]
          constructor
          · rintro h
            exact ⟨ht, t, l, ⟨rfl, rfl⟩, h.1, h.2.1, h.2.2.1, h.2.2.2.1, h.2.2.2.2.1, h.2.2.2.2.2.1, h.2.2.2.2.2.2⟩
          · rintro ⟨-, u, v, ⟨rfl, rfl⟩, h1, h2, h3, h4, h5, h6, h7⟩
            exact ⟨h1, h2, h3, h4, h5, h6, h7⟩
      · have hno : ¬ (if a < b then Pr w7 s r a b l t else Pr w7 s r b a t l) := by
          split
          · intro h
            have := h.2.2.2.2.1
            rw [m.lenE] at this
            omega
          · intro h
            have := h.2.1
            rw [m.lenE] at this
            omega
        exact ⟨fun h => absurd h hno, fun h => absurd h.1 ht⟩
    · refine RwI.cg (S := fun _ _ => False) ?_ (fun l t hl => ?_)
      · exact h0.cgw (fun l hl => by rw [f41 37 (by omega)])
      · constructor
        · exact fun h => h.elim
        · intro h
          split at h <;> exact absurd h.1 (Nat.not_lt_zero _)
  · rw [nI_ltI (by omega) (by omega)]; omega
