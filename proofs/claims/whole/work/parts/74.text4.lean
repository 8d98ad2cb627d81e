/-! text -/
theorem BkI.new {h : Nat} {W u U : Wd} (h2 : h < 2) (D : Dr h W u) (d0 : W.1 13 0 = nI (nd W)) (d7 : W.1 13 7 = nI (nb W)) (d9 : W.1 13 9 = nI (nc W)) (e10 : U.1 58 10 = nI h) (r : ∀ a k, 64 ≤ a → a ≤ 75 → U.1 a k = u.1 a k) (c25 : ∀ k, k = 0 ∨ k = 7 ∨ k = 9 ∨ k = 13 → U.1 25 k = W.1 13 k) (c26 : ∀ a k, 26 ≤ a → a ≤ 29 → k < 12 → U.1 a k = W.1 (a - 12) k) (c30 : ∀ a k, 30 ≤ a → a ≤ 31 → k < 120 → U.1 a k = W.1 (a - 12) k) (c32 : ∀ k, k < 10 → U.1 32 k = W.1 20 k) (c33 : ∀ a k, 33 ≤ a → a ≤ 35 → k < 6 → U.1 a k = W.1 (a - 12) k) : BkI U := by
  obtain ⟨⟨p1, p2⟩, p3, ⟨p4, p5⟩, p6, ⟨p7, p8⟩, p9, sg, s1, s2, s3⟩ := D
  have eh : hl U = h := N_of e10
  have en : nr U = nd W := by
    show N U 64 (hl U) = nd W
    rw [eh]
    exact N_of (by rw [r 64 _ (by omega) (by omega)]; exact p2)
  have eb : nbr U = nb W := by
    show N U 71 (hl U) = nb W
    rw [eh]
    exact N_of (by rw [r 71 _ (by omega) (by omega)]; exact p5)
  have ec : nch U = nc W := by
    show N U 73 (hl U) = nc W
    rw [eh]
    exact N_of (by rw [r 73 _ (by omega) (by omega)]; exact p8)
  unfold BkI
  rw [en, eb, ec, eh]
  refine ⟨⟨h2, e10⟩, ⟨p1, by rw [r 64 _ (by omega) (by omega)]; exact p2, by rw [c25 0 (by omega)]; exact d0⟩, fun k hk => ?_, ⟨p4, by rw [r 71 _ (by omega) (by omega)]; exact p5, by rw [c25 7 (by omega)]; exact d7⟩, fun b hb => ?_, ⟨p7, by rw [r 73 _ (by omega) (by omega)]; exact p8, by rw [c25 9 (by omega)]; exact d9⟩, fun c hc j hj => ?_, sg, s1, by rw [c25 13 (by omega)]; exact s2, fun k hk => ?_⟩
  · obtain ⟨⟨v, v1, v2, v3⟩, m, m1, m2, m3, a, b, a1, a2, a3, a4, a5, a6⟩ := p3 k hk
    have er : rl U k = v := by
      show N U 65 (12 * hl U + k) = v
      rw [eh]
      exact N_of (by rw [r 65 _ (by omega) (by omega)]; exact v2)
    have em : ni U k = m := by
      show N U 66 (12 * hl U + k) = m
      rw [eh]
      exact N_of (by rw [r 66 _ (by omega) (by omega)]; exact m2)
    unfold RuI
    rw [er, em, eh]
    refine ⟨⟨v1, by rw [r 65 _ (by omega) (by omega)]; exact v2, by rw [c26 26 k (by omega) (by omega) (by omega)]; exact v3⟩, ⟨m1, by rw [r 66 _ (by omega) (by omega)]; exact m2, by rw [c26 27 k (by omega) (by omega) (by omega)]; exact m3⟩, a, b, a1, a2, a3, by rw [c26 28 k (by omega) (by omega) (by omega)]; exact a4, by rw [c26 29 k (by omega) (by omega) (by omega)]; exact a5, fun i hi => ?_⟩
    have g := a6 i hi
    have ex : ix U k i = 10 * (12 * h + k) + i := by
      show 10 * (12 * hl U + k) + i = _
      rw [eh]
    unfold ItI
    unfold ItD at g
    rw [ex, r 67 _ (by omega) (by omega), r 68 _ (by omega) (by omega), r 69 _ (by omega) (by omega), r 70 _ (by omega) (by omega), c30 30 _ (by omega) (by omega) (by omega), c30 31 _ (by omega) (by omega) (by omega)]
    exact g
  · rw [c32 b (by omega), r 72 _ (by omega) (by omega)]
    exact p6 b hb
  · obtain ⟨v, v1, v2, v3⟩ := p9 c hc j hj
    have ev : chn U c j = v := by
      show N U 74 (3 * (6 * hl U + c) + j) = v
      rw [eh]
      exact N_of (by rw [r 74 _ (by omega) (by omega)]; exact v2)
    rw [ev]
    refine ⟨v1, by rw [r 74 _ (by omega) (by omega)]; exact v2, ?_⟩
    rw [c33 (33 + j) c (by omega) (by omega) (by omega), show 33 + j - 12 = 21 + j by omega]
    exact v3
  · rw [r 75 _ (by omega) (by omega)]
    exact s3 k hk
/-- all that text may change, but the books -/
def CTx (h a k : Nat) : Prop := (a = 8 ∧ k = 1) ∨ (10 ≤ a ∧ a ≤ 24) ∨ CT3 h a k
theorem Inv.text {h : Nat} {w U : Wd} (hI : Inv w) (f : Sm (fun a k => CTx h a k ∨ (25 ≤ a ∧ a ≤ 35) ∨ a = 40 ∨ (a = 42 ∧ k = 6) ∨ (a = 58 ∧ (k = 10 ∨ k = 34))) w U) (f2 : ∀ a, a ≠ 62 → U.2 a = w.2 a) (e8 : U.1 8 1 = nI 0) (e58 : U.1 58 2 = nI 0) (hB : BkI U) (hF : FinI U) (hT : TabI U) (hR : RefI U) : Inv U := by
  obtain ⟨h1, h2, h3, h4, h5, h6, h7, h8⟩ := hI
  have c : ∀ a k, (a ≤ 7 ∨ (45 ≤ a ∧ a ≤ 56) ∨ (76 ≤ a ∧ a ≤ 94) ∨ (a = 58 ∧ (k = 28 ∨ k = 30 ∨ k = 39 ∨ k = 47 ∨ k = 48 ∨ k = 49))) → U.1 a k = w.1 a k := fun a k ha => f a k (by unfold CTx CT3 PC; omega)
  have r : ∀ a, (a ≤ 7 ∨ (45 ≤ a ∧ a ≤ 56) ∨ (76 ≤ a ∧ a ≤ 94)) → U.1 a = w.1 a := fun a ha => funext fun k => c a k (by omega)
  have etp : tp U = 0 := N_of e58
  refine ⟨⟨h1.1.mv (r 1 (by omega)) (r 2 (by omega)) (r 76 (by omega)) (r 77 (by omega)), h1.2.1.mv (c 58 28 (by omega)) (c 58 30 (by omega)) (r 3 (by omega)) (r 4 (by omega)) (r 5 (by omega)) (r 6 (by omega)) (r 7 (by omega)) (r 78 (by omega)) (r 79 (by omega)) (r 80 (by omega)) (r 81 (by omega)), hB⟩, ?_, hF, hT, hR, h6.mv (by rw [show cm U = cm w from N_cg (c 58 30 (by omega))]; exact Nat.le_refl _) (fun s _ => N_cg (by rw [r 79 (by omega)])) (c 58 39 (by omega)) (c 45 8 (by omega)) (fun a ha => r a (by omega)), h7.mv (fun k k1 k2 => c 58 k (by omega)) (fun a ha => r a (by omega)), fun k hk => by rw [f2 63 (by decide)]; exact h8 k hk⟩
  unfold TapI
  rw [etp]
  exact ⟨⟨by omega, e58, e8⟩, fun k hk => absurd hk (Nat.not_lt_zero _)⟩
theorem op_text (hs : StrOK) {w : Wd} (h : Inv w) : Op m_D_text m_M_text [] w := by
  have hTap := h.2.1
  obtain ⟨hA, hTB⟩ := tpf_ok hTap
  have hb := h.1.2.2.1
  refine ev_D_text (vc_D_text_0 ⟨_, c_read hs hTap, ?_⟩)
  rintro r W1 ⟨W, hST, eW1, rfl, hend⟩
  have cf : CFr W W1 := by rw [eW1]; exact q_read 1200 W
  obtain ⟨o, z2, e8, -⟩ := id hST
  -- class's world behind the reading
  have oW : ∀ a k, ¬ (a = 8 ∧ k = 1) → ¬ (10 ≤ a ∧ a ≤ 24) → W1.1 a k = w.1 a k := fun a k g1 g2 => (cf.1 a k (by omega)).trans (o a k g1 (by omega) (by omega))
  have o2 : W1.2 = w.2 := cf.2.trans z2
  have o8 : W1.1 8 1 = nI 0 := (cf.1 8 1 (by omega)).trans e8
  have hendE : ¬ (fRead 1200 W).1 24 3 = 0 ∨ cd (fRead 1200 W) = -nI 1 := by rw [← eW1]; exact hend.imp id (fun z => z.2)
  refine ⟨fun g => ?_, fun g => ?_⟩
  · -- a fault
    refine c_M_text (V := W1) (W := W) (w := w) (L := tp w) (t := tpf w) (hh := hl w) ⟨hTB.1, fun k hk => by rw [oW 59 k (by omega) (by omega)]; exact hTB.2.1 k hk, hTB.2.2⟩ (by rw [oW 58 2 (by omega) (by omega)]; exact hTap.1.2.1) (by rw [oW 58 10 (by omega) (by omega)]; exact hb.2) hb.1 (fun k hk => by rw [o2]; exact h.2.2.2.2.2.2.2 k hk) hST hendE (fun u' F3 s2 G => ?_) (fun u' F3 s2 B => ?_)
    · rw [← eW1] at G
      exact absurd G.2.2.1.2.2 g
    · rw [← eW1] at B
      have eF : u'.1 58 8 = W1.1 24 3 := by
        obtain ⟨F, -, -, f3, f4⟩ := B
        rw [f3, f4]
      refine ⟨eF, ?_⟩
      have fU : ∀ a k, ¬ CTx (1 - hl w) a k → u'.1 a k = w.1 a k := fun a k c => (F3.1 a k (by unfold CTx at c; exact fun y => c (Or.inr (Or.inr y)))).trans (oW a k (by unfold CTx at c; exact fun y => c (Or.inl y)) (by unfold CTx at c; exact fun y => c (Or.inr (Or.inl y))))
      have f2 : ∀ a, a ≠ 62 → u'.2 a = w.2 a := fun a ha => by rw [F3.2 a ha, o2]
      have H : Hf w u' := ⟨fU 58 10 (by unfold CTx CT3 PC; omega), fun a k c => fU a k (by have := hb.1; unfold CTx CT3 PC; omega)⟩
      have rr : ∀ a, a = 76 ∨ a = 77 ∨ (79 ≤ a ∧ a ≤ 81) → u'.1 a = w.1 a := fun a ha => funext fun k => fU a k (by unfold CTx CT3 PC; omega)
      obtain ⟨SF, SR⟩ := H.sem h.1.2.2 (fU 58 30 (by unfold CTx CT3 PC; omega)) rr
      have c' : ∀ a k, (25 ≤ a ∧ a ≤ 57) ∨ (82 ≤ a ∧ a ≤ 94) ∨ (a = 58 ∧ k = 34) → u'.1 a k = w.1 a k := fun a k c => fU a k (by unfold CTx CT3 PC; omega)
      refine h.text (h := 1 - hl w) (fun a k c => fU a k (fun y => c (Or.inl y))) f2 ?_ s2 (BkI.hf H h.1.2.2 (fun a k g1 g2 => c' a k (by omega))) (h.2.2.1.mv SF (fun a g1 g2 => funext fun k => c' a k (by omega))) (h.2.2.2.1.mv SR (c' 42 6 (by omega)) (f2 43 (by decide)) (f2 44 (by decide))) (h.2.2.2.2.1.mv SF (c' 58 34 (by omega)) (funext fun k => c' 82 k (by omega)))
      rw [F3.1 8 1 (by unfold CT3 PC; omega)]
      exact o8
  · -- none
    refine ⟨_, ev_Reader_draft (vc_Reader_draft_0 (Q := fun r w' => r = 13 ∧ w' = W1) ⟨rfl, rfl⟩), ?_⟩
    rintro r2 w2 ⟨rfl, rfl⟩
    refine ⟨_, c_become (d := 28), ?_⟩
    rintro W2 ⟨b1, b2, b3, b4, b5, b6, b7⟩
    refine ⟨_, c_forgetAll (d := 29), ?_⟩
    rintro W3 ⟨p1, p2⟩
    refine ⟨_, c_Table_forget (d := 29), ?_⟩
    rintro W4 rfl
    have oV : ∀ a k, a ≠ 40 → ¬ (a = 42 ∧ k = 6) → (up1 W3 42 6 (nI 1)).1 a k = W2.1 a k := fun a k g1 g2 => by rw [u_o g2, p1.1 a g1]
    have v40 : ∀ s, s < 40 → (up1 W3 42 6 (nI 1)).1 40 s = 1 := fun s hs => by rw [u_o (by omega)]; exact p2 s hs
    have v42 : (up1 W3 42 6 (nI 1)).1 42 6 = 1 := u_s
    have v2 : (up1 W3 42 6 (nI 1)).2 = w.2 := by rw [up1_2, p1.2, b2, o2]
    generalize up1 W3 42 6 (nI 1) = V at *
    have oVw : ∀ a k, ¬ (a = 8 ∧ k = 1) → ¬ (10 ≤ a ∧ a ≤ 35) → a ≠ 40 → ¬ (a = 42 ∧ k = 6) → V.1 a k = w.1 a k := fun a k g1 g2 g3 g4 => (oV a k g3 g4).trans ((b1 a k (by omega)).trans (oW a k g1 (by omega)))
    refine c_M_text (V := V) (W := W) (w := w) (L := tp w) (t := tpf w) (hh := hl w) ⟨hTB.1, fun k hk => by rw [oVw 59 k (by omega) (by omega) (by omega) (by omega)]; exact hTB.2.1 k hk, hTB.2.2⟩ (by rw [oVw 58 2 (by omega) (by omega) (by omega) (by omega)]; exact hTap.1.2.1) (by rw [oVw 58 10 (by omega) (by omega) (by omega) (by omega)]; exact hb.2) hb.1 (fun k hk => by rw [v2]; exact h.2.2.2.2.2.2.2 k hk) hST hendE (fun u' F3 s2 G => ?_) (fun u' F3 s2 B => ?_)
    · rw [← eW1] at G
      refine ⟨g.symm, ?_⟩
      have oU : ∀ a k, ¬ (a = 58 ∧ (k = 10 ∨ k = 34)) → (up1 (up1 u' 58 10 (nI (1 - hl w))) 58 34 (nI 1)).1 a k = u'.1 a k := fun a k g1 => by rw [u_o (by omega), u_o (by omega)]
      have x10 : (up1 (up1 u' 58 10 (nI (1 - hl w))) 58 34 (nI 1)).1 58 10 = nI (1 - hl w) := by rw [u_o (by omega), u_s]
      have x34 : (up1 (up1 u' 58 10 (nI (1 - hl w))) 58 34 (nI 1)).1 58 34 = 1 := u_s
      have xz : (up1 (up1 u' 58 10 (nI (1 - hl w))) 58 34 (nI 1)).2 = u'.2 := by rw [up1_2, up1_2]
      generalize up1 (up1 u' 58 10 (nI (1 - hl w))) 58 34 (nI 1) = U at *
      have cl : ∀ a k, 25 ≤ a → a ≤ 57 → U.1 a k = V.1 a k := fun a k g1 g2 => (oU a k (by omega)).trans (F3.1 a k (by unfold CT3 PC; omega))
      have hcm : cm U ≤ 40 := by
        have : cm U = cm w := N_cg ((oU 58 30 (by omega)).trans ((F3.1 58 30 (by unfold CT3 PC; omega)).trans (oVw 58 30 (by omega) (by omega) (by omega) (by omega))))
        rw [this]
        exact h.1.2.1.2.2.1.1
      obtain ⟨d0, -, d7, -, d9, -⟩ := G.2.2.1.2.1
      refine h.text (h := 1 - hl w) (fun a k c => ?_) (fun a ha => by rw [xz, F3.2 a ha, v2]) ?_ ?_ (BkI.new (h := 1 - hl w) (W := w2) (u := u') (U := U) (by omega) G.2.2.2 d0 d7 d9 x10 (fun a k g1 g2 => oU a k (by omega)) (fun k hk => ?_) (fun a k g1 g2 hk => ?_) (fun a k g1 g2 hk => ?_) (fun k hk => ?_) (fun a k g1 g2 hk => ?_)) ?_ (TabI.stale ?_) (RefI.old x34)
      · rw [oU a k (fun y => c (Or.inr (Or.inr (Or.inr (Or.inr y)))))]
        rw [F3.1 a k (fun y => c (Or.inl (Or.inr (Or.inr y))))]
        refine oVw a k (fun y => c (Or.inl (Or.inl y))) (fun y => ?_) (fun y => c (Or.inr (Or.inr (Or.inl y)))) (fun y => c (Or.inr (Or.inr (Or.inr (Or.inl y)))))
        rcases Nat.lt_or_ge a 25 with z | z
        · exact c (Or.inl (Or.inr (Or.inl ⟨y.1, by omega⟩)))
        · exact c (Or.inr (Or.inl ⟨z, y.2⟩))
      · rw [oU 8 1 (by omega), F3.1 8 1 (by unfold CT3 PC; omega), oV 8 1 (by omega) (by omega), b1 8 1 (by omega)]
        exact o8
      · rw [oU 58 2 (by omega)]; exact s2
      · rw [cl 25 k (by omega) (by omega), oV 25 k (by omega) (by omega)]; exact b3 k hk
      · rw [cl a k (by omega) (by omega), oV a k (by omega) (by omega)]; exact b4 a k g1 g2 hk
      · rw [cl a k (by omega) (by omega), oV a k (by omega) (by omega)]; exact b5 a k g1 g2 hk
      · rw [cl 32 k (by omega) (by omega), oV 32 k (by omega) (by omega)]; exact b6 k hk
      · rw [cl a k (by omega) (by omega), oV a k (by omega) (by omega)]; exact b7 a k g1 g2 hk
      · refine h.2.2.1.mvS (fun a g1 g2 => funext fun k => ?_) (fun s hs' => Or.inr ?_) (fun s hs' g' => ?_)
        · rw [cl a k (by omega) (by omega)]
          exact oVw a k (by omega) (by omega) (by omega) (by omega)
        · rw [cl 40 s (by omega) (by omega)]; exact v40 s hs'
        · rw [cl 40 s (by omega) (by omega), v40 s (by omega)] at g'
          exact absurd g' (by decide)
      · rw [cl 42 6 (by omega) (by omega)]; exact v42
    · rw [← eW1] at B
      exact absurd g B.fu.2
