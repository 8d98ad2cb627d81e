/-! TEXT: the reference beside the class: rules -/
section
variable {h : Nat} {w u : Wd} {d : Nat}
theorem Gd.f8 (G : Gd h w u) : u.1 58 8 = nI 0 := by
  obtain ⟨⟨s, T, h2, h3, h4, h5⟩, -⟩ := G
  exact h5
theorem c_M_item (G : Gd h w u) (O : OpD h w u) : EvV m_M_item (d + 4) [.ref 58, .int (nI (12 * h + nd w))] u (fun u' => ItP h w u u') := by
  obtain ⟨S, ⟨hn, h2⟩, hv, D⟩ := id G
  obtain ⟨lf, lr⟩ := O.left
  have o1 := O.1
  have o3 := O.2.2.1
  have o5 := O.2.2.2.2.1
  have bad : ∀ n, 1 ≤ n → n ≤ 16 → fItem (itn w) w = (nI 0, flt w n) → Z m_M_item (d + 4) (qV (fun u' => ItP h w u u')) 31 [(0, .ref 58), (1, .int (nI (12 * h + nd w)))] [] (up1 u 58 8 ((flt w n).1 24 3)) := fun n n1 n2 E => by
    obtain ⟨B, F⟩ := Bd.of (u := up1 u 58 8 ((flt w n).1 24 3)) hv.1 n1 n2 u_s
    refine vc_M_item_31 _ ⟨fun g => absurd g F.n.2, fun _ => ⟨PFr.p (by omega), Or.inr ⟨by rw [E], by rw [E]; exact B, F⟩⟩⟩
  refine ev_M_item _ (vc_M_item_0 _ ⟨_, c_isItem (d := d + 2) S, ?_⟩)
  rintro r u1 ⟨rfl, hr⟩
  refine ⟨fun g => ⟨12 * h + nd w, rfl, by omega, ?_⟩, fun g => ⟨_, c_wrong (d := d + 3) S 1, ?_⟩⟩
  · have hI := hr.n g
    rw [o5]
    refine ⟨fun g10 => z_31 G O ?_ hI, fun g10 => ⟨_, c_wrong (d := d + 3) S 5, ?_⟩⟩
    · rcases Nat.lt_or_ge (itn w) 10 with x | x
      · exact x
      · exact absurd (by rw [show itn w = 10 by omega]) g10
    · rintro u2 rfl
      have e10 : itn w = 10 := nI_inj (by omega) (by omega) g10
      refine bad 5 (by omega) (by omega) ?_
      by_cases c10 : cd w = -nI 10
      · have : w.1 16 (nd w) = -nI 1 := lf.mpr (by
          rcases hI with x | x | x | x | ⟨-, x⟩ | ⟨x, -⟩
          all_goals first | exact x | (rw [c10] at x; exact absurd x (by decide)))
        rw [fItem_1 c10, if_neg (fun k => k this), if_pos (by omega)]
      · by_cases c11 : cd w = -nI 11
        · have : w.1 17 (nd w) = -nI 1 := lr.mpr (by
            rcases hI with x | x | x | x | ⟨x, -⟩ | ⟨-, x⟩
            all_goals first | exact x | (rw [c11] at x; exact absurd x (by decide)))
          rw [fItem_2 c11, if_neg (fun k => k this), if_pos (by omega)]
        · by_cases c12 : cd w = -nI 12
          · rw [fItem_3 c12, if_pos (by omega)]
          · have sp : cd w = -nI 13 ∨ cd w = -nI 14 ∨ cd w = -nI 15 := by
              rcases hI with x | x | x | x | ⟨x, -⟩ | ⟨x, -⟩
              · exact absurd x c12
              · exact Or.inl x
              · exact Or.inr (Or.inl x)
              · exact Or.inr (Or.inr x)
              · exact absurd x c10
              · exact absurd x c11
            rw [fItem_0 c10 c11 c12, if_pos sp, if_pos (by omega)]
  · rintro u2 rfl
    have hI := hr.z g
    refine bad 1 (by omega) (by omega) ?_
    by_cases c10 : cd w = -nI 10
    · rw [fItem_1 c10, if_pos (fun k => hI (Or.inr (Or.inr (Or.inr (Or.inr (Or.inl ⟨c10, lf.mp k⟩))))))]
    · by_cases c11 : cd w = -nI 11
      · rw [fItem_2 c11, if_pos (fun k => hI (Or.inr (Or.inr (Or.inr (Or.inr (Or.inr ⟨c11, lr.mp k⟩))))))]
      · rw [fItem_0 c10 c11 (fun x => hI (Or.inl x)), if_neg]
        rintro (x | x | x)
        · exact hI (Or.inr (Or.inl x))
        · exact hI (Or.inr (Or.inr (Or.inl x)))
        · exact hI (Or.inr (Or.inr (Or.inr (Or.inl x))))
/-- the end of a rule behind a fault -/
theorem z97F (h2 : h < 2) {w' U : Wd} {x : Int32} {Q : Wd → Prop} (F : FSt h u w' U) (hq : ∀ u', Rl h u w' u' → Q u') : Z m_M_readRule (d + 5) (qV Q) 97 [(0, .ref 58), (1, .int (x)), (2, .int (nI 0))] [] U := by
  refine vc_M_readRule_97 _ _ ⟨fun _ => ⟨fun _ => ⟨_, c_takeSignF (d := d + 3) F.1 _, ?_⟩, fun g => absurd g F.1.n.1⟩, fun g => absurd rfl g⟩
  rintro U1 rfl
  exact ⟨h, F.2.2.2, h2, h, F.2.2.2, h2, hq _ (F.up (by unfold PC; omega) (by omega) (by omega)).rl⟩
theorem Dr.close {u' : Wd} (D : Dr h w u) (O : OpD h w u) (hl' : ¬ w.1 16 (nd w) = -nI 1) (hr' : ¬ w.1 17 (nd w) = -nI 1) (r : ∀ a k, 64 ≤ a → a ≤ 75 → ¬ (a = 64 ∧ k = h) → u'.1 a k = u.1 a k) (r64 : u'.1 64 h = nI (nd w + 1)) : Dr h (closeR w) u' := by
  obtain ⟨d1, d2, d3, d4, d5, d6, d7⟩ := D
  have o1 := O.1
  have x0 : (closeR w).1 13 0 = nI (nd w + 1) := u_s
  have c : ∀ a k, ¬ (a = 13 ∧ k = 0) → (closeR w).1 a k = w.1 a k := fun a k h2 => closeR_o h2
  unfold Dr
  rw [show nd (closeR w) = nd w + 1 from N_of x0, show nb (closeR w) = nb w from N_cg (c 13 7 (by decide)), show nc (closeR w) = nc w from N_cg (c 13 9 (by decide)), r64, r 71 h (by omega) (by omega) (by omega), r 73 h (by omega) (by omega) (by omega), c 13 13 (by decide)]
  have mvR : ∀ k, k < 12 → RuD h w u k → RuD h (closeR w) u' k := fun k hk R => R.mv hk (fun a h1 h3 => c a _ (by omega)) (fun a ha i hi => c a _ (by omega)) (fun a ha => r a _ (by omega) (by omega) (by omega)) (fun a h1 h3 i hi => r a _ (by omega) (by omega) (by omega))
  refine ⟨⟨by omega, rfl⟩, fun k hk => ?_, d3, fun b hb => by rw [c 20 b (by omega), r 72 _ (by omega) (by omega) (by omega)]; exact d4 b hb, d5, fun k hk j hj => by rw [c (21 + j) k (by omega), r 74 _ (by omega) (by omega) (by omega)]; exact d6 k hk j hj, ?_⟩
  · by_cases e : k = nd w
    · subst e
      refine mvR _ o1 ?_
      obtain ⟨-, ⟨v, v1, v2, v3⟩, p3, p4, p5, a, b, l1, l2, l3, -, -, p6⟩ := O
      rcases l1 with ⟨a1, a2⟩ | ⟨-, a2⟩
      · rcases l2 with ⟨b1, b2⟩ | ⟨-, b2⟩
        · exact ⟨⟨v, v1, v2, v3⟩, itn w, p3, p5, p4, a, b, a1, b1, by omega, a2, b2, p6⟩
        · exact absurd b2 hr'
      · exact absurd a2 hl'
    · exact mvR k (by omega) (d2 k (by omega))
  · obtain ⟨sg, s1, s2, s3⟩ := d7
    exact ⟨sg, s1, s2, fun k hk => by rw [r 75 _ (by omega) (by omega) (by omega)]; exact s3 k hk⟩
theorem CVD.clR (hv : CVD w) (hb : nd w < 12) : CVD (closeR w) := by
  have m := hv.1.mv (w' := closeR w) (fun a _ _ => funext fun j => closeR_o (by omega))
  refine ⟨m.1, ?_, (closeR_o (by decide)).trans hv.2.2⟩
  have x0 : (closeR w).1 13 0 = nI (nd w + 1) := u_s
  have y7 : (closeR w).1 13 7 = w.1 13 7 := closeR_o (by decide)
  have y9 : (closeR w).1 13 9 = w.1 13 9 := closeR_o (by decide)
  obtain ⟨-, -, d3, d4, d5, d6⟩ := hv.2.1
  unfold DV
  rw [show nd (closeR w) = nd w + 1 from N_of x0, x0, show nb (closeR w) = nb w from N_cg y7, show nc (closeR w) = nc w from N_cg y9, y7, y9]
  exact ⟨rfl, by omega, d3, d4, d5, d6⟩
/-- the end of a rule -/
theorem z97E {u0 : Wd} {x : Int32} {Q : Wd → Prop} (G : Gd h w u) (O : OpD h w u) (f : PFr h u0 u) (hq : ∀ u', Rl h u0 (fEnd w) u' → Q u') : Z m_M_readRule (d + 5) (qV Q) 97 [(0, .ref 58), (1, .int (x)), (2, .int (nI 0))] [] u := by
  obtain ⟨S, ⟨hn, h2⟩, hv, D⟩ := id G
  obtain ⟨lf, lr⟩ := O.left
  have f8 := G.f8
  have bad : w.1 16 (nd w) = -nI 1 ∨ w.1 17 (nd w) = -nI 1 → ∃ Q2 : Wd → Prop, EvV m_M_wrong (d + 4) [.ref 58, .int (nI 1)] u Q2 ∧ ∀ w2, Q2 w2 → ∃ Q3 : Wd → Prop, EvV m_M_takeSign (d + 4) [.ref 58, .int (nI 59)] w2 Q3 ∧ ∀ w3, Q3 w3 → ∃ j3 : Nat, (w3.1 58 11) = nI j3 ∧ j3 < 2 ∧ ∃ j4 : Nat, (w3.1 58 11) = nI j4 ∧ j4 < 2 ∧ Q (up1 w3 64 j4 ((w3.1 64 j3) + (nI 1))) := fun e => by
    refine ⟨_, c_wrong (d := d + 4) S 1, ?_⟩
    rintro u2 rfl
    obtain ⟨B, F⟩ := Bd.of (u := up1 u 58 8 ((flt w 1).1 24 3)) (n := 1) hv.1 (by omega) (by omega) u_s
    have E : fEnd w = flt w 1 := if_pos e
    have FF' : FSt h u0 (fEnd w) (up1 u 58 8 ((flt w 1).1 24 3)) := ⟨F, f.tr (PFr.p (by omega)), by rw [E]; exact B, (u_o (by omega)).trans hn⟩
    refine ⟨_, c_takeSignF (d := d + 3) F _, ?_⟩
    rintro U1 rfl
    exact ⟨h, FF'.2.2.2, h2, h, FF'.2.2.2, h2, hq _ (FF'.up (by unfold PC; omega) (by omega) (by omega)).rl⟩
  refine vc_M_readRule_97 _ _ ⟨fun _ => ⟨fun g => absurd f8 g, fun _ => ⟨fun g => bad (Or.inl (lf.mpr g)), fun g => ⟨fun g2 => ?_, fun g2 => bad (Or.inr (lr.mpr g2))⟩⟩⟩, fun g => absurd rfl g⟩
  have hl' : ¬ w.1 16 (nd w) = -nI 1 := fun e => g (lf.mp e)
  have hr' : ¬ w.1 17 (nd w) = -nI 1 := fun e => g2 (lr.mp e)
  have E : fEnd w = bS (sgs (-nI 5) w) closeR := if_neg (fun e => e.elim hl' hr')
  refine rsig (d := d + 3) S hv (k := 59) (c := -nI 5) (by omega) (by decide) (by decide) (fun e3 hv3 S4 => ?_) (fun u' hu' e0 B F => ?_)
  · have r1 : ∀ a k, ¬ (a = 58 ∧ k = 7) → (up1 u 58 7 (nI (tk w + 1))).1 a k = u.1 a k := fun a k ha => u_o ha
    have f1 : PFr h u0 (up1 u 58 7 (nI (tk w + 1))) := f.tr (PFr.p (by omega))
    generalize up1 u 58 7 (nI (tk w + 1)) = u1 at *
    have r11 : u1.1 58 11 = nI h := (r1 58 11 (by omega)).trans hn
    refine ⟨h, r11, h2, h, r11, h2, hq _ ⟨f1.tr (PFr.up (by unfold PC; omega)), Or.inl ?_⟩⟩
    have n1 : nd (adw w) = nd w := (nb_adw w).2.2
    have d64 : u1.1 64 h = nI (nd w) := (r1 64 h (by omega)).trans D.1.2
    rw [E, bS_t e3, d64, nI_add]
    refine ⟨?_, ⟨(u_o (by omega)).trans r11, h2⟩, hv3.clR (by rw [n1]; exact O.1), ?_⟩
    · exact S4.mv (fun a _ _ => funext fun j => closeR_o (by omega)) (u_o (by omega)) (u_o (by omega)) (up1_off 60 (by decide)) (up1_off 61 (by decide)) (up1_2 _ _ _ _)
    · have D1 : Dr h (adw w) u := D.mv (fun a k _ _ => adw_o (by omega)) (fun _ _ _ _ => rfl)
      have O1 : OpD h (adw w) u := by
        have i1 : itn (adw w) = itn w := (adw_it w).1
        unfold OpD ItD
        rw [n1, i1]
        have c : ∀ a k, ¬ (a = 10 ∧ k = 3) → (adw w).1 a k = w.1 a k := fun a k ha => adw_o ha
        rw [c 14 _ (by omega), c 15 _ (by omega), c 16 _ (by omega), c 17 _ (by omega)]
        obtain ⟨p1, p2, p3, p4, p5, a, b, p6, p7, p8, p9, p10, p11⟩ := O
        refine ⟨p1, p2, p3, p4, p5, a, b, p6, p7, p8, p9, p10, fun i hi => ?_⟩
        rw [c 18 _ (by omega), c 19 _ (by omega)]
        exact p11 i hi
      refine D1.close O1 (by rw [n1, adw_o (by omega)]; exact hl') (by rw [n1, adw_o (by omega)]; exact hr') (fun a k h1 h3 h4 => ?_) (by rw [u_s, n1])
      rw [u_o h4, r1 a k (by omega)]
  · have Ef : (sgs (-nI 5) w).2 = fEnd w := by rw [E, bS_f e0]
    rw [Ef] at B
    have FF' := FSt.sg f hn hu' B F
    exact ⟨h, FF'.2.2.2, h2, h, FF'.2.2.2, h2, hq _ (FF'.up (by unfold PC; omega) (by omega) (by omega)).rl⟩
theorem add_it (o : OV w) (hi : itn w < 10) (k v : Int32) (role : Nat) : itn (addI w k v role) = itn w + 1 ∧ nd (addI w k v role) = nd w := ⟨(o.adI hi k v role).2, addI_nd w k v role⟩
theorem num_it {lo hi : Nat} (hh : hi ≤ 100) (hl' : lo ≤ 100) (o : OV w) (hi' : itn w < 10) (e : ¬ (nmb lo hi (adw w)).1 = -nI 1) (k : Int32) (role : Nat) : itn (addI (nmb lo hi (adw w)).2 k (nmb lo hi (adw w)).1 role) = itn w + 1 ∧ nd (addI (nmb lo hi (adw w)).2 k (nmb lo hi (adw w)).1 role) = nd w := by
  obtain ⟨i1, n1⟩ := adw_it w
  obtain ⟨i2, n2⟩ := adw_it (adw w)
  rcases num_cases (w := adw w) lo hi (by omega) (by omega) with ⟨a, -, -⟩ | ⟨n, -, -, -, e'⟩
  · exact absurd a e
  · rw [e']
    obtain ⟨x1, x2⟩ := add_it o.adv.adv (by rw [i2, i1]; exact hi') k (nI n) role
    exact ⟨by rw [x1, i2, i1], by rw [x2, n2, n1]⟩
theorem fSpec_it {role : Nat} (o : OV w) (hi : itn w < 10) (e : (fSpec role w).1 = nI 1) : itn (fSpec role w).2 = itn w + 1 ∧ nd (fSpec role w).2 = nd w := by
  obtain ⟨i1, n1⟩ := adw_it w
  unfold fSpec at e ⊢
  by_cases c13 : cd w = -nI 13
  · rw [if_pos c13] at e ⊢
    by_cases x : (nmb 1 100 (adw w)).1 = -nI 1
    · rw [if_pos x] at e; exact absurd (show nI 0 = nI 1 from e) (by decide)
    · rw [if_neg x]; exact num_it (by omega) (by omega) o hi x _ _
  · rw [if_neg c13] at e ⊢
    by_cases c14 : cd w = -nI 14
    · rw [if_pos c14] at e ⊢
      by_cases x : (nmb 0 9 (adw w)).1 = -nI 1
      · rw [if_pos x] at e; exact absurd (show nI 0 = nI 1 from e) (by decide)
      · rw [if_neg x]; exact num_it (by omega) (by omega) o hi x _ _
    · rw [if_neg c14] at e ⊢
      by_cases c15 : cd w = -nI 15
      · rw [if_pos c15]
        obtain ⟨x1, x2⟩ := add_it o.adv (by rw [i1]; exact hi) (nI 2) (nI 0) role
        exact ⟨by rw [x1, i1], by rw [x2, n1]⟩
      · rw [if_neg c15] at e; exact absurd (show nI 0 = nI 1 from e) (by decide)
theorem fItem_it (o : OV w) (e : (fItem (itn w) w).1 = nI 1) : itn (fItem (itn w) w).2 = itn w + 1 ∧ nd (fItem (itn w) w).2 = nd w := by
  obtain ⟨i1, n1⟩ := adw_it w
  have o3 := o.2.2
  have no : ∀ v : Wd, ¬ (nI 0, v).1 = nI 1 := fun v x => absurd (show nI 0 = nI 1 from x) (by decide)
  have hi : itn w < 10 := by
    rcases Nat.lt_or_ge (itn w) 10 with x | x
    · exact x
    · exfalso
      unfold fItem at e
      simp only [if_pos x] at e
      repeat' split at e
      all_goals exact absurd e (no _)
  have nle : ¬ 10 ≤ itn w := by omega
  by_cases c10 : cd w = -nI 10
  · rw [fItem_1 c10] at e ⊢
    by_cases x : ¬ w.1 16 (nd w) = -nI 1
    · rw [if_pos x] at e; exact absurd e (no _)
    · rw [if_neg x, if_neg nle] at e ⊢
      obtain ⟨y1, y2⟩ := fSpec_it o.adv (by rw [i1]; exact hi) e
      exact ⟨by rw [y1, i1], by rw [y2, n1]⟩
  · by_cases c11 : cd w = -nI 11
    · rw [fItem_2 c11] at e ⊢
      by_cases x : ¬ w.1 17 (nd w) = -nI 1
      · rw [if_pos x] at e; exact absurd e (no _)
      · rw [if_neg x, if_neg nle] at e ⊢
        obtain ⟨y1, y2⟩ := fSpec_it o.adv (by rw [i1]; exact hi) e
        exact ⟨by rw [y1, i1], by rw [y2, n1]⟩
    · by_cases c12 : cd w = -nI 12
      · rw [fItem_3 c12, if_neg nle]
        obtain ⟨x1, x2⟩ := add_it o.adv (by rw [i1]; exact hi) (nI 3) (nI 0) 0
        exact ⟨by rw [x1, i1], by rw [x2, n1]⟩
      · rw [fItem_0 c10 c11 c12] at e ⊢
        by_cases x : cd w = -nI 13 ∨ cd w = -nI 14 ∨ cd w = -nI 15
        · rw [if_pos x, if_neg nle] at e ⊢
          exact fSpec_it o hi e
        · rw [if_neg x] at e; exact absurd e (no _)
/-- the items, one behind the other -/
theorem z97 {u0 : Wd} {Q : Wd → Prop} (h2 : h < 2) : ∀ m w u, m ≤ 11 → itn w = 11 - m → Gd h w u → OpD h w u → PFr h u0 u → (¬ cd w = -nI 5 ∨ itn w = 0) → ∀ n, n = nd w → (∀ u', Rl h u0 (fItems m w) u' → Q u') → Z m_M_readRule (d + 5) (qV Q) 97 [(0, .ref 58), (1, .int (nI (12 * h + n))), (2, .int (nI 1))] [] u
  | 0, w, u, hm, hi, G, O, f, hc, n, en, hq => by
    have := O.2.2.1
    omega
  | m + 1, w, u, hm, hi, G, O, f, hc, n, en, hq => by
    have o3 := O.2.2.1
    subst en
    have ek : 10 - m = itn w := by omega
    refine vc_M_readRule_97 _ _ ⟨fun g => absurd g (by decide), fun _ => ⟨_, c_M_item (d := d) G O, ?_⟩⟩
    rintro u1 ⟨f1, (⟨e1, G1, O1⟩ | ⟨e0, B, F⟩)⟩
    · -- read
      have hc5 : ¬ cd w = -nI 5 := fun e => by
        rw [fItem_0 (by rw [e]; decide) (by rw [e]; decide) (by rw [e]; decide), if_neg (by rw [e]; decide)] at e1
        exact absurd (show nI 0 = nI 1 from e1) (by decide)
      have E : fItems (m + 1) w = fItems m (fItem (itn w) w).2 := by
        rw [fItems, if_neg hc5, ek, if_neg (by rw [e1]; decide)]
      rw [E] at hq
      have i2 : itn (fItem (itn w) w).2 = itn w + 1 ∧ nd (fItem (itn w) w).2 = nd w := by
        exact fItem_it O.ov e1
      generalize (fItem (itn w) w).2 = w1 at *
      refine ⟨fun g => absurd G1.f8 g, fun _ => ⟨_, c_isSign (d := d + 4) G1.1 (k := 59) (by omega), ?_⟩⟩
      rintro r u2 ⟨rfl, hr⟩
      have hr : Bo (cd w1 = -nI 5) r := hr
      have o3' := O1.2.2.1
      obtain ⟨m', rfl⟩ : ∃ m', m = m' + 1 := ⟨m - 1, by omega⟩
      refine ⟨fun g => z97E G1 O1 (f.tr f1) (fun u' R => hq u' (by rw [fItems, if_pos (hr.n g)]; exact R)), fun g => ?_⟩
      exact z97 h2 (m' + 1) w1 _ (by omega) (by omega) G1 O1 (f.tr f1) (Or.inl (hr.z g)) _ i2.2.symm hq
    · -- a fault
      have E : fItems (m + 1) w = (fItem (itn w) w).2 := by
        by_cases hc5 : cd w = -nI 5
        · have i0 : itn w = 0 := hc.elim (fun x => absurd hc5 x) id
          rw [fItems, if_pos hc5, fItem_0 (by rw [hc5]; decide) (by rw [hc5]; decide) (by rw [hc5]; decide), if_neg (by rw [hc5]; decide)]
          obtain ⟨-, -, -, -, -, a, b, l1, -⟩ := O
          rcases l1 with ⟨x, -⟩ | ⟨-, x⟩
          · omega
          · exact if_pos (Or.inl x)
        · rw [fItems, if_neg hc5, ek, if_pos (show (fItem (itn w) w).1 = 0 from e0)]
      rw [← E] at B
      refine ⟨fun _ => z97F h2 ⟨F, f.tr f1, B, ?_⟩ hq, fun g => absurd g F.n.1⟩
      exact (f1.1 58 11 (by unfold PC; omega)).trans G.2.1.1
end
