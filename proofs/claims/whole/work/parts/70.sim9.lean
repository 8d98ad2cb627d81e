/-! TEXT: the reference beside the class: statements -/
section
variable {h : Nat} {w u : Wd} {d : Nat}
theorem openR_c (w : Wd) (x : Int32) : (∀ j, (openR w x).1 14 j = if j = nd w then x else w.1 14 j) ∧ (∀ j, (openR w x).1 15 j = if j = nd w then nI 0 else w.1 15 j) ∧ (∀ j, (openR w x).1 16 j = if j = nd w then -nI 1 else w.1 16 j) ∧ (∀ j, (openR w x).1 17 j = if j = nd w then -nI 1 else w.1 17 j) ∧ nd (openR w x) = nd w := by
  refine ⟨fun j => ?_, fun j => ?_, fun j => ?_, fun j => ?_, N_cg (openR_o (by decide))⟩
  · unfold openR
    rw [u_o (by omega), u_o (by omega), u_o (by omega), up1_1]; simp
  · unfold openR
    rw [u_o (by omega), u_o (by omega), up1_1]
    by_cases e : j = nd w
    · rw [if_pos ⟨rfl, e⟩, if_pos e]
    · rw [if_neg (fun x => e x.2), if_neg e, u_o (by omega)]
  · unfold openR
    rw [u_o (by omega), up1_1]
    by_cases e : j = nd w
    · rw [if_pos ⟨rfl, e⟩, if_pos e]
    · rw [if_neg (fun x => e x.2), if_neg e, u_o (by omega), u_o (by omega)]
  · unfold openR
    rw [up1_1]
    by_cases e : j = nd w
    · rw [if_pos ⟨rfl, e⟩, if_pos e]
    · rw [if_neg (fun x => e x.2), if_neg e, u_o (by omega), u_o (by omega), u_o (by omega)]
theorem CVD.opR (hv : CVD w) (x : Int32) : CVD (openR w x) := by
  have m := hv.1.mv (w' := openR w x) (fun a _ _ => funext fun j => openR_o (by omega))
  exact ⟨m.1, hv.2.1.mv3 (openR_o (by decide)) (openR_o (by decide)) (openR_o (by decide)), (openR_o (by decide)).trans hv.2.2⟩
/-- a rule begins -/
theorem OpD.new {u' : Wd} {n : Nat} (D : Dr h w u) (hb : nd w < 12) (hn : n < 10) (r64 : u'.1 64 h = u.1 64 h) (r71 : ∀ a k, 71 ≤ a → a ≤ 75 → u'.1 a k = u.1 a k) (r65 : ∀ k, u'.1 65 k = if k = 12 * h + nd w then nI n else u.1 65 k) (r66 : ∀ k, u'.1 66 k = if k = 12 * h + nd w then nI 0 else u.1 66 k) (r67 : ∀ a k, 67 ≤ a → a ≤ 70 → u'.1 a k = u.1 a k) (r24 : u'.1 58 24 = 0) (r25 : u'.1 58 25 = 0) : OpD h (openR w (nI n)) u' ∧ Dr h (openR w (nI n)) u' := by
  obtain ⟨a14, a15, a16, a17, en⟩ := openR_c w (nI n)
  have ei : itn (openR w (nI n)) = 0 := by
    unfold itn
    rw [en]
    exact N_of (by rw [a15, if_pos rfl])
  constructor
  · unfold OpD
    rw [en, ei, a14, a15, a16, a17, if_pos rfl, if_pos rfl, if_pos rfl, if_pos rfl, r65, r66, if_pos rfl, if_pos rfl, r24, r25]
    exact ⟨hb, ⟨n, hn, rfl, rfl⟩, by omega, rfl, rfl, 99, 99, Or.inr ⟨rfl, rfl⟩, Or.inr ⟨rfl, rfl⟩, Or.inr rfl, Or.inr ⟨rfl, rfl⟩, Or.inr ⟨rfl, rfl⟩, fun i hi => absurd hi (Nat.not_lt_zero _)⟩
  · refine D.op (fun k => openR_o (by omega)) (fun a k h1 h3 => openR_o (by omega)) (fun a r h1 h3 hr' => ?_) (fun a r i ha hr' hi => openR_o (by omega)) r64 r71 (fun a r ha hr' => ?_) (fun a r i h1 h3 hr' hi => r67 a _ h1 h3)
    · have : a = 14 ∨ a = 15 ∨ a = 16 ∨ a = 17 := by omega
      rcases this with rfl | rfl | rfl | rfl
      · rw [a14, if_neg (by omega)]
      · rw [a15, if_neg (by omega)]
      · rw [a16, if_neg (by omega)]
      · rw [a17, if_neg (by omega)]
    · rcases ha with rfl | rfl
      · rw [r65, if_neg (by omega)]
      · rw [r66, if_neg (by omega)]
def C65 (h n a k : Nat) : Prop := a = 65 ∧ k = 12 * h + n
theorem c_M_readRule (G : Gd h w u) (hc : cd w = -nI 6) : EvV m_M_readRule (d + 5) [.ref 58] u (fun u' => Rl h u (fRule w) u') := by
  obtain ⟨S, ⟨hn, h2⟩, hv, D⟩ := id G
  obtain ⟨⟨d1, d1'⟩, -⟩ := id D
  have hc1 : ¬ cd w = -nI 1 := by rw [hc]; decide
  obtain ⟨hv1, tk1⟩ := hv.adv hc1
  refine ev_M_readRule (vc_M_readRule_0 ⟨h, hn, h2, fun g => ⟨h, hn, h2, ?_⟩, fun g => ⟨_, c_wrong (d := d + 4) S 5, ?_⟩⟩)
  · rw [d1'] at g
    have hb : nd w < 12 := by
      rcases Nat.lt_or_ge (nd w) 12 with x | x
      · exact x
      · exact absurd (by rw [show nd w = 12 by omega]) g
    have E : fRule w = bN (nmb 0 9 (adw w)) (fun x w => bS (sgs (-nI 3) w) (fun w => fItems 11 (openR w x))) := if_pos hb
    have I0 : IS h (C65 h (nd w)) u w u := ⟨S, hv, PFr.rf, fun _ _ _ _ => rfl⟩
    have I1 := I0.to (S.next hc1) hv1
    rw [S.at, nI_add]
    have hx : nI 12 * u.1 58 11 + u.1 64 h = nI (12 * h + nd w) := by rw [hn, d1', pk_mul, nI_add]
    rw [hx]
    generalize up1 u 58 7 (nI (tk w + 1)) = u1 at *
    have i11 : ∀ {w2 U : Wd}, IS h (C65 h (nd w)) u w2 U → U.1 58 11 = nI h := fun I => (I.2.2.2 58 11 (by omega) (by unfold C65; omega)).trans hn
    have fault : ∀ U, FSt h u (fRule w) U → ∃ j4 : Nat, nI (12 * h + nd w) = nI j4 ∧ j4 < 24 ∧ (nI 0 = 0 ∨ nI 0 = 1) ∧ (nI 0 = 0 ∨ nI 0 = 1) ∧ ((¬ (U.1 58 8) = 0 → Z m_M_readRule (d + 5) (qV (fun u' => Rl h u (fRule w) u')) 97 [(0, .ref 58), (1, .int (nI (12 * h + nd w))), (2, .int (nI 0))] [] (up1 (up1 (up1 U 66 j4 (nI 0)) 58 24 (nI 0)) 58 25 (nI 0))) ∧ ((U.1 58 8) = 0 → Z m_M_readRule (d + 5) (qV (fun u' => Rl h u (fRule w) u')) 97 [(0, .ref 58), (1, .int (nI (12 * h + nd w))), (2, .int (nI 1))] [] (up1 (up1 (up1 U 66 j4 (nI 0)) 58 24 (nI 0)) 58 25 (nI 0)))) := fun U F => by
      refine ⟨12 * h + nd w, rfl, by omega, Or.inl rfl, Or.inl rfl, fun _ => ?_, fun g => absurd g F.1.n.1⟩
      exact z97F h2 (((F.up (by unfold PC; omega) (by omega) (by omega)).up (by unfold PC; omega) (by omega) (by omega)).up (by unfold PC; omega) (by omega) (by omega)) (fun _ k => k)
    refine rnum (d := d + 3) I1.1 hv1 (by omega) (by omega) (fun n n1 n2 en hv2 S2 => ?_) (fun u' hu' e0 B F => ?_)
    · have I2 := (I1.to S2 hv2).up (a := 65) (k := 12 * h + nd w) (v := nI n) (by unfold PC; omega) (by unfold C65; omega) (by decide)
      refine ⟨12 * h + nd w, rfl, by omega, ?_⟩
      have c0 : (up1 (up1 u1 58 7 (nI (tk (adw w) + 1))) 65 (12 * h + nd w) (nI n)).1 65 (12 * h + nd w) = nI n := u_s
      generalize up1 (up1 u1 58 7 (nI (tk (adw w) + 1))) 65 (12 * h + nd w) (nI n) = u2 at *
      refine rsig (d := d + 3) I2.1 hv2 (k := 58) (c := -nI 3) (by omega) (by decide) (by decide) (fun e3 hv3 S4 => ?_) (fun u' hu' e0 B F => ?_)
      · have I3 := I2.to S4 hv3
        have c0 : (up1 u2 58 7 (nI (tk (adw (adw w)) + 1))).1 65 (12 * h + nd w) = nI n := (u_o (by omega)).trans c0
        generalize up1 u2 58 7 (nI (tk (adw (adw w)) + 1)) = u3 at *
        have n3 : nd (adw (adw (adw w))) = nd w := by rw [(nb_adw _).2.2, (nb_adw _).2.2, (nb_adw _).2.2]
        have cw : ∀ a k, 13 ≤ a → a ≤ 23 → (adw (adw (adw w))).1 a k = w.1 a k := fun a k _ _ => by rw [adw_o (by omega), adw_o (by omega), adw_o (by omega)]
        have Ef : fRule w = fItems 11 (openR (adw (adw (adw w))) (nI n)) := by rw [E, bN_t en (by omega), bS_t e3]
        have f8 : u3.1 58 8 = nI 0 := by
          obtain ⟨s, T, q2, q3, q4, q5⟩ := I3.1
          exact q5
        refine ⟨12 * h + nd w, rfl, by omega, Or.inl rfl, Or.inl rfl, fun g => absurd f8 g, fun _ => ?_⟩
        rw [Ef]
        generalize adw (adw (adw w)) = w3 at *
        have D3 : Dr h w3 u := D.mv cw (fun _ _ _ _ => rfl)
        have o4 : ∀ a k, ¬ (a = 66 ∧ k = 12 * h + nd w) → ¬ (a = 58 ∧ (k = 24 ∨ k = 25)) → (up1 (up1 (up1 u3 66 (12 * h + nd w) (nI 0)) 58 24 (nI 0)) 58 25 (nI 0)).1 a k = u3.1 a k := fun a k h1 h3 => by rw [u_o (by omega), u_o (by omega), u_o h1]
        have e66 : (up1 (up1 (up1 u3 66 (12 * h + nd w) (nI 0)) 58 24 (nI 0)) 58 25 (nI 0)).1 66 (12 * h + nd w) = nI 0 := by rw [u_o (by omega), u_o (by omega), u_s]
        have e24 : (up1 (up1 (up1 u3 66 (12 * h + nd w) (nI 0)) 58 24 (nI 0)) 58 25 (nI 0)).1 58 24 = 0 := by rw [u_o (by omega), u_s]; rfl
        have e25 : (up1 (up1 (up1 u3 66 (12 * h + nd w) (nI 0)) 58 24 (nI 0)) 58 25 (nI 0)).1 58 25 = 0 := by rw [u_s]; rfl
        have f4 : PFr h u (up1 (up1 (up1 u3 66 (12 * h + nd w) (nI 0)) 58 24 (nI 0)) 58 25 (nI 0)) := I3.2.2.1.tr (((PFr.up (by unfold PC; omega)).tr (PFr.p (by omega))).tr (PFr.p (by omega)))
        have g4 : (up1 (up1 (up1 u3 66 (12 * h + nd w) (nI 0)) 58 24 (nI 0)) 58 25 (nI 0)).2 = u3.2 := (up1_2 _ _ _ _).trans ((up1_2 _ _ _ _).trans (up1_2 _ _ _ _))
        generalize up1 (up1 (up1 u3 66 (12 * h + nd w) (nI 0)) 58 24 (nI 0)) 58 25 (nI 0) = u4 at *
        have ru : ∀ a k, ¬ (a = 58 ∧ (k = 7 ∨ k = 24 ∨ k = 25)) → ¬ (a = 66 ∧ k = 12 * h + nd w) → ¬ (a = 65 ∧ k = 12 * h + nd w) → u4.1 a k = u.1 a k := fun a k h1 h3 h4 => (o4 a k h3 (by omega)).trans (I3.2.2.2 a k (by omega) (by unfold C65; omega))
        obtain ⟨O4, D4⟩ := OpD.new (h := h) (w := w3) (u := u) (u' := u4) (n := n) D3 (by rw [n3]; exact hb) (by omega) (ru 64 h (by omega) (by omega) (by omega)) (fun a k h1 h3 => ru a k (by omega) (by omega) (by omega)) (fun k => by
          rw [n3]
          by_cases e : k = 12 * h + nd w
          · rw [if_pos e, e, o4 _ _ (by omega) (by omega), c0]
          · rw [if_neg e]; exact ru 65 k (by omega) (by omega) (by omega)) (fun k => by
          rw [n3]
          by_cases e : k = 12 * h + nd w
          · rw [if_pos e, e, e66]
          · rw [if_neg e]; exact ru 66 k (by omega) (by omega) (by omega)) (fun a k h1 h3 => ru a k (by omega) (by omega) (by omega)) e24 e25
        have S5 : Sy (openR w3 (nI n)) u4 := I3.1.mv (fun a _ _ => funext fun j => openR_o (by omega)) (o4 _ _ (by omega) (by omega)) (o4 _ _ (by omega) (by omega)) (funext fun j => o4 _ _ (by omega) (by omega)) (funext fun j => o4 _ _ (by omega) (by omega)) g4
        obtain ⟨-, a15, -, -, en'⟩ := openR_c w3 (nI n)
        have ei : itn (openR w3 (nI n)) = 0 := by
          unfold itn
          rw [en']
          exact N_of (by rw [a15, if_pos rfl])
        exact z97 h2 11 (openR w3 (nI n)) u4 (Nat.le_refl _) ei ⟨S5, ⟨(o4 _ _ (by omega) (by omega)).trans (i11 I3), h2⟩, hv3.opR _, D4⟩ O4 f4 (Or.inr ei) (nd w) (by rw [en', n3]) (fun _ k => k)
      · have Ef : (sgs (-nI 3) (adw (adw w))).2 = fRule w := by rw [E, bN_t en (by omega), bS_f e0]
        rw [Ef] at B
        exact fault _ (FSt.sg I2.2.2.1 (i11 I2) hu' B F)
    · have Ef : (nmb 0 9 (adw w)).2 = fRule w := by rw [E, bN_f e0]
      rw [Ef] at B
      have F1 := (FSt.num I1.2.2.1 (i11 I1) hu' B F).up (a := 65) (k := 12 * h + nd w) (v := nI 0) (by unfold PC; omega) (by omega) (by omega)
      refine ⟨12 * h + nd w, rfl, by omega, _, c_takeSignF (d := d + 3) F1.1 _, ?_⟩
      rintro w5 rfl
      exact fault _ F1
  · rintro w11 rfl
    rw [d1'] at g
    have : nd w = 12 := nI_inj (by omega) (by omega) g
    refine ⟨PFr.p (by omega), Or.inr ?_⟩
    have E : fRule w = flt w 5 := if_neg (by omega)
    rw [E]
    exact (Bd.of hv.1 (by omega) (by omega) (by rw [u_s])).1
/-- a statement -/
theorem c_M_statement (G : Gd h w u) : EvV m_M_statement (d + 6) [.ref 58] u (fun u' => Rl h u (fStmt w) u') := by
  obtain ⟨S, ⟨hn, h2⟩, hv, D⟩ := id G
  refine ev_M_statement (vc_M_statement_0 ⟨_, c_isWord (d := d + 5) S (k := 0) (by decide), ?_⟩)
  rintro r u1 ⟨rfl, h0⟩
  have h0 : Bo (cd w = -nI 6) r := h0
  refine ⟨fun g0 => ⟨_, c_isWord (d := d + 5) S (k := 1) (by decide), ?_⟩, fun g0 => ⟨_, c_M_readRule (d := d) G (h0.n g0), ?_⟩⟩
  · rintro r u2 ⟨rfl, h1⟩
    have h1 : Bo (cd w = -nI 7) r := h1
    refine ⟨fun g1 => ⟨_, c_isWord (d := d + 5) S (k := 2) (by decide), ?_⟩, fun g1 => ?_⟩
    · rintro r u1 ⟨rfl, h8⟩
      have h8 : Bo (cd w = -nI 8) r := h8
      refine ⟨fun g8 => ⟨_, c_hasWord (d := d + 4) S (k := 3) (by decide), ?_⟩, fun g8 => ⟨_, c_M_readChain (d := d + 3) G (h8.n g8), ?_⟩⟩
      · rintro r u2 (⟨c9, rfl, rfl⟩ | ⟨c9, rfl, rfl⟩)
        · have c9 : cd w = -nI 9 := c9
          refine ⟨fun g => absurd g (by decide), fun _ => ?_⟩
          have hc : ¬ cd w = -nI 1 := by rw [c9]; decide
          have E0 : fStmt w = fSing w := if_pos c9
          have E : fSing w = bN (nmb 0 9 (adw w)) (fun x w => bS (sgs (-nI 5) w) (fun w => addS w x)) := rfl
          have hv1 := (hv.adv hc).1
          have S1 := S.next hc
          have f1 : PFr h u1 (up1 u1 58 7 (nI (tk w + 1))) := PFr.p (by omega)
          have r1 : ∀ a k, ¬ (a = 58 ∧ k = 7) → (up1 u1 58 7 (nI (tk w + 1))).1 a k = u1.1 a k := fun a k ha => u_o ha
          generalize up1 u1 58 7 (nI (tk w + 1)) = v1 at *
          refine rnum (d := d + 4) S1 hv1 (by omega) (by omega) (fun n n1 n2 en hv2 S2 => ?_) (fun u' hu' e0 B F => ?_)
          · have f2 : PFr h u1 (up1 v1 58 7 (nI (tk (adw w) + 1))) := f1.tr (PFr.p (by omega))
            have r2 : ∀ a k, ¬ (a = 58 ∧ k = 7) → (up1 v1 58 7 (nI (tk (adw w) + 1))).1 a k = u1.1 a k := fun a k ha => (u_o ha).trans (r1 a k ha)
            generalize up1 v1 58 7 (nI (tk (adw w) + 1)) = v2 at *
            refine rsig (d := d + 4) S2 hv2 (k := 59) (c := -nI 5) (by omega) (by decide) (by decide) (fun e3 hv3 S4 => ?_) (fun u' hu' e0 B F => ?_)
            · have f3 : PFr h u1 (up1 v2 58 7 (nI (tk (adw (adw w)) + 1))) := f2.tr (PFr.p (by omega))
              have r3 : ∀ a k, ¬ (a = 58 ∧ k = 7) → (up1 v2 58 7 (nI (tk (adw (adw w)) + 1))).1 a k = u1.1 a k := fun a k ha => (u_o ha).trans (r2 a k ha)
              generalize up1 v2 58 7 (nI (tk (adw (adw w)) + 1)) = v3 at *
              have r11 : v3.1 58 11 = nI h := (r3 58 11 (by omega)).trans hn
              refine ⟨10 * h + n, by rw [r11, pk_mul, nI_add], by omega, Or.inr rfl, ?_⟩
              refine ⟨f3.tr (PFr.up (by unfold PC; omega)), Or.inl ?_⟩
              have Ef : fStmt w = addS (adw (adw (adw w))) (nI n) := by rw [E0, E, bN_t en (by omega), bS_t e3]
              rw [Ef]
              refine ⟨?_, ⟨(u_o (by omega)).trans r11, h2⟩, (hv3.adS _).1, ?_⟩
              · exact S4.mv (fun a _ _ => funext fun j => addS_o (by omega)) (u_o (by omega)) (u_o (by omega)) (up1_off 60 (by decide)) (up1_off 61 (by decide)) (up1_2 _ _ _ _)
              · have D3 : Dr h (adw (adw (adw w))) u1 := D.mv (fun a k _ _ => by rw [adw_o (by omega), adw_o (by omega), adw_o (by omega)]) (fun _ _ _ _ => rfl)
                refine D3.sing (by omega) (fun a k h1 h3 h4 => ?_) (fun k => ?_)
                · rw [u_o (by omega), r3 a k (by omega)]
                · rw [up1_1]
                  by_cases e : k = 10 * h + n
                  · rw [if_pos ⟨rfl, e⟩, if_pos e]
                  · rw [if_neg (fun q => e q.2), if_neg e, r3 75 k (by omega)]
            · have Ef : (sgs (-nI 5) (adw (adw w))).2 = fStmt w := by rw [E0, E, bN_t en (by omega), bS_f e0]
              rw [Ef] at B
              have F1 := FSt.sg f2 ((r2 58 11 (by omega)).trans hn) hu' B F
              exact ⟨10 * h + n, by rw [F1.2.2.2, pk_mul, nI_add], by omega, Or.inr rfl, (F1.up (by unfold PC; omega) (by omega) (by omega)).rl⟩
          · have Ef : (nmb 0 9 (adw w)).2 = fStmt w := by rw [E0, E, bN_f e0]
            rw [Ef] at B
            have F1 := FSt.num f1 ((r1 58 11 (by omega)).trans hn) hu' B F
            refine ⟨_, c_takeSignF (d := d + 4) F1.1 _, ?_⟩
            rintro w5 rfl
            exact ⟨10 * h + 0, by rw [F1.2.2.2, pk_mul, nI_add], by omega, Or.inr rfl, (F1.up (by unfold PC; omega) (by omega) (by omega)).rl⟩
        · have c9 : ¬ cd w = -nI 9 := c9
          refine ⟨fun _ => ⟨_, c_wrong (d := d + 5) S.stay 1, ?_⟩, fun g => absurd rfl g⟩
          rintro u3 rfl
          have E : fStmt w = flt w 1 := by
            unfold fStmt
            rw [if_neg c9, if_neg (h8.z g8), if_neg (h1.z g1), if_neg (h0.z g0)]
          rw [E]
          exact ⟨(PFr.p (by omega)).tr (PFr.p (by omega)), Or.inr (Bd.of hv.1 (by omega) (by omega) u_s).1⟩
      · intro u3 R
        have E : fStmt w = fChain w := by
          unfold fStmt
          rw [if_neg (by rw [h8.n g8]; decide), if_pos (h8.n g8)]
        rw [E]
        exact R
    · have E : fStmt w = fBar w := by
        unfold fStmt
        rw [if_neg (by rw [h1.n g1]; decide), if_neg (by rw [h1.n g1]; decide), if_pos (h1.n g1)]
      rw [E]
      exact s_bar (d := d + 3) G (h1.n g1) (fun _ R => R)
  · intro u3 R
    have E : fStmt w = fRule w := by
      unfold fStmt
      rw [if_neg (by rw [h0.n g0]; decide), if_neg (by rw [h0.n g0]; decide), if_neg (by rw [h0.n g0]; decide), if_pos (h0.n g0)]
    rw [E]
    exact R
end
