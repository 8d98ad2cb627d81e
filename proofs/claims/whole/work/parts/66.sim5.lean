/-! TEXT: the reference beside the class: items -/
section
variable {h : Nat} {w u : Wd} {d : Nat}
theorem c_hasWord (S : Sy w u) {k : Nat} (hk : k < 10) : EvI m_M_hasWord (d + 1) [.ref 58, .int (nI k)] u (fun r u' => (cd w = -nI (cdk k) ∧ r = 1 ∧ u' = up1 u 58 7 (nI (tk w + 1))) ∨ (¬ cd w = -nI (cdk k) ∧ r = 0 ∧ u' = up1 u 58 7 (nI (tk w)))) := by
  refine ev_M_hasWord _ (vc_M_hasWord_0 _ ⟨_, c_isWord (d := d) S hk, ?_⟩)
  rintro r u1 ⟨rfl, hr⟩
  rw [S.at, nI_add, nI_add]
  refine ⟨fun g => ⟨Or.inl g, Or.inr ⟨hr.z g, g, rfl⟩⟩, fun g => ⟨hr.r, Or.inl ⟨hr.n g, hr.r.elim (fun e => absurd e g) id, rfl⟩⟩⟩
theorem Sy.stay (S : Sy w u) : Sy w (up1 u 58 7 (nI (tk w))) := S.mv (fun _ _ _ => rfl) (u_s.trans S.at.symm) (u_o (by decide)) (up1_off 60 (by decide)) (up1_off 61 (by decide)) (up1_2 _ _ _ _)
def CSp (x a k : Nat) : Prop := (a = 58 ∧ (k = 7 ∨ k = 8)) ∨ ((a = 69 ∨ a = 70) ∧ k = x)
def SpP (x : Nat) (w u u' : Wd) : Prop := (Sm (CSp x) u u' ∧ u'.2 = u.2) ∧ ((∃ w2 k v, (∀ role, fSpec role w = (nI 1, addI w2 k v role)) ∧ CVD w2 ∧ (∀ a j, ¬ (a = 10 ∧ j = 3) → w2.1 a j = w.1 a j) ∧ Sy w2 u' ∧ u'.1 69 x = k ∧ u'.1 70 x = v ∧ (k = nI 0 ∨ k = nI 1 ∨ k = nI 2)) ∨ ∃ w', (∀ role, fSpec role w = (nI 0, w')) ∧ Bd w' u' ∧ FU u')
theorem sp_num {lo hi x : Nat} {u0 : Wd} (hlo : lo ≤ 100) (hhi : hi ≤ 100) {K : Int32} (hK : K = nI 0 ∨ K = nI 1) (hv : CVD w) (hv1 : CVD (adw w)) (f : Sm (CSp x) u0 u ∧ u.2 = u0.2) (S1 : Sy (adw w) u) (e69 : u.1 69 x = K) (hE : ∀ role, fSpec role w = (if (nmb lo hi (adw w)).1 = -nI 1 then (nI 0, (nmb lo hi (adw w)).2) else (nI 1, addI (nmb lo hi (adw w)).2 K (nmb lo hi (adw w)).1 role))) : ∃ Q : Int32 → Wd → Prop, EvI m_M_takeNumber (d + 1) [.ref 58, .int (nI lo), .int (nI hi)] u Q ∧ ∀ r4 w4, Q r4 w4 → SpP x w u0 (up1 w4 70 x r4) := by
  refine rnum (d := d) (P := fun r4 w4 => SpP x w u0 (up1 w4 70 x r4)) S1 hv1 hlo hhi (fun n n1 n2 en hv2 S2 => ?_) (fun u' hu' e0 B F => ?_)
  · refine ⟨⟨f.1.tr ((Sm.up (by unfold CSp; omega)).tr (Sm.up (by unfold CSp; omega))), (up1_2 _ _ _ _).trans ((up1_2 _ _ _ _).trans f.2)⟩, Or.inl ⟨adw (adw w), K, nI n, fun role => ?_, hv2, fun a j ha => by rw [adw_o ha, adw_o ha], ?_, ?_, u_s, ?_⟩⟩
    · rw [hE, en, if_neg (nI_m1 (by omega))]
    · exact S2.mv (fun _ _ _ => rfl) (u_o (by omega)) (u_o (by omega)) (up1_off 60 (by decide)) (up1_off 61 (by decide)) (up1_2 _ _ _ _)
    · rw [u_o (by omega), u_o (by omega)]; exact e69
    · rcases hK with x | x
      · exact Or.inl x
      · exact Or.inr (Or.inl x)
  · obtain ⟨F0, v0, rfl⟩ := hu'
    refine ⟨⟨f.1.tr (((Sm.up (by unfold CSp; omega)).tr (Sm.up (by unfold CSp; omega))).tr (Sm.up (by unfold CSp; omega))), (up1_2 _ _ _ _).trans ((up1_2 _ _ _ _).trans ((up1_2 _ _ _ _).trans f.2))⟩, Or.inr ⟨_, fun role => by rw [hE, if_pos e0], B.mv (u_o (by omega)), F.mv (u_o (by omega))⟩⟩
theorem c_M_spec (S : Sy w u) (hv : CVD w) {x : Nat} (hx : x < 240) (e69 : u.1 69 x = nI 2) (e70 : u.1 70 x = nI 0) : EvV m_M_spec (d + 3) [.ref 58, .int (nI x)] u (fun u' => SpP x w u u') := by
  refine ev_M_spec _ (vc_M_spec_0 _ ⟨_, c_hasWord (d := d + 1) S (k := 7) (by decide), ?_⟩)
  rintro r u1 (⟨c7, rfl, rfl⟩ | ⟨c7, rfl, rfl⟩)
  · have c7 : cd w = -nI 13 := c7
    refine ⟨fun g => absurd g (by decide), fun _ => ⟨x, rfl, hx, ?_⟩⟩
    have hc : ¬ cd w = -nI 1 := by rw [c7]; decide
    obtain ⟨Q, q1, q2⟩ := sp_num (d := d + 1) (lo := 1) (hi := 100) (x := x) (u0 := u) (u := up1 (up1 u 58 7 (nI (tk w + 1))) 69 x (nI 0)) (K := nI 0) (by omega) (by omega) (Or.inl rfl) hv (hv.adv hc).1 ⟨(Sm.up (by unfold CSp; omega)).tr (Sm.up (by unfold CSp; omega)), (up1_2 _ _ _ _).trans (up1_2 _ _ _ _)⟩ ((S.next hc).mv (fun _ _ _ => rfl) (u_o (by omega)) (u_o (by omega)) (up1_off 60 (by decide)) (up1_off 61 (by decide)) (up1_2 _ _ _ _)) u_s (fun role => by unfold fSpec; rw [if_pos c7])
    exact ⟨Q, q1, fun r w1 k => ⟨x, rfl, hx, q2 r w1 k⟩⟩
  · have c7 : ¬ cd w = -nI 13 := c7
    refine ⟨fun _ => ⟨_, c_hasWord (d := d + 1) S.stay (k := 8) (by decide), ?_⟩, fun g => absurd rfl g⟩
    rintro r u2 (⟨c8, rfl, rfl⟩ | ⟨c8, rfl, rfl⟩)
    · have c8 : cd w = -nI 14 := c8
      refine ⟨fun g => absurd g (by decide), fun _ => ⟨x, rfl, hx, ?_⟩⟩
      have hc : ¬ cd w = -nI 1 := by rw [c8]; decide
      obtain ⟨Q, q1, q2⟩ := sp_num (d := d + 1) (lo := 0) (hi := 9) (x := x) (u0 := u) (u := up1 (up1 (up1 u 58 7 (nI (tk w))) 58 7 (nI (tk w + 1))) 69 x (nI 1)) (K := nI 1) (by omega) (by omega) (Or.inr rfl) hv (hv.adv hc).1 ⟨((Sm.up (by unfold CSp; omega)).tr (Sm.up (by unfold CSp; omega))).tr (Sm.up (by unfold CSp; omega)), (up1_2 _ _ _ _).trans ((up1_2 _ _ _ _).trans (up1_2 _ _ _ _))⟩ ((S.stay.next hc).mv (fun _ _ _ => rfl) (u_o (by omega)) (u_o (by omega)) (up1_off 60 (by decide)) (up1_off 61 (by decide)) (up1_2 _ _ _ _)) u_s (fun role => by unfold fSpec; rw [if_neg c7, if_pos c8])
      exact ⟨Q, q1, fun r w1 k => ⟨x, rfl, hx, q2 r w1 k⟩⟩
    · have c8 : ¬ cd w = -nI 14 := c8
      have f2 : Sm (CSp x) u (up1 (up1 u 58 7 (nI (tk w))) 58 7 (nI (tk w))) := (Sm.up (by unfold CSp; omega)).tr (Sm.up (by unfold CSp; omega))
      have g2 : (up1 (up1 u 58 7 (nI (tk w))) 58 7 (nI (tk w))).2 = u.2 := (up1_2 _ _ _ _).trans (up1_2 _ _ _ _)
      have S2 := S.stay.stay
      have a69 : (up1 (up1 u 58 7 (nI (tk w))) 58 7 (nI (tk w))).1 69 x = nI 2 := by rw [u_o (by omega), u_o (by omega)]; exact e69
      have a70 : (up1 (up1 u 58 7 (nI (tk w))) 58 7 (nI (tk w))).1 70 x = nI 0 := by rw [u_o (by omega), u_o (by omega)]; exact e70
      generalize up1 (up1 u 58 7 (nI (tk w))) 58 7 (nI (tk w)) = u2 at *
      refine ⟨fun _ => ⟨_, ev_M_takeWord _ (vc_M_takeWord_0 _ (Q := fun u' => SpP x w u u') ⟨_, c_hasWord (d := d) S2 (k := 9) (by decide), ?_⟩), fun _ k => k⟩, fun g => absurd rfl g⟩
      rintro r u3 (⟨c9, rfl, rfl⟩ | ⟨c9, rfl, rfl⟩)
      · have c9 : cd w = -nI 15 := c9
        have hc : ¬ cd w = -nI 1 := by rw [c9]; decide
        refine ⟨fun _ => ⟨⟨f2.tr (Sm.up (by unfold CSp; omega)), (up1_2 _ _ _ _).trans g2⟩, Or.inl ⟨adw w, nI 2, nI 0, fun role => ?_, (hv.adv hc).1, fun a j ha => adw_o ha, S2.next hc, (u_o (by omega)).trans a69, (u_o (by omega)).trans a70, Or.inr (Or.inr rfl)⟩⟩, fun g => absurd g (by decide)⟩
        unfold fSpec
        rw [if_neg c7, if_neg c8, if_pos c9]
      · have c9 : ¬ cd w = -nI 15 := c9
        refine ⟨fun g => absurd rfl g, fun _ => ⟨_, c_wrong (d := d + 1) S2.stay 1, ?_⟩⟩
        rintro u4 rfl
        obtain ⟨B, F⟩ := Bd.of (u := up1 (up1 u2 58 7 (nI (tk w))) 58 8 ((flt w 1).1 24 3)) (n := 1) hv.1 (by omega) (by omega) u_s
        refine ⟨⟨f2.tr ((Sm.up (by unfold CSp; omega)).tr (Sm.up (by unfold CSp; omega))), (up1_2 _ _ _ _).trans ((up1_2 _ _ _ _).trans g2)⟩, Or.inr ⟨flt w 1, fun role => ?_, B, F⟩⟩
        unfold fSpec
        rw [if_neg c7, if_neg c8, if_neg c9]
def ItC (w u : Wd) : Prop := cd w = -nI 12 ∨ cd w = -nI 13 ∨ cd w = -nI 14 ∨ cd w = -nI 15 ∨ (cd w = -nI 10 ∧ u.1 58 24 = 0) ∨ (cd w = -nI 11 ∧ u.1 58 25 = 0)
theorem c_isItem (S : Sy w u) : EvI m_M_isItem (d + 1) [.ref 58] u (fun r u' => u' = u ∧ Bo (ItC w u) r) := by
  refine ev_M_isItem (vc_M_isItem_0 ⟨_, c_isWord (d := d) S (k := 4) (by decide), ?_⟩)
  rintro r u1 ⟨rfl, h4⟩
  have h4 : Bo (cd w = -nI 12) r := h4
  refine ⟨fun g4 => ⟨Or.inr rfl, rfl, Bo.t (Or.inl (h4.n g4))⟩, fun g4 => ⟨_, c_isWord (d := d) S (k := 7) (by decide), ?_⟩⟩
  rintro r u2 ⟨rfl, h7⟩
  have h7 : Bo (cd w = -nI 13) r := h7
  refine ⟨fun g7 => ⟨Or.inr rfl, rfl, Bo.t (Or.inr (Or.inl (h7.n g7)))⟩, fun g7 => ⟨_, c_isWord (d := d) S (k := 8) (by decide), ?_⟩⟩
  rintro r u1 ⟨rfl, h8⟩
  have h8 : Bo (cd w = -nI 14) r := h8
  refine ⟨fun g8 => ⟨Or.inr rfl, rfl, Bo.t (Or.inr (Or.inr (Or.inl (h8.n g8))))⟩, fun g8 => ⟨_, c_isWord (d := d) S (k := 9) (by decide), ?_⟩⟩
  rintro r u2 ⟨rfl, h9⟩
  have h9 : Bo (cd w = -nI 15) r := h9
  refine ⟨fun g9 => ⟨Or.inr rfl, rfl, Bo.t (Or.inr (Or.inr (Or.inr (Or.inl (h9.n g9)))))⟩, fun g9 => ⟨_, c_isWord (d := d) S (k := 5) (by decide), ?_⟩⟩
  rintro r u1 ⟨rfl, h5⟩
  have h5 : Bo (cd w = -nI 10) r := h5
  have no : (cd w = -nI 10 → ¬ u1.1 58 24 = 0) → (cd w = -nI 11 → ¬ u1.1 58 25 = 0) → Bo (ItC w u1) (nI 0) := fun a b => Bo.f (by
    rintro (x | x | x | x | ⟨x, y⟩ | ⟨x, y⟩)
    · exact h4.z g4 x
    · exact h7.z g7 x
    · exact h8.z g8 x
    · exact h9.z g9 x
    · exact a x y
    · exact b x y)
  refine ⟨fun g5 => ⟨_, c_isWord (d := d) S (k := 6) (by decide), ?_⟩, fun g5 => ⟨fun k => ⟨Or.inr rfl, rfl, Bo.t (Or.inr (Or.inr (Or.inr (Or.inr (Or.inl ⟨h5.n g5, k⟩)))))⟩, fun k => ⟨_, c_isWord (d := d) S (k := 6) (by decide), ?_⟩⟩⟩
  · rintro r u2 ⟨rfl, h6⟩
    have h6 : Bo (cd w = -nI 11) r := h6
    refine ⟨fun g6 => ⟨Or.inl rfl, rfl, no (fun x => absurd x (h5.z g5)) (fun x => absurd x (h6.z g6))⟩, fun g6 => ⟨fun k2 => ⟨Or.inl rfl, rfl, no (fun x => absurd x (h5.z g5)) (fun _ => k2)⟩, fun k2 => ⟨Or.inr rfl, rfl, Bo.t (Or.inr (Or.inr (Or.inr (Or.inr (Or.inr ⟨h6.n g6, k2⟩)))))⟩⟩⟩
  · rintro r u2 ⟨rfl, h6⟩
    have h6 : Bo (cd w = -nI 11) r := h6
    refine ⟨fun g6 => ⟨Or.inl rfl, rfl, no (fun _ => k) (fun x => absurd x (h6.z g6))⟩, fun g6 => ?_⟩
    have a := h5.n g5
    rw [h6.n g6] at a
    exact absurd a (by decide)
end
