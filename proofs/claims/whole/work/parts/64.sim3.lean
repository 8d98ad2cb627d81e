/-! TEXT: the reference beside the class: bars, chains, single ones, as statements -/
section
variable {h : Nat} {w u : Wd} {d : Nat}
theorem Gd.at (G : Gd h w u) : u.1 58 7 = nI (tk w) := by
  obtain ⟨⟨s, T, h2, h3, h4, h5⟩, -⟩ := G
  exact h4
theorem Sy.at (G : Sy w u) : u.1 58 7 = nI (tk w) := by
  obtain ⟨s, T, h2, h3, h4, h5⟩ := G
  exact h4
theorem adw_tk (w : Wd) (h : tk w < 2147483647) : tk (adw w) = tk w + 1 := N_of u_s
theorem Sy.tl (G : Sy w u) : tk w < 1201 := by
  obtain ⟨s, T, h2, h3, h4, h5⟩ := G
  have := T.2.1
  omega
/-- one token further in both -/
theorem Sy.next (S : Sy w u) (hc : ¬ cd w = -nI 1) : Sy (adw w) (up1 u 58 7 (nI (tk w + 1))) := S.adv hc u_s (u_o (by decide)) (up1_off 60 (by decide)) (up1_off 61 (by decide)) (up1_2 _ _ _ _)
theorem nb_adw (w : Wd) : nb (adw w) = nb w ∧ nc (adw w) = nc w ∧ nd (adw w) = nd w := ⟨N_cg (adw_o (by decide)), N_cg (adw_o (by decide)), N_cg (adw_o (by decide))⟩
theorem rnum (S : Sy w u) (hv : CVD w) {lo hi : Nat} (hlo : lo ≤ 100) (hhi : hi ≤ 100) {P : Int32 → Wd → Prop} (hok : ∀ n, lo ≤ n → n ≤ hi → nmb lo hi w = (nI n, adw w) → CVD (adw w) → Sy (adw w) (up1 u 58 7 (nI (tk w + 1))) → P (nI n) (up1 u 58 7 (nI (tk w + 1)))) (hbad : ∀ u', (∃ F v, u' = up1 (up1 u 58 8 F) 58 7 v) → (nmb lo hi w).1 = -nI 1 → Bd (nmb lo hi w).2 u' → FU u' → P (nI 0) u') : ∃ Q : Int32 → Wd → Prop, EvI m_M_takeNumber (d + 1) [.ref 58, .int (nI lo), .int (nI hi)] u Q ∧ ∀ r u', Q r u' → P r u' := by
  refine ⟨_, c_takeNumber (d := d) S hv.1 (lo := lo) (hi := hi) hlo hhi, ?_⟩
  rintro r9 w9 (⟨n, n1, n2, n3, rfl, rfl⟩ | ⟨e0, rfl, rfl⟩)
  · have hc2 : ¬ cd w = -nI 1 := by rw [n3]; exact nI_m1 (by omega)
    have en : nmb lo hi w = (nI n, adw w) := by
      rcases num_cases (w := w) lo hi (by omega) (by omega) with ⟨a, b, c⟩ | ⟨m, a, b, c, e'⟩
      · rw [n3] at c
        rcases c with x | ⟨-, x | x⟩
        · exact absurd x (nn0 n)
        · exact absurd (glt x) (by omega)
        · exact absurd (glt x) (by omega)
      · rw [n3] at c
        rw [e', nI_inj (by omega) (by omega) c]
    exact hok n n1 n2 en (hv.adv hc2).1 (S.next hc2)
  · obtain ⟨B, F⟩ := Bd.num (u := up1 (up1 u 58 8 ((nmb lo hi w).2.1 24 3)) 58 7 (nI (tk w + 1))) hv.1 hhi hlo e0 (by rw [u_o (by omega), u_s])
    exact hbad _ ⟨_, _, rfl⟩ e0 B F
theorem rsig (S : Sy w u) (hv : CVD w) {k : Nat} {c : Int32} (hk : k = 58 ∨ k = 61 ∨ k = 59) (hc : scd k = c) (hc1 : ¬ c = -nI 1) {P : Wd → Prop} (hok : sgs c w = (nI 1, adw w) → CVD (adw w) → Sy (adw w) (up1 u 58 7 (nI (tk w + 1))) → P (up1 u 58 7 (nI (tk w + 1)))) (hbad : ∀ u', (∃ F, u' = up1 u 58 8 F) → (sgs c w).1 = nI 0 → Bd (sgs c w).2 u' → FU u' → P u') : ∃ Q : Wd → Prop, EvV m_M_takeSign (d + 1) [.ref 58, .int (nI k)] u Q ∧ ∀ u', Q u' → P u' := by
  refine ⟨_, c_takeSign (d := d) S hk, ?_⟩
  rw [hc]
  rintro w9 (⟨c3, rfl⟩ | ⟨c3, rfl⟩)
  · have hc2 : ¬ cd w = -nI 1 := by rw [c3]; exact hc1
    exact hok (by unfold sgs; rw [if_pos c3]) (hv.adv hc2).1 (S.next hc2)
  · have e : sgs c w = (nI 0, flt w 1) := by unfold sgs; rw [if_neg c3]
    obtain ⟨B, F⟩ := Bd.of (u := up1 u 58 8 ((flt w 1).1 24 3)) (n := 1) hv.1 (by omega) (by omega) u_s
    exact hbad _ ⟨_, rfl⟩ (by rw [e]) (by rw [e]; exact B) F
theorem s_bar (G : Gd h w u) (hc : cd w = -nI 7) {Q : Wd → Prop} (hq : ∀ u', Rl h u (fBar w) u' → Q u') : ∃ j2 : Nat, (u.1 58 11) = nI j2 ∧ j2 < 2 ∧ ((¬ (u.1 71 j2) = (nI 10) → ∃ j3 : Nat, (u.1 58 11) = nI j3 ∧ j3 < 2 ∧ ∃ Q9 : Int32 → Wd → Prop, EvI m_M_takeNumber (d + 2) [.ref 58, .int (nI 1), .int (nI 100)] (up1 u 58 7 ((u.1 58 7) + (nI 1))) Q9 ∧ ∀ r9 w9, Q9 r9 w9 → ∃ j4 : Nat, (((nI 10) * (u.1 58 11)) + (u.1 71 j3)) = nI j4 ∧ j4 < 20 ∧ ∃ Q10 : Wd → Prop, EvV m_M_takeSign (d + 2) [.ref 58, .int (nI 59)] (up1 w9 72 j4 r9) Q10 ∧ ∀ w10, Q10 w10 → ∃ j5 : Nat, (w10.1 58 11) = nI j5 ∧ j5 < 2 ∧ ∃ j6 : Nat, (w10.1 58 11) = nI j6 ∧ j6 < 2 ∧ Q (up1 w10 71 j6 ((w10.1 71 j5) + (nI 1)))) ∧ ((u.1 71 j2) = (nI 10) → ∃ Q11 : Wd → Prop, EvV m_M_wrong (d + 2) [.ref 58, .int (nI 5)] u Q11 ∧ ∀ w11, Q11 w11 → Q w11)) := by
  obtain ⟨S, ⟨hn, h2⟩, hv, D⟩ := id G
  obtain ⟨d1, d2, ⟨d3, d3'⟩, d4, d5, d6, d7⟩ := id D
  have hc1 : ¬ cd w = -nI 1 := by rw [hc]; decide
  obtain ⟨hv1, tk1⟩ := hv.adv hc1
  have S1 := S.next hc1
  refine ⟨h, hn, h2, ?_⟩
  refine ⟨fun g => ⟨h, hn, h2, ?_⟩, fun g => ⟨_, c_wrong (d := d + 2) S 5, ?_⟩⟩
  · rw [d3'] at g
    have hb : nb w < 10 := by
      rcases Nat.lt_or_ge (nb w) 10 with x | x
      · exact x
      · exact absurd (by rw [show nb w = 10 by omega]) g
    have E : fBar w = bN (nmb 1 100 (adw w)) (fun x w => bS (sgs (-nI 5) w) (fun w => addB w x)) := if_pos hb
    rw [S.at, nI_add]
    generalize hu1 : up1 u 58 7 (nI (tk w + 1)) = u1 at *
    have f1 : PFr h u u1 := by rw [← hu1]; exact PFr.p (by omega)
    have ej : nI 10 * u.1 58 11 + u.1 71 h = nI (10 * h + nb w) := by rw [hn, d3', pk_mul, nI_add]
    have r1 : ∀ a k, ¬ (a = 58 ∧ k = 7) → u1.1 a k = u.1 a k := fun a k ha => by rw [← hu1, u_o ha]
    refine rnum (d := d + 1) S1 hv1 (lo := 1) (hi := 100) (by omega) (by omega) (fun n n1 n2 en hv2 S2 => ?_) (fun u' hu' e0 B F => ?_)
    · generalize hu2 : up1 u1 58 7 (nI (tk (adw w) + 1)) = u2 at *
      have f2 : PFr h u u2 := f1.tr (by rw [← hu2]; exact PFr.p (by omega))
      refine ⟨10 * h + nb w, ej, by omega, ?_⟩
      have S3 : Sy (adw (adw w)) (up1 u2 72 (10 * h + nb w) (nI n)) := S2.mv (fun _ _ _ => rfl) (u_o (by omega)) (u_o (by omega)) (up1_off 60 (by decide)) (up1_off 61 (by decide)) (up1_2 _ _ _ _)
      have r2 : ∀ a k, ¬ (a = 58 ∧ k = 7) → u2.1 a k = u.1 a k := fun a k ha => by rw [← hu2, u_o ha, r1 a k ha]
      have r58 : u2.1 58 11 = nI h := (r2 58 11 (by omega)).trans hn
      have r71 : u2.1 71 h = nI (nb w) := (r2 71 h (by omega)).trans d3'
      refine rsig (d := d + 1) S3 hv2 (k := 59) (c := -nI 5) (by omega) (by decide) (by decide) (fun e3 hv3 S4 => ?_) (fun u' hu' e0 B F => ?_)
      · generalize hu3 : up1 (up1 u2 72 (10 * h + nb w) (nI n)) 58 7 (nI (tk (adw (adw w)) + 1)) = u3 at *
        have f3 : PFr h u u3 := f2.tr (by rw [← hu3]; exact (PFr.up (by unfold PC; omega)).tr (PFr.p (by omega)))
        have r3 : ∀ a k, ¬ (a = 58 ∧ k = 7) → ¬ (a = 72 ∧ k = 10 * h + nb w) → u3.1 a k = u.1 a k := fun a k ha hb' => by rw [← hu3, u_o ha, u_o hb', r2 a k ha]
        have r72 : u3.1 72 (10 * h + nb w) = nI n := by rw [← hu3, u_o (by omega), u_s]
        refine ⟨h, (r3 58 11 (by omega) (by omega)).trans hn, h2, h, (r3 58 11 (by omega) (by omega)).trans hn, h2, ?_⟩
        rw [show u3.1 71 h = nI (nb w) from (r3 71 h (by omega) (by omega)).trans d3', nI_add]
        refine hq _ ⟨f3.tr (PFr.up (by unfold PC; omega)), Or.inl ?_⟩
        have en3 : fBar w = addB (adw (adw (adw w))) (nI n) := by rw [E, bN_t en (by omega), bS_t e3]
        have nb3 : nb (adw (adw (adw w))) = nb w := by rw [(nb_adw _).1, (nb_adw _).1, (nb_adw _).1]
        rw [en3]
        refine ⟨?_, ⟨by rw [u_o (by omega), r3 58 11 (by omega) (by omega)]; exact hn, h2⟩, (hv3.adB (by rw [nb3]; exact hb) _).1, ?_⟩
        · exact S4.mv (fun a _ _ => funext fun j => addB_o (by omega) (by omega)) (u_o (by omega)) (u_o (by omega)) (up1_off 60 (by decide)) (up1_off 61 (by decide)) (up1_2 _ _ _ _)
        · have D3 : Dr h (adw (adw (adw w))) u := D.mv (fun a k _ _ => by rw [adw_o (by omega), adw_o (by omega), adw_o (by omega)]) (fun _ _ _ _ => rfl)
          refine D3.bar (by rw [nb3]; exact hb) (nI n) (fun a k h1 h3 h4 h5 => ?_) (by rw [u_s, nb3]) (fun k => ?_)
          · rw [u_o h4, r3 a k (by omega) (by omega)]
          · rw [u_o (by omega), nb3]
            by_cases e : k = 10 * h + nb w
            · rw [if_pos e, e, r72]
            · rw [if_neg e, r3 72 k (by omega) (by omega)]
      · obtain ⟨F0, rfl⟩ := hu'
        refine ⟨h, by rw [u_o (by omega), u_o (by omega)]; exact r58, h2, h, by rw [u_o (by omega), u_o (by omega)]; exact r58, h2, ?_⟩
        refine hq _ ⟨f2.tr (((PFr.up (by unfold PC; omega)).tr (PFr.p (by omega))).tr (PFr.up (by unfold PC; omega))), Or.inr ?_⟩
        rw [E, bN_t en (by omega), bS_f e0]
        exact B.mv (u_o (by omega))
    · obtain ⟨F0, v0, rfl⟩ := hu'
      refine ⟨10 * h + nb w, ej, by omega, ?_⟩
      refine ⟨_, c_takeSignF (d := d + 1) (F.mv (u' := up1 (up1 (up1 u1 58 8 F0) 58 7 v0) 72 (10 * h + nb w) (nI 0)) (u_o (by omega))) _, ?_⟩
      rintro w10 rfl
      have r58 : u1.1 58 11 = nI h := (r1 58 11 (by omega)).trans hn
      refine ⟨h, by rw [u_o (by omega), u_o (by omega), u_o (by omega)]; exact r58, h2, h, by rw [u_o (by omega), u_o (by omega), u_o (by omega)]; exact r58, h2, ?_⟩
      refine hq _ ⟨f1.tr ((((PFr.p (by omega)).tr (PFr.p (by omega))).tr (PFr.up (by unfold PC; omega))).tr (PFr.up (by unfold PC; omega))), Or.inr ?_⟩
      rw [E, bN_f e0]
      exact B.mv (by rw [u_o (by omega), u_o (by omega)])
  · rintro w11 rfl
    rw [d3'] at g
    have : nb w = 10 := nI_inj (by omega) (by omega) g
    refine hq _ ⟨PFr.p (by omega), Or.inr ?_⟩
    have E : fBar w = flt w 5 := if_neg (by omega)
    rw [E]
    exact (Bd.of hv.1 (by omega) (by omega) (by rw [u_s])).1
end
