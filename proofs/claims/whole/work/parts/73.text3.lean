/-! TEXT: the reference's whole run, and both -/
def CT3 (h a k : Nat) : Prop := (a = 58 ∧ (k = 0 ∨ k = 2 ∨ k = 3 ∨ k = 7 ∨ k = 8 ∨ k = 11 ∨ k = 24 ∨ k = 25)) ∨ a = 60 ∨ a = 61 ∨ PC h a k
def FT3 (h : Nat) (V u : Wd) : Prop := Sm (CT3 h) V u ∧ ∀ a, a ≠ 62 → u.2 a = V.2 a
theorem FT3.pf {h : Nat} {V u u' : Wd} (f : FT3 h V u) (p : PFr h u u') : FT3 h V u' := ⟨f.1.tr (p.1.mono (fun a k c => Or.inr (Or.inr (Or.inr c)))), fun a ha => by rw [p.2]; exact f.2 a ha⟩
theorem c_M_text {V W w : Wd} {L hh : Nat} {t : Nat → Nat} (hTB : TB L t V) (e2 : V.1 58 2 = nI L) (e10 : V.1 58 10 = nI hh) (h2 : hh < 2) (hcon : ConI V) (hST : ST L t w W) (hend : ¬ (fRead 1200 W).1 24 3 = 0 ∨ cd (fRead 1200 W) = -nI 1) {Q : Int32 → Wd → Prop} (hg : ∀ u', FT3 (1 - hh) V u' → u'.1 58 2 = nI 0 → Gd (1 - hh) (fRead 1200 W) u' → Q (nI 0) (up1 (up1 u' 58 10 (nI (1 - hh))) 58 34 (nI 1))) (hb : ∀ u', FT3 (1 - hh) V u' → u'.1 58 2 = nI 0 → Bd (fRead 1200 W) u' → Q (u'.1 58 8) u') : EvI m_M_text 30 [.ref 58] V Q := by
  have hL := hTB.1
  have hc := ct_le (stB t) L
  refine ev_M_text (vc_M_text_0 ⟨_, c_cutAll (d := 27) (L := L) (t := t) (w := up1 V 58 0 (nI 0)) hTB e2, ?_⟩)
  rintro u1 ⟨⟨f1, g1⟩, T1, t60, t61, t2, t7, t8⟩
  have x10 : u1.1 58 10 = nI hh := (f1 58 10 (by unfold CCt; omega)).trans ((u_o (by omega)).trans e10)
  have e11 : nI 1 - u1.1 58 10 = nI (1 - hh) := by rw [x10, sub_nI (by omega)]
  refine ⟨1 - hh, e11, by omega, 1 - hh, e11, by omega, 1 - hh, e11, by omega, ?_⟩
  rw [e11]
  have F1 : FT3 (1 - hh) V (up1 (up1 (up1 (up1 u1 58 11 (nI (1 - hh))) 64 (1 - hh) (nI 0)) 71 (1 - hh) (nI 0)) 73 (1 - hh) (nI 0)) := by
    refine ⟨?_, fun a ha => by rw [up1_2, up1_2, up1_2, up1_2]; exact (g1 a ha).trans (by rw [up1_2])⟩
    exact (Sm.up (by unfold CT3; omega)).tr ((f1.mono (fun a k c => by unfold CCt at c; unfold CT3; omega)).tr ((((Sm.up (by unfold CT3; omega)).tr (Sm.up (by unfold CT3 PC; omega))).tr (Sm.up (by unfold CT3 PC; omega))).tr (Sm.up (by unfold CT3 PC; omega))))
  have o1 : ∀ a k, ¬ (a = 58 ∧ k = 11) → ¬ ((a = 64 ∨ a = 71 ∨ a = 73) ∧ k = 1 - hh) → (up1 (up1 (up1 (up1 u1 58 11 (nI (1 - hh))) 64 (1 - hh) (nI 0)) 71 (1 - hh) (nI 0)) 73 (1 - hh) (nI 0)).1 a k = u1.1 a k := fun a k h1 h3 => by rw [u_o (by omega), u_o (by omega), u_o (by omega), u_o (by omega)]
  have a11 : (up1 (up1 (up1 (up1 u1 58 11 (nI (1 - hh))) 64 (1 - hh) (nI 0)) 71 (1 - hh) (nI 0)) 73 (1 - hh) (nI 0)).1 58 11 = nI (1 - hh) := by rw [u_o (by omega), u_o (by omega), u_o (by omega), u_s]
  have a64 : (up1 (up1 (up1 (up1 u1 58 11 (nI (1 - hh))) 64 (1 - hh) (nI 0)) 71 (1 - hh) (nI 0)) 73 (1 - hh) (nI 0)).1 64 (1 - hh) = nI 0 := by rw [u_o (by omega), u_o (by omega), u_s]
  have a71 : (up1 (up1 (up1 (up1 u1 58 11 (nI (1 - hh))) 64 (1 - hh) (nI 0)) 71 (1 - hh) (nI 0)) 73 (1 - hh) (nI 0)).1 71 (1 - hh) = nI 0 := by rw [u_o (by omega), u_s]
  have a73 : (up1 (up1 (up1 (up1 u1 58 11 (nI (1 - hh))) 64 (1 - hh) (nI 0)) 71 (1 - hh) (nI 0)) 73 (1 - hh) (nI 0)).1 73 (1 - hh) = nI 0 := u_s
  have z2 : (up1 (up1 (up1 (up1 u1 58 11 (nI (1 - hh))) 64 (1 - hh) (nI 0)) 71 (1 - hh) (nI 0)) 73 (1 - hh) (nI 0)).2 = u1.2 := by rw [up1_2, up1_2, up1_2, up1_2]
  generalize up1 (up1 (up1 (up1 u1 58 11 (nI (1 - hh))) 64 (1 - hh) (nI 0)) 71 (1 - hh) (nI 0)) 73 (1 - hh) (nI 0) = u2 at *
  generalize hH : 1 - hh = h at *
  refine lpU (I := fun k u' => FT3 h V u' ∧ u'.2 = u1.2 ∧ (∀ a j, a ≠ 75 → u'.1 a j = u2.1 a j) ∧ ∀ r, r < k → u'.1 75 (10 * h + r) = nI 0) (G := fun k u' => Z m_M_text 30 (qI Q) 51 [(0, .ref 58), (1, .int (nI k))] [] u') (M := 10) ?_ ?_ 0 (Nat.zero_le _) u2 ⟨F1, z2, fun _ _ _ => rfl, fun r hr => absurd hr (Nat.not_lt_zero _)⟩
  · rintro u3 ⟨F3, z3, o3, r3⟩
    refine vc_M_text_51 _ ⟨fun _ => ?_, fun g => absurd (mle (Nat.le_refl _)) g⟩
    obtain ⟨cv, tk0⟩ := hST.cvd hL
    have o4 : ∀ a k, ¬ (a = 58 ∧ k = 11) → ¬ (64 ≤ a ∧ a ≤ 75) → u3.1 a k = u1.1 a k := fun a k h1 h3 => (o3 a k (by omega)).trans (o1 a k h1 (by omega))
    obtain ⟨-, -, -, ⟨q1, q2, q3, q4, q5⟩, e0, e7, e9, e13, e24⟩ := id hST
    have G : Gd h W u3 := by
      refine ⟨⟨ct (stB t) L + 1, ⟨by omega, by omega, q1, fun j hj => ?_, fun j hj => ?_, q4, ?_, fun k hk => ?_⟩, by omega, by rw [tk0]; exact q2, by rw [tk0, o4 _ _ (by omega) (by omega)]; exact t7, by rw [o4 _ _ (by omega) (by omega)]; exact t8⟩, ⟨(o3 _ _ (by omega)).trans a11, by omega⟩, cv, ?_⟩
      · by_cases e : j = ct (stB t) L
        · rw [e, q5, o4 _ _ (by omega) (by omega), t61]; exact ⟨L, hL, rfl, rfl⟩
        · obtain ⟨k, k1, k2, k3, k4⟩ := ct_find (p := stB t) (i := j) (A := 0) (B := L) (Nat.zero_le _) (Nat.zero_le _) (by omega)
          rw [← k4, (q3 k k2 k3).2, o4 _ _ (by omega) (by omega), (T1 k k2 k3).2]
          exact ⟨k, by omega, rfl, rfl⟩
      · obtain ⟨k, k1, k2, k3, k4⟩ := ct_find (p := stB t) (i := j) (A := 0) (B := L) (Nat.zero_le _) (Nat.zero_le _) (by omega)
        rw [← k4, o4 _ _ (by omega) (by omega), z3]
        exact tok_rel (q3 k k2 k3).1 (T1 k k2 k3).1
      · show u3.1 60 (ct (stB t) L + 1 - 1) = nI 0
        rw [Nat.add_sub_cancel, o4 _ _ (by omega) (by omega)]
        exact t60
      · rw [F3.2 63 (by decide)]
        exact hcon k hk
      · unfold Dr
        rw [show nd W = 0 from N_of e0, show nb W = 0 from N_of e7, show nc W = 0 from N_of e9, o3 _ _ (by omega), a64, o3 _ _ (by omega), a71, o3 _ _ (by omega), a73]
        exact ⟨⟨by omega, rfl⟩, fun r hr => absurd hr (Nat.not_lt_zero _), ⟨by omega, rfl⟩, fun r hr => absurd hr (Nat.not_lt_zero _), ⟨by omega, rfl⟩, fun r hr => absurd hr (Nat.not_lt_zero _), 0, by omega, e13, fun r hr => Or.inr ⟨r3 r hr, Nat.zero_testBit r⟩⟩
    have s2 : ∀ u', PFr h u3 u' → u'.1 58 2 = nI 0 := fun u' p => (p.1 58 2 (by unfold PC; omega)).trans ((o4 58 2 (by omega) (by omega)).trans t2)
    exact c_M_loop (d := 23) (u0 := u3) 1200 W u3 (Or.inl G) PFr.rf hend (fun u' p g => hg u' (F3.pf p) (s2 u' p) g) (fun u' p b => hb u' (F3.pf p) (s2 u' p) b)
  · rintro k u3 hk ⟨F3, z3, o3, r3⟩ nx
    refine vc_M_text_51 _ ⟨fun g => absurd (gle g) (by omega), fun _ => ⟨10 * h + k, by rw [o3 _ _ (by omega), a11, pk_mul, nI_add], by omega, Or.inl rfl, ?_⟩⟩
    rw [nI_add]
    refine nx _ ⟨F3.pf (PFr.up (by unfold PC; omega)), (up1_2 _ _ _ _).trans z3, fun a j ha => (u_o (by omega)).trans (o3 a j ha), fun r hr => ?_⟩
    by_cases e : r = k
    · rw [e, u_s]
    · rw [u_o (by omega)]; exact r3 r (by omega)
