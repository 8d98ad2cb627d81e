/-! TEXT: the reference beside the class: an item -/
section
variable {h : Nat} {w u : Wd} {d : Nat}
/-- what an item does, in both -/
def ItP (h : Nat) (w u u' : Wd) : Prop := PFr h u u' ∧ (((fItem (itn w) w).1 = nI 1 ∧ Gd h (fItem (itn w) w).2 u' ∧ OpD h (fItem (itn w) w).2 u') ∨ ((fItem (itn w) w).1 = nI 0 ∧ Bd (fItem (itn w) w).2 u' ∧ FU u'))
def rol (w : Wd) : Nat := if cd w = -nI 10 then 1 else if cd w = -nI 11 then 2 else 0
theorem rol_le (w : Wd) : rol w ≤ 2 := by unfold rol; split <;> (try split) <;> omega
/-- from the end of the item on -/
theorem z_227 (G : Gd h w u) (O : OpD h w u) (hm : itn w < 10) (hr1 : rol w = 1 → w.1 16 (nd w) = -nI 1) (hr2 : rol w = 2 → w.1 17 (nd w) = -nI 1) {w2 U : Wd} {k v : Int32} (hF : fItem (itn w) w = (nI 1, addI w2 k v (rol w))) (hv2 : CVD w2) (cw : ∀ a j, ¬ (a = 10 ∧ j = 3) → w2.1 a j = w.1 a j) (S2 : Sy w2 U) (f2 : PFr h u U) (r64 : U.1 64 h = u.1 64 h) (r71 : ∀ a k, 71 ≤ a → a ≤ 75 → U.1 a k = u.1 a k) (r65 : ∀ k, U.1 65 k = u.1 65 k) (r66 : ∀ k, U.1 66 k = u.1 66 k) (r67 : ∀ a k, 67 ≤ a → a ≤ 70 → k ≠ 10 * (12 * h + nd w) + itn w → U.1 a k = u.1 a k) (r24 : U.1 58 24 = if rol w = 1 then 1 else u.1 58 24) (r25 : U.1 58 25 = if rol w = 2 then 1 else u.1 58 25) (r11 : U.1 58 11 = nI h)
    (hit : (rol w = 0 ∧ U.1 67 (10 * (12 * h + nd w) + itn w) = 1 ∧ k = nI 3 ∧ U.1 68 (10 * (12 * h + nd w) + itn w) = nI 0) ∨ (U.1 67 (10 * (12 * h + nd w) + itn w) = 0 ∧ k = U.1 69 (10 * (12 * h + nd w) + itn w) ∧ v = U.1 70 (10 * (12 * h + nd w) + itn w) ∧ (U.1 69 (10 * (12 * h + nd w) + itn w) = nI 0 ∨ U.1 69 (10 * (12 * h + nd w) + itn w) = nI 1 ∨ U.1 69 (10 * (12 * h + nd w) + itn w) = nI 2) ∧ U.1 68 (10 * (12 * h + nd w) + itn w) = nI (rol w))) : Z m_M_item (d + 4) (qV (fun u' => ItP h w u u')) 227 [(0, .ref 58), (1, .int (nI (12 * h + nd w))), (2, .int (nI (10 * (12 * h + nd w) + itn w)))] [] U := by
  have h2 := G.2.1.2
  have o1 := O.1
  have o5 := O.2.2.2.2.1
  refine vc_M_item_227 _ _ ⟨12 * h + nd w, rfl, by omega, 12 * h + nd w, rfl, by omega, ?_⟩
  rw [r66, o5, nI_add]
  generalize hU' : up1 U 66 (12 * h + nd w) (nI (itn w + 1)) = U'
  have o : ∀ a j, ¬ (a = 66 ∧ j = 12 * h + nd w) → U'.1 a j = U.1 a j := fun a j ha => by rw [← hU', u_o ha]
  have e2 : U'.2 = U.2 := by rw [← hU']; exact up1_2 _ _ _ _
  obtain ⟨O', D'⟩ := O.add (w2 := w2) (u' := U') (k := k) (v := v) (role := rol w) G.2.2.2 hm cw (rol_le w) hr1 hr2 (by rw [o _ _ (by omega)]; exact r64) (fun a k h1 h3 => by rw [o _ _ (by omega)]; exact r71 a k h1 h3) (fun k => by rw [o _ _ (by omega)]; exact r65 k) (fun k => by
    by_cases e : k = 12 * h + nd w
    · rw [if_pos e, ← hU', e, u_s]
    · rw [if_neg e, o _ _ (by omega)]; exact r66 k) (fun a k h1 h3 h4 => by rw [o _ _ (by omega)]; exact r67 a k h1 h3 h4) (by rw [o _ _ (by omega)]; exact r24) (by rw [o _ _ (by omega)]; exact r25) (by rw [o 67 _ (by omega), o 68 _ (by omega), o 69 _ (by omega), o 70 _ (by omega)]; exact hit)
  refine ⟨f2.tr (by rw [← hU']; exact PFr.up (by unfold PC; omega)), Or.inl ⟨by rw [hF], ?_, by rw [hF]; exact O'⟩⟩
  rw [hF]
  refine ⟨?_, ⟨by rw [o _ _ (by omega)]; exact r11, h2⟩, (hv2.adI k v (rol w)).1, D'⟩
  exact S2.mv (fun a _ _ => funext fun j => addI_o (by omega)) (o _ _ (by omega)) (o _ _ (by omega)) (funext fun j => o _ _ (by omega)) (funext fun j => o _ _ (by omega)) e2
/-- a spec that fails: the rest of the item -/
theorem z_227F (h2 : h < 2) (o1 : nd w < 12) {w' U : Wd} (hF : fItem (itn w) w = (nI 0, w')) (B : Bd w' U) (F : FU U) (f2 : PFr h u U) : Z m_M_item (d + 4) (qV (fun u' => ItP h w u u')) 227 [(0, .ref 58), (1, .int (nI (12 * h + nd w))), (2, .int (nI (10 * (12 * h + nd w) + itn w)))] [] U := by
  refine vc_M_item_227 _ _ ⟨12 * h + nd w, rfl, by omega, 12 * h + nd w, rfl, by omega, ?_⟩
  exact ⟨f2.tr (PFr.up (by unfold PC; omega)), Or.inr ⟨by rw [hF], by rw [hF]; exact B.mv (u_o (by omega)), F.mv (u_o (by omega))⟩⟩
theorem z_31 (G : Gd h w u) (O : OpD h w u) (hm : itn w < 10) (hI : ItC w u) : Z m_M_item (d + 4) (qV (fun u' => ItP h w u u')) 31 [(0, .ref 58), (1, .int (nI (12 * h + nd w)))] [] u := by
  obtain ⟨S, ⟨hn, h2⟩, hv, D⟩ := id G
  have o1 := O.1
  have o5 := O.2.2.2.2.1
  obtain ⟨lf, lr⟩ := O.left
  obtain ⟨b24, b25⟩ := O.bo
  have hr1 : rol w = 1 → w.1 16 (nd w) = -nI 1 := fun e => by
    have c : cd w = -nI 10 := by
      unfold rol at e
      by_cases c : cd w = -nI 10
      · exact c
      · rw [if_neg c] at e; split at e <;> omega
    refine lf.mpr ?_
    rcases hI with x | x | x | x | ⟨-, x⟩ | ⟨x, -⟩
    all_goals first | exact x | (rw [c] at x; exact absurd x (by decide))
  have hr2 : rol w = 2 → w.1 17 (nd w) = -nI 1 := fun e => by
    have c : cd w = -nI 11 := by
      unfold rol at e
      by_cases c : cd w = -nI 10
      · rw [if_pos c] at e; omega
      · rw [if_neg c] at e
        by_cases c2 : cd w = -nI 11
        · exact c2
        · rw [if_neg c2] at e; omega
    refine lr.mpr ?_
    rcases hI with x | x | x | x | ⟨x, -⟩ | ⟨-, x⟩
    all_goals first | exact x | (rw [c] at x; exact absurd x (by decide))
  have hx : nI 10 * nI (12 * h + nd w) + u.1 66 (12 * h + nd w) = nI (10 * (12 * h + nd w) + itn w) := by rw [o5, pk_mul, nI_add]
  have x240 : 10 * (12 * h + nd w) + itn w < 240 := by omega
  -- from the side on
  have side : Z m_M_item (d + 4) (qV (fun u' => ItP h w u u')) 83 [(0, .ref 58), (1, .int (nI (12 * h + nd w))), (2, .int (nI (10 * (12 * h + nd w) + itn w)))] [] (up1 u 68 (10 * (12 * h + nd w) + itn w) (nI (rol w))) := by
    sorry
  refine vc_M_item_31 _ ⟨fun _ => ⟨12 * h + nd w, rfl, by omega, _, c_isWord (d := d + 3) S (k := 5) (by decide), ?_⟩, fun g => ?_⟩
  · rintro r u1 ⟨rfl, h5⟩
    have h5 : Bo (cd w = -nI 10) r := h5
    rw [hx]
    refine ⟨fun g5 => ⟨_, c_isWord (d := d + 3) S (k := 6) (by decide), ?_⟩, fun g5 => ⟨_, rfl, x240, ?_⟩⟩
    · rintro r u2 ⟨rfl, h6⟩
      have h6 : Bo (cd w = -nI 11) r := h6
      refine ⟨fun g6 => ⟨_, rfl, x240, ?_⟩, fun g6 => ⟨_, rfl, x240, ?_⟩⟩
      · rw [show rol w = 0 by unfold rol; rw [if_neg (h5.z g5), if_neg (h6.z g6)]] at side
        exact side
      · rw [show rol w = 2 by unfold rol; rw [if_neg (h5.z g5), if_pos (h6.n g6)]] at side
        exact side
    · rw [show rol w = 1 by unfold rol; rw [if_pos (h5.n g5)]] at side
      exact side
  · obtain ⟨s, T, q2, q3, q4, q5⟩ := S
    rw [q5] at g
    exact absurd (by decide) g
end
