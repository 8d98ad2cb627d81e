/-! TEXT: the reference beside the class: an item -/
section
variable {h : Nat} {w u : Wd} {d : Nat}
/-- what an item does, in both -/
def ItP (h : Nat) (w u u' : Wd) : Prop := PFr h u u' ∧ (((fItem (itn w) w).1 = nI 1 ∧ Gd h (fItem (itn w) w).2 u' ∧ OpD h (fItem (itn w) w).2 u') ∨ ((fItem (itn w) w).1 = nI 0 ∧ Bd (fItem (itn w) w).2 u' ∧ FU u'))
def rol (w : Wd) : Nat := if cd w = -nI 10 then 1 else if cd w = -nI 11 then 2 else 0
theorem rol_le (w : Wd) : rol w ≤ 2 := by unfold rol; split <;> (try split) <;> omega
def CI (x a k : Nat) : Prop := (a = 58 ∧ (k = 7 ∨ k = 8 ∨ k = 24 ∨ k = 25)) ∨ (67 ≤ a ∧ a ≤ 70 ∧ k = x)
/-- from the end of the item on -/
theorem z_227 (G : Gd h w u) (O : OpD h w u) (hm : itn w < 10) (hr1 : rol w = 1 → w.1 16 (nd w) = -nI 1) (hr2 : rol w = 2 → w.1 17 (nd w) = -nI 1) {w2 U : Wd} {k v : Int32} (hF : fItem (itn w) w = (nI 1, addI w2 k v (rol w))) (hv2 : CVD w2) (cw : ∀ a j, ¬ (a = 10 ∧ j = 3) → w2.1 a j = w.1 a j) (S2 : Sy w2 U) (f2 : PFr h u U) (r64 : U.1 64 h = u.1 64 h) (r71 : ∀ a k, 71 ≤ a → a ≤ 75 → U.1 a k = u.1 a k) (r65 : ∀ k, U.1 65 k = u.1 65 k) (r66 : ∀ k, U.1 66 k = u.1 66 k) (r67 : ∀ a k, 67 ≤ a → a ≤ 70 → k ≠ 10 * (12 * h + nd w) + itn w → U.1 a k = u.1 a k) (r24 : U.1 58 24 = if rol w = 1 then 1 else u.1 58 24) (r25 : U.1 58 25 = if rol w = 2 then 1 else u.1 58 25) (r11 : U.1 58 11 = nI h)
    (hit : (rol w = 0 ∧ U.1 67 (10 * (12 * h + nd w) + itn w) = 1 ∧ k = nI 3 ∧ U.1 68 (10 * (12 * h + nd w) + itn w) = nI 0) ∨ (U.1 67 (10 * (12 * h + nd w) + itn w) = 0 ∧ k = U.1 69 (10 * (12 * h + nd w) + itn w) ∧ v = U.1 70 (10 * (12 * h + nd w) + itn w) ∧ (U.1 69 (10 * (12 * h + nd w) + itn w) = nI 0 ∨ U.1 69 (10 * (12 * h + nd w) + itn w) = nI 1 ∨ U.1 69 (10 * (12 * h + nd w) + itn w) = nI 2) ∧ U.1 68 (10 * (12 * h + nd w) + itn w) = nI (rol w))) : Z m_M_item (d + 4) (qV (fun u' => ItP h w u u')) 227 [(0, .ref 58), (1, .int (nI (12 * h + nd w))), (2, .int (nI (10 * (12 * h + nd w) + itn w)))] [] U := by
  have h2 := G.2.1.2
  have o1 := O.1
  have o5 := O.2.2.2.2.1
  refine vc_M_item_227 _ _ ⟨12 * h + nd w, rfl, by omega, 12 * h + nd w, rfl, by omega, ?_⟩
  rw [r66, o5, nI_add]
  generalize hU' : up1 U 66 (12 * h + nd w) (nI (itn w + 1)) = U'
  have o : ∀ a j, ¬ (a = 66 ∧ j = 12 * h + nd w) → U'.1 a j = U.1 a j := fun a j ha => by rw [← hU', u_o ha]
  have e2 : U'.2 = U.2 := by rw [← hU']; exact up1_2 _ _ _ _
  obtain ⟨O', D'⟩ := O.add (w2 := w2) (u' := U') (k := k) (v := v) (role := rol w) G.2.2.2 hm cw (rol_le w) hr1 hr2 (by rw [o _ _ (by omega)]; exact r64) (fun a k h1 h3 => by rw [o _ _ (by omega)]; exact r71 a k h1 h3) (fun k => by rw [o _ _ (by omega)]; exact r65 k) (fun k => by
    by_cases e : k = 12 * h + nd w
    · rw [if_pos e, ← hU', e, u_s]
    · rw [if_neg e, o _ _ (by omega)]; exact r66 k) (fun a k h1 h3 h4 => by rw [o _ _ (by omega)]; exact r67 a k h1 h3 h4) (by rw [o _ _ (by omega)]; exact r24) (by rw [o _ _ (by omega)]; exact r25) (by rw [o 67 _ (by omega), o 68 _ (by omega), o 69 _ (by omega), o 70 _ (by omega)]; exact hit)
  refine ⟨f2.tr (by rw [← hU']; exact PFr.up (by unfold PC; omega)), Or.inl ⟨by rw [hF], ?_, by rw [hF]; exact O'⟩⟩
  rw [hF]
  refine ⟨?_, ⟨by rw [o _ _ (by omega)]; exact r11, h2⟩, (hv2.adI k v (rol w)).1, D'⟩
  exact S2.mv (fun a _ _ => funext fun j => addI_o (by omega)) (o _ _ (by omega)) (o _ _ (by omega)) (funext fun j => o _ _ (by omega)) (funext fun j => o _ _ (by omega)) e2
/-- a spec that fails: the rest of the item -/
theorem z_227F (h2 : h < 2) (o1 : nd w < 12) {w' U : Wd} (hF : fItem (itn w) w = (nI 0, w')) (B : Bd w' U) (F : FU U) (f2 : PFr h u U) : Z m_M_item (d + 4) (qV (fun u' => ItP h w u u')) 227 [(0, .ref 58), (1, .int (nI (12 * h + nd w))), (2, .int (nI (10 * (12 * h + nd w) + itn w)))] [] U := by
  refine vc_M_item_227 _ _ ⟨12 * h + nd w, rfl, by omega, 12 * h + nd w, rfl, by omega, ?_⟩
  exact ⟨f2.tr (PFr.up (by unfold PC; omega)), Or.inr ⟨by rw [hF], by rw [hF]; exact B.mv (u_o (by omega)), F.mv (u_o (by omega))⟩⟩
theorem z_31 (G : Gd h w u) (O : OpD h w u) (hm : itn w < 10) (hI : ItC w u) : Z m_M_item (d + 4) (qV (fun u' => ItP h w u u')) 31 [(0, .ref 58), (1, .int (nI (12 * h + nd w)))] [] u := by
  obtain ⟨S, ⟨hn, h2⟩, hv, D⟩ := id G
  have o1 := O.1
  have o5 := O.2.2.2.2.1
  obtain ⟨lf, lr⟩ := O.left
  obtain ⟨b24, b25⟩ := O.bo
  have hr1 : rol w = 1 → w.1 16 (nd w) = -nI 1 := fun e => by
    have c : cd w = -nI 10 := by
      unfold rol at e
      by_cases c : cd w = -nI 10
      · exact c
      · rw [if_neg c] at e; split at e <;> omega
    refine lf.mpr ?_
    rcases hI with x | x | x | x | ⟨-, x⟩ | ⟨x, -⟩
    all_goals first | exact x | (rw [c] at x; exact absurd x (by decide))
  have hr2 : rol w = 2 → w.1 17 (nd w) = -nI 1 := fun e => by
    have c : cd w = -nI 11 := by
      unfold rol at e
      by_cases c : cd w = -nI 10
      · rw [if_pos c] at e; omega
      · rw [if_neg c] at e
        by_cases c2 : cd w = -nI 11
        · exact c2
        · rw [if_neg c2] at e; omega
    refine lr.mpr ?_
    rcases hI with x | x | x | x | ⟨x, -⟩ | ⟨-, x⟩
    all_goals first | exact x | (rw [c] at x; exact absurd x (by decide))
  have hx : nI 10 * nI (12 * h + nd w) + u.1 66 (12 * h + nd w) = nI (10 * (12 * h + nd w) + itn w) := by rw [o5, pk_mul, nI_add]
  have x240 : 10 * (12 * h + nd w) + itn w < 240 := by omega
  have ro := rol_le w
  generalize hxx : 10 * (12 * h + nd w) + itn w = x at *
  have cp : ∀ a k, CI x a k → PC h a k := fun a k c => by unfold CI at c; unfold PC; omega
  -- from the spec on
  have spec : ∀ w1 U, Sm (CI x) u U → U.2 = u.2 → Sy w1 U → CVD w1 → (∀ a j, ¬ (a = 10 ∧ j = 3) → w1.1 a j = w.1 a j) → U.1 58 24 = (if rol w = 1 then 1 else u.1 58 24) → U.1 58 25 = (if rol w = 2 then 1 else u.1 58 25) → U.1 68 x = nI (rol w) → U.1 67 x = 0 → fItem (itn w) w = fSpec (rol w) w1 → Z m_M_item (d + 4) (qV (fun u' => ItP h w u u')) 186 [(0, .ref 58), (1, .int (nI (12 * h + nd w))), (2, .int (nI x))] [] U := by
    intro w1 U f e2 S1 hv1 cw1 e24 e25 e68 e67 hFs
    refine vc_M_item_186 _ _ ⟨x, rfl, x240, x, rfl, x240, x, rfl, x240, fun _ => ?_, fun g => absurd e67 g⟩
    have f3 : Sm (CI x) u (up1 (up1 U 69 x (nI 2)) 70 x (nI 0)) := f.tr ((Sm.up (by unfold CI; omega)).tr (Sm.up (by unfold CI; omega)))
    have g3 : (up1 (up1 U 69 x (nI 2)) 70 x (nI 0)).2 = u.2 := (up1_2 _ _ _ _).trans ((up1_2 _ _ _ _).trans e2)
    have S3 : Sy w1 (up1 (up1 U 69 x (nI 2)) 70 x (nI 0)) := S1.mv (fun _ _ _ => rfl) ((u_o (by omega)).trans (u_o (by omega))) ((u_o (by omega)).trans (u_o (by omega))) ((up1_off 60 (by decide)).trans (up1_off 60 (by decide))) ((up1_off 61 (by decide)).trans (up1_off 61 (by decide))) ((up1_2 _ _ _ _).trans (up1_2 _ _ _ _))
    have o3 : ∀ a k, ¬ ((a = 69 ∨ a = 70) ∧ k = x) → (up1 (up1 U 69 x (nI 2)) 70 x (nI 0)).1 a k = U.1 a k := fun a k ha => by rw [u_o (by omega), u_o (by omega)]
    have k69 : (up1 (up1 U 69 x (nI 2)) 70 x (nI 0)).1 69 x = nI 2 := by rw [u_o (by omega), u_s]
    have k70 : (up1 (up1 U 69 x (nI 2)) 70 x (nI 0)).1 70 x = nI 0 := u_s
    generalize up1 (up1 U 69 x (nI 2)) 70 x (nI 0) = U3 at *
    refine ⟨_, c_M_spec (d := d) S3 hv1 x240 k69 k70, ?_⟩
    rintro U4 ⟨⟨f4, g4⟩, (⟨w2, k, v, hE, hv2, cw2, S4, a69, a70, ak⟩ | ⟨w', hE, B, F⟩)⟩
    · have f5 : Sm (CI x) u U4 := f3.tr (f4.mono (fun a k c => by unfold CSp at c; unfold CI; omega))
      have o4 : ∀ a k, ¬ CSp x a k → U4.1 a k = U.1 a k := fun a k c => (f4 a k c).trans (o3 a k (by unfold CSp at c; omega))
      have := z_227 (d := d) G O hm hr1 hr2 (w2 := w2) (U := U4) (k := k) (v := v) (hFs.trans (hE _)) hv2 (fun a j ha => (cw2 a j ha).trans (cw1 a j ha)) S4 ⟨f5.mono cp, g4.trans g3⟩ (f5 64 h (by unfold CI; omega)) (fun a k h1 h3 => f5 a k (by unfold CI; omega)) (fun k => f5 65 k (by unfold CI; omega)) (fun k => f5 66 k (by unfold CI; omega)) (fun a k h1 h3 h4 => f5 a k (by unfold CI; omega)) ((o4 58 24 (by unfold CSp; omega)).trans e24) ((o4 58 25 (by unfold CSp; omega)).trans e25) ((f5 58 11 (by unfold CI; omega)).trans hn) (by
        rw [hxx]
        exact Or.inr ⟨(o4 67 x (by unfold CSp; omega)).trans e67, a69.symm, a70.symm, by rw [a69]; exact ak, (o4 68 x (by unfold CSp; omega)).trans e68⟩)
      rw [hxx] at this
      exact this
    · have := z_227F (d := d) (u := u) h2 o1 (hFs.trans (hE _)) B F ⟨(f3.tr (f4.mono (fun a k c => by unfold CSp at c; unfold CI; omega))).mono cp, g4.trans g3⟩
      rw [hxx] at this
      exact this
  -- from the words on
  have words : ∀ w1 U, Sm (CI x) u U → U.2 = u.2 → Sy w1 U → CVD w1 → (∀ a j, ¬ (a = 10 ∧ j = 3) → w1.1 a j = w.1 a j) → U.1 58 24 = (if rol w = 1 then 1 else u.1 58 24) → U.1 58 25 = (if rol w = 2 then 1 else u.1 58 25) → U.1 68 x = nI (rol w) → (¬ rol w = 0 → w1 = adw w) → (rol w = 0 → w1 = w) → Z m_M_item (d + 4) (qV (fun u' => ItP h w u u')) 158 [(0, .ref 58), (1, .int (nI (12 * h + nd w))), (2, .int (nI x))] [] U := by
    intro w1 U f e2 S1 hv1 cw1 e24 e25 e68 hw1 hw0
    have st : ∀ v, Sy w1 (up1 U 67 x v) := fun v => S1.mv (fun _ _ _ => rfl) (u_o (by omega)) (u_o (by omega)) (up1_off 60 (by decide)) (up1_off 61 (by decide)) (up1_2 _ _ _ _)
    refine vc_M_item_158 _ _ ⟨x, rfl, x240, fun g => ⟨x, rfl, x240, Or.inl rfl, ?_⟩, fun g => ⟨_, c_isWord (d := d + 3) S1 (k := 4) (by decide), ?_⟩⟩
    · have rn : ¬ rol w = 0 := fun e => g (by rw [e68, e]; rfl)
      refine spec w1 _ (f.tr (Sm.up (by unfold CI; omega))) ((up1_2 _ _ _ _).trans e2) (st _) hv1 cw1 ((u_o (by omega)).trans e24) ((u_o (by omega)).trans e25) ((u_o (by omega)).trans e68) u_s ?_
      rw [hw1 rn]
      have : rol w = 1 ∨ rol w = 2 := by omega
      rcases this with e | e
      · have c : cd w = -nI 10 := by
          unfold rol at e
          by_cases c : cd w = -nI 10
          · exact c
          · rw [if_neg c] at e; split at e <;> omega
        rw [fItem_1 c, if_neg (fun k => k (hr1 e)), if_neg (by omega), e]
      · have c : cd w = -nI 11 := by
          unfold rol at e
          by_cases c : cd w = -nI 10
          · rw [if_pos c] at e; omega
          · rw [if_neg c] at e
            by_cases c2 : cd w = -nI 11
            · exact c2
            · rw [if_neg c2] at e; omega
        rw [fItem_2 c, if_neg (fun k => k (hr2 e)), if_neg (by omega), e]
    · have r0 : rol w = 0 := nI_inj (b := 0) (by omega) (by omega) (e68.symm.trans g)
      have ew := hw0 r0
      subst ew
      have n10 : ¬ cd w1 = -nI 10 := fun c => by unfold rol at r0; rw [if_pos c] at r0; omega
      have n11 : ¬ cd w1 = -nI 11 := fun c => by unfold rol at r0; rw [if_neg n10, if_pos c] at r0; omega
      rintro r U1 ⟨rfl, h12⟩
      have h12 : Bo (cd w1 = -nI 12) r := h12
      refine ⟨fun g12 => ⟨x, rfl, x240, Or.inl rfl, ?_⟩, fun g12 => ⟨x, rfl, x240, Or.inr rfl, ?_⟩⟩
      · refine spec w1 _ (f.tr (Sm.up (by unfold CI; omega))) ((up1_2 _ _ _ _).trans e2) (st _) hv1 cw1 ((u_o (by omega)).trans e24) ((u_o (by omega)).trans e25) ((u_o (by omega)).trans e68) u_s ?_
        have sp : cd w1 = -nI 13 ∨ cd w1 = -nI 14 ∨ cd w1 = -nI 15 := by
          rcases hI with x | x | x | x | ⟨x, -⟩ | ⟨x, -⟩
          · exact absurd x (h12.z g12)
          · exact Or.inl x
          · exact Or.inr (Or.inl x)
          · exact Or.inr (Or.inr x)
          · exact absurd x n10
          · exact absurd x n11
        rw [fItem_0 n10 n11 (h12.z g12), if_pos sp, if_neg (by omega), r0]
      · have c12 := h12.n g12
        have hc : ¬ cd w1 = -nI 1 := by rw [c12]; decide
        refine vc_M_item_186 _ _ ⟨x, rfl, x240, x, rfl, x240, x, rfl, x240, fun g => absurd (g.symm.trans u_s) (by decide), fun _ => ?_⟩
        have S3 : Sy w1 (up1 (up1 (up1 U1 67 x (nI 1)) 69 x (nI 2)) 70 x (nI 0)) := (st _).mv (fun _ _ _ => rfl) ((u_o (by omega)).trans (u_o (by omega))) ((u_o (by omega)).trans (u_o (by omega))) ((up1_off 60 (by decide)).trans (up1_off 60 (by decide))) ((up1_off 61 (by decide)).trans (up1_off 61 (by decide))) ((up1_2 _ _ _ _).trans (up1_2 _ _ _ _))
        have S4 := S3.next hc
        have e7 : (up1 U1 67 x (nI 1)).1 58 7 + nI 1 = nI (tk w1 + 1) := by rw [u_o (by omega), S1.at, nI_add]
        rw [e7]
        have f5 : Sm (CI x) u (up1 (up1 (up1 (up1 U1 67 x (nI 1)) 69 x (nI 2)) 70 x (nI 0)) 58 7 (nI (tk w1 + 1))) := f.tr ((((Sm.up (by unfold CI; omega)).tr (Sm.up (by unfold CI; omega))).tr (Sm.up (by unfold CI; omega))).tr (Sm.up (by unfold CI; omega)))
        have g5 : (up1 (up1 (up1 (up1 U1 67 x (nI 1)) 69 x (nI 2)) 70 x (nI 0)) 58 7 (nI (tk w1 + 1))).2 = u.2 := (up1_2 _ _ _ _).trans ((up1_2 _ _ _ _).trans ((up1_2 _ _ _ _).trans ((up1_2 _ _ _ _).trans e2)))
        have a24 : (up1 (up1 (up1 (up1 U1 67 x (nI 1)) 69 x (nI 2)) 70 x (nI 0)) 58 7 (nI (tk w1 + 1))).1 58 24 = if rol w1 = 1 then 1 else u.1 58 24 := (u_o (by omega)).trans ((u_o (by omega)).trans ((u_o (by omega)).trans ((u_o (by omega)).trans e24)))
        have a25 : (up1 (up1 (up1 (up1 U1 67 x (nI 1)) 69 x (nI 2)) 70 x (nI 0)) 58 7 (nI (tk w1 + 1))).1 58 25 = if rol w1 = 2 then 1 else u.1 58 25 := (u_o (by omega)).trans ((u_o (by omega)).trans ((u_o (by omega)).trans ((u_o (by omega)).trans e25)))
        have a67 : (up1 (up1 (up1 (up1 U1 67 x (nI 1)) 69 x (nI 2)) 70 x (nI 0)) 58 7 (nI (tk w1 + 1))).1 67 x = 1 := (u_o (by omega)).trans ((u_o (by omega)).trans ((u_o (by omega)).trans u_s))
        have a68 : (up1 (up1 (up1 (up1 U1 67 x (nI 1)) 69 x (nI 2)) 70 x (nI 0)) 58 7 (nI (tk w1 + 1))).1 68 x = nI 0 := (u_o (by omega)).trans ((u_o (by omega)).trans ((u_o (by omega)).trans ((u_o (by omega)).trans (e68.trans (by rw [r0])))))
        generalize up1 (up1 (up1 (up1 U1 67 x (nI 1)) 69 x (nI 2)) 70 x (nI 0)) 58 7 (nI (tk w1 + 1)) = U5 at *
        have := z_227 (d := d) G O hm hr1 hr2 (w2 := adw w1) (U := U5) (k := nI 3) (v := nI 0) (by rw [fItem_3 c12, if_neg (by omega), r0]) (hv1.adv hc).1 (fun a j ha => adw_o ha) S4 ⟨f5.mono cp, g5⟩ (f5 64 h (by unfold CI; omega)) (fun a k h1 h3 => f5 a k (by unfold CI; omega)) (fun k => f5 65 k (by unfold CI; omega)) (fun k => f5 66 k (by unfold CI; omega)) (fun a k h1 h3 h4 => f5 a k (by unfold CI; omega)) a24 a25 ((f5 58 11 (by unfold CI; omega)).trans hn) (by
          rw [hxx]
          exact Or.inl ⟨r0, a67, rfl, a68⟩)
        rw [hxx] at this
        exact this
  -- from the side on
  have side : Z m_M_item (d + 4) (qV (fun u' => ItP h w u u')) 83 [(0, .ref 58), (1, .int (nI (12 * h + nd w))), (2, .int (nI x))] [] (up1 u 68 x (nI (rol w))) := by
    have rc1 : nI (rol w) = nI 1 ↔ rol w = 1 := ⟨fun e => nI_inj (by omega) (by omega) e, fun e => by rw [e]⟩
    have rc2 : nI (rol w) = nI 2 ↔ rol w = 2 := ⟨fun e => nI_inj (by omega) (by omega) e, fun e => by rw [e]⟩
    -- the third
    have z135 : ∀ U, Sm (CI x) u U → U.2 = u.2 → Sy w U → U.1 58 24 = (if rol w = 1 then 1 else u.1 58 24) → U.1 58 25 = (if rol w = 2 then 1 else u.1 58 25) → U.1 68 x = nI (rol w) → Z m_M_item (d + 4) (qV (fun u' => ItP h w u u')) 135 [(0, .ref 58), (1, .int (nI (12 * h + nd w))), (2, .int (nI x))] [] U := by
      intro U f e2 S1 e24 e25 e68
      refine vc_M_item_135 _ _ ⟨x, rfl, x240, fun g => ?_, fun g => ?_⟩
      · have r0 : rol w = 0 := by
          rw [e68] at g
          have := gle (b := 0) g
          omega
        rw [S1.at, nI_add, Nat.add_zero]
        exact words w _ (f.tr (Sm.up (by unfold CI; omega))) ((up1_2 _ _ _ _).trans e2) S1.stay hv (fun _ _ _ => rfl) ((u_o (by omega)).trans e24) ((u_o (by omega)).trans e25) ((u_o (by omega)).trans e68) (fun k => absurd r0 k) (fun _ => rfl)
      · have rn : ¬ rol w = 0 := fun e => g (by rw [e68, e]; decide)
        have hc : ¬ cd w = -nI 1 := fun e => rn (by unfold rol; rw [e]; decide)
        rw [S1.at, nI_add]
        exact words (adw w) _ (f.tr (Sm.up (by unfold CI; omega))) ((up1_2 _ _ _ _).trans e2) (S1.next hc) (hv.adv hc).1 (fun a j ha => adw_o ha) ((u_o (by omega)).trans e24) ((u_o (by omega)).trans e25) ((u_o (by omega)).trans e68) (fun _ => rfl) (fun k => absurd k rn)
    have z109 : ∀ U, Sm (CI x) u U → U.2 = u.2 → Sy w U → U.1 58 24 = (if rol w = 1 then 1 else u.1 58 24) → U.1 58 25 = u.1 58 25 → U.1 68 x = nI (rol w) → Z m_M_item (d + 4) (qV (fun u' => ItP h w u u')) 109 [(0, .ref 58), (1, .int (nI (12 * h + nd w))), (2, .int (nI x))] [] U := by
      intro U f e2 S1 e24 e25 e68
      have nx : ∀ v, v = (if rol w = 2 then 1 else u.1 58 25) → Z m_M_item (d + 4) (qV (fun u' => ItP h w u u')) 135 [(0, .ref 58), (1, .int (nI (12 * h + nd w))), (2, .int (nI x))] [] (up1 U 58 25 v) := fun v hv' => z135 _ (f.tr (Sm.up (by unfold CI; omega))) ((up1_2 _ _ _ _).trans e2) (S1.mv (fun _ _ _ => rfl) (u_o (by omega)) (u_o (by omega)) (up1_off 60 (by decide)) (up1_off 61 (by decide)) (up1_2 _ _ _ _)) ((u_o (by omega)).trans e24) (u_s.trans hv') ((u_o (by omega)).trans e68)
      refine vc_M_item_109 _ _ ⟨fun g => ⟨Or.inr rfl, nx _ ?_⟩, fun g => ⟨x, rfl, x240, fun g2 => ⟨Or.inl rfl, nx _ ?_⟩, fun g2 => ⟨Or.inr rfl, nx _ ?_⟩⟩⟩
      · rw [e25] at g
        by_cases e : rol w = 2
        · rw [if_pos e]; rfl
        · rw [if_neg e]; exact (b25.elim (fun y => absurd y g) id).symm
      · rw [e68] at g2
        rw [e25] at g
        rw [if_neg (fun e => g2 (rc2.mpr e)), g]; rfl
      · rw [e68] at g2
        rw [if_pos (rc2.mp g2)]; rfl
    have nx : ∀ v, v = (if rol w = 1 then 1 else u.1 58 24) → Z m_M_item (d + 4) (qV (fun u' => ItP h w u u')) 109 [(0, .ref 58), (1, .int (nI (12 * h + nd w))), (2, .int (nI x))] [] (up1 (up1 u 68 x (nI (rol w))) 58 24 v) := fun v hv' => z109 _ ((Sm.up (by unfold CI; omega)).tr (Sm.up (by unfold CI; omega))) ((up1_2 _ _ _ _).trans (up1_2 _ _ _ _)) (S.mv (fun _ _ _ => rfl) ((u_o (by omega)).trans (u_o (by omega))) ((u_o (by omega)).trans (u_o (by omega))) ((up1_off 60 (by decide)).trans (up1_off 60 (by decide))) ((up1_off 61 (by decide)).trans (up1_off 61 (by decide))) ((up1_2 _ _ _ _).trans (up1_2 _ _ _ _))) (u_s.trans hv') ((u_o (by omega)).trans (u_o (by omega))) ((u_o (by omega)).trans u_s)
    refine vc_M_item_83 _ _ ?_
    rw [u_o (by omega)]
    refine ⟨fun g => ⟨Or.inr rfl, nx _ ?_⟩, fun g => ⟨x, rfl, x240, fun g2 => ⟨Or.inl rfl, nx _ ?_⟩, fun g2 => ⟨Or.inr rfl, nx _ ?_⟩⟩⟩
    · by_cases e : rol w = 1
      · rw [if_pos e]; rfl
      · rw [if_neg e]; exact (b24.elim (fun y => absurd y g) id).symm
    · rw [u_s] at g2
      rw [if_neg (fun e => g2 (rc1.mpr e)), g]; rfl
    · rw [u_s] at g2
      rw [if_pos (rc1.mp g2)]; rfl
  refine vc_M_item_31 _ ⟨fun _ => ⟨12 * h + nd w, rfl, by omega, _, c_isWord (d := d + 3) S (k := 5) (by decide), ?_⟩, fun g => ?_⟩
  · rintro r u1 ⟨rfl, h5⟩
    have h5 : Bo (cd w = -nI 10) r := h5
    rw [hx]
    refine ⟨fun g5 => ⟨_, c_isWord (d := d + 3) S (k := 6) (by decide), ?_⟩, fun g5 => ⟨_, rfl, x240, ?_⟩⟩
    · rintro r u2 ⟨rfl, h6⟩
      have h6 : Bo (cd w = -nI 11) r := h6
      refine ⟨fun g6 => ⟨_, rfl, x240, ?_⟩, fun g6 => ⟨_, rfl, x240, ?_⟩⟩
      · rw [show rol w = 0 by unfold rol; rw [if_neg (h5.z g5), if_neg (h6.z g6)]] at side
        exact side
      · rw [show rol w = 2 by unfold rol; rw [if_neg (h5.z g5), if_pos (h6.n g6)]] at side
        exact side
    · rw [show rol w = 1 by unfold rol; rw [if_pos (h5.n g5)]] at side
      exact side
  · obtain ⟨s, T, q2, q3, q4, q5⟩ := S
    rw [q5] at g
    exact absurd (by decide) g
end
