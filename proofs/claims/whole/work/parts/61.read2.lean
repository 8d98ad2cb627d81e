/-! TEXT: rules, of the class's reader -/
def PI (w : Wd) (r : Int32) (w' : Wd) : Prop := (r = 0 ∧ ¬ w'.1 24 3 = 0) ∨ (r = 1 ∧ CVD w' ∧ OV w' ∧ itn w' = itn w + 1 ∧ nd w' = nd w ∧ tk w < tk w')
section
variable {w : Wd} {d : Nat}
theorem addI_nd (w : Wd) (k v : Int32) (role : Nat) : nd (addI w k v role) = nd w := N_cg (addI_o (by decide))
theorem addI_it (w : Wd) (k v : Int32) (role : Nat) : (addI w k v role).1 15 (nd w) = nI (itn w + 1) := by
  unfold addI
  exact u_s
theorem OV.adI (h : OV w) (hi : itn w < 10) (k v : Int32) (role : Nat) : OV (addI w k v role) ∧ itn (addI w k v role) = itn w + 1 := by
  have e : itn (addI w k v role) = itn w + 1 := by
    unfold itn
    rw [addI_nd]
    exact N_of (addI_it w k v role) (by have hi2 : N w 15 (nd w) < 10 := hi; omega)
  refine ⟨⟨by rw [addI_nd]; exact h.1, ?_, by rw [e]; omega⟩, e⟩
  rw [e, addI_nd]
  exact addI_it w k v role
theorem CVD.adI (h : CVD w) (k v : Int32) (role : Nat) : CVD (addI w k v role) ∧ tk (addI w k v role) = tk w := by
  have m := h.1.mv (w' := addI w k v role) (fun a _ _ => funext fun j => addI_o (by omega))
  exact ⟨⟨m.1, h.2.1.mv3 (addI_o (by decide)) (addI_o (by decide)) (addI_o (by decide)), (addI_o (by decide)).trans h.2.2⟩, m.2⟩
theorem c_addItem (h : DV w) (o : OV w) (hi : itn w < 10) (k v : Int32) {role : Nat} (hr : role ≤ 2) : EvV m_Book_addItem d [.ref 13, .int (k), .int (v), .int (nI role)] w (fun w' => w' = addI w k v role) := by
  obtain ⟨d1, d2, -⟩ := h
  obtain ⟨o1, o2, o3⟩ := o
  refine ev_Book_addItem_d _ _ _ (vc_Book_addItem_d_0 _ _ _ ?_)
  rw [d1]
  refine ⟨fun g => absurd (gle g) (by omega), fun _ => ⟨nd w, rfl, o1, ?_⟩⟩
  rw [o2]
  refine ⟨fun _ => ⟨nd w, rfl, o1, nd w * 10 + itn w, by rw [o2, pk_mul, nI_add], by omega, nd w * 10 + itn w, by rw [o2, pk_mul, nI_add], by omega, ?_⟩, fun g => absurd (mlt hi) g⟩
  rw [o2]
  unfold addI
  refine ⟨fun g1 => ⟨fun g2 => ⟨nd w, rfl, o1, nd w, rfl, o1, ?_⟩, fun g2 => ⟨nd w, rfl, o1, nd w, rfl, o1, nd w, rfl, o1, ?_⟩⟩, fun g1 => ⟨nd w, rfl, o1, nd w, rfl, o1, nd w, rfl, o1, ?_⟩⟩
  · rw [if_neg (fun e => g1 (by rw [e])), if_neg (fun e => g2 (by rw [e])), o2, nI_add]
  · rw [if_neg (fun e => g1 (by rw [e])), if_pos (nI_inj (by omega) (by omega) g2), o2, nI_add]
  · rw [if_pos (nI_inj (by omega) (by omega) g1), o2, nI_add]
theorem c_isSpec (x : Int32) : EvI m_Reader_isSpec d [.int (x)] w (fun r w' => w' = w ∧ Bo (x = -nI 13 ∨ x = -nI 14 ∨ x = -nI 15) r) := by
  refine ev_Reader_isSpec _ (vc_Reader_isSpec_0 _ ⟨fun g => ⟨Or.inr rfl, rfl, Bo.t (Or.inl g)⟩, fun g => ⟨fun g2 => ⟨Or.inr rfl, rfl, Bo.t (Or.inr (Or.inl g2))⟩, fun g2 => ⟨fun g3 => ⟨Or.inl rfl, rfl, Bo.f (fun x => x.elim g (fun y => y.elim g2 g3))⟩, fun g3 => ⟨Or.inr rfl, rfl, Bo.t (Or.inr (Or.inr g3))⟩⟩⟩⟩)
theorem adw_it (w : Wd) : itn (adw w) = itn w ∧ nd (adw w) = nd w := by
  have e : nd (adw w) = nd w := N_cg (adw_o (by decide))
  refine ⟨?_, e⟩
  unfold itn
  rw [e]
  exact N_cg (adw_o (by omega))
theorem OV.adv (h : OV w) : OV (adw w) := h.mv (up1_off 13 (by decide)) (up1_off 15 (by decide))
theorem c_readSpec (h : CVD w) (o : OV w) (hi : itn w < 10) {role : Nat} (hr : role ≤ 2) : EvI m_Reader_readSpec (d + 3) [.ref 24, .int (nI role)] w (fun r w' => w' = (fSpec role w).2 ∧ r = (fSpec role w).1 ∧ PI w r w') := by
  refine ev_Reader_readSpec _ (vc_Reader_readSpec_0 _ ⟨_, c_code (d := d + 2) h.1, ?_⟩)
  rintro r w1 ⟨rfl, rfl⟩
  refine ⟨_, c_isSpec (d := d + 2) _, ?_⟩
  rintro r w2 ⟨rfl, hr2⟩
  refine ⟨fun g => ⟨_, c_advance (d := d + 2) h.1, ?_⟩, fun g => ⟨_, c_fail (d := d + 1) h.1 1, ?_⟩⟩
  · rintro w1 rfl
    have hsp := hr2.n g
    have hc : ¬ cd w2 = -nI 1 := by rcases hsp with e | e | e <;> rw [e] <;> decide
    obtain ⟨h1, t1⟩ := h.adv hc
    obtain ⟨i1, i2⟩ := adw_it w2
    have o1 := o.adv
    refine ⟨fun g15 => ⟨fun g13 => ⟨fun _ => ?_, fun g => absurd rfl g⟩, fun g13 => ⟨fun g => absurd g (by decide), fun _ => ?_⟩⟩, fun g15 => ⟨_, c_addItem (d := d + 2) h1.2.1 o1 (by rw [i1]; exact hi) (nI 2) (nI 0) hr, ?_⟩⟩
    · have g14 : cd w2 = -nI 14 := by
        rcases hsp with e | e | e
        · exact absurd e g13
        · exact e
        · exact absurd e g15
      have E : fSpec role w2 = (if (nmb 0 9 (adw w2)).1 = -nI 1 then (nI 0, (nmb 0 9 (adw w2)).2) else (nI 1, addI (nmb 0 9 (adw w2)).2 (nI 1) (nmb 0 9 (adw w2)).1 role)) := by
        unfold fSpec
        rw [if_neg g13, if_pos g14]
      refine num_k' (d := d) h1 0 9 (by omega) (by omega) (fun a b => ⟨Or.inl rfl, ?_⟩) (fun n n1 n2 n3 e h2 t2 => ⟨fun _ => ?_, fun g => absurd rfl g⟩)
      · rw [E, if_pos a]
        exact ⟨rfl, rfl, Or.inl ⟨rfl, b⟩⟩
      · obtain ⟨j1, j2⟩ := adw_it (adw w2)
        refine ⟨_, c_addItem (d := d + 2) h2.2.1 o1.adv (by rw [j1, i1]; exact hi) (nI 1) (nI n) hr, ?_⟩
        rintro w3 rfl
        rw [E, e, if_neg (nI_m1 (by omega))]
        obtain ⟨c1, c2⟩ := h2.adI (nI 1) (nI n) role
        obtain ⟨k1, k2⟩ := o1.adv.adI (by rw [j1, i1]; exact hi) (nI 1) (nI n) role
        exact ⟨Or.inr rfl, rfl, rfl, Or.inr ⟨rfl, c1, k1, by rw [k2, j1, i1], by rw [addI_nd, j2, i2], by rw [c2]; omega⟩⟩
    · have E : fSpec role w2 = (if (nmb 1 100 (adw w2)).1 = -nI 1 then (nI 0, (nmb 1 100 (adw w2)).2) else (nI 1, addI (nmb 1 100 (adw w2)).2 (nI 0) (nmb 1 100 (adw w2)).1 role)) := by
        unfold fSpec
        rw [if_pos g13]
      refine num_k' (d := d) h1 1 100 (by omega) (by omega) (fun a b => ⟨Or.inl rfl, ?_⟩) (fun n n1 n2 n3 e h2 t2 => ⟨fun g => absurd g (by decide), fun _ => ?_⟩)
      · rw [E, if_pos a]
        exact ⟨rfl, rfl, Or.inl ⟨rfl, b⟩⟩
      · obtain ⟨j1, j2⟩ := adw_it (adw w2)
        refine ⟨_, c_addItem (d := d + 2) h2.2.1 o1.adv (by rw [j1, i1]; exact hi) (nI 0) (nI n) hr, ?_⟩
        rintro w3 rfl
        rw [E, e, if_neg (nI_m1 (by omega))]
        obtain ⟨c1, c2⟩ := h2.adI (nI 0) (nI n) role
        obtain ⟨k1, k2⟩ := o1.adv.adI (by rw [j1, i1]; exact hi) (nI 0) (nI n) role
        exact ⟨Or.inr rfl, rfl, rfl, Or.inr ⟨rfl, c1, k1, by rw [k2, j1, i1], by rw [addI_nd, j2, i2], by rw [c2]; omega⟩⟩
    · rintro w3 rfl
      have E : fSpec role w2 = (nI 1, addI (adw w2) (nI 2) (nI 0) role) := by
        unfold fSpec
        rw [if_neg (by rw [g15]; decide), if_neg (by rw [g15]; decide), if_pos g15]
      rw [E]
      obtain ⟨c1, c2⟩ := h1.adI (nI 2) (nI 0) role
      obtain ⟨k1, k2⟩ := o1.adI (by rw [i1]; exact hi) (nI 2) (nI 0) role
      exact ⟨Or.inr rfl, rfl, rfl, Or.inr ⟨rfl, c1, k1, by rw [k2, i1], by rw [addI_nd, i2], by rw [c2]; omega⟩⟩
  · rintro r w1 ⟨rfl, rfl⟩
    have hn := hr2.z g
    have E : fSpec role w2 = (nI 0, flt w2 1) := by
      unfold fSpec
      rw [if_neg (fun e => hn (Or.inl e)), if_neg (fun e => hn (Or.inr (Or.inl e))), if_neg (fun e => hn (Or.inr (Or.inr e)))]
    rw [E]
    exact ⟨Or.inl rfl, rfl, rfl, Or.inl ⟨rfl, h.1.flN (by omega) (by omega)⟩⟩
theorem c_oHas (h : DV w) (o : OV w) {role : Nat} (hr : role = 1 ∨ role = 2) : EvI m_Book_openRuleHas d [.ref 13, .int (nI role)] w (fun r w' => w' = w ∧ Bo (¬ w.1 (15 + role) (nd w) = -nI 1) r) := by
  refine ev_Book_openRuleHas_d _ (vc_Book_openRuleHas_d_0 _ ?_)
  rw [h.1]
  refine ⟨fun _ => ⟨fun g => ⟨nd w, rfl, o.1, ?_⟩, fun g => ⟨nd w, rfl, o.1, ?_⟩⟩, fun g => absurd (mlt o.1) g⟩
  · have : role = 2 := hr.elim (fun e => absurd (by rw [e]) g) id
    subst this
    exact ⟨fun k => ⟨Or.inl rfl, rfl, Bo.f (fun x => x k)⟩, fun k => ⟨Or.inr rfl, rfl, Bo.t k⟩⟩
  · have : role = 1 := nI_inj (by omega) (by omega) g
    subst this
    exact ⟨fun k => ⟨Or.inl rfl, rfl, Bo.f (fun x => x k)⟩, fun k => ⟨Or.inr rfl, rfl, Bo.t k⟩⟩
theorem fItem_1 {n : Nat} (h : cd w = -nI 10) : fItem n w = if ¬ w.1 16 (nd w) = -nI 1 then (nI 0, flt w 1) else if 10 ≤ n then (nI 0, flt w 5) else fSpec 1 (adw w) := by
  unfold fItem; rw [if_pos h]
theorem fItem_2 {n : Nat} (h : cd w = -nI 11) : fItem n w = if ¬ w.1 17 (nd w) = -nI 1 then (nI 0, flt w 1) else if 10 ≤ n then (nI 0, flt w 5) else fSpec 2 (adw w) := by
  unfold fItem; rw [if_neg (by rw [h]; decide), if_pos h]
theorem fItem_3 {n : Nat} (h : cd w = -nI 12) : fItem n w = if 10 ≤ n then (nI 0, flt w 5) else (nI 1, addI (adw w) (nI 3) (nI 0) 0) := by
  unfold fItem; rw [if_neg (by rw [h]; decide), if_neg (by rw [h]; decide), if_pos h]
theorem fItem_0 {n : Nat} (h1 : ¬ cd w = -nI 10) (h2 : ¬ cd w = -nI 11) (h3 : ¬ cd w = -nI 12) : fItem n w = if cd w = -nI 13 ∨ cd w = -nI 14 ∨ cd w = -nI 15 then (if 10 ≤ n then (nI 0, flt w 5) else fSpec 0 w) else (nI 0, flt w 1) := by
  unfold fItem; rw [if_neg h1, if_neg h2, if_neg h3]
theorem c_readItem (h : CVD w) (o : OV w) (hc : ¬ cd w = -nI 1) : EvI m_Reader_readItem (d + 4) [.ref 24, .int (nI (itn w))] w (fun r w' => w' = (fItem (itn w) w).2 ∧ r = (fItem (itn w) w).1 ∧ PI w r w') := by
  obtain ⟨h1, t1⟩ := h.adv hc
  obtain ⟨i1, i2⟩ := adw_it w
  have o1 := o.adv
  have o3 := o.2.2
  refine ev_Reader_readItem _ (vc_Reader_readItem_0 _ ⟨_, c_code (d := d + 3) h.1, ?_⟩)
  rintro r w1 ⟨rfl, rfl⟩
  -- a fault
  have bad : ∀ n, 1 ≤ n → n ≤ 16 → fItem (itn w1) w1 = (nI 0, flt w1 n) → ∀ r w2, (w2 = flt w1 n ∧ r = 0) → (r = 0 ∨ r = 1) ∧ w2 = (fItem (itn w1) w1).2 ∧ r = (fItem (itn w1) w1).1 ∧ PI w1 r w2 := by
    rintro n n1 n2 E r w2 ⟨rfl, rfl⟩
    rw [E]
    exact ⟨Or.inl rfl, rfl, rfl, Or.inl ⟨rfl, h.1.flN n1 n2⟩⟩
  -- a spec behind left or right
  have spec : ∀ role, role ≤ 2 → itn w1 < 10 → fItem (itn w1) w1 = fSpec role (adw w1) → ∀ r w2, (w2 = (fSpec role (adw w1)).2 ∧ r = (fSpec role (adw w1)).1 ∧ PI (adw w1) r w2) → (r = 0 ∨ r = 1) ∧ w2 = (fItem (itn w1) w1).2 ∧ r = (fItem (itn w1) w1).1 ∧ PI w1 r w2 := by
    rintro role hr hi E r w2 ⟨e1, e2, e3⟩
    rw [E]
    refine ⟨e3.imp (fun x => x.1) (fun x => x.1), e1, e2, e3.imp id (fun ⟨z1, z2, z3, z4, z5, z6⟩ => ⟨z1, z2, z3, by rw [z4, i1], by rw [z5, i2], by omega⟩)⟩
  refine ⟨fun g10 => ⟨fun g11 => ⟨fun _ => ⟨fun g12 => ⟨fun gi => ⟨fun g => absurd g12 g, fun _ => ⟨_, c_advance (d := d + 3) h.1, ?_⟩⟩, fun gi => ⟨_, c_fail (d := d + 2) h.1 5, ?_⟩⟩, fun g12 => ⟨_, c_isSpec (d := d + 3) _, ?_⟩⟩, fun g => absurd rfl g⟩, fun g11 => ⟨fun g => absurd g (by decide), fun _ => ⟨_, c_oHas (d := d + 3) h.2.1 o (role := 2) (Or.inr rfl), ?_⟩⟩⟩, fun g10 => ⟨fun g => absurd g (by decide), fun _ => ⟨_, c_oHas (d := d + 3) h.2.1 o (role := 1) (Or.inl rfl), ?_⟩⟩⟩
  · have gi := glt gi
    rintro w2 rfl
    refine ⟨_, c_addItem (d := d + 3) h1.2.1 o1 (by rw [i1]; exact gi) (nI 3) (nI 0) (role := 0) (by omega), ?_⟩
    rintro w3 rfl
    rw [fItem_3 g12, if_neg (by omega)]
    obtain ⟨c1, c2⟩ := h1.adI (nI 3) (nI 0) 0
    obtain ⟨k1, k2⟩ := o1.adI (by rw [i1]; exact gi) (nI 3) (nI 0) 0
    exact ⟨Or.inr rfl, rfl, rfl, Or.inr ⟨rfl, c1, k1, by rw [k2, i1], by rw [addI_nd, i2], by rw [c2]; omega⟩⟩
  · have gi := nglt gi
    exact bad 5 (by omega) (by omega) (by rw [fItem_3 g12, if_pos (by omega)])
  · rintro r w2 ⟨rfl, hr⟩
    refine ⟨fun g => ⟨fun gi => ⟨fun _ => ⟨fun _ => ?_, fun g => absurd rfl g⟩, fun g => absurd g g12⟩, fun gi => ⟨_, c_fail (d := d + 2) h.1 5, ?_⟩⟩, fun g => ⟨_, c_fail (d := d + 2) h.1 1, ?_⟩⟩
    · have gi := glt gi
      refine ⟨_, c_readSpec (d := d) h o gi (role := 0) (by omega), ?_⟩
      rintro r3 w3 ⟨e1, e2, e3⟩
      rw [fItem_0 g10 g11 g12, if_pos (hr.n g), if_neg (by omega)]
      exact ⟨e3.imp (fun x => x.1) (fun x => x.1), e1, e2, e3⟩
    · have gi := nglt gi
      exact bad 5 (by omega) (by omega) (by rw [fItem_0 g10 g11 g12, if_pos (hr.n g), if_pos (by omega)])
    · exact bad 1 (by omega) (by omega) (by rw [fItem_0 g10 g11 g12, if_neg (hr.z g)])
  · rintro r w2 ⟨rfl, hr⟩
    have E := fItem_2 (n := itn w2) g11
    refine ⟨fun g => ⟨fun gi => ⟨fun _ => ⟨fun g => absurd g (by decide), fun _ => ⟨_, c_advance (d := d + 3) h.1, ?_⟩⟩, fun g => absurd (g11.symm.trans g) (by decide)⟩, fun gi => ⟨_, c_fail (d := d + 2) h.1 5, ?_⟩⟩, fun g => ⟨_, c_fail (d := d + 2) h.1 1, ?_⟩⟩
    · have gi := glt gi
      rintro w3 rfl
      refine ⟨_, c_readSpec (d := d) h1 o1 (by rw [i1]; exact gi) (role := 2) (by omega), ?_⟩
      intro r w2 x
      exact spec 2 (by omega) gi (by rw [E, if_neg (hr.z g), if_neg (by omega)]) r w2 x
    · have gi := nglt gi
      exact bad 5 (by omega) (by omega) (by rw [E, if_neg (hr.z g), if_pos (by omega)])
    · exact bad 1 (by omega) (by omega) (by rw [E, if_pos (hr.n g)])
  · rintro r w2 ⟨rfl, hr⟩
    have E := fItem_1 (n := itn w2) g10
    refine ⟨fun g => ⟨fun gi => ⟨fun _ => ⟨fun g => absurd g (by decide), fun _ => ⟨_, c_advance (d := d + 3) h.1, ?_⟩⟩, fun g => absurd (g10.symm.trans g) (by decide)⟩, fun gi => ⟨_, c_fail (d := d + 2) h.1 5, ?_⟩⟩, fun g => ⟨_, c_fail (d := d + 2) h.1 1, ?_⟩⟩
    · have gi := glt gi
      rintro w3 rfl
      refine ⟨_, c_readSpec (d := d) h1 o1 (by rw [i1]; exact gi) (role := 1) (by omega), ?_⟩
      intro r w2 x
      exact spec 1 (by omega) gi (by rw [E, if_neg (hr.z g), if_neg (by omega)]) r w2 x
    · have gi := nglt gi
      exact bad 5 (by omega) (by omega) (by rw [E, if_neg (hr.z g), if_pos (by omega)])
    · exact bad 1 (by omega) (by omega) (by rw [E, if_pos (hr.n g)])
theorem c_readItemE (h : CVD w) (hE : cd w = -nI 1) (x : Int32) (n : Nat) : EvI m_Reader_readItem (d + 4) [.ref 24, .int (x)] w (fun r w' => w' = (fItem n w).2 ∧ r = (fItem n w).1 ∧ PI w r w') := by
  have g10 : ¬ cd w = -nI 10 := by rw [hE]; decide
  have g11 : ¬ cd w = -nI 11 := by rw [hE]; decide
  have g12 : ¬ cd w = -nI 12 := by rw [hE]; decide
  have gs : ¬ (cd w = -nI 13 ∨ cd w = -nI 14 ∨ cd w = -nI 15) := by rw [hE]; decide
  refine ev_Reader_readItem _ (vc_Reader_readItem_0 _ ⟨_, c_code (d := d + 3) h.1, ?_⟩)
  rintro r w1 ⟨rfl, rfl⟩
  refine ⟨fun _ => ⟨fun _ => ⟨fun _ => ⟨fun g => absurd g g12, fun _ => ⟨_, c_isSpec (d := d + 3) _, ?_⟩⟩, fun g => absurd rfl g⟩, fun g => absurd g g11⟩, fun g => absurd g g10⟩
  rintro r w2 ⟨rfl, hr⟩
  refine ⟨fun g => absurd (hr.n g) gs, fun g => ⟨_, c_fail (d := d + 2) h.1 1, ?_⟩⟩
  rintro r w3 ⟨rfl, rfl⟩
  rw [fItem_0 g10 g11 g12, if_neg gs]
  exact ⟨Or.inl rfl, rfl, rfl, Or.inl ⟨rfl, h.1.flN (by omega) (by omega)⟩⟩
/-- the end of a rule, at a semicolon -/
theorem c_end (h : CVD w) (o : OV w) (t0 : Nat) (ht : t0 ≤ tk w) {Q : Wd → Prop} (hq : ∀ w', w' = fEnd w → (¬ w'.1 24 3 = 0 ∨ (CVD w' ∧ t0 < tk w')) → Q w') : ∃ Q1 : Int32 → Wd → Prop, EvI m_Book_openRuleHas (d + 3) [.ref 13, .int (nI 1)] w Q1 ∧ ∀ r1 w1, Q1 r1 w1 → ((r1 = 0 → ∃ Q2 : Int32 → Wd → Prop, EvI m_Reader_fail (d + 3) [.ref 24, .int (nI 1)] w1 Q2 ∧ ∀ r2 w2, Q2 r2 w2 → Q w2) ∧ (¬ r1 = 0 → ∃ Q3 : Int32 → Wd → Prop, EvI m_Book_openRuleHas (d + 3) [.ref 13, .int (nI 2)] w1 Q3 ∧ ∀ r3 w3, Q3 r3 w3 → ((¬ r3 = 0 → ∃ Q4 : Int32 → Wd → Prop, EvI m_Reader_readSign (d + 3) [.ref 24, .int (-nI 5)] w3 Q4 ∧ ∀ r4 w4, Q4 r4 w4 → ((r4 = 0 → Q w4) ∧ (¬ r4 = 0 → ∃ Q5 : Wd → Prop, EvV m_Book_closeRule (d + 3) [.ref 13] w4 Q5 ∧ ∀ w5, Q5 w5 → Q w5))) ∧ (r3 = 0 → ∃ Q6 : Int32 → Wd → Prop, EvI m_Reader_fail (d + 3) [.ref 24, .int (nI 1)] w3 Q6 ∧ ∀ r6 w6, Q6 r6 w6 → Q w6)))) := by
  refine ⟨_, c_oHas (d := d + 3) h.2.1 o (role := 1) (Or.inl rfl), ?_⟩
  rintro r w1 ⟨rfl, hr⟩
  refine ⟨fun g => ⟨_, c_fail (d := d + 2) h.1 1, ?_⟩, fun g => ⟨_, c_oHas (d := d + 3) h.2.1 o (role := 2) (Or.inr rfl), ?_⟩⟩
  · rintro r2 w2 ⟨rfl, rfl⟩
    exact hq _ (if_pos (Or.inl (Classical.byContradiction (hr.z g)))).symm (Or.inl (h.1.flN (by omega) (by omega)))
  · rintro r w2 ⟨rfl, hr2⟩
    refine ⟨fun g2 => ?_, fun g2 => ⟨_, c_fail (d := d + 2) h.1 1, ?_⟩⟩
    · have E : fEnd w2 = bS (sgs (-nI 5) w2) closeR := if_neg (fun x => x.elim (hr.n g) (hr2.n g2))
      refine sig_k (d := d + 1) h (-nI 5) (by decide) (fun a b => hq _ (by rw [E, bS_f a]) (Or.inl b)) (fun c1 e2 h3 t3 => ?_)
      have d1 := h3.2.1.1
      have d2 := h3.2.1.2.1
      have dn : nd (adw w2) = nd w2 := (adw_it w2).2
      have o1 := o.1
      refine ⟨_, ev_Book_closeRule_d (vc_Book_closeRule_d_0 (Q := fun w' => w' = closeR (adw w2)) ?_), ?_⟩
      · rw [d1, nI_add]
        exact ⟨fun g => absurd (gle g) (by omega), fun _ => rfl⟩
      · rintro w3 rfl
        have m := h3.1.mv (w' := closeR (adw w2)) (fun a _ _ => funext fun j => closeR_o (by omega))
        refine hq _ (by rw [E, bS_t e2]) (Or.inr ⟨⟨m.1, ?_, (closeR_o (by decide)).trans h3.2.2⟩, by rw [m.2]; omega⟩)
        have x0 : (closeR (adw w2)).1 13 0 = nI (nd (adw w2) + 1) := u_s
        have x : nd (closeR (adw w2)) = nd (adw w2) + 1 := N_of x0
        have y7 : (closeR (adw w2)).1 13 7 = (adw w2).1 13 7 := closeR_o (by decide)
        have y9 : (closeR (adw w2)).1 13 9 = (adw w2).1 13 9 := closeR_o (by decide)
        obtain ⟨-, -, d3, d4, d5, d6⟩ := h3.2.1
        unfold DV
        rw [x, x0, show nb (closeR (adw w2)) = nb (adw w2) from N_cg y7, show nc (closeR (adw w2)) = nc (adw w2) from N_cg y9, y7, y9]
        exact ⟨rfl, by omega, d3, d4, d5, d6⟩
    · rintro r2 w3 ⟨rfl, rfl⟩
      exact hq _ (if_pos (Or.inr (Classical.byContradiction (hr2.z g2)))).symm (Or.inl (h.1.flN (by omega) (by omega)))
theorem c_items {r : Int32} {t0 : Nat} {Q : Wd → Prop} : ∀ m w, m ≤ 11 → itn w = 11 - m → CVD w → OV w → t0 ≤ tk w → (∀ w', w' = fItems m w → (¬ w'.1 24 3 = 0 ∨ (CVD w' ∧ t0 < tk w')) → Q w') → Z m_Reader_readRule (d + 5) (qV Q) 59 [(0, .ref 24), (1, .int (r)), (2, .int (nI (11 - m)))] [] w
  | 0, w, hm, hi, h, o, ht, hq => by
    have := o.2.2
    omega
  | m + 1, w, hm, hi, h, o, ht, hq => by
    have o3 := o.2.2
    refine vc_Reader_readRule_59 _ _ ⟨fun g => absurd (glt g) (by omega), fun _ => ⟨_, c_code (d := d + 4) h.1, ?_⟩⟩
    rintro r7 w7 ⟨rfl, rfl⟩
    refine ⟨fun g5 => c_end (d := d + 1) h o t0 ht (fun w' e p => hq w' (by rw [e, fItems, if_pos g5]) p), fun g5 => ?_⟩
    have item : EvI m_Reader_readItem (d + 4) [.ref 24, .int (nI (itn w7))] w7 (fun r w' => w' = (fItem (itn w7) w7).2 ∧ r = (fItem (itn w7) w7).1 ∧ PI w7 r w') := by
      by_cases hE : cd w7 = -nI 1
      · exact c_readItemE (d := d) h hE _ _
      · exact c_readItem (d := d) h o hE
    rw [show 11 - (m + 1) = itn w7 by omega]
    refine ⟨_, item, ?_⟩
    rintro r8 w8 ⟨e1, e2, e3⟩
    have ek : 10 - m = itn w7 := by omega
    have E : fItems (m + 1) w7 = if (fItem (itn w7) w7).1 = 0 then (fItem (itn w7) w7).2 else fItems m (fItem (itn w7) w7).2 := by rw [fItems, if_neg g5, ek]
    rcases e3 with ⟨z1, z2⟩ | ⟨z1, z2, z3, z4, z5, z6⟩
    · refine ⟨fun g => absurd z1 g, fun _ => hq w8 ?_ (Or.inl z2)⟩
      rw [E, ← e2, if_pos z1, e1]
    · refine ⟨fun _ => ?_, fun g => absurd (z1.symm.trans g) (by decide)⟩
      rw [nI_add, show itn w7 + 1 = 11 - m by omega]
      refine c_items m w8 (by omega) (by omega) z2 z3 (by omega) (fun w' e p => hq w' ?_ p)
      rw [E, ← e2, if_neg (by rw [z1]; decide), ← e1]
      exact e
theorem c_readRule (h : CVD w) (hc : ¬ cd w = -nI 1) : EvV m_Reader_readRule (d + 5) [.ref 24] w (fun w' => w' = fRule w ∧ PO w w') := by
  obtain ⟨h1, t1⟩ := h.adv hc
  obtain ⟨b1, b2, -⟩ := h.2.1
  refine ev_Reader_readRule (vc_Reader_readRule_0 ⟨_, ev_Book_rules_d (d := d + 4) (vc_Book_rules_d_0 (Q := fun r w' => w' = w ∧ r = nI (nd w)) ⟨rfl, b1⟩), ?_⟩)
  rintro r w1 ⟨rfl, rfl⟩
  refine ⟨fun g => ⟨_, c_advance (d := d + 4) h.1, ?_⟩, fun g => ⟨_, c_fail (d := d + 3) h.1 5, ?_⟩⟩
  · rintro w2 rfl
    have g := glt g
    have E : fRule w1 = bN (nmb 0 9 (adw w1)) (fun x w => bS (sgs (-nI 3) w) (fun w => fItems 11 (openR w x))) := if_pos g
    refine num_k (d := d + 2) h1 0 9 (by omega) (by omega) (fun a b => ⟨by rw [E, bN_f a], Or.inl b⟩) (fun n n1 n2 n3 e h2 t2 => ?_)
    refine sig_k' (d := d + 2) h2 (-nI 3) (by decide) (fun a b => ⟨by rw [E, bN_t e (by omega), bS_f a], Or.inl b⟩) (fun c1 e2 h3 t3 => ?_)
    generalize hw6 : adw (adw (adw w1)) = w6 at *
    have e13 : w6.1 13 0 = nI (nd w1) := by rw [← hw6, adw_o (by decide), adw_o (by decide), adw_o (by decide)]; exact b1
    have en : nd w6 = nd w1 := N_of e13
    refine ⟨_, ev_Book_openRule_d _ (vc_Book_openRule_d_0 _ (Q := fun w' => w' = openR w6 (nI n)) ?_), ?_⟩
    · rw [e13]
      refine ⟨fun g => absurd (gle g) (by omega), fun _ => ⟨nd w1, rfl, g, nd w1, rfl, g, nd w1, rfl, g, nd w1, rfl, g, ?_⟩⟩
      unfold openR
      rw [en]
    · rintro w2 rfl
      have m := h3.1.mv (w' := openR w6 (nI n)) (fun a _ _ => funext fun j => openR_o (by omega))
      have y0 : nd (openR w6 (nI n)) = nd w6 := N_cg (openR_o (by decide))
      have x15 : (openR w6 (nI n)).1 15 (nd w6) = nI 0 := by
        unfold openR
        rw [u_o (by omega), u_o (by omega), u_s]
      have xi : itn (openR w6 (nI n)) = 0 := by
        unfold itn
        rw [y0]
        exact N_of x15
      refine c_items (d := d) (t0 := tk w1 + 1) 11 (openR w6 (nI n)) (Nat.le_refl _) xi ⟨m.1, h3.2.1.mv3 (openR_o (by decide)) (openR_o (by decide)) (openR_o (by decide)), (openR_o (by decide)).trans h3.2.2⟩ ⟨by rw [y0, en]; exact g, by rw [xi, y0]; exact x15, by rw [xi]; omega⟩ (by rw [m.2]; omega) (fun w' e' p => ⟨by rw [E, bN_t e (by omega), bS_t e2]; exact e', p.imp id (fun z => ⟨z.1, by omega⟩)⟩)
  · rintro r w2 ⟨rfl, rfl⟩
    have g := nglt g
    exact ⟨(if_neg (by omega)).symm, Or.inl (h.1.flN (by omega) (by omega))⟩
def fRead : Nat → Wd → Wd
  | 0, w => w
  | n + 1, w => if ¬ w.1 24 3 = 0 then w else if cd w = -nI 1 then w else fRead n (fStmt w)
/-- the statements, one behind the other; 1200 are enough -/
theorem c_stmts {Q : Int32 → Wd → Prop} : ∀ n w, n ≤ 1200 → (¬ w.1 24 3 = 0 ∨ (CVD w ∧ 1200 - n ≤ tk w)) → (∀ w', w' = fRead n w → (¬ w'.1 24 3 = 0 ∨ (CVD w' ∧ cd w' = -nI 1)) → Q (w'.1 24 3) w') → Z m_Reader_read (d + 6) (qI Q) 32 [(0, .ref 24), (1, .int (nI (1200 - n)))] [] w
  | 0, w, hn, h, hq => by
    refine vc_Reader_read_32 _ ⟨fun _ => hq w rfl (h.imp id (fun z => ⟨z.1, ?_⟩)), fun g => absurd (mle (Nat.le_refl _)) g⟩
    obtain ⟨s, s1, s2, s3, s4, s5, s6, -⟩ := z.1.1
    unfold cd
    rw [show tk w = s - 1 by omega]
    exact s4
  | n + 1, w, hn, h, hq => by
    refine vc_Reader_read_32 _ ⟨fun g => absurd (gle g) (by omega), fun _ => ⟨fun g => hq w (by rw [fRead, if_pos g]) (Or.inl g), fun g => ?_⟩⟩
    rcases h with h | ⟨h, ht⟩
    · exact absurd g h
    refine ⟨_, c_code (d := d + 5) h.1, ?_⟩
    rintro r w1 ⟨rfl, rfl⟩
    refine ⟨fun gE => hq w1 (by rw [fRead, if_neg (fun x => x g), if_pos gE]) (Or.inr ⟨h, gE⟩), fun gE => ⟨_, c_code (d := d + 5) h.1, ?_⟩⟩
    rintro r w2 ⟨rfl, rfl⟩
    have E : fRead (n + 1) w2 = fRead n (fStmt w2) := by rw [fRead, if_neg (fun x => x g), if_neg gE]
    have nx : ∀ w3, w3 = fStmt w2 → PO w2 w3 → Z m_Reader_read (d + 6) (qI Q) 32 [(0, .ref 24), (1, .int (nI (1200 - (n + 1)) + nI 1))] [] w3 := fun w3 e p => by
      rw [nI_add, show 1200 - (n + 1) + 1 = 1200 - n by omega]
      exact c_stmts n w3 (by omega) (p.imp id (fun z => ⟨z.1, by omega⟩)) (fun w' e' p' => hq w' (by rw [E, ← e]; exact e') p')
    refine ⟨fun g9 => ⟨_, c_readSingle (d := d + 2) h gE, ?_⟩, fun g9 => ⟨fun g8 => ⟨_, c_readChain (d := d + 2) h gE, ?_⟩, fun g8 => ⟨fun g7 => ⟨_, c_readBar (d := d + 2) h gE, ?_⟩, fun g7 => ⟨fun g6 => ⟨_, c_readRule (d := d) h gE, ?_⟩, fun g6 => ⟨_, c_fail (d := d + 4) h.1 1, ?_⟩⟩⟩⟩⟩
    · rintro w3 ⟨e, p⟩
      exact nx w3 (by rw [e]; unfold fStmt; rw [if_pos g9]) p
    · rintro w3 ⟨e, p⟩
      exact nx w3 (by rw [e]; unfold fStmt; rw [if_neg g9, if_pos g8]) p
    · rintro w3 ⟨e, p⟩
      exact nx w3 (by rw [e]; unfold fStmt; rw [if_neg g9, if_neg g8, if_pos g7]) p
    · rintro w3 ⟨e, p⟩
      exact nx w3 (by rw [e]; unfold fStmt; rw [if_neg g9, if_neg g8, if_neg g7, if_pos g6]) p
    · rintro r w3 ⟨e, -⟩
      exact nx w3 (by rw [e]; unfold fStmt; rw [if_neg g9, if_neg g8, if_neg g7, if_neg g6]) (Or.inl (by rw [e]; exact h.1.flN (by omega) (by omega)))
end
