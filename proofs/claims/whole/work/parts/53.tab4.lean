/-! THE TABLE: until nothing is added -/
/-- how many rows there are -/
noncomputable def cR (R : Nat → Nat → Nat → Prop) : Nat := ct (fun k => Rb R (k / 10000) (k / 100 % 100 + 1) (k % 100 + 1)) 100000
theorem cR_le (R : Nat → Nat → Nat → Prop) : cR R ≤ 100000 := ct_le _ _
theorem ct_more {p q : Nat → Bool} {i : Nat} (hp : p i = false) (hq : q i = true) : ∀ {n : Nat}, i < n → (∀ k, k < n → p k = true → q k = true) → ct p n < ct q n
  | 0, hi, _ => absurd hi (Nat.not_lt_zero i)
  | n + 1, hi, h => by
    by_cases e : i = n
    · subst e
      rw [ct_succ_f hp, ct_succ_t hq]
      have := ct_sub (n := i) (fun k hk => h k (by omega))
      omega
    · have ih := ct_more hp hq (n := n) (by omega) (fun k hk => h k (by omega))
      cases e2 : p n with
      | false =>
        rw [ct_succ_f e2]
        exact Nat.lt_of_lt_of_le ih (ct_mono (Nat.le_succ n))
      | true =>
        rw [ct_succ_t e2, ct_succ_t (h n (by omega) e2)]
        omega
theorem cR_lt {R R' : Nat → Nat → Nat → Prop} (hD : Dm R') (h : ∀ r a b, R r a b → R' r a b) (hn : ∃ r a b, R' r a b ∧ ¬ R r a b) : cR R < cR R' := by
  obtain ⟨r, a, b, h1, h2⟩ := hn
  obtain ⟨d1, d2, d3, d4, d5⟩ := hD r a b h1
  have e1 : (10000 * r + 100 * (a - 1) + (b - 1)) / 10000 = r := by omega
  have e2 : (10000 * r + 100 * (a - 1) + (b - 1)) / 100 % 100 + 1 = a := by omega
  have e3 : (10000 * r + 100 * (a - 1) + (b - 1)) % 100 + 1 = b := by omega
  refine ct_more (i := 10000 * r + 100 * (a - 1) + (b - 1)) (by rw [e1, e2, e3]; exact Rb_f h2) (by rw [e1, e2, e3]; exact (Rb_iff _ _ _ _).mpr h1) (by omega) (fun k _ hk => ?_)
  rw [Rb_iff] at hk ⊢
  exact h _ _ _ hk
/-- what a pass over (part of) the chains does: D is what holds where nothing was added -/
def Gw (w : Wd) (R0 R : Nat → Nat → Nat → Prop) (x : Int32) (D : Prop) : Prop := Ext w R0 R ∧ ((x = 0 ∧ R = R0 ∧ D) ∨ (x = 1 ∧ ∃ r a b, R r a b ∧ ¬ R0 r a b))
theorem Gw.imp {w : Wd} {R0 R : Nat → Nat → Nat → Prop} {x : Int32} {D D' : Prop} (h : Gw w R0 R x D) (e : D → D') : Gw w R0 R x D' := ⟨h.1, h.2.imp (fun y => ⟨y.1, y.2.1, e y.2.2⟩) id⟩
def ClC (w : Wd) (R : Nat → Nat → Nat → Prop) (c : Nat) : Prop := ∀ a b e, R (chn w c 1) a b → R (chn w c 2) b e → R (chn w c 0) a e
section
variable {R0 : Nat → Nat → Nat → Prop} {w0 : Wd} {d : Nat}
theorem c_followChain (hC : CtI w0) (hD : Dm R0) {w : Wd} (hw : F2 w0 w) (h : TbI R0 w) {c : Nat} (hc : c < nch w0) : EvI m_Table_followChain (d + 2) [.ref 42, .int (nI (chn w0 c 0)), .int (nI (chn w0 c 1)), .int (nI (chn w0 c 2))] w (fun x w' => ∃ R, F2 w0 w' ∧ TbI R w' ∧ Gw w0 R0 R x (ClC w0 R0 c)) := by
  have k0 := (hC.2.2.2.2.2.2.2.2.1 c hc 0 (by omega)).1
  have k1 := (hC.2.2.2.2.2.2.2.2.1 c hc 1 (by omega)).1
  have k2 := (hC.2.2.2.2.2.2.2.2.1 c hc 2 (by omega)).1
  refine ev_Table_followChain _ _ _ (vc_Table_followChain_0 _ _ _ ⟨_, c_isRelation (d := d + 1) _, ?_⟩)
  rintro x w1 ⟨rfl, hx⟩
  refine ⟨fun g => absurd (isRl_nI k0) (hx.z g), fun _ => ⟨_, c_isRelation (d := d + 1) _, ?_⟩⟩
  rintro x w2 ⟨rfl, hx⟩
  refine ⟨fun g => absurd (isRl_nI k1) (hx.z g), fun _ => ⟨_, c_isRelation (d := d + 1) _, ?_⟩⟩
  rintro x w1 ⟨rfl, hx⟩
  refine ⟨fun _ => ?_, fun g => absurd (isRl_nI k2) (hx.z g)⟩
  refine lpU (I := fun a w' => True) (G := fun a w' => ∀ R x4, F2 w0 w' → TbI R w' → Gw w0 R0 R x4 (∀ a', a' < a + 1 → ∀ b e, R0 (chn w0 c 1) a' b → R0 (chn w0 c 2) b e → R0 (chn w0 c 0) a' e) → Z m_Table_followChain (d + 2) (qI (fun x w' => ∃ R, F2 w0 w' ∧ TbI R w' ∧ Gw w0 R0 R x (ClC w0 R0 c))) 29 [(0, .ref 42), (1, .int (nI (chn w0 c 0))), (2, .int (nI (chn w0 c 1))), (3, .int (nI (chn w0 c 2))), (4, .int (x4)), (5, .int (nI (a + 1)))] [] w') (M := 100) ?_ ?_ 0 (Nat.zero_le _) _ trivial R0 (nI 0) hw h ⟨Ext.rf, Or.inl ⟨rfl, rfl, fun a' ha' b e h1 _ => absurd (hD _ _ _ h1).2.1 (by omega)⟩⟩
  · rintro w2 - R x4 f1 f2 f3
    refine vc_Table_followChain_29 _ _ _ _ _ ⟨fun _ => ⟨?_, R, f1, f2, f3.imp (fun k a b e h1 h2 => ?_)⟩, fun g => absurd (mlt (by omega)) g⟩
    · rcases f3.2 with ⟨z, -⟩ | ⟨z, -⟩
      · exact Or.inl z
      · exact Or.inr z
    · exact k a (by have := (hD _ _ _ h1).2.2.1; omega) b e h1 h2
  · rintro a w2 ha - nx R x4 f1 f2 f3
    have hDR : Dm R := f3.1.dm hC hD
    refine vc_Table_followChain_29 _ _ _ _ _ ⟨fun g => absurd (glt g) (by omega), fun _ => ⟨_, c_degree (d := d) hDR f2 k1 (a := a + 1) (by omega) (by omega), ?_⟩⟩
    rintro y w3 ⟨rfl, rfl⟩
    rw [nI_add]
    refine ⟨fun g => nx _ trivial R x4 f1 f2 ?_, fun g => ⟨_, c_followFrom (d := d) hDR f2 (a := a + 1) (by omega) (by omega) k0 k1 k2, ?_⟩⟩
    · have z : dgr R (chn w0 c 1) (a + 1) = 0 := by
        have h101 : dgr R (chn w0 c 1) (a + 1) ≤ 101 := ct_le _ _
        have := gle (b := 0) g
        omega
      have none : ∀ b, ¬ R (chn w0 c 1) (a + 1) b := fun b hb => by
        have h2 := ct_none z b (by have := (hDR _ _ _ hb).2.2.2.2; omega)
        rw [(Rb_iff _ _ _ _).mpr hb] at h2
        exact absurd h2 (by decide)
      refine f3.imp (fun k a' ha' b e h1 h2 => ?_)
      by_cases e' : a' = a + 1
      · subst e'
        exact absurd (f3.1.1 _ _ _ h1) (none b)
      · exact k a' (by omega) b e h1 h2
    · rintro y w4 ⟨i1, i2, i3⟩
      have hE := f3.1.tr (Fo.ext (R := R) (a := a + 1) hc)
      refine ⟨fun g => nx _ trivial _ x4 (f1.tr i1) i2 ⟨hE, ?_⟩, fun g => nx _ trivial _ (nI 1) (f1.tr i1) i2 ⟨hE, Or.inr ⟨rfl, ?_⟩⟩⟩
      · have hno := i3.z g
        have same : Fo R (chn w0 c 0) (chn w0 c 1) (chn w0 c 2) (a + 1) = R := by
          funext r x e
          apply propext
          refine ⟨fun z => z.elim id (fun ⟨z1, z2, z3⟩ => ?_), Or.inl⟩
          rw [z1, z2]
          exact Classical.byContradiction (fun k => hno ⟨e, z3, k⟩)
        rw [same]
        rcases f3.2 with ⟨z1, z2, z3⟩ | ⟨z1, z2⟩
        · refine Or.inl ⟨z1, z2, fun a' ha' b e h1 h2 => ?_⟩
          by_cases e' : a' = a + 1
          · subst e'
            rw [z2] at hno
            exact Classical.byContradiction (fun k => hno ⟨e, ⟨b, h1, h2⟩, k⟩)
          · exact z3 a' (by omega) b e h1 h2
        · exact Or.inr ⟨z1, z2⟩
      · obtain ⟨e, z1, z2⟩ := i3.n g
        exact ⟨_, _, _, Or.inr ⟨rfl, rfl, z1⟩, fun k => z2 (f3.1.1 _ _ _ k)⟩
theorem lit100001 : (100001 : Int32) = nI 100001 := rfl
theorem c_followChains (hC : CtI w0) (hD : Dm R0) {w : Wd} (hw : F2 w0 w) (h : TbI R0 w) : EvV m_Table_followChains (d + 3) [.ref 42] w (fun w' => ∃ R, F2 w0 w' ∧ TbI R w' ∧ Ext w0 R0 R ∧ Cl w0 R) := by
  refine ev_Table_followChains (vc_Table_followChains_0 ?_)
  have key : ∀ n m R w', 100000 - cR R < n → m ≤ cR R → F2 w0 w' → TbI R w' → Ext w0 R0 R → Z m_Table_followChains (d + 3) (qV (fun w' => ∃ R, F2 w0 w' ∧ TbI R w' ∧ Ext w0 R0 R ∧ Cl w0 R)) 4 [(0, .ref 42), (1, .int (nI 1)), (2, .int (nI m))] [] w' := by
    intro n
    induction n with
    | zero => intro m R w1 hn; omega
    | succ n ih =>
      intro m R w1 hn hm f1 f2 f3
      have hDR : Dm R := f3.dm hC hD
      have c1 := cR_le R
      refine vc_Table_followChains_4 _ _ ⟨fun g => absurd (by rw [lit100001] at g; exact gle g) (by omega), fun _ => ⟨fun g => absurd g (by decide), fun _ => ?_⟩⟩
      refine lpU (I := fun c w' => True) (G := fun c w' => ∀ R' x1, F2 w0 w' → TbI R' w' → Gw w0 R R' x1 (∀ c', c' < c → ClC w0 R c') → Z m_Table_followChains (d + 3) (qV (fun w' => ∃ R, F2 w0 w' ∧ TbI R w' ∧ Ext w0 R0 R ∧ Cl w0 R)) 18 [(0, .ref 42), (1, .int (x1)), (2, .int (nI m)), (3, .int (nI c))] [] w') (M := nch w0) ?_ ?_ 0 (Nat.zero_le _) _ trivial R (nI 0) f1 f2 ⟨Ext.rf, Or.inl ⟨rfl, rfl, fun c' hc' => absurd hc' (Nat.not_lt_zero _)⟩⟩
      · rintro ⟨p, q⟩ - R' x1 e1 e2 e3
        have ep : p = w0.1 := e1.1
        subst ep
        have hc6 := hC.2.2.2.2.2.2.2.1.1
        refine vc_Table_followChains_18 _ _ _ ⟨_, c_Book_chains (d := d + 2) (hC.w2 q).2.2, ?_⟩
        rintro y w2 ⟨rfl, rfl⟩
        refine ⟨fun _ => ?_, fun g => absurd (mle (Nat.le_refl (nch w0))) g⟩
        rw [nI_add]
        rcases e3.2 with ⟨rfl, rfl, z3⟩ | ⟨rfl, z2⟩
        · have fin : ∃ R, F2 w0 (w0.1, q) ∧ TbI R (w0.1, q) ∧ Ext w0 R0 R ∧ Cl w0 R := ⟨R', e1, e2, f3, fun c hc a b e h1 h2 => z3 c hc a b e h1 h2⟩
          exact vc_Table_followChains_4 _ _ ⟨fun _ => fin, fun _ => ⟨fun _ => fin, fun g => absurd rfl g⟩⟩
        · have c2 := cR_le R'
          have c3 := cR_lt (e3.1.dm hC hDR) e3.1.1 z2
          exact ih (m + 1) R' _ (by omega) (by omega) e1 e2 (f3.tr e3.1)
      · rintro c ⟨p, q⟩ hc - nx R' x1 e1 e2 e3
        have ep : p = w0.1 := e1.1
        subst ep
        have hc6 := hC.2.2.2.2.2.2.2.1.1
        refine vc_Table_followChains_18 _ _ _ ⟨_, c_Book_chains (d := d + 2) (hC.w2 q).2.2, ?_⟩
        rintro y w2 ⟨rfl, rfl⟩
        refine ⟨fun g => absurd (gle (a := nch w0) g) (by omega), fun _ => ?_⟩
        obtain ⟨b0, b1, b2⟩ := c_Book_chain (d := d + 2) (hC.w2 q).2.2 (c := c) hc
        refine ⟨_, b0, ?_⟩
        rintro y w2 ⟨rfl, rfl⟩
        refine ⟨_, b1, ?_⟩
        rintro y w2 ⟨rfl, rfl⟩
        refine ⟨_, b2, ?_⟩
        rintro y w2 ⟨rfl, rfl⟩
        refine ⟨_, c_followChain (d := d) hC (e3.1.dm hC hDR) e1 e2 hc, ?_⟩
        rintro y w2 ⟨R2, g1, g2, g3⟩
        rw [nI_add]
        refine ⟨fun g => nx _ trivial R2 x1 g1 g2 ?_, fun g => nx _ trivial R2 (nI 1) g1 g2 ⟨e3.1.tr g3.1, Or.inr ⟨rfl, ?_⟩⟩⟩
        · rcases g3.2 with ⟨-, rfl, z3⟩ | ⟨z1, -⟩
          · refine ⟨e3.1, e3.2.imp (fun ⟨k1, k2, k3⟩ => ⟨k1, k2, fun c' hc' => ?_⟩) id⟩
            by_cases e : c' = c
            · subst e; rw [k2] at z3; exact z3
            · exact k3 c' (by omega)
          · rw [z1] at g; exact absurd g (by decide)
        · rcases g3.2 with ⟨z1, -⟩ | ⟨-, r, a, b, z1, z2⟩
          · exact absurd z1 g
          · exact ⟨r, a, b, z1, fun k => z2 (e3.1.1 _ _ _ k)⟩
  exact key 100001 0 R0 w (by omega) (Nat.zero_le _) hw h Ext.rf
end
theorem c_Table_refresh {d : Nat} {w : Wd} (hF : FF w) (hT : TabI w) : EvV m_Table_refresh (d + 4) [.ref 42] w (fun w' => FT w w' ∧ w'.1 42 6 = 0 ∧ TbI (Rw w) w') := by
  have hcm := hF.1.2.1.2.2.1.1
  refine ev_Table_refresh (vc_Table_refresh_0 ⟨fun g => ⟨Or.inl rfl, _, c_fill, ?_⟩, fun g => ⟨FT.rf, g, hT.2 g⟩⟩)
  generalize hw : up1 w 42 6 (nI 0) = w0
  have fs : Sa (fun a k => ¬ (a = 42 ∧ k = 6)) w w0 := by rw [← hw]; exact Sa.up (fun x => x ⟨rfl, rfl⟩)
  have e0 : w0.1 42 6 = 0 := by rw [← hw]; rfl
  have e2 : w0.2 = w.2 := by rw [← hw]; rfl
  have fR : Sa KR w w0 := fs.mo (fun a k x => by unfold KR at x; omega)
  have eR : Rw w = Rw w0 := by
    funext r a b
    exact propext (SemR.of fR r a b).symm
  have hF0 : FF w0 := ⟨hF.1.sa (fs.mo (fun a k x => by unfold KC at x; omega)), hF.2.1.mv (SemF.of (KR.f fR)) (fun a _ _ => fs.row a (fun k => by omega)), fun s hs => by
    rw [fs 40 s (by omega)]
    exact hF.2.2 s (by rw [← (SemF.of (KR.f fR)).1]; exact hs)⟩
  have hC0 := hF0.1
  have hcm0 := hC0.2.1.2.2.1.1
  have ft : FT w w0 := ⟨fun a k g => fs a k g, fun a _ _ => by rw [e2]⟩
  rw [eR]
  rintro w1 ⟨a1, a2, a3⟩
  refine ⟨_, c_fill_h, ?_⟩
  rintro w2 ⟨b1, b2, b3⟩
  have h0 : TbI (BsN w0 (3072 * 0)) w2 := fun r hr a h1 h2 => ⟨0, 0, by decide, by decide, by rw [b3]; exact a2 _ (by omega), b2 _ (by omega), fun b => ⟨fun x => by rw [Nat.zero_testBit] at x; exact absurd x (by decide), fun ⟨_, j, hj, _⟩ => absurd hj (by omega)⟩, fun b => ⟨fun x => by rw [Nat.zero_testBit] at x; exact absurd x (by decide), fun ⟨j, hj, _⟩ => absurd hj (by omega)⟩⟩
  refine lpU (I := fun s w' => F2 w0 w' ∧ TbI (BsN w0 (3072 * s)) w') (G := fun s w' => Z m_Table_refresh (d + 4) (qV (fun w' => FT w w' ∧ w'.1 42 6 = 0 ∧ TbI (Rw w0) w')) 31 [(0, .ref 42), (1, .int (nI s))] [] w') (M := cm w0) ?_ ?_ 0 (Nat.zero_le _) _ ⟨a1.tr b1, h0⟩
  · rintro ⟨p, q⟩ ⟨i1, i2⟩
    have ep : p = w0.1 := i1.1
    subst ep
    refine vc_Table_refresh_31 _ ⟨_, c_came (d := d + 3) (hC0.w2 q).2.1, ?_⟩
    rintro y w3 ⟨rfl, rfl⟩
    refine ⟨fun _ => ?_, fun g => absurd (mle (Nat.le_refl (cm w0))) g⟩
    have eB : BsN w0 (3072 * cm w0) = Bs w0 := by
      rw [← BsN_all hC0]
      refine (BsN_skip (by omega) (fun j h1 h2 h3 => ?_)).symm
      have := ((fN_iff w0 j).mp h3).1
      omega
    rw [eB] at i2
    refine ⟨_, c_followChains (d := d) hC0 (Bs.dm hC0) i1 i2, ?_⟩
    rintro w3 ⟨R, g1, g2, g3, g4⟩
    rw [g3.all g4] at g2
    exact ⟨ft.tr g1.ft, by rw [g1.1]; exact e0, g2⟩
  · rintro s ⟨p, q⟩ hs ⟨i1, i2⟩ nx
    have ep : p = w0.1 := i1.1
    subst ep
    refine vc_Table_refresh_31 _ ⟨_, c_came (d := d + 3) (hC0.w2 q).2.1, ?_⟩
    rintro y w3 ⟨rfl, rfl⟩
    refine ⟨fun g => absurd (gle (a := cm w0) g) (by omega), fun _ => ⟨_, c_Finder_isBarred (d := d + 3) (hF0.w2 q) (s := s) hs, ?_⟩⟩
    rintro y w3 ⟨rfl, hy⟩
    have eBr : Brr (w0.1, q) s = Brr w0 s := Brr.mv (KF.mf (w := w0) (w' := (w0.1, q)) (fun _ _ _ => rfl)) rfl rfl s
    have hy : Bo (thr w0 s ∧ Brr w0 s) y := by rw [eBr] at hy; exact hy
    rw [nI_add]
    refine ⟨fun g => nx _ ⟨i1, ?_⟩, fun g => ⟨_, c_addFinds (d := d) hF0 hs (hy.z g) i1 i2, ?_⟩⟩
    · rw [BsN_skip (c := 3072 * s) (by omega)]
      · exact i2
      · intro j h1 h2 _
        rw [show j / 3072 = s by omega]
        exact (hy.n g).2
    · rintro w3 ⟨g1, g2⟩
      exact nx _ ⟨g1, g2⟩
