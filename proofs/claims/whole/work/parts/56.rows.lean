/-! rows, row, quarrel -/
theorem ct_find {p : Nat → Bool} {i A : Nat} : ∀ {B : Nat}, A ≤ B → ct p A ≤ i → i < ct p B → ∃ k, A ≤ k ∧ k < B ∧ p k = true ∧ ct p k = i
  | 0, h, h1, h2 => by rw [show A = 0 by omega] at h1; omega
  | B + 1, h, h1, h2 => by
    by_cases e : A = B + 1
    · rw [e] at h1; omega
    cases ep : p B with
    | false =>
      rw [ct_succ_f ep] at h2
      obtain ⟨k, a, b, c⟩ := ct_find (B := B) (by omega) h1 h2
      exact ⟨k, a, by omega, c⟩
    | true =>
      rw [ct_succ_t ep] at h2
      by_cases e2 : ct p B = i
      · exact ⟨B, by omega, by omega, ep, e2⟩
      · obtain ⟨k, a, b, c⟩ := ct_find (B := B) (by omega) h1 (by omega)
        exact ⟨k, a, by omega, c⟩
theorem Inv.tab {w w' : Wd} (h : Inv w) (f : FT w w') (e0 : w'.1 42 6 = 0) (ht : TbI (Rw w) w') : Inv w' ∧ TbI (Rw w') w' := by
  obtain ⟨h1, h2, h3, h4, h5, h6, h7, h8⟩ := h
  have fs : Sa (fun a k => ¬ (a = 42 ∧ k = 6)) w w' := fun a k g => f.1 a k g
  have fR : Sa KR w w' := fs.mo (fun a k x => by unfold KR at x; omega)
  have S := SemF.of (KR.f fR)
  have eR : Rw w' = Rw w := funext fun r => funext fun a => funext fun b => propext (SemR.of fR r a b)
  have r : ∀ a, a ≠ 42 → w'.1 a = w.1 a := fun a ha => fs.row a (fun k => by omega)
  rw [eR]
  refine ⟨⟨h1.sa (fs.mo (fun a k x => by unfold KC at x; omega)), h2.mv (by rw [r 58 (by decide)]) (by rw [r 8 (by decide)]) (r 9 (by decide)) (r 59 (by decide)), h3.mv S (fun a _ _ => r a (by omega)), ⟨Or.inl e0, fun _ => ?_⟩, h5.mv S (by rw [r 58 (by decide)]) (r 82 (by decide)), h6.mv (by rw [S.1]; exact Nat.le_refl _) (fun s _ => N_cg (by rw [r 79 (by decide)])) (by rw [r 58 (by decide)]) (by rw [r 45 (by decide)]) (fun a _ => r a (by omega)), h7.mv (fun k _ _ => by rw [r 58 (by decide)]) (fun a _ => r a (by omega)), fun k hk => by rw [f.2 63 (by decide) (by decide)]; exact h8 k hk⟩, ht⟩
  unfold TR
  rw [eR]
  exact ht
theorem c_both {w : Wd} (h : Inv w) {P : Prop} {Q : Wd → Prop} (hq : ∀ w', Inv w' → TbI (Rw w') w' → Q w') : ∃ Q2 : Wd → Prop, EvV m_Finder_refresh 29 [.ref 36] w Q2 ∧ ∀ w1, Q2 w1 → ∃ Q3 : Wd → Prop, EvV m_Table_refresh 29 [.ref 42] w1 Q3 ∧ ∀ w2, Q3 w2 → Q w2 := by
  refine ⟨_, c_refresh (d := 23) h.1 h.2.2.1, ?_⟩
  rintro w1 ⟨f1, a1, b1⟩
  have i1 := h.rfr f1 a1 MFr.rf (h.2.2.2.2.1.fr f1)
  refine ⟨_, c_Table_refresh (d := 25) ⟨i1.1, a1, b1⟩ i1.2.2.2.1, ?_⟩
  rintro w2 ⟨g1, g2, g3⟩
  obtain ⟨i2, t2⟩ := i1.tab g1 g2 g3
  exact hq w2 i2 t2
/-- the rows of r, in order -/
noncomputable def pR2 (w : Wd) (r k : Nat) : Bool := Rb (Rw w) r (k / 101) (k % 101)
theorem pR2_row (w : Wd) (r a : Nat) : ct (pR2 w r) (101 * (a + 1)) = ct (pR2 w r) (101 * a) + dgr (Rw w) r a := by
  rw [show 101 * (a + 1) = 101 * a + 101 by omega, ct_add]
  have e : ct (fun b => pR2 w r (101 * a + b)) 101 = dgr (Rw w) r a := by
    unfold dgr
    refine ct_cong (fun b hb => ?_)
    unfold pR2
    rw [show (101 * a + b) / 101 = a by omega, show (101 * a + b) % 101 = b by omega]
  rw [e]
theorem pR2_at (w : Wd) (r a : Nat) {b : Nat} (hb : b ≤ 101) : ct (pR2 w r) (101 * a + b) = ct (pR2 w r) (101 * a) + ct (fun b => Rb (Rw w) r a b) b := by
  rw [ct_add]
  congr 1
  refine ct_cong (fun b' hb' => ?_)
  unfold pR2
  rw [show (101 * a + b') / 101 = a by omega, show (101 * a + b') % 101 = b' by omega]
theorem dgr0 {w : Wd} (hC : CtI w) (r : Nat) : dgr (Rw w) r 0 = 0 := ct_zero (fun b _ => Rb_f (fun x => absurd (Rw.dm hC _ _ _ x).2.1 (by decide)))
theorem pR2_0 {w : Wd} (hC : CtI w) (r : Nat) : ct (pR2 w r) 101 = 0 := by
  have := pR2_row w r 0
  rw [show 101 * (0 + 1) = 101 from rfl, dgr0 hC] at this
  exact this
theorem dgr_le (R : Nat → Nat → Nat → Prop) (r a : Nat) : dgr R r a ≤ 101 := ct_le _ _
theorem pR2_mv {w w' : Wd} (h : Rw w' = Rw w) (r : Nat) : pR2 w' r = pR2 w r := by
  funext k; unfold pR2; rw [h]
section
variable {w : Wd} {d : Nat}
theorem c_Table_size (hC : CtI w) (hT : TbI (Rw w) w) {r : Nat} (hr : r < 10) : EvI m_Table_size (d + 2) [.ref 42, .int (nI r)] w (fun x w' => w' = w ∧ x = nI (ct (pR2 w r) 10201)) := by
  refine ev_Table_size _ (vc_Table_size_0 _ ?_)
  refine lpU (I := fun a w' => w' = w) (G := fun a w' => Z m_Table_size (d + 2) (qI (fun x w' => w' = w ∧ x = nI (ct (pR2 w r) 10201))) 4 [(0, .ref 42), (1, .int (nI r)), (2, .int (nI (ct (pR2 w r) (101 * (a + 1))))), (3, .int (nI (a + 1)))] [] w') (M := 100) ?_ ?_ 0 (Nat.zero_le _) _ rfl |> fun x => by rw [show 101 * (0 + 1) = 101 from rfl, pR2_0 hC] at x; exact x
  · rintro w1 rfl
    exact vc_Table_size_4 _ _ _ ⟨fun _ => ⟨rfl, rfl⟩, fun g => absurd (mlt (by omega)) g⟩
  · rintro a w1 ha rfl nx
    refine vc_Table_size_4 _ _ _ ⟨fun g => absurd (glt g) (by omega), fun _ => ⟨_, c_isRelation (d := d + 1) _, ?_⟩⟩
    rintro y w2 ⟨rfl, hy⟩
    refine ⟨fun g => absurd (isRl_nI hr) (hy.z g), fun _ => ⟨_, c_degree (d := d) (Rw.dm hC) hT hr (a := a + 1) (by omega) (by omega), ?_⟩⟩
    rintro y w1 ⟨rfl, rfl⟩
    rw [nI_add, nI_add, ← pR2_row]
    exact nx _ rfl
theorem c_secondName (hC : CtI w) (hT : TbI (Rw w) w) {r a i : Nat} (hr : r < 10) (ha : 1 ≤ a) (ha2 : a ≤ 100) (hi : i < dgr (Rw w) r a) : EvI m_Table_secondName (d + 1) [.ref 42, .int (nI r), .int (nI a), .int (nI i)] w (fun x w' => w' = w ∧ ∃ b, b ≤ 100 ∧ Rw w r a b ∧ ct (fun b => Rb (Rw w) r a b) b = i ∧ x = nI b) := by
  have d101 := dgr_le (Rw w) r a
  have c1 : ct (fun b => Rb (Rw w) r a b) 1 = 0 := ct_succ_f (p := fun b => Rb (Rw w) r a b) (k := 0) (Rb_f (fun x => absurd (Rw.dm hC _ _ _ x).2.2.2.1 (by decide)))
  refine ev_Table_secondName _ _ _ (vc_Table_secondName_0 _ _ _ ?_)
  refine lpU (I := fun b w' => w' = w ∧ ct (fun b => Rb (Rw w) r a b) (b + 1) ≤ i) (G := fun b w' => Z m_Table_secondName (d + 1) (qI (fun x w' => w' = w ∧ ∃ b, b ≤ 100 ∧ Rw w r a b ∧ ct (fun b => Rb (Rw w) r a b) b = i ∧ x = nI b)) 6 [(0, .ref 42), (1, .int (nI r)), (2, .int (nI a)), (3, .int (nI i)), (4, .int (nI (i - ct (fun b => Rb (Rw w) r a b) (b + 1)))), (5, .int (nI (b + 1)))] [] w') (M := 100) ?_ ?_ 0 (Nat.zero_le _) _ ⟨rfl, by rw [c1]; omega⟩ |> fun x => by rw [show 0 + 1 = 1 from rfl, c1, Nat.sub_zero] at x; exact x
  · rintro w1 ⟨rfl, k⟩
    have : ct (fun b => Rb (Rw w1) r a b) (100 + 1) = dgr (Rw w1) r a := rfl
    omega
  · rintro b w1 hb ⟨rfl, k⟩ nx
    refine vc_Table_secondName_6 _ _ _ _ _ ⟨fun g => absurd (glt g) (by omega), fun _ => ⟨_, c_hasRow (d := d) hT hr ha ha2 (b := b + 1) (by omega), ?_⟩⟩
    rintro y w2 ⟨rfl, hy⟩
    rw [nI_add]
    refine ⟨fun g => ?_, fun g => ⟨fun g2 => ?_, fun g2 => ⟨rfl, b + 1, by omega, hy.n g, ?_, rfl⟩⟩⟩
    · have e := ct_succ_f (p := fun b => Rb (Rw w2) r a b) (k := b + 1) (Rb_f (hy.z g))
      rw [← e]
      exact nx _ ⟨rfl, by rw [e]; exact k⟩
    · have e := ct_succ_t (p := fun b => Rb (Rw w2) r a b) (k := b + 1) ((Rb_iff _ _ _ _).mpr (hy.n g))
      have h1 : 1 ≤ i - ct (fun b => Rb (Rw w2) r a b) (b + 1) := Nat.pos_of_ne_zero (fun e => g2 (by rw [e]; rfl))
      rw [add_m1 h1, show i - ct (fun b => Rb (Rw w2) r a b) (b + 1) - 1 = i - ct (fun b => Rb (Rw w2) r a b) (b + 1 + 1) by rw [e]; omega]
      exact nx _ ⟨rfl, by rw [e]; omega⟩
    · have := nI_inj (b := 0) (by omega) (by omega) g2
      omega
/-- first or second name of the k-th place -/
def nmA (x3 : Int32) (k : Nat) : Int32 := if x3 = 0 then nI (k % 101) else nI (k / 101)
theorem c_Table_name (hC : CtI w) (hT : TbI (Rw w) w) {r i : Nat} (hr : r < 10) (hi : i < 2147483648) (x3 : Int32) : EvI m_Table_name (d + 2) [.ref 42, .int (nI r), .int (nI i), .int (x3)] w (fun x w' => w' = w ∧ Nth (pR2 w r) 10201 (nI i) (nmA x3) x) := by
  refine ev_Table_name _ _ _ (vc_Table_name_0 _ _ _ ?_)
  refine lpU (I := fun a w' => w' = w ∧ ct (pR2 w r) (101 * (a + 1)) ≤ i) (G := fun a w' => Z m_Table_name (d + 2) (qI (fun x w' => w' = w ∧ Nth (pR2 w r) 10201 (nI i) (nmA x3) x)) 6 [(0, .ref 42), (1, .int (nI r)), (2, .int (nI i)), (3, .int (x3)), (4, .int (nI (i - ct (pR2 w r) (101 * (a + 1))))), (5, .int (nI (a + 1)))] [] w') (M := 100) ?_ ?_ 0 (Nat.zero_le _) _ ⟨rfl, by rw [show 101 * (0 + 1) = 101 from rfl, pR2_0 hC]; omega⟩ |> fun x => by rw [show 101 * (0 + 1) = 101 from rfl, pR2_0 hC, Nat.sub_zero] at x; exact x
  · rintro w1 ⟨rfl, k⟩
    refine vc_Table_name_6 _ _ _ _ _ ⟨fun _ => ⟨rfl, Or.inr ⟨fun j hj hp e => ?_, rfl⟩⟩, fun g => absurd (mlt (by omega)) g⟩
    have k : ct (pR2 w1 r) 10201 ≤ i := k
    have h1 := ct_mono (p := pR2 w1 r) (show j + 1 ≤ 10201 by omega)
    rw [ct_succ_t hp] at h1
    have h2 := ct_le (pR2 w1 r) j
    have := nI_inj hi (by omega) e
    omega
  · rintro a w1 ha ⟨rfl, k⟩ nx
    have d101 := dgr_le (Rw w1) r (a + 1)
    have er := pR2_row w1 r (a + 1)
    refine vc_Table_name_6 _ _ _ _ _ ⟨fun g => absurd (glt g) (by omega), fun _ => ⟨_, c_isRelation (d := d + 1) _, ?_⟩⟩
    rintro y w2 ⟨rfl, hy⟩
    refine ⟨fun g => absurd (isRl_nI hr) (hy.z g), fun _ => ⟨_, c_degree (d := d) (Rw.dm hC) hT hr (a := a + 1) (by omega) (by omega), ?_⟩⟩
    rintro y w1 ⟨rfl, rfl⟩
    rw [nI_add]
    refine ⟨fun g => ?_, fun g => ?_⟩
    · have g := gle g
      rw [sub_nI g, show i - ct (pR2 w1 r) (101 * (a + 1)) - dgr (Rw w1) r (a + 1) = i - ct (pR2 w1 r) (101 * (a + 1 + 1)) by rw [er]; omega]
      exact nx _ ⟨rfl, by rw [er]; omega⟩
    · have g := ngle g
      refine ⟨fun g3 => ⟨_, c_secondName (d := d) hC hT hr (a := a + 1) (by omega) (by omega) g, ?_⟩, fun g3 => ⟨rfl, Or.inl ?_⟩⟩
      · rintro y w2 ⟨rfl, b, b1, b2, b3, rfl⟩
        have e1 : (101 * (a + 1) + b) / 101 = a + 1 := by omega
        have e2 : (101 * (a + 1) + b) % 101 = b := by omega
        refine ⟨rfl, Or.inl ⟨101 * (a + 1) + b, by omega, ?_, ?_, ?_⟩⟩
        · unfold pR2; rw [e1, e2, Rb_iff]; exact b2
        · rw [pR2_at w2 r (a + 1) (by omega), b3]; congr 1; omega
        · unfold nmA; rw [if_pos g3, e2]
      · obtain ⟨j, j1, j2, j3, j4⟩ := ct_find (p := pR2 w1 r) (i := i) (A := 101 * (a + 1)) (B := 101 * (a + 1 + 1)) (by omega) k (by rw [er]; omega)
        refine ⟨j, by omega, j3, by rw [j4], ?_⟩
        unfold nmA
        rw [if_neg g3, show j / 101 = a + 1 by omega]
noncomputable def pq (w : Wd) (r a : Nat) : Bool := decide (2 ≤ dgr (Rw w) r a)
theorem pq_0 {w : Wd} (hC : CtI w) (r : Nat) : ct (pq w r) 1 = 0 := ct_succ_f (p := pq w r) (k := 0) (by unfold pq; rw [dgr0 hC]; rfl)
theorem c_quarrelling (hC : CtI w) (hT : TbI (Rw w) w) {r i : Nat} (hr : r < 10) (hi : i < 2147483648) : EvI m_Table_quarrelling (d + 2) [.ref 42, .int (nI r), .int (nI i)] w (fun x w' => w' = w ∧ Nth (pq w r) 101 (nI i) nI x) := by
  refine ev_Table_quarrelling _ _ (vc_Table_quarrelling_0 _ _ ?_)
  refine lpU (I := fun a w' => w' = w ∧ ct (pq w r) (a + 1) ≤ i) (G := fun a w' => Z m_Table_quarrelling (d + 2) (qI (fun x w' => w' = w ∧ Nth (pq w r) 101 (nI i) nI x)) 5 [(0, .ref 42), (1, .int (nI r)), (2, .int (nI i)), (3, .int (nI (i - ct (pq w r) (a + 1)))), (4, .int (nI (a + 1)))] [] w') (M := 100) ?_ ?_ 0 (Nat.zero_le _) _ ⟨rfl, by rw [show 0 + 1 = 1 from rfl, pq_0 hC]; omega⟩ |> fun x => by rw [show 0 + 1 = 1 from rfl, pq_0 hC, Nat.sub_zero] at x; exact x
  · rintro w1 ⟨rfl, k⟩
    refine vc_Table_quarrelling_5 _ _ _ _ ⟨fun _ => ⟨rfl, Or.inr ⟨fun j hj hp e => ?_, rfl⟩⟩, fun g => absurd (mlt (by omega)) g⟩
    have k : ct (pq w1 r) 101 ≤ i := k
    have h1 := ct_mono (p := pq w1 r) (show j + 1 ≤ 101 by omega)
    rw [ct_succ_t hp] at h1
    have h2 := ct_le (pq w1 r) j
    have := nI_inj hi (by omega) e
    omega
  · rintro a w1 ha ⟨rfl, k⟩ nx
    have d101 := dgr_le (Rw w1) r (a + 1)
    refine vc_Table_quarrelling_5 _ _ _ _ ⟨fun g => absurd (glt g) (by omega), fun _ => ⟨_, c_isRelation (d := d + 1) _, ?_⟩⟩
    rintro y w2 ⟨rfl, hy⟩
    refine ⟨fun g => absurd (isRl_nI hr) (hy.z g), fun _ => ⟨_, c_degree (d := d) (Rw.dm hC) hT hr (a := a + 1) (by omega) (by omega), ?_⟩⟩
    rintro y w1 ⟨rfl, rfl⟩
    rw [nI_add]
    refine ⟨fun g => ?_, fun g => ⟨fun g2 => ?_, fun g2 => ⟨rfl, Or.inl ⟨a + 1, by omega, ?_, ?_, rfl⟩⟩⟩⟩
    · have g := glt g
      have e := ct_succ_f (p := pq w1 r) (k := a + 1) (by unfold pq; rw [decide_eq_false_iff_not]; omega)
      rw [← e]
      exact nx _ ⟨rfl, by rw [e]; exact k⟩
    · have g := nglt g
      have e := ct_succ_t (p := pq w1 r) (k := a + 1) (by unfold pq; rw [decide_eq_true_eq]; exact g)
      have h1 : 1 ≤ i - ct (pq w1 r) (a + 1) := Nat.pos_of_ne_zero (fun e => g2 (by rw [e]; rfl))
      rw [add_m1 h1, show i - ct (pq w1 r) (a + 1) - 1 = i - ct (pq w1 r) (a + 1 + 1) by rw [e]; omega]
      exact nx _ ⟨rfl, by rw [e]; omega⟩
    · unfold pq; rw [decide_eq_true_eq]; exact nglt g
    · have := nI_inj (b := 0) (by omega) (by omega) g2
      congr 1
      omega
end
/-! what the reference tells of them -/
section
variable {w : Wd}
theorem RB.at {w0 : Wd} (h : RB (Rw w0) w) {r k : Nat} (hr : r < 10) (hk : k < 10201) : Bo (pR2 w0 r k = true) (w.1 85 (10201 * r + k)) := by
  have := h r hr (k / 101) (by omega) (k % 101) (by omega)
  rw [show 10201 * r + 101 * (k / 101) + k % 101 = 10201 * r + k by omega] at this
  exact this.imp (Rb_iff _ _ _ _).symm
theorem bf {b : Bool} (h : ¬ b = true) : b = false := by cases b with
  | false => rfl
  | true => exact absurd rfl h
theorem Inv.fr2 {w w' : Wd} (h : Inv w) (m : MFr (up1 w 58 0 (nI 0)) w') (r : RefI w') : Inv w' := (h.th (nI 0)).rfr Fr.rf (h.th (nI 0)).2.2.1 m r
theorem th_Rw (w : Wd) : Rw (up1 w 58 0 (nI 0)) = Rw w := (BsN_O (MFr.up (by omega))).2
theorem op_rows (h : Inv w) (x : Int32) : Op m_D_rows m_M_rows [.int x] w := by
  refine ev_D_rows x (vc_D_rows_0 x ⟨_, c_isRelation (d := 29) x, ?_⟩)
  rintro y w1 ⟨rfl, hy⟩
  refine ⟨fun g => ?_, fun g => ?_⟩
  · obtain ⟨r, hr, rfl⟩ := isRl_of (hy.n g)
    refine c_both (P := True) h (fun w' h' t' => ⟨_, c_Table_size (d := 27) h'.1 t' hr, ?_⟩)
    rintro y2 w2 ⟨rfl, rfl⟩
    refine ev_M_rows _ (vc_M_rows_0 _ ⟨_, c_M_isR (d := 29) _, ?_⟩)
    rintro y3 w3 ⟨rfl, hy3⟩
    have h0 := h'.th (nI 0)
    refine ⟨fun _ => ⟨_, c_M_findRows (d := 25) h0.1 h0.2.2.2.2.1.2, ?_⟩, fun g => absurd (isRl_nI hr) (hy3.z g)⟩
    rintro w3 ⟨m, rf, rb⟩
    rw [th_Rw] at rb
    have i3 := h'.fr2 m rf
    rw [pk_mul]
    refine lpU (I := fun k w' => w' = w3) (G := fun k w' => Z m_M_rows 30 (qI (fun r2 w4 => r2 = nI (ct (pR2 w2 r) 10201) ∧ Inv w4)) 26 [(0, .ref 58), (1, .int (nI r)), (2, .int (nI (ct (pR2 w2 r) k))), (3, .int (nI (10201 * r + k)))] [] w') (M := 10201) ?_ ?_ 0 (Nat.zero_le _) _ rfl
    · rintro w4 rfl
      refine vc_M_rows_26 _ _ _ ?_
      rw [pk_mul, nI_add]
      exact ⟨fun _ => ⟨rfl, i3⟩, fun g => absurd (mle (Nat.le_refl _)) g⟩
    · rintro k w4 hk rfl nx
      refine vc_M_rows_26 _ _ _ ?_
      have b := rb.at hr hk
      rw [pk_mul, nI_add]
      refine ⟨fun g => absurd (gle g) (by omega), fun _ => ⟨10201 * r + k, rfl, by omega, fun g => ?_, fun g => ?_⟩⟩
      · rw [nI_add, nI_add, Nat.add_zero, ← ct_succ_f (p := pR2 w2 r) (k := k) (bf (b.z g))]
        exact nx _ rfl
      · rw [nI_add, nI_add, ← ct_succ_t (p := pR2 w2 r) (k := k) (b.n g)]
        exact nx _ rfl
  · refine ev_M_rows _ (vc_M_rows_0 _ ⟨_, c_M_isR (d := 29) _, ?_⟩)
    rintro y3 w3 ⟨rfl, hy3⟩
    exact ⟨fun g3 => absurd (hy3.n g3) (hy.z g), fun _ => ⟨rfl, h.th _⟩⟩
theorem c_M_row {w0 w : Wd} (rb : RB (Rw w0) w) {r i : Nat} (hr : r < 10) (hi : i < 2147483648) (x3 x3' : Int32) (e3 : x3 = 0 ↔ ¬ x3' = 0) {Q : Int32 → Wd → Prop} (hq : ∀ y, Nth (pR2 w0 r) 10201 (nI i) (nmA x3') y → Q y w) : Z m_M_row 30 (qI Q) 37 [(0, .ref 58), (1, .int (nI r)), (2, .int (nI i)), (3, .int (x3)), (4, .int (nI i)), (5, .int (nI 0))] [] w := by
  refine lpU (I := fun k w' => w' = w ∧ ct (pR2 w0 r) k ≤ i) (G := fun k w' => Z m_M_row 30 (qI Q) 37 [(0, .ref 58), (1, .int (nI r)), (2, .int (nI i)), (3, .int (x3)), (4, .int (nI (i - ct (pR2 w0 r) k))), (5, .int (nI k))] [] w') (M := 10201) ?_ ?_ 0 (Nat.zero_le _) _ ⟨rfl, Nat.zero_le _⟩
  · rintro w4 ⟨rfl, k⟩
    refine vc_M_row_37 _ _ _ _ _ ⟨fun _ => hq _ (Or.inr ⟨fun j hj hp e => ?_, rfl⟩), fun g => absurd (mle (Nat.le_refl _)) g⟩
    have h1 := ct_mono (p := pR2 w0 r) (show j + 1 ≤ 10201 by omega)
    rw [ct_succ_t hp] at h1
    have h2 := ct_le (pR2 w0 r) j
    have := nI_inj hi (by omega) e
    omega
  · rintro k w4 hk ⟨rfl, kk⟩ nx
    have b := rb.at hr hk
    refine vc_M_row_37 _ _ _ _ _ ⟨fun g => absurd (gle g) (by omega), fun _ => ⟨10201 * r + k, by rw [pk_mul, nI_add], by omega, fun g => ?_, fun g => ⟨fun g2 => ?_, fun g2 => ?_⟩⟩⟩
    · have e := ct_succ_f (p := pR2 w0 r) (k := k) (bf (b.z g))
      rw [nI_add, ← e]
      exact nx _ ⟨rfl, by rw [e]; exact kk⟩
    · have e := ct_succ_t (p := pR2 w0 r) (k := k) (b.n g)
      have h1 : 1 ≤ i - ct (pR2 w0 r) k := Nat.pos_of_ne_zero (fun e => g2 (by rw [e]; rfl))
      rw [nI_add, add_m1 h1, show i - ct (pR2 w0 r) k - 1 = i - ct (pR2 w0 r) (k + 1) by rw [e]; omega]
      exact nx _ ⟨rfl, by rw [e]; omega⟩
    · have := nI_inj (b := 0) (by omega) (by omega) g2
      have N : ∀ y, y = nmA x3' k → Nth (pR2 w0 r) 10201 (nI i) (nmA x3') y := fun y e => Or.inl ⟨k, hk, b.n g, by congr 1; omega, e⟩
      refine ⟨fun g4 => ⟨by decide, hq _ (N _ ?_)⟩, fun g4 => ⟨by decide, hq _ (N _ ?_)⟩⟩
      · unfold nmA; rw [if_pos (Classical.byContradiction (fun z => g4 (e3.mpr z))), mod_nI]
      · unfold nmA; rw [if_neg (e3.mp g4), div_nI]
theorem op_row (h : Inv w) (x y z : Int32) : Op m_D_row m_M_row [.int x, .int y, .int z] w := by
  refine ev_D_row x y z (vc_D_row_0 x y z ⟨_, c_isRelation (d := 29) x, ?_⟩)
  rintro u w1 ⟨rfl, hu⟩
  -- the reference refuses
  have no : ¬ (isRl x ∧ ¬ y < 0 ∧ ¬ z < 0 ∧ z ≤ nI 1) → EvI m_M_row 30 [.ref 58, .int (x), .int (y), .int (z)] w1 (fun r2 w2 => r2 = -nI 1 ∧ Inv w2) := fun no => by
    refine ev_M_row _ _ _ (vc_M_row_0 _ _ _ ⟨_, c_M_isR (d := 29) _, ?_⟩)
    rintro v w3 ⟨rfl, hv⟩
    exact ⟨fun _ => ⟨rfl, h.th _⟩, fun g => ⟨fun _ => ⟨rfl, h.th _⟩, fun g2 => ⟨fun _ => ⟨rfl, h.th _⟩, fun g3 => ⟨fun g4 => absurd ⟨hv.n g, g2, g3, g4⟩ no, fun _ => ⟨rfl, h.th _⟩⟩⟩⟩⟩
  refine ⟨fun g => no (fun k => hu.z g k.1), fun g => ⟨fun g2 => no (fun k => k.2.1 g2), fun g2 => ⟨fun g3 => no (fun k => k.2.2.1 g3), fun g3 => ⟨fun g4 => ?_, fun g4 => no (fun k => g4 k.2.2.2)⟩⟩⟩⟩
  obtain ⟨r, hr, rfl⟩ := isRl_of (hu.n g)
  obtain ⟨i, hi, rfl, -⟩ := i_nat (nlt0 g2)
  refine c_both (P := True) h (fun w2 h' t' => ?_)
  -- both answers are the i-th row's
  have fin : ∀ x3' y2, (z = 0 ↔ ¬ x3' = 0) → Nth (pR2 w2 r) 10201 (nI i) (nmA x3') y2 → EvI m_M_row 30 [.ref 58, .int (nI r), .int (nI i), .int (z)] w2 (fun r2 w4 => r2 = y2 ∧ Inv w4) := by
    intro x3' y2 e3 hN
    refine ev_M_row _ _ _ (vc_M_row_0 _ _ _ ⟨_, c_M_isR (d := 29) _, ?_⟩)
    rintro v w3 ⟨rfl, hv⟩
    have h0 := h'.th (nI 0)
    refine ⟨fun g => absurd (isRl_nI hr) (hv.z g), fun _ => ⟨fun g => absurd g g2, fun _ => ⟨fun g => absurd g g3, fun _ => ⟨fun _ => ⟨_, c_M_findRows (d := 25) h0.1 h0.2.2.2.2.1.2, ?_⟩, fun g => absurd g4 g⟩⟩⟩⟩
    rintro w3 ⟨m, rf, rb⟩
    rw [th_Rw] at rb
    exact c_M_row rb hr hi z x3' e3 (fun y3 h3 => ⟨hN.one (by decide) h3, h'.fr2 m rf⟩)
  refine ⟨fun g5 => ⟨_, c_Table_name (d := 27) h'.1 t' hr hi (nI 0), ?_⟩, fun g5 => ⟨_, c_Table_name (d := 27) h'.1 t' hr hi (nI 1), ?_⟩⟩
  · rintro y2 w3 ⟨rfl, hN⟩
    exact fin (nI 0) y2 ⟨fun k => absurd k g5, fun k => absurd rfl k⟩ hN
  · rintro y2 w3 ⟨rfl, hN⟩
    exact fin (nI 1) y2 ⟨fun _ => by decide, fun _ => g5⟩ hN
theorem c_M_quarrel {w0 w : Wd} (hC : CtI w0) (rb : RB (Rw w0) w) {r i : Nat} (hr : r < 10) (hi : i < 2147483648) {Q : Int32 → Wd → Prop} (hq : ∀ y, Nth (pq w0 r) 101 (nI i) nI y → Q y w) : Z m_M_quarrel 30 (qI Q) 44 [(0, .ref 58), (1, .int (nI r)), (2, .int (nI i)), (3, .int (nI i)), (4, .int (nI 1))] [] w := by
  refine lpU (I := fun a w' => w' = w ∧ ct (pq w0 r) (a + 1) ≤ i) (G := fun a w' => Z m_M_quarrel 30 (qI Q) 44 [(0, .ref 58), (1, .int (nI r)), (2, .int (nI i)), (3, .int (nI (i - ct (pq w0 r) (a + 1)))), (4, .int (nI (a + 1)))] [] w') (M := 100) ?_ ?_ 0 (Nat.zero_le _) _ ⟨rfl, by rw [show 0 + 1 = 1 from rfl, pq_0 hC]; omega⟩ |> fun x => by rw [show 0 + 1 = 1 from rfl, pq_0 hC, Nat.sub_zero] at x; exact x
  · rintro w1 ⟨rfl, k⟩
    refine vc_M_quarrel_44 _ _ _ _ ⟨fun _ => hq _ (Or.inr ⟨fun j hj hp e => ?_, rfl⟩), fun g => absurd (mlt (by omega)) g⟩
    have k : ct (pq w0 r) 101 ≤ i := k
    have h1 := ct_mono (p := pq w0 r) (show j + 1 ≤ 101 by omega)
    rw [ct_succ_t hp] at h1
    have h2 := ct_le (pq w0 r) j
    have := nI_inj hi (by omega) e
    omega
  · rintro a w1 ha ⟨rfl, k⟩ nx
    refine vc_M_quarrel_44 _ _ _ _ ⟨fun g => absurd (glt g) (by omega), fun _ => ?_⟩
    have c1 : ct (fun b => Rb (Rw w0) r (a + 1) b) 1 = 0 := ct_succ_f (p := fun b => Rb (Rw w0) r (a + 1) b) (k := 0) (Rb_f (fun x => absurd (Rw.dm hC _ _ _ x).2.2.2.1 (by decide)))
    refine lpU (I := fun b w' => w' = w1) (G := fun b w' => Z m_M_quarrel 30 (qI Q) 57 [(0, .ref 58), (1, .int (nI r)), (2, .int (nI i)), (3, .int (nI (i - ct (pq w0 r) (a + 1)))), (4, .int (nI (a + 1))), (5, .int (nI (ct (fun b => Rb (Rw w0) r (a + 1) b) (b + 1)))), (6, .int (nI (b + 1)))] [] w') (M := 100) ?_ ?_ 0 (Nat.zero_le _) _ rfl |> fun x => by rw [show 0 + 1 = 1 from rfl, c1] at x; exact x
    · rintro w2 rfl
      have ed : ct (fun b => Rb (Rw w0) r (a + 1) b) (100 + 1) = dgr (Rw w0) r (a + 1) := rfl
      have d101 := dgr_le (Rw w0) r (a + 1)
      rw [ed]
      refine vc_M_quarrel_57 _ _ _ _ _ _ ⟨fun _ => ⟨fun g => ?_, fun g => ⟨fun g2 => ?_, fun g2 => hq _ (Or.inl ⟨a + 1, by omega, ?_, ?_, rfl⟩)⟩⟩, fun g => absurd (mlt (by omega)) g⟩
      · have g := gle g
        have e := ct_succ_f (p := pq w0 r) (k := a + 1) (by unfold pq; rw [decide_eq_false_iff_not]; omega)
        rw [nI_add, ← e]
        exact nx _ ⟨rfl, by rw [e]; exact k⟩
      · have g := ngle g
        have e := ct_succ_t (p := pq w0 r) (k := a + 1) (by unfold pq; rw [decide_eq_true_eq]; omega)
        have h1 : 1 ≤ i - ct (pq w0 r) (a + 1) := Nat.pos_of_ne_zero (fun e => g2 (by rw [e]; rfl))
        rw [nI_add, add_m1 h1, show i - ct (pq w0 r) (a + 1) - 1 = i - ct (pq w0 r) (a + 1 + 1) by rw [e]; omega]
        exact nx _ ⟨rfl, by rw [e]; omega⟩
      · unfold pq; rw [decide_eq_true_eq]; exact ngle g
      · have := nI_inj (b := 0) (by omega) (by omega) g2
        congr 1
        omega
    · rintro b w2 hb rfl nb
      have r1 := rb r hr (a + 1) (by omega) (b + 1) (by omega)
      refine vc_M_quarrel_57 _ _ _ _ _ _ ⟨fun g => absurd (glt g) (by omega), fun _ => ⟨10201 * r + 101 * (a + 1) + (b + 1), by rw [pk_mul, pk_mul, nI_add, nI_add], by omega, fun g => ?_, fun g => ?_⟩⟩
      · rw [nI_add, nI_add, Nat.add_zero, ← ct_succ_f (p := fun b => Rb (Rw w0) r (a + 1) b) (k := b + 1) (Rb_f (r1.z g))]
        exact nb _ rfl
      · rw [nI_add, nI_add, ← ct_succ_t (p := fun b => Rb (Rw w0) r (a + 1) b) (k := b + 1) ((Rb_iff _ _ _ _).mpr (r1.n g))]
        exact nb _ rfl
theorem op_quarrel (h : Inv w) (x y : Int32) : Op m_D_quarrel m_M_quarrel [.int x, .int y] w := by
  refine ev_D_quarrel x y (vc_D_quarrel_0 x y ⟨_, c_Book_isSingle (d := 28) h.1.2.2 x, ?_⟩)
  rintro u w1 ⟨rfl, hu⟩
  have hb := h.1.2.2.1
  have no : ¬ (sgl w1 x ∧ ¬ y < 0) → EvI m_M_quarrel 30 [.ref 58, .int (x), .int (y)] w1 (fun r2 w2 => r2 = -nI 1 ∧ Inv w2) := fun no => by
    refine ev_M_quarrel _ _ (vc_M_quarrel_0 _ _ ⟨_, c_M_isR (d := 29) _, ?_⟩)
    rintro v w3 ⟨rfl, hv⟩
    refine ⟨fun _ => ⟨rfl, h.th _⟩, fun g => ⟨fun _ => ⟨rfl, h.th _⟩, fun g2 => ?_⟩⟩
    obtain ⟨r, hr, rfl⟩ := isRl_of (hv.n g)
    obtain ⟨sg, s1, s2, s3⟩ := h.1.2.2.2.2.2.2.2.2.2
    refine ⟨10 * hl w1 + r, ?_, by omega, fun g3 => ?_, fun g3 => ⟨rfl, h.th _⟩⟩
    · show nI 10 * (w1.1 58 10) + nI r = _
      rw [hb.2, pk_mul, nI_add]
    · have g3 : ¬ w1.1 75 (10 * hl w1 + r) = 0 := g3
      rcases s3 r hr with ⟨z, -⟩ | ⟨z, -⟩
      · exact absurd ⟨⟨r, hr, rfl, z⟩, g2⟩ no
      · exact absurd z g3
  refine ⟨fun g => no (fun k => hu.z g k.1), fun g => ⟨fun g2 => ?_, fun g2 => no (fun k => g2 (by rw [i_le, i_z]; exact nlt0 k.2))⟩⟩
  obtain ⟨r, hr, rfl, s⟩ := hu.n g
  have g2' : ¬ y < 0 := fun k => by rw [i_le, i_z] at g2; have := lt0 k; omega
  obtain ⟨i, hi, rfl, -⟩ := i_nat (nlt0 g2')
  have s75 := s
  -- the single ones stay
  refine ⟨_, c_refresh (d := 23) h.1 h.2.2.1, ?_⟩
  rintro w2 ⟨f1, a1, b1⟩
  have i1 := h.rfr f1 a1 MFr.rf (h.2.2.2.2.1.fr f1)
  refine ⟨_, c_Table_refresh (d := 25) ⟨i1.1, a1, b1⟩ i1.2.2.2.1, ?_⟩
  rintro w3 ⟨k1, k2, k3⟩
  obtain ⟨h', t'⟩ := i1.tab k1 k2 k3
  refine ⟨_, c_quarrelling (d := 27) h'.1 t' hr hi, ?_⟩
  rintro y2 w4 ⟨rfl, hN⟩
  have e58 : w4.1 58 10 = nI (hl w1) := by rw [k1.1 58 10 (by omega), f1.1 58 (by omega)]; exact hb.2
  have e75 : w4.1 75 (10 * hl w1 + r) = 1 := by rw [k1.1 75 _ (by omega), f1.1 75 (by omega)]; exact s75
  refine ev_M_quarrel _ _ (vc_M_quarrel_0 _ _ ⟨_, c_M_isR (d := 29) _, ?_⟩)
  rintro v w5 ⟨rfl, hv⟩
  have h0 := h'.th (nI 0)
  refine ⟨fun g => absurd (isRl_nI hr) (hv.z g), fun _ => ⟨fun g => absurd g g2', fun _ => ⟨10 * hl w1 + r, ?_, by omega, fun _ => ⟨_, c_M_findRows (d := 25) h0.1 h0.2.2.2.2.1.2, ?_⟩, fun g => ?_⟩⟩⟩
  · show nI 10 * (w4.1 58 10) + nI r = _
    rw [e58, pk_mul, nI_add]
  · rintro w5 ⟨m, rf, rb⟩
    rw [th_Rw] at rb
    exact c_M_quarrel h'.1 rb hr hi (fun y3 h3 => ⟨hN.one (by decide) h3, h'.fr2 m rf⟩)
  · have g : w4.1 75 (10 * hl w1 + r) = 0 := g
    rw [e75] at g
    exact absurd g (by decide)
end
