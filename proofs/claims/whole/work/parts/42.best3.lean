/-! the best set, of both -/
noncomputable def gS (w : Wd) (k : Nat) : Nat := bset (cgB w k (nI 1)) (mk w)
noncomputable def hS (w : Wd) (k : Nat) : Nat := bset (cgB w k (nI 0)) (mk w)
theorem FF.w2 {w : Wd} (h : FF w) (q : Nat → Nat → Int64) : FF (w.1, q) := ⟨h.1, h.2.1.mv (SemF.of (fun _ _ _ => rfl)) (fun _ _ _ => rfl), h.2.2⟩
theorem MrkI.w2 {w : Wd} (h : MrkI w) (q : Nat → Nat → Int64) : MrkI (w.1, q) := h
theorem CtI.w2 {w : Wd} (h : CtI w) (q : Nat → Nat → Int64) : CtI (w.1, q) := h
theorem RF.w2 {w : Wd} (h : RF w) (q : Nat → Nat → Int64) : RF (w.1, q) := h.mv (KF.mf (fun _ _ _ => rfl)) rfl
theorem gS_lt {w : Wd} (h : mk w ≤ 60) (k : Nat) : gS w k < 2 ^ 60 ∧ hS w k < 2 ^ 60 := ⟨Nat.lt_of_lt_of_le (bset_lt _ _) (Nat.pow_le_pow_right (by decide) h), Nat.lt_of_lt_of_le (bset_lt _ _) (Nat.pow_le_pow_right (by decide) h)⟩
def BA (w : Wd) (x r : Int32) : Prop := (¬ (0 ≤ x.toInt ∧ x.toInt ≤ 60) ∧ r = -nI 1) ∨ ∃ m b, m ≤ 60 ∧ x = nI m ∧ IsB (gS w) (hS w) (nr w) m b ∧ r = nI b
theorem BA.one {w : Wd} {x r r2 : Int32} (h : BA w x r) (h2 : BA w x r2) : r = r2 := by
  rcases h with ⟨a, rfl⟩ | ⟨m, b, m1, rfl, hb, rfl⟩ <;> rcases h2 with ⟨a2, rfl⟩ | ⟨m2, b2, m3, e, hb2, rfl⟩
  · rfl
  · rw [e, nI_toInt (by omega)] at a
    exact absurd ⟨by omega, by omega⟩ a
  · rw [nI_toInt (by omega)] at a2
    exact absurd ⟨by omega, by omega⟩ a2
  · have := nI_inj (by omega) (by omega) e
    subst this
    rw [hb.one hb2]
def CBs (a k : Nat) : Prop := a = 51 ∨ (37 ≤ a ∧ a ≤ 41)
/-- what rules and marks tell is the same, where these cells are -/
theorem cgB_mv {w w' : Wd} (h : Sa (fun a k => KF a k ∨ (86 ≤ a ∧ a ≤ 90) ∨ (a = 58 ∧ k = 39)) w w') (k : Nat) (b : Int32) : cgB w' k b = cgB w k b := by
  have S := SemF.of (h.mo (fun a k x => Or.inl x))
  have m := KF.mf (h.mo (fun a k x => Or.inl x))
  have e3 : rl w' k = rl w k := by
    show N w' 65 (12 * N w' 58 10 + k) = N w 65 (12 * N w 58 10 + k)
    rw [N_cg m.1, m.NE (by omega)]
  have r : ∀ a, 86 ≤ a → a ≤ 90 → w'.1 a = w.1 a := fun a h1 h2 => h.row a (fun k => Or.inr (Or.inl ⟨h1, h2⟩))
  funext n
  have e : CgP w' k b n = CgP w k b n := by
    unfold CgP
    rw [m.FndE, e3, r 90 (by decide) (by decide), show ms w' n = ms w n from N_cg (by rw [r 86 (by decide) (by decide)]), show ml w' n = ml w n from N_cg (by rw [r 87 (by decide) (by decide)]), show mt w' n = mt w n from N_cg (by rw [r 88 (by decide) (by decide)]), show mr w' n = mr w n from N_cg (by rw [r 89 (by decide) (by decide)])]
  unfold cgB
  congr 1
theorem BA_mv {w w' : Wd} (h : Sa (fun a k => KF a k ∨ (86 ≤ a ∧ a ≤ 90) ∨ (a = 58 ∧ k = 39)) w w') {x r : Int32} (hb : BA w' x r) : BA w x r := by
  have m := KF.mf (h.mo (fun a k x => Or.inl x))
  have e1 : mk w' = mk w := N_cg (h 58 39 (by omega))
  have e2 : gS w' = gS w := by funext k; unfold gS; rw [cgB_mv h, e1]
  have e3 : hS w' = hS w := by funext k; unfold hS; rw [cgB_mv h, e1]
  have e4 : nr w' = nr w := m.nrE
  unfold BA at *
  rw [e2, e3, e4] at hb
  exact hb
theorem c_D_best {w : Wd} (h : Inv w) (x : Int32) : EvI m_D_best 30 [.ref 57, .int (x)] w (fun r w' => Inv w' ∧ BA w' x r) := by
  refine ev_D_best x (vc_D_best_0 x ⟨fun g => ⟨h, Or.inl ⟨?_, rfl⟩⟩, fun g => ⟨fun g2 => ?_, fun g2 => ⟨h, Or.inl ⟨?_, rfl⟩⟩⟩⟩)
  · have := lt0 g
    omega
  · refine ⟨_, c_refresh (d := 23) h.1 h.2.2.1, ?_⟩
    rintro w1 ⟨f1, a1, b1⟩
    have i1 := h.rfr f1 a1 MFr.rf (h.2.2.2.2.1.fr f1)
    have ff : FF w1 := ⟨i1.1, a1, b1⟩
    have hM := i1.2.2.2.2.2.1
    obtain ⟨m, m0, rfl, em⟩ := i_nat (nlt0 g)
    have m60 : m ≤ 60 := gle g2
    refine ⟨_, c_Book_rules (d := 29) i1.1.2.2, ?_⟩
    rintro r w2 ⟨rfl, rfl⟩
    have n12 := i1.1.2.2.2.1.1
    have mk60 := hM.1.1
    refine lpU (I := fun k w' => w'.1 = w2.1 ∧ (∀ r, r < k → w'.2 52 r = lN (gS w2 r) ∧ w'.2 53 r = lN (hS w2 r)) ∧ ∀ a, a ≠ 52 → a ≠ 53 → w'.2 a = w2.2 a) (G := fun k w' => Z m_D_best 30 (qI (fun r w' => Inv w' ∧ BA w' (nI m) r)) 29 [(0, .ref 57), (1, .int (nI m)), (2, .int (nI (nr w2))), (3, .int (nI k))] [] w') (M := nr w2) ?_ ?_ 0 (Nat.zero_le _) _ ⟨rfl, fun r hr => absurd hr (Nat.not_lt_zero _), fun _ _ _ => rfl⟩
    · rintro ⟨p, q⟩ ⟨e1, e2, e3⟩
      have e1 : p = w2.1 := e1
      subst e1
      refine vc_D_best_29 _ _ _ ⟨fun _ => ⟨_, c_choose (d := 14) (f := gS w2) (h := hS w2) n12 m60 (gS_lt mk60) e2, ?_⟩, fun g => absurd (mle (Nat.le_refl _)) g⟩
      rintro r w3 ⟨c1, c2, b, c3, rfl⟩
      have hs : Sa (fun a k => a ≠ 51) w2 w3 := fun a k ha => c1 a k ha
      refine ⟨i1.kn (hs.mo (fun a k x => by unfold KN at x; omega)) (fun a ha => by rw [c2]; exact e3 a (by omega) (by omega)) (i1.1.sa (hs.mo (fun a k x => by unfold KC at x; omega))), ?_⟩
      exact BA_mv (w := w3) (w' := w2) (fun a k ha => (hs a k (by unfold KF at ha; omega)).symm) (Or.inr ⟨m, b, m60, rfl, c3, rfl⟩)
    · rintro k ⟨p, q⟩ hk ⟨e1, e2, e3⟩ nx
      have e1 : p = w2.1 := e1
      subst e1
      refine vc_D_best_29 _ _ _ ⟨fun g => absurd (gle g) (by omega), fun _ => ⟨_, c_caughtBy (d := 27) (ff.w2 q) (hM.w2 q) (k := k) hk _, ?_⟩⟩
      rintro r w3 ⟨rfl, rfl⟩
      refine ⟨_, c_caughtBy (d := 27) (ff.w2 q) (hM.w2 q) (k := k) hk _, ?_⟩
      rintro r w3 ⟨rfl, rfl⟩
      refine ⟨_, ev_BestSet_setCaught _ _ _ (vc_BestSet_setCaught_0 _ _ _ (Q := fun w' => w' = up2 (up2 (w2.1, q) 52 k (lN (gS w2 k))) 53 k (lN (hS w2 k))) ⟨fun g => absurd g (nn0 k), fun _ => ⟨fun g => absurd (gle g) (by omega), fun _ => ⟨k, rfl, by omega, k, rfl, by omega, by unfold gS hS; rw [cgB_mv (w := w2) (w' := (w2.1, q)) (fun _ _ _ => rfl), cgB_mv (w := w2) (w' := (w2.1, q)) (fun _ _ _ => rfl)]; rfl⟩⟩⟩), ?_⟩
      rintro w3 rfl
      rw [nI_add]
      refine nx _ ⟨rfl, fun r hr => ?_, fun a h1 h2 => ?_⟩
      · rw [up2_2, up2_2, up2_2, up2_2]
        by_cases e : r = k
        · subst e
          simp
        · simp [e]
          exact e2 r (by omega)
      · funext j
        rw [up2_2, up2_2, if_neg (by omega), if_neg (by omega)]
        exact congrFun (e3 a h1 h2) j
  · rw [i_le, tn 60] at g2
    omega
theorem bit1_nI {n k : Nat} (hn : n < 2147483648) (hk : k < 32) : ((nI n >>> (nI k &&& 31)) &&& nI 1) = nI 1 ↔ n.testBit k = true := by
  have h1 : n / 2 ^ k < 2147483648 := Nat.lt_of_le_of_lt (Nat.div_le_self _ _) hn
  rw [shr_nI hn hk, and1_nI (by omega), tb_iff, nI_eq (by omega) (by decide)]
theorem lN_or0 (n : Nat) : lN n ||| lN 0 = lN n := by
  show lN n ||| 0 = lN n
  exact Int64.or_zero
theorem nI_long {n : Nat} (h : n < 2147483648) : (nI n).toInt64 = lN n := by
  apply wb_inj
  rw [Int32.toBitVec_toInt64, wb_tb]
  show (BitVec.ofNat 32 n).signExtend 64 = _
  have hm : (BitVec.ofNat 32 n).msb = false := by
    rw [BitVec.msb_eq_false_iff_two_mul_lt, BitVec.toNat_ofNat, Nat.mod_eq_of_lt (by omega)]
    omega
  rw [BitVec.signExtend_eq_setWidth_of_msb_false hm]
  apply BitVec.eq_of_toNat_eq
  rw [BitVec.toNat_setWidth, BitVec.toNat_ofNat, BitVec.toNat_ofNat, Nat.mod_eq_of_lt (show n < 2 ^ 32 by omega)]
/-- the reference's marks by rule -/
def GA (w0 w : Wd) (k : Nat) : Prop := w.1 = w0.1 ∧ (∀ r, r < k → w.2 91 r = lN (gS w0 r) ∧ w.2 92 r = lN (hS w0 r)) ∧ ∀ a, a ≠ 91 → a ≠ 92 → w.2 a = w0.2 a
theorem c_M_goods {w0 : Wd} (hC : CtI w0) (hM : MrkI w0) (hR : RF w0) {x1 : Int32} {Q : Int32 → Wd → Prop} (hq : ∀ w', GA w0 w' (nr w0) → Z m_M_best 30 (qI Q) 145 [(0, .ref 58), (1, .int (x1)), (2, .int (nI 0)), (3, .int (nI 0)), (4, .int (nI 1))] [] w') : Z m_M_best 30 (qI Q) 23 [(0, .ref 58), (1, .int (x1)), (2, .int (nI 0))] [] w0 := by
  have hh := hC.2.2.1
  have n12 := hC.2.2.2.1.1
  have hn := hC.2.2.2.1.2.1
  have mk60 := hM.1.1
  refine lpU (I := fun k w' => GA w0 w' k) (G := fun k w' => Z m_M_best 30 (qI Q) 23 [(0, .ref 58), (1, .int (x1)), (2, .int (nI k))] [] w') (M := nr w0) ?_ ?_ 0 (Nat.zero_le _) _ ⟨rfl, fun r hr => absurd hr (Nat.not_lt_zero _), fun _ _ _ => rfl⟩
  · rintro w1 hG
    refine vc_M_best_23 _ _ ⟨hl w0, by rw [hG.1]; exact hh.2, hh.1, ?_⟩
    rw [hG.1, hn]
    exact ⟨fun _ => hq w1 hG, fun g => absurd (mle (Nat.le_refl _)) g⟩
  · rintro k w1 hk hG nk
    refine vc_M_best_23 _ _ ⟨hl w0, by rw [hG.1]; exact hh.2, hh.1, ?_⟩
    rw [hG.1, hn]
    refine ⟨fun g => absurd (gle g) (by omega), fun _ => ⟨k, rfl, by omega, k, rfl, by omega, ?_⟩⟩
    refine lpU (I := fun n w' => GA w0 w' k ∧ w'.2 91 k = lN (bset (cgB w0 k (nI 1)) n) ∧ w'.2 92 k = lN (bset (cgB w0 k (nI 0)) n)) (G := fun n w' => Z m_M_best 30 (qI Q) 52 [(0, .ref 58), (1, .int (x1)), (2, .int (nI k)), (3, .int (nI n))] [] w') (M := mk w0) ?_ ?_ 0 (Nat.zero_le _) _ ?_
    · rintro w2 ⟨hG2, b1, b2⟩
      refine vc_M_best_52 _ _ _ ?_
      rw [hG2.1, hM.1.2.1]
      refine ⟨fun _ => ?_, fun g => absurd (mle (Nat.le_refl _)) g⟩
      rw [nI_add]
      refine nk _ ⟨hG2.1, fun r hr => ?_, hG2.2.2⟩
      by_cases e : r = k
      · subst e; exact ⟨b1, b2⟩
      · exact hG2.2.1 r (by omega)
    · rintro n ⟨p, q⟩ hn' ⟨hG2, b1, b2⟩ nn
      refine vc_M_best_52 _ _ _ ?_
      have e1 : p = w0.1 := hG2.1
      subst e1
      rw [show (w0.1, q).1 58 39 = w0.1 58 39 from rfl, hM.1.2.1]
      refine ⟨fun g => absurd (gle g) (by omega), fun _ => ⟨_, c_catchesMark (d := 28) (hC.w2 q) (hM.w2 q) (hR.w2 q) (k := k) (n := n) hk hn', ?_⟩⟩
      rintro r w2 ⟨rfl, hr⟩
      have b1 : q 91 k = lN (bset (cgB w0 k (nI 1)) n) := b1
      have b2 : q 92 k = lN (bset (cgB w0 k (nI 0)) n) := b2
      have fin : ∀ A B, A = lN (bset (cgB w0 k (nI 1)) (n + 1)) → B = lN (bset (cgB w0 k (nI 0)) (n + 1)) → Z m_M_best 30 (qI Q) 52 [(0, .ref 58), (1, .int (x1)), (2, .int (nI k)), (3, .int (nI n + nI 1))] [] (up2 (up2 (w0.1, q) 91 k A) 92 k B) := by
        rintro A B rfl rfl
        rw [nI_add]
        refine nn _ ⟨⟨rfl, fun r hr => ?_, fun a h1 h2 => ?_⟩, ?_, ?_⟩
        · rw [up2_2, up2_2, up2_2, up2_2, if_neg (by omega), if_neg (by omega), if_neg (by omega), if_neg (by omega)]
          exact hG2.2.1 r hr
        · funext j
          rw [up2_2, up2_2, if_neg (by omega), if_neg (by omega)]
          exact congrFun (hG2.2.2 a h1 h2) j
        · rw [up2_2, up2_2, if_neg (by omega), if_pos ⟨rfl, rfl⟩]
        · rw [up2_2, if_pos ⟨rfl, rfl⟩]
      have hb : w0.1 90 n = 0 ∨ w0.1 90 n = 1 := (hM.at hC.2.1 hn').2.1.2.2.2.2
      have hcg : ∀ b, CgP (w0.1, q) k b n ↔ cgB w0 k b n = true := fun b => by
        rw [← cgB_mv (w := w0) (w' := (w0.1, q)) (fun _ _ _ => rfl)]
        exact ⟨cgB_t, fun x => (@decide_eq_true_iff _ (Classical.propDecidable _)).mp x⟩
      have e91 : up2 (w0.1, q) 91 k = up2 (w0.1, q) 91 k := rfl
      have g92 : ∀ A, (up2 (w0.1, q) 91 k A).2 92 k = q 92 k := fun A => by rw [up2_2, if_neg (by omega)]
      refine ⟨fun g => ⟨k, rfl, by omega, n, rfl, by omega, ?_⟩, fun g => ⟨k, rfl, by omega, n, rfl, by omega, ?_⟩⟩
      · have nf : ∀ b, cgB w0 k b n = false := fun b => by
          refine bool_eq ⟨fun x => ?_, fun x => absurd x (by decide)⟩
          have := (hcg b).mpr x
          exact absurd (show CgP (w0.1, q) k ((w0.1, q).1 90 n) n from ⟨rfl, this.2⟩) (hr.z g)
        have z : Z m_M_best 30 (qI Q) 52 [(0, .ref 58), (1, .int (x1)), (2, .int (nI k)), (3, .int (nI n + nI 1))] [] (up2 (up2 (w0.1, q) 91 k (q 91 k ||| lN 0)) 92 k (q 92 k ||| lN 0)) := fin _ _ (by rw [b1, lN_or0, bset_f (nf _)]) (by rw [b2, lN_or0, bset_f (nf _)])
        refine ⟨fun g2 => ⟨k, rfl, by omega, k, rfl, by omega, n, rfl, by omega, fun g3 => ⟨k, rfl, by omega, z⟩, fun g3 => ⟨k, rfl, by omega, z⟩⟩, fun g2 => ⟨k, rfl, by omega, k, rfl, by omega, n, rfl, by omega, fun g3 => ⟨k, rfl, by omega, z⟩, fun g3 => ⟨k, rfl, by omega, z⟩⟩⟩
      · have hc := hr.n g
        refine ⟨fun g2 => ⟨k, rfl, by omega, k, rfl, by omega, n, rfl, by omega, fun g3 => ⟨k, rfl, by omega, ?_⟩, fun g3 => absurd g2 g3⟩, fun g2 => ⟨k, rfl, by omega, k, rfl, by omega, n, rfl, by omega, fun g3 => absurd g3 g2, fun g3 => ⟨k, rfl, by omega, ?_⟩⟩⟩
        · have g2 : w0.1 90 n = 0 := g2
          refine fin _ _ ?_ ?_
          · show q 91 k ||| lN 0 = _
            rw [b1, lN_or0, bset_f]
            refine bool_eq ⟨fun x => ?_, fun x => absurd x (by decide)⟩
            have := ((hcg _).mpr x).1
            rw [show (w0.1, q).1 90 n = w0.1 90 n from rfl, g2] at this
            exact absurd this (by decide)
          · show q 92 k ||| _ = _
            rw [b2, bset_t (by omega)]
            refine (hcg _).mp ⟨g2, hc.2⟩
        · have g2 : ¬ w0.1 90 n = 0 := g2
          have g2 : w0.1 90 n = 1 := hb.elim (fun x => absurd x g2) id
          refine fin _ _ ?_ ?_
          · show q 91 k ||| _ = _
            rw [b1, bset_t (by omega)]
            refine (hcg _).mp ⟨g2, hc.2⟩
          · show q 92 k ||| lN 0 = _
            rw [b2, lN_or0, bset_f]
            refine bool_eq ⟨fun x => ?_, fun x => absurd x (by decide)⟩
            have := ((hcg _).mpr x).1
            rw [show (w0.1, q).1 90 n = w0.1 90 n from rfl, g2] at this
            exact absurd this (by decide)
    · refine ⟨⟨hG.1, fun r hr => ?_, fun a h1 h2 => ?_⟩, ?_, ?_⟩
      · rw [up2_2, up2_2, up2_2, up2_2, if_neg (by omega), if_neg (by omega), if_neg (by omega), if_neg (by omega)]
        exact hG.2.1 r hr
      · funext j
        rw [up2_2, up2_2, if_neg (by omega), if_neg (by omega)]
        exact congrFun (hG.2.2 a h1 h2) j
      · rw [up2_2, up2_2, if_neg (by omega), if_pos ⟨rfl, rfl⟩]; rfl
      · rw [up2_2, if_pos ⟨rfl, rfl⟩]; rfl
