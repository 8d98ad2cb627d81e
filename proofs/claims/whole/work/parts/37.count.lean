/-! count -/
noncomputable def cntA (w : Wd) (x : Int32) : Int32 := if x = nI 0 then nI (cm w) else if x = nI 1 then nI (ct (fun s => decide (w.1 81 s = 0)) (cm w)) else if x = nI 2 then nI (nr w) else if x = nI 3 then nI (nbr w) else if x = nI 4 then nI (nch w) else if x = nI 5 then nI (mk w) else if x = nI 6 then nI (tp w) else if x = nI 7 then nI (td w) else if x = nI 8 then nI (sumN (nfb w (nI 1)) 480) else -nI 1
theorem c_D_count {w : Wd} (h : Inv w) (x : Int32) : EvI m_D_count 30 [.ref 57, .int (x)] w (fun r w' => Fr w w' ∧ FinI w' ∧ r = cntA w' x) := by
  refine ev_D_count x (vc_D_count_0 x ?_)
  have me : ∀ r, r = cntA w x → Fr w w ∧ FinI w ∧ r = cntA w x := fun r e => ⟨Fr.rf, h.2.2.1, e⟩
  have hP : cntA w x = if x = nI 0 then nI (cm w) else if x = nI 1 then nI (ct (fun s => decide (w.1 81 s = 0)) (cm w)) else if x = nI 2 then nI (nr w) else if x = nI 3 then nI (nbr w) else if x = nI 4 then nI (nch w) else if x = nI 5 then nI (mk w) else if x = nI 6 then nI (tp w) else if x = nI 7 then nI (td w) else if x = nI 8 then nI (sumN (nfb w (nI 1)) 480) else -nI 1 := rfl
  refine ⟨fun g => ⟨_, c_came (d := 29) h.1.2.1, ?_⟩, fun g => ?_⟩
  · rintro r w1 ⟨rfl, rfl⟩
    exact me _ (by rw [hP, if_pos g])
  rw [if_neg g] at hP
  refine ⟨fun g => ⟨_, ev_Sentences_present (d := 29) (vc_Sentences_present_0 (Q := fun r w' => w' = w ∧ r = w.1 3 6) ⟨rfl, rfl⟩), ?_⟩, fun g => ?_⟩
  · rintro r w1 ⟨rfl, rfl⟩
    exact me _ (by rw [hP, if_pos g]; exact h.1.2.1.2.2.2.2.2.2.2)
  rw [if_neg g] at hP
  refine ⟨fun g => ⟨_, c_Book_rules (d := 29) h.1.2.2, ?_⟩, fun g => ?_⟩
  · rintro r w1 ⟨rfl, rfl⟩
    exact me _ (by rw [hP, if_pos g])
  rw [if_neg g] at hP
  refine ⟨fun g => ⟨_, c_Book_bars (d := 29) h.1.2.2, ?_⟩, fun g => ?_⟩
  · rintro r w1 ⟨rfl, rfl⟩
    exact me _ (by rw [hP, if_pos g])
  rw [if_neg g] at hP
  refine ⟨fun g => ⟨_, c_Book_chains (d := 29) h.1.2.2, ?_⟩, fun g => ?_⟩
  · rintro r w1 ⟨rfl, rfl⟩
    exact me _ (by rw [hP, if_pos g])
  rw [if_neg g] at hP
  refine ⟨fun g => ⟨_, ev_Marks_size (d := 29) (vc_Marks_size_0 (Q := fun r w' => w' = w ∧ r = w.1 45 8) ⟨rfl, rfl⟩), ?_⟩, fun g => ?_⟩
  · rintro r w1 ⟨rfl, rfl⟩
    exact me _ (by rw [hP, if_pos g]; exact h.2.2.2.2.2.1.1.2.2)
  rw [if_neg g] at hP
  refine ⟨fun g => ⟨_, ev_Tape_length (d := 29) (vc_Tape_length_0 (Q := fun r w' => w' = w ∧ r = w.1 8 1) ⟨rfl, rfl⟩), ?_⟩, fun g => ?_⟩
  · rintro r w1 ⟨rfl, rfl⟩
    exact me _ (by rw [hP, if_pos g]; exact h.2.1.1.2.2)
  rw [if_neg g] at hP
  refine ⟨fun g => ⟨_, ev_Sentences_told (d := 29) (vc_Sentences_told_0 (Q := fun r w' => w' = w ∧ r = w.1 3 4) ⟨rfl, rfl⟩), ?_⟩, fun g => ?_⟩
  · rintro r w1 ⟨rfl, rfl⟩
    exact me _ (by rw [hP, if_pos g]; exact h.1.2.1.1.2.2)
  rw [if_neg g] at hP
  refine ⟨fun g => ⟨_, c_refresh (d := 23) h.1 h.2.2.1, ?_⟩, fun g => me _ (by rw [hP, if_neg g])⟩
  rintro w1 ⟨f1, a1, b1⟩
  refine ⟨_, c_Finder_total (d := 28) ⟨h.1.fr f1, a1, b1⟩ (nI 1), ?_⟩
  rintro r w2 ⟨rfl, rfl⟩
  refine ⟨f1, a1, ?_⟩
  rw [g]
  rfl
theorem c_M_count {w : Wd} (hC : CtI w) (hR : RefI w) (e39 : w.1 58 39 = nI (mk w)) (e2 : w.1 58 2 = nI (tp w)) (x : Int32) : EvI m_M_count 30 [.ref 58, .int (x)] w (fun r w' => MFr w w' ∧ RefI w' ∧ r = cntA w x) := by
  refine ev_M_count x (vc_M_count_0 x ?_)
  have m0 : MFr w (up1 w 58 0 (nI 0)) := MFr.up (by omega)
  have hR0 : RefI (up1 w 58 0 (nI 0)) := hR.mv (SemF.of (m0.sm.sa (fun a k x => by unfold KF at x; unfold CFR; omega))) rfl rfl
  have hh := hC.2.2.1
  have me : ∀ r, r = cntA w x → MFr w (up1 w 58 0 (nI 0)) ∧ RefI (up1 w 58 0 (nI 0)) ∧ r = cntA w x := fun r e => ⟨m0, hR0, e⟩
  have e30 : w.1 58 30 = nI (cm w) := hC.2.1.2.2.1.2.1
  have hcm : cm w ≤ 40 := hC.2.1.2.2.1.1
  refine lpU (I := fun s w' => w' = up1 w 58 0 (nI 0)) (G := fun s w' => Z m_M_count 30 (qI (fun r w' => MFr w w' ∧ RefI w' ∧ r = cntA w x)) 9 [(0, .ref 58), (1, .int (x)), (2, .int (nI (ct (fun s => decide (w.1 81 s = 0)) s))), (3, .int (nI s))] [] w') (M := cm w) ?_ ?_ 0 (Nat.zero_le _) _ rfl
  · rintro w1 rfl
    refine vc_M_count_9 _ _ _ ?_
    rw [show (up1 w 58 0 (nI 0)).1 58 30 = w.1 58 30 from rfl, show (up1 w 58 0 (nI 0)).1 58 10 = w.1 58 10 from rfl, show (up1 w 58 0 (nI 0)).1 58 39 = w.1 58 39 from rfl, show (up1 w 58 0 (nI 0)).1 58 2 = w.1 58 2 from rfl, show (up1 w 58 0 (nI 0)).1 58 28 = w.1 58 28 from rfl, show (up1 w 58 0 (nI 0)).1 64 = w.1 64 from rfl, show (up1 w 58 0 (nI 0)).1 71 = w.1 71 from rfl, show (up1 w 58 0 (nI 0)).1 73 = w.1 73 from rfl, e30]
    refine ⟨fun _ => ?_, fun g => absurd (mle (Nat.le_refl _)) g⟩
    have hP : cntA w x = if x = nI 0 then nI (cm w) else if x = nI 1 then nI (ct (fun s => decide (w.1 81 s = 0)) (cm w)) else if x = nI 2 then nI (nr w) else if x = nI 3 then nI (nbr w) else if x = nI 4 then nI (nch w) else if x = nI 5 then nI (mk w) else if x = nI 6 then nI (tp w) else if x = nI 7 then nI (td w) else if x = nI 8 then nI (sumN (nfb w (nI 1)) 480) else -nI 1 := rfl
    refine ⟨fun g => me _ (by rw [hP, if_pos g]), fun g => ?_⟩
    rw [if_neg g] at hP
    refine ⟨fun g => me _ (by rw [hP, if_pos g]), fun g => ?_⟩
    rw [if_neg g] at hP
    refine ⟨fun g => ⟨hl w, hh.2, hh.1, me _ (by rw [hP, if_pos g]; exact hC.2.2.2.1.2.1)⟩, fun g => ?_⟩
    rw [if_neg g] at hP
    refine ⟨fun g => ⟨hl w, hh.2, hh.1, me _ (by rw [hP, if_pos g]; exact hC.2.2.2.2.2.1.2.1)⟩, fun g => ?_⟩
    rw [if_neg g] at hP
    refine ⟨fun g => ⟨hl w, hh.2, hh.1, me _ (by rw [hP, if_pos g]; exact hC.2.2.2.2.2.2.2.1.2.1)⟩, fun g => ?_⟩
    rw [if_neg g] at hP
    refine ⟨fun g => me _ (by rw [hP, if_pos g]; exact e39), fun g => ?_⟩
    rw [if_neg g] at hP
    refine ⟨fun g => me _ (by rw [hP, if_pos g]; exact e2), fun g => ?_⟩
    rw [if_neg g] at hP
    refine ⟨fun g => me _ (by rw [hP, if_pos g]; exact hC.2.1.1.2.1), fun g => ?_⟩
    rw [if_neg g] at hP
    refine ⟨fun g => ⟨_, c_barredFinds (d := 25) (m0.ct hC) hR0.2, ?_⟩, fun g => me _ (by rw [hP, if_neg g])⟩
    rintro r w1 ⟨m1, r0, rfl⟩
    refine ⟨m0.tr m1, r0.i, ?_⟩
    rw [hP, if_pos g]
    have B : ∀ s, Brr (up1 w 58 0 (nI 0)) s = Brr w s := fun s => Brr.mv m0.mf rfl rfl s
    rw [sumN_cong (f := nfb (up1 w 58 0 (nI 0)) (nI 1)) (g := nfb w (nI 1)) (n := 480) (fun i _ => by unfold nfb nf; rw [B, m0.mf.fNE])]
  · rintro s w1 hs rfl nx
    refine vc_M_count_9 _ _ _ ?_
    rw [show (up1 w 58 0 (nI 0)).1 58 30 = w.1 58 30 from rfl, show (up1 w 58 0 (nI 0)).1 81 = w.1 81 from rfl, e30]
    refine ⟨fun g => absurd (gle g) (by omega), fun _ => ⟨s, rfl, by omega, fun g => ?_, fun g => ?_⟩⟩
    · rw [nI_add, nI_add, ← ct_succ_t (p := fun s => decide (w.1 81 s = 0)) (k := s) (by rw [decide_eq_true_eq]; exact g)]
      exact nx _ rfl
    · rw [nI_add, nI_add, Nat.add_zero, ← ct_succ_f (p := fun s => decide (w.1 81 s = 0)) (k := s) (by rw [decide_eq_false_iff_not]; exact g)]
      exact nx _ rfl
theorem op_count {w : Wd} (h : Inv w) (x : Int32) : Op m_D_count m_M_count [.int x] w := by
  refine (c_D_count h x).imp ?_
  rintro r w1 ⟨f1, a1, rfl⟩
  refine (c_M_count (h.1.fr f1) (h.2.2.2.2.1.fr f1) ?_ ?_ x).imp ?_
  · rw [show mk w1 = mk w from N_cg (by rw [f1.1 58 (by omega)]), f1.1 58 (by omega)]
    exact h.2.2.2.2.2.1.1.2.1
  · rw [show tp w1 = tp w from N_cg (by rw [f1.1 58 (by omega)]), f1.1 58 (by omega)]
    exact h.2.1.1.2.1
  · rintro r2 w2 ⟨m, r0, rfl⟩
    exact ⟨rfl, h.rfr f1 a1 m r0⟩
