/-! learn -/
theorem c_M_learn {w : Wd} (hC : CtI w) (hM : MrkI w) (r : Int32) : EvI m_M_learn 30 [.ref 58, .int (r)] w (fun y w' => (y = -nI 1 ∧ w' = up1 w 58 0 (nI 0) ∧ (¬ isRl r ∨ ∀ n, n < mk w → ¬ MU w r (nI 1) n)) ∨ (isRl r ∧ ∃ f, Fs w r f ∧ y = nI (dn w f) ∧ LB w r f (dn w f) w')) := by
  have mk60 := hM.1.1
  have hcm := hC.2.1.2.2.1.1
  have l1 : FLm w (up1 w 58 0 (nI 0)) := FLm.up (by unfold CLm; omega)
  refine ev_M_learn _ (vc_M_learn_0 _ ?_)
  -- the first one found
  have fin : ∀ f, Fs w r f → ∀ Q : Int32 → Wd → Prop, (isRl r → ∀ w', LB w r f (dn w f) w' → Q (nI (dn w f)) w') → (¬ isRl r → Q (-nI 1) (up1 w 58 0 (nI 0))) → ∃ Q2, EvI m_M_isR 29 [.int r] (up1 w 58 0 (nI 0)) Q2 ∧ ∀ r1 w1, Q2 r1 w1 → ((r1 = 0 → Q (-nI 1) w1) ∧ (¬ r1 = 0 → ((¬ nI f = (w1.1 58 39) → ∃ j1 : Nat, nI f = nI j1 ∧ j1 < 60 ∧ ∃ j2 : Nat, nI f = nI j2 ∧ j2 < 60 ∧ ((0 ≤ ((w1.1 88 j1) - (w1.1 87 j2)) → Z m_M_learn 30 (qI Q) 120 [(0, .ref 58), (1, .int (r)), (2, .int (nI f)), (3, .int (nI 0))] [] (up1 (up1 (up1 w1 58 48 r) 58 49 ((w1.1 88 j1) - (w1.1 87 j2))) 58 47 (((w1.1 88 j1) - (w1.1 87 j2)) + (nI 1)))) ∧ (¬ 0 ≤ ((w1.1 88 j1) - (w1.1 87 j2)) → Z m_M_learn 30 (qI Q) 120 [(0, .ref 58), (1, .int (r)), (2, .int (nI f)), (3, .int (nI 0))] [] (up1 (up1 (up1 w1 58 48 r) 58 49 ((w1.1 88 j1) - (w1.1 87 j2))) 58 47 ((-((w1.1 88 j1) - (w1.1 87 j2))) + (nI 1)))))) ∧ (nI f = (w1.1 58 39) → Q (-nI 1) w1)))) := by
    intro f hf Q hq1 hq2
    obtain ⟨⟨f1, f2, f3, f4, f5, f6⟩, ⟨b1, b2, b3, b4, b5⟩, -⟩ := hM.at hC.2.1 hf.1
    have hf1 := hf.1
    refine ⟨_, c_M_isR (d := 29) r, ?_⟩
    rintro y w1 ⟨rfl, hy⟩
    refine ⟨fun g => hq2 (hy.z g), fun g => ⟨fun _ => ⟨f, rfl, by omega, f, rfl, by omega, ?_⟩, fun g2 => ?_⟩⟩
    · rw [show (up1 w 58 0 (nI 0)).1 88 f = w.1 88 f from rfl, show (up1 w 58 0 (nI 0)).1 87 f = w.1 87 f from rfl, b2, b3]
      have fl : ∀ a b c, FLm w (up1 (up1 (up1 (up1 w 58 0 (nI 0)) 58 48 a) 58 49 b) 58 47 c) := fun a b c => ((l1.tr (FLm.up (by unfold CLm; omega))).tr (FLm.up (by unfold CLm; omega))).tr (FLm.up (by unfold CLm; omega))
      rcases Nat.lt_or_ge (ml w f) (mt w f) with g3 | g3
      · have e0 := dist_pos (l := ml w f) (t := mt w f) (by omega) (by omega) g3
        have ed : dn w f = mt w f - ml w f + 1 := by unfold dn; rw [if_pos g3]
        rw [e0]
        refine ⟨fun _ => c_M_learn120 hC hM hf (hq1 (hy.n g)) ⟨fl _ _ _, ⟨?_, rfl, ?_⟩, fun i hi => absurd hi (Nat.not_lt_zero _)⟩, fun g4 => absurd (show nI 0 ≤ nI (mt w f - ml w f) from mle (Nat.zero_le _)) g4⟩
        · show nI (mt w f - ml w f) + nI 1 = _
          rw [nI_add, ed]
        · show nI (mt w f - ml w f) = _
          unfold df; rw [e0]
      · have g3 : mt w f < ml w f := by omega
        have e0 := dist_neg (l := ml w f) (t := mt w f) (by omega) (by omega) g3
        have ed : dn w f = ml w f - mt w f + 1 := by unfold dn; rw [if_neg (by omega)]
        have hneg := neg_int (k := ml w f - mt w f) (by omega)
        rw [e0]
        refine ⟨fun g4 => ?_, fun _ => c_M_learn120 hC hM hf (hq1 (hy.n g)) ⟨fl _ _ _, ⟨?_, rfl, ?_⟩, fun i hi => absurd hi (Nat.not_lt_zero _)⟩⟩
        · rw [i_le, hneg, i_z] at g4; omega
        · show - -nI (ml w f - mt w f) + nI 1 = _
          rw [neg_neg' (by omega), nI_add, ed]
        · show -nI (ml w f - mt w f) = _
          unfold df; rw [e0]
    · have g2 : nI f = w.1 58 39 := g2
      rw [hM.1.2.1] at g2
      have := nI_inj (by omega) (by omega) g2
      omega
  refine lpU (I := fun n w' => w' = up1 w 58 0 (nI 0) ∧ ∀ n', n' < n → ¬ MU w r (nI 1) n') (G := fun n w' => Z m_M_learn 30 (qI (fun y w' => (y = -nI 1 ∧ w' = up1 w 58 0 (nI 0) ∧ (¬ isRl r ∨ ∀ n, n < mk w → ¬ MU w r (nI 1) n)) ∨ (isRl r ∧ ∃ f, Fs w r f ∧ y = nI (dn w f) ∧ LB w r f (dn w f) w'))) 7 [(0, .ref 58), (1, .int (r)), (2, .int (nI n))] [] w') (M := mk w) ?_ ?_ 0 (Nat.zero_le _) _ ⟨rfl, fun n' hn => absurd hn (Nat.not_lt_zero _)⟩
  · rintro w1 ⟨rfl, hno⟩
    refine vc_M_learn_7 _ _ ?_
    rw [show (up1 w 58 0 (nI 0)).1 58 39 = w.1 58 39 from rfl, hM.1.2.1]
    refine ⟨fun _ => ⟨_, c_M_isR (d := 29) r, ?_⟩, fun g => absurd (mle (Nat.le_refl _)) g⟩
    rintro y w2 ⟨rfl, hy⟩
    exact ⟨fun _ => Or.inl ⟨rfl, rfl, Or.inr hno⟩, fun _ => ⟨fun g => absurd hM.1.2.1.symm g, fun _ => Or.inl ⟨rfl, rfl, Or.inr hno⟩⟩⟩
  · rintro n w1 hn ⟨rfl, hno⟩ nx
    obtain ⟨⟨a1, a2, a3, a4, a5, a6⟩, ⟨b1, b2, b3, b4, b5⟩, -⟩ := hM.at hC.2.1 hn
    have skip : ¬ MU w r (nI 1) n → Z m_M_learn 30 (qI (fun y w' => (y = -nI 1 ∧ w' = up1 w 58 0 (nI 0) ∧ (¬ isRl r ∨ ∀ n, n < mk w → ¬ MU w r (nI 1) n)) ∨ (isRl r ∧ ∃ f, Fs w r f ∧ y = nI (dn w f) ∧ LB w r f (dn w f) w'))) 7 [(0, .ref 58), (1, .int (r)), (2, .int (nI n + nI 1))] [] (up1 w 58 0 (nI 0)) := fun no => by
      rw [nI_add]
      refine nx _ ⟨rfl, fun n' hn' => ?_⟩
      by_cases e : n' = n
      · rw [e]; exact no
      · exact hno n' (by omega)
    refine vc_M_learn_7 _ _ ?_
    refine ⟨fun g => absurd (gle (by rw [show (up1 w 58 0 (nI 0)).1 58 39 = w.1 58 39 from rfl, hM.1.2.1] at g; exact g)) (by omega), fun _ => ⟨n, rfl, by omega, fun g => skip (fun x => g x.1), fun g => ⟨n, rfl, by omega, fun g2 => skip (fun x => ?_), fun g2 => ⟨n, rfl, by omega, ms w n, b1, by omega, fun g3 => ?_, fun g3 => skip (fun x => g3 x.2.2)⟩⟩⟩⟩
    · have := x.2.1
      rw [show w.1 90 n = 0 from g2] at this
      exact absurd this (by decide)
    · have hF : Fs w r n := ⟨hn, ⟨g, b5.elim (fun x => absurd x g2) id, g3⟩, hno⟩
      exact fin n hF (fun y w' => (y = -nI 1 ∧ w' = up1 w 58 0 (nI 0) ∧ (¬ isRl r ∨ ∀ n, n < mk w → ¬ MU w r (nI 1) n)) ∨ (isRl r ∧ ∃ f, Fs w r f ∧ y = nI (dn w f) ∧ LB w r f (dn w f) w')) (fun hr w' hB => Or.inr ⟨hr, n, hF, rfl, hB⟩) (fun hr => Or.inl ⟨rfl, rfl, Or.inl hr⟩)
theorem Inv.les {w w' : Wd} (h : Inv w) (f : FLs w w') (hL : LesI w') : Inv w' := by
  obtain ⟨h1, h2, h3, h4, h5, h6, h7, h8⟩ := h
  have fR : Sa KR w w' := f.1.sa (fun a k x => by unfold KR at x; unfold CLs; omega)
  have S := SemF.of (KR.f fR)
  exact ⟨f.ct h1, h2.mv (f.1 58 2 (by unfold CLs; omega)) (f.1 8 1 (by unfold CLs; omega)) (f.row (by decide) (by decide) (by decide) (by decide)) (f.row (by decide) (by decide) (by decide) (by decide)), h3.mv S (fun a _ _ => f.row (by omega) (by omega) (by omega) (by omega)), h4.mv (SemR.of fR) (f.1 42 6 (by unfold CLs; omega)) (by rw [f.2]) (by rw [f.2]), h5.mv S (f.1 58 34 (by unfold CLs; omega)) (f.row (by decide) (by decide) (by decide) (by decide)), f.mrk h6, hL, fun k hk => by rw [f.2]; exact h8 k hk⟩
theorem Fs.mv {w w' : Wd} {r : Int32} (h : FLs w w') {f : Nat} (hf : Fs w' r f) : Fs w r f := by
  refine ⟨by rw [← h.m.1]; exact hf.1, (h.mu _ _).mp hf.2.1, fun n hn x => hf.2.2 n hn ((h.mu _ _).mpr x)⟩
theorem KN2.mv {w w' : Wd} {r : Int32} (h : FLs w w') {f i n : Nat} {k v : Int32} (hk : KN2 w' r f i n k v) : KN2 w r f i n k v := by
  have e1 : PW w' r f i n ↔ PW w r f i n := by
    unfold PW Lk
    simp only [h.mu, h.d.1, h.d.2.2]
  have e2 : PS w' r f i n ↔ PS w r f i n := by
    unfold PS Lk
    simp only [h.mu, h.d.1, h.d.2.2, h.m.2.2.2.2.2.2.2.1]
  unfold KN2 at *
  rw [e1, e2, h.d.2.2, h.m.2.2.2.2.2.2.2.1] at hk
  exact hk
theorem KN2.k {w : Wd} {r : Int32} {f i n : Nat} {k v : Int32} (h : KN2 w r f i n k v) : k = nI 0 ∨ k = nI 1 ∨ k = nI 2 := by
  rcases h with ⟨_, e, _⟩ | ⟨_, _, e, _⟩ | ⟨_, _, e, _⟩
  · exact Or.inl e
  · exact Or.inr (Or.inl e)
  · exact Or.inr (Or.inr e)
theorem op_learn {w : Wd} (h : Inv w) (x : Int32) : Op m_D_learn m_M_learn [.int x] w := by
  have hM := h.2.2.2.2.2.1
  refine ev_D_learn x (vc_D_learn_0 x ⟨_, c_isRelation (d := 29) x, ?_⟩)
  rintro r w1 ⟨rfl, hr⟩
  refine ⟨fun g => ?_, fun g => ⟨_, c_study (d := 26) h.1 hM x, ?_⟩⟩
  · refine (c_M_learn h.1 hM x).imp ?_
    rintro r2 w2 (⟨rfl, rfl, -⟩ | ⟨a, -⟩)
    · exact ⟨rfl, h.th _⟩
    · exact absurd a (hr.z g)
  · rintro y w2 (⟨rfl, rfl, hno⟩ | ⟨f, hf, rfl, hA⟩)
    · refine (c_M_learn h.1 hM x).imp ?_
      rintro r2 w2 (⟨rfl, rfl, -⟩ | ⟨a, f, b, -⟩)
      · exact ⟨rfl, h.th _⟩
      · exact absurd b.2.1 (hno f b.1)
    · have l1 := hA.1
      refine (c_M_learn (l1.ct h.1) (l1.mrk hM) x).imp ?_
      rintro r2 w3 (⟨rfl, rfl, a⟩ | ⟨a, f', b, rfl, hB⟩)
      · refine (a.elim (fun a => a (hr.n g)) (fun a => ?_)).elim
        exact a f (by rw [l1.m.1]; exact hf.1) ((l1.mu _ _).mpr hf.2.1)
      · have := (b.mv l1).one hf
        subst this
        have l2 := l1.tr hB.1.s
        have d16 : dn w1 f' ≤ 16 ∧ 2 ≤ dn w1 f' := by
          obtain ⟨⟨f1, f2, f3, f4, f5, f6⟩, -⟩ := hM.at h.1.2.1 hf.1
          unfold dn; split <;> omega
        obtain ⟨rr, rr1, rfl⟩ := isRl_of (hr.n g)
        have eq : ∀ a k, ¬ CLm a k → w3.1 a k = w2.1 a k := fun a k hk => hB.1.1 a k hk
        refine ⟨by rw [l1.d.2.1], h.les l2 ?_⟩
        obtain ⟨c1, c2, c3⟩ := hB.2.1
        rw [l1.d.2.1] at c1
        rw [l1.d.1] at c3
        have esp : sp w3 = dn w1 f' := N_of c1
        unfold LesI
        rw [esp, eq 54 5 (by unfold CLm; omega), eq 54 6 (by unfold CLm; omega), eq 54 7 (by unfold CLm; omega)]
        refine ⟨⟨d16.1, c1, hA.2.1.1⟩, fun _ => ⟨d16.2, ⟨rr, rr1, c2, hA.2.1.2.1⟩, ?_, fun i hi => ?_⟩⟩
        · rcases hA.2.1.2.2 with ⟨z1, z2⟩ | ⟨z1, z2⟩
          · exact Or.inr ⟨z1, by rw [c3, z2]⟩
          · exact Or.inl ⟨z1, by rw [c3, z2, sub_nI (by omega)]⟩
        · have k1 := hA.2.2 i hi
          rw [if_neg (Nat.not_lt_zero _)] at k1
          have k2 := (hB.2.2 i (by rw [l1.d.2.1]; exact hi)).mv l1
          rw [l1.m.1] at k2
          rw [eq 55 i (by unfold CLm; omega), eq 56 i (by unfold CLm; omega)]
          exact ⟨(k1.one k2).1, (k1.one k2).2, k2.k⟩
/-! learnt -/
theorem op_learnt {w : Wd} (h : Inv w) (x y : Int32) : Op m_D_learnt m_M_learnt [.int x, .int y] w := by
  obtain ⟨⟨l1, l2, l3⟩, l4⟩ := h.2.2.2.2.2.2.1
  have hI := h.th (nI 0)
  -- what the reference answers
  have ref : ∀ r, ((x < 0 ∨ (nI (sp w) ≤ x)) → r = -nI 1) → (∀ i, i < sp w → x = nI i → (y = nI 0 → r = w.1 93 i) ∧ (y = nI 1 → r = w.1 94 i) ∧ (y = nI 2 → r = if i = 0 then (if w.1 54 7 = 0 then nI 2 else nI 1) else if i = sp w - 1 then (if w.1 54 7 = 0 then nI 1 else nI 2) else nI 0) ∧ (¬ y = nI 0 → ¬ y = nI 1 → ¬ y = nI 2 → r = -nI 1)) → EvI m_M_learnt 30 [.ref 58, .int (x), .int (y)] w (fun r2 w2 => r2 = r ∧ Inv w2) := by
    intro r hr hr2
    refine ev_M_learnt _ _ (vc_M_learnt_0 _ _ ?_)
    rw [l2]
    refine ⟨fun g => ⟨(hr (Or.inl g)).symm, hI⟩, fun g => ⟨fun g2 => ⟨(hr (Or.inr g2)).symm, hI⟩, fun g2 => ?_⟩⟩
    obtain ⟨i, i0, rfl, -⟩ := i_nat (nlt0 g)
    have hi := ngle g2
    obtain ⟨a0, a1, a2, a3⟩ := hr2 i hi rfl
    obtain ⟨s2, -, s3, s4⟩ := l4 (by omega)
    have e49 : w.1 58 49 ≤ 0 ↔ w.1 54 7 = 0 := by
      rcases s3 with ⟨z1, z2⟩ | ⟨z1, z2⟩
      · rw [z2, z1]
        exact ⟨fun g => absurd (gle (b := 0) g) (by omega), fun g => absurd g (by decide)⟩
      · rw [z2, z1, show sp w = (sp w - 1) + 1 by omega, one_sub (by omega), i_le, neg_int (by omega), i_z]
        exact ⟨fun _ => rfl, fun _ => by omega⟩
    have e0 : nI i = 0 ↔ i = 0 := ⟨fun e => nI_inj (by omega) (by omega) e, fun e => by rw [e]; rfl⟩
    have e1 : nI i = nI (sp w) - nI 1 ↔ i = sp w - 1 := by
      rw [sub_nI (by omega)]
      exact ⟨fun e => nI_inj (by omega) (by omega) e, fun e => by rw [e]⟩
    refine ⟨fun g3 => ⟨(a3 ?_ ?_ ?_).symm, hI⟩, fun g3 => ⟨fun g4 => ⟨fun g5 => ⟨fun g6 => ⟨fun g7 => ⟨fun g8 => ⟨fun g9 => ?_, fun g9 => ?_⟩, fun g8 => ?_⟩, fun g7 => ⟨i, rfl, by omega, (a1 g7).symm, hI⟩⟩, fun g6 => ⟨i, rfl, by omega, (a0 g6).symm, hI⟩⟩, fun g5 => ⟨fun g6 => ⟨fun g7 => ⟨fun g8 => ⟨fun g9 => ?_, fun g9 => ?_⟩, fun g8 => ?_⟩, fun g7 => ⟨i, rfl, by omega, (a1 g7).symm, hI⟩⟩, fun g6 => ⟨i, rfl, by omega, (a0 g6).symm, hI⟩⟩⟩, fun g4 => ⟨(a3 ?_ ?_ ?_).symm, hI⟩⟩⟩
    · intro e; rw [e] at g3; exact absurd g3 (by decide)
    · intro e; rw [e] at g3; exact absurd g3 (by decide)
    · intro e; rw [e] at g3; exact absurd g3 (by decide)
    all_goals try (
      have y2 : y = nI 2 := by
        obtain ⟨k, k0, rfl, -⟩ := i_nat (nlt0 g3)
        have k2 := gle g4
        have k1 : k ≠ 1 := fun e => g7 (by rw [e])
        have kz : k ≠ 0 := fun e => g6 (by rw [e]; rfl)
        rw [show k = 2 by omega]
      have a2 := a2 y2)
    · rw [if_neg (fun e => g8 (e0.mpr e)), if_neg (fun e => g9 (e1.mpr e))] at a2
      exact ⟨a2.symm, hI⟩
    · rw [if_neg (fun e => g8 (e0.mpr e)), if_pos (e1.mp g9), if_pos (e49.mp g5)] at a2
      exact ⟨a2.symm, hI⟩
    · rw [if_pos (e0.mp g8), if_pos (e49.mp g5)] at a2
      exact ⟨a2.symm, hI⟩
    · rw [if_neg (fun e => g8 (e0.mpr e)), if_neg (fun e => g9 (e1.mpr e))] at a2
      exact ⟨a2.symm, hI⟩
    · rw [if_neg (fun e => g8 (e0.mpr e)), if_pos (e1.mp g9), if_neg (fun e => g5 (e49.mpr e))] at a2
      exact ⟨a2.symm, hI⟩
    · rw [if_pos (e0.mp g8), if_neg (fun e => g5 (e49.mpr e))] at a2
      exact ⟨a2.symm, hI⟩
    · intro e; rw [e] at g4; exact absurd (by decide) g4
    · intro e; rw [e] at g4; exact absurd (by decide) g4
    · intro e; rw [e] at g4; exact absurd (by decide) g4
  have neg : ∀ r, r = -nI 1 → (∀ i, i < sp w → ¬ x = nI i) → EvI m_M_learnt 30 [.ref 58, .int (x), .int (y)] w (fun r2 w2 => r2 = r ∧ Inv w2) := fun r e no => ref r (fun _ => e) (fun i hi ex => absurd ex (no i hi))
  refine ev_D_learnt x y (vc_D_learnt_0 x y ⟨_, ev_Lesson_tellOf x y (vc_Lesson_tellOf_0 x y (Q := fun r w' => w' = w ∧ EvI m_M_learnt 30 [.ref 58, .int (x), .int (y)] w (fun r2 w2 => r2 = r ∧ Inv w2)) ?_), ?_⟩)
  · rw [l3]
    refine ⟨fun g => ⟨rfl, neg _ rfl (fun i hi e => ?_)⟩, fun g => ⟨fun g2 => ⟨rfl, neg _ rfl (fun i hi e => ?_)⟩, fun g2 => ?_⟩⟩
    · rw [e] at g; exact nn0 i (by omega) g
    · rw [e] at g2; exact absurd (gle g2) (by omega)
    obtain ⟨i, i0, rfl, -⟩ := i_nat (nlt0 g)
    have hi := ngle g2
    obtain ⟨s2, -, s3, s4⟩ := l4 (by omega)
    obtain ⟨t1, t2, -⟩ := s4 i hi
    have yes : ∀ r, ((y = nI 0 → r = w.1 93 i) ∧ (y = nI 1 → r = w.1 94 i) ∧ (y = nI 2 → r = if i = 0 then (if w.1 54 7 = 0 then nI 2 else nI 1) else if i = sp w - 1 then (if w.1 54 7 = 0 then nI 1 else nI 2) else nI 0) ∧ (¬ y = nI 0 → ¬ y = nI 1 → ¬ y = nI 2 → r = -nI 1)) → EvI m_M_learnt 30 [.ref 58, .int (nI i), .int (y)] w (fun r2 w2 => r2 = r ∧ Inv w2) := fun r hr => ref r (fun g => by
      rcases g with g | g
      · exact absurd g (nn0 i)
      · exact absurd (gle g) (by omega)) (fun i' hi' e => by
      have := nI_inj (by omega) (by omega) e
      subst this
      exact hr)
    refine ⟨fun _ => ⟨fun g3 => ⟨i, rfl, by omega, rfl, yes _ ⟨fun _ => t1, fun e => ?_, fun e => ?_, fun e => absurd g3 e⟩⟩, fun g3 => ⟨fun g4 => ⟨i, rfl, by omega, rfl, yes _ ⟨fun e => absurd e g3, fun _ => t2, fun e => ?_, fun _ e => absurd g4 e⟩⟩, fun g4 => ⟨fun g5 => ?_, fun g5 => ⟨rfl, yes _ ⟨fun e => absurd e g3, fun e => absurd e g4, fun e => absurd e g5, fun _ _ _ => rfl⟩⟩⟩⟩⟩, fun g => absurd (mlt (by omega)) g⟩
    · rw [g3] at e; exact absurd e (by decide)
    · rw [g3] at e; exact absurd e (by decide)
    · rw [g4] at e; exact absurd e (by decide)
    · have e0 : nI i = 0 ↔ i = 0 := ⟨fun e => nI_inj (by omega) (by omega) e, fun e => by rw [e]; rfl⟩
      have e1 : nI i = nI (sp w) - nI 1 ↔ i = sp w - 1 := by
        rw [sub_nI (by omega)]
        exact ⟨fun e => nI_inj (by omega) (by omega) e, fun e => by rw [e]⟩
      refine ⟨_, ev_Lesson_roleOf _ (vc_Lesson_roleOf_0 _ (Q := fun r w' => w' = w ∧ r = if i = 0 then (if w.1 54 7 = 0 then nI 2 else nI 1) else if i = sp w - 1 then (if w.1 54 7 = 0 then nI 1 else nI 2) else nI 0) ?_), ?_⟩
      · rw [l3]
        refine ⟨fun g8 => ?_, fun g8 => ?_⟩
        · rw [if_neg (fun e => g8 (e0.mpr e))]
          refine ⟨fun g9 => ?_, fun g9 => ?_⟩
          · rw [if_neg (fun e => g9 (e1.mpr e))]; exact ⟨rfl, rfl⟩
          · rw [if_pos (e1.mp g9)]
            exact ⟨fun g => by rw [if_pos g]; exact ⟨rfl, rfl⟩, fun g => by rw [if_neg g]; exact ⟨rfl, rfl⟩⟩
        · rw [if_pos (e0.mp g8)]
          exact ⟨fun g => by rw [if_pos g]; exact ⟨rfl, rfl⟩, fun g => by rw [if_neg g]; exact ⟨rfl, rfl⟩⟩
      · rintro r w1 ⟨rfl, rfl⟩
        exact ⟨rfl, yes _ ⟨fun e => absurd e g3, fun e => absurd e g4, fun _ => rfl, fun _ _ e => absurd g5 e⟩⟩
  · rintro r w1 ⟨rfl, hr⟩
    exact hr
