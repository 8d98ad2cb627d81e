/-! learn, of the class: the first mark, and all -/
theorem dist_pos {l t : Nat} (hl : l < 16) (ht : t < 16) (h : l < t) : nI t - nI l = nI (t - l) := sub_nI (by omega)
theorem dist_neg {l t : Nat} (hl : l < 16) (ht : t < 16) (h : t < l) : nI t - nI l = -nI (l - t) := by
  apply (i_eq _ _).mpr
  rw [Int32.toInt_sub, nI_toInt (by omega), nI_toInt (by omega), Int32.toInt_neg, nI_toInt (by omega), Int.bmod_eq_of_le (by omega) (by omega), Int.bmod_eq_of_le (by omega) (by omega)]
  omega
theorem neg_int {k : Nat} (hk : k < 2147483648) : (-nI k).toInt = -(k : Int) := by
  rw [Int32.toInt_neg, nI_toInt hk]
  exact Int.bmod_eq_of_le (by omega) (by omega)
theorem one_sub {k : Nat} (hk : k < 100) : nI 1 - nI (k + 1) = -nI k := by
  apply (i_eq _ _).mpr
  rw [Int32.toInt_sub, nI_toInt (by omega), nI_toInt (by omega), neg_int (by omega)]
  rw [Int.bmod_eq_of_le (by omega) (by omega)]
  omega
theorem z_sub {k : Nat} (hk : k < 100) : 0 - -nI k = nI k := by
  apply (i_eq _ _).mpr
  rw [Int32.toInt_sub, nI_toInt (by omega), neg_int (by omega), i_z]
  rw [Int.bmod_eq_of_le (by omega) (by omega)]
  omega
theorem neg_neg' {k : Nat} (hk : k < 100) : - -nI k = nI k := by
  apply (i_eq _ _).mpr
  rw [Int32.toInt_neg, neg_int (by omega), nI_toInt (by omega)]
  rw [Int.bmod_eq_of_le (by omega) (by omega)]
  omega
section
variable {w0 : Wd} {r : Int32} {f : Nat}
theorem c_begin {d : Nat} (hC : CtI w0) (hM : MrkI w0) (hf : Fs w0 r f) : EvV m_Lesson_begin (d + 2) [.ref 54, .int (r), .int (nI f)] w0 (fun w' => LA w0 r f 0 (f + 1) w') := by
  obtain ⟨⟨f1, f2, f3, f4, f5, f6⟩, -⟩ := hM.at hC.2.1 hf.1
  have d16 : dn w0 f ≤ 16 := by unfold dn; split <;> omega
  obtain ⟨k1, k2, k3⟩ := c_Marks_at (d := d + 1) hM hC.2.1 hf.1
  -- from the loop on
  have loop : ∀ x3 w1, FLs w0 w1 → (w1.1 54 5 = nI (dn w0 f) ∧ w1.1 54 6 = r ∧ ((w1.1 54 7 = 0 ∧ df w0 f = nI 1 - nI (dn w0 f)) ∨ (w1.1 54 7 = 1 ∧ df w0 f = nI (dn w0 f) - nI 1))) → Z m_Lesson_begin (d + 2) (qV (fun w' => LA w0 r f 0 (f + 1) w')) 54 [(0, .ref 54), (1, .int (r)), (2, .int (nI f)), (3, .int (x3)), (4, .int (nI 0))] [] w1 := by
    intro x3 w1 h1 h2
    refine lpU (I := fun m w' => FLs w0 w' ∧ (w'.1 54 5 = nI (dn w0 f) ∧ w'.1 54 6 = r ∧ ((w'.1 54 7 = 0 ∧ df w0 f = nI 1 - nI (dn w0 f)) ∨ (w'.1 54 7 = 1 ∧ df w0 f = nI (dn w0 f) - nI 1))) ∧ ∀ i, i < m → w'.1 55 i = nI 0 ∧ w'.1 56 i = nI (wa w0 f i)) (G := fun m w' => Z m_Lesson_begin (d + 2) (qV (fun w' => LA w0 r f 0 (f + 1) w')) 54 [(0, .ref 54), (1, .int (r)), (2, .int (nI f)), (3, .int (x3)), (4, .int (nI m))] [] w') (M := dn w0 f) ?_ ?_ 0 (Nat.zero_le _) _ ⟨h1, h2, fun i hi => absurd hi (Nat.not_lt_zero _)⟩
    · rintro w2 ⟨l1, l2, l3⟩
      refine vc_Lesson_begin_54 _ _ _ _ ?_
      rw [l2.1]
      refine ⟨fun _ => ⟨l1, l2, fun i hi => ?_⟩, fun g => absurd (mle (Nat.le_refl _)) g⟩
      rw [if_neg (Nat.not_lt_zero _)]
      refine Or.inl ⟨fun n' a b => ?_, (l3 i hi).1, (l3 i hi).2⟩
      have : n' = f := by
        rcases Nat.lt_or_ge n' f with x | x
        · exact absurd b.1 (hf.2.2 n' x)
        · omega
      rw [this]
    · rintro m w2 hm ⟨l1, l2, l3⟩ nx
      refine vc_Lesson_begin_54 _ _ _ _ ?_
      rw [l2.1]
      refine ⟨fun g => absurd (gle g) (by omega), fun _ => ⟨m, rfl, by omega, ?_⟩⟩
      have l4 : FLs w0 (up1 w2 55 m (nI 0)) := l1.tr (FLs.up (by unfold CLs; omega))
      obtain ⟨q1, q2, q3⟩ := l4.d
      refine ⟨_, c_Lesson_wordAt (d := d) (l4.mrk hM) (l4.ct hC).2.1 (n := f) (i := m) (by rw [l4.m.1]; exact hf.1) (by rw [q2]; exact hm), ?_⟩
      rintro y w3 ⟨rfl, rfl⟩
      rw [q3]
      refine ⟨m, rfl, by omega, ?_⟩
      rw [nI_add]
      refine nx _ ⟨l4.tr (FLs.up (by unfold CLs; omega)), ?_, fun i hi => ?_⟩
      · have e : ∀ k, (up1 (up1 w2 55 m (nI 0)) 56 m (nI (wa w0 f m))).1 54 k = w2.1 54 k := fun k => by
          rw [up1_1, if_neg (by omega), up1_1, if_neg (by omega)]
        rw [e, e, e]
        exact l2
      · by_cases e : i = m
        · subst e
          rw [up1_1, if_neg (by omega), up1_1, if_pos ⟨rfl, rfl⟩, up1_1, if_pos ⟨rfl, rfl⟩]
          exact ⟨rfl, rfl⟩
        · rw [up1_1, if_neg (by omega), up1_1, if_neg (by omega), up1_1, if_neg (by omega), up1_1, if_neg (by omega)]
          exact l3 i (by omega)
  refine ev_Lesson_begin _ _ (vc_Lesson_begin_0 _ _ ⟨_, k1, ?_⟩)
  rintro y w1 ⟨rfl, rfl⟩
  refine ⟨_, k2, ?_⟩
  rintro y w2 ⟨rfl, rfl⟩
  have fl : ∀ a b c, FLs w2 (up1 (up1 (up1 w2 54 6 a) 54 7 b) 54 5 c) := fun a b c => ((FLs.up (by unfold CLs; omega)).tr (FLs.up (by unfold CLs; omega))).tr (FLs.up (by unfold CLs; omega))
  rcases Nat.lt_or_ge (ml w2 f) (mt w2 f) with g | g
  · have e0 := dist_pos (l := ml w2 f) (t := mt w2 f) (by omega) (by omega) g
    have ed : dn w2 f = mt w2 f - ml w2 f + 1 := by unfold dn; rw [if_pos g]
    have e1 : df w2 f = nI (dn w2 f) - nI 1 := by
      unfold df
      rw [e0, ed, sub_nI (by omega)]
      congr 1
    rw [e0]
    refine ⟨fun g2 => absurd (show nI (mt w2 f - ml w2 f) ≤ nI 0 from g2) (fun x => absurd (gle x) (by omega)), fun _ => ⟨Or.inr rfl, ?_⟩⟩
    rw [if_pos (show (0 : Int32) ≤ nI (mt w2 f - ml w2 f) from mle (a := 0) (Nat.zero_le _)), nI_add, ← ed, if_neg (fun x => absurd (glt x) (by omega))]
    exact loop _ _ (fl _ _ _) ⟨rfl, rfl, Or.inr ⟨rfl, e1⟩⟩
  · have g : mt w2 f < ml w2 f := by omega
    have e0 := dist_neg (l := ml w2 f) (t := mt w2 f) (by omega) (by omega) g
    have ed : dn w2 f = ml w2 f - mt w2 f + 1 := by unfold dn; rw [if_neg (by omega)]
    have e1 : df w2 f = nI 1 - nI (dn w2 f) := by
      unfold df
      rw [e0, ed, one_sub (by omega)]
    have hneg := neg_int (k := ml w2 f - mt w2 f) (by omega)
    rw [e0]
    refine ⟨fun _ => ⟨Or.inl rfl, ?_⟩, fun g2 => absurd (show (-nI (ml w2 f - mt w2 f)) ≤ 0 by rw [i_le, hneg, i_z]; omega) g2⟩
    rw [if_neg (show ¬ (0 : Int32) ≤ -nI (ml w2 f - mt w2 f) by rw [i_le, hneg, i_z]; omega), z_sub (by omega), nI_add, ← ed, if_neg (fun x => absurd (glt x) (by omega))]
    exact loop _ _ (fl _ _ _) ⟨rfl, rfl, Or.inl ⟨rfl, e1⟩⟩
theorem c_study {d : Nat} (hC : CtI w0) (hM : MrkI w0) (r : Int32) : EvI m_Lesson_study (d + 3) [.ref 54, .int (r)] w0 (fun y w' => (y = -nI 1 ∧ w' = w0 ∧ ∀ n, n < mk w0 → ¬ MU w0 r (nI 1) n) ∨ ∃ f, Fs w0 r f ∧ y = nI (dn w0 f) ∧ LA w0 r f 0 (mk w0) w') := by
  have mk60 := hM.1.1
  refine ev_Lesson_study _ (vc_Lesson_study_0 _ ?_)
  refine lpU (I := fun n w' => FLs w0 w') (G := fun n w' => ∀ x2, (x2 = nI 0 ∧ w' = w0 ∧ ∀ n', n' < n → ¬ MU w0 r (nI 1) n') ∨ (x2 = nI 1 ∧ ∃ f, Fs w0 r f ∧ f < n ∧ LA w0 r f 0 n w') → Z m_Lesson_study (d + 3) (qI (fun y w' => (y = -nI 1 ∧ w' = w0 ∧ ∀ n, n < mk w0 → ¬ MU w0 r (nI 1) n) ∨ ∃ f, Fs w0 r f ∧ y = nI (dn w0 f) ∧ LA w0 r f 0 (mk w0) w')) 4 [(0, .ref 54), (1, .int (r)), (2, .int (x2)), (3, .int (nI n))] [] w') (M := mk w0) ?_ ?_ 0 (Nat.zero_le _) _ FLs.rf (nI 0) (Or.inl ⟨rfl, rfl, fun n' hn => absurd hn (Nat.not_lt_zero _)⟩)
  · rintro w1 l1 x2 hx
    refine vc_Lesson_study_4 _ _ _ ⟨_, ev_Marks_size (d := d + 2) (vc_Marks_size_0 (Q := fun r w' => w' = w1 ∧ r = w1.1 45 8) ⟨rfl, rfl⟩), ?_⟩
    rintro y w2 ⟨rfl, rfl⟩
    rw [l1.1 45 8 (by unfold CLs; omega), hM.1.2.2]
    refine ⟨fun _ => ?_, fun g => absurd (mle (Nat.le_refl _)) g⟩
    rcases hx with ⟨rfl, rfl, hno⟩ | ⟨rfl, f, f1, f2, f3⟩
    · exact ⟨fun _ => Or.inl ⟨rfl, rfl, hno⟩, fun g => absurd rfl g⟩
    · exact ⟨fun g => absurd g (by decide), fun _ => Or.inr ⟨f, f1, f3.2.1.1, f3⟩⟩
  · rintro n w1 hn l1 nx x2 hx
    refine vc_Lesson_study_4 _ _ _ ⟨_, ev_Marks_size (d := d + 2) (vc_Marks_size_0 (Q := fun r w' => w' = w1 ∧ r = w1.1 45 8) ⟨rfl, rfl⟩), ?_⟩
    rintro y w2 ⟨rfl, rfl⟩
    rw [l1.1 45 8 (by unfold CLs; omega), hM.1.2.2]
    refine ⟨fun g => absurd (gle g) (by omega), fun _ => ⟨_, c_isUsable (d := d + 1) (l1.mrk hM) (l1.ct hC).2.1 (n := n) (by rw [l1.m.1]; exact hn) _ _, ?_⟩⟩
    rintro y w1 ⟨rfl, hy0⟩
    have hy : Bo (MU w0 r (nI 1) n) y := hy0.imp (l1.mu _ _)
    clear hy0
    refine ⟨fun g => ⟨fun g2 => ?_, fun g2 => ?_⟩, fun g => ?_⟩
    · rcases hx with ⟨rfl, -, -⟩ | ⟨rfl, f, f1, f2, f3⟩
      · exact absurd rfl g2
      · refine ⟨_, c_Lesson_isLike (d := d + 1) (l1.mrk hM) (l1.ct hC).2.1 (n := n) (by rw [l1.m.1]; exact hn) (x := df w0 f) ?_, ?_⟩
        · rw [f3.2.1.1]; exact f3.2.1.2.2
        · rintro z w2 ⟨rfl, hz⟩
          rw [l1.d.1] at hz
          refine ⟨fun g3 => ?_, fun g3 => ⟨_, c_widen (d := d) hC hM f1.1 hn (show Lk w0 r f n from ⟨hy.n g, hz.n g3⟩) f3, ?_⟩⟩
          · rw [nI_add]
            exact nx _ l1 _ (Or.inr ⟨rfl, f, f1, by omega, f3.1, f3.2.1, fun i hi => by
              have := f3.2.2 i hi
              rw [if_neg (Nat.not_lt_zero _)] at this ⊢
              exact this.no (fun x => hz.z g3 x.2)⟩)
          · rintro w3 hA
            rw [nI_add]
            exact nx _ hA.1 _ (Or.inr ⟨rfl, f, f1, by omega, hA⟩)
    · rcases hx with ⟨rfl, rfl, hno⟩ | ⟨rfl, f, f1, f2, f3⟩
      · have hF : Fs w1 r n := ⟨hn, hy.n g, hno⟩
        refine ⟨_, c_begin (d := d) hC hM hF, ?_⟩
        rintro w3 hA
        rw [nI_add]
        exact nx _ hA.1 _ (Or.inr ⟨rfl, n, hF, by omega, hA⟩)
      · exact absurd g2 (by decide)
    · rw [nI_add]
      refine nx _ l1 _ ?_
      rcases hx with ⟨rfl, rfl, hno⟩ | ⟨rfl, f, f1, f2, f3⟩
      · refine Or.inl ⟨rfl, rfl, fun n' hn' => ?_⟩
        by_cases e : n' = n
        · rw [e]; exact hy.z g
        · exact hno n' (by omega)
      · exact Or.inr ⟨rfl, f, f1, by omega, f3.1, f3.2.1, fun i hi => by
          have := f3.2.2 i hi
          rw [if_neg (Nat.not_lt_zero _)] at this ⊢
          exact this.no (fun x => hy.z g x.1)⟩
end
