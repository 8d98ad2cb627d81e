/-! the best set, of the class -/
section
variable {f h : Nat → Nat} {n m : Nat} {w0 : Wd}
def BW (f : Nat → Nat) (n : Nat) (w0 w : Wd) (b : Nat) : Prop := (∀ a k, ¬ (a = 51 ∧ (k = 4 ∨ k = 5)) → w.1 a k = w0.1 a k) ∧ w.2 = w0.2 ∧ w.1 51 4 = nI b ∧ w.1 51 5 = nI (cG f n b) ∧ b < 2 ^ n
theorem p12 {n b : Nat} (hn : n ≤ 12) (hb : b < 2 ^ n) : b < 4096 := Nat.lt_of_lt_of_le hb (Nat.pow_le_pow_right (by decide) hn)
theorem cG_le (f : Nat → Nat) (n S : Nat) : cG f n S ≤ 64 := pcn_le _ _
theorem bc_le (S : Nat) : bc S ≤ 32 := pcn_le _ _
theorem BW.put {w : Wd} {b S : Nat} (hB : BW f n w0 w b) (hS : S < 2 ^ n) : BW f n w0 (up1 (up1 w 51 4 (nI S)) 51 5 (nI (cG f n S))) S := by
  refine ⟨fun a k g => ?_, hB.2.1, rfl, rfl, hS⟩
  rw [up1_1, if_neg (by omega), up1_1, if_neg (by omega)]
  exact hB.1 a k g
theorem c_weigh {d b S : Nat} {w : Wd} (hn : n ≤ 12) (hB : BW f n w0 w b) (hS : S < 2 ^ n) : EvV m_BestSet_weigh (d + 1) [.ref 51, .int (nI S), .int (nI (cG f n S))] w (fun w' => ∃ b', BW f n w0 w' b' ∧ (b' = b ∨ b' = S) ∧ Bte f n b' b ∧ Bte f n b' S) := by
  have h1 := p12 hn hB.2.2.2.2
  have h2 := p12 hn hS
  have g1 := cG_le f n b
  have g2 := cG_le f n S
  have q1 := bc_le b
  have q2 := bc_le S
  refine ev_BestSet_weigh _ _ (vc_BestSet_weigh_0 _ _ ?_)
  rw [hB.2.2.1]
  refine ⟨_, c_Integer_bitCount (d := d) (c := b) (by omega), ?_⟩
  rintro r w1 ⟨rfl, rfl⟩
  refine ⟨_, c_Integer_bitCount (d := d) (c := S) (by omega), ?_⟩
  rintro r w2 ⟨rfl, rfl⟩
  rw [hB.2.2.2.1, hB.2.2.1]
  have yes : Bt f n S b → ∃ b', BW f n w0 (up1 (up1 w2 51 4 (nI S)) 51 5 (nI (cG f n S))) b' ∧ (b' = b ∨ b' = S) ∧ Bte f n b' b ∧ Bte f n b' S := fun g => ⟨S, hB.put hS, Or.inr rfl, Or.inr g, Or.inl rfl⟩
  have no : ¬ Bt f n S b → ∃ b', BW f n w0 w2 b' ∧ (b' = b ∨ b' = S) ∧ Bte f n b' b ∧ Bte f n b' S := fun g => ⟨b, hB, Or.inl rfl, Or.inl rfl, Bte.of g⟩
  have hd : (nI (bc b) - nI (bc S)).toInt = (bc b : Int) - bc S := by
    rw [Int32.toInt_sub, nI_toInt (by omega), nI_toInt (by omega)]
    exact Int.bmod_eq_of_le (by omega) (by omega)
  refine ⟨fun g => yes (Or.inl (glt g)), fun g => ⟨fun e => no ?_, fun e => ⟨fun e2 => yes ?_, fun e2 => ⟨fun e3 => no ?_, fun e3 => ⟨fun e4 => no ?_, fun e4 => yes ?_⟩⟩⟩⟩⟩
  · have g := nglt g
    have e : cG f n S ≠ cG f n b := fun x => e (by rw [x])
    unfold Bt
    omega
  all_goals have e := nI_inj (by omega) (by omega) e
  · rw [i_lt, i_z] at e2
    have e2 : 0 < (nI (bc b) - nI (bc S)).toInt := e2
    rw [hd] at e2
    unfold Bt
    omega
  all_goals
    rw [i_lt, i_z] at e2
    have e2 : ¬ 0 < (nI (bc b) - nI (bc S)).toInt := e2
    rw [hd] at e2
    rw [i_eq, i_z] at e3
  · have e3 : ¬ (nI (bc b) - nI (bc S)).toInt = 0 := e3
    rw [hd] at e3
    unfold Bt
    omega
  · have e3 : (nI (bc b) - nI (bc S)).toInt = 0 := e3
    rw [hd] at e3
    have e4 := gle e4
    unfold Bt
    omega
  · have e3 : (nI (bc b) - nI (bc S)).toInt = 0 := e3
    rw [hd] at e3
    have e4 := ngle e4
    unfold Bt
    omega
/-- the state when the sets are tried -/
def TW (f h : Nat → Nat) (n m : Nat) (w0 : Wd) : Prop := n ≤ 12 ∧ m ≤ 60 ∧ w0.1 51 2 = nI n ∧ w0.1 51 3 = nI m ∧ (∀ r, f r < 2 ^ 60 ∧ h r < 2 ^ 60) ∧ ∀ r, r < n → w0.2 52 r = lN (f r) ∧ w0.2 53 r = lN (h r)
theorem VS.ex {S T : Nat} (hS : ∀ r, S.testBit r = true → T.testBit r = true) (v : VS h n m T) : VS h n m S := Nat.le_trans (cG_sub (fun r _ => hS r)) v
theorem c_tryFrom (hT : TW f h n m w0) {d : Nat} : ∀ j k, k + j = n → ∀ S, S < 2 ^ k → ∀ w b, BW f n w0 w b → VS h n m b → EvV m_BestSet_tryFrom (d + 2 + j) [.ref 51, .int (nI k), .int (nI S), .long (lN (orS f S n)), .long (lN (orS h S n))] w (fun w' => ∃ b', BW f n w0 w' b' ∧ VS h n m b' ∧ Bte f n b' b ∧ ∀ T, T < 2 ^ n → (∀ r, r < k → T.testBit r = S.testBit r) → VS h n m T → Bte f n b' T) := by
  obtain ⟨t1, t2, t3, t4, t5, t6⟩ := hT
  have lf : ∀ S, orS f S n < 2 ^ 60 := fun S => orS_lt (fun r => (t5 r).1) n
  have lh : ∀ S, orS h S n < 2 ^ 60 := fun S => orS_lt (fun r => (t5 r).2) n
  intro j
  induction j with
  | zero =>
    intro k hk S hS w b hB hv
    rw [Nat.add_zero] at hk
    subst hk
    refine ev_BestSet_tryFrom _ _ _ _ (vc_BestSet_tryFrom_0 _ _ _ _ ⟨_, c_Long_bitCount (d := d + 1) (c := orS h S k) (by have := lh S; omega), ?_⟩)
    rintro r w1 ⟨rfl, rfl⟩
    rw [hB.1 51 3 (by omega), hB.1 51 2 (by omega), t4, t3]
    have := pcn_le 64 (orS h S k)
    refine ⟨fun g => ⟨fun g2 => absurd g2 (nn0 k), fun _ => ⟨fun _ => ⟨_, c_Long_bitCount (d := d + 1) (c := orS f S k) (by have := lf S; omega), ?_⟩, fun g => absurd (mle (Nat.le_refl k)) g⟩⟩, fun g => ⟨b, hB, hv, Or.inl rfl, fun T hT e v => absurd (ngle g) ?_⟩⟩
    · rintro r w2 ⟨rfl, rfl⟩
      refine ⟨_, c_weigh (d := d) t1 hB hS, ?_⟩
      rintro w3 ⟨b', a1, a2, a3, a4⟩
      refine ⟨b', a1, ?_, a3, fun T hT e v => ?_⟩
      · rcases a2 with rfl | rfl
        · exact hv
        · exact (show pcn 64 (orS h b' k) ≤ m from gle g)
      · have : T = S := by
          apply Nat.eq_of_testBit_eq
          intro i
          by_cases hi : i < k
          · exact e i hi
          · rw [Nat.testBit_lt_two_pow (Nat.lt_of_lt_of_le hT (Nat.pow_le_pow_right (by decide) (by omega))), Nat.testBit_lt_two_pow (Nat.lt_of_lt_of_le hS (Nat.pow_le_pow_right (by decide) (by omega)))]
        rw [this]
        exact a4
    · have hh : pcn 64 (orS h S k) ≤ m := by
        refine Nat.le_trans ?_ v
        have := cG_sub (f := h) (n := k) (S := S) (T := T) (fun r hr g => by rw [e r hr]; exact g)
        exact this
      omega
  | succ j ih =>
    intro k hk S hS w b hB hv
    refine ev_BestSet_tryFrom _ _ _ _ (vc_BestSet_tryFrom_0 _ _ _ _ ⟨_, c_Long_bitCount (d := d + 2 + j) (c := orS h S n) (by have := lh S; omega), ?_⟩)
    rintro r w1 ⟨rfl, rfl⟩
    rw [hB.1 51 3 (by omega), hB.1 51 2 (by omega), t4, t3]
    have := pcn_le 64 (orS h S n)
    refine ⟨fun g => ⟨fun g2 => absurd g2 (nn0 k), fun _ => ⟨fun g2 => absurd (gle g2) (by omega), fun _ => ⟨fun _ => ?_, fun g => absurd (mlt (by omega)) g⟩⟩⟩, fun g => ⟨b, hB, hv, Or.inl rfl, fun T hT e v => absurd (ngle g) ?_⟩⟩
    · rw [nI_add]
      refine ⟨_, ih (k + 1) (by omega) S (Nat.lt_of_lt_of_le hS (Nat.pow_le_pow_right (by decide) (by omega))) w1 b hB hv, ?_⟩
      rintro w2 ⟨b1, a1, a2, a3, a4⟩
      have sk : ∀ i, k ≤ i → S.testBit i = false := fun i hi => Nat.testBit_lt_two_pow (Nat.lt_of_lt_of_le hS (Nat.pow_le_pow_right (by decide) hi))
      have e52 : w2.2 52 k = lN (f k) := by rw [a1.2.1]; exact (t6 k (by omega)).1
      have e53 : w2.2 53 k = lN (h k) := by rw [a1.2.1]; exact (t6 k (by omega)).2
      refine ⟨k, rfl, by omega, ?_⟩
      rw [e52, lg_cmp_eq, lN_not]
      refine ⟨fun g2 => ⟨b1, a1, a2, a3, fun T hT e v => ?_⟩, fun g2 => ⟨k, rfl, by omega, k, rfl, by omega, ?_⟩⟩
      · cases hTk : T.testBit k with
        | false =>
          refine a4 T hT (fun r hr => ?_) v
          by_cases e' : r = k
          · subst e'; rw [hTk, sk r (Nat.le_refl _)]
          · exact e r (by omega)
        | true =>
          obtain ⟨o1, o2, o3⟩ := bt_off (f := f) (h := h) (m := m) t1 hT hTk (fun i hi => by
            have i64 : i < 64 := Nat.lt_of_lt_of_le (tb_lt (t5 k).1 hi) (by decide)
            obtain ⟨r, r1, r2, r3⟩ := (orS_tb f S n i).mp (g2 i i64 hi)
            have rk : r < k := by
              rcases Nat.lt_or_ge r k with x | x
              · exact x
              · rw [sk r x] at r2; exact absurd r2 (by decide)
            exact ⟨r, rk, by rw [e r rk]; exact r2, r3⟩)
          refine (a4 (T ^^^ 2 ^ k) o1 (fun r hr => ?_) (o2 v)).tr (Or.inr o3)
          rw [tb_off hTk]
          by_cases e' : r = k
          · subst e'; rw [sk r (Nat.le_refl _)]; simp
          · rw [e r (by omega)]; simp [e']
      · rw [e53]
        have hor : ∀ i, (S ||| 2 ^ k).testBit i = (S.testBit i || decide (k = i)) := fun i => by rw [Nat.testBit_or, Nat.testBit_two_pow]
        have nx : ∀ q : Nat → Nat, orS q (S ||| 2 ^ k) n = orS q S n ||| q k := fun q => by
          apply Nat.eq_of_testBit_eq
          intro i
          apply bool_eq
          rw [orS_tb, Nat.testBit_or, Bool.or_eq_true, orS_tb]
          constructor
          · rintro ⟨r, r1, r2, r3⟩
            rw [hor, Bool.or_eq_true, decide_eq_true_eq] at r2
            rcases r2 with r2 | rfl
            · exact Or.inl ⟨r, r1, r2, r3⟩
            · exact Or.inr r3
          · rintro (⟨r, r1, r2, r3⟩ | r3)
            · exact ⟨r, r1, by rw [hor, r2]; rfl, r3⟩
            · exact ⟨k, by omega, by rw [hor]; simp, r3⟩
        have l60 : (2:Nat) ^ 60 < 2 ^ 64 := by decide
        rw [e52, one_shl (by omega), wb_or (by have := lf S; omega) (by have := (t5 k).1; omega), wb_or (by have := lh S; omega) (by have := (t5 k).2; omega), ← nx f, ← nx h, or_nI]
        have hS' : S ||| 2 ^ k < 2 ^ (k + 1) := Nat.or_lt_two_pow (Nat.lt_of_lt_of_le hS (Nat.pow_le_pow_right (by decide) (by omega))) (Nat.pow_lt_pow_right (by decide) (by omega))
        refine ⟨_, ih (k + 1) (by omega) (S ||| 2 ^ k) hS' w2 b1 a1 a2, ?_⟩
        rintro w3 ⟨b2, c1, c2, c3, c4⟩
        refine ⟨b2, c1, c2, c3.tr a3, fun T hT e v => ?_⟩
        cases hTk : T.testBit k with
        | false =>
          refine c3.tr (a4 T hT (fun r hr => ?_) v)
          by_cases e' : r = k
          · subst e'; rw [hTk, sk r (Nat.le_refl _)]
          · exact e r (by omega)
        | true =>
          refine c4 T hT (fun r hr => ?_) v
          rw [hor]
          by_cases e' : r = k
          · subst e'; rw [hTk]; simp
          · rw [e r (by omega)]; simp [Ne.symm e']
    · have hh : pcn 64 (orS h S n) ≤ m := by
        refine Nat.le_trans ?_ v
        have := cG_sub (f := h) (n := n) (S := S) (T := T) (fun r hr g => by
          rcases Nat.lt_or_ge r k with x | x
          · rw [e r x]; exact g
          · rw [Nat.testBit_lt_two_pow (Nat.lt_of_lt_of_le hS (Nat.pow_le_pow_right (by decide) x))] at g; exact absurd g (by decide))
        exact this
      omega
end
theorem c_choose {f h : Nat → Nat} {n m d : Nat} {w : Wd} (t1 : n ≤ 12) (t2 : m ≤ 60) (t5 : ∀ r, f r < 2 ^ 60 ∧ h r < 2 ^ 60) (t6 : ∀ r, r < n → w.2 52 r = lN (f r) ∧ w.2 53 r = lN (h r)) : EvI m_BestSet_choose (d + 15) [.ref 51, .int (nI n), .int (nI m)] w (fun r w' => (∀ a k, a ≠ 51 → w'.1 a k = w.1 a k) ∧ w'.2 = w.2 ∧ ∃ b, IsB f h n m b ∧ r = nI b) := by
  refine ev_BestSet_choose _ _ (vc_BestSet_choose_0 _ _ ?_)
  rw [if_neg (fun g => absurd (glt g) (by omega))]
  have z : ∀ q : Nat → Nat, orS q 0 n = 0 := fun q => by
    apply Nat.eq_of_testBit_eq
    intro i
    rw [Nat.zero_testBit]
    cases e : (orS q 0 n).testBit i with
    | false => rfl
    | true =>
      obtain ⟨r, -, a, -⟩ := (orS_tb q 0 n i).mp e
      rw [Nat.zero_testBit] at a
      exact absurd a (by decide)
  have z2 : ∀ q : Nat → Nat, cG q n 0 = 0 := fun q => by
    unfold cG
    rw [z]
    unfold pcn
    exact ct_zero (fun k _ => Nat.zero_testBit k)
  generalize hw : up1 (up1 (up1 (up1 w 51 2 (nI n)) 51 3 (nI m)) 51 4 (nI 0)) 51 5 (nI 0) = w0
  have e1 : ∀ a k, a ≠ 51 → w0.1 a k = w.1 a k := fun a k ha => by
    rw [← hw, up1_1, if_neg (by omega), up1_1, if_neg (by omega), up1_1, if_neg (by omega), up1_1, if_neg (by omega)]
  have e2 : w0.2 = w.2 := by rw [← hw]; rfl
  have c2 : w0.1 51 2 = nI n := by rw [← hw]; rfl
  have c3 : w0.1 51 3 = nI m := by rw [← hw]; rfl
  have c4 : w0.1 51 4 = nI 0 := by rw [← hw]; rfl
  have c5 : w0.1 51 5 = nI 0 := by rw [← hw]; rfl
  have hB : BW f n w0 w0 0 := ⟨fun _ _ _ => rfl, rfl, c4, by rw [z2]; exact c5, Nat.two_pow_pos _⟩
  have hT : TW f h n m w0 := ⟨t1, t2, c2, c3, t5, fun r hr => by rw [e2]; exact t6 r hr⟩
  have key := c_tryFrom hT (d := d + 12 - n) n 0 (Nat.zero_add n) 0 (by decide) w0 0 hB (show cG h n 0 ≤ m by rw [z2]; omega)
  rw [z, z, show d + 12 - n + 2 + n = d + 14 by omega] at key
  refine ⟨_, key, ?_⟩
  rintro w1 ⟨b, a1, a2, a3, a4⟩
  refine ⟨fun a k ha => (a1.1 a k (by omega)).trans (e1 a k ha), a1.2.1.trans e2, b, ⟨a1.2.2.2.2, a2, fun T hT v => a4 T hT (fun r hr => absurd hr (Nat.not_lt_zero _)) v⟩, a1.2.2.1⟩
