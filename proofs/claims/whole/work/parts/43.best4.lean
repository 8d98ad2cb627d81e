/-! the reference's best set -/
theorem c_M_sets {w : Wd} {g h : Nat → Nat} {n m : Nat} (hh : hl w < 2 ∧ w.1 58 10 = nI (hl w)) (hn : w.1 64 (hl w) = nI n) (n12 : n ≤ 12) (m60 : m ≤ 60) (t5 : ∀ r, g r < 2 ^ 60 ∧ h r < 2 ^ 60) (t6 : ∀ r, r < n → w.2 91 r = lN (g r) ∧ w.2 92 r = lN (h r)) {Q : Int32 → Wd → Prop} (hq : ∀ b, IsB g h n m b → Q (nI b) w) : Z m_M_best 30 (qI Q) 145 [(0, .ref 58), (1, .int (nI m)), (2, .int (nI 0)), (3, .int (nI 0)), (4, .int (nI 1))] [] w := by
  have l60 : (2:Nat) ^ 60 < 2 ^ 64 := by decide
  have lg : ∀ S k, orS g S k < 2 ^ 60 := fun S k => orS_lt (fun r => (t5 r).1) k
  have lh : ∀ S k, orS h S k < 2 ^ 60 := fun S k => orS_lt (fun r => (t5 r).2) k
  have z2 : ∀ q : Nat → Nat, cG q n 0 = 0 := fun q => by
    have z : orS q 0 n = 0 := by
      apply Nat.eq_of_testBit_eq
      intro i
      rw [Nat.zero_testBit]
      cases e : (orS q 0 n).testBit i with
      | false => rfl
      | true =>
        obtain ⟨r, -, a, -⟩ := (orS_tb q 0 n i).mp e
        rw [Nat.zero_testBit] at a
        exact absurd a (by decide)
    unfold cG
    rw [z]
    unfold pcn
    exact ct_zero (fun k _ => Nat.zero_testBit k)
  have p4096 : 2 ^ n ≤ 4096 := Nat.pow_le_pow_right (by decide) n12
  have one := one_shl (k := n) (by omega)
  refine lpU (I := fun S w' => w' = w) (G := fun S w' => ∀ b, b < S → VS h n m b → (∀ T, T < S → VS h n m T → Bte g n b T) → Z m_M_best 30 (qI Q) 145 [(0, .ref 58), (1, .int (nI m)), (2, .int (nI b)), (3, .int (nI (cG g n b))), (4, .int (nI S))] [] w') (M := 2 ^ n) ?_ ?_ 1 (Nat.two_pow_pos n) _ rfl 0 (by decide) (show cG h n 0 ≤ m by rw [z2]; omega) ?_ |> fun x => by rw [z2] at x; exact x
  · rintro w1 rfl b hb v ha
    refine vc_M_best_145 _ _ _ _ ⟨hl w1, hh.2, hh.1, ?_⟩
    rw [hn, one]
    exact ⟨fun _ => hq b ⟨hb, v, ha⟩, fun g => absurd (mle (Nat.le_refl _)) g⟩
  · rintro S w1 hS rfl nx b hb v ha
    refine vc_M_best_145 _ _ _ _ ⟨hl w1, hh.2, hh.1, ?_⟩
    rw [hn, one]
    refine ⟨fun g => absurd (gle g) (by omega), fun _ => ?_⟩
    refine lpU (I := fun r w' => w' = w1) (G := fun r w' => Z m_M_best 30 (qI Q) 170 [(0, .ref 58), (1, .int (nI m)), (2, .int (nI b)), (3, .int (nI (cG g n b))), (4, .int (nI S)), (5, .long (lN (orS g S r))), (7, .long (lN (orS h S r))), (9, .int (nI r))] [] w') (M := n) ?_ ?_ 0 (Nat.zero_le _) _ rfl
    · rintro w2 rfl
      refine vc_M_best_170 _ _ _ _ _ _ _ ⟨hl w2, hh.2, hh.1, ?_⟩
      rw [hn]
      refine ⟨fun _ => ⟨_, c_M_bits (d := 29) (lg S n), ?_⟩, fun g => absurd (mle (Nat.le_refl _)) g⟩
      rintro r w1 ⟨rfl, rfl⟩
      refine ⟨_, c_M_bits (d := 29) (lh S n), ?_⟩
      rintro r w2 ⟨rfl, rfl⟩
      have c1 := cG_le g n S
      have c2 := cG_le g n b
      have c3 := cG_le h n S
      have q1 := bc_le S
      have q2 := bc_le b
      have eS : nI (pcn 64 (orS g S n)) = nI (cG g n S) := rfl
      have eH : nI (pcn 64 (orS h S n)) = nI (cG h n S) := rfl
      rw [eS, eH]
      -- b stays
      have stay : (VS h n m S → ¬ Bt g n S b) → Z m_M_best 30 (qI Q) 145 [(0, .ref 58), (1, .int (nI m)), (2, .int (nI b)), (3, .int (nI (cG g n b))), (4, .int (nI S + nI 1))] [] w2 := fun no => by
        rw [nI_add]
        refine nx _ rfl b (by omega) v (fun T hT vT => ?_)
        by_cases e : T = S
        · subst e; exact Bte.of (no vT)
        · exact ha T (by omega) vT
      have take : VS h n m S → Bt g n S b → Z m_M_best 30 (qI Q) 145 [(0, .ref 58), (1, .int (nI m)), (2, .int (nI S)), (3, .int (nI (cG g n S))), (4, .int (nI S + nI 1))] [] w2 := fun vS yes => by
        rw [nI_add]
        refine nx _ rfl S (by omega) vS (fun T hT vT => ?_)
        by_cases e : T = S
        · exact Or.inl e.symm
        · exact Bte.tr (Or.inr yes) (ha T (by omega) vT)
      refine ⟨fun g1 => stay (fun vS => absurd (glt g1) (by unfold VS at vS; omega)), fun g1 => ?_⟩
      have vS : VS h n m S := nglt g1
      refine ⟨fun g2 => take vS (Or.inl (glt g2)), fun g2 => ⟨fun g3 => stay (fun _ x => ?_), fun g3 => ?_⟩⟩
      · have g2 := nglt g2
        have g3 : cG g n S ≠ cG g n b := fun x => g3 (by rw [x])
        unfold Bt at x
        omega
      have g3 := nI_inj (by omega) (by omega) g3
      rw [nI_long (by omega), nI_long (by omega)]
      have b12 : b < 2 ^ 12 := by omega
      have S12 : S < 2 ^ 12 := by omega
      refine ⟨_, c_M_bits (d := 29) (c := S) (by omega), ?_⟩
      rintro r w1 ⟨rfl, rfl⟩
      refine ⟨_, c_M_bits (d := 29) (c := b) (by omega), ?_⟩
      rintro r w2 ⟨rfl, rfl⟩
      rw [pcn_big (n := 64) S12 (by decide), pcn_big (n := 64) b12 (by decide), ← pcn_big (n := 32) S12 (by decide), ← pcn_big (n := 32) b12 (by decide)]
      have eb : nI (pcn 32 b) = nI (bc b) := rfl
      have es : nI (pcn 32 S) = nI (bc S) := rfl
      rw [eb, es]
      refine ⟨fun g4 => stay (fun _ x => ?_), fun g4 => take vS (Or.inr ⟨g3, Or.inl (ngle g4)⟩)⟩
      have g4 := gle g4
      unfold Bt at x
      omega
    · rintro r w2 hr rfl nr'
      refine vc_M_best_170 _ _ _ _ _ _ _ ⟨hl w2, hh.2, hh.1, ?_⟩
      rw [hn, bit1_nI (by omega) (by omega)]
      refine ⟨fun g => absurd (gle g) (by omega), fun _ => ⟨fun g1 => ⟨fun _ => ?_, fun g2 => absurd g2 g1⟩, fun g1 => ⟨r, rfl, by omega, fun g2 => absurd g1 g2, fun _ => ⟨r, rfl, by omega, ?_⟩⟩⟩⟩
      · have z := nr' w2 rfl
        rw [orS, orS, if_neg g1, if_neg g1, Nat.or_zero, Nat.or_zero] at z
        rw [lN_or0, lN_or0, nI_add]
        exact z
      · have z := nr' w2 rfl
        rw [orS, orS, if_pos g1, if_pos g1] at z
        rw [(t6 r hr).1, (t6 r hr).2, wb_or (by have := lg S r; omega) (by have := (t5 r).1; omega), wb_or (by have := lh S r; omega) (by have := (t5 r).2; omega), nI_add]
        exact z
  · intro T hT _
    exact Or.inl (by omega)
theorem c_M_best {w : Wd} (h : Inv w) (x : Int32) : EvI m_M_best 30 [.ref 58, .int (x)] w (fun r w' => Inv w' ∧ BA w x r) := by
  refine ev_M_best x (vc_M_best_0 x ⟨fun g => ⟨h.th _, Or.inl ⟨?_, rfl⟩⟩, fun g => ⟨fun g2 => ?_, fun g2 => ⟨h.th _, Or.inl ⟨?_, rfl⟩⟩⟩⟩)
  · have := lt0 g
    omega
  · have h0 := h.th (nI 0)
    refine ⟨_, c_findAll (d := 26) h0.1 h0.2.2.2.2.1.2, ?_⟩
    rintro w1 ⟨m1, a2, a3⟩
    have i1 := h0.rfr Fr.rf h0.2.2.1 m1 ⟨Or.inl a3, fun _ => a2⟩
    obtain ⟨m, m0, rfl, em⟩ := i_nat (nlt0 g)
    have m60 : m ≤ 60 := gle g2
    refine c_M_goods i1.1 i1.2.2.2.2.2.1 a2 ?_
    rintro ⟨p, q⟩ ⟨e1, e2, e3⟩
    have e1 : p = w1.1 := e1
    subst e1
    refine c_M_sets (w := (w1.1, q)) (g := gS w1) (h := hS w1) (n := nr w1) i1.1.2.2.1 i1.1.2.2.2.1.2.1 i1.1.2.2.2.1.1 m60 (gS_lt i1.2.2.2.2.2.1.1.1) e2 ?_
    intro b hb
    refine ⟨i1.kn (fun _ _ _ => rfl) (fun a ha => e3 a (by omega) (by omega)) i1.1, ?_⟩
    have mm : MFr w w1 := MFr.tr (MFr.up (by omega)) m1
    exact BA_mv (w := w) (w' := w1) (fun a k ha => mm.1 a k (by unfold KF at ha; omega) (by unfold KF at ha; omega)) (Or.inr ⟨m, b, m60, rfl, hb, rfl⟩)
  · rw [i_le, tn 60] at g2
    omega
theorem op_best {w : Wd} (h : Inv w) (x : Int32) : Op m_D_best m_M_best [.int x] w := by
  refine (c_D_best h x).imp ?_
  rintro r w1 ⟨i1, b1⟩
  refine (c_M_best i1 x).imp ?_
  rintro r2 w2 ⟨i2, b2⟩
  exact ⟨b2.one b1, i2⟩
