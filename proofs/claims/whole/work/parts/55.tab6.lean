/-! THE TABLE, of the reference: all of it -/
theorem O85.mf {w w' : Wd} (h : O85 w w') : MFr w w' := ⟨fun a k _ g2 => by rw [h.1 a (by omega)], h.2⟩
theorem lit102010 : (102010 : Int32) = nI 102010 := rfl
theorem BsN_O {w w' : Wd} (h : MFr w w') : Bs w' = Bs w ∧ Rw w' = Rw w := by
  have fR : Sa KR w w' := h.sm.sa (fun a k x => by unfold KR at x; unfold CFR; omega)
  have m := h.mf
  refine ⟨?_, funext fun r => funext fun a => funext fun b => propext (SemR.of fR r a b)⟩
  funext r a b
  unfold Bs
  rw [nmOf_mv2 (h.off (by decide) (by decide))]
  congr 1; funext s; congr 1; funext k; congr 1; funext l; congr 1; funext t
  rw [m.FndE, m.wrdE, m.wrdE, Brr.mv m (h.off (by decide) (by decide)) (h.off (by decide) (by decide)), show rl w' k = rl w k by show N w' 65 (12 * N w' 58 10 + k) = N w 65 (12 * N w 58 10 + k); rw [N_cg m.1, m.NE (by omega)]]
theorem c_M_findRows {d : Nat} {w : Wd} (hC : CtI w) (hR : w.1 58 34 = 0 → RF w) : EvV m_M_findRows (d + 4) [.ref 58] w (fun w' => MFr w w' ∧ RefI w' ∧ RB (Rw w) w') := by
  refine ev_M_findRows (vc_M_findRows_0 ⟨_, c_findAll (d := d) hC hR, ?_⟩)
  rintro w0 ⟨m0, rf, r34⟩
  have hC0 := m0.ct hC
  have hh := hC0.2.2.1
  have n12 := hC0.2.2.2.1.1
  have cm40 := hC0.2.1.2.2.1.1
  rw [← (BsN_O m0).2]
  -- all cells 0
  refine lpU (I := fun j w' => O85 w0 w' ∧ ∀ k, k < j → w'.1 85 k = nI 0) (G := fun j w' => Z m_M_findRows (d + 4) (qV (fun w' => MFr w w' ∧ RefI w' ∧ RB (Rw w0) w')) 6 [(0, .ref 58), (1, .int (nI j))] [] w') (M := 102010) ?_ ?_ 0 (Nat.zero_le _) w0 ⟨Of.rf, fun k hk => absurd hk (Nat.not_lt_zero _)⟩
  · rintro w1 ⟨j1, j2⟩
    refine vc_M_findRows_6 _ ⟨fun _ => ?_, fun g => absurd (by rw [lit102010]; exact mle (Nat.le_refl _)) g⟩
    have b0 : RB (BsN w0 0) w1 := fun r hr a ha b hb => by
      rw [j2 _ (by omega)]
      exact Bo.f (fun ⟨j, hj, _⟩ => absurd hj (Nat.not_lt_zero _))
    refine lpU (I := fun j w' => O85 w0 w' ∧ RB (BsN w0 j) w') (G := fun j w' => Z m_M_findRows (d + 4) (qV (fun w' => MFr w w' ∧ RefI w' ∧ RB (Rw w0) w')) 27 [(0, .ref 58), (1, .int (nI j))] [] w') (M := 122880) ?_ ?_ 0 (Nat.zero_le _) w1 ⟨j1, b0⟩
    · rintro w2 ⟨i1, i2⟩
      refine vc_M_findRows_27 _ ⟨fun _ => ?_, fun g => absurd (by rw [lit122880]; exact mle (Nat.le_refl _)) g⟩
      rw [BsN_all hC0] at i2
      refine c_M_chains (d := d + 3) hC0 (Bs.dm hC0) ?_ i1 i2
      intro w3 R g1 g2 g3 g4
      rw [g3.all g4] at g2
      have m3 := O85.mf g1
      refine ⟨m0.tr m3, ⟨Or.inl ?_, fun _ => rf.mv m3.mf (g1.1 82 (by decide))⟩, g2⟩
      rw [g1.1 58 (by decide)]
      exact r34
    · rintro j w2 hj ⟨i1, i2⟩ nx
      have m2 := O85.mf i1
      have hC2 := m2.ct hC0
      have skip : (fN w0 j = true → Brr w0 (j / 3072)) → Z m_M_findRows (d + 4) (qV (fun w' => MFr w w' ∧ RefI w' ∧ RB (Rw w0) w')) 27 [(0, .ref 58), (1, .int (nI j + nI 1))] [] w2 := fun no => by
        rw [nI_add]
        refine nx _ ⟨i1, ?_⟩
        rw [BsN_skip (c := j) (by omega)]
        · exact i2
        · intro j' h1 h2 h3
          have : j' = j := by omega
          subst this
          exact no h3
      refine vc_M_findRows_27 _ ⟨fun g => absurd (by rw [lit122880] at g; exact gle g) (by omega), fun _ => ⟨j, rfl, hj, fun g => skip (fun x => ?_), fun g => ⟨by decide, ?_⟩⟩⟩
      · rw [i1.1 82 (by decide)] at g
        rw [rf.z hj g] at x
        exact absurd x (by decide)
      · rw [i1.1 82 (by decide)] at g
        have hf := rf.n hj g
        have hF := (fN_iff w0 j).mp hf
        obtain ⟨s1, s2, s3, s4⟩ := hF.in hC0
        rw [div_nI]
        refine ⟨_, c_M_isBarred (d := d + 3) hC2 (s := j / 3072) (by rw [m2.mf.cmE]; exact s1), ?_⟩
        rintro y w3 ⟨rfl, hy⟩
        rw [Brr.mv m2.mf (m2.off (by decide) (by decide)) (m2.off (by decide) (by decide))] at hy
        refine ⟨fun g2 => skip (fun _ => hy.n g2), fun g2 => ?_⟩
        obtain ⟨u1, u2, u3, -⟩ := hC0.2.1.2.2.2.2.1 _ s1 _ s3
        obtain ⟨v1, v2, v3, -⟩ := hC0.2.1.2.2.2.2.1 _ s1 _ s4
        have x1 := nm_ok hC0.1 u1 u2
        have x2 := nm_ok hC0.1 v1 v2
        have enm : nmOf w3 = nmOf w0 := nmOf_mv2 (i1.1 77 (by decide))
        refine ⟨by decide, by decide, by decide, 16 * (j / 3072) + j / 16 % 16, by rw [div_nI, mod_nI, pk_mul, nI_add], by omega, ?_⟩
        rw [i1.1 80 (by decide), u3]
        refine ⟨_, c_M_nameOf (d := d + 3) hC2.1 u1 u2, ?_⟩
        rintro y w4 ⟨rfl, rfl⟩
        refine ⟨by decide, 16 * (j / 3072) + j % 16, by rw [mod_nI, pk_mul, nI_add], by omega, ?_⟩
        rw [i1.1 80 (by decide), v3]
        refine ⟨_, c_M_nameOf (d := d + 3) hC2.1 v1 v2, ?_⟩
        rintro y w3 ⟨rfl, rfl⟩
        rw [enm]
        obtain ⟨r1, r2, -⟩ := (hC0.2.2.2.2.1 _ s2).1
        refine ⟨by decide, by decide, 12 * hl w0 + j / 256 % 12, by rw [i1.1 58 (by decide), hh.2, div_nI, mod_nI, pk_mul, nI_add], by omega, 10201 * rl w0 (j / 256 % 12) + 101 * nmOf w0 (wrd w0 (j / 3072) (j / 16 % 16)) + nmOf w0 (wrd w0 (j / 3072) (j % 16)), ?_, by omega, Or.inr rfl, ?_⟩
        · rw [i1.1 65 (by decide), r2, pk_mul, pk_mul, nI_add, nI_add]
        · rw [nI_add]
          refine nx _ ⟨i1.tr (Of.up rfl), ?_⟩
          rw [BsN_add hf (hy.z g2)]
          exact i2.ad x1.2 x2.2
  · rintro j w1 hj ⟨j1, j2⟩ nj
    refine vc_M_findRows_6 _ ⟨fun g => absurd (by rw [lit102010] at g; exact gle g) (by omega), fun _ => ⟨j, rfl, hj, Or.inl rfl, ?_⟩⟩
    rw [nI_add]
    refine nj _ ⟨j1.tr (Of.up rfl), fun k hk => ?_⟩
    rw [up1_1]
    by_cases e : k = j
    · rw [if_pos ⟨rfl, e⟩]
    · rw [if_neg (fun x => e x.2)]; exact j2 k (by omega)
