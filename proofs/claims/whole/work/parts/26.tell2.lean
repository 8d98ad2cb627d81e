/-! the i-th find, by the class -/
theorem ct_succ_t {p : Nat → Bool} {k : Nat} (h : p k = true) : ct p (k + 1) = ct p k + 1 := by rw [ct, h]; rfl
theorem ct_succ_f {p : Nat → Bool} {k : Nat} (h : p k = false) : ct p (k + 1) = ct p k := by rw [ct, h]; rfl
theorem nf_step (w : Wd) (i : Nat) : ct (fN w) (256 * (i + 1)) = ct (fN w) (256 * i) + nf w i := by
  rw [show 256 * (i + 1) = 256 * i + 256 by omega, ct_add]
  unfold nf
  rw [Nat.mul_comm 256 i]
theorem z_tellWithin {d : Nat} {w : Wd} {Q : Int32 → Wd → Prop} (h : FF w) {s k i : Nat} (hs : s < cm w) (hk : k < 12) (hi : i < nf w (12 * s + k)) (x : Int32) (hq : ∀ j, j < 256 * (12 * s + k) + 256 → fN w j = true → ct (fN w) j = ct (fN w) (256 * (12 * s + k)) + i → Q (prt w x j) w) : EvI m_Finder_tellWithin (d + 3) [.ref 36, .int (nI s), .int (nI k), .int (nI i), .int x] w Q := by
  have h40 := (h.1.l hs).2.2
  have hle := nf_le w (12 * s + k)
  have hend : ct (fN w) (256 * (12 * s + k) + 16 * 16) = ct (fN w) (256 * (12 * s + k)) + nf w (12 * s + k) := nf_step w (12 * s + k)
  refine ev_Finder_tellWithin _ _ _ _ (vc_Finder_tellWithin_0 _ _ _ _ ?_)
  have key : ∀ l, l ≤ 16 → ∀ w', (w' = w ∧ ct (fN w) (256 * (12 * s + k) + 16 * l) ≤ ct (fN w) (256 * (12 * s + k)) + i) → Z m_Finder_tellWithin (d + 3) (qI Q) 6 [(0, .ref 36), (1, .int (nI s)), (2, .int (nI k)), (3, .int (nI i)), (4, .int x), (5, .int (nI (ct (fN w) (256 * (12 * s + k)) + i - ct (fN w) (256 * (12 * s + k) + 16 * l)))), (6, .int (nI l))] [] w' := by
    refine lpU (I := fun l w' => w' = w ∧ ct (fN w) (256 * (12 * s + k) + 16 * l) ≤ ct (fN w) (256 * (12 * s + k)) + i) (G := fun l w' => Z m_Finder_tellWithin (d + 3) (qI Q) 6 [(0, .ref 36), (1, .int (nI s)), (2, .int (nI k)), (3, .int (nI i)), (4, .int x), (5, .int (nI (ct (fN w) (256 * (12 * s + k)) + i - ct (fN w) (256 * (12 * s + k) + 16 * l)))), (6, .int (nI l))] [] w') (M := 16) ?_ ?_
    · rintro w1 ⟨rfl, hc⟩
      omega
    · rintro l w1 hl ⟨rfl, hc⟩ nx
      refine vc_Finder_tellWithin_6 _ _ _ _ _ _ ⟨fun g => absurd (gle g) (by omega), fun _ => ?_⟩
      refine lpU (I := fun t w' => w' = w1 ∧ ct (fN w1) (256 * (12 * s + k) + 16 * l + t) ≤ ct (fN w1) (256 * (12 * s + k)) + i) (G := fun t w' => Z m_Finder_tellWithin (d + 3) (qI Q) 16 [(0, .ref 36), (1, .int (nI s)), (2, .int (nI k)), (3, .int (nI i)), (4, .int x), (5, .int (nI (ct (fN w1) (256 * (12 * s + k)) + i - ct (fN w1) (256 * (12 * s + k) + 16 * l + t)))), (6, .int (nI l)), (7, .int (nI t))] [] w') (M := 16) ?_ ?_ 0 (Nat.zero_le _) w1 ⟨rfl, hc⟩
      · rintro w2 ⟨rfl, hc2⟩
        refine vc_Finder_tellWithin_16 _ _ _ _ _ _ _ ⟨fun _ => ?_, fun g => absurd (mle (Nat.le_refl _)) g⟩
        rw [nI_add]
        exact nx w2 ⟨rfl, hc2⟩
      · rintro t w2 ht ⟨rfl, hc2⟩ nt
        refine vc_Finder_tellWithin_16 _ _ _ _ _ _ _ ⟨fun g => absurd (gle g) (by omega), fun _ => ⟨_, c_Finder_has (d := d + 1) h hs hk hl ht, ?_⟩⟩
        rintro r w3 ⟨rfl, hr⟩
        have hm := ct_mono (p := fN w3) (show 256 * (12 * s + k) ≤ 256 * (12 * s + k) + 16 * l + t by omega)
        rw [nI_add]
        refine ⟨fun g => ?_, fun g => ?_⟩
        · have hf : fN w3 (256 * (12 * s + k) + 16 * l + t) = false := by
            cases e : fN w3 (256 * (12 * s + k) + 16 * l + t) with
            | false => rfl
            | true => exact absurd ((fN_at w3 hk hl ht).mp e) (hr.z g)
          have e := ct_succ_f hf
          rw [← e]
          exact nt w3 ⟨rfl, by rw [← Nat.add_assoc, e]; exact hc2⟩
        · have hf := (fN_at w3 hk hl ht).mpr (hr.n g)
          have e := ct_succ_t hf
          refine ⟨fun g2 => ?_, fun g2 => ⟨_, c_Finder_part (d := d) h (hr.n g) x, ?_⟩⟩
          · have h1 : 1 ≤ ct (fN w3) (256 * (12 * s + k)) + i - ct (fN w3) (256 * (12 * s + k) + 16 * l + t) := by
              refine Nat.pos_of_ne_zero (fun e => g2 ?_)
              rw [e]; rfl
            rw [add_m1 h1, show ct (fN w3) (256 * (12 * s + k)) + i - ct (fN w3) (256 * (12 * s + k) + 16 * l + t) - 1 = ct (fN w3) (256 * (12 * s + k)) + i - ct (fN w3) (256 * (12 * s + k) + 16 * l + (t + 1)) by rw [← Nat.add_assoc, e]; omega]
            exact nt w3 ⟨rfl, by rw [← Nat.add_assoc, e]; omega⟩
          · rintro r2 w4 ⟨rfl, rfl⟩
            refine hq _ (by omega) hf ?_
            have := nI_inj (b := 0) (by omega) (by omega) g2
            omega
  have := key 0 (Nat.zero_le _) w ⟨rfl, by show ct (fN w) (256 * (12 * s + k)) ≤ _; omega⟩
  rw [show ct (fN w) (256 * (12 * s + k)) + i - ct (fN w) (256 * (12 * s + k) + 16 * 0) = i by show ct (fN w) (256 * (12 * s + k)) + i - ct (fN w) (256 * (12 * s + k)) = i; omega] at this
  exact this
theorem z_tellOf {d : Nat} {w : Wd} {Q : Int32 → Wd → Prop} (h : FF w) (x y : Int32) (hq : ∀ r, Nth (fN w) 122880 x (prt w y) r → Q r w) : EvI m_Finder_tellOf (d + 4) [.ref 36, .int x, .int y] w Q := by
  have hcm : cm w ≤ 40 := h.1.2.1.2.2.1.1
  refine ev_Finder_tellOf _ _ (vc_Finder_tellOf_0 _ _ ⟨fun g => ?_, fun g => hq _ (Or.inr ⟨fun k hk hf e => g ?_, rfl⟩)⟩)
  · obtain ⟨n, hn, rfl, -⟩ := i_nat (x := x) (by rw [i_le, i_z] at g; exact g)
    refine lpU (I := fun s w' => w' = w ∧ ct (fN w) (256 * (12 * s)) ≤ n) (G := fun s w' => Z m_Finder_tellOf (d + 4) (qI Q) 11 [(0, .ref 36), (1, .int (nI n)), (2, .int y), (3, .int (nI (n - ct (fN w) (256 * (12 * s))))), (4, .int (nI s))] [] w') (M := cm w) ?_ ?_ 0 (Nat.zero_le _) w ⟨rfl, Nat.zero_le _⟩
    · rintro w1 ⟨rfl, hc⟩
      refine vc_Finder_tellOf_11 _ _ _ _ ⟨_, c_came h.1.2.1, ?_⟩
      rintro r w2 ⟨rfl, rfl⟩
      refine ⟨fun _ => hq _ (Or.inr ⟨fun k hk hf e => ?_, rfl⟩), fun g => absurd (mle (Nat.le_refl _)) g⟩
      have h1 := ((fN_iff w2 k).mp hf).1
      have h2 := ct_mono (p := fN w2) (show k + 1 ≤ 256 * (12 * cm w2) by omega)
      rw [ct_succ_t hf] at h2
      have h3 := ct_le (fN w2) k
      have := nI_inj hn (by omega) e
      omega
    · rintro s w1 hs ⟨rfl, hc⟩ nx
      refine vc_Finder_tellOf_11 _ _ _ _ ⟨_, c_came h.1.2.1, ?_⟩
      rintro r w2 ⟨rfl, rfl⟩
      refine ⟨fun g => absurd (gle g) (by omega), fun _ => ⟨fun g => absurd (gle g) (by omega), fun _ => ?_⟩⟩
      refine lpU (I := fun k w' => w' = w2 ∧ ct (fN w2) (256 * (12 * s + k)) ≤ n) (G := fun k w' => Z m_Finder_tellOf (d + 4) (qI Q) 33 [(0, .ref 36), (1, .int (nI n)), (2, .int y), (3, .int (nI (n - ct (fN w2) (256 * (12 * s + k))))), (4, .int (nI s)), (5, .int (nI k))] [] w') (M := 12) ?_ ?_ 0 (Nat.zero_le _) w2 ⟨rfl, hc⟩
      · rintro w3 ⟨rfl, hc3⟩
        refine vc_Finder_tellOf_33 _ _ _ _ _ ⟨fun _ => ?_, fun g => absurd (mle (Nat.le_refl _)) g⟩
        rw [nI_add]
        exact nx w3 ⟨rfl, hc3⟩
      · rintro k w3 hk ⟨rfl, hc3⟩ nk
        refine vc_Finder_tellOf_33 _ _ _ _ _ ⟨fun g => absurd (gle g) (by omega), fun _ => ⟨s * 12 + k, by rw [pk_mul, nI_add], by omega, ?_⟩⟩
        have hle := nf_le w3 (12 * s + k)
        have hst := nf_step w3 (12 * s + k)
        rw [h.c38 hs hk]
        refine ⟨fun g => ?_, fun g => ⟨_, z_tellWithin (d := d) (i := n - ct (fN w3) (256 * (12 * s + k))) (Q := Q) h hs hk (ngle g) y (fun j h1 h2 h3 => hq _ (Or.inl ⟨j, by omega, h2, ?_, rfl⟩)), fun r w' hr => hr⟩⟩
        · have g := gle g
          rw [sub_nI g, nI_add, show n - ct (fN w3) (256 * (12 * s + k)) - nf w3 (12 * s + k) = n - ct (fN w3) (256 * (12 * s + (k + 1))) by rw [← Nat.add_assoc, hst]; omega]
          exact nk w3 ⟨rfl, by rw [← Nat.add_assoc, hst]; omega⟩
        · rw [h3]
          congr 1
          omega
  · rw [e, i_le, i_z, nI_toInt (by have := ct_le (fN w) k; omega)]
    omega
