/-! the reference: all finds, and what it tells of them -/
def MFr (w w' : Wd) : Prop := (∀ a k, ¬ (a = 58 ∧ (k = 0 ∨ k = 34)) → ¬ (82 ≤ a ∧ a ≤ 85) → w'.1 a k = w.1 a k) ∧ w'.2 = w.2
theorem MFr.rf {w : Wd} : MFr w w := ⟨fun _ _ _ _ => rfl, rfl⟩
theorem MFr.tr {w w1 w2 : Wd} (h : MFr w w1) (h2 : MFr w1 w2) : MFr w w2 := ⟨fun a k g1 g2 => (h2.1 a k g1 g2).trans (h.1 a k g1 g2), h2.2.trans h.2⟩
theorem MFr.up {w : Wd} {a k : Nat} {v : Int32} (h : (a = 58 ∧ (k = 0 ∨ k = 34)) ∨ (82 ≤ a ∧ a ≤ 85)) : MFr w (up1 w a k v) := ⟨fun b j g1 g2 => by
  rw [up1_1, if_neg (fun e => by rw [e.1, e.2] at g1; rw [e.1] at g2; exact h.elim g1 g2)], rfl⟩
theorem MFr.off {w w' : Wd} (h : MFr w w') {a : Nat} (h1 : a ≠ 58) (h2 : ¬ (82 ≤ a ∧ a ≤ 85)) : w'.1 a = w.1 a := funext fun k => h.1 a k (fun e => h1 e.1) h2
theorem MFr.mf {w w' : Wd} (h : MFr w w') : Mf w w' := ⟨h.1 58 10 (by omega) (by omega), h.1 58 30 (by omega) (by omega), fun a ha => h.off (by omega) (by omega)⟩
theorem MFr.ct {w w' : Wd} (h : MFr w w') (hC : CtI w) : CtI w' :=
  ⟨hC.1.mv (h.off (by omega) (by omega)) (h.off (by omega) (by omega)) (h.off (by omega) (by omega)) (h.off (by omega) (by omega)),
   hC.2.1.mv (h.1 58 28 (by omega) (by omega)) (h.1 58 30 (by omega) (by omega)) (h.off (by omega) (by omega)) (h.off (by omega) (by omega)) (h.off (by omega) (by omega)) (h.off (by omega) (by omega)) (h.off (by omega) (by omega)) (h.off (by omega) (by omega)) (h.off (by omega) (by omega)) (h.off (by omega) (by omega)) (h.off (by omega) (by omega)),
   hC.2.2.mv (h.1 58 10 (by omega) (by omega)) (h.1 25 0 (by omega) (by omega)) (h.1 25 7 (by omega) (by omega)) (h.1 25 9 (by omega) (by omega)) (h.1 25 13 (by omega) (by omega)) (fun a ha => h.off (by omega) (by omega))⟩
theorem A3.fr {w w' : Wd} (h : Of A3 w w') : MFr w w' := ⟨fun a k _ g2 => by rw [h.1 a (by unfold A3; omega)], h.2⟩
theorem lit122880 : (122880 : Int32) = nI 122880 := rfl
/-- the reference's row of finds is right -/
def RF (w : Wd) : Prop := BS w 82 122880 (fun k => fN w k = true)
theorem RF.mv {w w' : Wd} (h : RF w) (m : Mf w w') (e : w'.1 82 = w.1 82) : RF w' := by
  unfold RF
  rw [m.fNE]
  exact BS.mv h e
theorem Mt_iff {w : Wd} {s r : Nat} (hs : s < cm w) (ht : thr w s) (hr : r < nr w) (hr12 : r < 12) (k : Nat) : Mt w s r k ↔ fN w k = true ∧ 3072 * s + 256 * r ≤ k ∧ k < 3072 * s + 256 * r + 256 := by
  constructor
  · rintro ⟨l, t, a, b, rfl, p, h⟩
    exact ⟨(fN_at w hr12 a b).mpr ⟨hs, ht, hr, a, b, p, h⟩, by omega, by omega⟩
  · rintro ⟨h, a, b⟩
    rw [fN_iff, show k / 3072 = s by omega, show k / 256 % 12 = r by omega] at h
    obtain ⟨-, -, -, c, e, p, h⟩ := h
    exact ⟨_, _, c, e, by omega, p, h⟩
theorem h256 (k s r : Nat) : ((k < 3072 * s + 256 * r ∨ (3072 * s + 256 * r ≤ k ∧ k < 3072 * s + 256 * r + 256)) → k < 3072 * s + 256 * (r + 1)) ∧ (k < 3072 * s + 256 * (r + 1) → (k < 3072 * s + 256 * r ∨ (3072 * s + 256 * r ≤ k ∧ k < 3072 * s + 256 * r + 256))) := by
  constructor <;> intro h <;> omega
theorem z_findAll {d : Nat} {w0 : Wd} {Q : Wd → Prop} (hC : CtI w0) (hq : ∀ w', MFr w0 w' → RF w' → w'.1 58 34 = 0 → w'.1 58 0 = w0.1 58 0 → Q w') : EvV m_M_findAll (d + 3) [.ref 58] w0 Q ∨ w0.1 58 34 = 0 := by
  by_cases ho : w0.1 58 34 = 0
  · exact Or.inr ho
  refine Or.inl (ev_M_findAll (vc_M_findAll_0 ⟨fun _ => ?_, fun g => absurd g ho⟩))
  have hcm := hC.2.1.2.2.1.1
  have hcm2 := hC.2.1.2.2.1.2.1
  have hnr := hC.2.2.2.1.1
  have hnr2 := hC.2.2.2.1.2.1
  have hh := hC.2.2.1
  refine lpU (I := fun j w' => Of A3 w0 w' ∧ ∀ k, k < j → w'.1 82 k = nI 0) (G := fun j w' => Z m_M_findAll (d + 3) (qV Q) 10 [(0, .ref 58), (1, .int (nI j))] [] w') (M := 122880) ?_ ?_ 0 (Nat.zero_le _) w0 ⟨Of.rf, fun k hk => absurd hk (Nat.not_lt_zero _)⟩
  · rintro w1 ⟨j1, j2⟩
    refine vc_M_findAll_10 _ ⟨fun _ => ?_, fun g => absurd (by rw [lit122880]; exact mle (Nat.le_refl _)) g⟩
    let S : Nat → Nat → Prop := fun c k => fN w0 k = true ∧ k < c
    refine lpU (I := fun s w' => Of A3 w0 w' ∧ BS w' 82 122880 (S (3072 * s))) (G := fun s w' => Z m_M_findAll (d + 3) (qV Q) 31 [(0, .ref 58), (1, .int (nI s))] [] w') (M := cm w0) ?_ ?_ 0 (Nat.zero_le _) w1 ⟨j1, (BS.zer j2).cg (fun k _ => ⟨False.elim, fun h => absurd h.2 (by omega)⟩)⟩
    · rintro w2 ⟨k1, k2⟩
      refine vc_M_findAll_31 _ ?_
      rw [k1.1 58 (by unfold A3; omega), hcm2]
      refine ⟨fun _ => ⟨Or.inl rfl, ?_⟩, fun g => absurd (mle (Nat.le_refl _)) g⟩
      have m : MFr w0 (up1 w2 58 34 (nI 0)) := (A3.fr k1).tr (MFr.up (by omega))
      refine hq _ m ?_ ?_ (by show w2.1 58 0 = _; rw [k1.1 58 (by unfold A3; omega)])
      · unfold RF
        rw [m.mf.fNE]
        refine BS.mv (w := w2) (k2.cg (fun k _ => ⟨fun h => h.1, fun h => ⟨h, ?_⟩⟩)) (up1_off 82 (by decide))
        have := ((fN_iff w0 k).mp h).1
        omega
      · rw [up1_1, if_pos ⟨rfl, rfl⟩]; rfl
    · rintro s w2 hs ⟨k1, k2⟩ ns
      refine vc_M_findAll_31 _ ?_
      rw [k1.1 58 (by unfold A3; omega), hcm2]
      refine ⟨fun g => absurd (gle g) (by omega), fun _ => ?_⟩
      -- from here on nothing more of sentence s
      have skip : ∀ c w', c ≤ 3072 * (s + 1) → 3072 * s ≤ c → Of A3 w0 w' → BS w' 82 122880 (S c) → (∀ k, fN w0 k = true → k / 3072 = s → k < c) → Z m_M_findAll (d + 3) (qV Q) 31 [(0, .ref 58), (1, .int (nI s + nI 1))] [] w' := by
        intro c w' hc hc2 a b hno
        rw [nI_add]
        refine ns w' ⟨a, b.cg (fun k _ => ⟨fun h => ⟨h.1, by have := h.2; omega⟩, fun h => ⟨h.1, ?_⟩⟩)⟩
        by_cases e : k / 3072 = s
        · exact hno k h.1 e
        · have := h.2; omega
      refine lpU (I := fun r w' => Of A3 w0 w' ∧ BS w' 82 122880 (S (3072 * s + 256 * r))) (G := fun r w' => Z m_M_findAll (d + 3) (qV Q) 41 [(0, .ref 58), (1, .int (nI s)), (2, .int (nI r))] [] w') (M := nr w0) ?_ ?_ 0 (Nat.zero_le _) w2 ⟨k1, k2⟩
      · rintro w3 ⟨q1, q2⟩
        refine vc_M_findAll_41 _ _ ⟨hl w0, by rw [q1.1 58 (by unfold A3; omega)]; exact hh.2, hh.1, ?_⟩
        rw [q1.1 64 (by unfold A3; omega), hnr2]
        refine ⟨fun _ => skip _ w3 (by omega) (by omega) q1 q2 (fun k hf hk => ?_), fun g => absurd (mle (Nat.le_refl _)) g⟩
        have := ((fN_iff w0 k).mp hf).2.2.1
        omega
      · rintro r w3 hr ⟨q1, q2⟩ nr'
        have m3 := A3.mf q1
        refine vc_M_findAll_41 _ _ ⟨hl w0, by rw [q1.1 58 (by unfold A3; omega)]; exact hh.2, hh.1, ?_⟩
        rw [q1.1 64 (by unfold A3; omega), hnr2, q1.1 81 (by unfold A3; omega)]
        refine ⟨fun g => absurd (gle g) (by omega), fun _ => ⟨s, rfl, by omega, fun g => skip _ w3 (by omega) (by omega) q1 q2 (fun k hf hk => ?_), fun g => ⟨_, c_matches (d := d) (A3.ct hC q1) (by rw [m3.cmE]; exact hs) (by rw [m3.nrE]; exact hr) q2, ?_⟩⟩⟩
        · have := ((fN_iff w0 k).mp hf).2.1
          rw [hk] at this
          exact absurd this g
        · rintro w4 ⟨u1, u2⟩
          rw [nI_add]
          refine nr' w4 ⟨q1.tr u1, u2.cg (fun k _ => ?_)⟩
          rw [Mt_iff (by rw [m3.cmE]; exact hs) (by show w3.1 81 s = 0; rw [q1.1 81 (by unfold A3; omega)]; exact g) (by rw [m3.nrE]; exact hr) (by omega), m3.fNE]
          constructor
          · rintro (⟨a, b⟩ | ⟨a, b, c⟩)
            · exact ⟨a, (h256 k s r).1 (Or.inl b)⟩
            · exact ⟨a, (h256 k s r).1 (Or.inr ⟨b, c⟩)⟩
          · rintro ⟨a, b⟩
            exact ((h256 k s r).2 b).imp (fun e => ⟨a, e⟩) (fun e => ⟨a, e⟩)
  · rintro j w1 hj ⟨j1, j2⟩ nj
    refine vc_M_findAll_10 _ ⟨fun g => absurd (by rw [lit122880] at g; exact gle g) (by omega), fun _ => ⟨j, rfl, hj, Or.inl rfl, ?_⟩⟩
    rw [nI_add]
    refine nj _ ⟨j1.tr (Of.up (Or.inl rfl)), fun k hk => ?_⟩
    rw [up1_1]
    by_cases e : k = j
    · rw [if_pos ⟨rfl, e⟩]
    · rw [if_neg (fun x => e x.2)]; exact j2 k (by omega)
theorem c_findAll {d : Nat} {w : Wd} (hC : CtI w) (hR : w.1 58 34 = 0 → RF w) : EvV m_M_findAll (d + 3) [.ref 58] w (fun w' => MFr w w' ∧ RF w' ∧ w'.1 58 34 = 0) := by
  rcases z_findAll (d := d) hC (Q := fun w' => MFr w w' ∧ RF w' ∧ w'.1 58 34 = 0) (fun w' a b c _ => ⟨a, b, c⟩) with h | h
  · exact h
  · exact ev_M_findAll (vc_M_findAll_0 ⟨fun g => absurd h g, fun _ => ⟨MFr.rf, hR h, h⟩⟩)
theorem c_findAll0 {d : Nat} {w : Wd} (hC : CtI w) (hR : w.1 58 34 = 0 → RF w) : EvV m_M_findAll (d + 3) [.ref 58] w (fun w' => MFr w w' ∧ RF w' ∧ w'.1 58 34 = 0 ∧ w'.1 58 0 = w.1 58 0) := by
  rcases z_findAll (d := d) hC (Q := fun w' => MFr w w' ∧ RF w' ∧ w'.1 58 34 = 0 ∧ w'.1 58 0 = w.1 58 0) (fun w' a b c e => ⟨a, b, c, e⟩) with h | h
  · exact h
  · exact ev_M_findAll (vc_M_findAll_0 ⟨fun g => absurd h g, fun _ => ⟨MFr.rf, hR h, h, rfl⟩⟩)
theorem c_M_isBarred {d : Nat} {w : Wd} (hC : CtI w) {s : Nat} (hs : s < cm w) : EvI m_M_isBarred d [.ref 58, .int (nI s)] w (fun r w' => w' = w ∧ Bo (Brr w s) r) := by
  obtain ⟨l1, l2, l3⟩ := hC.l hs
  have hlen : w.1 79 s = nI (len w s) := (hC.2.1.2.2.2.1 s hs).2.2.1
  have hh := hC.2.2.1
  obtain ⟨hb1, hb2, -⟩ := hC.2.2.2.2.2.1
  have hword : ∀ p, p < len w s → w.1 80 (16 * s + p) = nI (wrd w s p) := fun p hp => (hC.2.1.2.2.2.2.1 s hs p hp).2.2.1
  refine ev_M_isBarred _ (vc_M_isBarred_0 _ ?_)
  rw [pk_mul]
  refine lpU (I := fun p w' => w' = w) (G := fun p w' => ∀ x2, Bo (∃ p', p' < p ∧ brd w (nI (wrd w s p'))) x2 → Z m_M_isBarred d (qI (fun r w' => w' = w ∧ Bo (Brr w s) r)) 7 [(0, .ref 58), (1, .int (nI s)), (2, .int (x2)), (3, .int (nI (16 * s + p)))] [] w') (M := len w s) ?_ ?_ 0 (Nat.zero_le _) w rfl 0 (Bo.f (fun ⟨p', h, _⟩ => absurd h (Nat.not_lt_zero _)))
  · rintro w1 rfl x2 hx
    refine vc_M_isBarred_7 _ _ _ ⟨s, rfl, l3, ?_⟩
    rw [hlen, pk_mul, nI_add]
    exact ⟨fun _ => ⟨hx.r, rfl, hx⟩, fun g => absurd (mle (Nat.le_refl _)) g⟩
  · rintro p w1 hp rfl nx x2 hx
    refine vc_M_isBarred_7 _ _ _ ⟨s, rfl, l3, ?_⟩
    rw [hlen, pk_mul, nI_add]
    refine ⟨fun g => absurd (gle g) (by omega), fun _ => ?_⟩
    rw [hh.2, pk_mul]
    refine lpU (I := fun b w' => w' = w1) (G := fun b w' => ∀ x2, Bo ((∃ p', p' < p ∧ brd w1 (nI (wrd w1 s p'))) ∨ ∃ b', b' < b ∧ w1.1 72 (10 * hl w1 + b') = nI (wrd w1 s p)) x2 → Z m_M_isBarred d (qI (fun r w' => w' = w1 ∧ Bo (Brr w1 s) r)) 31 [(0, .ref 58), (1, .int (nI s)), (2, .int (x2)), (3, .int (nI (16 * s + p))), (4, .int (nI (10 * hl w1 + b)))] [] w') (M := nbr w1) ?_ ?_ 0 (Nat.zero_le _) w1 rfl x2 (hx.imp ⟨Or.inl, fun e => e.elim id (fun ⟨b', h, _⟩ => absurd h (Nat.not_lt_zero _))⟩)
    · rintro w2 rfl x3 hx3
      refine vc_M_isBarred_31 _ _ _ _ ⟨hl w2, hh.2, hh.1, ?_⟩
      rw [hh.2, hb2, pk_mul, nI_add, nI_add]
      refine ⟨fun _ => nx w2 rfl x3 (hx3.imp ?_), fun g => absurd (mle (Nat.le_refl _)) g⟩
      constructor
      · rintro (⟨p', a, b⟩ | ⟨b', a, b⟩)
        · exact ⟨p', by omega, b⟩
        · exact ⟨p, by omega, b', a, b⟩
      · rintro ⟨p', a, b⟩
        by_cases e : p' = p
        · subst e; exact Or.inr b
        · exact Or.inl ⟨p', by omega, b⟩
    · rintro b w2 hb rfl nb x3 hx3
      refine vc_M_isBarred_31 _ _ _ _ ⟨hl w2, hh.2, hh.1, ?_⟩
      rw [hh.2, hb2, pk_mul, nI_add, nI_add, nI_add]
      refine ⟨fun g => absurd (gle g) (by omega), fun _ => ⟨fun g => nb w2 rfl _ (Bo.t ?_), fun g => ⟨10 * hl w2 + b, rfl, by omega, 16 * s + p, rfl, by omega, ?_⟩⟩⟩
      · rcases hx3.n g with a | ⟨b', a, c⟩
        · exact Or.inl a
        · exact Or.inr ⟨b', by omega, c⟩
      · rw [hword p hp]
        refine ⟨fun g2 => nb w2 rfl _ (Bo.f ?_), fun g2 => nb w2 rfl _ (Bo.t (Or.inr ⟨b, by omega, g2⟩))⟩
        rintro (a | ⟨b', a, c⟩)
        · exact hx3.z g (Or.inl a)
        · by_cases e : b' = b
          · subst e; exact g2 c
          · exact hx3.z g (Or.inr ⟨b', by omega, c⟩)
/-- 1 for true -/
def b1 (b : Bool) : Nat := if b then 1 else 0
theorem ct_b1 (p : Nat → Bool) (n : Nat) : ct p (n + 1) = ct p n + b1 (p n) := rfl
theorem RF.z {w : Wd} (h : RF w) {k : Nat} (hk : k < 122880) (g : w.1 82 k = 0) : fN w k = false := by
  cases e : fN w k with
  | false => rfl
  | true => exact absurd e ((h k hk).z g)
theorem RF.n {w : Wd} (h : RF w) {k : Nat} (hk : k < 122880) (g : ¬ w.1 82 k = 0) : fN w k = true := (h k hk).n g
def RF0 (w : Wd) : Prop := RF w ∧ w.1 58 34 = 0
theorem c_M_finds {d : Nat} {w : Wd} (hC : CtI w) (hR : w.1 58 34 = 0 → RF w) : EvI m_M_finds (d + 4) [.ref 58] w (fun r w' => MFr w w' ∧ RF0 w' ∧ r = nI (ct (fN w) 122880)) := by
  have m0 : MFr w (up1 w 58 0 (nI 0)) := MFr.up (by omega)
  refine ev_M_finds (vc_M_finds_0 ⟨_, c_findAll (d := d) (m0.ct hC) (fun g => (hR g).mv m0.mf (up1_off 82 (by decide))), ?_⟩)
  rintro w1 ⟨a1, a2, a3⟩
  have m1 := m0.tr a1
  have e : fN w = fN w1 := m1.mf.fNE.symm
  rw [e]
  refine lpU (I := fun k w' => w' = w1) (G := fun k w' => Z m_M_finds (d + 4) (qI (fun r w' => MFr w w' ∧ RF0 w' ∧ r = nI (ct (fN w1) 122880))) 13 [(0, .ref 58), (1, .int (nI (ct (fN w1) k))), (2, .int (nI k))] [] w') (M := 122880) ?_ ?_ 0 (Nat.zero_le _) w1 rfl
  · rintro w2 rfl
    exact vc_M_finds_13 _ _ ⟨fun _ => ⟨m1, ⟨a2, a3⟩, rfl⟩, fun g => absurd (by rw [lit122880]; exact mle (Nat.le_refl _)) g⟩
  · rintro k w2 hk rfl nk
    refine vc_M_finds_13 _ _ ⟨fun g => absurd (by rw [lit122880] at g; exact gle g) (by omega), fun _ => ⟨k, rfl, hk, fun g => ?_, fun g => ?_⟩⟩
    · rw [nI_add, nI_add, Nat.add_zero, ← ct_succ_f (a2.z hk g)]
      exact nk w2 rfl
    · rw [nI_add, nI_add, ← ct_succ_t (a2.n hk g)]
      exact nk w2 rfl
theorem c_M_find {d : Nat} {w : Wd} (hC : CtI w) (hR : w.1 58 34 = 0 → RF w) (x y : Int32) : EvI m_M_find (d + 4) [.ref 58, .int (x), .int (y)] w (fun r w' => MFr w w' ∧ RF0 w' ∧ Nth (fN w) 122880 x (prt w y) r) := by
  have m0 : MFr w (up1 w 58 0 (nI 0)) := MFr.up (by omega)
  refine ev_M_find _ _ (vc_M_find_0 _ _ ⟨_, c_findAll (d := d) (m0.ct hC) (fun g => (hR g).mv m0.mf (up1_off 82 (by decide))), ?_⟩)
  rintro w1 ⟨a1, a2, a3⟩
  have m1 := m0.tr a1
  have hC1 := m1.ct hC
  have e : fN w = fN w1 := m1.mf.fNE.symm
  have e2 : prt w y = prt w1 y := by
    funext k
    unfold prt
    rw [Brr.mv m1.mf (m1.off (by decide) (by decide)) (m1.off (by decide) (by decide)), show rl w1 (k / 256 % 12) = rl w (k / 256 % 12) by show N w1 65 (12 * N w1 58 10 + _) = N w 65 (12 * N w 58 10 + _); rw [N_cg m1.mf.1, m1.mf.NE (by omega)]]
  rw [e, e2]
  have hh := hC1.2.2.1
  by_cases hx : x < 0
  · have hno : ∀ k, k < 122880 → fN w1 k = true → ¬ x = nI (ct (fN w1) k) := fun k hk _ g => by
      have := ct_le (fN w1) k
      rw [g] at hx
      exact nn0 _ (by omega) hx
    refine lpU (I := fun k w' => w' = w1) (G := fun k w' => Z m_M_find (d + 4) (qI (fun r w' => MFr w w' ∧ RF0 w' ∧ Nth (fN w1) 122880 x (prt w1 y) r)) 14 [(0, .ref 58), (1, .int (x)), (2, .int (y)), (3, .int (x)), (4, .int (nI k))] [] w') (M := 122880) ?_ ?_ 0 (Nat.zero_le _) w1 rfl
    · rintro w2 rfl
      exact vc_M_find_14 _ _ _ _ ⟨fun _ => ⟨fun _ => ⟨m1, ⟨a2, a3⟩, Or.inr ⟨hno, rfl⟩⟩, fun g => absurd hx g⟩, fun g => absurd (by rw [lit122880]; exact mle (Nat.le_refl _)) g⟩
    · rintro k w2 hk rfl nk
      refine vc_M_find_14 _ _ _ _ ⟨fun g => absurd (by rw [lit122880] at g; exact gle g) (by omega), fun _ => ⟨k, rfl, hk, fun g => ⟨k, rfl, hk, fun g => ?_, fun g2 => absurd g g2⟩, fun g => ⟨fun g2 => ⟨fun _ => ⟨m1, ⟨a2, a3⟩, Or.inr ⟨hno, rfl⟩⟩, fun g => absurd hx g⟩, fun g2 => absurd ?_ g2⟩⟩⟩
      · rw [nI_add, show x - nI 0 = x by show x - 0 = x; rw [Int32.sub_zero]]
        exact nk w2 rfl
      · rw [i_le, i_z]
        have := lt0 hx
        omega
  · obtain ⟨n, hn, rfl, -⟩ := i_nat (nlt0 hx)
    refine lpU (I := fun k w' => w' = w1 ∧ ct (fN w1) k ≤ n) (G := fun k w' => Z m_M_find (d + 4) (qI (fun r w' => MFr w w' ∧ RF0 w' ∧ Nth (fN w1) 122880 (nI n) (prt w1 y) r)) 14 [(0, .ref 58), (1, .int (nI n)), (2, .int (y)), (3, .int (nI (n - ct (fN w1) k))), (4, .int (nI k))] [] w') (M := 122880) ?_ ?_ 0 (Nat.zero_le _) w1 ⟨rfl, Nat.zero_le _⟩
    · rintro w2 ⟨rfl, hc⟩
      refine vc_M_find_14 _ _ _ _ ⟨fun _ => ⟨fun g => absurd g hx, fun g => ⟨fun g2 => absurd lit122880.symm g2, fun _ => ⟨m1, ⟨a2, a3⟩, Or.inr ⟨fun k hk hf => ?_, rfl⟩⟩⟩⟩, fun g => absurd (by rw [lit122880]; exact mle (Nat.le_refl _)) g⟩
      intro g
      have h1 := ct_mono (p := fN w2) (show k + 1 ≤ 122880 by omega)
      rw [ct_succ_t hf] at h1
      have h2 := ct_le (fN w2) k
      have := nI_inj hn (by omega) g
      omega
    · rintro k w2 hk ⟨rfl, hc⟩ nk
      refine vc_M_find_14 _ _ _ _ ⟨fun g => absurd (by rw [lit122880] at g; exact gle g) (by omega), fun _ => ⟨k, rfl, hk, fun g => ⟨k, rfl, hk, fun g => ?_, fun g2 => absurd g g2⟩, fun g => ⟨fun g2 => ⟨fun g3 => absurd g3 hx, fun _ => ⟨fun _ => ?_, fun g3 => ?_⟩⟩, fun g2 => ⟨k, rfl, hk, fun g3 => absurd g3 g, fun _ => ?_⟩⟩⟩⟩
      · rw [nI_add, show nI (n - ct (fN w2) k) - nI 0 = nI (n - ct (fN w2) k) by show _ - 0 = _; rw [Int32.sub_zero], ← ct_succ_f (a2.z hk g)]
        exact nk w2 ⟨rfl, by rw [ct_succ_f (a2.z hk g)]; exact hc⟩
      · have hf := a2.n hk g
        have hF := (fN_iff w2 k).mp hf
        have hz : n - ct (fN w2) k = 0 := Nat.le_zero.mp (gle (b := 0) g2)
        have hr12 := hC1.2.2.2.1.1
        have hN : ∀ r, r = prt w2 y k → MFr w w2 ∧ RF0 w2 ∧ Nth (fN w2) 122880 (nI n) (prt w2 y) r := fun r hr => ⟨m1, ⟨a2, a3⟩, Or.inl ⟨k, hk, hf, by congr 1; omega, hr⟩⟩
        have hP : prt w2 y k = if y = nI 0 then nI (k / 3072) else if y = nI 1 then nI (k / 256 % 12) else if y = nI 2 then nI (k / 16 % 16) else if y = nI 3 then nI (k % 16) else if y = nI 4 then @ite _ (Brr w2 (k / 3072)) (Classical.propDecidable _) (nI 1) (nI 0) else if y = nI 5 then nI (rl w2 (k / 256 % 12)) else -nI 1 := rfl
        rw [hP] at hN
        refine ⟨by decide, by decide, by decide, fun g3 => ?_, fun g3 => hN _ (by rw [if_pos (show y = nI 0 from g3), div_nI])⟩
        rw [if_neg (show ¬ y = nI 0 from g3)] at hN
        refine ⟨fun g3 => ?_, fun g3 => hN _ (by rw [if_pos g3, div_nI, mod_nI])⟩
        rw [if_neg g3] at hN
        refine ⟨fun g3 => ?_, fun g3 => ⟨by decide, by decide, hN _ (by rw [if_pos g3, div_nI, mod_nI])⟩⟩
        rw [if_neg g3] at hN
        refine ⟨fun g3 => ?_, fun g3 => ⟨by decide, hN _ (by rw [if_pos g3, mod_nI])⟩⟩
        rw [if_neg g3] at hN
        refine ⟨fun g3 => ?_, fun g3 => ?_⟩
        · rw [if_neg g3] at hN
          refine ⟨fun g3 => hN _ (by rw [if_neg g3]), fun g3 => ⟨12 * hl w2 + k / 256 % 12, ?_, by omega, hN _ ?_⟩⟩
          · rw [hh.2, div_nI, mod_nI, pk_mul, nI_add]
          · rw [if_pos g3]
            exact (hC1.2.2.2.2.1 _ hF.2.2.1).1.2.1
        · rw [div_nI]
          refine ⟨_, c_M_isBarred (d := d + 3) hC1 hF.1, ?_⟩
          rintro x w3 ⟨rfl, hb⟩
          rw [if_pos g3] at hN
          exact ⟨fun g4 => hN _ (by rw [if_neg (hb.z g4)]), fun g4 => hN _ (by rw [if_pos (hb.n g4)])⟩
      · rw [lit122880] at g3
        exact absurd (nI_inj (by omega) (by omega) g3) (by omega)
      · have hf := a2.n hk g
        have h1 : 1 ≤ n - ct (fN w2) k := by
          refine Nat.pos_of_ne_zero (fun e => g2 ?_)
          rw [e]
          exact mle (Nat.le_refl 0) (by decide)
        have e := ct_succ_t hf
        rw [nI_add, sub_nI h1, show n - ct (fN w2) k - 1 = n - ct (fN w2) (k + 1) by rw [e]; omega]
        exact nk w2 ⟨rfl, by rw [e]; omega⟩
theorem c_barredFinds {d : Nat} {w : Wd} (hC : CtI w) (hR : w.1 58 34 = 0 → RF w) : EvI m_M_barredFinds (d + 4) [.ref 58] w (fun r w' => MFr w w' ∧ RF0 w' ∧ r = nI (sumN (nfb w (nI 1)) 480)) := by
  refine ev_M_barredFinds (vc_M_barredFinds_0 ⟨_, c_findAll (d := d) hC hR, ?_⟩)
  rintro w1 ⟨m1, a2, a3⟩
  have hC1 := m1.ct hC
  -- one by one
  let g : Nat → Bool := fun k => fN w1 k && @decide (Brr w1 (k / 3072)) (Classical.propDecidable _)
  have hg : ∀ k, g k = true ↔ fN w1 k = true ∧ Brr w1 (k / 3072) := fun k => by
    show (fN w1 k && @decide (Brr w1 (k / 3072)) (Classical.propDecidable _)) = true ↔ _
    rw [Bool.and_eq_true]
    exact and_congr Iff.rfl (@decide_eq_true_iff _ (Classical.propDecidable _))
  have e : sumN (nfb w (nI 1)) 480 = ct g 122880 := by
    rw [show (122880 : Nat) = 480 * 256 by decide, ct_mul]
    refine sumN_cong (fun i hi => ?_)
    unfold nfb nf
    rw [← m1.mf.fNE, ← Brr.mv m1.mf (m1.off (by decide) (by decide)) (m1.off (by decide) (by decide))]
    split
    · rename_i h
      refine ct_cong (fun j hj => bool_eq ?_)
      have h := h.resolve_left (by decide)
      rw [hg, show (i * 256 + j) / 3072 = i / 12 by omega]
      exact ⟨fun x => ⟨x, h⟩, fun x => x.1⟩
    · rename_i h
      refine (ct_zero (fun j hj => ?_)).symm
      cases x : g (i * 256 + j) with
      | false => rfl
      | true =>
        have := ((hg _).mp x).2
        rw [show (i * 256 + j) / 3072 = i / 12 by omega] at this
        exact absurd (Or.inr this) h
  rw [e]
  have gF : ∀ k, ¬ (fN w1 k = true ∧ Brr w1 (k / 3072)) → g k = false := fun k h => by
    cases x : g k with
    | false => rfl
    | true => exact absurd ((hg k).mp x) h
  refine lpU (I := fun k w' => w' = w1) (G := fun k w' => Z m_M_barredFinds (d + 4) (qI (fun r w' => MFr w w' ∧ RF0 w' ∧ r = nI (ct g 122880))) 8 [(0, .ref 58), (1, .int (nI (ct g k))), (2, .int (nI k))] [] w') (M := 122880) ?_ ?_ 0 (Nat.zero_le _) w1 rfl
  · rintro w2 rfl
    exact vc_M_barredFinds_8 _ _ ⟨fun _ => ⟨m1, ⟨a2, a3⟩, rfl⟩, fun g => absurd (by rw [lit122880]; exact mle (Nat.le_refl _)) g⟩
  · rintro k w2 hk rfl nk
    refine vc_M_barredFinds_8 _ _ ⟨fun g => absurd (by rw [lit122880] at g; exact gle g) (by omega), fun _ => ⟨k, rfl, hk, fun x => ?_, fun x => ⟨by decide, ?_⟩⟩⟩
    · rw [nI_add, nI_add, Nat.add_zero, ← ct_succ_f (gF k (fun y => (a2 k hk).z x y.1))]
      exact nk w2 rfl
    · have hf := a2.n hk x
      rw [div_nI]
      refine ⟨_, c_M_isBarred (d := d + 3) hC1 ((fN_iff w2 k).mp hf).1, ?_⟩
      rintro r w3 ⟨rfl, hb⟩
      refine ⟨fun y => ?_, fun y => ?_⟩
      · rw [nI_add, nI_add, Nat.add_zero, ← ct_succ_f (gF k (fun z => hb.z y z.2))]
        exact nk w3 rfl
      · rw [nI_add, nI_add, ← ct_succ_t ((hg k).mpr ⟨hf, hb.n y⟩)]
        exact nk w3 rfl
