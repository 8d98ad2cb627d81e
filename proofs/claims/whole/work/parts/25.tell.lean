/-! LOOPS, and what the finder tells -/
theorem lpU {I G : Nat → Wd → Prop} {M : Nat} (he : ∀ w, I M w → G M w) (hs : ∀ k w, k < M → I k w → (∀ w', I (k + 1) w' → G (k + 1) w') → G k w) : ∀ k, k ≤ M → ∀ w, I k w → G k w := by
  have key : ∀ n k, k + n = M → ∀ w, I k w → G k w := by
    intro n
    induction n with
    | zero => intro k hk w h; rw [Nat.add_zero] at hk; subst hk; exact he w h
    | succ n ih => intro k hk w h; exact hs k w (by omega) h (fun w' h' => ih (k + 1) (by omega) w' h')
  intro k hk
  exact key (M - k) k (by omega)
theorem gle {a b : Nat} (h : nI a ≤ nI b) (ha : a < 2147483648 := by omega) (hb : b < 2147483648 := by omega) : a ≤ b := (nI_leI ha hb).mp h
theorem ngle {a b : Nat} (h : ¬ nI a ≤ nI b) (ha : a < 2147483648 := by omega) (hb : b < 2147483648 := by omega) : b < a := by
  rw [nI_leI ha hb] at h; omega
theorem mle {a b : Nat} (h : a ≤ b) (hb : b < 2147483648 := by omega) : nI a ≤ nI b := (nI_leI (by omega) hb).mpr h
theorem glt {a b : Nat} (h : nI a < nI b) (ha : a < 2147483648 := by omega) (hb : b < 2147483648 := by omega) : a < b := (nI_ltI ha hb).mp h
theorem nglt {a b : Nat} (h : ¬ nI a < nI b) (ha : a < 2147483648 := by omega) (hb : b < 2147483648 := by omega) : b ≤ a := by
  rw [nI_ltI ha hb] at h; omega
theorem mlt {a b : Nat} (h : a < b) (hb : b < 2147483648 := by omega) : nI a < nI b := (nI_ltI (by omega) hb).mpr h
theorem nn0 (n : Nat) (h : n < 2147483648 := by omega) : ¬ nI n < 0 := fun g => absurd (lt0 g) (by rw [nI_toInt h]; omega)
theorem nI_z : (0 : Int32) = nI 0 := rfl
theorem add0 (x : Int32) : x + nI 0 = x := by show x + 0 = x; rw [Int32.add_zero]
/-- whether the k-th of all possible finds is one -/
noncomputable def fN (w : Wd) (k : Nat) : Bool := @decide (Fnd w (k / 3072) (k / 256 % 12) (k / 16 % 16) (k % 16)) (Classical.propDecidable _)
theorem fN_iff (w : Wd) (k : Nat) : fN w k = true ↔ Fnd w (k / 3072) (k / 256 % 12) (k / 16 % 16) (k % 16) := by
  unfold fN
  exact @decide_eq_true_iff _ (Classical.propDecidable _)
theorem fN_at (w : Wd) {s r l t : Nat} (hr : r < 12) (hl : l < 16) (ht : t < 16) : fN w (256 * (12 * s + r) + 16 * l + t) = true ↔ Fnd w s r l t := by
  rw [fN_iff, show (256 * (12 * s + r) + 16 * l + t) / 3072 = s by omega, show (256 * (12 * s + r) + 16 * l + t) / 256 % 12 = r by omega, show (256 * (12 * s + r) + 16 * l + t) / 16 % 16 = l by omega, show (256 * (12 * s + r) + 16 * l + t) % 16 = t by omega]
theorem Mf.fNE {w w' : Wd} (h : Mf w w') : fN w' = fN w := by
  funext k
  unfold fN
  congr 1
  exact h.FndE _ _ _ _
theorem bool_eq {a b : Bool} (h : a = true ↔ b = true) : a = b := by
  cases a <;> cases b <;> simp at h <;> rfl
/-- how many finds of sentence s and rule k -/
noncomputable def nf (w : Wd) (i : Nat) : Nat := ct (fun j => fN w (i * 256 + j)) 256
theorem nf_le (w : Wd) (i : Nat) : nf w i ≤ 256 := ct_le _ _
theorem cnt_nf {w : Wd} {s k : Nat} (h : Rgt w s) (hk : k < 12) : cnt w s k = nf w (12 * s + k) := by
  unfold nf
  rw [show (256 : Nat) = 16 * 16 by decide, ct_mul]
  refine sumN_cong (fun l hl => ct_cong (fun t ht => ?_))
  have e := fN_at w (s := s) hk hl ht
  rw [show (12 * s + k) * (16 * 16) + (l * 16 + t) = 256 * (12 * s + k) + 16 * l + t by omega]
  exact bool_eq ((h.1 k hk l hl t).trans e.symm)
theorem nf_far {w : Wd} {i : Nat} (h : 12 * cm w ≤ i) : nf w i = 0 := by
  refine ct_zero (fun j hj => ?_)
  cases e : fN w (i * 256 + j) with
  | false => rfl
  | true =>
    have := ((fN_iff w _).mp e).1
    omega
theorem finds_sum (w : Wd) : ct (fN w) 122880 = sumN (nf w) 480 := ct_mul (fN w) 256 480
theorem sumN_ext {f : Nat → Nat} {a : Nat} : ∀ {b : Nat}, a ≤ b → (∀ i, a ≤ i → i < b → f i = 0) → sumN f b = sumN f a
  | 0, h, _ => by rw [show a = 0 by omega]
  | b + 1, h, h0 => by
    by_cases e : a = b + 1
    · rw [e]
    · rw [sumN, sumN_ext (b := b) (by omega) (fun i h1 h2 => h0 i h1 (by omega)), h0 b (by omega) (by omega), Nat.add_zero]
theorem sumN_mono {f : Nat → Nat} {a : Nat} : ∀ {b : Nat}, a ≤ b → sumN f a ≤ sumN f b
  | 0, h => by rw [show a = 0 by omega]; exact Nat.le_refl _
  | b + 1, h => by
    by_cases e : a = b + 1
    · rw [e]; exact Nat.le_refl _
    · have := sumN_mono (f := f) (a := a) (b := b) (by omega)
      rw [sumN]; omega
/-- class cells that are fresh -/
def FF (w : Wd) : Prop := CtI w ∧ FinI w ∧ Fresh w
theorem FF.rgt {w : Wd} (h : FF w) {s : Nat} (hs : s < cm w) : Rgt w s := h.2.1.2.2 s hs (h.2.2 s hs)
theorem FF.c38 {w : Wd} (h : FF w) {s k : Nat} (hs : s < cm w) (hk : k < 12) : w.1 38 (s * 12 + k) = nI (nf w (12 * s + k)) := by
  rw [(h.2.1.1 s (h.1.l hs).2.2 k hk).2, cnt_nf (h.rgt hs) hk]
theorem c_Finder_has {d : Nat} {w : Wd} (h : FF w) {s k l t : Nat} (hs : s < cm w) (hk : k < 12) (hl : l < 16) (ht : t < 16) : EvI m_Finder_has (d + 1) [.ref 36, .int (nI s), .int (nI k), .int (nI l), .int (nI t)] w (fun r w' => w' = w ∧ Bo (Fnd w s k l t) r) := by
  have h40 := (h.1.l hs).2.2
  obtain ⟨r1, r2⟩ := (h.2.1.1 s h40 k hk).1 l hl
  have hx := (h.rgt hs).1 k hk l hl t
  refine ev_Finder_has _ _ _ _ (vc_Finder_has_0 _ _ _ _ ⟨fun g => absurd g (nn0 t), fun _ => ⟨fun g => absurd (gle g) (by omega), fun _ => ⟨_, c_rightPlaces (d := d) h40 hk hl, ?_⟩⟩⟩)
  rintro r w1 ⟨rfl, rfl⟩
  rw [r2, bit_nI (by omega) (by omega)]
  exact ⟨fun g => ⟨Or.inl rfl, rfl, Bo.f (fun e => g (hx.mpr e))⟩, fun g => ⟨Or.inr rfl, rfl, Bo.t (hx.mp (Classical.not_not.mp g))⟩⟩
theorem c_Finder_isBarred {d : Nat} {w : Wd} (h : FF w) {s : Nat} (hs : s < cm w) : EvI m_Finder_isBarred d [.ref 36, .int (nI s)] w (fun r w' => w' = w ∧ Bo (thr w s ∧ Brr w s) r) := by
  have h40 := (h.1.l hs).2.2
  have hb := (h.rgt hs).2
  refine ev_Finder_isBarred _ (vc_Finder_isBarred_0 _ ⟨fun g => absurd g (nn0 s), fun _ => ⟨fun g => absurd (gle g) (by omega), fun _ => ⟨s, rfl, h40, fun g => ⟨Or.inl rfl, rfl, Bo.f (hb.z g)⟩, fun g => ⟨Or.inr rfl, rfl, Bo.t (hb.n g)⟩⟩⟩⟩)
/-- finds that count: all, or the barred ones alone -/
noncomputable def nfb (w : Wd) (b : Int32) (i : Nat) : Nat := @ite _ (b = 0 ∨ Brr w (i / 12)) (Classical.propDecidable _) (nf w i) 0
theorem nfb_yes {w : Wd} {b : Int32} {i : Nat} (h : b = 0 ∨ Brr w (i / 12)) : nfb w b i = nf w i := by unfold nfb; rw [if_pos h]
theorem nfb_no {w : Wd} {b : Int32} {i : Nat} (h : ¬ (b = 0 ∨ Brr w (i / 12))) : nfb w b i = 0 := by unfold nfb; rw [if_neg h]
theorem nfb_le (w : Wd) (b : Int32) (i : Nat) : nfb w b i ≤ 256 := by
  have := nf_le w i
  unfold nfb
  split <;> omega
theorem nfb_far {w : Wd} {b : Int32} {i : Nat} (h : 12 * cm w ≤ i) : nfb w b i = 0 := by
  unfold nfb
  rw [nf_far h]
  split <;> rfl
theorem nfb_gone {w : Wd} {b : Int32} {i : Nat} (h : ¬ thr w (i / 12)) : nfb w b i = 0 := by
  have : nf w i = 0 := ct_zero (fun j hj => by
    cases e : fN w (i * 256 + j) with
    | false => rfl
    | true =>
      have := ((fN_iff w _).mp e).2.1
      rw [show (i * 256 + j) / 3072 = i / 12 by omega] at this
      exact absurd this h)
  unfold nfb
  rw [this]
  split <;> rfl
theorem z_Finder_total {d : Nat} {w : Wd} {Q : Int32 → Wd → Prop} (h : FF w) (b : Int32) (hq : Q (nI (sumN (nfb w b) 480)) w) : EvI m_Finder_total (d + 1) [.ref 36, .int b] w Q := by
  refine ev_Finder_total _ (vc_Finder_total_0 _ ?_)
  have hcm : cm w ≤ 40 := h.1.2.1.2.2.1.1
  have fin : sumN (nfb w b) 480 = sumN (nfb w b) (12 * cm w) := sumN_ext (by omega) (fun i h1 _ => nfb_far h1)
  refine lpU (I := fun s w' => w' = w) (G := fun s w' => Z m_Finder_total (d + 1) (qI Q) 4 [(0, .ref 36), (1, .int b), (2, .int (nI (sumN (nfb w b) (12 * s)))), (3, .int (nI s))] [] w') (M := cm w) ?_ ?_ 0 (Nat.zero_le _) w rfl
  · rintro _ rfl
    refine vc_Finder_total_4 _ _ _ ⟨_, c_came h.1.2.1, ?_⟩
    rintro x w1 ⟨rfl, rfl⟩
    exact ⟨fun _ => by rw [fin] at hq; exact hq, fun g => absurd (mle (Nat.le_refl _)) g⟩
  · rintro s w hs rfl nx
    refine vc_Finder_total_4 _ _ _ ⟨_, c_came h.1.2.1, ?_⟩
    rintro x w1 ⟨rfl, rfl⟩
    refine ⟨fun g => absurd (gle g) (by omega), fun _ => ⟨fun g => absurd (gle g) (by omega), fun _ => ?_⟩⟩
    have hb := (h.rgt hs).2
    refine lpU (I := fun k w' => w' = w1) (G := fun k w' => Z m_Finder_total (d + 1) (qI Q) 24 [(0, .ref 36), (1, .int b), (2, .int (nI (sumN (nfb w1 b) (12 * s + k)))), (3, .int (nI s)), (4, .int (nI k))] [] w') (M := 12) ?_ ?_ 0 (Nat.zero_le _) w1 rfl
    · rintro _ rfl
      refine vc_Finder_total_24 _ _ _ _ ⟨fun _ => ?_, fun g => absurd (mle (Nat.le_refl _)) g⟩
      rw [nI_add]
      exact nx _ rfl
    · rintro k w hk rfl nk
      refine vc_Finder_total_24 _ _ _ _ ⟨fun g => absurd (gle g) (by omega), fun _ => ⟨s, rfl, by omega, ?_⟩⟩
      have go : (b = 0 ∨ Brr w ((12 * s + k) / 12)) → ∃ j : Nat, nI s * nI 12 + nI k = nI j ∧ j < 480 ∧ Z m_Finder_total (d + 1) (qI Q) 24 [(0, .ref 36), (1, .int b), (2, .int (nI (sumN (nfb w b) (12 * s + k)) + w.1 38 j)), (3, .int (nI s)), (4, .int (nI k + nI 1))] [] w := by
        intro hy
        refine ⟨s * 12 + k, by rw [pk_mul, nI_add], by omega, ?_⟩
        rw [h.c38 hs hk, nI_add, nI_add, ← nfb_yes hy]
        exact nk w rfl
      refine ⟨fun g => go (Or.inr ?_), fun g => ⟨fun g2 => ?_, fun g2 => go (Or.inl g2)⟩⟩
      · rw [show (12 * s + k) / 12 = s by omega]
        exact (hb.n g).2
      · rw [nI_add]
        have : sumN (nfb w b) (12 * s + k) = sumN (nfb w b) (12 * (s + 1)) := by
          refine (sumN_ext (by omega) (fun i h1 h2 => ?_)).symm
          have hi : i / 12 = s := by omega
          by_cases ht : thr w s
          · refine nfb_no (fun e => e.elim g2 (fun e => hb.z g ⟨ht, by rw [← hi]; exact e⟩))
          · exact nfb_gone (by rw [hi]; exact ht)
        rw [this]
        exact nx w rfl
theorem c_Finder_total {d : Nat} {w : Wd} (h : FF w) (b : Int32) : EvI m_Finder_total (d + 1) [.ref 36, .int b] w (fun r w' => w' = w ∧ r = nI (sumN (nfb w b) 480)) := z_Finder_total h b ⟨rfl, rfl⟩
theorem c_Finder_totalOfRule {d : Nat} {w : Wd} (h : FF w) {k : Nat} (hk : k < 12) : EvI m_Finder_totalOfRule (d + 1) [.ref 36, .int (nI k)] w (fun r w' => w' = w ∧ r = nI (sumN (fun s => nf w (12 * s + k)) 40)) := by
  refine ev_Finder_totalOfRule _ (vc_Finder_totalOfRule_0 _ ?_)
  have hcm : cm w ≤ 40 := h.1.2.1.2.2.1.1
  have fin : sumN (fun s => nf w (12 * s + k)) 40 = sumN (fun s => nf w (12 * s + k)) (cm w) := sumN_ext (by omega) (fun i h1 _ => nf_far (by omega))
  refine lpU (I := fun s w' => w' = w) (G := fun s w' => Z m_Finder_totalOfRule (d + 1) (qI _) 4 [(0, .ref 36), (1, .int (nI k)), (2, .int (nI (sumN (fun s => nf w (12 * s + k)) s))), (3, .int (nI s))] [] w') (M := cm w) ?_ ?_ 0 (Nat.zero_le _) w rfl
  · rintro w rfl
    refine vc_Finder_totalOfRule_4 _ _ _ ⟨_, c_came h.1.2.1, ?_⟩
    rintro x w1 ⟨rfl, rfl⟩
    exact ⟨fun _ => ⟨rfl, by rw [fin]⟩, fun g => absurd (mle (Nat.le_refl _)) g⟩
  · rintro s w hs rfl nx
    refine vc_Finder_totalOfRule_4 _ _ _ ⟨_, c_came h.1.2.1, ?_⟩
    rintro x w1 ⟨rfl, rfl⟩
    refine ⟨fun g => absurd (gle g) (by omega), fun _ => ⟨fun g => absurd (gle g) (by omega), fun _ => ⟨fun g => absurd g (nn0 k), fun _ => ⟨fun g => absurd (gle g) (by omega), fun _ => ⟨s * 12 + k, by rw [pk_mul, nI_add], by omega, ?_⟩⟩⟩⟩⟩
    rw [h.c38 hs hk, nI_add, nI_add]
    exact nx w1 rfl
/-! the i-th -/
theorem ct_mono {p : Nat → Bool} {a : Nat} : ∀ {b : Nat}, a ≤ b → ct p a ≤ ct p b
  | 0, h => by rw [show a = 0 by omega]; exact Nat.le_refl _
  | b + 1, h => by
    by_cases e : a = b + 1
    · rw [e]; exact Nat.le_refl _
    · have := ct_mono (p := p) (a := a) (b := b) (by omega)
      rw [ct]; omega
theorem ct_uniq {p : Nat → Bool} {a b : Nat} (ha : p a = true) (hb : p b = true) (h : ct p a = ct p b) : a = b := by
  rcases Nat.lt_trichotomy a b with g | g | g
  · have := ct_mono (p := p) (show a + 1 ≤ b by omega)
    rw [ct, ha] at this
    simp at this
    omega
  · exact g
  · have := ct_mono (p := p) (show b + 1 ≤ a by omega)
    rw [ct, hb] at this
    simp at this
    omega
/-- the answer to 'the i-th of the first n' -/
def Nth (p : Nat → Bool) (n : Nat) (x : Int32) (ans : Nat → Int32) (r : Int32) : Prop := (∃ k, k < n ∧ p k = true ∧ x = nI (ct p k) ∧ r = ans k) ∨ ((∀ k, k < n → p k = true → ¬ x = nI (ct p k)) ∧ r = -nI 1)
theorem Nth.one {p : Nat → Bool} {n : Nat} (hn : n < 2147483648) {x : Int32} {ans : Nat → Int32} {r s : Int32} (h : Nth p n x ans r) (h2 : Nth p n x ans s) : s = r := by
  rcases h with ⟨k, a, b, c, e⟩ | ⟨a, e⟩ <;> rcases h2 with ⟨k2, a2, b2, c2, e2⟩ | ⟨a2, e2⟩
  · have l1 := ct_le p k
    have l2 := ct_le p k2
    have : k = k2 := ct_uniq b b2 (nI_inj (by omega) (by omega) (c.symm.trans c2))
    subst this
    rw [e, e2]
  · exact absurd c (a2 k a b)
  · exact absurd c2 (a k2 a2 b2)
  · rw [e, e2]
/-- the part 'what' of find k -/
noncomputable def prt (w : Wd) (x : Int32) (k : Nat) : Int32 := if x = nI 0 then nI (k / 3072) else if x = nI 1 then nI (k / 256 % 12) else if x = nI 2 then nI (k / 16 % 16) else if x = nI 3 then nI (k % 16) else if x = nI 4 then @ite _ (Brr w (k / 3072)) (Classical.propDecidable _) (nI 1) (nI 0) else if x = nI 5 then nI (rl w (k / 256 % 12)) else -nI 1
theorem c_Finder_part {d : Nat} {w : Wd} (h : FF w) {s k l t : Nat} (hf : Fnd w s k l t) (x : Int32) : EvI m_Finder_part (d + 2) [.ref 36, .int (nI s), .int (nI k), .int (nI l), .int (nI t), .int x] w (fun r w' => w' = w ∧ r = prt w x (256 * (12 * s + k) + 16 * l + t)) := by
  obtain ⟨hs, ht, hk, hl, htt, -⟩ := hf
  have hr := h.1.2.2.2.1.1
  refine ev_Finder_part _ _ _ _ _ (vc_Finder_part_0 _ _ _ _ _ ?_)
  unfold prt
  rw [show (256 * (12 * s + k) + 16 * l + t) / 3072 = s by omega, show (256 * (12 * s + k) + 16 * l + t) / 256 % 12 = k by omega, show (256 * (12 * s + k) + 16 * l + t) / 16 % 16 = l by omega, show (256 * (12 * s + k) + 16 * l + t) % 16 = t by omega]
  refine ⟨fun g => ⟨rfl, by rw [if_pos g]⟩, fun g => ?_⟩
  rw [if_neg g]
  refine ⟨fun g => ⟨rfl, by rw [if_pos g]⟩, fun g => ?_⟩
  rw [if_neg g]
  refine ⟨fun g => ⟨rfl, by rw [if_pos g]⟩, fun g => ?_⟩
  rw [if_neg g]
  refine ⟨fun g => ⟨rfl, by rw [if_pos g]⟩, fun g => ?_⟩
  rw [if_neg g]
  refine ⟨fun g => ⟨_, c_Finder_isBarred h hs, ?_⟩, fun g => ?_⟩
  · rintro r w1 ⟨rfl, hb⟩
    rw [if_pos g]
    exact ⟨fun g => ⟨rfl, by rw [if_neg (fun e => hb.z g ⟨ht, e⟩)]⟩, fun g => ⟨rfl, by rw [if_pos (hb.n g).2]⟩⟩
  · rw [if_neg g]
    refine ⟨fun g => ⟨_, c_Book_relationOf (d := d) h.1.2.2 hk, ?_⟩, fun g => ⟨rfl, by rw [if_neg g]⟩⟩
    rintro r w1 ⟨rfl, rfl⟩
    exact ⟨rfl, by rw [if_pos g]⟩
