/-! THE FINDER's rows: counts, clearing, a sentence, all -/
theorem pcn_small {c : Nat} (h : c < 65536) : pcn 32 c = pcn 16 c := by
  unfold pcn
  rw [show (32 : Nat) = 16 + 16 from rfl, ct_add, ct_zero (p := fun j => c.testBit (16 + j)) (fun k _ => Nat.testBit_lt_two_pow (Nat.lt_of_lt_of_le (show c < 2 ^ 16 from h) (Nat.pow_le_pow_right (by decide) (by omega))))]
  rfl
theorem pcn_zero {c : Nat} (h : c < 65536) (hz : pcn 16 c = 0) : c = 0 := by
  apply Nat.eq_of_testBit_eq
  intro q
  rw [Nat.zero_testBit]
  by_cases hq : q < 16
  · exact ct_none hz q hq
  · exact Nat.testBit_lt_two_pow (Nat.lt_of_lt_of_le (show c < 2 ^ 16 from h) (Nat.pow_le_pow_right (by decide) (by omega)))
theorem sumN_zero {f : Nat → Nat} : ∀ {n : Nat}, sumN f n = 0 → ∀ k, k < n → f k = 0
  | 0, _, k, hk => absurd hk (Nat.not_lt_zero k)
  | n + 1, h, k, hk => by
    rw [sumN] at h
    by_cases e : k = n
    · subst e; omega
    · exact sumN_zero (n := n) (by omega) k (by omega)
abbrev rb (w : Wd) (s k l : Nat) : Nat := N w 37 ((s * 12 + k) * 16 + l)
abbrev cnt (w : Wd) (s k : Nat) : Nat := sumN (fun l => pcn 16 (rb w s k l)) 16
theorem cnt_le (w : Wd) (s k : Nat) : cnt w s k ≤ 256 := sumN_le (n := 16) (c := 16) (fun l _ => pcn_le 16 _)
/-- rule k's row at sentence s: numbers of 16 bits, and their count -/
def RoI (w : Wd) (s k : Nat) : Prop := ∀ l, l < 16 → rb w s k l < 65536 ∧ w.1 37 ((s * 12 + k) * 16 + l) = nI (rb w s k l)
def KI (w : Wd) (s k : Nat) : Prop := RoI w s k ∧ w.1 38 (s * 12 + k) = nI (cnt w s k)
theorem RoI.of {w : Wd} {s k : Nat} {S : Nat → Nat → Prop} (h : RwI w ((s * 12 + k) * 16) S) : RoI w s k ∧ ∀ l, l < 16 → ∀ t, (rb w s k l).testBit t = true ↔ S l t := by
  have key : ∀ l, l < 16 → rb w s k l < 65536 ∧ w.1 37 ((s * 12 + k) * 16 + l) = nI (rb w s k l) ∧ ∀ t, (rb w s k l).testBit t = true ↔ S l t := by
    intro l hl
    obtain ⟨c, c1, c2, c3⟩ := h l hl
    have e : rb w s k l = c := N_of c2
    rw [e]
    exact ⟨c1, c2, c3⟩
  exact ⟨fun l hl => ⟨(key l hl).1, (key l hl).2.1⟩, fun l hl => (key l hl).2.2⟩
theorem c_rightPlaces {d : Nat} {w : Wd} {s k l : Nat} (hs : s < 40) (hk : k < 12) (hl : l < 16) : EvI m_Finder_rightPlaces d [.ref 36, .int (nI s), .int (nI k), .int (nI l)] w (fun r w' => w' = w ∧ r = w.1 37 ((s * 12 + k) * 16 + l)) := by
  have p0 : ∀ {x : Nat}, x < 100 → ¬ nI x < 0 := fun hx h => by have := lt0 h; rw [nI_toInt (by omega)] at this; omega
  refine ev_Finder_rightPlaces _ _ _ (vc_Finder_rightPlaces_0 _ _ _ ⟨fun g => absurd g (p0 (by omega)), fun _ => ⟨fun g => ?_, fun _ => ⟨fun g => absurd g (p0 (by omega)), fun _ => ⟨fun g => ?_, fun _ => ⟨fun g => absurd g (p0 (by omega)), fun _ => ⟨fun _ => ⟨(s * 12 + k) * 16 + l, ?_, by omega, rfl, rfl⟩, fun g => absurd ?_ g⟩⟩⟩⟩⟩⟩)
  · rw [nI_leI (by omega) (by omega)] at g; omega
  · rw [nI_leI (by omega) (by omega)] at g; omega
  · rw [pk_mul, nI_add, pk_mul, nI_add]
  · rw [nI_ltI (by omega) (by omega)]; omega
theorem z_countPairs {d : Nat} {w : Wd} {Q : Int32 → Wd → Prop} {s k : Nat} (hs : s < 40) (hk : k < 12) (hR : RoI w s k) (hq : Q (nI (cnt w s k)) w) : ∀ (n l : Nat), l + n = 16 → Z m_Finder_countPairs (d + 1) (qI Q) 5 [(0, .ref 36), (1, .int (nI s)), (2, .int (nI k)), (3, .int (nI (sumN (fun l => pcn 16 (rb w s k l)) l))), (4, .int (nI l))] [] w := by
  intro n
  induction n with
  | zero =>
    intro l hl
    have e : l = 16 := by omega
    subst e
    exact vc_Finder_countPairs_5 _ _ _ _ ⟨fun _ => hq, fun g => absurd (by rw [nI_leI (by omega) (by omega)]; omega) g⟩
  | succ n ih =>
    intro l hl
    refine vc_Finder_countPairs_5 _ _ _ _ ⟨fun g => ?_, fun _ => ⟨_, c_rightPlaces hs hk (by omega), ?_⟩⟩
    · rw [nI_leI (by omega) (by omega)] at g; omega
    · rintro x1 w1 ⟨rfl, rfl⟩
      obtain ⟨r1, r2⟩ := hR l (by omega)
      rw [r2]
      refine ⟨_, c_Integer_bitCount (by omega), ?_⟩
      rintro x2 w2 ⟨rfl, rfl⟩
      rw [pcn_small r1, nI_add, nI_add]
      exact ih (l + 1) (by omega)
theorem c_countPairs {d : Nat} {w : Wd} {s k : Nat} (hs : s < 40) (hk : k < 12) (hR : RoI w s k) : EvI m_Finder_countPairs (d + 1) [.ref 36, .int (nI s), .int (nI k)] w (fun r w' => w' = w ∧ r = nI (cnt w s k)) :=
  ev_Finder_countPairs _ _ (vc_Finder_countPairs_0 _ _ (z_countPairs hs hk hR ⟨rfl, rfl⟩ 16 0 rfl))
/-- only sentence s's own rows have changed (and 'fitting') -/
def FS (s : Nat) (w w' : Wd) : Prop := (∀ a k, a ≠ 41 → ¬ (a = 37 ∧ s * 192 ≤ k ∧ k < s * 192 + 192) → ¬ (a = 38 ∧ s * 12 ≤ k ∧ k < s * 12 + 12) → ¬ (a = 39 ∧ k = s) → w'.1 a k = w.1 a k) ∧ w'.2 = w.2
theorem FS.rf {s : Nat} {w : Wd} : FS s w w := ⟨fun _ _ _ _ _ _ => rfl, rfl⟩
theorem FS.tr {s : Nat} {w w1 w2 : Wd} (h : FS s w w1) (h2 : FS s w1 w2) : FS s w w2 := ⟨fun a k g1 g2 g3 g4 => (h2.1 a k g1 g2 g3 g4).trans (h.1 a k g1 g2 g3 g4), h2.2.trans h.2⟩
theorem FS.fr {s : Nat} {w w' : Wd} (h : FS s w w') : Fr w w' := ⟨fun a ha => funext fun k => h.1 a k (by omega) (by omega) (by omega) (by omega), h.2⟩
theorem FS.up {s a k : Nat} {w : Wd} {v : Int32} (h : a = 41 ∨ (a = 37 ∧ s * 192 ≤ k ∧ k < s * 192 + 192) ∨ (a = 38 ∧ s * 12 ≤ k ∧ k < s * 12 + 12) ∨ (a = 39 ∧ k = s)) : FS s w (up1 w a k v) := by
  refine ⟨fun b j g1 g2 g3 g4 => ?_, rfl⟩
  rw [up1_1, if_neg]
  rintro ⟨rfl, rfl⟩
  rcases h with h | h | h | h
  · exact g1 h
  · exact g2 h
  · exact g3 h
  · exact g4 h
/-- rule k's row is empty -/
def E0 (w : Wd) (s k : Nat) : Prop := (∀ l, l < 16 → w.1 37 ((s * 12 + k) * 16 + l) = nI 0) ∧ w.1 38 (s * 12 + k) = nI 0
theorem KI.zero {w : Wd} {s k : Nat} (h : KI w s k) (hz : w.1 38 (s * 12 + k) ≤ 0) : E0 w s k := by
  have hc := cnt_le w s k
  rw [h.2, i_le, i_z, nI_toInt (by omega)] at hz
  have h0 : cnt w s k = 0 := by omega
  refine ⟨fun l hl => ?_, by rw [h.2, h0]⟩
  obtain ⟨r1, r2⟩ := h.1 l hl
  rw [r2, pcn_zero r1 (sumN_zero h0 l hl)]
theorem z_clear2 {d : Nat} {w0 : Wd} {Q : Wd → Prop} {s k : Nat} (hs : s < 40) (hk : k < 12) (h0 : KI w0 s k) (hnext : ∀ w', FS s w0 w' → (∀ a j, ¬ (a = 37 ∧ (s * 12 + k) * 16 ≤ j ∧ j < (s * 12 + k) * 16 + 16) → ¬ (a = 38 ∧ j = s * 12 + k) → w'.1 a j = w0.1 a j) → E0 w' s k → Z m_Finder_clearSentence d (qV Q) 9 [(0, .ref 36), (1, .int (nI s)), (2, .int (nI (k + 1)))] [] w') : ∀ (n l : Nat) (w : Wd), l + n = 16 → FS s w0 w → (∀ a j, ¬ (a = 37 ∧ (s * 12 + k) * 16 ≤ j ∧ j < (s * 12 + k) * 16 + l) → w.1 a j = w0.1 a j) → (∀ l', l' < l → w.1 37 ((s * 12 + k) * 16 + l') = nI 0) → Z m_Finder_clearSentence d (qV Q) 17 [(0, .ref 36), (1, .int (nI s)), (2, .int (nI k)), (3, .int (nI l))] [] w := by
  have fin : ∀ (w : Wd) (l : Nat), l ≤ 16 → FS s w0 w → (∀ a j, ¬ (a = 37 ∧ (s * 12 + k) * 16 ≤ j ∧ j < (s * 12 + k) * 16 + l) → w.1 a j = w0.1 a j) → (∀ l', l' < 16 → w.1 37 ((s * 12 + k) * 16 + l') = nI 0) → Z m_Finder_clearSentence d (qV Q) 9 [(0, .ref 36), (1, .int (nI s)), (2, .int (nI k + nI 1))] [] (up1 w 38 (s * 12 + k) (nI 0)) := by
    intro w l hl f1 f2 f3
    rw [nI_add]
    refine hnext _ (f1.tr (FS.up (by omega))) (fun a j g1 g2 => ?_) ⟨fun l' hl' => by rw [up1_1, if_neg (by omega)]; exact f3 l' hl', by rw [up1_1, if_pos ⟨rfl, rfl⟩]⟩
    rw [up1_1, if_neg g2]
    exact f2 a j (by omega)
  intro n
  induction n with
  | zero =>
    intro l w hl f1 f2 f3
    have e : l = 16 := by omega
    subst e
    refine vc_Finder_clearSentence_17 _ _ _ ⟨fun _ => ⟨s * 12 + k, by rw [pk_mul, nI_add], by omega, fin w 16 (Nat.le_refl _) f1 f2 f3⟩, fun g => absurd (by rw [nI_leI (by omega) (by omega)]; omega) g⟩
  | succ n ih =>
    intro l w hl f1 f2 f3
    have e38 : w.1 38 (s * 12 + k) = w0.1 38 (s * 12 + k) := f2 38 _ (by omega)
    refine vc_Finder_clearSentence_17 _ _ _ ⟨fun g => ?_, fun _ => ⟨s * 12 + k, by rw [pk_mul, nI_add], by omega, fun g => ⟨s * 12 + k, by rw [pk_mul, nI_add], by omega, ?_⟩, fun g => ⟨(s * 12 + k) * 16 + l, by rw [pk_mul, nI_add, pk_mul, nI_add], by omega, ?_⟩⟩⟩
    · rw [nI_leI (by omega) (by omega)] at g; omega
    · rw [e38] at g
      have hz := (h0.zero g).1
      refine fin w l (by omega) f1 f2 (fun l' hl' => ?_)
      by_cases e : l' < l
      · exact f3 l' e
      · rw [f2 37 _ (by omega)]
        exact hz l' hl'
    · rw [nI_add]
      refine ih (l + 1) _ (by omega) (f1.tr (FS.up (by omega))) (fun a j g1 => ?_) (fun l' hl' => ?_)
      · rw [up1_1, if_neg (by omega)]
        exact f2 a j (by omega)
      · rw [up1_1]
        split
        · rfl
        · exact f3 l' (by omega)
theorem z_clear1 {d : Nat} {w0 : Wd} {Q : Wd → Prop} {s : Nat} (hs : s < 40) (h0 : ∀ k, k < 12 → KI w0 s k) (hq : ∀ w', FS s w0 w' → w'.1 39 = w0.1 39 → (∀ k, k < 12 → E0 w' s k) → Q w') : ∀ (n k : Nat) (w : Wd), k + n = 12 → FS s w0 w → w.1 39 = w0.1 39 → (∀ k', k' < k → E0 w s k') → (∀ k', k ≤ k' → k' < 12 → KI w s k') → Z m_Finder_clearSentence d (qV Q) 9 [(0, .ref 36), (1, .int (nI s)), (2, .int (nI k))] [] w := by
  intro n
  induction n with
  | zero =>
    intro k w hk f1 f39 f2 f3
    have e : k = 12 := by omega
    subst e
    exact vc_Finder_clearSentence_9 _ _ ⟨fun _ => hq w f1 f39 f2, fun g => absurd (by rw [nI_leI (by omega) (by omega)]; omega) g⟩
  | succ n ih =>
    intro k w hk f1 f39 f2 f3
    refine vc_Finder_clearSentence_9 _ _ ⟨fun g => ?_, fun _ => ?_⟩
    · rw [nI_leI (by omega) (by omega)] at g; omega
    · refine z_clear2 hs (by omega) (f3 k (Nat.le_refl k) (by omega)) (fun w' g1 g2 g3 => ?_) 16 0 w rfl FS.rf (fun _ _ _ => rfl) (fun l' hl' => absurd hl' (Nat.not_lt_zero _))
      refine ih (k + 1) w' (by omega) (f1.tr g1) ?_ (fun k' hk' => ?_) (fun k' h1 h2 => ?_)
      · rw [← f39]
        funext j
        exact g2 39 j (by omega) (by omega)
      · by_cases e : k' = k
        · subst e; exact g3
        · obtain ⟨a, b⟩ := f2 k' (by omega)
          exact ⟨fun l hl => by rw [g2 37 _ (by omega) (by omega)]; exact a l hl, by rw [g2 38 _ (by omega) (by omega)]; exact b⟩
      · obtain ⟨a, b⟩ := f3 k' (by omega) h2
        have e : ∀ l, l < 16 → w'.1 37 ((s * 12 + k') * 16 + l) = w.1 37 ((s * 12 + k') * 16 + l) := fun l hl => g2 37 _ (by omega) (by omega)
        refine ⟨fun l hl => ?_, ?_⟩
        · rw [show rb w' s k' l = rb w s k' l from N_cg (e l hl), e l hl]
          exact a l hl
        · rw [g2 38 _ (by omega) (by omega), b]
          congr 1
          exact sumN_cong (fun l hl => by rw [show rb w' s k' l = rb w s k' l from N_cg (e l hl)])
theorem c_clearSentence {d : Nat} {w : Wd} {s : Nat} (hs : s < 40) (h0 : ∀ k, k < 12 → KI w s k) : EvV m_Finder_clearSentence d [.ref 36, .int (nI s)] w (fun w' => FS s w w' ∧ w'.1 39 s = 0 ∧ ∀ k, k < 12 → E0 w' s k) := by
  refine ev_Finder_clearSentence _ (vc_Finder_clearSentence_0 _ ⟨s, rfl, hs, Or.inl rfl, ?_⟩)
  have f : FS s w (up1 w 39 s (nI 0)) := FS.up (by omega)
  refine z_clear1 (w0 := up1 w 39 s (nI 0)) hs (fun k hk => h0 k hk) (fun w' g1 g2 g3 => ⟨f.tr g1, ?_, g3⟩) 12 0 _ rfl FS.rf rfl (fun k' hk' => absurd hk' (Nat.not_lt_zero _)) (fun k' _ hk' => h0 k' hk')
  rw [g2, up1_1, if_pos ⟨rfl, rfl⟩]
  rfl
