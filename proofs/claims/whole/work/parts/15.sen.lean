/-! SENTENCES, of the class and of the reference -/
def N (w : Wd) (a k : Nat) : Nat := (w.1 a k).toNatClampNeg
theorem N_of {w : Wd} {a k n : Nat} (h : w.1 a k = nI n) (hn : n < 2147483648 := by omega) : N w a k = n := by
  unfold N
  rw [h]
  exact nI_clamp hn
theorem N_cg {w w' : Wd} {a k : Nat} (h : w'.1 a k = w.1 a k) : N w' a k = N w a k := by unfold N; rw [h]
/-- how many of the first n -/
def ct (p : Nat → Bool) : Nat → Nat
  | 0 => 0
  | n + 1 => ct p n + (if p n then 1 else 0)
theorem ct_le (p : Nat → Bool) : ∀ n, ct p n ≤ n
  | 0 => Nat.le_refl 0
  | n + 1 => by
    have := ct_le p n
    unfold ct
    split <;> omega
theorem ct_cong {p q : Nat → Bool} : ∀ {n : Nat}, (∀ k, k < n → p k = q k) → ct p n = ct q n
  | 0, _ => rfl
  | n + 1, h => by
    unfold ct
    rw [ct_cong (fun k hk => h k (by omega)), h n (by omega)]
theorem ct_off {p q : Nat → Bool} {i : Nat} (hp : p i = true) (hq : q i = false) : ∀ {n : Nat}, i < n → (∀ k, k < n → k ≠ i → q k = p k) → ct q n + 1 = ct p n
  | 0, hi, _ => absurd hi (Nat.not_lt_zero i)
  | n + 1, hi, h => by
    unfold ct
    by_cases e : i = n
    · subst e
      rw [hp, hq, ct_cong (p := q) (q := p) (fun k hk => h k (by omega) (by omega))]
      simp
    · have := ct_off hp hq (n := n) (by omega) (fun k hk hne => h k (by omega) hne)
      rw [h n (by omega) (by omega)]
      omega
abbrev td (w : Wd) : Nat := N w 58 28
abbrev cm (w : Wd) : Nat := N w 58 30
abbrev len (w : Wd) (s : Nat) : Nat := N w 79 s
abbrev wrd (w : Wd) (s p : Nat) : Nat := N w 80 (16 * s + p)
/-- sentence s is there -/
abbrev thr (w : Wd) (s : Nat) : Prop := w.1 81 s = 0
def SenI (w : Wd) : Prop :=
  (td w ≤ 16 ∧ w.1 58 28 = nI (td w) ∧ w.1 3 4 = nI (td w)) ∧ (∀ p, p < td w → 1 ≤ N w 78 p ∧ N w 78 p ≤ 100 ∧ w.1 78 p = nI (N w 78 p) ∧ w.1 7 p = nI (N w 78 p)) ∧
  (cm w ≤ 40 ∧ w.1 58 30 = nI (cm w) ∧ w.1 3 5 = nI (cm w)) ∧
  (∀ s, s < cm w → 1 ≤ len w s ∧ len w s ≤ 16 ∧ w.1 79 s = nI (len w s) ∧ w.1 5 s = nI (len w s)) ∧
  (∀ s, s < cm w → ∀ p, p < len w s → 1 ≤ wrd w s p ∧ wrd w s p ≤ 100 ∧ w.1 80 (16 * s + p) = nI (wrd w s p) ∧ w.1 4 (16 * s + p) = nI (wrd w s p)) ∧
  (∀ s, s < cm w → (w.1 81 s = 0 ∧ w.1 6 s = 1) ∨ (w.1 81 s = 1 ∧ w.1 6 s = 0)) ∧ (∀ s, cm w ≤ s → w.1 81 s = 0) ∧
  w.1 3 6 = nI (ct (fun s => decide (w.1 81 s = 0)) (cm w))
theorem SenI.mv {w w' : Wd} (h : SenI w) (e1 : w'.1 58 28 = w.1 58 28) (e2 : w'.1 58 30 = w.1 58 30) (e3 : w'.1 3 = w.1 3) (e4 : w'.1 4 = w.1 4) (e5 : w'.1 5 = w.1 5) (e6 : w'.1 6 = w.1 6) (e7 : w'.1 7 = w.1 7) (e8 : w'.1 78 = w.1 78) (e9 : w'.1 79 = w.1 79) (e10 : w'.1 80 = w.1 80) (e11 : w'.1 81 = w.1 81) : SenI w' := by
  unfold SenI td cm len wrd N at *
  rw [e1, e2, e3, e4, e5, e6, e7, e8, e9, e10, e11]
  exact h
/-- x is the number of a sentence that is there -/
def isT (w : Wd) (x : Int32) : Prop := ∃ s, s < cm w ∧ x = nI s ∧ thr w s
theorem lt0 {x : Int32} (h : x < 0) : x.toInt < 0 := by
  rw [i_lt, i_z] at h
  exact h
theorem nlt0 {x : Int32} (h : ¬ x < 0) : 0 ≤ x.toInt := by
  rw [i_lt, i_z] at h
  omega
theorem le_nI {n : Nat} {x : Int32} (hn : n < 2147483648 := by omega) : nI n ≤ x ↔ (n : Int) ≤ x.toInt := by rw [i_le, nI_toInt hn]
theorem nI_le' {n : Nat} {x : Int32} (hn : n < 2147483648 := by omega) : x ≤ nI n ↔ x.toInt ≤ (n : Int) := by rw [i_le, nI_toInt hn]
theorem lt_nI {n : Nat} {x : Int32} (hn : n < 2147483648 := by omega) : x < nI n ↔ x.toInt < (n : Int) := by rw [i_lt, nI_toInt hn]
theorem nI_lt' {n : Nat} {x : Int32} (hn : n < 2147483648 := by omega) : nI n < x ↔ (n : Int) < x.toInt := by rw [i_lt, nI_toInt hn]
theorem c_Sentences_tell {d : Nat} {w : Wd} (h : SenI w) (x : Int32) : EvI m_Sentences_tell d [.ref 3, .int x] w (fun r w' => (td w < 16 ∧ r = nI (td w + 1) ∧ w' = up1 (up1 w 7 (td w) x) 3 4 (nI (td w + 1))) ∨ (td w = 16 ∧ r = -nI 1 ∧ w' = w)) := by
  obtain ⟨⟨h1, h2, h3⟩, -⟩ := h
  refine ev_Sentences_tell x (vc_Sentences_tell_0 x ?_)
  rw [h3, nI_add]
  refine ⟨fun h => ⟨td w, rfl, ?_, Or.inl ⟨?_, rfl, rfl⟩⟩, fun h => Or.inr ⟨?_, rfl, rfl⟩⟩
  all_goals (rw [nI_ltI (by omega) (by decide)] at h; omega)
theorem c_Sentences_isThere {d : Nat} {w : Wd} (h : SenI w) (x : Int32) : EvI m_Sentences_isThere d [.ref 3, .int x] w (fun r w' => w' = w ∧ Bo (isT w x) r) := by
  obtain ⟨-, -, ⟨h1, h2, h3⟩, -, -, h4, -, -⟩ := h
  refine ev_Sentences_isThere x (vc_Sentences_isThere_0 x ?_)
  rw [h3]
  refine ⟨fun g => ⟨Or.inl rfl, rfl, Bo.f ?_⟩, fun g => ⟨fun g2 => ⟨Or.inl rfl, rfl, Bo.f ?_⟩, fun g2 => ?_⟩⟩
  · rintro ⟨s, a, rfl, -⟩
    have := lt0 g
    rw [nI_toInt (by omega)] at this
    omega
  · rintro ⟨s, a, rfl, -⟩
    rw [nI_leI (by omega) (by omega)] at g2
    omega
  · rw [le_nI] at g2
    obtain ⟨s, -, rfl, e⟩ := i_nat (nlt0 g)
    refine ⟨s, rfl, by omega, fun g3 => ⟨Or.inl rfl, rfl, Bo.f ?_⟩, fun g3 => ⟨Or.inr rfl, rfl, Bo.t ⟨s, by omega, rfl, ?_⟩⟩⟩
    · rintro ⟨s', a, e', b⟩
      have := nI_inj (by omega) (by omega) e'
      subst this
      rcases h4 s a with ⟨-, k⟩ | ⟨k, -⟩
      · rw [g3] at k; exact absurd k (by decide)
      · rw [b] at k; exact absurd k (by decide)
    · rcases h4 s (by omega) with ⟨k, -⟩ | ⟨-, k⟩
      · exact k
      · exact absurd k g3
theorem c_M_isThere {d : Nat} {w : Wd} (h : SenI w) (x : Int32) : EvI m_M_isThere d [.ref 58, .int x] w (fun r w' => w' = w ∧ Bo (isT w x) r) := by
  obtain ⟨-, -, ⟨h1, h2, h3⟩, -, -, h4, -, -⟩ := h
  refine ev_M_isThere x (vc_M_isThere_0 x ?_)
  rw [h2]
  refine ⟨fun g => ⟨Or.inl rfl, rfl, Bo.f ?_⟩, fun g => ⟨fun g2 => ⟨Or.inl rfl, rfl, Bo.f ?_⟩, fun g2 => ?_⟩⟩
  · rintro ⟨s, a, rfl, -⟩
    have := lt0 g
    rw [nI_toInt (by omega)] at this
    omega
  · rintro ⟨s, a, rfl, -⟩
    rw [nI_leI (by omega) (by omega)] at g2
    omega
  · rw [le_nI] at g2
    obtain ⟨s, -, rfl, e⟩ := i_nat (nlt0 g)
    refine ⟨s, rfl, by omega, fun g3 => ⟨Or.inl rfl, rfl, Bo.f ?_⟩, fun g3 => ⟨Or.inr rfl, rfl, Bo.t ⟨s, by omega, rfl, g3⟩⟩⟩
    rintro ⟨s', a, e', b⟩
    have := nI_inj (by omega) (by omega) e'
    subst this
    exact g3 b
theorem c_Sentences_lengthOf {d : Nat} {w : Wd} (h : SenI w) {s : Nat} (hs : s < cm w) : EvI m_Sentences_lengthOf d [.ref 3, .int (nI s)] w (fun r w' => w' = w ∧ r = nI (len w s)) := by
  obtain ⟨-, -, ⟨h1, h2, h3⟩, h4, -⟩ := h
  refine ev_Sentences_lengthOf _ (vc_Sentences_lengthOf_0 _ ?_)
  rw [h3]
  refine ⟨fun g => absurd (lt0 g) (by rw [nI_toInt (by omega)]; omega), fun g => ⟨fun g2 => ?_, fun g2 => ⟨s, rfl, by omega, rfl, (h4 s hs).2.2.2⟩⟩⟩
  rw [nI_leI (by omega) (by omega)] at g2
  omega
theorem c_Sentences_wordAt {d : Nat} {w : Wd} (h : SenI w) {s p : Nat} (hs : s < cm w) (hp : p < len w s) : EvI m_Sentences_wordAt d [.ref 3, .int (nI s), .int (nI p)] w (fun r w' => w' = w ∧ r = nI (wrd w s p)) := by
  obtain ⟨-, -, ⟨h1, h2, h3⟩, h4, h5, -⟩ := h
  obtain ⟨l1, l2, l3, l4⟩ := h4 s hs
  refine ev_Sentences_wordAt _ _ (vc_Sentences_wordAt_0 _ _ ?_)
  rw [h3]
  refine ⟨fun g => absurd (lt0 g) (by rw [nI_toInt (by omega)]; omega), fun g => ⟨fun g2 => ?_, fun g2 => ⟨fun g3 => absurd (lt0 g3) (by rw [nI_toInt (by omega)]; omega), fun g3 => ⟨s, rfl, by omega, fun g4 => ?_, fun g4 => ⟨fun g5 => absurd g5 (by decide), fun g5 => ⟨16 * s + p, ?_, by omega, rfl, (h5 s hs p hp).2.2.2⟩⟩⟩⟩⟩⟩
  · rw [nI_leI (by omega) (by omega)] at g2
    omega
  · rw [l4, nI_leI (by omega) (by omega)] at g4
    omega
  · rw [pk_mul, nI_add, Nat.mul_comm]
