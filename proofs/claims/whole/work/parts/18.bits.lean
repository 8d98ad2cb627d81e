/-! BITS: sets of places as numbers; how many bits a number has -/
theorem sub_nI {a b : Nat} (h : b ≤ a) : nI a - nI b = nI (a - b) := pk_sub h
theorem one_shl {k : Nat} (hk : k < 31) : nI 1 <<< (nI k &&& 31) = nI (2 ^ k) := by
  have h : 2 ^ k < 2 ^ 31 := Nat.pow_lt_pow_right (by decide) hk
  rw [shl_nI (by omega) (by omega), Nat.one_mul]
theorem tb_shl (n k q : Nat) : (n * 2 ^ k).testBit q = (decide (k ≤ q) && n.testBit (q - k)) := by
  rw [← Nat.shiftLeft_eq, Nat.testBit_shiftLeft]
theorem tb_shr (n k q : Nat) : (n / 2 ^ k).testBit q = n.testBit (k + q) := by
  rw [← Nat.shiftRight_eq_div_pow, Nat.testBit_shiftRight]
theorem tb_lt {n k q : Nat} (h : n < 2 ^ k) (hq : n.testBit q = true) : q < k := by
  by_cases hc : q < k
  · exact hc
  · rw [Nat.testBit_lt_two_pow (Nat.lt_of_lt_of_le h (Nat.pow_le_pow_right (by decide) (by omega)))] at hq
    cases hq
theorem tb_all (n q : Nat) : (2 ^ n - 1).testBit q = decide (q < n) := Nat.testBit_two_pow_sub_one n q
/-- a step over 'some' -/
theorem fw_some {a L q : Nat} : (((a ||| ((a * 2 ^ 1) ||| (a * 2 ^ 2)) ||| (a * 2 ^ 3)) &&& (2 ^ (L + 1) - 1)).testBit q = true) ↔ q ≤ L ∧ ∃ u, a.testBit u = true ∧ u ≤ q ∧ q ≤ u + 3 := by
  simp only [Nat.testBit_and, Nat.testBit_or, tb_shl, tb_all, Bool.and_eq_true, Bool.or_eq_true, decide_eq_true_eq]
  constructor
  · rintro ⟨h, hq⟩
    refine ⟨by omega, ?_⟩
    rcases h with (h | ⟨h1, h2⟩ | ⟨h1, h2⟩) | ⟨h1, h2⟩
    · exact ⟨q, h, by omega, by omega⟩
    · exact ⟨q - 1, h2, by omega, by omega⟩
    · exact ⟨q - 2, h2, by omega, by omega⟩
    · exact ⟨q - 3, h2, by omega, by omega⟩
  · rintro ⟨hq, u, h, h1, h2⟩
    refine ⟨?_, by omega⟩
    rcases (show u = q ∨ u = q - 1 ∧ 1 ≤ q ∨ u = q - 2 ∧ 2 ≤ q ∨ u = q - 3 ∧ 3 ≤ q by omega) with e | ⟨e, g⟩ | ⟨e, g⟩ | ⟨e, g⟩
    · subst e; exact Or.inl (Or.inl h)
    · subst e; exact Or.inl (Or.inr (Or.inl ⟨g, h⟩))
    · subst e; exact Or.inl (Or.inr (Or.inr ⟨g, h⟩))
    · subst e; exact Or.inr ⟨g, h⟩
theorem fw_spec {a f L q : Nat} : ((((a &&& f) * 2 ^ 1) &&& (2 ^ (L + 1) - 1)).testBit q = true) ↔ q ≤ L ∧ ∃ u, a.testBit u = true ∧ f.testBit u = true ∧ q = u + 1 := by
  simp only [Nat.testBit_and, tb_shl, tb_all, Bool.and_eq_true, decide_eq_true_eq]
  constructor
  · rintro ⟨⟨h1, h2, h3⟩, hq⟩
    exact ⟨by omega, q - 1, h2, h3, by omega⟩
  · rintro ⟨hq, u, h1, h2, rfl⟩
    exact ⟨⟨by omega, by simpa using h1, by simpa using h2⟩, by omega⟩
theorem bw_some {a q : Nat} : ((a ||| ((a / 2 ^ 1) ||| (a / 2 ^ 2)) ||| (a / 2 ^ 3)).testBit q = true) ↔ ∃ u, a.testBit u = true ∧ q ≤ u ∧ u ≤ q + 3 := by
  simp only [Nat.testBit_or, tb_shr, Bool.or_eq_true]
  constructor
  · rintro ((h | h | h) | h)
    · exact ⟨q, h, by omega, by omega⟩
    · exact ⟨_, h, by omega, by omega⟩
    · exact ⟨_, h, by omega, by omega⟩
    · exact ⟨_, h, by omega, by omega⟩
  · rintro ⟨u, h, h1, h2⟩
    rcases (show u = q ∨ u = 1 + q ∨ u = 2 + q ∨ u = 3 + q by omega) with e | e | e | e <;> subst e
    · exact Or.inl (Or.inl h)
    · exact Or.inl (Or.inr (Or.inl h))
    · exact Or.inl (Or.inr (Or.inr h))
    · exact Or.inr h
theorem bw_spec {a f q : Nat} : ((a / 2 ^ 1 &&& f).testBit q = true) ↔ a.testBit (q + 1) = true ∧ f.testBit q = true := by
  simp only [Nat.testBit_and, tb_shr, Bool.and_eq_true, Nat.add_comm 1 q]
/-! how many bits -/
def pcn (n c : Nat) : Nat := ct (fun q => c.testBit q) n
theorem pcn_le (n c : Nat) : pcn n c ≤ n := ct_le _ n
def sumN (f : Nat → Nat) : Nat → Nat
  | 0 => 0
  | n + 1 => sumN f n + f n
theorem sumN_cong {f g : Nat → Nat} : ∀ {n : Nat}, (∀ k, k < n → f k = g k) → sumN f n = sumN g n
  | 0, _ => rfl
  | n + 1, h => by rw [sumN, sumN, sumN_cong (fun k hk => h k (by omega)), h n (by omega)]
theorem sumN_le {f : Nat → Nat} {c : Nat} : ∀ {n : Nat}, (∀ k, k < n → f k ≤ c) → sumN f n ≤ n * c
  | 0, _ => by simp [sumN]
  | n + 1, h => by
    have h1 := sumN_le (n := n) (fun k hk => h k (by omega))
    have h2 := h n (by omega)
    rw [sumN, Nat.succ_mul]
    omega
theorem ct_add (p : Nat → Bool) (m : Nat) : ∀ n, ct p (m + n) = ct p m + ct (fun j => p (m + j)) n
  | 0 => rfl
  | n + 1 => by
    rw [← Nat.add_assoc, ct, ct, ct_add p m n, Nat.add_assoc]
theorem ct_mul (p : Nat → Bool) (n : Nat) : ∀ m, ct p (m * n) = sumN (fun i => ct (fun j => p (i * n + j)) n) m
  | 0 => by rw [Nat.zero_mul]; rfl
  | m + 1 => by rw [Nat.succ_mul, ct_add, ct_mul p n m, sumN]
theorem ct_zero {p : Nat → Bool} : ∀ {n : Nat}, (∀ k, k < n → p k = false) → ct p n = 0
  | 0, _ => rfl
  | n + 1, h => by
    rw [ct, ct_zero (fun k hk => h k (by omega)), h n (by omega)]
    rfl
theorem ct_none {p : Nat → Bool} : ∀ {n : Nat}, ct p n = 0 → ∀ k, k < n → p k = false
  | 0, _, k, hk => absurd hk (Nat.not_lt_zero k)
  | n + 1, h, k, hk => by
    rw [ct] at h
    by_cases e : k = n
    · subst e
      cases hp : p k with
      | false => rfl
      | true => rw [hp] at h; simp at h
    · exact ct_none (n := n) (by omega) k (by omega)
