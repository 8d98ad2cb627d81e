/-! THE BEST SET -/
def orS (f : Nat → Nat) (S : Nat) : Nat → Nat
  | 0 => 0
  | r + 1 => orS f S r ||| (if S.testBit r = true then f r else 0)
theorem orS_tb (f : Nat → Nat) (S : Nat) : ∀ n i, (orS f S n).testBit i = true ↔ ∃ r, r < n ∧ S.testBit r = true ∧ (f r).testBit i = true
  | 0, i => by
    rw [orS, Nat.zero_testBit]
    exact ⟨fun h => absurd h (by decide), fun ⟨r, h, _⟩ => absurd h (Nat.not_lt_zero _)⟩
  | n + 1, i => by
    rw [orS, Nat.testBit_or, Bool.or_eq_true, orS_tb f S n i]
    constructor
    · rintro (⟨r, a, b, c⟩ | h)
      · exact ⟨r, by omega, b, c⟩
      · by_cases e : S.testBit n = true
        · rw [if_pos e] at h; exact ⟨n, by omega, e, h⟩
        · rw [if_neg e, Nat.zero_testBit] at h; exact absurd h (by decide)
    · rintro ⟨r, a, b, c⟩
      by_cases e : r = n
      · subst e; right; rw [if_pos b]; exact c
      · exact Or.inl ⟨r, by omega, b, c⟩
theorem orS_lt {f : Nat → Nat} {S m : Nat} (h : ∀ r, f r < 2 ^ m) : ∀ n, orS f S n < 2 ^ m
  | 0 => by rw [orS]; exact Nat.two_pow_pos _
  | n + 1 => by
    rw [orS]
    refine Nat.or_lt_two_pow (orS_lt h n) ?_
    split
    · exact h n
    · exact Nat.two_pow_pos _
theorem orS_cong {f : Nat → Nat} {S T : Nat} : ∀ {n : Nat}, (∀ r, r < n → S.testBit r = T.testBit r) → orS f S n = orS f T n
  | 0, _ => rfl
  | n + 1, h => by rw [orS, orS, orS_cong (fun r hr => h r (by omega)), h n (by omega)]
theorem ct_sub {p q : Nat → Bool} : ∀ {n : Nat}, (∀ k, k < n → p k = true → q k = true) → ct p n ≤ ct q n
  | 0, _ => Nat.le_refl _
  | n + 1, h => by
    have ih := ct_sub (n := n) (fun k hk => h k (by omega))
    cases e : p n with
    | false =>
      rw [ct_succ_f e]
      exact Nat.le_trans ih (ct_mono (Nat.le_succ n))
    | true =>
      rw [ct_succ_t e, ct_succ_t (h n (by omega) e)]
      omega
theorem pcn_big {m n c : Nat} (hc : c < 2 ^ m) (h : m ≤ n) : pcn n c = pcn m c := by
  unfold pcn
  obtain ⟨k, rfl⟩ := Nat.le.dest h
  rw [ct_add, ct_zero (n := k) (fun j hj => ?_), Nat.add_zero]
  cases e : c.testBit (m + j) with
  | false => rfl
  | true => exact absurd (tb_lt hc e) (by omega)
section
variable (f h : Nat → Nat) (n m : Nat)
def cG (S : Nat) : Nat := pcn 64 (orS f S n)
def bc (S : Nat) : Nat := pcn 32 S
def Bt (S T : Nat) : Prop := cG f n T < cG f n S ∨ (cG f n S = cG f n T ∧ (bc S < bc T ∨ (bc S = bc T ∧ S < T)))
def Bte (S T : Nat) : Prop := S = T ∨ Bt f n S T
def VS (S : Nat) : Prop := cG h n S ≤ m
def IsB (S : Nat) : Prop := S < 2 ^ n ∧ VS h n m S ∧ ∀ T, T < 2 ^ n → VS h n m T → Bte f n S T
end
section
variable {f h : Nat → Nat} {n m : Nat}
theorem Bt.tr {S T U : Nat} (a : Bt f n S T) (b : Bt f n T U) : Bt f n S U := by
  unfold Bt at *
  omega
theorem Bte.tr {S T U : Nat} (a : Bte f n S T) (b : Bte f n T U) : Bte f n S U := by
  rcases a with rfl | a
  · exact b
  · rcases b with rfl | b
    · exact Or.inr a
    · exact Or.inr (a.tr b)
theorem Bte.of {S T : Nat} (a : ¬ Bt f n S T) : Bte f n T S := by
  unfold Bte Bt at *
  omega
theorem Bt.irr {S : Nat} : ¬ Bt f n S S := by
  unfold Bt
  omega
theorem IsB.one {S T : Nat} (a : IsB f h n m S) (b : IsB f h n m T) : S = T := by
  rcases a.2.2 T b.1 b.2.1 with e | e
  · exact e
  · rcases b.2.2 S a.1 a.2.1 with e2 | e2
    · exact e2.symm
    · exact absurd (e.tr e2) Bt.irr
theorem cG_sub {S T : Nat} (e : ∀ r, r < n → S.testBit r = true → T.testBit r = true) : cG f n S ≤ cG f n T := by
  unfold cG pcn
  refine ct_sub (fun k _ hk => ?_)
  obtain ⟨r, a, b, c⟩ := (orS_tb f S n k).mp hk
  exact (orS_tb f T n k).mpr ⟨r, a, e r a b, c⟩
/-- T without rule k -/
theorem tb_off {T k : Nat} (hk : T.testBit k = true) (i : Nat) : (T ^^^ 2 ^ k).testBit i = (T.testBit i && !decide (i = k)) := by
  rw [Nat.testBit_xor, Nat.testBit_two_pow]
  by_cases e : k = i
  · subst e; simp [hk]
  · have e' : ¬ i = k := fun x => e x.symm
    simp [e, e']
theorem bt_off {T k : Nat} (hn : n ≤ 12) (hT : T < 2 ^ n) (hk : T.testBit k = true) (hc : ∀ i, (f k).testBit i = true → ∃ r, r < k ∧ T.testBit r = true ∧ (f r).testBit i = true) : (T ^^^ 2 ^ k) < 2 ^ n ∧ (VS h n m T → VS h n m (T ^^^ 2 ^ k)) ∧ Bt f n (T ^^^ 2 ^ k) T := by
  have kn := tb_lt hT hk
  have tb := tb_off hk
  have sub : ∀ r, r < n → (T ^^^ 2 ^ k).testBit r = true → T.testBit r = true := fun r _ g => by
    rw [tb, Bool.and_eq_true] at g; exact g.1
  refine ⟨Nat.xor_lt_two_pow hT (Nat.pow_lt_pow_right (by decide) kn), fun v => Nat.le_trans (cG_sub sub) v, Or.inr ⟨?_, Or.inl ?_⟩⟩
  · refine Nat.le_antisymm (cG_sub sub) ?_
    unfold cG pcn
    refine ct_sub (fun i _ hi => ?_)
    obtain ⟨r, a, b, c⟩ := (orS_tb f T n i).mp hi
    by_cases e : r = k
    · subst e
      obtain ⟨r', a', b', c'⟩ := hc i c
      exact (orS_tb f _ n i).mpr ⟨r', by omega, by rw [tb, b', show decide (r' = r) = false by rw [decide_eq_false_iff_not]; omega]; rfl, c'⟩
    · exact (orS_tb f _ n i).mpr ⟨r, a, by rw [tb, b, show decide (r = k) = false by rw [decide_eq_false_iff_not]; exact e]; rfl, c⟩
  · unfold bc pcn
    have e := ct_off (p := fun q => T.testBit q) (q := fun q => (T ^^^ 2 ^ k).testBit q) (i := k) (n := 32) hk (by rw [tb]; simp) (by omega) (fun j _ hj => by rw [tb]; simp [hj])
    omega
end
/-! what the longs say -/
theorem lN_not (a c : Nat) : lN a &&& (lN c ^^^ (-1 : Int64)) = lN 0 ↔ ∀ i, i < 64 → a.testBit i = true → c.testBit i = true := by
  rw [← Int64.toBitVec_inj, Int64.toBitVec_and, Int64.toBitVec_xor, wb_tb, wb_tb, wb_tb, show (-1 : Int64).toBitVec = BitVec.allOnes 64 from rfl]
  constructor
  · intro e i hi ha
    have := congrArg (fun x => x.getLsbD i) e
    simp only [BitVec.getLsbD_and, BitVec.getLsbD_xor, BitVec.getLsbD_ofNat, BitVec.getLsbD_allOnes, hi, ha, decide_true, Bool.true_and, Nat.zero_testBit, Bool.xor_true] at this
    simpa using this
  · intro e
    apply BitVec.eq_of_getLsbD_eq
    intro i hi
    simp only [BitVec.getLsbD_and, BitVec.getLsbD_xor, BitVec.getLsbD_ofNat, BitVec.getLsbD_allOnes, hi, decide_true, Bool.true_and, Nat.zero_testBit, Bool.xor_true]
    cases ha : a.testBit i with
    | false => rfl
    | true => rw [e i hi ha]; rfl
theorem lN_sshr {c k : Nat} (hc : c < 2 ^ 63) (hk : k < 64) : (lN c >>> ((nI k).toInt64 &&& 63)) = lN (c / 2 ^ k) := by
  rw [wb_c k hk]
  apply wb_inj
  rw [Int64.toBitVec_shiftRight, wb_tb, wb_tb, wb_tb, wb_sm k hk]
  apply BitVec.eq_of_toNat_eq
  have hm : (BitVec.ofNat 64 c).msb = false := by
    rw [BitVec.msb_eq_false_iff_two_mul_lt, BitVec.toNat_ofNat, Nat.mod_eq_of_lt (by omega)]
    omega
  have hk' : (BitVec.ofNat 64 k).toNat = k := by rw [BitVec.toNat_ofNat]; omega
  unfold BitVec.sshiftRight'
  rw [hk', BitVec.sshiftRight_eq_of_msb_false hm, BitVec.toNat_ushiftRight, BitVec.toNat_ofNat, BitVec.toNat_ofNat, Nat.mod_eq_of_lt (show c < 2 ^ 64 by omega), Nat.shiftRight_eq_div_pow, Nat.mod_eq_of_lt (Nat.lt_of_le_of_lt (Nat.div_le_self _ _) (by omega))]
theorem c_M_bits {d c : Nat} {w : Wd} (hc : c < 2 ^ 60) : EvI m_M_bits d [.long (lN c)] w (fun r w' => w' = w ∧ r = nI (pcn 64 c)) := by
  refine ev_M_bits _ (vc_M_bits_0 _ ?_)
  rw [pcn_big (n := 64) hc (by decide)]
  refine lpU (I := fun k w' => w' = w) (G := fun k w' => Z m_M_bits d (qI (fun r w' => w' = w ∧ r = nI (pcn 60 c))) 4 [(0, .long (lN c)), (2, .int (nI (pcn k c))), (3, .int (nI k))] [] w') (M := 60) ?_ ?_ 0 (Nat.zero_le _) _ rfl
  · rintro w1 rfl
    exact vc_M_bits_4 _ _ _ ⟨fun _ => ⟨rfl, rfl⟩, fun g => absurd (mle (Nat.le_refl _)) g⟩
  · rintro k w1 hk rfl nx
    refine vc_M_bits_4 _ _ _ ⟨fun g => absurd (gle g) (by omega), fun _ => ?_⟩
    have hd : c / 2 ^ k < 2 ^ 64 := Nat.lt_of_le_of_lt (Nat.div_le_self _ _) (by omega)
    rw [lN_sshr (by omega) (by omega), show lN 1 = 1 from rfl, wb_a1 hd, lN_i, nI_add, nI_add]
    have e : pcn k c + c / 2 ^ k % 2 = pcn (k + 1) c := by
      unfold pcn
      have e2 := Nat.testBit_eq_decide_div_mod_eq (x := c) (i := k)
      rcases Nat.mod_two_eq_zero_or_one (c / 2 ^ k) with g | g
      · rw [ct_succ_f (p := fun q => c.testBit q) (by rw [e2, g]; rfl), g, Nat.add_zero]
      · rw [ct_succ_t (p := fun q => c.testBit q) (by rw [e2, g]; rfl), g]
    rw [e]
    exact nx _ rfl
