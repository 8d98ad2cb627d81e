/-! HOW MANY BITS, by the JDK's way -/
def val : List Nat → Nat
  | [] => 0
  | b :: t => b + 256 * val t
theorem tb256 {q b i : Nat} (hb : b < 256) : (b + 256 * q).testBit i = if i < 8 then b.testBit i else q.testBit (i - 8) := by
  rw [Nat.add_comm, show (256 : Nat) = 2 ^ 8 from rfl, Nat.testBit_two_pow_mul_add q (show b < 2 ^ 8 from hb) i]
theorem and256 {q b m c : Nat} (hb : b < 256) (hc : c < 256) : (b + 256 * q) &&& (c + 256 * m) = (b &&& c) + 256 * (q &&& m) := by
  have h3 : b &&& c < 256 := Nat.lt_of_le_of_lt Nat.and_le_left hb
  apply Nat.eq_of_testBit_eq
  intro i
  rw [Nat.testBit_and, tb256 hb, tb256 hc, tb256 h3]
  split
  · rw [Nat.testBit_and]
  · rw [Nat.testBit_and]
def byts (l : List Nat) : Prop := ∀ b ∈ l, b < 256
theorem val_and {c : Nat} (hc : c < 256) : ∀ l : List Nat, byts l → val l &&& val (l.map (fun _ => c)) = val (l.map (fun b => b &&& c))
  | [], _ => by simp [val]
  | b :: t, h => by
    simp only [List.map_cons, val]
    rw [and256 (h b List.mem_cons_self) hc, val_and hc t (fun x hx => h x (List.mem_cons_of_mem _ hx))]
theorem h55 : ∀ y, y < 256 → y &&& 85 = (y % 128) &&& 85 := by decide +kernel
theorem h33 : ∀ y, y < 256 → y &&& 51 = (y % 64) &&& 51 := by decide +kernel
theorem val_h55 : ∀ l : List Nat, byts l → val l / 2 &&& val (l.map (fun _ => 85)) = val (l.map (fun b => b / 2 &&& 85))
  | [], _ => rfl
  | b :: t, h => by
    have hb := h b List.mem_cons_self
    simp only [List.map_cons, val]
    have e : (b + 256 * val t) / 2 = (b / 2 + 128 * (val t % 2)) + 256 * (val t / 2) := by omega
    have e2 : (b / 2 + 128 * (val t % 2)) % 128 = b / 2 := by omega
    rw [e, and256 (by omega) (by decide), val_h55 t (fun x hx => h x (List.mem_cons_of_mem _ hx)), h55 _ (by omega), e2]
theorem val_h33 : ∀ l : List Nat, byts l → val l / 4 &&& val (l.map (fun _ => 51)) = val (l.map (fun b => b / 4 &&& 51))
  | [], _ => rfl
  | b :: t, h => by
    have hb := h b List.mem_cons_self
    simp only [List.map_cons, val]
    have e : (b + 256 * val t) / 4 = (b / 4 + 64 * (val t % 4)) + 256 * (val t / 4) := by omega
    have e2 : (b / 4 + 64 * (val t % 4)) % 64 = b / 4 := by omega
    rw [e, and256 (by omega) (by decide), val_h33 t (fun x hx => h x (List.mem_cons_of_mem _ hx)), h33 _ (by omega), e2]
theorem val_sub {f : Nat → Nat} : ∀ l : List Nat, (∀ b ∈ l, f b ≤ b) → val l - val (l.map f) = val (l.map (fun b => b - f b)) ∧ val (l.map f) ≤ val l
  | [], _ => ⟨rfl, Nat.le_refl _⟩
  | b :: t, h => by
    obtain ⟨h1, h2⟩ := val_sub t (fun x hx => h x (List.mem_cons_of_mem _ hx))
    have hb := h b List.mem_cons_self
    simp only [List.map_cons, val]
    rw [← h1]
    omega
theorem val_add {f g : Nat → Nat} : ∀ l : List Nat, val (l.map f) + val (l.map g) = val (l.map (fun b => f b + g b))
  | [] => rfl
  | b :: t => by
    have := val_add (f := f) (g := g) t
    simp only [List.map_cons, val]
    rw [← this]
    omega
theorem and15 (x : Nat) : x &&& 15 = x % 16 := Nat.and_two_pow_sub_one_eq_mod x 4
theorem val_nib : ∀ l : List Nat, (∀ b ∈ l, b % 16 ≤ 4 ∧ b / 16 ≤ 4) → (val l + val l / 16) &&& val (l.map (fun _ => 15)) = val (l.map (fun b => (b + b / 16) &&& 15))
  | [], _ => rfl
  | b :: t, h => by
    have hb := h b List.mem_cons_self
    have ht : val t % 16 ≤ 4 := by
      cases t with
      | nil => decide
      | cons b2 t2 =>
        have := (h b2 (List.mem_cons_of_mem _ List.mem_cons_self)).1
        simp only [val]
        omega
    simp only [List.map_cons, val]
    have e : b + 256 * val t + (b + 256 * val t) / 16 = (b + b / 16 + 16 * (val t % 16)) + 256 * (val t + val t / 16) := by omega
    rw [e, and256 (by omega) (by decide), val_nib t (fun x hx => h x (List.mem_cons_of_mem _ hx)), and15, and15]
    have e2 : (b + b / 16 + 16 * (val t % 16)) % 16 = (b + b / 16) % 16 := by omega
    rw [e2]
def s1 (b : Nat) : Nat := b - (b / 2 &&& 85)
def s2 (b : Nat) : Nat := (s1 b &&& 51) + (s1 b / 4 &&& 51)
def s3 (b : Nat) : Nat := (s2 b + s2 b / 16) &&& 15
theorem s1_ok : ∀ b, b < 256 → s1 b < 256 ∧ (b / 2 &&& 85) ≤ b := by decide +kernel
theorem s2_ok : ∀ b, b < 256 → s2 b % 16 ≤ 4 ∧ s2 b / 16 ≤ 4 := by decide +kernel
theorem s3_ok : ∀ b, b < 256 → s3 b = pcn 8 b := by decide +kernel
/-- the first three lines -/
theorem pop3 (l : List Nat) (h : byts l) : ∃ c1 c2, c1 = val l - (val l / 2 &&& val (l.map (fun _ => 85))) ∧ (val l / 2 &&& val (l.map (fun _ => 85))) ≤ val l ∧ c2 = (c1 &&& val (l.map (fun _ => 51))) + (c1 / 4 &&& val (l.map (fun _ => 51))) ∧ c1 = val (l.map s1) ∧ c2 = val (l.map s2) ∧ (c2 + c2 / 16) &&& val (l.map (fun _ => 15)) = val (l.map (fun b => pcn 8 b)) := by
  have e0 := val_h55 l h
  obtain ⟨e1, e2⟩ := val_sub (f := fun b => b / 2 &&& 85) l (fun b hb => (s1_ok b (h b hb)).2)
  have h1 : byts (l.map s1) := by
    intro b hb
    obtain ⟨a, ha, rfl⟩ := List.mem_map.mp hb
    exact (s1_ok a (h a ha)).1
  have m1 : ∀ c : Nat, (l.map s1).map (fun _ => c) = l.map (fun _ => c) := fun c => by rw [List.map_map]; rfl
  have m2 : ∀ c : Nat, (l.map s2).map (fun _ => c) = l.map (fun _ => c) := fun c => by rw [List.map_map]; rfl
  have e3 := val_and (c := 51) (by decide) (l.map s1) h1
  have e4 := val_h33 (l.map s1) h1
  rw [m1, List.map_map] at e3 e4
  have e5 := val_nib (l.map s2) (by
    intro b hb
    obtain ⟨a, ha, rfl⟩ := List.mem_map.mp hb
    exact s2_ok a (h a ha))
  rw [m2, List.map_map] at e5
  have k1 : val l - (val l / 2 &&& val (l.map (fun _ => 85))) = val (l.map s1) := by rw [e0, e1]; rfl
  have k2 : (val (l.map s1) &&& val (l.map (fun _ => 51))) + (val (l.map s1) / 4 &&& val (l.map (fun _ => 51))) = val (l.map s2) := by
    rw [e3, e4, val_add]
    rfl
  refine ⟨_, _, rfl, by rw [e0]; exact e2, rfl, k1, by rw [k1, k2], ?_⟩
  rw [k1, k2, e5]
  congr 1
  apply List.map_congr_left
  intro b hb
  exact s3_ok b (h b hb)
theorem pcn_byte (n b v : Nat) (hb : b < 256) : pcn (8 + n) (b + 256 * v) = pcn 8 b + pcn n v := by
  unfold pcn
  rw [ct_add]
  congr 1
  · apply ct_cong
    intro k hk
    rw [tb256 hb, if_pos hk]
  · apply ct_cong
    intro k _
    rw [tb256 hb, if_neg (by omega), show 8 + k - 8 = k by omega]
theorem pcn_val : ∀ l : List Nat, byts l → pcn (8 * l.length) (val l) = sumN (fun i => pcn 8 (l.getD i 0)) l.length
  | [], _ => rfl
  | b :: t, h => by
    have ih := pcn_val t (fun x hx => h x (List.mem_cons_of_mem _ hx))
    rw [List.length_cons, show 8 * (t.length + 1) = 8 + 8 * t.length by omega]
    simp only [val]
    rw [pcn_byte _ _ _ (h b List.mem_cons_self), ih]
    have : ∀ (f : Nat → Nat) n, sumN f (n + 1) = f 0 + sumN (fun i => f (i + 1)) n := by
      intro f n
      induction n with
      | zero => simp [sumN]
      | succ n ihn => rw [sumN, ihn, sumN]; omega
    rw [this]
    rfl
theorem wb_tb (n : Nat) : (lN n).toBitVec = BitVec.ofNat 64 n := rfl
theorem wb_inj {a b : Int64} (h : a.toBitVec = b.toBitVec) : a = b := Int64.toBitVec_inj.mp h
theorem wb_tn {n : Nat} (h : n < 2 ^ 64) : (lN n).toBitVec.toNat = n := by rw [wb_tb, BitVec.toNat_ofNat, Nat.mod_eq_of_lt h]
theorem wb_of (x : Int64) : ∃ n, n < 2 ^ 64 ∧ x = lN n := ⟨x.toBitVec.toNat, x.toBitVec.isLt, wb_inj (by rw [wb_tb]; simp)⟩
theorem wb_of32 (x : Int32) : ∃ n, n < 2 ^ 32 ∧ x = nI n := ⟨x.toBitVec.toNat, x.toBitVec.isLt, Int32.toBitVec_inj.mp (by show _ = BitVec.ofNat 32 _; simp)⟩
theorem wb_c : ∀ k, k < 64 → ((nI k).toInt64 &&& 63) = lN k := by decide +kernel
theorem wb_cu : ∀ k, k < 64 → ((nI k).toInt64.toUInt64 &&& Int64.toUInt64 63) = UInt64.ofNat k := by decide +kernel
theorem wb_sm : ∀ k, k < 64 → (BitVec.ofNat 64 k).smod 64 = BitVec.ofNat 64 k := by decide +kernel
theorem wb_pw {a b : Nat} (h : a ≤ b) : 2 ^ b = 2 ^ a * 2 ^ (b - a) := by rw [← Nat.pow_add]; congr 1; omega
theorem wb_lt2 {a b : Nat} (h : a < b) : 2 ^ a < 2 ^ b := Nat.pow_lt_pow_right (by decide) h
theorem wb_mod (n : Nat) : lN n = lN (n % 2 ^ 64) := wb_inj (by rw [wb_tb, wb_tb]; apply BitVec.eq_of_toNat_eq; rw [BitVec.toNat_ofNat, BitVec.toNat_ofNat, Nat.mod_mod])
theorem wb_shr {n k : Nat} (hn : n < 2 ^ 64) (hk : k < 64) : ((lN n).toUInt64 >>> ((nI k).toInt64.toUInt64 &&& Int64.toUInt64 63)).toInt64 = lN (n / 2 ^ k) := by
  rw [wb_cu k hk]
  apply wb_inj
  apply BitVec.eq_of_toNat_eq
  show ((lN n).toUInt64 >>> UInt64.ofNat k).toNat = (BitVec.ofNat 64 _).toNat
  have h1 : (UInt64.ofNat k).toNat = k := by
    show (BitVec.ofNat 64 k).toNat = k
    rw [BitVec.toNat_ofNat, Nat.mod_eq_of_lt (by omega)]
  have h2 : (lN n).toUInt64.toNat = n := wb_tn hn
  rw [UInt64.toNat_shiftRight, h1, h2, Nat.mod_eq_of_lt hk, Nat.shiftRight_eq_div_pow, BitVec.toNat_ofNat, Nat.mod_eq_of_lt (Nat.lt_of_le_of_lt (Nat.div_le_self _ _) hn)]
theorem wb_shl (n : Nat) {k : Nat} (hk : k < 64) : lN n <<< ((nI k).toInt64 &&& 63) = lN (n * 2 ^ k) := by
  rw [wb_c k hk]
  apply wb_inj
  rw [Int64.toBitVec_shiftLeft, wb_tb, wb_tb, wb_tb, wb_sm k hk]
  apply BitVec.eq_of_toNat_eq
  rw [BitVec.shiftLeft_eq', BitVec.toNat_shiftLeft, BitVec.toNat_ofNat, BitVec.toNat_ofNat, BitVec.toNat_ofNat, Nat.mod_eq_of_lt (show k < 2 ^ 64 by omega), Nat.shiftLeft_eq, Nat.mul_mod, Nat.mod_mod, ← Nat.mul_mod]
theorem wb_and {a b : Nat} (ha : a < 2 ^ 64) (hb : b < 2 ^ 64) : lN a &&& lN b = lN (a &&& b) := by
  apply wb_inj
  rw [Int64.toBitVec_and, wb_tb, wb_tb, wb_tb]
  apply BitVec.eq_of_toNat_eq
  rw [BitVec.toNat_and, BitVec.toNat_ofNat, BitVec.toNat_ofNat, BitVec.toNat_ofNat, Nat.mod_eq_of_lt ha, Nat.mod_eq_of_lt hb, Nat.mod_eq_of_lt (Nat.and_lt_two_pow _ hb)]
theorem wb_or {a b : Nat} (ha : a < 2 ^ 64) (hb : b < 2 ^ 64) : lN a ||| lN b = lN (a ||| b) := by
  apply wb_inj
  rw [Int64.toBitVec_or, wb_tb, wb_tb, wb_tb]
  apply BitVec.eq_of_toNat_eq
  rw [BitVec.toNat_or, BitVec.toNat_ofNat, BitVec.toNat_ofNat, BitVec.toNat_ofNat, Nat.mod_eq_of_lt ha, Nat.mod_eq_of_lt hb, Nat.mod_eq_of_lt (Nat.or_lt_two_pow ha hb)]
theorem wb_mask {n k : Nat} (hn : n < 2 ^ 64) (hk : k < 64) : lN n &&& lN (2 ^ k - 1) = lN (n % 2 ^ k) := by
  rw [wb_and hn (by have := wb_lt2 hk; omega), Nat.and_two_pow_sub_one_eq_mod]
theorem wb_a1 {n : Nat} (hn : n < 2 ^ 64) : lN n &&& 1 = lN (n % 2) := wb_mask (k := 1) hn (by decide)
theorem wb_bit {n k : Nat} (hn : n < 2 ^ 64) (hk : k < 64) : ((lN n).toUInt64 >>> ((nI k).toInt64.toUInt64 &&& Int64.toUInt64 63)).toInt64 &&& 1 = lN (n / 2 ^ k % 2) := by
  rw [wb_shr hn hk, wb_a1 (Nat.lt_of_le_of_lt (Nat.div_le_self _ _) hn)]
theorem ushr_nI {n : Nat} (hn : n < 4294967296) (k : Nat) (hk : k < 32) : ((nI n).toUInt32 >>> ((nI k).toUInt32 &&& Int32.toUInt32 31)).toInt32 = nI (n / 2 ^ k) := by
  have h : ∀ k, k < 32 → (((nI k).toUInt32 &&& Int32.toUInt32 31).toBitVec % 32).toNat = k := by decide
  exact pk_ushrN hn _ k (h k hk)
theorem vdiv {b : Nat} (t : List Nat) (hb : b < 256) : val (b :: t) / 256 = val t := by
  simp only [val]
  omega
theorem vadd : ∀ l m : List Nat, l.length = m.length → val l + val m = val (List.zipWith (fun a b => a + b) l m)
  | [], [], _ => rfl
  | a :: l, b :: m, h => by
    have := vadd l m (by simpa using h)
    simp only [List.zipWith_cons_cons, val]
    rw [← this]
    omega
  | [], b :: m, h => by simp at h
  | a :: l, [], h => by simp at h
theorem vzero : ∀ l : List Nat, val (l ++ [0]) = val l
  | [] => rfl
  | b :: t => by
    have := vzero t
    simp only [List.cons_append, val]
    rw [this]
theorem popL (q0 q1 q2 q3 q4 q5 q6 q7 : Nat) (p0 : q0 ≤ 8) (p1 : q1 ≤ 8) (p2 : q2 ≤ 8) (p3 : q3 ≤ 8) (p4 : q4 ≤ 8) (p5 : q5 ≤ 8) (p6 : q6 ≤ 8) (p7 : q7 ≤ 8) :
    (val [q0, q1, q2, q3, q4, q5, q6, q7] + val [q0, q1, q2, q3, q4, q5, q6, q7] / 256 + (val [q0, q1, q2, q3, q4, q5, q6, q7] + val [q0, q1, q2, q3, q4, q5, q6, q7] / 256) / 65536 + (val [q0, q1, q2, q3, q4, q5, q6, q7] + val [q0, q1, q2, q3, q4, q5, q6, q7] / 256 + (val [q0, q1, q2, q3, q4, q5, q6, q7] + val [q0, q1, q2, q3, q4, q5, q6, q7] / 256) / 65536) / 4294967296) % 128 = q0 + q1 + q2 + q3 + q4 + q5 + q6 + q7 := by
  have a1 : val [q0, q1, q2, q3, q4, q5, q6, q7] / 256 = val [q1, q2, q3, q4, q5, q6, q7, 0] := by
    rw [vdiv _ (by omega)]
    exact (vzero [q1, q2, q3, q4, q5, q6, q7]).symm
  have a2 : val [q0, q1, q2, q3, q4, q5, q6, q7] + val [q1, q2, q3, q4, q5, q6, q7, 0] = val [q0 + q1, q1 + q2, q2 + q3, q3 + q4, q4 + q5, q5 + q6, q6 + q7, q7 + 0] := vadd _ _ rfl
  have d2 : ∀ (x y : Nat) (t : List Nat), x < 256 → y < 256 → val (x :: y :: t) / 65536 = val t := by
    intro x y t hx hy
    rw [show (65536 : Nat) = 256 * 256 from rfl, ← Nat.div_div_eq_div_mul, vdiv _ hx, vdiv _ hy]
  have a3 : val [q0 + q1, q1 + q2, q2 + q3, q3 + q4, q4 + q5, q5 + q6, q6 + q7, q7 + 0] / 65536 = val [q2 + q3, q3 + q4, q4 + q5, q5 + q6, q6 + q7, q7 + 0, 0, 0] := by
    rw [d2 _ _ _ (by omega) (by omega)]
    exact ((vzero [q2 + q3, q3 + q4, q4 + q5, q5 + q6, q6 + q7, q7 + 0, 0]).trans (vzero [q2 + q3, q3 + q4, q4 + q5, q5 + q6, q6 + q7, q7 + 0])).symm
  have a4 : val [q0 + q1, q1 + q2, q2 + q3, q3 + q4, q4 + q5, q5 + q6, q6 + q7, q7 + 0] + val [q2 + q3, q3 + q4, q4 + q5, q5 + q6, q6 + q7, q7 + 0, 0, 0] = val [q0 + q1 + (q2 + q3), q1 + q2 + (q3 + q4), q2 + q3 + (q4 + q5), q3 + q4 + (q5 + q6), q4 + q5 + (q6 + q7), q5 + q6 + (q7 + 0), q6 + q7 + 0, q7 + 0 + 0] := vadd _ _ rfl
  have a5 : val [q0 + q1 + (q2 + q3), q1 + q2 + (q3 + q4), q2 + q3 + (q4 + q5), q3 + q4 + (q5 + q6), q4 + q5 + (q6 + q7), q5 + q6 + (q7 + 0), q6 + q7 + 0, q7 + 0 + 0] / 4294967296 = val [q4 + q5 + (q6 + q7), q5 + q6 + (q7 + 0), q6 + q7 + 0, q7 + 0 + 0] := by
    rw [show (4294967296 : Nat) = 65536 * 65536 from rfl, ← Nat.div_div_eq_div_mul, d2 _ _ _ (by omega) (by omega), d2 _ _ _ (by omega) (by omega)]
  rw [a1, a2, a3, a4, a5]
  rw [show val [q0 + q1 + (q2 + q3), q1 + q2 + (q3 + q4), q2 + q3 + (q4 + q5), q3 + q4 + (q5 + q6), q4 + q5 + (q6 + q7), q5 + q6 + (q7 + 0), q6 + q7 + 0, q7 + 0 + 0] = q0 + q1 + (q2 + q3) + 256 * val [q1 + q2 + (q3 + q4), q2 + q3 + (q4 + q5), q3 + q4 + (q5 + q6), q4 + q5 + (q6 + q7), q5 + q6 + (q7 + 0), q6 + q7 + 0, q7 + 0 + 0] from rfl, show val [q4 + q5 + (q6 + q7), q5 + q6 + (q7 + 0), q6 + q7 + 0, q7 + 0 + 0] = q4 + q5 + (q6 + q7) + 256 * val [q5 + q6 + (q7 + 0), q6 + q7 + 0, q7 + 0 + 0] from rfl]
  generalize val [q1 + q2 + (q3 + q4), q2 + q3 + (q4 + q5), q3 + q4 + (q5 + q6), q4 + q5 + (q6 + q7), q5 + q6 + (q7 + 0), q6 + q7 + 0, q7 + 0 + 0] = A
  generalize val [q5 + q6 + (q7 + 0), q6 + q7 + 0, q7 + 0 + 0] = B
  omega
theorem c_Integer_bitCount {d : Nat} {w : Wd} {c : Nat} (hc : c < 4294967296) : EvI m_Integer_bitCount d [.int (nI c)] w (fun r w' => w' = w ∧ r = nI (pcn 32 c)) := by
  have hl : byts [c % 256, c / 256 % 256, c / 65536 % 256, c / 16777216] := by
    intro b hb
    simp only [List.mem_cons, List.not_mem_nil, or_false] at hb
    rcases hb with rfl | rfl | rfl | rfl <;> omega
  have hv : val [c % 256, c / 256 % 256, c / 65536 % 256, c / 16777216] = c := by simp only [val]; omega
  obtain ⟨c1, c2, e1, e2, e3, e4, e5, e6⟩ := pop3 _ hl
  have hp := pcn_val _ hl
  rw [hv] at e1 e2 hp
  simp only [List.length_cons, List.length_nil, sumN, List.getD_cons_zero, List.getD_cons_succ] at hp
  simp only [List.map_cons, List.map_nil, val] at e1 e2 e3 e6
  have p0 := pcn_le 8 (c % 256)
  have p1 := pcn_le 8 (c / 256 % 256)
  have p2 := pcn_le 8 (c / 65536 % 256)
  have p3 := pcn_le 8 (c / 16777216)
  generalize pcn 8 (c % 256) = q0 at hp e6 p0
  generalize pcn 8 (c / 256 % 256) = q1 at hp e6 p1
  generalize pcn 8 (c / 65536 % 256) = q2 at hp e6 p2
  generalize pcn 8 (c / 16777216) = q3 at hp e6 p3
  have l1 : c1 < 4294967296 := by omega
  have m33 : ∀ x : Nat, x &&& 858993459 ≤ 858993459 := fun x => Nat.and_le_right
  have l2 : c2 < 4294967296 := by
    have a := m33 c1
    have b := m33 (c1 / 4)
    simp only [Nat.reduceMul, Nat.reduceAdd] at e3
    omega
  simp only [Nat.reduceMul, Nat.reduceAdd] at e1 e2 e3 e6
  refine ev_Integer_bitCount _ (vc_Integer_bitCount_0 _ ?_)
  rw [ushr_nI hc 1 (by decide), show (1431655765 : Int32) = nI 1431655765 from rfl, and_nI, sub_nI e2, ← e1]
  refine vc_Integer_bitCount_10 _ ?_
  rw [ushr_nI l1 2 (by decide), show (858993459 : Int32) = nI 858993459 from rfl, and_nI, and_nI, nI_add, show (2 : Nat) ^ 2 = 4 from rfl, ← e3]
  refine vc_Integer_bitCount_24 _ ?_
  rw [ushr_nI l2 4 (by decide), show (252645135 : Int32) = nI 252645135 from rfl, nI_add, and_nI, show (2 : Nat) ^ 4 = 16 from rfl, e6]
  refine vc_Integer_bitCount_34 _ ?_
  rw [ushr_nI (by omega) 8 (by decide), nI_add]
  refine vc_Integer_bitCount_41 _ ?_
  rw [ushr_nI (by omega) 16 (by decide), nI_add]
  refine vc_Integer_bitCount_48 _ ⟨rfl, ?_⟩
  rw [pk_andN (by omega) 6 (by decide)]
  have hp' : pcn 32 c = q0 + q1 + q2 + q3 := by
    have : 8 * (0 + 1 + 1 + 1 + 1) = 32 := rfl
    rw [this] at hp
    rw [hp]
    omega
  rw [hp']
  congr 1
  simp only [Nat.reducePow]
  have d1 : (q0 + 256 * (q1 + 256 * (q2 + 256 * (q3 + 0)))) / 256 = q1 + 256 * (q2 + 256 * q3) := by omega
  rw [d1]
  have d2 : (q0 + 256 * (q1 + 256 * (q2 + 256 * (q3 + 0))) + (q1 + 256 * (q2 + 256 * q3))) / 65536 = (q2 + q3) + 256 * q3 := by omega
  rw [d2]
  omega
theorem lN_lit (n : Nat) : (OfNat.ofNat n : Int64) = lN n := rfl
def dg : Nat → Nat → List Nat
  | 0, _ => []
  | n + 1, c => c % 256 :: dg n (c / 256)
theorem dg_b : ∀ (n c : Nat), byts (dg n c)
  | 0, _, b, hb => by cases hb
  | n + 1, c, b, hb => by
    rcases List.mem_cons.mp hb with e | hb
    · omega
    · exact dg_b n (c / 256) b hb
theorem dg_v : ∀ (n c : Nat), c < 256 ^ n → val (dg n c) = c
  | 0, c, h => by
    have : c = 0 := by simpa using h
    subst this
    rfl
  | n + 1, c, h => by
    have h1 : c / 256 < 256 ^ n := by
      rw [Nat.pow_succ] at h
      exact Nat.div_lt_of_lt_mul (by rw [Nat.mul_comm]; exact h)
    simp only [dg, val]
    rw [dg_v n (c / 256) h1]
    omega
theorem hm32 (n : Nat) : nI n = nI (n % 4294967296) := by
  apply Int32.toBitVec_inj.mp
  show BitVec.ofNat 32 n = BitVec.ofNat 32 (n % 4294967296)
  apply BitVec.eq_of_toNat_eq
  rw [BitVec.toNat_ofNat, BitVec.toNat_ofNat]
  omega
/-- the Long way in numbers -/
theorem popN {c : Nat} (hc : c < 18446744073709551616) : ∃ c1 c2 c3, c1 = c - (c / 2 &&& 6148914691236517205) ∧ (c / 2 &&& 6148914691236517205) ≤ c ∧ c1 < 18446744073709551616 ∧ c2 = (c1 &&& 3689348814741910323) + (c1 / 4 &&& 3689348814741910323) ∧ c2 + c2 / 16 < 18446744073709551616 ∧ c3 = (c2 + c2 / 16) &&& 1085102592571150095 ∧ (c3 + c3 / 256 + (c3 + c3 / 256) / 65536 + (c3 + c3 / 256 + (c3 + c3 / 256) / 65536) / 4294967296) % 128 = pcn 64 c ∧ c3 ≤ 1085102592571150095 := by
  have hv := dg_v 8 c (by exact hc)
  obtain ⟨c1, c2, e1, e2, e3, e4, e5, e6⟩ := pop3 _ (dg_b 8 c)
  have hp := pcn_val _ (dg_b 8 c)
  rw [hv] at e1 e2 hp
  rw [show val ((dg 8 c).map (fun _ => 85)) = 6148914691236517205 by simp only [dg, List.map_cons, List.map_nil, val, Nat.reduceMul, Nat.reduceAdd]] at e1 e2
  rw [show val ((dg 8 c).map (fun _ => 51)) = 3689348814741910323 by simp only [dg, List.map_cons, List.map_nil, val, Nat.reduceMul, Nat.reduceAdd]] at e3
  rw [show val ((dg 8 c).map (fun _ => 15)) = 1085102592571150095 by simp only [dg, List.map_cons, List.map_nil, val, Nat.reduceMul, Nat.reduceAdd]] at e6
  have a := @Nat.and_le_right c1 3689348814741910323
  have b := @Nat.and_le_right (c1 / 4) 3689348814741910323
  refine ⟨c1, c2, _, e1, e2, by omega, e3, by omega, rfl, ?_, Nat.and_le_right⟩
  rw [e6]
  have h9 := popL (pcn 8 (c % 256)) (pcn 8 (c / 256 % 256)) (pcn 8 (c / 256 / 256 % 256)) (pcn 8 (c / 256 / 256 / 256 % 256)) (pcn 8 (c / 256 / 256 / 256 / 256 % 256)) (pcn 8 (c / 256 / 256 / 256 / 256 / 256 % 256)) (pcn 8 (c / 256 / 256 / 256 / 256 / 256 / 256 % 256)) (pcn 8 (c / 256 / 256 / 256 / 256 / 256 / 256 / 256 % 256)) (pcn_le 8 _) (pcn_le 8 _) (pcn_le 8 _) (pcn_le 8 _) (pcn_le 8 _) (pcn_le 8 _) (pcn_le 8 _) (pcn_le 8 _)
  have hp2 : pcn 64 c = 0 + pcn 8 (c % 256) + pcn 8 (c / 256 % 256) + pcn 8 (c / 256 / 256 % 256) + pcn 8 (c / 256 / 256 / 256 % 256) + pcn 8 (c / 256 / 256 / 256 / 256 % 256) + pcn 8 (c / 256 / 256 / 256 / 256 / 256 % 256) + pcn 8 (c / 256 / 256 / 256 / 256 / 256 / 256 % 256) + pcn 8 (c / 256 / 256 / 256 / 256 / 256 / 256 / 256 % 256) := hp
  rw [hp2, Nat.zero_add]
  exact h9
theorem c_Long_bitCount {d : Nat} {w : Wd} {c : Nat} (hc : c < 18446744073709551616) : EvI m_Long_bitCount d [.long (lN c)] w (fun r w' => w' = w ∧ r = nI (pcn 64 c)) := by
  obtain ⟨c1, c2, c3, e1, e2, l1, e3, l3, e4, h9, l4⟩ := popN hc
  have l2 : c2 < 18446744073709551616 := by omega
  refine ev_Long_bitCount _ (vc_Long_bitCount_0 _ ?_)
  rw [wb_shr hc (by decide), show (6148914691236517205 : Int64) = lN 6148914691236517205 from rfl, wb_and (Nat.lt_of_le_of_lt (Nat.div_le_self _ _) hc) (by decide), lN_sub e2, ← e1]
  refine vc_Long_bitCount_10 _ ?_
  rw [wb_shr l1 (by decide), show (3689348814741910323 : Int64) = lN 3689348814741910323 from rfl, wb_and l1 (by decide), wb_and (Nat.lt_of_le_of_lt (Nat.div_le_self _ _) l1) (by decide), lN_add, show (2 : Nat) ^ 2 = 4 from rfl, ← e3]
  refine vc_Long_bitCount_24 _ ?_
  rw [wb_shr l2 (by decide), show (1085102592571150095 : Int64) = lN 1085102592571150095 from rfl, lN_add, show (2 : Nat) ^ 4 = 16 from rfl, wb_and l3 (by decide), ← e4]
  refine vc_Long_bitCount_34 _ ?_
  rw [wb_shr (by omega) (by decide), lN_add, show (2 : Nat) ^ 8 = 256 from rfl]
  refine vc_Long_bitCount_41 _ ?_
  rw [wb_shr (by omega) (by decide), lN_add, show (2 : Nat) ^ 16 = 65536 from rfl]
  refine vc_Long_bitCount_48 _ ?_
  rw [wb_shr (by omega) (by decide), lN_add, show (2 : Nat) ^ 32 = 4294967296 from rfl]
  refine vc_Long_bitCount_55 _ ⟨rfl, ?_⟩
  rw [lN_i, hm32, pk_andN (Nat.mod_lt _ (by decide)) 7 (by decide), ← h9]
  congr 1
  generalize c3 + c3 / 256 + (c3 + c3 / 256) / 65536 + (c3 + c3 / 256 + (c3 + c3 / 256) / 65536) / 4294967296 = V
  omega
