/-! THE TABLE: sets of rows -/
theorem Rc.in {w : Wd} {s r n a b : Nat} (hI : ∀ i, i < n → ItI w r a b i) : ∀ {i p l t : Nat}, i ≤ n → Rc w s r i p l t → (l = 16 ∨ l < len w s) ∧ (t = 16 ∨ t < len w s)
  | 0, _, _, _, _, h => ⟨Or.inl h.2.1, Or.inl h.2.2⟩
  | i + 1, q, l', t', hi, ⟨p, l, t, h, hS, e1, e2⟩ => by
    obtain ⟨h1, h2⟩ := Rc.in hI (by omega) h
    have key : ∀ v, sd w r i = v → v = 1 ∨ v = 2 → p < len w s := fun v hv h12 => by
      rcases hS with ⟨z, -⟩ | ⟨-, z, -⟩
      · rcases hI i (by omega) with ⟨-, -, k, -⟩ | ⟨k, -⟩
        · rw [show sd w r i = 0 from N_of k] at hv; omega
        · rw [k] at z; exact absurd z (by decide)
      · exact z
    rw [e1, e2]
    constructor
    · split
      · rename_i g; exact Or.inr (key 1 g (by omega))
      · exact h1
    · split
      · rename_i g; exact Or.inr (key 2 g (by omega))
      · exact h2
theorem Fnd.in {w : Wd} (hC : CtI w) {s k l t : Nat} (h : Fnd w s k l t) : s < cm w ∧ k < nr w ∧ l < len w s ∧ t < len w s := by
  obtain ⟨h1, h2, h3, h4, h5, p, h6⟩ := h
  obtain ⟨-, -, a, b, -, -, -, -, -, hI⟩ := hC.2.2.2.2.1 k h3
  obtain ⟨g1, g2⟩ := Rc.in hI (Nat.le_refl _) h6
  exact ⟨h1, h3, by omega, by omega⟩
theorem nm_ok {w : Wd} (hL : LexI w) {v : Nat} (h1 : 1 ≤ v) (h2 : v ≤ 100) : 1 ≤ nmOf w v ∧ nmOf w v ≤ 100 := hL.itr 100 h1 h2
/-- rows within their bounds -/
def Dm (R : Nat → Nat → Nat → Prop) : Prop := ∀ r a b, R r a b → r < 10 ∧ 1 ≤ a ∧ a ≤ 100 ∧ 1 ≤ b ∧ b ≤ 100
theorem Bs.dm {w : Wd} (hC : CtI w) : Dm (Bs w) := by
  rintro r a b ⟨s, k, l, t, h1, -, h3, h4, h5⟩
  obtain ⟨g1, g2, g3, g4⟩ := h1.in hC
  obtain ⟨u1, u2, -⟩ := hC.2.1.2.2.2.2.1 s g1 l g3
  obtain ⟨v1, v2, -⟩ := hC.2.1.2.2.2.2.1 s g1 t g4
  have n1 := nm_ok hC.1 u1 u2
  have n2 := nm_ok hC.1 v1 v2
  have := (hC.2.2.2.2.1 k g2).1.1
  rw [h3] at this
  rw [h4] at n1
  rw [h5] at n2
  exact ⟨this, n1.1, n1.2, n2.1, n2.2⟩
theorem Rw.dm {w : Wd} (hC : CtI w) : Dm (Rw w) := fun r a b h => h _ (Bs.dm hC) (fun c hc a b e h1 h2 => by
  have := (hC.2.2.2.2.2.2.2.2.1 c hc 0 (by omega)).1
  exact ⟨this, h1.2.1, h1.2.2.1, h2.2.2.2.1, h2.2.2.2.2⟩)
/-- the class's table holds the set R -/
def TbI (R : Nat → Nat → Nat → Prop) (w : Wd) : Prop := ∀ r, r < 10 → ∀ a, 1 ≤ a → a ≤ 100 → ∃ lo hi, lo < 2 ^ 64 ∧ hi < 2 ^ 64 ∧ w.2 43 (r * 101 + a) = lN lo ∧ w.2 44 (r * 101 + a) = lN hi ∧ (∀ b, lo.testBit b = true ↔ b < 64 ∧ R r a b) ∧ (∀ b, hi.testBit b = true ↔ R r a (b + 64))
noncomputable def Rb (R : Nat → Nat → Nat → Prop) (r a b : Nat) : Bool := @decide (R r a b) (Classical.propDecidable _)
theorem Rb_iff (R : Nat → Nat → Nat → Prop) (r a b : Nat) : Rb R r a b = true ↔ R r a b := by
  unfold Rb; exact @decide_eq_true_iff _ (Classical.propDecidable _)
theorem Rb_f {R : Nat → Nat → Nat → Prop} {r a b : Nat} (h : ¬ R r a b) : Rb R r a b = false := by
  cases e : Rb R r a b with
  | false => rfl
  | true => exact absurd ((Rb_iff R r a b).mp e) h
/-- how many second names -/
noncomputable def dgr (R : Nat → Nat → Nat → Prop) (r a : Nat) : Nat := ct (fun b => Rb R r a b) 101
def FT (w0 w : Wd) : Prop := (∀ a k, ¬ (a = 42 ∧ k = 6) → w.1 a k = w0.1 a k) ∧ ∀ a, a ≠ 43 → a ≠ 44 → w.2 a = w0.2 a
theorem FT.rf {w : Wd} : FT w w := ⟨fun _ _ _ => rfl, fun _ _ _ => rfl⟩
theorem FT.tr {w w1 w2 : Wd} (h : FT w w1) (h2 : FT w1 w2) : FT w w2 := ⟨fun a k g => (h2.1 a k g).trans (h.1 a k g), fun a g1 g2 => (h2.2 a g1 g2).trans (h.2 a g1 g2)⟩
/-- only the table's longs -/
def F2 (w0 w : Wd) : Prop := w.1 = w0.1 ∧ ∀ a, a ≠ 43 → a ≠ 44 → w.2 a = w0.2 a
theorem F2.rf {w : Wd} : F2 w w := ⟨rfl, fun _ _ _ => rfl⟩
theorem F2.tr {w w1 w2 : Wd} (h : F2 w w1) (h2 : F2 w1 w2) : F2 w w2 := ⟨h2.1.trans h.1, fun a g1 g2 => (h2.2 a g1 g2).trans (h.2 a g1 g2)⟩
theorem F2.up {w : Wd} {a k : Nat} {v : Int64} (h : a = 43 ∨ a = 44) : F2 w (up2 w a k v) := ⟨rfl, fun b h1 h2 => by
  funext j
  rw [up2_2, if_neg (by omega)]⟩
theorem F2.ft {w w' : Wd} (h : F2 w w') : FT w w' := ⟨fun a k _ => by rw [h.1], h.2⟩
section
variable {R : Nat → Nat → Nat → Prop} {w : Wd} {d : Nat}
theorem c_hasRow (h : TbI R w) {r a b : Nat} (hr : r < 10) (ha : 1 ≤ a) (ha2 : a ≤ 100) (hb : b ≤ 100) : EvI m_Table_hasRow d [.ref 42, .int (nI r), .int (nI a), .int (nI b)] w (fun x w' => w' = w ∧ Bo (R r a b) x) := by
  obtain ⟨lo, hi, h1, h2, h3, h4, h5, h6⟩ := h r hr a ha ha2
  have bit : ∀ c i, c < 2 ^ 64 → i < 64 → ((lg_cmp ((((lN c).toUInt64 >>> ((nI i).toInt64.toUInt64 &&& Int64.toUInt64 63)).toInt64) &&& (lN 1)) (lN 0)) = 0 ↔ ¬ c.testBit i = true) := fun c i hc hi => by
    rw [show lN 1 = 1 from rfl, wb_bit hc hi, lg_cmp_eq, tb_iff]
    have := Nat.mod_lt (c / 2 ^ i) (show 2 > 0 by decide)
    constructor
    · intro e
      have e := congrArg (fun x : Int64 => x.toBitVec.toNat) e
      simp only [wb_tb, BitVec.toNat_ofNat] at e
      omega
    · intro e
      rw [show c / 2 ^ i % 2 = 0 by omega]
  refine ev_Table_hasRow _ _ _ (vc_Table_hasRow_0 _ _ _ ⟨fun g => ⟨r * 101 + a, by rw [pk_mul, nI_add], by omega, ?_⟩, fun g => ⟨r * 101 + a, by rw [pk_mul, nI_add], by omega, ?_⟩⟩)
  · have g := gle g
    rw [h4, sub_nI g, bit hi (b - 64) h2 (by omega), h6, show b - 64 + 64 = b by omega]
    exact ⟨fun g => ⟨Or.inl rfl, rfl, Bo.f g⟩, fun g => ⟨Or.inr rfl, rfl, Bo.t (Classical.byContradiction g)⟩⟩
  · have g := ngle g
    rw [h3, bit lo b h1 g, h5]
    exact ⟨fun k => ⟨Or.inl rfl, rfl, Bo.f (fun x => k ⟨g, x⟩)⟩, fun k => ⟨Or.inr rfl, rfl, Bo.t (Classical.byContradiction (fun x => k (fun y => x y.2)))⟩⟩
theorem c_degree (hD : Dm R) (h : TbI R w) {r a : Nat} (hr : r < 10) (ha : 1 ≤ a) (ha2 : a ≤ 100) : EvI m_Table_degree (d + 1) [.ref 42, .int (nI r), .int (nI a)] w (fun x w' => w' = w ∧ x = nI (dgr R r a)) := by
  obtain ⟨lo, hi, h1, h2, h3, h4, h5, h6⟩ := h r hr a ha ha2
  refine ev_Table_degree _ _ (vc_Table_degree_0 _ _ ⟨r * 101 + a, by rw [pk_mul, nI_add], by omega, ?_⟩)
  rw [h3]
  refine ⟨_, c_Long_bitCount (d := d) (c := lo) h1, ?_⟩
  rintro x w1 ⟨rfl, rfl⟩
  refine ⟨r * 101 + a, by rw [pk_mul, nI_add], by omega, ?_⟩
  rw [h4]
  refine ⟨_, c_Long_bitCount (d := d) (c := hi) h2, ?_⟩
  rintro x w2 ⟨rfl, rfl⟩
  refine ⟨rfl, ?_⟩
  rw [nI_add]
  congr 1
  unfold dgr pcn
  have e1 : ct (fun b => Rb R r a b) (64 + 64) = ct (fun b => Rb R r a b) 101 := by
    rw [show (64 : Nat) + 64 = 101 + 27 from rfl, ct_add, ct_zero (n := 27), Nat.add_zero]
    intro k _
    exact Rb_f (fun x => absurd (hD _ _ _ x).2.2.2.2 (by omega))
  rw [← e1, ct_add]
  congr 1
  · exact ct_cong (fun k hk => bool_eq (by rw [h5, Rb_iff]; exact ⟨fun x => x.2, fun x => ⟨hk, x⟩⟩))
  · exact ct_cong (fun k hk => bool_eq (by rw [h6, Rb_iff, Nat.add_comm]))
def Ad (R : Nat → Nat → Nat → Prop) (r a b : Nat) : Nat → Nat → Nat → Prop := fun r' a' b' => R r' a' b' ∨ (r' = r ∧ a' = a ∧ b' = b)
theorem or_pw {lo b : Nat} (i : Nat) : (lo ||| 2 ^ b).testBit i = true ↔ lo.testBit i = true ∨ i = b := by
  rw [Nat.testBit_or, Bool.or_eq_true, Nat.testBit_two_pow, decide_eq_true_eq]
  exact ⟨fun h => h.imp id Eq.symm, fun h => h.imp id Eq.symm⟩
theorem c_addRow (h : TbI R w) {r a b : Nat} (hr : r < 10) (ha : 1 ≤ a) (ha2 : a ≤ 100) (hb : 1 ≤ b) (hb2 : b ≤ 100) : EvV m_Table_addRow (d + 1) [.ref 42, .int (nI r), .int (nI a), .int (nI b)] w (fun w' => F2 w w' ∧ TbI (Ad R r a b) w') := by
  refine ev_Table_addRow _ _ _ (vc_Table_addRow_0 _ _ _ ⟨_, c_isRelation (d := d) _, ?_⟩)
  rintro x w1 ⟨rfl, hx⟩
  refine ⟨fun g => absurd (isRl_nI hr) (hx.z g), fun _ => ⟨_, c_has (d := d) _, ?_⟩⟩
  rintro x w2 ⟨rfl, hx⟩
  refine ⟨fun g => absurd (isW_nI ha ha2) (hx.z g), fun _ => ⟨_, c_has (d := d) _, ?_⟩⟩
  rintro x w1 ⟨rfl, hx⟩
  refine ⟨fun _ => ?_, fun g => absurd (isW_nI hb hb2) (hx.z g)⟩
  obtain ⟨lo, hi, h1, h2, h3, h4, h5, h6⟩ := h r hr a ha ha2
  refine ⟨fun g => ⟨r * 101 + a, by rw [pk_mul, nI_add], by omega, r * 101 + a, by rw [pk_mul, nI_add], by omega, F2.up (Or.inr rfl), fun r' hr' a' ha' ha2' => ?_⟩, fun g => ⟨r * 101 + a, by rw [pk_mul, nI_add], by omega, r * 101 + a, by rw [pk_mul, nI_add], by omega, F2.up (Or.inl rfl), fun r' hr' a' ha' ha2' => ?_⟩⟩
  · have g := gle g
    by_cases e : r' = r ∧ a' = a
    · obtain ⟨rfl, rfl⟩ := e
      refine ⟨lo, hi ||| 2 ^ (b - 64), h1, Nat.or_lt_two_pow h2 (Nat.pow_lt_pow_right (by decide) (by omega)), by rw [up2_2, if_neg (by omega)]; exact h3, ?_, fun i => ?_, fun i => ?_⟩
      · rw [up2_2, if_pos ⟨rfl, rfl⟩, h4, sub_nI g, lN_shl1 (by omega), wb_or h2 (Nat.pow_lt_pow_right (by decide) (by omega))]
      · rw [h5]
        unfold Ad
        constructor
        · rintro ⟨x, y⟩; exact ⟨x, Or.inl y⟩
        · rintro ⟨x, y | y⟩
          · exact ⟨x, y⟩
          · omega
      · rw [or_pw, h6]
        unfold Ad
        constructor
        · rintro (x | x)
          · exact Or.inl x
          · exact Or.inr ⟨rfl, rfl, by omega⟩
        · rintro (x | x)
          · exact Or.inl x
          · exact Or.inr (by omega)
    · obtain ⟨lo', hi', k1, k2, k3, k4, k5, k6⟩ := h r' hr' a' ha' ha2'
      have ne : r' * 101 + a' ≠ r * 101 + a := by omega
      refine ⟨lo', hi', k1, k2, by rw [up2_2, if_neg (by omega)]; exact k3, by rw [up2_2, if_neg (by omega)]; exact k4, fun i => ?_, fun i => ?_⟩
      · rw [k5]
        exact and_congr_right (fun _ => ⟨Or.inl, fun y => y.elim id (fun z => absurd ⟨z.1, z.2.1⟩ e)⟩)
      · rw [k6]
        exact ⟨Or.inl, fun y => y.elim id (fun z => absurd ⟨z.1, z.2.1⟩ e)⟩
  · have g := ngle g
    by_cases e : r' = r ∧ a' = a
    · obtain ⟨rfl, rfl⟩ := e
      refine ⟨lo ||| 2 ^ b, hi, Nat.or_lt_two_pow h1 (Nat.pow_lt_pow_right (by decide) g), h2, ?_, by rw [up2_2, if_neg (by omega)]; exact h4, fun i => ?_, fun i => ?_⟩
      · rw [up2_2, if_pos ⟨rfl, rfl⟩, h3, lN_shl1 (by omega), wb_or h1 (Nat.pow_lt_pow_right (by decide) (by omega))]
      · rw [or_pw, h5]
        unfold Ad
        constructor
        · rintro (x | x)
          · exact ⟨x.1, Or.inl x.2⟩
          · exact ⟨by omega, Or.inr ⟨rfl, rfl, x⟩⟩
        · rintro ⟨x, y | y⟩
          · exact Or.inl ⟨x, y⟩
          · exact Or.inr y.2.2
      · rw [h6]
        unfold Ad
        exact ⟨Or.inl, fun y => y.elim id (fun z => by omega)⟩
    · obtain ⟨lo', hi', k1, k2, k3, k4, k5, k6⟩ := h r' hr' a' ha' ha2'
      have ne : r' * 101 + a' ≠ r * 101 + a := by omega
      refine ⟨lo', hi', k1, k2, by rw [up2_2, if_neg (by omega)]; exact k3, by rw [up2_2, if_neg (by omega)]; exact k4, fun i => ?_, fun i => ?_⟩
      · rw [k5]
        exact and_congr_right (fun _ => ⟨Or.inl, fun y => y.elim id (fun z => absurd ⟨z.1, z.2.1⟩ e)⟩)
      · rw [k6]
        exact ⟨Or.inl, fun y => y.elim id (fun z => absurd ⟨z.1, z.2.1⟩ e)⟩
end
