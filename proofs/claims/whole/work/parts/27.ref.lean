/-! THE REFERENCE finds all -/
theorem div_nI {a b : Nat} (ha : a < 2147483648 := by omega) (hb : b < 2147483648 := by omega) : nI a / nI b = nI (a / b) := by
  have h1 : a / b ≤ a := Nat.div_le_self a b
  apply (i_eq _ _).mpr
  rw [Int32.toInt_div_of_ne_left _ _ (fun e => by
    have := congrArg Int32.toInt e
    rw [nI_toInt ha] at this
    have h2 : Int32.minValue.toInt = -2147483648 := by decide
    omega), nI_toInt ha, nI_toInt hb, nI_toInt (by omega)]
  rfl
theorem mod_nI {a b : Nat} (ha : a < 2147483648 := by omega) (hb : b < 2147483648 := by omega) : nI a - nI a / nI b * nI b = nI (a % b) := by
  have h : a / b * b ≤ a := Nat.div_mul_le_self a b
  rw [div_nI ha hb, pk_mul, sub_nI h]
  congr 1
  have := Nat.div_add_mod a b
  rw [Nat.mul_comm] at this
  omega
/-- cells outside A are as they were -/
def Of (A : Nat → Prop) (w w' : Wd) : Prop := (∀ a, ¬ A a → w'.1 a = w.1 a) ∧ w'.2 = w.2
theorem Of.rf {A : Nat → Prop} {w : Wd} : Of A w w := ⟨fun _ _ => rfl, rfl⟩
theorem Of.tr {A : Nat → Prop} {w w1 w2 : Wd} (h : Of A w w1) (h2 : Of A w1 w2) : Of A w w2 := ⟨fun a ha => (h2.1 a ha).trans (h.1 a ha), h2.2.trans h.2⟩
theorem Of.up {A : Nat → Prop} {w : Wd} {a k : Nat} {v : Int32} (ha : A a) : Of A w (up1 w a k v) := ⟨fun b hb => up1_off b (fun e => hb (by rw [e]; exact ha)), rfl⟩
theorem Of.mo {A B : Nat → Prop} {w w' : Wd} (h : Of A w w') (hb : ∀ a, A a → B a) : Of B w w' := ⟨fun a ha => h.1 a (fun e => ha (hb a e)), h.2⟩
/-- a row of booleans as a set -/
def BS (w : Wd) (a n : Nat) (S : Nat → Prop) : Prop := ∀ k, k < n → Bo (S k) (w.1 a k)
theorem BS.cg {w : Wd} {a n : Nat} {S S' : Nat → Prop} (h : BS w a n S) (e : ∀ k, k < n → (S k ↔ S' k)) : BS w a n S' := fun k hk => (h k hk).imp (e k hk)
theorem BS.mv {w w' : Wd} {a n : Nat} {S : Nat → Prop} (h : BS w a n S) (e : w'.1 a = w.1 a) : BS w' a n S := fun k hk => by rw [e]; exact h k hk
theorem BS.up {w : Wd} {a n j : Nat} {S : Nat → Prop} (h : BS w a n S) : BS (up1 w a j (nI 1)) a n (fun k => S k ∨ k = j) := fun k hk => by
  rw [up1_1]
  by_cases e : k = j
  · rw [if_pos ⟨rfl, e⟩]; exact Bo.t (Or.inr e)
  · rw [if_neg (fun x => e x.2)]; exact (h k hk).imp ⟨Or.inl, fun x => x.elim id (fun y => absurd y e)⟩
/-- all places below j are 0 -/
theorem BS.zer {w : Wd} {a n : Nat} (h : ∀ k, k < n → w.1 a k = nI 0) : BS w a n (fun _ => False) := fun k hk => by rw [h k hk]; exact Bo.f id
def Sx (w : Wd) (s r i p l t q l' t' : Nat) : Prop := St w s r i p q ∧ l' = (if sd w r i = 1 then p else l) ∧ t' = (if sd w r i = 2 then p else t)
/-- the step, on numbers of states -/
def so (w : Wd) (s r i m k : Nat) : Prop := Sx w s r i (m / 289) (m % 289 / 17) (m % 289 % 17) (k / 289) (k % 289 / 17) (k % 289 % 17)
def en (X : Nat → Nat → Nat → Prop) (k : Nat) : Prop := X (k / 289) (k % 289 / 17) (k % 289 % 17)
theorem en_at {X : Nat → Nat → Nat → Prop} {p l t : Nat} (hl : l ≤ 16) (ht : t ≤ 16) : en X (289 * p + 17 * l + t) ↔ X p l t := by
  unfold en
  rw [show (289 * p + 17 * l + t) / 289 = p by omega, show (289 * p + 17 * l + t) % 289 = 17 * l + t by omega, show (17 * l + t) / 17 = l by omega, show (17 * l + t) % 17 = t by omega]
theorem cd_of {k p l t : Nat} (h1 : k / 289 = p) (h2 : k % 289 / 17 = l) (h3 : k % 289 % 17 = t) : k = 289 * p + (17 * l + t) := by
  have e1 := Nat.div_add_mod k 289
  have e2 := Nat.div_add_mod (k % 289) 17
  rw [h1] at e1
  rw [h2, h3] at e2
  omega
/-- the item's rows at both sides -/
theorem CtI.item {w : Wd} (h : CtI w) {r i : Nat} (hr : r < nr w) (hi : i < ni w r) : (w.1 67 (ix w r i) = 1 ∧ w.1 68 (ix w r i) = nI 0) ∨ (w.1 67 (ix w r i) = 0 ∧ (w.1 69 (ix w r i) = nI 0 ∨ w.1 69 (ix w r i) = nI 1 ∨ w.1 69 (ix w r i) = nI 2) ∧ ∃ c, c < 3 ∧ w.1 68 (ix w r i) = nI c) := by
  obtain ⟨-, -, a, b, -, -, -, -, -, hit⟩ := h.2.2.2.2.1 r hr
  rcases hit i hi with ⟨q1, -, q2, -⟩ | ⟨q1, -, -, q2, q3⟩
  · exact Or.inl ⟨q1, q2⟩
  · refine Or.inr ⟨q1, q2, _, ?_, q3⟩
    split
    · decide
    · split <;> decide
theorem CtI.ixl {w : Wd} (h : CtI w) {r i : Nat} (hr : r < nr w) (hi : i < ni w r) : ix w r i < 240 := by
  have h1 := h.2.2.1.1
  have h2 := h.2.2.2.1.1
  have h3 := (h.2.2.2.2.1 r hr).2.1.1
  show 10 * (12 * hl w + r) + i < 240
  omega
theorem c_goes {d : Nat} {w : Wd} (hC : CtI w) {s r i p g : Nat} (hs : s < cm w) (hr : r < nr w) (hi : i < ni w r) (hp : p ≤ len w s) (hg : g < 289) {S : Nat → Prop} (hS : BS w 84 4913 S) : EvV m_M_goes (d + 1) [.ref 58, .int (nI s), .int (nI (ix w r i)), .int (nI p), .int (nI g)] w (fun w' => Of (fun a => a = 84) w w' ∧ BS w' 84 4913 (fun k => S k ∨ so w s r i (289 * p + g) k)) := by
  obtain ⟨l1, l2, l3⟩ := hC.l hs
  have hix := hC.ixl hr hi
  have hlen : w.1 79 s = nI (len w s) := (hC.2.1.2.2.2.1 s hs).2.2.1
  have e1 : (289 * p + g) / 289 = p := by omega
  have e2 : (289 * p + g) % 289 = g := by omega
  have sof : ∀ k, so w s r i (289 * p + g) k ↔ Sx w s r i p (g / 17) (g % 17) (k / 289) (k % 289 / 17) (k % 289 % 17) := fun k => by unfold so; rw [e1, e2]
  refine ev_M_goes _ _ _ _ (vc_M_goes_0 _ _ _ _ ⟨ix w r i, rfl, hix, fun g0 => ⟨s, rfl, l3, ?_⟩, fun g0 => ?_⟩)
  · rcases hC.item hr hi with ⟨q1, -⟩ | ⟨q1, q2, c, hc, q3⟩
    · rw [q1] at g0; exact absurd g0 (by decide)
    have hsd : sd w r i = c := N_of q3
    have n67 : ¬ w.1 67 (ix w r i) = 1 := by rw [q1]; decide
    rw [hlen]
    refine ⟨fun g1 => ⟨Of.rf, hS.cg (fun k _ => ⟨Or.inl, fun e => e.elim id (fun e => ?_)⟩)⟩, fun g1 => ?_⟩
    · have := gle g1
      rcases ((sof k).mp e).1 with ⟨x, -⟩ | ⟨-, x, -⟩
      · exact absurd x n67
      · omega
    · have hp' := ngle g1
      obtain ⟨v1, v2, v3, -⟩ := hC.2.1.2.2.2.2.1 s hs p hp'
      have hfit : EvI m_M_fits d [.ref 58, .int (w.1 69 (ix w r i)), .int (w.1 70 (ix w r i)), .int (w.1 80 (16 * s + p))] w (fun x w' => w' = w ∧ Bo (fit w s r i p) x) := by
        rw [v3]
        exact c_M_fits _ _ q2 v1 v2
      refine ⟨ix w r i, rfl, hix, ix w r i, rfl, hix, 16 * s + p, by rw [pk_mul, nI_add], by omega, _, hfit, ?_⟩
      rintro x w1 ⟨rfl, hx⟩
      refine ⟨fun g2 => ⟨Of.rf, hS.cg (fun k _ => ⟨Or.inl, fun e => e.elim id (fun e => ?_)⟩)⟩, fun g2 => ⟨ix w1 r i, rfl, hix, ?_⟩⟩
      · rcases ((sof k).mp e).1 with ⟨x, -⟩ | ⟨-, -, x, -⟩
        · exact absurd x n67
        · exact absurd x (hx.z g2)
      have fin : ∀ l' t', l' = (if c = 1 then p else g / 17) → t' = (if c = 2 then p else g % 17) → ((nI 1 : Int32) = 0 ∨ (nI 1 : Int32) = 1) ∧ Of (fun a => a = 84) w1 (up1 w1 84 (289 * (p + 1) + 17 * l' + t') (nI 1)) ∧ BS (up1 w1 84 (289 * (p + 1) + 17 * l' + t') (nI 1)) 84 4913 (fun k => S k ∨ so w1 s r i (289 * p + g) k) := by
        intro l' t' hl' ht'
        have bl : l' ≤ 16 := by rw [hl']; split <;> omega
        have bt : t' ≤ 16 := by rw [ht']; split <;> omega
        refine ⟨Or.inr rfl, Of.up rfl, hS.up.cg (fun k hk => or_congr Iff.rfl ?_)⟩
        rw [sof]
        constructor
        · rintro rfl
          rw [show (289 * (p + 1) + 17 * l' + t') / 289 = p + 1 by omega, show (289 * (p + 1) + 17 * l' + t') % 289 = 17 * l' + t' by omega, show (17 * l' + t') / 17 = l' by omega, show (17 * l' + t') % 17 = t' by omega]
          exact ⟨Or.inr ⟨n67, hp', hx.n g2, rfl⟩, by rw [hsd]; exact hl', by rw [hsd]; exact ht'⟩
        · rintro ⟨a, b, c'⟩
          rw [hsd] at b c'
          rcases a with ⟨x, -⟩ | ⟨-, -, -, x⟩
          · exact absurd x n67
          · rw [cd_of x (b.trans hl'.symm) (c'.trans ht'.symm)]
            omega
      rw [q3]
      rcases (show c = 0 ∨ c = 1 ∨ c = 2 by omega) with rfl | rfl | rfl
      · refine ⟨fun _ => ⟨by decide, ix w1 r i, rfl, hix, ?_⟩, fun e => absurd e (by decide)⟩
        rw [q3]
        refine ⟨fun _ => ⟨by decide, 289 * (p + 1) + 17 * (g / 17) + g % 17, ?_, by omega, fin _ _ rfl rfl⟩, fun e => absurd e (by decide)⟩
        rw [mod_nI, div_nI, nI_add, pk_mul, pk_mul, nI_add, nI_add]
      · refine ⟨fun e => absurd rfl e, fun _ => ⟨ix w1 r i, rfl, hix, ?_⟩⟩
        rw [q3]
        refine ⟨fun _ => ⟨by decide, 289 * (p + 1) + 17 * p + g % 17, ?_, by omega, fin _ _ rfl rfl⟩, fun e => absurd e (by decide)⟩
        rw [mod_nI, nI_add, pk_mul, pk_mul, nI_add, nI_add]
      · refine ⟨fun _ => ⟨by decide, ix w1 r i, rfl, hix, ?_⟩, fun e => absurd e (by decide)⟩
        rw [q3]
        refine ⟨fun e => absurd rfl e, fun _ => ⟨289 * (p + 1) + 17 * (g / 17) + p, ?_, by omega, fin _ _ rfl rfl⟩⟩
        rw [div_nI, nI_add, pk_mul, pk_mul, nI_add, nI_add]
  · obtain ⟨q1, q2⟩ := (hC.item hr hi).resolve_right (fun e => g0 e.1)
    have hsd : sd w r i = 0 := N_of q2
    have sof2 : ∀ k, so w s r i (289 * p + g) k ↔ p ≤ k / 289 ∧ k / 289 ≤ p + 3 ∧ k / 289 ≤ len w s ∧ k % 289 = g := by
      intro k
      rw [sof]
      unfold Sx St
      rw [hsd, if_neg (by decide), if_neg (by decide)]
      have e1 := Nat.div_add_mod (k % 289) 17
      have e2 := Nat.div_add_mod g 17
      constructor
      · rintro ⟨⟨-, a, b, c⟩ | ⟨x, -⟩, b2, c2⟩
        · rw [b2, c2] at e1
          exact ⟨a, b, c, by omega⟩
        · exact absurd q1 x
      · rintro ⟨a, b, c, rfl⟩
        exact ⟨Or.inl ⟨q1, a, b, c⟩, rfl, rfl⟩
    have key : ∀ n q w', q + n = p + 4 → p ≤ q → (Of (fun a => a = 84) w w' ∧ BS w' 84 4913 (fun k => S k ∨ (p ≤ k / 289 ∧ k / 289 < q ∧ k / 289 ≤ len w s ∧ k % 289 = g))) → Z m_M_goes (d + 1) (qV (fun w' => Of (fun a => a = 84) w w' ∧ BS w' 84 4913 (fun k => S k ∨ so w s r i (289 * p + g) k))) 12 [(0, .ref 58), (1, .int (nI s)), (2, .int (nI (ix w r i))), (3, .int (nI p)), (4, .int (nI g)), (5, .int (nI q))] [] w' := by
      intro n
      induction n with
      | zero =>
        rintro q w' hq hpq ⟨i1, i2⟩
        refine vc_M_goes_12 _ _ _ _ _ ⟨fun _ => ⟨i1, i2.cg (fun k _ => or_congr Iff.rfl ?_)⟩, fun g1 => absurd ?_ g1⟩
        · rw [sof2]; constructor <;> rintro ⟨a, b, c, e⟩ <;> exact ⟨a, by omega, c, e⟩
        · rw [nI_add]; exact mlt (by omega)
      | succ n ih =>
        rintro q w' hq hpq ⟨i1, i2⟩
        refine vc_M_goes_12 _ _ _ _ _ ⟨fun g1 => ?_, fun _ => ⟨s, rfl, l3, ?_⟩⟩
        · rw [nI_add] at g1; exact absurd (glt g1) (by omega)
        rw [i1.1 79 (by decide), hlen]
        refine ⟨fun g1 => ⟨i1, i2.cg (fun k _ => or_congr Iff.rfl ?_)⟩, fun g1 => ?_⟩
        · have := glt g1
          rw [sof2]; constructor <;> rintro ⟨a, b, c, e⟩ <;> exact ⟨a, by omega, c, e⟩
        · have hql := nglt g1
          refine ⟨289 * q + g, by rw [pk_mul, nI_add], by omega, Or.inr rfl, ?_⟩
          rw [nI_add]
          refine ih (q + 1) _ (by omega) (by omega) ⟨i1.tr (Of.up rfl), i2.up.cg (fun k hk => ?_)⟩
          rw [or_assoc]
          refine or_congr Iff.rfl ?_
          constructor
          · rintro (⟨a, b, c, e⟩ | e)
            · exact ⟨a, by omega, c, e⟩
            · subst e; exact ⟨by omega, by omega, by omega, by omega⟩
          · rintro ⟨a, b, c, e⟩
            by_cases e2 : k / 289 = q
            · exact Or.inr (by omega)
            · exact Or.inl ⟨a, by omega, c, e⟩
    exact key 4 p w rfl (Nat.le_refl _) ⟨Of.rf, hS.cg (fun k _ => ⟨Or.inl, fun e => e.elim id (fun e => absurd e.2.1 (by omega))⟩)⟩
