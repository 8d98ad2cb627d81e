/-! MATCHING: what a find is, and its cut at left and right -/
abbrev sd (w : Wd) (r i : Nat) : Nat := N w 68 (ix w r i)
def fit (w : Wd) (s r i p : Nat) : Prop := fitP w (w.1 69 (ix w r i)) (w.1 70 (ix w r i)) (wrd w s p)
def St (w : Wd) (s r i p q : Nat) : Prop := (w.1 67 (ix w r i) = 1 ∧ p ≤ q ∧ q ≤ p + 3 ∧ q ≤ len w s) ∨ (¬ w.1 67 (ix w r i) = 1 ∧ p < len w s ∧ fit w s r i p ∧ q = p + 1)
theorem St.le {w : Wd} {s r i p q : Nat} (h : St w s r i p q) : q ≤ len w s := by
  rcases h with ⟨-, -, -, h⟩ | ⟨-, h, -, rfl⟩ <;> omega
def Go (w : Wd) (s r : Nat) : Nat → Nat → Nat → Nat → Prop
  | _, 0, p, q => p = q
  | i, m + 1, p, q => ∃ u, St w s r i p u ∧ Go w s r (i + 1) m u q
theorem Go.snoc {w : Wd} {s r : Nat} : ∀ (m i p q : Nat), Go w s r i (m + 1) p q ↔ ∃ u, Go w s r i m p u ∧ St w s r (i + m) u q
  | 0, i, p, q => by
    constructor
    · rintro ⟨u, h1, h2⟩
      have h2 : u = q := h2
      subst h2
      exact ⟨p, rfl, h1⟩
    · rintro ⟨u, h1, h2⟩
      have h1 : p = u := h1
      subst h1
      exact ⟨q, h2, rfl⟩
  | m + 1, i, p, q => by
    constructor
    · rintro ⟨u, h1, h2⟩
      obtain ⟨v, h3, h4⟩ := (Go.snoc m (i + 1) u q).mp h2
      exact ⟨v, ⟨u, h1, h3⟩, by rw [show i + (m + 1) = i + 1 + m by omega]; exact h4⟩
    · rintro ⟨v, ⟨u, h1, h3⟩, h4⟩
      exact ⟨u, h1, (Go.snoc m (i + 1) u q).mpr ⟨v, h3, by rw [show i + 1 + m = i + (m + 1) by omega]; exact h4⟩⟩
theorem Go.le {w : Wd} {s r : Nat} : ∀ {m i p q : Nat}, p ≤ len w s → Go w s r i m p q → q ≤ len w s
  | 0, _, _, _, hp, h => by have h : _ = _ := h; omega
  | _ + 1, _, _, _, _, ⟨_, h1, h2⟩ => Go.le h1.le h2
theorem Go.app {w : Wd} {s r : Nat} : ∀ {m i p q : Nat} {k z : Nat}, Go w s r i m p q → Go w s r (i + m) k q z → Go w s r i (m + k) p z
  | 0, i, p, q, k, z, h1, h2 => by
    have h1 : p = q := h1
    subst h1
    rw [Nat.zero_add]
    exact h2
  | m + 1, i, p, q, k, z, ⟨u, h1, h3⟩, h2 => by
    rw [show m + 1 + k = (m + k) + 1 by omega]
    exact ⟨u, h1, Go.app h3 (by rw [show i + 1 + m = i + (m + 1) by omega]; exact h2)⟩
theorem Go.cut {w : Wd} {s r : Nat} : ∀ {m i p z : Nat} {k : Nat}, Go w s r i (m + k) p z → ∃ q, Go w s r i m p q ∧ Go w s r (i + m) k q z
  | 0, i, p, z, k, h => ⟨p, rfl, by rw [Nat.zero_add] at h; exact h⟩
  | m + 1, i, p, z, k, h => by
    rw [show m + 1 + k = (m + k) + 1 by omega] at h
    obtain ⟨u, h1, h2⟩ := h
    obtain ⟨q, h3, h4⟩ := Go.cut h2
    exact ⟨q, ⟨u, h1, h3⟩, by rw [show i + (m + 1) = i + 1 + m by omega]; exact h4⟩
/-- the reference's table behind i items: at place p, with left l and right t (16: not yet) -/
def Rc (w : Wd) (s r : Nat) : Nat → Nat → Nat → Nat → Prop
  | 0, p, l, t => p ≤ len w s ∧ l = 16 ∧ t = 16
  | i + 1, q, l', t' => ∃ p l t, Rc w s r i p l t ∧ St w s r i p q ∧ l' = (if sd w r i = 1 then p else l) ∧ t' = (if sd w r i = 2 then p else t)
theorem Rc.le {w : Wd} {s r : Nat} : ∀ {i p l t : Nat}, Rc w s r i p l t → p ≤ len w s
  | 0, _, _, _, h => h.1
  | _ + 1, _, _, _, ⟨_, _, _, _, h, _⟩ => h.le
/-- sentence s, rule r, left l, right t: a find -/
def Fnd (w : Wd) (s r l t : Nat) : Prop := s < cm w ∧ thr w s ∧ r < nr w ∧ l < 16 ∧ t < 16 ∧ ∃ p, Rc w s r (ni w r) p l t
section
variable {w : Wd} {s r a b n : Nat}
/-- before the first of both -/
theorem Rc.lo (hs : ∀ i, i < n → sd w r i = if i = a then 1 else if i = b then 2 else 0) : ∀ (i p l t : Nat), i ≤ a → i ≤ b → i ≤ n → (Rc w s r i p l t ↔ l = 16 ∧ t = 16 ∧ ∃ p0, p0 ≤ len w s ∧ Go w s r 0 i p0 p)
  | 0, p, l, t, _, _, _ => ⟨fun h => ⟨h.2.1, h.2.2, p, h.1, rfl⟩, fun ⟨h1, h2, p0, h3, h4⟩ => ⟨by have h4 : p0 = p := h4; omega, h1, h2⟩⟩
  | i + 1, p, l, t, ha, hb, hn => by
    have e1 : ¬ sd w r i = 1 := by rw [hs i (by omega), if_neg (by omega), if_neg (by omega)]; decide
    have e2 : ¬ sd w r i = 2 := by rw [hs i (by omega), if_neg (by omega), if_neg (by omega)]; decide
    constructor
    · rintro ⟨q, l0, t0, h1, h2, h3, h4⟩
      rw [if_neg e1] at h3
      rw [if_neg e2] at h4
      obtain ⟨g1, g2, p0, g3, g4⟩ := (Rc.lo hs i q l0 t0 (by omega) (by omega) (by omega)).mp h1
      exact ⟨h3.trans g1, h4.trans g2, p0, g3, (Go.snoc i 0 p0 p).mpr ⟨q, g4, by rw [Nat.zero_add]; exact h2⟩⟩
    · rintro ⟨h1, h2, p0, h3, h4⟩
      obtain ⟨q, h5, h6⟩ := (Go.snoc i 0 p0 p).mp h4
      rw [Nat.zero_add] at h6
      exact ⟨q, 16, 16, (Rc.lo hs i q 16 16 (by omega) (by omega) (by omega)).mpr ⟨rfl, rfl, p0, h3, h5⟩, h6, by rw [if_neg e1]; exact h1, by rw [if_neg e2]; exact h2⟩
/-- from one state to a later one, with neither left nor right between -/
theorem Rc.run (hs : ∀ i, i < n → sd w r i = if i = a then 1 else if i = b then 2 else 0) (i : Nat) : ∀ (m p l t : Nat), (∀ j, i ≤ j → j < i + m → j ≠ a ∧ j ≠ b) → i + m ≤ n → (Rc w s r (i + m) p l t ↔ ∃ q, Rc w s r i q l t ∧ Go w s r i m q p)
  | 0, p, l, t, _, _ => ⟨fun h => ⟨p, h, rfl⟩, fun ⟨q, h1, h2⟩ => by have h2 : q = p := h2; subst h2; exact h1⟩
  | m + 1, p, l, t, hj, hn => by
    have e1 : ¬ sd w r (i + m) = 1 := by rw [hs (i + m) (by omega), if_neg (hj _ (by omega) (by omega)).1, if_neg (hj _ (by omega) (by omega)).2]; decide
    have e2 : ¬ sd w r (i + m) = 2 := by rw [hs (i + m) (by omega), if_neg (hj _ (by omega) (by omega)).1, if_neg (hj _ (by omega) (by omega)).2]; decide
    have ih := fun p l t => Rc.run hs i m p l t (fun j h1 h2 => hj j h1 (by omega)) (by omega)
    constructor
    · rintro ⟨q, l0, t0, h1, h2, h3, h4⟩
      have h3 : l = l0 := h3.trans (if_neg e1)
      have h4 : t = t0 := h4.trans (if_neg e2)
      subst h3
      subst h4
      obtain ⟨u, g1, g2⟩ := (ih q l t).mp h1
      exact ⟨u, g1, (Go.snoc m i u p).mpr ⟨q, g2, h2⟩⟩
    · rintro ⟨u, g1, g2⟩
      obtain ⟨q, g3, g4⟩ := (Go.snoc m i u p).mp g2
      exact ⟨q, l, t, (ih q l t).mpr ⟨u, g1, g3⟩, g4, (if_neg e1).symm, (if_neg e2).symm⟩
/-- THE CUT: a find, by the first and the second of left and right -/
theorem Rc.cut (hs : ∀ i, i < n → sd w r i = if i = a then 1 else if i = b then 2 else 0) (ha : a < n) (hb : b < n) (hab : a ≠ b) (hfix : ∀ i, i < n → (i = a ∨ i = b) → ¬ w.1 67 (ix w r i) = 1) {l t : Nat} (hl : l < 16) (ht : t < 16) :
    (∃ p, Rc w s r n p l t) ↔ ∃ u v, (if a < b then l = u ∧ t = v else l = v ∧ t = u) ∧ (∃ p0, p0 ≤ len w s ∧ Go w s r 0 (min a b) p0 u) ∧ u < len w s ∧ fit w s r (min a b) u ∧ Go w s r (min a b + 1) (max a b - min a b - 1) (u + 1) v ∧ v < len w s ∧ fit w s r (max a b) v ∧ ∃ z, z ≤ len w s ∧ Go w s r (max a b + 1) (n - max a b - 1) (v + 1) z := by
  rcases Nat.lt_or_gt_of_ne hab with h | h
  · have m1 : min a b = a := by omega
    have m2 : max a b = b := by omega
    rw [m1, m2]
    simp only [if_pos h]
    have sa : sd w r a = 1 := by rw [hs a ha, if_pos rfl]
    have sb : sd w r b = 2 := by rw [hs b hb, if_neg (by omega), if_pos rfl]
    have fa := hfix a ha (Or.inl rfl)
    have fb := hfix b hb (Or.inr rfl)
    constructor
    · rintro ⟨z, hz⟩
      have hz' : Rc w s r (b + 1 + (n - b - 1)) z l t := by rw [show b + 1 + (n - b - 1) = n by omega]; exact hz
      obtain ⟨v1, g1, g2⟩ := (Rc.run hs (b + 1) (n - b - 1) z l t (fun j h1 h2 => by omega) (by omega)).mp hz'
      obtain ⟨v, l0, t0, g3, g4, g5, g6⟩ := g1
      rw [if_neg (by rw [sb]; decide)] at g5
      rw [if_pos sb] at g6
      subst g5
      subst g6
      rcases g4 with ⟨k, -⟩ | ⟨-, k1, k2, k3⟩
      · exact absurd k fb
      subst k3
      have g3' : Rc w s r (a + 1 + (b - a - 1)) t l t0 := by rw [show a + 1 + (b - a - 1) = b by omega]; exact g3
      obtain ⟨u1, q1, q2⟩ := (Rc.run hs (a + 1) (b - a - 1) t l t0 (fun j h1 h2 => by omega) (by omega)).mp g3'
      obtain ⟨u, l1, t1, q3, q4, q5, q6⟩ := q1
      rw [if_pos sa] at q5
      subst q5
      rcases q4 with ⟨k, -⟩ | ⟨-, k4, k5, k6⟩
      · exact absurd k fa
      subst k6
      obtain ⟨-, -, p0, q7, q8⟩ := (Rc.lo hs a l l1 t1 (Nat.le_refl a) (by omega) (by omega)).mp q3
      exact ⟨l, t, ⟨rfl, rfl⟩, ⟨p0, q7, q8⟩, k4, k5, q2, k1, k2, z, Go.le (by omega) g2, g2⟩
    · rintro ⟨u, v, ⟨rfl, rfl⟩, ⟨p0, q7, q8⟩, k4, k5, q2, k1, k2, z, -, g2⟩
      refine ⟨z, ?_⟩
      rw [show n = b + 1 + (n - b - 1) by omega]
      refine (Rc.run hs (b + 1) (n - b - 1) z l t (fun j h1 h2 => by omega) (by omega)).mpr ⟨t + 1, ⟨t, l, 16, ?_, Or.inr ⟨fb, k1, k2, rfl⟩, by rw [if_neg (by rw [sb]; decide)], by rw [if_pos sb]⟩, g2⟩
      rw [show b = a + 1 + (b - a - 1) by omega]
      refine (Rc.run hs (a + 1) (b - a - 1) t l 16 (fun j h1 h2 => by omega) (by omega)).mpr ⟨l + 1, ⟨l, 16, 16, ?_, Or.inr ⟨fa, k4, k5, rfl⟩, by rw [if_pos sa], by rw [if_neg (by rw [sa]; decide)]⟩, q2⟩
      exact (Rc.lo hs a l 16 16 (Nat.le_refl a) (by omega) (by omega)).mpr ⟨rfl, rfl, p0, q7, q8⟩
  · have m1 : min a b = b := by omega
    have m2 : max a b = a := by omega
    rw [m1, m2]
    simp only [if_neg (show ¬ a < b by omega)]
    have sa : sd w r a = 1 := by rw [hs a ha, if_pos rfl]
    have sb : sd w r b = 2 := by rw [hs b hb, if_neg (by omega), if_pos rfl]
    have fa := hfix a ha (Or.inl rfl)
    have fb := hfix b hb (Or.inr rfl)
    constructor
    · rintro ⟨z, hz⟩
      have hz' : Rc w s r (a + 1 + (n - a - 1)) z l t := by rw [show a + 1 + (n - a - 1) = n by omega]; exact hz
      obtain ⟨v1, g1, g2⟩ := (Rc.run hs (a + 1) (n - a - 1) z l t (fun j h1 h2 => by omega) (by omega)).mp hz'
      obtain ⟨v, l0, t0, g3, g4, g5, g6⟩ := g1
      rw [if_pos sa] at g5
      rw [if_neg (by rw [sa]; decide)] at g6
      subst g5
      subst g6
      rcases g4 with ⟨k, -⟩ | ⟨-, k1, k2, k3⟩
      · exact absurd k fa
      subst k3
      have g3' : Rc w s r (b + 1 + (a - b - 1)) l l0 t := by rw [show b + 1 + (a - b - 1) = a by omega]; exact g3
      obtain ⟨u1, q1, q2⟩ := (Rc.run hs (b + 1) (a - b - 1) l l0 t (fun j h1 h2 => by omega) (by omega)).mp g3'
      obtain ⟨u, l1, t1, q3, q4, q5, q6⟩ := q1
      rw [if_pos sb] at q6
      subst q6
      rcases q4 with ⟨k, -⟩ | ⟨-, k4, k5, k6⟩
      · exact absurd k fb
      subst k6
      obtain ⟨-, -, p0, q7, q8⟩ := (Rc.lo hs b t l1 t1 (by omega) (Nat.le_refl b) (by omega)).mp q3
      exact ⟨t, l, ⟨rfl, rfl⟩, ⟨p0, q7, q8⟩, k4, k5, q2, k1, k2, z, Go.le (by omega) g2, g2⟩
    · rintro ⟨u, v, ⟨rfl, rfl⟩, ⟨p0, q7, q8⟩, k4, k5, q2, k1, k2, z, -, g2⟩
      refine ⟨z, ?_⟩
      rw [show n = a + 1 + (n - a - 1) by omega]
      refine (Rc.run hs (a + 1) (n - a - 1) z l t (fun j h1 h2 => by omega) (by omega)).mpr ⟨l + 1, ⟨l, 16, t, ?_, Or.inr ⟨fa, k1, k2, rfl⟩, by rw [if_pos sa], by rw [if_neg (by rw [sa]; decide)]⟩, g2⟩
      rw [show a = b + 1 + (a - b - 1) by omega]
      refine (Rc.run hs (b + 1) (a - b - 1) l 16 t (fun j h1 h2 => by omega) (by omega)).mpr ⟨t + 1, ⟨t, 16, 16, ?_, Or.inr ⟨fb, k4, k5, rfl⟩, by rw [if_neg (by rw [sb]; decide)], by rw [if_pos sb]⟩, q2⟩
      exact (Rc.lo hs b t 16 16 (by omega) (Nat.le_refl b) (by omega)).mpr ⟨rfl, rfl, p0, q7, q8⟩
end
