/-! finds hang on the held half of the reference's rules and on their sentence alone -/
def Hf (w w' : Wd) : Prop := w'.1 58 10 = w.1 58 10 ∧ ∀ a k, ((a = 64 ∨ a = 71 ∨ a = 73) ∧ k = hl w) ∨ ((a = 65 ∨ a = 66) ∧ 12 * hl w ≤ k ∧ k < 12 * hl w + 12) ∨ ((67 ≤ a ∧ a ≤ 70) ∧ 120 * hl w ≤ k ∧ k < 120 * hl w + 120) ∨ ((a = 72 ∨ a = 75) ∧ 10 * hl w ≤ k ∧ k < 10 * hl w + 10) ∨ (a = 74 ∧ 18 * hl w ≤ k ∧ k < 18 * hl w + 18) → w'.1 a k = w.1 a k
theorem Hf.rows {w w' : Wd} (e : w'.1 58 10 = w.1 58 10) (h : ∀ a, 64 ≤ a → a ≤ 75 → w'.1 a = w.1 a) : Hf w w' := ⟨e, fun a k g => by rw [h a (by omega) (by omega)]⟩
theorem N_cg2 {w w' : Wd} {a k k' : Nat} (h : w'.1 a k' = w.1 a k) : N w' a k' = N w a k := by unfold N; rw [h]
theorem Hf.hlE {w w' : Wd} (h : Hf w w') : hl w' = hl w := N_cg h.1
theorem Hf.nrE {w w' : Wd} (h : Hf w w') : nr w' = nr w := by
  show N w' 64 (hl w') = N w 64 (hl w)
  rw [h.hlE]
  exact N_cg (h.2 64 _ (by omega))
theorem Hf.niE {w w' : Wd} (h : Hf w w') {r : Nat} (hr : r < 12) : ni w' r = ni w r := by
  show N w' 66 (12 * hl w' + r) = N w 66 (12 * hl w + r)
  rw [h.hlE]
  exact N_cg (h.2 66 _ (by omega))
theorem Hf.rlE {w w' : Wd} (h : Hf w w') {r : Nat} (hr : r < 12) : rl w' r = rl w r := by
  show N w' 65 (12 * hl w' + r) = N w 65 (12 * hl w + r)
  rw [h.hlE]
  exact N_cg (h.2 65 _ (by omega))
theorem Hf.ixE {w w' : Wd} (h : Hf w w') (r i : Nat) : ix w' r i = ix w r i := by
  show 10 * (12 * hl w' + r) + i = 10 * (12 * hl w + r) + i
  rw [h.hlE]
theorem Hf.atE {w w' : Wd} (h : Hf w w') {a r i : Nat} (ha : 67 ≤ a ∧ a ≤ 70) (hr : r < 12) (hi : i < 10) : w'.1 a (ix w' r i) = w.1 a (ix w r i) := by
  rw [h.ixE]
  exact h.2 a _ (by show _ ∨ _; unfold ix; omega)
theorem Hf.nbrE {w w' : Wd} (h : Hf w w') : nbr w' = nbr w := by
  show N w' 71 (hl w') = N w 71 (hl w)
  rw [h.hlE]
  exact N_cg (h.2 71 _ (by omega))
theorem Hf.nchE {w w' : Wd} (h : Hf w w') : nch w' = nch w := by
  show N w' 73 (hl w') = N w 73 (hl w)
  rw [h.hlE]
  exact N_cg (h.2 73 _ (by omega))
theorem Hf.chnE {w w' : Wd} (h : Hf w w') {c j : Nat} (hc : c < 6) (hj : j < 3) : w'.1 74 (3 * (6 * hl w' + c) + j) = w.1 74 (3 * (6 * hl w + c) + j) := by
  rw [h.hlE]
  exact h.2 74 _ (by omega)
theorem Hf.brE {w w' : Wd} (h : Hf w w') {b : Nat} (hb : b < 10) : w'.1 72 (10 * hl w' + b) = w.1 72 (10 * hl w + b) := by
  rw [h.hlE]
  exact h.2 72 _ (by omega)
theorem Hf.sgE {w w' : Wd} (h : Hf w w') {b : Nat} (hb : b < 10) : w'.1 75 (10 * hl w' + b) = w.1 75 (10 * hl w + b) := by
  rw [h.hlE]
  exact h.2 75 _ (by omega)
/-- the book is right as before -/
theorem BkI.hf {w w' : Wd} (h : Hf w w') (hB : BkI w) (e : ∀ a k, 25 ≤ a → a ≤ 35 → w'.1 a k = w.1 a k) : BkI w' := by
  obtain ⟨q1, q2, q3, q4, q5, q6, q7, sg, q8, q9, q10⟩ := hB
  unfold BkI
  rw [h.hlE, h.nrE, h.nbrE, h.nchE]
  refine ⟨⟨q1.1, h.1.trans q1.2⟩, ⟨q2.1, (h.2 64 _ (by omega)).trans q2.2.1, (e 25 0 (by omega) (by omega)).trans q2.2.2⟩, fun r hr => ?_, ⟨q4.1, (h.2 71 _ (by omega)).trans q4.2.1, (e 25 7 (by omega) (by omega)).trans q4.2.2⟩, fun b hb => ?_, ⟨q6.1, (h.2 73 _ (by omega)).trans q6.2.1, (e 25 9 (by omega) (by omega)).trans q6.2.2⟩, fun c hc j hj => ?_, sg, q8, (e 25 13 (by omega) (by omega)).trans q9, fun r hr => ?_⟩
  · obtain ⟨⟨a1, a2, a3⟩, ⟨b1, b2, b3⟩, x, y, c1, c2, c3, c4, c5, c6⟩ := q3 r hr
    have hr12 : r < 12 := by omega
    unfold RuI
    rw [h.rlE hr12, h.niE hr12]
    refine ⟨⟨a1, by rw [h.hlE, h.2 65 _ (by omega)]; exact a2, (e 26 r (by omega) (by omega)).trans a3⟩, ⟨b1, by rw [h.hlE, h.2 66 _ (by omega)]; exact b2, (e 27 r (by omega) (by omega)).trans b3⟩, x, y, c1, c2, c3, (e 28 r (by omega) (by omega)).trans c4, (e 29 r (by omega) (by omega)).trans c5, fun i hi => ?_⟩
    have g := c6 i hi
    unfold ItI at g ⊢
    rw [h.atE (by omega) hr12 (by omega), h.atE (a := 68) (by omega) hr12 (by omega), h.atE (a := 69) (by omega) hr12 (by omega), h.atE (a := 70) (by omega) hr12 (by omega), e 30 _ (by omega) (by omega), e 31 _ (by omega) (by omega)]
    exact g
  · rw [e 32 b (by omega) (by omega), h.2 72 _ (by omega)]
    exact q5 b hb
  · obtain ⟨a, b, c'⟩ := q7 c hc j hj
    have x := h.chnE (c := c) (j := j) (by omega) hj
    have y : chn w' c j = chn w c j := N_cg2 x
    rw [y, e (33 + j) c (by omega) (by omega)]
    rw [h.hlE] at x
    exact ⟨a, x.trans b, c'⟩
  · rw [h.2 75 _ (by omega)]
    exact q10 r hr
theorem Hf.StE {w w' : Wd} (h : Hf w w') {s : Nat} (el : len w' s = len w s) (ew : ∀ p, p < len w s → wrd w' s p = wrd w s p ∧ w'.1 76 (wrd w s p) = w.1 76 (wrd w s p)) {r i : Nat} (hr : r < 12) (hi : i < 10) (p q : Nat) : St w' s r i p q ↔ St w s r i p q := by
  have hf : p < len w s → (fit w' s r i p ↔ fit w s r i p) := fun hp => by
    unfold fit fitP
    rw [h.atE (by omega) hr hi, h.atE (a := 70) (by omega) hr hi, (ew p hp).1, (ew p hp).2]
  unfold St
  rw [h.atE (by omega) hr hi, el]
  refine or_congr Iff.rfl (and_congr Iff.rfl ⟨fun x => ⟨x.1, (hf x.1).mp x.2.1, x.2.2⟩, fun x => ⟨x.1, (hf x.1).mpr x.2.1, x.2.2⟩⟩)
theorem Hf.RcE {w w' : Wd} (h : Hf w w') {s : Nat} (el : len w' s = len w s) (ew : ∀ p, p < len w s → wrd w' s p = wrd w s p ∧ w'.1 76 (wrd w s p) = w.1 76 (wrd w s p)) {r : Nat} (hr : r < 12) : ∀ (i p l t : Nat), i ≤ 10 → (Rc w' s r i p l t ↔ Rc w s r i p l t)
  | 0, p, l, t, _ => by
    show (p ≤ len w' s ∧ _) ↔ (p ≤ len w s ∧ _)
    rw [el]
  | i + 1, q, l', t', hi => by
    have hsd : sd w' r i = sd w r i := N_cg2 (h.atE (by omega) hr (by omega))
    constructor
    · rintro ⟨p, l, t, a, b, c, e⟩
      rw [hsd] at c e
      exact ⟨p, l, t, (Hf.RcE h el ew hr i p l t (by omega)).mp a, (h.StE el ew hr (by omega) p q).mp b, c, e⟩
    · rintro ⟨p, l, t, a, b, c, e⟩
      rw [← hsd] at c e
      exact ⟨p, l, t, (Hf.RcE h el ew hr i p l t (by omega)).mpr a, (h.StE el ew hr (by omega) p q).mpr b, c, e⟩
theorem Hf.FndE {w w' : Wd} (h : Hf w w') (hB : BkI w) {s : Nat} (el : len w' s = len w s) (ew : ∀ p, p < len w s → wrd w' s p = wrd w s p ∧ w'.1 76 (wrd w s p) = w.1 76 (wrd w s p)) (hs : s < cm w ↔ s < cm w') (ht : thr w' s ↔ thr w s) (r l t : Nat) : Fnd w' s r l t ↔ Fnd w s r l t := by
  have hn := hB.2.1.1
  unfold Fnd
  rw [h.nrE, ht, ← hs]
  refine and_congr Iff.rfl (and_congr Iff.rfl ⟨fun x => ?_, fun x => ?_⟩)
  · obtain ⟨a, b, c, p, e⟩ := x
    have hi := (hB.2.2.1 r a).2.1.1
    rw [h.niE (by omega)] at e
    exact ⟨a, b, c, p, (h.RcE el ew (by omega) _ p l t hi).mp e⟩
  · obtain ⟨a, b, c, p, e⟩ := x
    have hi := (hB.2.2.1 r a).2.1.1
    rw [h.niE (by omega)]
    exact ⟨a, b, c, p, (h.RcE el ew (by omega) _ p l t hi).mpr e⟩
theorem Hf.BrrE {w w' : Wd} (h : Hf w w') (hB : BkI w) {s : Nat} (el : len w' s = len w s) (ew : ∀ p, p < len w s → wrd w' s p = wrd w s p) : Brr w' s ↔ Brr w s := by
  have hb := hB.2.2.2.1.1
  unfold Brr brd
  rw [el, h.nbrE]
  constructor
  · rintro ⟨p, a, b, c, e⟩
    rw [ew p a, h.brE (by omega)] at e
    exact ⟨p, a, b, c, e⟩
  · rintro ⟨p, a, b, c, e⟩
    refine ⟨p, a, b, c, ?_⟩
    rw [ew p a, h.brE (by omega)]
    exact e
/-- finds, when only some sentences change -/
theorem FinI.mvS {w w' : Wd} (h : FinI w) (e : ∀ a, 37 ≤ a → a ≤ 39 → w'.1 a = w.1 a) (e40 : ∀ s, s < 40 → w'.1 40 s = 0 ∨ w'.1 40 s = 1) (hs : ∀ s, s < cm w' → w'.1 40 s = 0 → s < cm w ∧ w.1 40 s = 0 ∧ (∀ r l t, Fnd w' s r l t ↔ Fnd w s r l t) ∧ (Brr w' s ↔ Brr w s) ∧ (thr w' s ↔ thr w s)) : FinI w' := by
  refine ⟨fun s hs k hk => (h.1 s hs k hk).cg (fun l hl => by rw [e 37 (by omega) (by omega)]) (by rw [e 38 (by omega) (by omega)]), e40, fun s h1 g => ?_⟩
  obtain ⟨a1, a2, a3, a4, a5⟩ := hs s h1 g
  obtain ⟨a, b⟩ := h.2.2 s a1 a2
  refine ⟨fun k hk l hl t => ?_, ?_⟩
  · rw [a3, show rb w' s k l = rb w s k l from N_cg (by rw [e 37 (by omega) (by omega)])]
    exact a k hk l hl t
  · rw [e 39 (by omega) (by omega)]
    exact b.imp (and_congr a5.symm a4.symm)
