/-! TEXT: the reference beside the class: the rule that is being read -/
def LR (x : Int32) (a m : Nat) : Prop := (a < m ∧ x = nI a) ∨ (a = 99 ∧ x = -nI 1)
def HLf (y : Int32) (a m : Nat) : Prop := (a < m ∧ y = 1) ∨ (a = 99 ∧ y = 0)
def OpD (h : Nat) (w u : Wd) : Prop := nd w < 12 ∧ (∃ v, v < 10 ∧ u.1 65 (12 * h + nd w) = nI v ∧ w.1 14 (nd w) = nI v) ∧ itn w ≤ 10 ∧ w.1 15 (nd w) = nI (itn w) ∧ u.1 66 (12 * h + nd w) = nI (itn w) ∧ ∃ a b, LR (w.1 16 (nd w)) a (itn w) ∧ LR (w.1 17 (nd w)) b (itn w) ∧ (a ≠ b ∨ a = 99) ∧ HLf (u.1 58 24) a (itn w) ∧ HLf (u.1 58 25) b (itn w) ∧ ∀ i, i < itn w → ItD h w u (nd w) a b i
section
variable {h : Nat} {w u : Wd} {d : Nat}
theorem OpD.ov (O : OpD h w u) : OV w := ⟨O.1, O.2.2.2.1, O.2.2.1⟩
theorem LR.has {x y : Int32} {a m : Nat} (h1 : LR x a m) (h2 : HLf y a m) (hm : m ≤ 10) : x = -nI 1 ↔ y = 0 := by
  rcases h1 with ⟨g, rfl⟩ | ⟨g, rfl⟩ <;> rcases h2 with ⟨g2, rfl⟩ | ⟨g2, rfl⟩
  · exact ⟨fun e => absurd e (nI_m1 (by omega)), fun e => absurd e (by decide)⟩
  · omega
  · omega
  · exact ⟨fun _ => rfl, fun _ => rfl⟩
theorem OpD.left (O : OpD h w u) : (w.1 16 (nd w) = -nI 1 ↔ u.1 58 24 = 0) ∧ (w.1 17 (nd w) = -nI 1 ↔ u.1 58 25 = 0) := by
  obtain ⟨-, -, o3, -, -, a, b, l1, l2, -, h1, h2, -⟩ := O
  exact ⟨l1.has h1 o3, l2.has h2 o3⟩
theorem OpD.bo (O : OpD h w u) : (u.1 58 24 = 0 ∨ u.1 58 24 = 1) ∧ (u.1 58 25 = 0 ∨ u.1 58 25 = 1) := by
  obtain ⟨-, -, -, -, -, a, b, -, -, -, h1, h2, -⟩ := O
  exact ⟨h1.elim (fun x => Or.inr x.2) (fun x => Or.inl x.2), h2.elim (fun x => Or.inr x.2) (fun x => Or.inl x.2)⟩
/-- the closed rules, while another is read -/
theorem Dr.op {w' u' : Wd} (D : Dr h w u) (c13 : ∀ k, w'.1 13 k = w.1 13 k) (c20 : ∀ a k, 20 ≤ a → a ≤ 23 → w'.1 a k = w.1 a k) (c1 : ∀ a r, 14 ≤ a → a ≤ 17 → r < nd w → w'.1 a r = w.1 a r) (c2 : ∀ a r i, a = 18 ∨ a = 19 → r < nd w → i < 10 → w'.1 a (10 * r + i) = w.1 a (10 * r + i)) (r64 : u'.1 64 h = u.1 64 h) (r71 : ∀ a k, 71 ≤ a → a ≤ 75 → u'.1 a k = u.1 a k) (r1 : ∀ a r, a = 65 ∨ a = 66 → r < nd w → u'.1 a (12 * h + r) = u.1 a (12 * h + r)) (r2 : ∀ a r i, 67 ≤ a → a ≤ 70 → r < nd w → i < 10 → u'.1 a (10 * (12 * h + r) + i) = u.1 a (10 * (12 * h + r) + i)) : Dr h w' u' := by
  obtain ⟨d1, d2, d3, d4, d5, d6, d7⟩ := D
  unfold Dr
  rw [show nd w' = nd w from N_cg (c13 0), show nb w' = nb w from N_cg (c13 7), show nc w' = nc w from N_cg (c13 9), r64, r71 71 h (by omega) (by omega), r71 73 h (by omega) (by omega), c13 13]
  refine ⟨d1, fun k hk => (d2 k hk).mv (by omega) (fun a h1 h2 => c1 a k h1 h2 hk) (fun a ha i hi => c2 a k i ha hk hi) (fun a ha => r1 a k ha hk) (fun a h1 h2 i hi => r2 a k i h1 h2 hk hi), d3, fun b hb => by rw [c20 20 b (by omega) (by omega), r71 72 _ (by omega) (by omega)]; exact d4 b hb, d5, fun k hk j hj => by rw [c20 (21 + j) k (by omega) (by omega), r71 74 _ (by omega) (by omega)]; exact d6 k hk j hj, ?_⟩
  obtain ⟨sg, s1, s2, s3⟩ := d7
  exact ⟨sg, s1, s2, fun k hk => by rw [r71 75 _ (by omega) (by omega)]; exact s3 k hk⟩
theorem addI_c (w : Wd) (k v : Int32) {role : Nat} : (∀ j, (addI w k v role).1 18 j = if j = nd w * 10 + itn w then k else w.1 18 j) ∧ (∀ j, (addI w k v role).1 19 j = if j = nd w * 10 + itn w then v else w.1 19 j) ∧ (∀ j, (addI w k v role).1 15 j = if j = nd w then nI (itn w + 1) else w.1 15 j) ∧ (∀ j, (addI w k v role).1 16 j = if role = 1 ∧ j = nd w then nI (itn w) else w.1 16 j) ∧ (∀ j, (addI w k v role).1 17 j = if role = 2 ∧ j = nd w then nI (itn w) else w.1 17 j) := by
  unfold addI
  refine ⟨fun j => ?_, fun j => ?_, fun j => ?_, fun j => ?_, fun j => ?_⟩
  · rw [u_o (by omega)]
    split
    · rw [u_o (by omega), u_o (by omega), up1_1]; simp
    · split
      · rw [u_o (by omega), u_o (by omega), up1_1]; simp
      · rw [u_o (by omega), up1_1]; simp
  · rw [u_o (by omega)]
    split
    · rw [u_o (by omega), up1_1]
      by_cases e : j = nd w * 10 + itn w
      · rw [if_pos ⟨rfl, e⟩, if_pos e]
      · rw [if_neg (fun x => e x.2), if_neg e, u_o (by omega)]
    · split
      · rw [u_o (by omega), up1_1]
        by_cases e : j = nd w * 10 + itn w
        · rw [if_pos ⟨rfl, e⟩, if_pos e]
        · rw [if_neg (fun x => e x.2), if_neg e, u_o (by omega)]
      · rw [up1_1]
        by_cases e : j = nd w * 10 + itn w
        · rw [if_pos ⟨rfl, e⟩, if_pos e]
        · rw [if_neg (fun x => e x.2), if_neg e, u_o (by omega)]
  · rw [up1_1]
    by_cases e : j = nd w
    · rw [if_pos ⟨rfl, e⟩, if_pos e]
    · rw [if_neg (fun x => e x.2), if_neg e]
      split
      · rw [u_o (by omega), u_o (by omega), u_o (by omega)]
      · split
        · rw [u_o (by omega), u_o (by omega), u_o (by omega)]
        · rw [u_o (by omega), u_o (by omega)]
  · rw [u_o (by omega)]
    by_cases r1 : role = 1
    · rw [if_pos r1, up1_1]
      by_cases e : j = nd w
      · rw [if_pos ⟨rfl, e⟩, if_pos ⟨r1, e⟩]
      · rw [if_neg (fun x => e x.2), if_neg (fun x => e x.2), u_o (by omega), u_o (by omega)]
    · rw [if_neg r1, if_neg (show ¬ (role = 1 ∧ j = nd w) from fun x => r1 x.1)]
      split
      · rw [u_o (by omega), u_o (by omega), u_o (by omega)]
      · rw [u_o (by omega), u_o (by omega)]
  · rw [u_o (by omega)]
    by_cases r1 : role = 1
    · rw [if_pos r1, if_neg (by omega), u_o (by omega), u_o (by omega), u_o (by omega)]
    · rw [if_neg r1]
      by_cases r2 : role = 2
      · rw [if_pos r2, up1_1]
        by_cases e : j = nd w
        · rw [if_pos ⟨rfl, e⟩, if_pos ⟨r2, e⟩]
        · rw [if_neg (fun x => e x.2), if_neg (fun x => e x.2), u_o (by omega), u_o (by omega)]
      · rw [if_neg r2, if_neg (fun x => r2 x.1), u_o (by omega), u_o (by omega)]
/-- one item more -/
theorem OpD.add {w2 u' : Wd} {k v : Int32} {role : Nat} (O : OpD h w u) (D : Dr h w u) (hm : itn w < 10) (cw : ∀ a j, ¬ (a = 10 ∧ j = 3) → w2.1 a j = w.1 a j) (hr : role ≤ 2) (hr1 : role = 1 → w.1 16 (nd w) = -nI 1) (hr2 : role = 2 → w.1 17 (nd w) = -nI 1)
    (r64 : u'.1 64 h = u.1 64 h) (r71 : ∀ a k, 71 ≤ a → a ≤ 75 → u'.1 a k = u.1 a k) (r65 : ∀ k, u'.1 65 k = u.1 65 k) (r66 : ∀ k, u'.1 66 k = if k = 12 * h + nd w then nI (itn w + 1) else u.1 66 k) (r67 : ∀ a k, 67 ≤ a → a ≤ 70 → k ≠ 10 * (12 * h + nd w) + itn w → u'.1 a k = u.1 a k)
    (r24 : u'.1 58 24 = if role = 1 then 1 else u.1 58 24) (r25 : u'.1 58 25 = if role = 2 then 1 else u.1 58 25)
    (hit : (role = 0 ∧ u'.1 67 (10 * (12 * h + nd w) + itn w) = 1 ∧ k = nI 3 ∧ u'.1 68 (10 * (12 * h + nd w) + itn w) = nI 0) ∨ (u'.1 67 (10 * (12 * h + nd w) + itn w) = 0 ∧ k = u'.1 69 (10 * (12 * h + nd w) + itn w) ∧ v = u'.1 70 (10 * (12 * h + nd w) + itn w) ∧ (u'.1 69 (10 * (12 * h + nd w) + itn w) = nI 0 ∨ u'.1 69 (10 * (12 * h + nd w) + itn w) = nI 1 ∨ u'.1 69 (10 * (12 * h + nd w) + itn w) = nI 2) ∧ u'.1 68 (10 * (12 * h + nd w) + itn w) = nI role)) : OpD h (addI w2 k v role) u' ∧ Dr h (addI w2 k v role) u' := by
  have n2 : nd w2 = nd w := N_cg (cw 13 0 (by omega))
  have i2 : itn w2 = itn w := by
    unfold itn
    rw [n2]
    exact N_cg (cw 15 _ (by omega))
  obtain ⟨a18, a19, a15, a16, a17⟩ := addI_c w2 k v (role := role)
  rw [n2, i2] at a18 a19
  rw [n2, i2] at a15
  rw [n2, i2] at a16 a17
  have nn : nd (addI w2 k v role) = nd w := by rw [addI_nd, n2]
  have ii : itn (addI w2 k v role) = itn w + 1 := by
    unfold itn
    rw [nn]
    exact N_of (by rw [a15, if_pos rfl]) (by have : N w 15 (nd w) < 10 := hm; omega)
  have o0 := O.1
  constructor
  · obtain ⟨o1, ⟨v0, v1, v2, v3⟩, o3, o4, o5, a, b, l1, l2, l3, h1, h2, o6⟩ := O
    unfold OpD
    rw [nn, ii, a15, if_pos rfl, r66, if_pos rfl, r65, r24, r25, a16, a17, show (addI w2 k v role).1 14 (nd w) = w.1 14 (nd w) from (addI_o (by decide)).trans (cw 14 _ (by omega)), cw 16 _ (by omega), cw 17 _ (by omega)]
    -- the places of left and right
    have a99 : role = 1 → a = 99 := fun e => by
      rcases l1 with ⟨g, x⟩ | ⟨g, -⟩
      · exact absurd ((hr1 e).symm.trans x).symm (nI_m1 (by omega))
      · exact g
    have b99 : role = 2 → b = 99 := fun e => by
      rcases l2 with ⟨g, x⟩ | ⟨g, -⟩
      · exact absurd ((hr2 e).symm.trans x).symm (nI_m1 (by omega))
      · exact g
    have la : a < itn w ∨ a = 99 := l1.elim (fun x => Or.inl x.1) (fun x => Or.inr x.1)
    have lb : b < itn w ∨ b = 99 := l2.elim (fun x => Or.inl x.1) (fun x => Or.inr x.1)
    refine ⟨o1, ⟨v0, v1, v2, v3⟩, by omega, rfl, rfl, if role = 1 then itn w else a, if role = 2 then itn w else b, ?_, ?_, ?_, ?_, ?_, fun i hi => ?_⟩
    · by_cases e : role = 1
      · rw [if_pos ⟨e, rfl⟩, if_pos e]; exact Or.inl ⟨by omega, rfl⟩
      · rw [if_neg (fun x => e x.1), if_neg e]; exact l1.imp (fun x => ⟨by omega, x.2⟩) id
    · by_cases e : role = 2
      · rw [if_pos ⟨e, rfl⟩, if_pos e]; exact Or.inl ⟨by omega, rfl⟩
      · rw [if_neg (fun x => e x.1), if_neg e]; exact l2.imp (fun x => ⟨by omega, x.2⟩) id
    · by_cases e : role = 1
      · rw [if_pos e, if_neg (by omega)]; left; omega
      · rw [if_neg e]
        by_cases e2 : role = 2
        · rw [if_pos e2]; omega
        · rw [if_neg e2]; exact l3
    · by_cases e : role = 1
      · rw [if_pos e, if_pos e]; exact Or.inl ⟨by omega, rfl⟩
      · rw [if_neg e, if_neg e]; exact h1.imp (fun x => ⟨by omega, x.2⟩) id
    · by_cases e : role = 2
      · rw [if_pos e, if_pos e]; exact Or.inl ⟨by omega, rfl⟩
      · rw [if_neg e, if_neg e]; exact h2.imp (fun x => ⟨by omega, x.2⟩) id
    · unfold ItD
      rw [a18, a19]
      by_cases e : i = itn w
      · have hc : 10 * nd w + i = nd w * 10 + itn w := by omega
        rw [if_pos hc, if_pos hc, e]
        rcases hit with ⟨x1, x2, x3, x4⟩ | ⟨x1, x2, x3, x4, x5⟩
        · refine Or.inl ⟨x2, x3, x4, ?_, ?_⟩
          · rw [if_neg (show ¬ role = 1 by omega)]; omega
          · rw [if_neg (show ¬ role = 2 by omega)]; omega
        · refine Or.inr ⟨x1, x2, x3, x4, ?_⟩
          rw [x5]
          congr 1
          have : role = 0 ∨ role = 1 ∨ role = 2 := by omega
          rcases this with e1 | e1 | e1
          · rw [if_neg (show ¬ role = 1 by omega), if_neg (show ¬ role = 2 by omega), if_neg (show ¬ itn w = a by omega), if_neg (show ¬ itn w = b by omega)]; exact e1
          · rw [if_pos e1, if_pos rfl]; exact e1
          · rw [if_neg (show ¬ role = 1 by omega), if_pos e1, if_neg (show ¬ itn w = a by omega), if_pos rfl]; exact e1
      · have hc : ¬ 10 * nd w + i = nd w * 10 + itn w := by omega
        rw [if_neg hc, if_neg hc, cw 18 _ (by omega), cw 19 _ (by omega), r67 67 _ (by omega) (by omega) (by omega), r67 68 _ (by omega) (by omega) (by omega), r67 69 _ (by omega) (by omega) (by omega), r67 70 _ (by omega) (by omega) (by omega)]
        have ea : (i = if role = 1 then itn w else a) ↔ i = a := by
          by_cases e1 : role = 1
          · rw [if_pos e1, a99 e1]; omega
          · rw [if_neg e1]
        have eb : (i = if role = 2 then itn w else b) ↔ i = b := by
          by_cases e1 : role = 2
          · rw [if_pos e1, b99 e1]; omega
          · rw [if_neg e1]
        have := o6 i (by omega)
        unfold ItD at this
        simp only [ne_eq, ea, eb]
        exact this
  · refine D.op (fun k => (addI_o (by decide)).trans (cw 13 k (by omega))) (fun a k h1 h3 => (addI_o (by omega)).trans (cw a k (by omega))) (fun a r h1 h3 hr' => ?_) (fun a r i ha hr' hi => ?_) r64 r71 (fun a r ha hr' => ?_) (fun a r i h1 h3 hr' hi => r67 a _ h1 h3 (by omega))
    · have : a = 14 ∨ a = 15 ∨ a = 16 ∨ a = 17 := by omega
      rcases this with rfl | rfl | rfl | rfl
      · exact (addI_o (by decide)).trans (cw 14 r (by omega))
      · rw [a15, if_neg (by omega)]; exact cw 15 r (by omega)
      · rw [a16, if_neg (by omega)]; exact cw 16 r (by omega)
      · rw [a17, if_neg (by omega)]; exact cw 17 r (by omega)
    · rcases ha with rfl | rfl
      · rw [a18, if_neg (by omega)]; exact cw 18 _ (by omega)
      · rw [a19, if_neg (by omega)]; exact cw 19 _ (by omega)
    · rcases ha with rfl | rfl
      · exact r65 _
      · rw [r66, if_neg (by omega)]
end
