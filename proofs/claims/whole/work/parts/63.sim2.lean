/-! TEXT: the reference beside the class: bars, chains, single ones -/
def ItD (h : Nat) (w u : Wd) (r a b i : Nat) : Prop :=
  (u.1 67 (10 * (12 * h + r) + i) = 1 ∧ w.1 18 (10 * r + i) = nI 3 ∧ u.1 68 (10 * (12 * h + r) + i) = nI 0 ∧ i ≠ a ∧ i ≠ b) ∨
  (u.1 67 (10 * (12 * h + r) + i) = 0 ∧ w.1 18 (10 * r + i) = u.1 69 (10 * (12 * h + r) + i) ∧ w.1 19 (10 * r + i) = u.1 70 (10 * (12 * h + r) + i) ∧ (u.1 69 (10 * (12 * h + r) + i) = nI 0 ∨ u.1 69 (10 * (12 * h + r) + i) = nI 1 ∨ u.1 69 (10 * (12 * h + r) + i) = nI 2) ∧ u.1 68 (10 * (12 * h + r) + i) = nI (if i = a then 1 else if i = b then 2 else 0))
def RuD (h : Nat) (w u : Wd) (r : Nat) : Prop := (∃ v, v < 10 ∧ u.1 65 (12 * h + r) = nI v ∧ w.1 14 r = nI v) ∧ ∃ m, m ≤ 10 ∧ u.1 66 (12 * h + r) = nI m ∧ w.1 15 r = nI m ∧ ∃ a b, a < m ∧ b < m ∧ a ≠ b ∧ w.1 16 r = nI a ∧ w.1 17 r = nI b ∧ ∀ i, i < m → ItD h w u r a b i
theorem RuD.mv {h r : Nat} {w u w' u' : Wd} (hr : RuD h w u r) (hr12 : r < 12) (c1 : ∀ a, 14 ≤ a → a ≤ 17 → w'.1 a r = w.1 a r) (c2 : ∀ a, a = 18 ∨ a = 19 → ∀ i, i < 10 → w'.1 a (10 * r + i) = w.1 a (10 * r + i)) (r1 : ∀ a, a = 65 ∨ a = 66 → u'.1 a (12 * h + r) = u.1 a (12 * h + r)) (r2 : ∀ a, 67 ≤ a → a ≤ 70 → ∀ i, i < 10 → u'.1 a (10 * (12 * h + r) + i) = u.1 a (10 * (12 * h + r) + i)) : RuD h w' u' r := by
  obtain ⟨⟨v, v1, v2, v3⟩, m, m1, m2, m3, a, b, a1, a2, a3, a4, a5, a6⟩ := hr
  refine ⟨⟨v, v1, by rw [r1 65 (by omega)]; exact v2, by rw [c1 14 (by omega) (by omega)]; exact v3⟩, m, m1, by rw [r1 66 (by omega)]; exact m2, by rw [c1 15 (by omega) (by omega)]; exact m3, a, b, a1, a2, a3, by rw [c1 16 (by omega) (by omega)]; exact a4, by rw [c1 17 (by omega) (by omega)]; exact a5, fun i hi => ?_⟩
  have := a6 i hi
  unfold ItD at *
  rw [c2 18 (by omega) i (by omega), c2 19 (by omega) i (by omega), r2 67 (by omega) (by omega) i (by omega), r2 68 (by omega) (by omega) i (by omega), r2 69 (by omega) (by omega) i (by omega), r2 70 (by omega) (by omega) i (by omega)]
  exact this
def Dr (h : Nat) (w u : Wd) : Prop := (nd w ≤ 12 ∧ u.1 64 h = nI (nd w)) ∧ (∀ r, r < nd w → RuD h w u r) ∧ (nb w ≤ 10 ∧ u.1 71 h = nI (nb w)) ∧ (∀ b, b < nb w → w.1 20 b = u.1 72 (10 * h + b)) ∧ (nc w ≤ 6 ∧ u.1 73 h = nI (nc w)) ∧ (∀ c, c < nc w → ∀ j, j < 3 → ∃ v, v < 10 ∧ u.1 74 (3 * (6 * h + c) + j) = nI v ∧ w.1 (21 + j) c = nI v) ∧ ∃ sg, sg < 1024 ∧ w.1 13 13 = nI sg ∧ ∀ r, r < 10 → (u.1 75 (10 * h + r) = 1 ∧ sg.testBit r = true) ∨ (u.1 75 (10 * h + r) = 0 ∧ sg.testBit r = false)
def KDc (a k : Nat) : Prop := 14 ≤ a ∧ a ≤ 23
def PC (h a k : Nat) : Prop := (a = 58 ∧ (k = 7 ∨ k = 8 ∨ k = 24 ∨ k = 25)) ∨ (a = 64 ∧ k = h) ∨ ((a = 65 ∨ a = 66) ∧ 12 * h ≤ k ∧ k < 12 * h + 12) ∨ ((67 ≤ a ∧ a ≤ 70) ∧ 120 * h ≤ k ∧ k < 120 * h + 120) ∨ (a = 71 ∧ k = h) ∨ (a = 72 ∧ 10 * h ≤ k ∧ k < 10 * h + 10) ∨ (a = 73 ∧ k = h) ∨ (a = 74 ∧ 18 * h ≤ k ∧ k < 18 * h + 18) ∨ (a = 75 ∧ 10 * h ≤ k ∧ k < 10 * h + 10)
def PFr (h : Nat) (u u' : Wd) : Prop := Sm (PC h) u u' ∧ u'.2 = u.2
theorem PFr.rf {h : Nat} {u : Wd} : PFr h u u := ⟨Sm.rf, rfl⟩
theorem PFr.tr {h : Nat} {u u1 u2 : Wd} (a : PFr h u u1) (b : PFr h u1 u2) : PFr h u u2 := ⟨a.1.tr b.1, b.2.trans a.2⟩
theorem PFr.up {h : Nat} {u : Wd} {a k : Nat} {v : Int32} (x : PC h a k) : PFr h u (up1 u a k v) := ⟨Sm.up x, rfl⟩
theorem PFr.p {h : Nat} {u : Wd} {k : Nat} {v : Int32} (x : k = 7 ∨ k = 8 ∨ k = 24 ∨ k = 25) : PFr h u (up1 u 58 k v) := PFr.up (Or.inl ⟨rfl, x⟩)
def Gd (h : Nat) (w u : Wd) : Prop := Sy w u ∧ (u.1 58 11 = nI h ∧ h < 2) ∧ CVD w ∧ Dr h w u
def Bd (w u : Wd) : Prop := ∃ F, 1 ≤ F ∧ F < 2147483648 ∧ w.1 24 3 = nI F ∧ u.1 58 8 = nI F
def Rl (h : Nat) (u w' u' : Wd) : Prop := PFr h u u' ∧ (Gd h w' u' ∨ Bd w' u')
theorem Bd.of {w u : Wd} {n : Nat} (hv : CV w) (h1 : 1 ≤ n) (h2 : n ≤ 16) (e : u.1 58 8 = (flt w n).1 24 3) : Bd (flt w n) u ∧ FU u := by
  obtain ⟨F, f1, f2, f3, -⟩ := hv.fl h1 h2
  exact ⟨⟨F, f1, f2, f3, by rw [e]; exact f3⟩, F, f1, f2, by rw [e]; exact f3⟩
theorem Bd.num {w u : Wd} {lo hi : Nat} (hv : CV w) (hh : hi ≤ 100) (hl' : lo ≤ 100) (e0 : (nmb lo hi w).1 = -nI 1) (e : u.1 58 8 = (nmb lo hi w).2.1 24 3) : Bd (nmb lo hi w).2 u ∧ FU u := by
  rcases num_cases (w := w) lo hi (by omega) (by omega) with ⟨a, b, -⟩ | ⟨n, a, b, c, e'⟩
  · rw [b] at e ⊢
    exact Bd.of hv (by split <;> omega) (by split <;> omega) e
  · rw [e'] at e0
    exact absurd e0 (nI_m1 (by omega))
theorem Bd.mv {w u u' : Wd} (h : Bd w u) (e : u'.1 58 8 = u.1 58 8) : Bd w u' := by
  obtain ⟨F, a, b, c, f⟩ := h
  exact ⟨F, a, b, c, by rw [e]; exact f⟩
theorem FU.mv {u u' : Wd} (h : FU u) (e : u'.1 58 8 = u.1 58 8) : FU u' := by
  obtain ⟨F, a, b, c⟩ := h
  exact ⟨F, a, b, by rw [e]; exact c⟩
theorem Sy.mv {w u w' u' : Wd} (h : Sy w u) (c : ∀ a, 10 ≤ a → a ≤ 12 → w'.1 a = w.1 a) (e7 : u'.1 58 7 = u.1 58 7) (e8 : u'.1 58 8 = u.1 58 8) (r60 : u'.1 60 = u.1 60) (r61 : u'.1 61 = u.1 61) (r2 : u'.2 = u.2) : Sy w' u' := by
  obtain ⟨s, T, h2, h3, h4, h5⟩ := h
  have e : tk w' = tk w := N_cg (by rw [c 10 (by omega) (by omega)])
  exact ⟨s, T.mv (by rw [c 10 (by omega) (by omega)]) (c 11 (by omega) (by omega)) (c 12 (by omega) (by omega)) r60 r61 r2, by rw [e]; exact h2, by rw [e, c 10 (by omega) (by omega)]; exact h3, by rw [e, e7]; exact h4, by rw [e8]; exact h5⟩
theorem CVD.adB {w : Wd} (h : CVD w) (hb : nb w < 10) (x : Int32) : CVD (addB w x) ∧ tk (addB w x) = tk w := by
  have m := h.1.mv (w' := addB w x) (fun a _ _ => funext fun j => addB_o (by omega) (by omega))
  refine ⟨⟨m.1, ?_, (addB_o (by decide) (by decide)).trans h.2.2⟩, m.2⟩
  obtain ⟨d1, d2, d3, d4, d5, d6⟩ := h.2.1
  have x7 : (addB w x).1 13 7 = nI (nb w + 1) := u_s
  have y0 : (addB w x).1 13 0 = w.1 13 0 := addB_o (by decide) (by decide)
  have y9 : (addB w x).1 13 9 = w.1 13 9 := addB_o (by decide) (by decide)
  unfold DV
  rw [show nb (addB w x) = nb w + 1 from N_of x7, x7, show nd (addB w x) = nd w from N_cg y0, show nc (addB w x) = nc w from N_cg y9, y0, y9]
  exact ⟨d1, d2, rfl, by omega, d5, d6⟩
theorem CVD.adC {w : Wd} (h : CVD w) (hb : nc w < 6) (x y z : Int32) : CVD (addC w x y z) ∧ tk (addC w x y z) = tk w := by
  have m := h.1.mv (w' := addC w x y z) (fun a _ _ => funext fun j => addC_o (by omega) (by omega))
  refine ⟨⟨m.1, ?_, (addC_o (by decide) (by decide)).trans h.2.2⟩, m.2⟩
  obtain ⟨d1, d2, d3, d4, d5, d6⟩ := h.2.1
  have x9 : (addC w x y z).1 13 9 = nI (nc w + 1) := u_s
  have y0 : (addC w x y z).1 13 0 = w.1 13 0 := addC_o (by decide) (by decide)
  have y7 : (addC w x y z).1 13 7 = w.1 13 7 := addC_o (by decide) (by decide)
  unfold DV
  rw [show nc (addC w x y z) = nc w + 1 from N_of x9, x9, show nd (addC w x y z) = nd w from N_cg y0, show nb (addC w x y z) = nb w from N_cg y7, y0, y7]
  exact ⟨d1, d2, d3, d4, rfl, by omega⟩
theorem CVD.adS {w : Wd} (h : CVD w) (x : Int32) : CVD (addS w x) ∧ tk (addS w x) = tk w := by
  have m := h.1.mv (w' := addS w x) (fun a _ _ => funext fun j => addS_o (by omega))
  exact ⟨⟨m.1, h.2.1.mv3 (addS_o (by decide)) (addS_o (by decide)) (addS_o (by decide)), (addS_o (by decide)).trans h.2.2⟩, m.2⟩
section
variable {h : Nat} {w u : Wd} {d : Nat}
/-- the same draft, in other worlds -/
theorem Dr.mv {w' u' : Wd} (D : Dr h w u) (c : ∀ a k, 13 ≤ a → a ≤ 23 → w'.1 a k = w.1 a k) (r : ∀ a k, 64 ≤ a → a ≤ 75 → u'.1 a k = u.1 a k) : Dr h w' u' := by
  obtain ⟨d1, d2, d3, d4, d5, d6, d7⟩ := D
  unfold Dr
  rw [show nd w' = nd w from N_cg (c 13 0 (by omega) (by omega)), show nb w' = nb w from N_cg (c 13 7 (by omega) (by omega)), show nc w' = nc w from N_cg (c 13 9 (by omega) (by omega)), r 64 h (by omega) (by omega), r 71 h (by omega) (by omega), r 73 h (by omega) (by omega), c 13 13 (by omega) (by omega)]
  refine ⟨d1, fun k hk => (d2 k hk).mv (by omega) (fun a h1 h2 => c a _ (by omega) (by omega)) (fun a ha i hi => c a _ (by omega) (by omega)) (fun a ha => r a _ (by omega) (by omega)) (fun a h1 h2 i hi => r a _ (by omega) (by omega)), d3, fun b hb => by rw [c 20 b (by omega) (by omega), r 72 _ (by omega) (by omega)]; exact d4 b hb, d5, fun k hk j hj => by rw [c (21 + j) k (by omega) (by omega), r 74 _ (by omega) (by omega)]; exact d6 k hk j hj, ?_⟩
  obtain ⟨sg, s1, s2, s3⟩ := d7
  exact ⟨sg, s1, s2, fun k hk => by rw [r 75 _ (by omega) (by omega)]; exact s3 k hk⟩
theorem Dr.bar {u' : Wd} (D : Dr h w u) (hb : nb w < 10) (x : Int32) (r : ∀ a k, 64 ≤ a → a ≤ 75 → ¬ (a = 71 ∧ k = h) → a ≠ 72 → u'.1 a k = u.1 a k) (r71 : u'.1 71 h = nI (nb w + 1)) (r72 : ∀ k, u'.1 72 k = if k = 10 * h + nb w then x else u.1 72 k) : Dr h (addB w x) u' := by
  obtain ⟨d1, d2, d3, d4, d5, d6, d7⟩ := D
  have x7 : (addB w x).1 13 7 = nI (nb w + 1) := u_s
  have c : ∀ a k, a ≠ 20 → ¬ (a = 13 ∧ k = 7) → (addB w x).1 a k = w.1 a k := fun a k h1 h2 => addB_o h1 h2
  have c20 : ∀ k, (addB w x).1 20 k = if k = nb w then x else w.1 20 k := fun k => by
    unfold addB
    rw [u_o (by omega), up1_1]
    simp
  unfold Dr
  rw [show nd (addB w x) = nd w from N_cg (c 13 0 (by decide) (by decide)), show nb (addB w x) = nb w + 1 from N_of x7, show nc (addB w x) = nc w from N_cg (c 13 9 (by decide) (by decide)), r 64 h (by omega) (by omega) (by omega) (by omega), r71, r 73 h (by omega) (by omega) (by omega) (by omega), c 13 13 (by decide) (by decide)]
  refine ⟨d1, fun k hk => (d2 k hk).mv (by omega) (fun a h1 h2 => c a _ (by omega) (by omega)) (fun a ha i hi => c a _ (by omega) (by omega)) (fun a ha => r a _ (by omega) (by omega) (by omega) (by omega)) (fun a h1 h2 i hi => r a _ (by omega) (by omega) (by omega) (by omega)), ⟨by omega, rfl⟩, fun b hb' => ?_, d5, fun k hk j hj => by rw [c (21 + j) k (by omega) (by omega), r 74 _ (by omega) (by omega) (by omega) (by omega)]; exact d6 k hk j hj, ?_⟩
  · rw [c20, r72]
    by_cases e : b = nb w
    · rw [if_pos e, if_pos (by omega)]
    · rw [if_neg e, if_neg (by omega)]; exact d4 b (by omega)
  · obtain ⟨sg, s1, s2, s3⟩ := d7
    exact ⟨sg, s1, s2, fun k hk => by rw [r 75 _ (by omega) (by omega) (by omega) (by omega)]; exact s3 k hk⟩
theorem Dr.chain {u' : Wd} (D : Dr h w u) (hb : nc w < 6) {x y z : Nat} (hx : x < 10) (hy : y < 10) (hz : z < 10) (r : ∀ a k, 64 ≤ a → a ≤ 75 → ¬ (a = 73 ∧ k = h) → a ≠ 74 → u'.1 a k = u.1 a k) (r73 : u'.1 73 h = nI (nc w + 1)) (r74 : ∀ k, u'.1 74 k = if k = 3 * (6 * h + nc w) + 2 then nI z else if k = 3 * (6 * h + nc w) + 1 then nI y else if k = 3 * (6 * h + nc w) then nI x else u.1 74 k) : Dr h (addC w (nI x) (nI y) (nI z)) u' := by
  obtain ⟨d1, d2, d3, d4, d5, d6, d7⟩ := D
  have x9 : (addC w (nI x) (nI y) (nI z)).1 13 9 = nI (nc w + 1) := u_s
  have c : ∀ a k, ¬ (21 ≤ a ∧ a ≤ 23) → ¬ (a = 13 ∧ k = 9) → (addC w (nI x) (nI y) (nI z)).1 a k = w.1 a k := fun a k h1 h2 => addC_o h1 h2
  have cc : ∀ j, j < 3 → ∀ k, (addC w (nI x) (nI y) (nI z)).1 (21 + j) k = if k = nc w then (if j = 0 then nI x else if j = 1 then nI y else nI z) else w.1 (21 + j) k := fun j hj k => by
    unfold addC
    rw [u_o (by omega)]
    have : j = 0 ∨ j = 1 ∨ j = 2 := by omega
    rcases this with rfl | rfl | rfl
    · rw [u_o (by omega), u_o (by omega), up1_1]; simp
    · rw [u_o (by omega), up1_1]
      by_cases e : k = nc w
      · simp [e]
      · rw [if_neg (fun q => e q.2), if_neg e, u_o (by omega)]
    · rw [up1_1]
      by_cases e : k = nc w
      · simp [e]
      · rw [if_neg (fun q => e q.2), if_neg e, u_o (by omega), u_o (by omega)]
  unfold Dr
  rw [show nd (addC w (nI x) (nI y) (nI z)) = nd w from N_cg (c 13 0 (by decide) (by decide)), show nc (addC w (nI x) (nI y) (nI z)) = nc w + 1 from N_of x9, show nb (addC w (nI x) (nI y) (nI z)) = nb w from N_cg (c 13 7 (by decide) (by decide)), r 64 h (by omega) (by omega) (by omega) (by omega), r73, r 71 h (by omega) (by omega) (by omega) (by omega), c 13 13 (by decide) (by decide)]
  refine ⟨d1, fun k hk => (d2 k hk).mv (by omega) (fun a h1 h2 => c a _ (by omega) (by omega)) (fun a ha i hi => c a _ (by omega) (by omega)) (fun a ha => r a _ (by omega) (by omega) (by omega) (by omega)) (fun a h1 h2 i hi => r a _ (by omega) (by omega) (by omega) (by omega)), d3, fun b hb' => by rw [c 20 b (by omega) (by omega), r 72 _ (by omega) (by omega) (by omega) (by omega)]; exact d4 b hb', ⟨by omega, rfl⟩, fun k hk j hj => ?_, ?_⟩
  · rw [cc j hj, r74]
    by_cases e : k = nc w
    · subst e
      rw [if_pos rfl]
      have : j = 0 ∨ j = 1 ∨ j = 2 := by omega
      rcases this with rfl | rfl | rfl
      · rw [if_neg (by omega), if_neg (by omega), if_pos (by omega)]; exact ⟨x, hx, rfl, rfl⟩
      · rw [if_neg (by omega), if_pos (by omega)]; exact ⟨y, hy, rfl, rfl⟩
      · rw [if_pos (by omega)]; exact ⟨z, hz, rfl, rfl⟩
    · rw [if_neg e, if_neg (by omega), if_neg (by omega), if_neg (by omega)]
      exact d6 k (by omega) j hj
  · obtain ⟨sg, s1, s2, s3⟩ := d7
    exact ⟨sg, s1, s2, fun k hk => by rw [r 75 _ (by omega) (by omega) (by omega) (by omega)]; exact s3 k hk⟩
theorem Dr.sing {u' : Wd} (D : Dr h w u) {x : Nat} (hx : x < 10) (r : ∀ a k, 64 ≤ a → a ≤ 75 → a ≠ 75 → u'.1 a k = u.1 a k) (r75 : ∀ k, u'.1 75 k = if k = 10 * h + x then nI 1 else u.1 75 k) : Dr h (addS w (nI x)) u' := by
  obtain ⟨d1, d2, d3, d4, d5, d6, sg, s1, s2, s3⟩ := D
  have c : ∀ a k, ¬ (a = 13 ∧ k = 13) → (addS w (nI x)).1 a k = w.1 a k := fun a k h2 => addS_o h2
  have x13 : (addS w (nI x)).1 13 13 = nI (sg ||| 2 ^ x) := by
    unfold addS
    rw [u_s, s2, one_shl (by omega), or_nI]
  unfold Dr
  rw [show nd (addS w (nI x)) = nd w from N_cg (c 13 0 (by decide)), show nb (addS w (nI x)) = nb w from N_cg (c 13 7 (by decide)), show nc (addS w (nI x)) = nc w from N_cg (c 13 9 (by decide)), r 64 h (by omega) (by omega) (by omega), r 71 h (by omega) (by omega) (by omega), r 73 h (by omega) (by omega) (by omega), x13]
  refine ⟨d1, fun k hk => (d2 k hk).mv (by omega) (fun a h1 h2 => c a _ (by omega)) (fun a ha i hi => c a _ (by omega)) (fun a ha => r a _ (by omega) (by omega) (by omega)) (fun a h1 h2 i hi => r a _ (by omega) (by omega) (by omega)), d3, fun b hb' => by rw [c 20 b (by omega), r 72 _ (by omega) (by omega) (by omega)]; exact d4 b hb', d5, fun k hk j hj => by rw [c (21 + j) k (by omega), r 74 _ (by omega) (by omega) (by omega)]; exact d6 k hk j hj, sg ||| 2 ^ x, Nat.or_lt_two_pow (n := 10) s1 (Nat.pow_lt_pow_right (by decide) hx), rfl, fun k hk => ?_⟩
  rw [r75, Nat.testBit_or, Nat.testBit_two_pow]
  by_cases e : k = x
  · rw [if_pos (by omega), e]; simp; rfl
  · rw [if_neg (by omega)]
    have e' : ¬ x = k := fun q => e q.symm
    simp only [e', decide_false, Bool.or_false]
    exact s3 k hk
end
