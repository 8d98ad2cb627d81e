/-! TEXT: both cut the same tokens -/
def cdk (k : Nat) : Nat := [6, 7, 8, 9, 12, 10, 11, 13, 14, 15].getD k 0
def jk (k : Nat) : Nat := [4, 1, 2, 8, 6, 3, 5, 9, 7, 0].getD k 0
def kj (j : Nat) : Nat := [9, 1, 2, 5, 0, 6, 4, 8, 3, 7].getD j 0
def vr : List Nat → Nat
  | [] => 0
  | d :: ds => 37 * vr ds + (d - 96)
theorem wcs_vr : ∀ k, k < 10 → wcs.getD k 0 = vr (ws (jk k)).reverse ∧ jk k < 10 := by decide
theorem kj_ok : ∀ j, j < 10 → kj j < 10 ∧ jk (kj j) = j ∧ cdk (kj j) = cds j := by decide
theorem ws_ltr : ∀ j, j < 10 → ∀ c ∈ (ws j).reverse, 97 ≤ c ∧ c ≤ 122 := by decide
theorem ws_rev : ∀ j, j < 10 → ∀ i, i < 6 → i < (ws j).length → (ws j).reverse.getD ((ws j).length - 1 - i) 0 = (ws j).getD i 0 := by decide
theorem ws_l : ∀ j, j < 10 → ∀ i, i < 6 → i < (ws j).length → 97 ≤ (ws j).getD i 0 ∧ (ws j).getD i 0 ≤ 122 := by decide
section
variable {t : Nat → Nat} {k : Nat}
theorem hv_vr : ∀ (ds : List Nat), (∀ c ∈ ds, 97 ≤ c ∧ c ≤ 122) → ∀ m, (∀ i, i < m → ltr (t (k + i))) → (hv t k m = vr ds ↔ m = ds.length ∧ ∀ i, i < m → t (k + i) = ds.getD (m - 1 - i) 0)
  | [], _, 0, _ => ⟨fun _ => ⟨rfl, fun i hi => absurd hi (Nat.not_lt_zero _)⟩, fun _ => rfl⟩
  | [], _, m + 1, h => by
    have := h m (by omega)
    unfold ltr at this
    refine ⟨fun e => ?_, fun e => ?_⟩
    · rw [hv, vr] at e; omega
    · have := e.1; rw [List.length_nil] at this; omega
  | d :: ds, hd, 0, _ => by
    have := hd d List.mem_cons_self
    refine ⟨fun e => ?_, fun e => ?_⟩
    · rw [hv, vr] at e; omega
    · have := e.1; rw [List.length_cons] at this; omega
  | d :: ds, hd, m + 1, h => by
    have h1 := hd d List.mem_cons_self
    have h2 := h m (by omega)
    have ih := hv_vr ds (fun c hc => hd c (List.mem_cons_of_mem _ hc)) m (fun i hi => h i (by omega))
    unfold ltr at h2
    rw [hv, vr, List.length_cons]
    constructor
    · intro e
      have e1 : hv t k m = vr ds := by omega
      have e2 : t (k + m) = d := by omega
      obtain ⟨i1, i2⟩ := ih.mp e1
      refine ⟨by omega, fun i hi => ?_⟩
      by_cases g : i = m
      · subst g
        rw [show i + 1 - 1 - i = 0 by omega]
        exact e2
      · rw [show m + 1 - 1 - i = (m - 1 - i) + 1 by omega, List.getD_cons_succ]
        exact i2 i (by omega)
    · rintro ⟨e1, e2⟩
      have e3 := e2 m (by omega)
      rw [show m + 1 - 1 - m = 0 by omega, List.getD_cons_zero] at e3
      have e4 := ih.mpr ⟨by omega, fun i hi => by
        have := e2 i (by omega)
        rw [show m + 1 - 1 - i = (m - 1 - i) + 1 by omega, List.getD_cons_succ] at this
        exact this⟩
      rw [e4, e3]
theorem hv_lt : ∀ m, (∀ i, i < m → ltr (t (k + i))) → hv t k m < 37 ^ m
  | 0, _ => by rw [hv]; decide
  | m + 1, h => by
    have ih := hv_lt m (fun i hi => h i (by omega))
    have h2 := h m (by omega)
    unfold ltr at h2
    rw [hv, Nat.pow_succ]
    omega
theorem nv_lt : ∀ m, (∀ i, i < m → dgt (t (k + i))) → nv t k m < 10 ^ m
  | 0, _ => by rw [nv]; decide
  | m + 1, h => by
    have ih := nv_lt m (fun i hi => h i (by omega))
    have h2 := h m (by omega)
    unfold dgt at h2
    rw [nv, Nat.pow_succ]
    omega
theorem lN_inj {a b : Nat} (ha : a < 2 ^ 64) (hb : b < 2 ^ 64) (h : lN a = lN b) : a = b := by
  have := congrArg (fun x : Int64 => x.toBitVec.toNat) h
  simp only [wb_tb, BitVec.toNat_ofNat] at this
  omega
/-- a run of letters that is a word, by its value -/
theorem Sd_hv {m j : Nat} (hj : j < 10) (h1 : ∀ i, i < m → ltr (t (k + i))) (h2 : ¬ ltr (t (k + m))) : Sd t k (ws j) ↔ hv t k m = vr (ws j).reverse := by
  obtain ⟨l1, l2⟩ := ws_len j hj
  rw [hv_vr _ (ws_ltr j hj) m h1, List.length_reverse]
  constructor
  · rintro ⟨a, b⟩
    have em : m = (ws j).length := by
      rcases Nat.lt_trichotomy m (ws j).length with g | g | g
      · have := ws_l j hj m (by omega) g
        rw [← a m g] at this
        exact absurd this h2
      · exact g
      · exact absurd (h1 _ g) b
    refine ⟨em, fun i hi => ?_⟩
    rw [em, ws_rev j hj i (by omega) (by omega)]
    exact a i (by omega)
  · rintro ⟨em, a⟩
    refine ⟨fun i hi => ?_, by rw [← em]; exact h2⟩
    have := a i (by omega)
    rw [em, ws_rev j hj i (by omega) hi] at this
    exact this
def TokRel (c s : Int32) (v : Int64) : Prop := (∃ n, n < 10000 ∧ c = nI n ∧ s = nI 2 ∧ v = lN n) ∨ (∃ j, ((j = 58 ∧ c = -nI 3) ∨ (j = 61 ∧ c = -nI 4) ∨ (j = 59 ∧ c = -nI 5)) ∧ s = nI 3 ∧ v = lN j) ∨ (∃ i, i < 10 ∧ c = -nI (cdk i) ∧ s = nI 1 ∧ v = lN (wcs.getD i 0)) ∨ (c = -nI 2 ∧ (s = nI 4 ∨ (s = nI 1 ∧ ∀ i, i < 10 → ¬ v = lN (wcs.getD i 0))))
theorem tok_rel {c s : Int32} {v : Int64} (hc : CA t k c) (hr : RA t k s v) : TokRel c s v := by
  rcases hr with ⟨m, m1, h1, h2, h3⟩ | ⟨m, m1, h1, h2, h3⟩ | ⟨h1, h2, h3⟩
  · have h0 := h1 0 (by omega)
    rw [Nat.add_zero] at h0
    unfold ltr at h0
    have hw : WC t k c := by
      rcases hc with ⟨x, -⟩ | ⟨x, -⟩ | ⟨x, -⟩ | ⟨x, -⟩ | ⟨-, -, -, -, x⟩
      · unfold dgt at x; omega
      · omega
      · omega
      · omega
      · exact x
    rcases hw with ⟨j, hj, hS, rfl⟩ | ⟨hS, rfl⟩
    · obtain ⟨j1, j2, j3⟩ := kj_ok j hj
      have e := (Sd_hv hj h1 h2).mp hS
      have em := ((hv_vr _ (ws_ltr j hj) m h1).mp e).1
      rw [List.length_reverse] at em
      have := ws_len j hj
      rcases h3 with ⟨g1, rfl, rfl⟩ | ⟨g1, -⟩
      · exact Or.inr (Or.inr (Or.inl ⟨kj j, j1, by rw [j3], rfl, by rw [(wcs_vr _ j1).1, j2, e]⟩))
      · omega
    · rcases h3 with ⟨g1, rfl, rfl⟩ | ⟨g1, rfl⟩
      · refine Or.inr (Or.inr (Or.inr ⟨rfl, Or.inr ⟨rfl, fun i hi e => ?_⟩⟩))
        have b := hv_lt m h1
        have b2 : 37 ^ m ≤ 37 ^ 8 := Nat.pow_le_pow_right (by decide) g1
        have b3 : ∀ i, i < 10 → wcs.getD i 0 < 2 ^ 64 := by decide
        have b4 : (37:Nat) ^ 8 < 2 ^ 64 := by decide
        have e := lN_inj (by omega) (b3 i hi) e
        rw [(wcs_vr i hi).1] at e
        exact hS _ (wcs_vr i hi).2 ((Sd_hv (wcs_vr i hi).2 h1 h2).mpr e)
      · exact Or.inr (Or.inr (Or.inr ⟨rfl, Or.inl rfl⟩))
  · have h0 := h1 0 (by omega)
    rw [Nat.add_zero] at h0
    have hn : NC t k c := by
      unfold dgt at h0
      rcases hc with ⟨-, x⟩ | ⟨x, -⟩ | ⟨x, -⟩ | ⟨x, -⟩ | ⟨x, -⟩
      · exact x
      · omega
      · omega
      · omega
      · exact absurd h0 x
    rcases hn with ⟨m', a1, a2, a3, rfl⟩ | ⟨a1, rfl⟩
    · have em : m = m' := by
        rcases Nat.lt_trichotomy m m' with g | g | g
        · exact absurd (a2 m g) h2
        · exact g
        · exact absurd (h1 m' g) a3
      subst em
      rcases h3 with ⟨g1, rfl, rfl⟩ | ⟨g1, -⟩
      · have b := nv_lt m h1
        have b2 : 10 ^ m ≤ 10 ^ 4 := Nat.pow_le_pow_right (by decide) g1
        exact Or.inl ⟨nv t k m, by omega, rfl, rfl, rfl⟩
      · omega
    · rcases h3 with ⟨g1, -⟩ | ⟨g1, rfl⟩
      · exact absurd (a1 m (by omega)) h2
      · exact Or.inr (Or.inr (Or.inr ⟨rfl, Or.inl rfl⟩))
  · rcases h3 with ⟨g1, rfl, rfl⟩ | ⟨g1, rfl⟩
    · rcases hc with ⟨x, -⟩ | ⟨x, rfl⟩ | ⟨x, rfl⟩ | ⟨x, rfl⟩ | ⟨-, x1, x2, x3, -⟩
      · exact absurd x h2
      · exact Or.inr (Or.inl ⟨t k, Or.inl ⟨x, rfl⟩, rfl, rfl⟩)
      · exact Or.inr (Or.inl ⟨t k, Or.inr (Or.inr ⟨x, rfl⟩), rfl, rfl⟩)
      · exact Or.inr (Or.inl ⟨t k, Or.inr (Or.inl ⟨x, rfl⟩), rfl, rfl⟩)
      · omega
    · rcases hc with ⟨x, -⟩ | ⟨x, -⟩ | ⟨x, -⟩ | ⟨x, -⟩ | ⟨-, -, -, -, x⟩
      · exact absurd x h2
      · exact absurd x g1.1
      · exact absurd x g1.2.1
      · exact absurd x g1.2.2
      · rcases x with ⟨j, hj, hS, -⟩ | ⟨-, rfl⟩
        · have e := hS.hd hj
          have := ws_l j hj 0 (by decide) (by have := ws_len j hj; omega)
          rw [← e] at this
          exact absurd this h1
        · exact Or.inr (Or.inr (Or.inr ⟨rfl, Or.inl rfl⟩))
end
