/-! TEXT: the reference beside the class: tokens -/
def TokE (c s : Int32) (v : Int64) : Prop := TokRel c s v ∨ (c = -nI 1 ∧ s = nI 0)
theorem cdk_d : ∀ k, k < 10 → (∀ i, i < 10 → -nI (cdk i) = -nI (cdk k) → i = k) ∧ ¬ -nI 1 = -nI (cdk k) ∧ ¬ -nI 2 = -nI (cdk k) ∧ ¬ -nI 3 = -nI (cdk k) ∧ ¬ -nI 4 = -nI (cdk k) ∧ ¬ -nI 5 = -nI (cdk k) ∧ -nI (cdk k) < 0 := by decide
theorem wcs_d : ∀ k, k < 10 → ∀ i, i < 10 → lN (wcs.getD i 0) = lN (wcs.getD k 0) → i = k := by decide
theorem nI_nn {n m : Nat} (h : n < 2147483648) (h2 : 1 ≤ m) (h3 : m < 100) : ¬ nI n = -nI m := fun e => by
  have := congrArg Int32.toInt e
  rw [nI_toInt h, neg_int (by omega)] at this
  omega
theorem tokW {c s : Int32} {v : Int64} (h : TokE c s v) {k : Nat} (hk : k < 10) : (s = nI 1 ∧ v = lN (wcs.getD k 0)) ↔ c = -nI (cdk k) := by
  obtain ⟨d1, d2, d3, d4, d5, d6, d7⟩ := cdk_d k hk
  rcases h with (⟨n, n1, rfl, rfl, rfl⟩ | ⟨j, hj, rfl, rfl⟩ | ⟨i, hi, rfl, rfl, rfl⟩ | ⟨rfl, hs⟩) | ⟨rfl, rfl⟩
  · refine ⟨fun x => absurd x.1 (by decide), fun x => ?_⟩
    rw [← x] at d7
    exact absurd d7 (nn0 n)
  · refine ⟨fun x => absurd x.1 (by decide), fun x => ?_⟩
    rcases hj with ⟨-, rfl⟩ | ⟨-, rfl⟩ | ⟨-, rfl⟩
    · exact absurd x d4
    · exact absurd x d5
    · exact absurd x d6
  · exact ⟨fun x => by rw [wcs_d k hk i hi x.2], fun x => by rw [d1 i hi x]; exact ⟨rfl, rfl⟩⟩
  · refine ⟨fun x => ?_, fun x => absurd x d3⟩
    rcases hs with rfl | ⟨rfl, hs⟩
    · exact absurd x.1 (by decide)
    · exact absurd x.2 (hs k hk)
  · exact ⟨fun x => absurd x.1 (by decide), fun x => absurd x d2⟩
def scd (j : Nat) : Int32 := if j = 58 then -nI 3 else if j = 61 then -nI 4 else -nI 5
theorem tokS {c s : Int32} {v : Int64} (h : TokE c s v) {k : Nat} (hk : k = 58 ∨ k = 61 ∨ k = 59) : (s = nI 3 ∧ v = lN k) ↔ c = scd k := by
  have l : ∀ a, a = 58 ∨ a = 61 ∨ a = 59 → ∀ b, b = 58 ∨ b = 61 ∨ b = 59 → (lN a = lN b ↔ scd a = scd b) := by
    rintro a (rfl | rfl | rfl) b (rfl | rfl | rfl) <;> decide
  have n1 : ¬ -nI 1 = scd k := by rcases hk with rfl | rfl | rfl <;> decide
  have n2 : ¬ -nI 2 = scd k := by rcases hk with rfl | rfl | rfl <;> decide
  have n3 : scd k < 0 := by rcases hk with rfl | rfl | rfl <;> decide
  have n4 : ∀ i, i < 10 → ¬ -nI (cdk i) = scd k := by rcases hk with rfl | rfl | rfl <;> decide
  rcases h with (⟨n, m1, rfl, rfl, rfl⟩ | ⟨j, hj, rfl, rfl⟩ | ⟨i, hi, rfl, rfl, rfl⟩ | ⟨rfl, hs⟩) | ⟨rfl, rfl⟩
  · refine ⟨fun x => absurd x.1 (by decide), fun x => ?_⟩
    rw [← x] at n3
    exact absurd n3 (nn0 n)
  · have : c = scd j ∧ (j = 58 ∨ j = 61 ∨ j = 59) := by
      rcases hj with ⟨rfl, rfl⟩ | ⟨rfl, rfl⟩ | ⟨rfl, rfl⟩
      · exact ⟨rfl, by omega⟩
      · exact ⟨rfl, by omega⟩
      · exact ⟨rfl, by omega⟩
    rw [this.1, ← l j this.2 k hk]
    exact ⟨fun x => x.2, fun x => ⟨rfl, x⟩⟩
  · exact ⟨fun x => absurd x.1 (by decide), fun x => absurd x (n4 i hi)⟩
  · refine ⟨fun x => ?_, fun x => absurd x n2⟩
    rcases hs with rfl | ⟨rfl, hs⟩
    · exact absurd x.1 (by decide)
    · exact absurd x.1 (by decide)
  · exact ⟨fun x => absurd x.1 (by decide), fun x => absurd x n1⟩
theorem tokN {c s : Int32} {v : Int64} (h : TokE c s v) : (s = nI 2 ↔ ¬ c < 0) ∧ (s = nI 2 → ∃ n, n < 10000 ∧ c = nI n ∧ v = lN n) := by
  rcases h with (⟨n, m1, rfl, rfl, rfl⟩ | ⟨j, hj, rfl, rfl⟩ | ⟨i, hi, rfl, rfl, rfl⟩ | ⟨rfl, hs⟩) | ⟨rfl, rfl⟩
  · exact ⟨⟨fun _ => nn0 n, fun _ => rfl⟩, fun _ => ⟨n, m1, rfl, rfl⟩⟩
  · have : c < 0 := by rcases hj with ⟨-, rfl⟩ | ⟨-, rfl⟩ | ⟨-, rfl⟩ <;> decide
    exact ⟨⟨fun x => absurd x (by decide), fun x => absurd this x⟩, fun x => absurd x (by decide)⟩
  · exact ⟨⟨fun x => absurd x (by decide), fun x => absurd (cdk_d i hi).2.2.2.2.2.2 x⟩, fun x => absurd x (by decide)⟩
  · have : ¬ s = nI 2 := by rcases hs with rfl | ⟨rfl, -⟩ <;> decide
    exact ⟨⟨fun x => absurd x this, fun x => absurd (by decide) x⟩, fun x => absurd x this⟩
  · exact ⟨⟨fun x => absurd x (by decide), fun x => absurd (by decide) x⟩, fun x => absurd x (by decide)⟩
def TS (s : Nat) (w u : Wd) : Prop := 1 ≤ s ∧ s ≤ 1201 ∧ w.1 10 2 = nI s ∧ (∀ j, j < s → ∃ q, q ≤ 1200 ∧ w.1 12 j = nI q ∧ u.1 61 j = nI q) ∧ (∀ j, j + 1 < s → TokRel (w.1 11 j) (u.1 60 j) (u.2 62 j)) ∧ w.1 11 (s - 1) = -nI 1 ∧ u.1 60 (s - 1) = nI 0 ∧ ConI u
theorem TS.mv {s : Nat} {w u w' u' : Wd} (h : TS s w u) (c2 : w'.1 10 2 = w.1 10 2) (c11 : w'.1 11 = w.1 11) (c12 : w'.1 12 = w.1 12) (r60 : u'.1 60 = u.1 60) (r61 : u'.1 61 = u.1 61) (r2 : u'.2 = u.2) : TS s w' u' := by
  unfold TS ConI at *
  rw [c2, c11, c12, r60, r61, r2]
  exact h
/-- both at the same token, without a fault -/
def Sy (w u : Wd) : Prop := ∃ s, TS s w u ∧ tk w < s ∧ w.1 10 3 = nI (tk w) ∧ u.1 58 7 = nI (tk w) ∧ u.1 58 8 = nI 0
def FU (u : Wd) : Prop := ∃ F, 1 ≤ F ∧ F < 2147483648 ∧ u.1 58 8 = nI F
theorem FU.n {u : Wd} (h : FU u) : ¬ u.1 58 8 = 0 ∧ ¬ u.1 58 8 ≤ 0 := by
  obtain ⟨F, f1, f2, f3⟩ := h
  rw [f3]
  exact ⟨fun e => by have := nI_inj (b := 0) f2 (by omega) e; omega, fun e => by have := gle (b := 0) e; omega⟩
section
variable {w u : Wd} {d : Nat}
theorem Sy.tok (h : Sy w u) : TokE (cd w) (u.1 60 (tk w)) (u.2 62 (tk w)) ∧ tk w < 1202 := by
  obtain ⟨s, ⟨t1, t2, t3, t4, t5, t6, t7, t8⟩, h2, -⟩ := h
  refine ⟨?_, by omega⟩
  by_cases e : tk w + 1 < s
  · exact Or.inl (t5 _ e)
  · unfold cd
    rw [show tk w = s - 1 by omega]
    exact Or.inr ⟨t6, t7⟩
theorem Sy.adv (h : Sy w u) (hc : ¬ cd w = -nI 1) {u' : Wd} (e7 : u'.1 58 7 = nI (tk w + 1)) (e8 : u'.1 58 8 = u.1 58 8) (r60 : u'.1 60 = u.1 60) (r61 : u'.1 61 = u.1 61) (r2 : u'.2 = u.2) : Sy (adw w) u' := by
  obtain ⟨s, T, h2, h3, h4, h5⟩ := h
  have t := T.2.1
  have e : tk (adw w) = tk w + 1 := N_of u_s
  refine ⟨s, T.mv (adw_o (by decide)) (funext fun j => adw_o (by omega)) (funext fun j => adw_o (by omega)) r60 r61 r2, ?_, by rw [e]; exact u_s, by rw [e]; exact e7, by rw [e8]; exact h5⟩
  rw [e]
  have : tk w ≠ s - 1 := fun x => hc (by unfold cd; rw [x]; exact T.2.2.2.2.2.1)
  omega
theorem c_isWord (h : Sy w u) {k : Nat} (hk : k < 10) : EvI m_M_isWord d [.ref 58, .int (nI k)] u (fun r u' => u' = u ∧ Bo (cd w = -nI (cdk k)) r) := by
  obtain ⟨te, t2⟩ := h.tok
  obtain ⟨s, T, h2, h3, h4, h5⟩ := h
  have e := tokW te hk
  refine ev_M_isWord _ (vc_M_isWord_0 _ ⟨fun g => absurd h5 g, fun _ => ⟨tk w, h4, t2, fun g => ⟨Or.inl rfl, rfl, Bo.f (fun x => g (e.mpr x).1)⟩, fun g => ⟨tk w, h4, t2, k, rfl, hk, ?_⟩⟩⟩)
  rw [T.2.2.2.2.2.2.2 k hk, lg_cmp_eq]
  exact ⟨fun g2 => ⟨Or.inl rfl, rfl, Bo.f (fun x => g2 (e.mpr x).2)⟩, fun g2 => ⟨Or.inr rfl, rfl, Bo.t (e.mp ⟨g, g2⟩)⟩⟩
theorem c_isSign (h : Sy w u) {k : Nat} (hk : k = 58 ∨ k = 61 ∨ k = 59) : EvI m_M_isSign d [.ref 58, .int (nI k)] u (fun r u' => u' = u ∧ Bo (cd w = scd k) r) := by
  obtain ⟨te, t2⟩ := h.tok
  obtain ⟨s, T, h2, h3, h4, h5⟩ := h
  have e := tokS te hk
  refine ev_M_isSign _ (vc_M_isSign_0 _ ⟨fun g => absurd h5 g, fun _ => ⟨tk w, h4, t2, fun g => ⟨Or.inl rfl, rfl, Bo.f (fun x => g (e.mpr x).1)⟩, fun g => ⟨tk w, h4, t2, ?_⟩⟩⟩)
  rw [nI_long (by omega), lg_cmp_eq]
  exact ⟨fun g2 => ⟨Or.inl rfl, rfl, Bo.f (fun x => g2 (e.mpr x).2)⟩, fun g2 => ⟨Or.inr rfl, rfl, Bo.t (e.mp ⟨g, g2⟩)⟩⟩
theorem c_wrong (h : Sy w u) (n : Nat) : EvV m_M_wrong d [.ref 58, .int (nI n)] u (fun u' => u' = up1 u 58 8 ((flt w n).1 24 3)) := by
  obtain ⟨te, t2⟩ := h.tok
  obtain ⟨s, T, h2, h3, h4, h5⟩ := h
  obtain ⟨q, q1, q2, q3⟩ := T.2.2.2.1 _ h2
  refine ev_M_wrong _ (vc_M_wrong_0 _ ⟨fun g => absurd h5 g, fun _ => ⟨tk w, h4, t2, ?_⟩⟩)
  rw [q3]
  show up1 u 58 8 _ = up1 u 58 8 ((up1 w 24 3 (nI n + nI 16 * w.1 12 (tk w))).1 24 3)
  rw [u_s, q2]
theorem c_wrongF (h : FU u) (x : Int32) : EvV m_M_wrong d [.ref 58, .int (x)] u (fun u' => u' = u) := ev_M_wrong _ (vc_M_wrong_0 _ ⟨fun _ => rfl, fun g => absurd g h.n.1⟩)
theorem c_isSignF (h : FU u) (x : Int32) : EvI m_M_isSign d [.ref 58, .int (x)] u (fun r u' => u' = u ∧ r = 0) := ev_M_isSign _ (vc_M_isSign_0 _ ⟨fun _ => ⟨Or.inl rfl, rfl, rfl⟩, fun g => absurd g h.n.1⟩)
theorem c_isWordF (h : FU u) (x : Int32) : EvI m_M_isWord d [.ref 58, .int (x)] u (fun r u' => u' = u ∧ r = 0) := ev_M_isWord _ (vc_M_isWord_0 _ ⟨fun _ => ⟨Or.inl rfl, rfl, rfl⟩, fun g => absurd g h.n.1⟩)
theorem c_takeSign (h : Sy w u) {k : Nat} (hk : k = 58 ∨ k = 61 ∨ k = 59) : EvV m_M_takeSign (d + 1) [.ref 58, .int (nI k)] u (fun u' => (cd w = scd k ∧ u' = up1 u 58 7 (nI (tk w + 1))) ∨ (¬ cd w = scd k ∧ u' = up1 u 58 8 ((flt w 1).1 24 3))) := by
  refine ev_M_takeSign _ (vc_M_takeSign_0 _ ⟨_, c_isSign (d := d) h hk, ?_⟩)
  rintro r w1 ⟨rfl, hr⟩
  refine ⟨fun g => ⟨_, c_wrong (d := d) h 1, ?_⟩, fun g => Or.inl ⟨hr.n g, ?_⟩⟩
  · rintro w2 rfl
    exact Or.inr ⟨hr.z g, rfl⟩
  · obtain ⟨s, T, h2, h3, h4, h5⟩ := h
    rw [h4, nI_add]
theorem c_takeSignF (h : FU u) (x : Int32) : EvV m_M_takeSign (d + 1) [.ref 58, .int (x)] u (fun u' => u' = u) := by
  refine ev_M_takeSign _ (vc_M_takeSign_0 _ ⟨_, c_isSignF (d := d) h x, ?_⟩)
  rintro r w1 ⟨rfl, rfl⟩
  refine ⟨fun _ => ⟨_, c_wrongF (d := d) h _, ?_⟩, fun g => absurd rfl g⟩
  rintro w2 rfl
  rfl
theorem c_takeNumberF (h : FU u) (x y : Int32) : EvI m_M_takeNumber (d + 1) [.ref 58, .int (x), .int (y)] u (fun r u' => r = nI 0 ∧ u' = up1 u 58 7 (u.1 58 7 + nI 1)) := by
  refine ev_M_takeNumber _ _ (vc_M_takeNumber_0 _ _ ⟨fun _ => ⟨fun _ => ⟨fun g => absurd g h.n.2, fun _ => ⟨rfl, rfl⟩⟩, fun g => absurd g h.n.1⟩, fun g => absurd g h.n.1⟩)
theorem lg_lt {n m : Nat} (hn : n < 2147483648) (hm : m < 2147483648) : (lg_cmp (lN n) (nI m).toInt64 < 0 ↔ n < m) ∧ (lg_cmp (lN n) (nI m).toInt64 ≤ 0 ↔ n ≤ m) := by
  have e : ∀ k, k < 2147483648 → (lN k).toInt = (k : Int) := fun k hk => by
    rw [← nI_long hk, Int32.toInt_toInt64, nI_toInt hk]
  rw [lg_cmp_lt, lg_cmp_le, nI_long hm, Int64.lt_iff_toInt_lt, Int64.le_iff_toInt_le, e n hn, e m hm]
  omega
theorem c_takeNumber (h : Sy w u) (hv : CV w) {lo hi : Nat} (hlo : lo ≤ 100) (hhi : hi ≤ 100) : EvI m_M_takeNumber (d + 1) [.ref 58, .int (nI lo), .int (nI hi)] u (fun r u' => (∃ n, lo ≤ n ∧ n ≤ hi ∧ cd w = nI n ∧ r = nI n ∧ u' = up1 u 58 7 (nI (tk w + 1))) ∨ ((nmb lo hi w).1 = -nI 1 ∧ r = nI 0 ∧ u' = up1 (up1 u 58 8 ((nmb lo hi w).2.1 24 3)) 58 7 (nI (tk w + 1)))) := by
  obtain ⟨te, t2⟩ := h.tok
  obtain ⟨n1, n2⟩ := tokN te
  obtain ⟨s, T, h2, h3, h4, h5⟩ := id h
  -- a fault is set
  have bad : ∀ k, 1 ≤ k → k ≤ 16 → (nmb lo hi w).1 = -nI 1 → (nmb lo hi w).2 = flt w k → ∃ Q1 : Wd → Prop, EvV m_M_wrong d [.ref 58, .int (nI k)] u Q1 ∧ ∀ w1, Q1 w1 → (((w1.1 58 8) ≤ 0 → ∃ j3 : Nat, (((w1.1 58 7) + (nI 1)) - (nI 1)) = nI j3 ∧ j3 < 1202 ∧ ((∃ n, lo ≤ n ∧ n ≤ hi ∧ cd w = nI n ∧ (w1.2 62 j3).toInt32 = nI n ∧ up1 w1 58 7 ((w1.1 58 7) + (nI 1)) = up1 u 58 7 (nI (tk w + 1))) ∨ ((nmb lo hi w).1 = -nI 1 ∧ (w1.2 62 j3).toInt32 = nI 0 ∧ up1 w1 58 7 ((w1.1 58 7) + (nI 1)) = up1 (up1 u 58 8 ((nmb lo hi w).2.1 24 3)) 58 7 (nI (tk w + 1))))) ∧ (¬ (w1.1 58 8) ≤ 0 → ((∃ n, lo ≤ n ∧ n ≤ hi ∧ cd w = nI n ∧ nI 0 = nI n ∧ up1 w1 58 7 ((w1.1 58 7) + (nI 1)) = up1 u 58 7 (nI (tk w + 1))) ∨ ((nmb lo hi w).1 = -nI 1 ∧ nI 0 = nI 0 ∧ up1 w1 58 7 ((w1.1 58 7) + (nI 1)) = up1 (up1 u 58 8 ((nmb lo hi w).2.1 24 3)) 58 7 (nI (tk w + 1)))))) := by
    intro k k1 k2 e1 e2
    refine ⟨_, c_wrong (d := d) h k, ?_⟩
    rintro w1 rfl
    obtain ⟨F, f1, f2, f3, -⟩ := hv.fl k1 k2
    have fu : FU (up1 u 58 8 ((flt w k).1 24 3)) := ⟨F, f1, f2, by rw [u_s]; exact f3⟩
    refine ⟨fun g => absurd g fu.n.2, fun _ => Or.inr ⟨e1, rfl, ?_⟩⟩
    rw [e2, u_o (by decide), h4, nI_add]
  refine ev_M_takeNumber _ _ (vc_M_takeNumber_0 _ _ ⟨fun g => absurd h5 g, fun _ => ⟨tk w, h4, t2, fun g => ⟨fun g2 => absurd h5 g2, fun _ => ⟨tk w, h4, t2, ?_⟩⟩, fun g => ?_⟩⟩)
  · obtain ⟨n, m1, m2, m3⟩ := n2 g
    have nn := n1.mp g
    obtain ⟨L1, L2⟩ := lg_lt (n := n) (m := lo) (by omega) (by omega)
    obtain ⟨M1, M2⟩ := lg_lt (n := n) (m := hi) (by omega) (by omega)
    rw [m3]
    refine ⟨fun g2 => bad 4 (by omega) (by omega) ?_ ?_, fun g2 => ⟨tk w, h4, t2, ?_⟩⟩
    · unfold nmb; rw [if_neg nn, if_pos (Or.inl (by rw [m2]; exact mlt (L1.mp g2)))]
    · unfold nmb; rw [if_neg nn, if_pos (Or.inl (by rw [m2]; exact mlt (L1.mp g2)))]
    rw [m3]
    refine ⟨fun g3 => ⟨fun _ => ⟨tk w, ?_, t2, Or.inl ⟨n, ?_, M2.mp g3, m2, ?_, ?_⟩⟩, fun g4 => absurd (by rw [h5]; decide) g4⟩, fun g3 => bad 4 (by omega) (by omega) ?_ ?_⟩
    · rw [h4, nI_add, sub_nI (by omega)]; congr 1
    · rcases Nat.lt_or_ge n lo with x | x
      · exact absurd (L1.mpr x) g2
      · exact x
    · rw [m3, lN_i]
    · rw [h4, nI_add]
    · have : hi < n := Nat.lt_of_not_le (fun x => g3 (M2.mpr x))
      unfold nmb; rw [if_neg nn, if_pos (Or.inr (by rw [m2]; exact mlt this))]
    · have : hi < n := Nat.lt_of_not_le (fun x => g3 (M2.mpr x))
      unfold nmb; rw [if_neg nn, if_pos (Or.inr (by rw [m2]; exact mlt this))]
  · have nn : cd w < 0 := Classical.byContradiction (fun x => g (n1.mpr x))
    exact bad 1 (by omega) (by omega) (by unfold nmb; rw [if_pos nn]) (by unfold nmb; rw [if_pos nn])
end
