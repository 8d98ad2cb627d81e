/-! MARKS that a rule catches -/
/-- the set of the numbers below n that p holds of -/
def bset (p : Nat → Bool) : Nat → Nat
  | 0 => 0
  | n + 1 => bset p n ||| (if p n = true then 2 ^ n else 0)
theorem bset_tb (p : Nat → Bool) : ∀ n i, (bset p n).testBit i = (decide (i < n) && p i)
  | 0, i => by rw [bset, Nat.zero_testBit]; simp
  | n + 1, i => by
    rw [bset, Nat.testBit_or, bset_tb p n i]
    by_cases e : i = n
    · subst e
      cases hp : p i with
      | false => simp
      | true => simp [Nat.testBit_two_pow_self]
    · have h2 : (if p n = true then 2 ^ n else 0).testBit i = false := by
        split
        · rw [Nat.testBit_two_pow]; simp; omega
        · exact Nat.zero_testBit i
      rw [h2, Bool.or_false]
      congr 1
      by_cases g : i < n
      · simp [g]; omega
      · simp [g]; omega
theorem bset_lt (p : Nat → Bool) : ∀ n, bset p n < 2 ^ n
  | 0 => by rw [bset]; decide
  | n + 1 => by
    rw [bset]
    refine Nat.or_lt_two_pow (Nat.lt_of_lt_of_le (bset_lt p n) (Nat.pow_le_pow_right (by decide) (by omega))) ?_
    split
    · exact Nat.pow_lt_pow_right (by decide) (by omega)
    · exact Nat.two_pow_pos _
theorem pow_le64 {n : Nat} (h : n ≤ 64) : 2 ^ n ≤ 2 ^ 64 := Nat.pow_le_pow_right (by decide) h
theorem bset_lt64 (p : Nat → Bool) {n : Nat} (h : n ≤ 64) : bset p n < 2 ^ 64 := Nat.lt_of_lt_of_le (bset_lt p n) (pow_le64 h)
theorem bset_pcn (p : Nat → Bool) {n m : Nat} (h : n ≤ m) : pcn m (bset p n) = ct p n := by
  unfold pcn
  obtain ⟨k, rfl⟩ := Nat.le.dest h
  rw [ct_add, ct_zero (n := k) (fun j hj => by rw [bset_tb, show decide (n + j < n) = false by rw [decide_eq_false_iff_not]; omega, Bool.false_and]), Nat.add_zero]
  exact ct_cong (fun i hi => by rw [bset_tb]; simp [hi])
theorem lN_shl1 {n : Nat} (h : n < 64) : lN 1 <<< ((nI n).toInt64 &&& 63) = lN (2 ^ n) := by rw [wb_shl 1 h, Nat.one_mul]
theorem bset_t {p : Nat → Bool} {n : Nat} (hn : n < 64) (h : p n = true) : lN (bset p n) ||| (lN 1 <<< ((nI n).toInt64 &&& 63)) = lN (bset p (n + 1)) := by
  rw [lN_shl1 hn, wb_or (bset_lt64 p (by omega)) (Nat.pow_lt_pow_right (by decide) hn), bset, if_pos h]
theorem bset_f {p : Nat → Bool} {n : Nat} (h : p n = false) : bset p (n + 1) = bset p n := by
  rw [bset, if_neg (by rw [h]; decide), Nat.or_zero]
abbrev ms (w : Wd) (n : Nat) : Nat := N w 86 n
abbrev ml (w : Wd) (n : Nat) : Nat := N w 87 n
abbrev mt (w : Wd) (n : Nat) : Nat := N w 88 n
abbrev mr (w : Wd) (n : Nat) : Nat := N w 89 n
theorem MrkI.at {w : Wd} (h : MrkI w) (hS : SenI w) {n : Nat} (hn : n < mk w) : (ms w n < cm w ∧ ml w n < len w (ms w n) ∧ mt w n < len w (ms w n) ∧ ml w n ≠ mt w n ∧ mr w n < 10 ∧ len w (ms w n) ≤ 16) ∧ (w.1 86 n = nI (ms w n) ∧ w.1 87 n = nI (ml w n) ∧ w.1 88 n = nI (mt w n) ∧ w.1 89 n = nI (mr w n) ∧ (w.1 90 n = 0 ∨ w.1 90 n = 1)) ∧ (w.1 46 n = nI (ms w n) ∧ w.1 47 n = nI (ml w n) ∧ w.1 48 n = nI (mt w n) ∧ w.1 49 n = nI (mr w n) ∧ w.1 50 n = w.1 90 n) := by
  obtain ⟨s, l, t, r, a1, a2, a3, a4, a5, ⟨b1, b2, b3, b4, b5⟩, c1, c2, c3, c4, c5⟩ := h.2 n hn
  have hc := hS.2.2.1.1
  have hle := (hS.2.2.2.1 s a1).2.1
  have e1 : ms w n = s := N_of b1
  have e2 : ml w n = l := N_of b2
  have e3 : mt w n = t := N_of b3
  have e4 : mr w n = r := N_of b4
  rw [e1, e2, e3, e4]
  exact ⟨⟨a1, a2, a3, a4, a5, hle⟩, ⟨b1, b2, b3, b4, b5⟩, c1, c2, c3, c4, c5⟩
/-- rule k catches mark n, of that worth -/
def CgP (w : Wd) (k : Nat) (b : Int32) (n : Nat) : Prop := w.1 90 n = b ∧ mr w n = rl w k ∧ Fnd w (ms w n) k (ml w n) (mt w n)
noncomputable def cgB (w : Wd) (k : Nat) (b : Int32) (n : Nat) : Bool := @decide (CgP w k b n) (Classical.propDecidable _)
theorem cgB_t {w : Wd} {k n : Nat} {b : Int32} (h : CgP w k b n) : cgB w k b n = true := by
  unfold cgB; exact (@decide_eq_true_iff _ (Classical.propDecidable _)).mpr h
theorem cgB_f {w : Wd} {k n : Nat} {b : Int32} (h : ¬ CgP w k b n) : cgB w k b n = false := by
  cases e : cgB w k b n with
  | false => rfl
  | true => exact absurd ((@decide_eq_true_iff _ (Classical.propDecidable _)).mp e) h
def MU (w : Wd) (r b : Int32) (n : Nat) : Prop := w.1 89 n = r ∧ w.1 90 n = b ∧ thr w (ms w n)
theorem c_isUsable {d : Nat} {w : Wd} (hM : MrkI w) (hS : SenI w) {n : Nat} (hn : n < mk w) (r b : Int32) : EvI m_Marks_isUsable (d + 1) [.ref 45, .int (nI n), .int (r), .int (b)] w (fun x w' => w' = w ∧ Bo (MU w r b n) x) := by
  obtain ⟨⟨a1, a2, a3, a4, a5, a6⟩, ⟨b1, b2, b3, b4, b5⟩, c1, c2, c3, c4, c5⟩ := hM.at hS hn
  have m1 := hM.1.1
  refine ev_Marks_isUsable _ _ _ (vc_Marks_isUsable_0 _ _ _ ?_)
  rw [hM.1.2.2]
  refine ⟨fun g => absurd g (nn0 n), fun _ => ⟨fun g => absurd (gle g) (by omega), fun _ => ⟨n, rfl, by omega, fun g => ⟨Or.inl rfl, rfl, Bo.f (fun x => g (by rw [c4, ← b4]; exact x.1))⟩, fun g => ⟨n, rfl, by omega, fun g2 => ⟨Or.inl rfl, rfl, Bo.f (fun x => g2 (by rw [c5]; exact x.2.1))⟩, fun g2 => ⟨n, rfl, by omega, ?_⟩⟩⟩⟩⟩
  rw [c1]
  refine ⟨_, c_Sentences_isThere (d := d) hS _, ?_⟩
  rintro x w1 ⟨rfl, hx⟩
  refine ⟨fun g3 => ⟨Or.inl rfl, rfl, Bo.f (fun x => hx.z g3 ⟨_, a1, rfl, x.2.2⟩)⟩, fun g3 => ⟨Or.inr rfl, rfl, Bo.t ⟨by rw [b4, ← c4]; exact g, by rw [← c5]; exact g2, ?_⟩⟩⟩
  obtain ⟨s, s1, s2, s3⟩ := hx.n g3
  have hc := hS.2.2.1.1
  rw [nI_inj (by omega) (by omega) s2]
  exact s3
theorem c_caughtBy {d : Nat} {w : Wd} (h : FF w) (hM : MrkI w) {k : Nat} (hk : k < nr w) (b : Int32) : EvL m_Marks_caughtBy (d + 2) [.ref 45, .int (nI k), .int (b)] w (fun r w' => w' = w ∧ r = lN (bset (cgB w k b) (mk w))) := by
  have hC := h.1
  have m1 := hM.1.1
  have hr12 := hC.2.2.2.1.1
  refine ev_Marks_caughtBy _ _ (vc_Marks_caughtBy_0 _ _ ⟨_, c_Book_relationOf (d := d) hC.2.2 hk, ?_⟩)
  rintro x w1 ⟨rfl, rfl⟩
  refine lpU (I := fun n w' => w' = w1) (G := fun n w' => Z m_Marks_caughtBy (d + 2) (qL (fun r w' => w' = w1 ∧ r = lN (bset (cgB w1 k b) (mk w1)))) 15 [(0, .ref 45), (1, .int (nI k)), (2, .int b), (3, .long (lN (bset (cgB w1 k b) n))), (5, .int (nI (rl w1 k))), (6, .int (nI n))] [] w') (M := mk w1) ?_ ?_ 0 (Nat.zero_le _) _ rfl
  · rintro w2 rfl
    refine vc_Marks_caughtBy_15 _ _ _ _ _ ?_
    rw [hM.1.2.2]
    exact ⟨fun _ => ⟨rfl, rfl⟩, fun g => absurd (mle (Nat.le_refl _)) g⟩
  · rintro n w2 hn rfl nx
    obtain ⟨⟨a1, a2, a3, a4, a5, a6⟩, ⟨b1, b2, b3, b4, b5⟩, c1, c2, c3, c4, c5⟩ := hM.at hC.2.1 hn
    refine vc_Marks_caughtBy_15 _ _ _ _ _ ?_
    rw [hM.1.2.2]
    refine ⟨fun g => absurd (gle g) (by omega), fun _ => ⟨fun g => absurd (gle g) (by omega), fun _ => ⟨_, c_isUsable (d := d) hM hC.2.1 hn _ _, ?_⟩⟩⟩
    rintro x w1 ⟨rfl, hx⟩
    have hrl : rl w1 k < 10 := (hC.2.2.2.2.1 k hk).1.1
    refine ⟨fun g => ?_, fun g => ⟨n, rfl, by omega, n, rfl, by omega, n, rfl, by omega, ?_⟩⟩
    · rw [nI_add, ← bset_f (p := cgB w1 k b) (n := n) (cgB_f (fun x => hx.z g ⟨by rw [b4, x.2.1], x.1, x.2.2.2.1⟩))]
      exact nx _ rfl
    · rw [c1, c2, c3]
      refine ⟨_, c_Finder_has (d := d) h a1 (by omega) (by omega) (by omega), ?_⟩
      rintro y w2 ⟨rfl, hy⟩
      obtain ⟨u1, u2, u3⟩ := hx.n g
      rw [b4] at u1
      refine ⟨fun g2 => ?_, fun g2 => ?_⟩
      · rw [nI_add, ← bset_f (p := cgB w2 k b) (n := n) (cgB_f (fun x => hy.z g2 x.2.2))]
        exact nx _ rfl
      · rw [nI_add, bset_t (by omega) (cgB_t ⟨u2, nI_inj (by omega) (by omega) u1, hy.n g2⟩)]
        exact nx _ rfl
theorem c_catchesMark {d : Nat} {w : Wd} (hC : CtI w) (hM : MrkI w) (hR : RF w) {k n : Nat} (hk : k < nr w) (hn : n < mk w) : EvI m_M_catchesMark (d + 1) [.ref 58, .int (nI k), .int (nI n)] w (fun r w' => w' = w ∧ Bo (CgP w k (w.1 90 n) n) r) := by
  obtain ⟨⟨a1, a2, a3, a4, a5, a6⟩, ⟨b1, b2, b3, b4, b5⟩, -⟩ := hM.at hC.2.1 hn
  have m1 := hM.1.1
  have hr12 := hC.2.2.2.1.1
  have hcm := hC.2.1.2.2.1.1
  have hh := hC.2.2.1
  obtain ⟨r1, r2, -⟩ := (hC.2.2.2.2.1 k hk).1
  refine ev_M_catchesMark _ _ (vc_M_catchesMark_0 _ _ ⟨12 * hl w + k, by rw [hh.2, pk_mul, nI_add], by omega, n, rfl, by omega, ?_⟩)
  rw [r2, b4]
  refine ⟨fun g => ⟨Or.inl rfl, rfl, Bo.f (fun x => g (by rw [x.2.1]))⟩, fun g => ⟨n, rfl, by omega, n, rfl, by omega, n, rfl, by omega, ?_⟩⟩
  have g := nI_inj (by omega) (by omega) g
  rw [b1, b2, b3]
  refine ⟨_, ev_M_findOf _ _ _ _ (vc_M_findOf_0 _ _ _ _ (Q := fun x w' => w' = w ∧ x = nI (256 * (12 * ms w n + k) + 16 * ml w n + mt w n)) ⟨rfl, by rw [pk_mul, nI_add, pk_mul, pk_mul, nI_add, nI_add]⟩), ?_⟩
  rintro x w1 ⟨rfl, rfl⟩
  have hj : 256 * (12 * ms w1 n + k) + 16 * ml w1 n + mt w1 n < 122880 := by omega
  refine ⟨_, rfl, hj, fun g2 => ⟨Or.inl rfl, rfl, Bo.f (fun x => ?_)⟩, fun g2 => ⟨Or.inr rfl, rfl, Bo.t ⟨rfl, g.symm, ?_⟩⟩⟩
  · have e := hR.z hj g2
    rw [(fN_at w1 (by omega) (by omega) (by omega)).mpr x.2.2] at e
    exact absurd e (by decide)
  · exact (fN_at w1 (by omega) (by omega) (by omega)).mp (hR.n hj g2)
theorem c_M_caught {d : Nat} {w : Wd} (hC : CtI w) (hM : MrkI w) (hR : RF w) {k : Nat} (hk : k < nr w) (b : Int32) : EvI m_M_caught (d + 2) [.ref 58, .int (nI k), .int (b)] w (fun r w' => w' = w ∧ r = nI (ct (cgB w k b) (mk w))) := by
  have m1 := hM.1.1
  refine ev_M_caught _ _ (vc_M_caught_0 _ _ ?_)
  refine lpU (I := fun n w' => w' = w) (G := fun n w' => Z m_M_caught (d + 2) (qI (fun r w' => w' = w ∧ r = nI (ct (cgB w k b) (mk w)))) 5 [(0, .ref 58), (1, .int (nI k)), (2, .int (b)), (3, .int (nI (ct (cgB w k b) n))), (4, .int (nI n))] [] w') (M := mk w) ?_ ?_ 0 (Nat.zero_le _) _ rfl
  · rintro w1 rfl
    refine vc_M_caught_5 _ _ _ _ ?_
    rw [hM.1.2.1]
    exact ⟨fun _ => ⟨rfl, rfl⟩, fun g => absurd (mle (Nat.le_refl _)) g⟩
  · rintro n w1 hn rfl nx
    refine vc_M_caught_5 _ _ _ _ ?_
    rw [hM.1.2.1]
    refine ⟨fun g => absurd (gle g) (by omega), fun _ => ⟨n, rfl, by omega, fun g => ?_, fun g => ⟨_, c_catchesMark (d := d) hC hM hR hk hn, ?_⟩⟩⟩
    · rw [nI_add, nI_add, Nat.add_zero, ← ct_succ_f (p := cgB w1 k b) (k := n) (cgB_f (fun x => g x.1))]
      exact nx _ rfl
    · rintro x w2 ⟨rfl, hx⟩
      rw [g] at hx
      refine ⟨fun g2 => ?_, fun g2 => ?_⟩
      · rw [nI_add, nI_add, Nat.add_zero, ← ct_succ_f (p := cgB w2 k b) (k := n) (cgB_f (hx.z g2))]
        exact nx _ rfl
      · rw [nI_add, nI_add, ← ct_succ_t (p := cgB w2 k b) (k := n) (cgB_t (hx.n g2))]
        exact nx _ rfl
/-- right ones caught, of a thousand -/
def shr (g b : Nat) : Int32 := if g + b = 0 then -nI 1 else (nI g * nI 1000) / (nI g + nI b)
theorem c_shareOf {d : Nat} {w : Wd} (h : FF w) (hM : MrkI w) {k : Nat} (hk : k < nr w) : EvI m_Marks_shareOf (d + 3) [.ref 45, .int (nI k)] w (fun r w' => w' = w ∧ r = shr (ct (cgB w k (nI 1)) (mk w)) (ct (cgB w k (nI 0)) (mk w))) := by
  have m1 := hM.1.1
  refine ev_Marks_shareOf _ (vc_Marks_shareOf_0 _ ⟨_, c_caughtBy (d := d) h hM hk _, ?_⟩)
  rintro r w1 ⟨rfl, rfl⟩
  refine ⟨_, c_Long_bitCount (d := d + 2) (bset_lt64 _ (by omega)), ?_⟩
  rintro r w2 ⟨rfl, rfl⟩
  refine ⟨_, c_caughtBy (d := d) h hM hk _, ?_⟩
  rintro r w1 ⟨rfl, rfl⟩
  refine ⟨_, c_Long_bitCount (d := d + 2) (bset_lt64 _ (by omega)), ?_⟩
  rintro r w2 ⟨rfl, rfl⟩
  rw [bset_pcn _ (by omega), bset_pcn _ (by omega)]
  have h1 := ct_le (cgB w2 k (nI 1)) (mk w2)
  have h2 := ct_le (cgB w2 k (nI 0)) (mk w2)
  have e : nI (ct (cgB w2 k (nI 1)) (mk w2)) + nI (ct (cgB w2 k (nI 0)) (mk w2)) = 0 ↔ ct (cgB w2 k (nI 1)) (mk w2) + ct (cgB w2 k (nI 0)) (mk w2) = 0 := by
    rw [nI_add]
    constructor
    · intro g; exact nI_inj (by omega) (by omega) g
    · intro g; rw [g]; rfl
  refine ⟨fun g => ⟨g, rfl, ?_⟩, fun g => ⟨rfl, ?_⟩⟩
  · unfold shr; rw [if_neg (fun x => g (e.mpr x))]
  · unfold shr; rw [if_pos (e.mp g)]
/-- what is told of rule k -/
noncomputable def ruA (w : Wd) (k : Nat) (x : Int32) : Int32 := if x = nI 0 then nI (rl w k) else if x = nI 1 then nI (ct (cgB w k (nI 1)) (mk w)) else if x = nI 2 then nI (ct (cgB w k (nI 0)) (mk w)) else if x = nI 3 then shr (ct (cgB w k (nI 1)) (mk w)) (ct (cgB w k (nI 0)) (mk w)) else if x = nI 4 then nI (ni w k) else nI (sumN (fun s => nf w (12 * s + k)) 40)
theorem z_M_rule69 {d : Nat} {w : Wd} (hC : CtI w) (hR : RF w) {k : Nat} (hk : k < nr w) (x : Int32) {g b : Nat} (hg : g ≤ 60) (hb : b ≤ 60) {Q : Int32 → Wd → Prop} (hq : Q (if x = nI 0 then nI (rl w k) else if x = nI 1 then nI g else if x = nI 2 then nI b else if x = nI 3 then shr g b else if x = nI 4 then nI (ni w k) else nI (sumN (fun s => nf w (12 * s + k)) 40)) w) : Z m_M_rule (d + 1) (qI Q) 69 [(0, .ref 58), (1, .int (nI k)), (2, .int (x)), (3, .int (nI g)), (4, .int (nI b)), (5, .int (nI 0)), (6, .int (nI 0))] [] w := by
  have hr12 := hC.2.2.2.1.1
  have hh := hC.2.2.1
  refine lpU (I := fun s w' => w' = w) (G := fun s w' => Z m_M_rule (d + 1) (qI Q) 69 [(0, .ref 58), (1, .int (nI k)), (2, .int (x)), (3, .int (nI g)), (4, .int (nI b)), (5, .int (nI (sumN (fun s => nf w (12 * s + k)) s))), (6, .int (nI s))] [] w') (M := 40) ?_ ?_ 0 (Nat.zero_le _) _ rfl
  · rintro w1 rfl
    refine vc_M_rule_69 _ _ _ _ _ _ ⟨fun _ => ?_, fun g => absurd (mle (Nat.le_refl _)) g⟩
    have e : nI g + nI b = 0 ↔ g + b = 0 := by
      rw [nI_add]
      constructor
      · intro g; exact nI_inj (by omega) (by omega) g
      · intro g; rw [g]; rfl
    refine ⟨fun g => ⟨12 * hl w1 + k, by rw [hh.2, pk_mul, nI_add], by omega, ?_⟩, fun g => ?_⟩
    · rw [if_pos g] at hq; rw [(hC.2.2.2.2.1 k hk).1.2.1]; exact hq
    rw [if_neg g] at hq
    refine ⟨fun g => by rw [if_pos g] at hq; exact hq, fun g => ?_⟩
    rw [if_neg g] at hq
    refine ⟨fun g => by rw [if_pos g] at hq; exact hq, fun g => ?_⟩
    rw [if_neg g] at hq
    refine ⟨fun g => ⟨fun g2 => ⟨g2, ?_⟩, fun g2 => ?_⟩, fun g => ?_⟩
    · rw [if_pos g] at hq; unfold shr at hq; rw [if_neg (fun x => g2 (e.mpr x))] at hq; exact hq
    · rw [if_pos g] at hq; unfold shr at hq; rw [if_pos (e.mp g2)] at hq; exact hq
    rw [if_neg g] at hq
    refine ⟨fun g => ⟨12 * hl w1 + k, by rw [hh.2, pk_mul, nI_add], by omega, ?_⟩, fun g => ?_⟩
    · rw [if_pos g] at hq; rw [(hC.2.2.2.2.1 k hk).2.1.2.1]; exact hq
    rw [if_neg g] at hq
    exact hq
  · rintro s w1 hs rfl nx
    refine vc_M_rule_69 _ _ _ _ _ _ ⟨fun g => absurd (gle g) (by omega), fun _ => ?_⟩
    refine ⟨_, ev_M_findOf _ _ _ _ (vc_M_findOf_0 _ _ _ _ (Q := fun x w' => w' = w1 ∧ x = nI (256 * (12 * s + k) + 0)) ⟨rfl, by rw [pk_mul, nI_add, pk_mul, pk_mul, nI_add, nI_add]⟩), ?_⟩
    rintro y w2 ⟨rfl, rfl⟩
    refine lpU (I := fun j w' => w' = w2) (G := fun j w' => Z m_M_rule (d + 1) (qI Q) 86 [(0, .ref 58), (1, .int (nI k)), (2, .int (x)), (3, .int (nI g)), (4, .int (nI b)), (5, .int (nI (sumN (fun s => nf w2 (12 * s + k)) s + ct (fun j => fN w2 ((12 * s + k) * 256 + j)) j))), (6, .int (nI s)), (7, .int (nI (256 * (12 * s + k) + j)))] [] w') (M := 256) ?_ ?_ 0 (Nat.zero_le _) _ rfl
    · rintro w1 rfl
      refine vc_M_rule_86 _ _ _ _ _ _ _ ⟨_, ev_M_findOf _ _ _ _ (vc_M_findOf_0 _ _ _ _ (Q := fun x w' => w' = w1 ∧ x = nI (256 * (12 * s + k) + 255)) ⟨rfl, by rw [pk_mul, nI_add, pk_mul, pk_mul, nI_add, nI_add]⟩), ?_⟩
      rintro y w2 ⟨rfl, rfl⟩
      refine ⟨fun _ => ?_, fun g => absurd (mlt (by omega)) g⟩
      rw [nI_add]
      exact nx _ rfl
    · rintro j w1 hj rfl nj
      refine vc_M_rule_86 _ _ _ _ _ _ _ ⟨_, ev_M_findOf _ _ _ _ (vc_M_findOf_0 _ _ _ _ (Q := fun x w' => w' = w1 ∧ x = nI (256 * (12 * s + k) + 255)) ⟨rfl, by rw [pk_mul, nI_add, pk_mul, pk_mul, nI_add, nI_add]⟩), ?_⟩
      rintro y w2 ⟨rfl, rfl⟩
      have hj' : 256 * (12 * s + k) + j < 122880 := by omega
      refine ⟨fun g => absurd (glt g) (by omega), fun _ => ⟨_, rfl, hj', fun g => ?_, fun g => ?_⟩⟩
      · have e := hR.z hj' g
        rw [nI_add, nI_add, Nat.add_zero, Nat.add_assoc, ← ct_succ_f (p := fun j => fN w2 ((12 * s + k) * 256 + j)) (k := j) (by rw [Nat.mul_comm]; exact e)]
        exact nj _ rfl
      · have e := hR.n hj' g
        rw [nI_add, nI_add, Nat.add_assoc, Nat.add_assoc, ← ct_succ_t (p := fun j => fN w2 ((12 * s + k) * 256 + j)) (k := j) (by rw [Nat.mul_comm]; exact e)]
        exact nj _ rfl
def RuOk (w : Wd) (x y : Int32) : Prop := isRu w x ∧ 0 ≤ y.toInt ∧ y.toInt ≤ 5
theorem MFr.mrk {w w' : Wd} (h : MFr w w') (hM : MrkI w) : MrkI w' := hM.mv (by rw [show cm w' = cm w from N_cg (h.1 58 30 (by omega) (by omega))]; exact Nat.le_refl _) (fun s _ => N_cg (by rw [h.off (by decide) (by decide)])) (h.1 58 39 (by omega) (by omega)) (h.1 45 8 (by omega) (by omega)) (fun a ha => h.off (by omega) (by omega))
theorem MFr.cgE {w w' : Wd} (h : MFr w w') (k : Nat) (b : Int32) (n : Nat) : cgB w' k b n = cgB w k b n := by
  have m := h.mf
  have e3 : rl w' k = rl w k := by
    show N w' 65 (12 * N w' 58 10 + k) = N w 65 (12 * N w 58 10 + k)
    rw [N_cg m.1, m.NE (by omega)]
  have e : CgP w' k b n = CgP w k b n := by
    unfold CgP
    rw [m.FndE, e3, h.off (a := 90) (by decide) (by decide), show ms w' n = ms w n from N_cg (by rw [h.off (by decide) (by decide)]), show ml w' n = ml w n from N_cg (by rw [h.off (by decide) (by decide)]), show mt w' n = mt w n from N_cg (by rw [h.off (by decide) (by decide)]), show mr w' n = mr w n from N_cg (by rw [h.off (by decide) (by decide)])]
  unfold cgB
  congr 1
theorem c_M_rule {w : Wd} (hC : CtI w) (hM : MrkI w) (hR : RefI w) (x y : Int32) : EvI m_M_rule 30 [.ref 58, .int (x), .int (y)] w (fun r w' => (¬ RuOk w x y ∧ r = nI 0 ∧ w' = up1 w 58 0 (nI 1)) ∨ (RuOk w x y ∧ ∃ k, k < nr w ∧ x = nI k ∧ MFr w w' ∧ RefI w' ∧ w'.1 58 0 = 0 ∧ r = ruA w k y)) := by
  have hh := hC.2.2.1
  have hr12 := hC.2.2.2.1.1
  have no : ¬ RuOk w x y → ((¬ RuOk w x y ∧ nI 0 = nI 0 ∧ up1 w 58 0 (nI 1) = up1 w 58 0 (nI 1)) ∨ (RuOk w x y ∧ ∃ k, k < nr w ∧ x = nI k ∧ MFr w (up1 w 58 0 (nI 1)) ∧ RefI (up1 w 58 0 (nI 1)) ∧ (up1 w 58 0 (nI 1)).1 58 0 = 0 ∧ nI 0 = ruA w k y)) := fun h => Or.inl ⟨h, rfl, rfl⟩
  refine ev_M_rule x y (vc_M_rule_0 x y ⟨fun g => ⟨fun g2 => absurd g2 (by decide), fun _ => no ?_⟩, fun g => ⟨hl w, hh.2, hh.1, ?_⟩⟩)
  · rintro ⟨⟨a, -⟩, -⟩
    have := lt0 g
    omega
  rw [hC.2.2.2.1.2.1]
  obtain ⟨k, k0, rfl, ek⟩ := i_nat (nlt0 g)
  refine ⟨fun g => ⟨fun g2 => absurd g2 (by decide), fun _ => no ?_⟩, fun g => ⟨fun g2 => ⟨fun g2 => absurd g2 (by decide), fun _ => no ?_⟩, fun g2 => ⟨fun g3 => ⟨fun g2 => absurd g2 (by decide), fun _ => no ?_⟩, fun g3 => ⟨fun _ => ?_, fun g => absurd (by decide) g⟩⟩⟩⟩
  · rintro ⟨⟨-, a⟩, -⟩
    have := gle g
    omega
  · rintro ⟨-, a, -⟩
    have := lt0 g2
    omega
  · rintro ⟨-, -, a⟩
    rw [i_lt, tn 5] at g3
    omega
  have hk : k < nr w := ngle g
  have hok : RuOk w (nI k) y := ⟨⟨by omega, by omega⟩, nlt0 g2, by rw [i_lt, tn 5] at g3; omega⟩
  have m0 : MFr w (up1 w 58 0 (nI 0)) := MFr.up (by omega)
  have hR0 : RefI (up1 w 58 0 (nI 0)) := hR.mv (SemF.of (m0.sm.sa (fun a k x => by unfold KF at x; unfold CFR; omega))) rfl rfl
  refine ⟨_, c_findAll0 (d := 26) (m0.ct hC) hR0.2, ?_⟩
  rintro w1 ⟨m1, a2, a3, a4⟩
  have m2 := m0.tr m1
  have hC1 := m2.ct hC
  have hM1 := m2.mrk hM
  have e10 : N w1 58 10 = N w 58 10 := N_cg m2.mf.1
  have hk1 : k < nr w1 := by
    rw [show nr w1 = nr w by show N w1 64 (N w1 58 10) = N w 64 (N w 58 10); rw [e10, m2.mf.NE (by omega)]]
    exact hk
  refine ⟨_, c_M_caught (d := 27) hC1 hM1 a2 hk1 _, ?_⟩
  rintro r w2 ⟨rfl, rfl⟩
  refine ⟨_, c_M_caught (d := 27) hC1 hM1 a2 hk1 _, ?_⟩
  rintro r w1 ⟨rfl, rfl⟩
  have m60 := hM1.1.1
  have emk : mk w1 = mk w := N_cg (m2.1 58 39 (by omega) (by omega))
  have h1 := ct_le (cgB w1 k (nI 1)) (mk w1)
  have h2 := ct_le (cgB w1 k (nI 0)) (mk w1)
  refine z_M_rule69 (d := 29) hC1 a2 hk1 y (by omega) (by omega) (Or.inr ⟨hok, k, hk, rfl, m2, ⟨Or.inl a3, fun _ => a2⟩, ?_, ?_⟩)
  · exact a4
  · show _ = ruA w k y
    unfold ruA
    rw [emk, show cgB w1 k (nI 1) = cgB w k (nI 1) from funext (m2.cgE k _), show cgB w1 k (nI 0) = cgB w k (nI 0) from funext (m2.cgE k _)]
    rw [show rl w1 k = rl w k by show N w1 65 (12 * N w1 58 10 + k) = N w 65 (12 * N w 58 10 + k); rw [e10, m2.mf.NE (by omega)], show ni w1 k = ni w k by show N w1 66 (12 * N w1 58 10 + k) = N w 66 (12 * N w 58 10 + k); rw [e10, m2.mf.NE (by omega)], show nf w1 = nf w by funext i; unfold nf; rw [m2.mf.fNE]]
