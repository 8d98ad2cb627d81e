/-! TEXT: the tokens, of the class -/
def ltr (c : Nat) : Prop := 97 ≤ c ∧ c ≤ 122
def dgt (c : Nat) : Prop := 48 ≤ c ∧ c ≤ 57
def blk (c : Nat) : Prop := c = 10 ∨ c = 32
def gon (t : Nat → Nat) (k : Nat) : Prop := 1 ≤ k ∧ ((ltr (t (k - 1)) ∧ ltr (t k)) ∨ (dgt (t (k - 1)) ∧ dgt (t k)))
noncomputable def stB (t : Nat → Nat) (k : Nat) : Bool := @decide (¬ blk (t k) ∧ ¬ gon t k) (Classical.propDecidable _)
theorem stB_t {t : Nat → Nat} {k : Nat} (h : ¬ blk (t k) ∧ ¬ gon t k) : stB t k = true := by
  unfold stB; exact (@decide_eq_true_iff _ (Classical.propDecidable _)).mpr h
theorem stB_f {t : Nat → Nat} {k : Nat} (h : ¬ (¬ blk (t k) ∧ ¬ gon t k)) : stB t k = false := by
  cases e : stB t k with
  | false => rfl
  | true => exact absurd ((@decide_eq_true_iff _ (Classical.propDecidable _)).mp e) h
/-- the tape holds t, of length L; 0 behind -/
def TA (L : Nat) (t : Nat → Nat) (w : Wd) : Prop := L ≤ 1200 ∧ w.1 8 1 = nI L ∧ (∀ k, k < L → w.1 9 k = nI (t k) ∧ t k < 128) ∧ ∀ k, L ≤ k → t k = 0
/-- the words, as the class's strings have them -/
def ws (j : Nat) : List Nat := [[97, 110, 121], [98, 97, 114], [99, 104, 97, 105, 110], [108, 101, 102, 116], [114, 117, 108, 101], [114, 105, 103, 104, 116], [115, 111, 109, 101], [115, 111, 114, 116], [115, 105, 110, 103, 108, 101], [119, 111, 114, 100]].getD j []
def cds (j : Nat) : Nat := [15, 7, 8, 10, 6, 11, 12, 14, 9, 13].getD j 0
def StrOK : Prop := ∀ (d : Nat) (w : Wd) (j : Nat), j < 10 → EvI m_String_length (d + 3) [.ref (200 + j)] w (fun r w' => w' = w ∧ r = nI (ws j).length) ∧ ∀ i, i < (ws j).length → EvI m_String_charAt (d + 3) [.ref (200 + j), .int (nI i)] w (fun r w' => w' = w ∧ r = nI ((ws j).getD i 0))
def Sd (t : Nat → Nat) (k : Nat) (l : List Nat) : Prop := (∀ i, i < l.length → t (k + i) = l.getD i 0) ∧ ¬ ltr (t (k + l.length))
def WC (t : Nat → Nat) (k : Nat) (r : Int32) : Prop := (∃ j, j < 10 ∧ Sd t k (ws j) ∧ r = -nI (cds j)) ∨ ((∀ j, j < 10 → ¬ Sd t k (ws j)) ∧ r = -nI 2)
def nv (t : Nat → Nat) (k : Nat) : Nat → Nat
  | 0 => 0
  | n + 1 => 10 * nv t k n + (t (k + n) - 48)
def NC (t : Nat → Nat) (k : Nat) (r : Int32) : Prop := (∃ m, m ≤ 4 ∧ (∀ i, i < m → dgt (t (k + i))) ∧ ¬ dgt (t (k + m)) ∧ r = nI (nv t k m)) ∨ ((∀ i, i < 5 → dgt (t (k + i))) ∧ r = -nI 2)
def CA (t : Nat → Nat) (k : Nat) (r : Int32) : Prop := (dgt (t k) ∧ NC t k r) ∨ (t k = 58 ∧ r = -nI 3) ∨ (t k = 59 ∧ r = -nI 5) ∨ (t k = 61 ∧ r = -nI 4) ∨ (¬ dgt (t k) ∧ t k ≠ 58 ∧ t k ≠ 59 ∧ t k ≠ 61 ∧ WC t k r)
theorem ws_len : ∀ j, j < 10 → 3 ≤ (ws j).length ∧ (ws j).length ≤ 6 := by decide
theorem Sd.hd {t : Nat → Nat} {k j : Nat} (hj : j < 10) (h : Sd t k (ws j)) : t k = (ws j).getD 0 0 := h.1 0 (by have := ws_len j hj; omega)
section
variable {L : Nat} {t : Nat → Nat} {w : Wd} {d : Nat}
theorem TA.lt (h : TA L t w) (k : Nat) : t k < 128 := by
  rcases Nat.lt_or_ge k L with g | g
  · exact (h.2.2.1 k g).2
  · rw [h.2.2.2 k g]; decide
theorem c_at (h : TA L t w) {k : Nat} (hk : k < 2147483648) : EvI m_Tape_at d [.ref 8, .int (nI k)] w (fun r w' => w' = w ∧ r = nI (t k)) := by
  have h1 := h.1
  refine ev_Tape_at _ (vc_Tape_at_0 _ ?_)
  rw [h.2.1]
  refine ⟨fun g => absurd g (nn0 k), fun _ => ⟨fun g => ⟨⟨0, by decide, rfl⟩, rfl, by rw [h.2.2.2 k (gle g)]⟩, fun g => ?_⟩⟩
  have g := ngle g
  have e := h.2.2.1 k g
  exact ⟨k, rfl, by omega, ⟨t k, by omega, e.1⟩, rfl, e.1⟩
theorem c_at_m (h : TA L t w) : EvI m_Tape_at d [.ref 8, .int (-nI 1)] w (fun r w' => w' = w ∧ r = nI 0) := by
  refine ev_Tape_at _ (vc_Tape_at_0 _ ⟨fun _ => ⟨⟨0, by decide, rfl⟩, rfl, rfl⟩, fun g => absurd (by decide) g⟩)
theorem c_isLetter (c : Nat) (hc : c < 128) : EvI m_Tokens_isLetter d [.int (nI c)] w (fun r w' => w' = w ∧ Bo (ltr c) r) := by
  refine ev_Tokens_isLetter _ (vc_Tokens_isLetter_0 _ ⟨fun g => ⟨Or.inl rfl, rfl, Bo.f (fun x => ?_)⟩, fun g => ⟨fun g2 => ⟨Or.inl rfl, rfl, Bo.f (fun x => ?_)⟩, fun g2 => ⟨Or.inr rfl, rfl, Bo.t ⟨nglt g, nglt g2⟩⟩⟩⟩)
  · have := glt g; have := x.1; omega
  · have := glt g2; have := x.2; omega
theorem c_isDigit (c : Nat) (hc : c < 128) : EvI m_Tokens_isDigit d [.int (nI c)] w (fun r w' => w' = w ∧ Bo (dgt c) r) := by
  refine ev_Tokens_isDigit _ (vc_Tokens_isDigit_0 _ ⟨fun g => ⟨Or.inl rfl, rfl, Bo.f (fun x => ?_)⟩, fun g => ⟨fun g2 => ⟨Or.inl rfl, rfl, Bo.f (fun x => ?_)⟩, fun g2 => ⟨Or.inr rfl, rfl, Bo.t ⟨nglt g, nglt g2⟩⟩⟩⟩)
  · have := glt g; have := x.1; omega
  · have := glt g2; have := x.2; omega
theorem c_isBlank (c : Nat) (hc : c < 128) : EvI m_Tokens_isBlank d [.int (nI c)] w (fun r w' => w' = w ∧ Bo (blk c) r) := by
  refine ev_Tokens_isBlank _ (vc_Tokens_isBlank_0 _ ⟨fun g => ⟨Or.inr rfl, rfl, Bo.t (Or.inl (nI_inj (by omega) (by omega) g))⟩, fun g => ⟨fun g2 => ⟨Or.inl rfl, rfl, Bo.f (fun x => x.elim (fun e => g (by rw [e])) (fun e => g2 (by rw [e])))⟩, fun g2 => ⟨Or.inr rfl, rfl, Bo.t (Or.inr (nI_inj (by omega) (by omega) g2))⟩⟩⟩)
theorem c_goesOn (h : TA L t w) {k : Nat} (hk : k < L) : EvI m_Tokens_goesOn (d + 1) [.ref 8, .int (nI k)] w (fun r w' => w' = w ∧ Bo (gon t k) r) := by
  have h1 := h.1
  obtain ⟨c, hc, hc1, hc2, hat⟩ : ∃ c, c < 128 ∧ (ltr c ∨ dgt c → 1 ≤ k ∧ c = t (k - 1)) ∧ (1 ≤ k → c = t (k - 1)) ∧ EvI m_Tape_at d [.ref 8, .int (nI k - nI 1)] w (fun r w' => w' = w ∧ r = nI c) := by
    by_cases e : k = 0
    · subst e
      exact ⟨0, by decide, fun x => absurd x (by unfold ltr dgt; omega), fun x => absurd x (by decide), c_at_m h⟩
    · rw [sub_nI (by omega)]
      exact ⟨t (k - 1), h.lt _, fun _ => ⟨by omega, rfl⟩, fun _ => rfl, c_at h (by omega)⟩
  refine ev_Tokens_goesOn _ (vc_Tokens_goesOn_0 _ ⟨_, hat, ?_⟩)
  rintro r w1 ⟨rfl, rfl⟩
  refine ⟨_, c_at h (k := k) (by omega), ?_⟩
  rintro r w2 ⟨rfl, rfl⟩
  have ht := h.lt k
  refine ⟨_, c_isLetter c hc, ?_⟩
  rintro r w1 ⟨rfl, hr⟩
  refine ⟨fun g => ⟨_, c_isDigit c hc, ?_⟩, fun g => ⟨_, c_isLetter (t k) ht, ?_⟩⟩
  · rintro r4 w4 ⟨rfl, hr4⟩
    refine ⟨fun g4 => ⟨Or.inl rfl, rfl, Bo.f (fun x => ?_)⟩, fun g4 => ⟨_, c_isDigit (t k) ht, ?_⟩⟩
    · have x2 := x.2
      rw [← hc2 x.1] at x2
      exact x2.elim (fun y => hr.z g y.1) (fun y => hr4.z g4 y.1)
    · rintro r5 w5 ⟨rfl, hr5⟩
      refine ⟨fun g5 => ⟨Or.inl rfl, rfl, Bo.f (fun x => ?_)⟩, fun g5 => ⟨Or.inr rfl, rfl, Bo.t ?_⟩⟩
      · have x2 := x.2
        rw [← hc2 x.1] at x2
        exact x2.elim (fun y => hr.z g y.1) (fun y => hr5.z g5 y.2)
      · have z := hc1 (Or.inr (hr4.n g4))
        exact ⟨z.1, Or.inr ⟨by rw [← z.2]; exact hr4.n g4, hr5.n g5⟩⟩
  · rintro r6 w6 ⟨rfl, hr6⟩
    refine ⟨fun g6 => ⟨Or.inr rfl, rfl, Bo.t ?_⟩, fun g6 => ⟨_, c_isDigit c hc, ?_⟩⟩
    · have z := hc1 (Or.inl (hr.n g))
      exact ⟨z.1, Or.inl ⟨by rw [← z.2]; exact hr.n g, hr6.n g6⟩⟩
    · rintro r7 w7 ⟨rfl, hr7⟩
      refine ⟨fun g7 => ⟨Or.inl rfl, rfl, Bo.f (fun x => ?_)⟩, fun g7 => ⟨_, c_isDigit (t k) ht, ?_⟩⟩
      · have x2 := x.2
        rw [← hc2 x.1] at x2
        exact x2.elim (fun y => hr6.z g6 y.2) (fun y => hr7.z g7 y.1)
      · rintro r8 w8 ⟨rfl, hr8⟩
        refine ⟨fun g8 => ⟨Or.inl rfl, rfl, Bo.f (fun x => ?_)⟩, fun g8 => ⟨Or.inr rfl, rfl, Bo.t ?_⟩⟩
        · have x2 := x.2
          rw [← hc2 x.1] at x2
          exact x2.elim (fun y => hr6.z g6 y.2) (fun y => hr8.z g8 y.2)
        · have z := hc1 (Or.inr (hr7.n g7))
          exact ⟨z.1, Or.inr ⟨by rw [← z.2]; exact hr7.n g7, hr8.n g8⟩⟩
theorem c_stands (hs : StrOK) (h : TA L t w) {k j : Nat} (hk : k < L) (hj : j < 10) : EvI m_Tokens_stands (d + 4) [.ref 8, .int (nI k), .ref (200 + j)] w (fun r w' => w' = w ∧ Bo (Sd t k (ws j)) r) := by
  have h1 := h.1
  obtain ⟨l1, l2⟩ := ws_len j hj
  refine ev_Tokens_stands _ _ (vc_Tokens_stands_0 _ _ ?_)
  refine lpU (I := fun i w' => w' = w ∧ ∀ i', i' < i → t (k + i') = (ws j).getD i' 0) (G := fun i w' => Z m_Tokens_stands (d + 4) (qI (fun r w' => w' = w ∧ Bo (Sd t k (ws j)) r)) 2 [(0, .ref 8), (1, .int (nI k)), (2, .ref (200 + j)), (3, .int (nI i))] [] w') (M := (ws j).length) ?_ ?_ 0 (Nat.zero_le _) _ ⟨rfl, fun i hi => absurd hi (Nat.not_lt_zero _)⟩
  · rintro w1 ⟨rfl, hA⟩
    refine vc_Tokens_stands_2 _ _ _ ⟨⟨j, hj, rfl⟩, _, (hs d w1 j hj).1, ?_⟩
    rintro r w2 ⟨rfl, rfl⟩
    refine ⟨fun _ => ⟨⟨j, hj, rfl⟩, _, (hs d w2 j hj).1, ?_⟩, fun g => absurd (mle (Nat.le_refl _)) g⟩
    rintro r w1 ⟨rfl, rfl⟩
    rw [nI_add]
    refine ⟨_, c_at h (by omega), ?_⟩
    rintro r w2 ⟨rfl, rfl⟩
    refine ⟨_, c_isLetter _ (h.lt _), ?_⟩
    rintro r w1 ⟨rfl, hr⟩
    exact ⟨fun g => ⟨Or.inl rfl, rfl, Bo.f (fun x => x.2 (hr.n g))⟩, fun g => ⟨Or.inr rfl, rfl, Bo.t ⟨hA, hr.z g⟩⟩⟩
  · rintro i w1 hi ⟨rfl, hA⟩ nx
    refine vc_Tokens_stands_2 _ _ _ ⟨⟨j, hj, rfl⟩, _, (hs d w1 j hj).1, ?_⟩
    rintro r w2 ⟨rfl, rfl⟩
    refine ⟨fun g => absurd (gle g) (by omega), fun _ => ?_⟩
    rw [nI_add]
    refine ⟨_, c_at h (by omega), ?_⟩
    rintro r w1 ⟨rfl, rfl⟩
    refine ⟨⟨j, hj, rfl⟩, _, (hs d w1 j hj).2 i hi, ?_⟩
    rintro r w2 ⟨rfl, rfl⟩
    have c1 := h.lt (k + i)
    have c2 : (ws j).getD i 0 < 128 := by
      have : ∀ j, j < 10 → ∀ i, i < 6 → (ws j).getD i 0 < 128 := by decide
      exact this j hj i (by omega)
    refine ⟨fun g => ?_, fun g => ⟨Or.inl rfl, rfl, Bo.f (fun x => g (by rw [x.1 i hi]))⟩⟩
    rw [nI_add]
    refine nx _ ⟨rfl, fun i' hi' => ?_⟩
    by_cases e : i' = i
    · rw [e]; exact nI_inj (by omega) (by omega) g
    · exact hA i' (by omega)
theorem no_Sd {k : Nat} (P : Nat → Prop) (h : ∀ j, j < 10 → P j ∨ ¬ t k = (ws j).getD 0 0) (hn : ∀ j, j < 10 → P j → ¬ Sd t k (ws j)) : ∀ j, j < 10 → ¬ Sd t k (ws j) := fun j hj x => (h j hj).elim (fun y => hn j hj y x) (fun y => y (x.hd hj))
theorem c_sWordCode (hs : StrOK) (h : TA L t w) {k : Nat} (hk : k < L) (e : t k = 115) : EvI m_Tokens_sWordCode (d + 5) [.ref 8, .int (nI k)] w (fun r w' => w' = w ∧ WC t k r) := by
  refine ev_Tokens_sWordCode _ (vc_Tokens_sWordCode_0 _ ⟨_, c_stands (d := d) hs h hk (j := 6) (by decide), ?_⟩)
  rintro r w1 ⟨rfl, h6⟩
  refine ⟨fun g6 => ⟨_, c_stands (d := d) hs h hk (j := 7) (by decide), ?_⟩, fun g6 => ⟨rfl, Or.inl ⟨6, by decide, h6.n g6, rfl⟩⟩⟩
  rintro r w2 ⟨rfl, h7⟩
  refine ⟨fun g7 => ⟨_, c_stands (d := d) hs h hk (j := 8) (by decide), ?_⟩, fun g7 => ⟨rfl, Or.inl ⟨7, by decide, h7.n g7, rfl⟩⟩⟩
  rintro r w1 ⟨rfl, h8⟩
  refine ⟨fun g8 => ⟨rfl, Or.inr ⟨no_Sd (fun j => j = 6 ∨ j = 7 ∨ j = 8) ?_ ?_, rfl⟩⟩, fun g8 => ⟨rfl, Or.inl ⟨8, by decide, h8.n g8, rfl⟩⟩⟩
  · rw [e]; decide
  · rintro j - (rfl | rfl | rfl)
    · exact h6.z g6
    · exact h7.z g7
    · exact h8.z g8
theorem c_wordCode (hs : StrOK) (h : TA L t w) {k : Nat} (hk : k < L) : EvI m_Tokens_wordCode (d + 6) [.ref 8, .int (nI k)] w (fun r w' => w' = w ∧ WC t k r) := by
  have h1 := h.1
  have ht := h.lt k
  refine ev_Tokens_wordCode _ (vc_Tokens_wordCode_0 _ ⟨_, c_at h (k := k) (by omega), ?_⟩)
  rintro r w1 ⟨rfl, rfl⟩
  have none : ∀ c, nI (t k) = nI c → c < 128 → (∀ j, j < 10 → ¬ c = (ws j).getD 0 0) → w1 = w1 ∧ WC t k (-nI 2) := fun c e hc hn => ⟨rfl, Or.inr ⟨fun j hj x => hn j hj (by rw [← nI_inj (by omega) (by omega) e]; exact x.hd hj), rfl⟩⟩
  have one : ∀ j, j < 10 → nI (t k) = nI ((ws j).getD 0 0) → (∀ j', j' < 10 → j' ≠ j → ¬ (ws j).getD 0 0 = (ws j').getD 0 0) → ∀ r v, Bo (Sd t k (ws j)) r → v = -nI (cds j) → ((r = 0 → w1 = w1 ∧ WC t k (-nI 2)) ∧ (¬ r = 0 → w1 = w1 ∧ WC t k v)) := fun j hj e hn r v hr hv => by
    have c2 : (ws j).getD 0 0 < 128 := by
      have : ∀ j, j < 10 → (ws j).getD 0 0 < 128 := by decide
      exact this j hj
    have e := nI_inj (by omega) (by omega) e
    refine ⟨fun g => ⟨rfl, Or.inr ⟨fun j' hj' x => ?_, rfl⟩⟩, fun g => ⟨rfl, Or.inl ⟨j, hj, hr.n g, hv⟩⟩⟩
    by_cases ej : j' = j
    · rw [ej] at x; exact hr.z g x
    · exact hn j' hj' ej (by rw [← e]; exact x.hd hj')
  refine ⟨fun g => ⟨_, c_stands (d := d + 1) hs h hk (j := 0) (by decide), ?_⟩, fun g0 => ?_⟩
  · rintro r w2 ⟨rfl, hr⟩; exact one 0 (by decide) g (by decide) r _ hr rfl
  refine ⟨fun g => ⟨_, c_stands (d := d + 1) hs h hk (j := 1) (by decide), ?_⟩, fun g1 => ?_⟩
  · rintro r w2 ⟨rfl, hr⟩; exact one 1 (by decide) g (by decide) r _ hr rfl
  refine ⟨fun g => ⟨_, c_stands (d := d + 1) hs h hk (j := 2) (by decide), ?_⟩, fun g2 => ?_⟩
  · rintro r w2 ⟨rfl, hr⟩; exact one 2 (by decide) g (by decide) r _ hr rfl
  refine ⟨fun g => none 100 g (by decide) (by decide), fun _ => ?_⟩
  refine ⟨fun g => none 101 g (by decide) (by decide), fun _ => ?_⟩
  refine ⟨fun g => none 102 g (by decide) (by decide), fun _ => ?_⟩
  refine ⟨fun g => none 103 g (by decide) (by decide), fun _ => ?_⟩
  refine ⟨fun g => none 104 g (by decide) (by decide), fun _ => ?_⟩
  refine ⟨fun g => none 105 g (by decide) (by decide), fun _ => ?_⟩
  refine ⟨fun g => none 106 g (by decide) (by decide), fun _ => ?_⟩
  refine ⟨fun g => none 107 g (by decide) (by decide), fun _ => ?_⟩
  refine ⟨fun g => ⟨_, c_stands (d := d + 1) hs h hk (j := 3) (by decide), ?_⟩, fun g3 => ?_⟩
  · rintro r w2 ⟨rfl, hr⟩; exact one 3 (by decide) g (by decide) r _ hr rfl
  refine ⟨fun g => none 109 g (by decide) (by decide), fun _ => ?_⟩
  refine ⟨fun g => none 110 g (by decide) (by decide), fun _ => ?_⟩
  refine ⟨fun g => none 111 g (by decide) (by decide), fun _ => ?_⟩
  refine ⟨fun g => none 112 g (by decide) (by decide), fun _ => ?_⟩
  refine ⟨fun g => none 113 g (by decide) (by decide), fun _ => ?_⟩
  refine ⟨fun g => ⟨_, c_stands (d := d + 1) hs h hk (j := 4) (by decide), ?_⟩, fun g4 => ?_⟩
  · rintro r w2 ⟨rfl, hr⟩
    refine ⟨fun k4 => ⟨_, c_stands (d := d + 1) hs h hk (j := 5) (by decide), ?_⟩, fun k4 => ⟨rfl, Or.inl ⟨4, by decide, hr.n k4, rfl⟩⟩⟩
    rintro r5 w3 ⟨rfl, hr5⟩
    refine ⟨fun k5 => ⟨rfl, Or.inr ⟨no_Sd (fun j => j = 4 ∨ j = 5) ?_ ?_, rfl⟩⟩, fun k5 => ⟨rfl, Or.inl ⟨5, by decide, hr5.n k5, rfl⟩⟩⟩
    · rw [nI_inj (by omega) (by omega) g]; decide
    · rintro j - (rfl | rfl)
      · exact hr.z k4
      · exact hr5.z k5
  refine ⟨fun g => ⟨_, c_sWordCode (d := d) hs h hk (nI_inj (by omega) (by omega) g), ?_⟩, fun g5 => ?_⟩
  · rintro r w2 ⟨rfl, hr⟩; exact ⟨rfl, hr⟩
  refine ⟨fun g => none 116 g (by decide) (by decide), fun _ => ?_⟩
  refine ⟨fun g => none 117 g (by decide) (by decide), fun _ => ?_⟩
  refine ⟨fun g => none 118 g (by decide) (by decide), fun _ => ?_⟩
  refine ⟨fun g => ⟨_, c_stands (d := d + 1) hs h hk (j := 9) (by decide), ?_⟩, fun g9 => ?_⟩
  · rintro r w2 ⟨rfl, hr⟩; exact one 9 (by decide) g (by decide) r _ hr rfl
  refine ⟨rfl, Or.inr ⟨fun j hj x => ?_, rfl⟩⟩
  have e := x.hd hj
  have : ∀ j, j < 10 → (ws j).getD 0 0 = 97 ∨ (ws j).getD 0 0 = 98 ∨ (ws j).getD 0 0 = 99 ∨ (ws j).getD 0 0 = 108 ∨ (ws j).getD 0 0 = 114 ∨ (ws j).getD 0 0 = 115 ∨ (ws j).getD 0 0 = 119 := by decide
  rcases this j hj with y | y | y | y | y | y | y <;> rw [y] at e
  · exact g0 (by rw [e])
  · exact g1 (by rw [e])
  · exact g2 (by rw [e])
  · exact g3 (by rw [e])
  · exact g4 (by rw [e])
  · exact g5 (by rw [e])
  · exact g9 (by rw [e])
theorem c_numberCode (h : TA L t w) {k : Nat} (hk : k < L) : EvI m_Tokens_numberCode (d + 1) [.ref 8, .int (nI k)] w (fun r w' => w' = w ∧ NC t k r) := by
  have h1 := h.1
  refine ev_Tokens_numberCode _ (vc_Tokens_numberCode_0 _ ?_)
  refine lpU (I := fun n w' => w' = w ∧ (∀ i, i < n → dgt (t (k + i)))) (G := fun n w' => Z m_Tokens_numberCode (d + 1) (qI (fun r w' => w' = w ∧ NC t k r)) 4 [(0, .ref 8), (1, .int (nI k)), (2, .int (nI (nv t k n))), (3, .int (nI n))] [] w') (M := 5) ?_ ?_ 0 (Nat.zero_le _) _ ⟨rfl, fun i hi => absurd hi (Nat.not_lt_zero _)⟩
  · rintro w1 ⟨rfl, hA⟩
    exact vc_Tokens_numberCode_4 _ _ _ ⟨fun _ => ⟨rfl, Or.inr ⟨hA, rfl⟩⟩, fun g => absurd (by decide) g⟩
  · rintro n w1 hn ⟨rfl, hA⟩ nx
    refine vc_Tokens_numberCode_4 _ _ _ ⟨fun g => absurd (glt g) (by omega), fun _ => ?_⟩
    rw [nI_add]
    refine ⟨_, c_at h (by omega), ?_⟩
    rintro r w2 ⟨rfl, rfl⟩
    refine ⟨_, c_isDigit _ (h.lt _), ?_⟩
    rintro r w1 ⟨rfl, hr⟩
    refine ⟨fun g => ?_, fun g => ⟨rfl, Or.inl ⟨n, by omega, hA, hr.z g, rfl⟩⟩⟩
    have hd := hr.n g
    rw [pk_mul, sub_nI hd.1, nI_add, nI_add, show nv t k n * 10 + (t (k + n) - 48) = nv t k (n + 1) by rw [nv]; omega]
    refine nx _ ⟨rfl, fun i hi => ?_⟩
    by_cases e : i = n
    · rw [e]; exact hd
    · exact hA i (by omega)
theorem c_codeAt (hs : StrOK) (h : TA L t w) {k : Nat} (hk : k < L) : EvI m_Tokens_codeAt (d + 7) [.ref 8, .int (nI k)] w (fun r w' => w' = w ∧ CA t k r) := by
  have h1 := h.1
  have ht := h.lt k
  refine ev_Tokens_codeAt _ (vc_Tokens_codeAt_0 _ ⟨_, c_at h (k := k) (by omega), ?_⟩)
  rintro r w1 ⟨rfl, rfl⟩
  refine ⟨_, c_isDigit _ ht, ?_⟩
  rintro r w2 ⟨rfl, hr⟩
  refine ⟨fun g => ⟨_, c_at h (k := k) (by omega), ?_⟩, fun g => ⟨_, c_numberCode (d := d + 5) h hk, ?_⟩⟩
  · rintro r w1 ⟨rfl, rfl⟩
    refine ⟨fun g1 => ⟨rfl, Or.inr (Or.inl ⟨nI_inj (by omega) (by omega) g1, rfl⟩)⟩, fun g1 => ⟨fun g2 => ⟨rfl, Or.inr (Or.inr (Or.inl ⟨nI_inj (by omega) (by omega) g2, rfl⟩))⟩, fun g2 => ⟨fun g3 => ⟨_, c_wordCode (d := d) hs h hk, ?_⟩, fun g3 => ⟨fun g4 => ⟨rfl, Or.inr (Or.inr (Or.inr (Or.inl ⟨nI_inj (by omega) (by omega) g4, rfl⟩)))⟩, fun g4 => ⟨_, c_wordCode (d := d) hs h hk, ?_⟩⟩⟩⟩⟩
    · rintro r w2 ⟨rfl, hw⟩
      have e := nI_inj (by omega) (by omega) g3
      exact ⟨rfl, Or.inr (Or.inr (Or.inr (Or.inr ⟨hr.z g, by omega, by omega, by omega, hw⟩)))⟩
    · rintro r w2 ⟨rfl, hw⟩
      exact ⟨rfl, Or.inr (Or.inr (Or.inr (Or.inr ⟨hr.z g, fun e => g1 (by rw [e]), fun e => g2 (by rw [e]), fun e => g4 (by rw [e]), hw⟩)))⟩
  · rintro r w1 ⟨rfl, hn⟩
    exact ⟨rfl, Or.inl ⟨hr.n g, hn⟩⟩
/-- the class's tokens -/
def TkC (L : Nat) (t : Nat → Nat) (w : Wd) : Prop := w.1 10 2 = nI (ct (stB t) L + 1) ∧ w.1 10 3 = nI 0 ∧ (∀ k, k < L → stB t k = true → CA t k (w.1 11 (ct (stB t) k)) ∧ w.1 12 (ct (stB t) k) = nI k) ∧ w.1 11 (ct (stB t) L) = -nI 1 ∧ w.1 12 (ct (stB t) L) = nI L
theorem c_scan (hs : StrOK) (h : TA L t w) : EvV m_Tokens_scan (d + 8) [.ref 10, .ref 8] w (fun w' => Of (fun a => a = 10 ∨ a = 11 ∨ a = 12) w w' ∧ TkC L t w') := by
  have h1 := h.1
  refine ev_Tokens_scan (vc_Tokens_scan_0 ?_)
  generalize hw0 : up1 (up1 w 10 2 (nI 0)) 10 3 (nI 0) = w0
  have o0 : Of (fun a => a = 10 ∨ a = 11 ∨ a = 12) w w0 := by rw [← hw0]; exact (Of.up (Or.inl rfl)).tr (Of.up (Or.inl rfl))
  have a0 : w0.1 10 2 = nI 0 ∧ w0.1 10 3 = nI 0 := by rw [← hw0]; exact ⟨rfl, rfl⟩
  have tam : ∀ w', Of (fun a => a = 10 ∨ a = 11 ∨ a = 12) w w' → TA L t w' := fun w' o => by
    unfold TA
    rw [o.1 8 (by omega), o.1 9 (by omega)]
    exact h
  refine lpU (I := fun k w' => Of (fun a => a = 10 ∨ a = 11 ∨ a = 12) w w' ∧ w'.1 10 2 = nI (ct (stB t) k) ∧ w'.1 10 3 = nI 0 ∧ ∀ j, j < k → stB t j = true → CA t j (w'.1 11 (ct (stB t) j)) ∧ w'.1 12 (ct (stB t) j) = nI j) (G := fun k w' => Z m_Tokens_scan (d + 8) (qV (fun w' => Of (fun a => a = 10 ∨ a = 11 ∨ a = 12) w w' ∧ TkC L t w')) 12 [(0, .ref 10), (1, .ref 8), (2, .int (nI k))] [] w') (M := L) ?_ ?_ 0 (Nat.zero_le _) _ ⟨o0, a0.1, a0.2, fun j hj => absurd hj (Nat.not_lt_zero _)⟩
  · rintro w1 ⟨i1, i2, i3, i4⟩
    have hL := ct_le (stB t) L
    have ta := tam w1 i1
    refine vc_Tokens_scan_12 _ ⟨_, ev_Tape_length (d := d + 7) (vc_Tape_length_0 (Q := fun r w' => w' = w1 ∧ r = nI L) ⟨rfl, ta.2.1⟩), ?_⟩
    rintro r w2 ⟨rfl, rfl⟩
    refine ⟨fun _ => ⟨_, ev_Tape_length (d := d + 7) (vc_Tape_length_0 (Q := fun r w' => w' = w2 ∧ r = nI L) ⟨rfl, ta.2.1⟩), ?_⟩, fun g => absurd (mle (Nat.le_refl _)) g⟩
    rintro r w1 ⟨rfl, rfl⟩
    refine ⟨_, ev_Tokens_add _ _ (vc_Tokens_add_0 _ _ (Q := fun w' => w' = up1 (up1 (up1 w1 11 (ct (stB t) L) (-nI 1)) 12 (ct (stB t) L) (nI L)) 10 2 (nI (ct (stB t) L + 1))) ?_), ?_⟩
    · rw [i2, nI_add]
      exact ⟨fun g => absurd (glt g) (by omega), fun _ => ⟨_, rfl, by omega, _, rfl, by omega, rfl⟩⟩
    · rintro w2 rfl
      refine ⟨i1.tr (((Of.up (by omega)).tr (Of.up (by omega))).tr (Of.up (by omega))), rfl, i3, fun k hk hst => ?_, ?_, ?_⟩
      · have : ct (stB t) k < ct (stB t) L := by
          have := ct_mono (p := stB t) (show k + 1 ≤ L by omega)
          rw [ct_succ_t hst] at this
          omega
        rw [up1_1, if_neg (by omega), up1_1, if_neg (by omega), up1_1, if_neg (by omega), up1_1, if_neg (by omega), up1_1, if_neg (by omega), up1_1, if_neg (by omega)]
        exact i4 k hk hst
      · rw [up1_1, if_neg (by omega), up1_1, if_neg (by omega), up1_1, if_pos ⟨rfl, rfl⟩]
      · rw [up1_1, if_neg (by omega), up1_1, if_pos ⟨rfl, rfl⟩]
  · rintro k w1 hk ⟨i1, i2, i3, i4⟩ nx
    have hL := ct_le (stB t) k
    have ta := tam w1 i1
    have skip : ¬ (¬ blk (t k) ∧ ¬ gon t k) → Z m_Tokens_scan (d + 8) (qV (fun w' => Of (fun a => a = 10 ∨ a = 11 ∨ a = 12) w w' ∧ TkC L t w')) 12 [(0, .ref 10), (1, .ref 8), (2, .int (nI k + nI 1))] [] w1 := fun no => by
      rw [nI_add]
      refine nx _ ⟨i1, by rw [ct_succ_f (stB_f no)]; exact i2, i3, fun j hj hst => i4 j ?_ hst⟩
      have : j ≠ k := fun e => by rw [e, stB_f no] at hst; exact absurd hst (by decide)
      omega
    refine vc_Tokens_scan_12 _ ⟨_, ev_Tape_length (d := d + 7) (vc_Tape_length_0 (Q := fun r w' => w' = w1 ∧ r = nI L) ⟨rfl, ta.2.1⟩), ?_⟩
    rintro r w2 ⟨rfl, rfl⟩
    refine ⟨fun g => absurd (gle g) (by omega), fun _ => ⟨_, c_at ta (k := k) (by omega), ?_⟩⟩
    rintro r w1 ⟨rfl, rfl⟩
    refine ⟨_, c_isBlank _ (ta.lt k), ?_⟩
    rintro r w2 ⟨rfl, hb⟩
    refine ⟨fun g => skip (fun x => x.1 (hb.n g)), fun g => ⟨_, c_goesOn (d := d + 6) ta hk, ?_⟩⟩
    rintro r w1 ⟨rfl, hg⟩
    refine ⟨fun g2 => skip (fun x => x.2 (hg.n g2)), fun g2 => ⟨_, c_codeAt (d := d) hs ta hk, ?_⟩⟩
    rintro r w2 ⟨rfl, hc⟩
    have hst := stB_t ⟨hb.z g, hg.z g2⟩
    refine ⟨_, ev_Tokens_add _ _ (vc_Tokens_add_0 _ _ (Q := fun w' => w' = up1 (up1 (up1 w2 11 (ct (stB t) k) r) 12 (ct (stB t) k) (nI k)) 10 2 (nI (ct (stB t) k + 1))) ?_), ?_⟩
    · rw [i2, nI_add]
      exact ⟨fun g => absurd (glt g) (by omega), fun _ => ⟨_, rfl, by omega, _, rfl, by omega, rfl⟩⟩
    · rintro w3 rfl
      rw [nI_add]
      refine nx _ ⟨i1.tr (((Of.up (by omega)).tr (Of.up (by omega))).tr (Of.up (by omega))), by rw [ct_succ_t hst]; rfl, i3, fun j hj hj2 => ?_⟩
      by_cases e : j = k
      · subst e
        rw [up1_1, if_neg (by omega), up1_1, if_neg (by omega), up1_1, if_pos ⟨rfl, rfl⟩, up1_1, if_neg (by omega), up1_1, if_pos ⟨rfl, rfl⟩]
        exact ⟨hc, rfl⟩
      · have : ct (stB t) j < ct (stB t) k := by
          have := ct_mono (p := stB t) (show j + 1 ≤ k by omega)
          rw [ct_succ_t hj2] at this
          omega
        rw [up1_1, if_neg (by omega), up1_1, if_neg (by omega), up1_1, if_neg (by omega), up1_1, if_neg (by omega), up1_1, if_neg (by omega), up1_1, if_neg (by omega)]
        exact i4 j (by omega) hj2
end
