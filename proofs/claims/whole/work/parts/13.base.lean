/-! PLAIN FACTS -/
theorem tn (n : Nat) (h : n < 2147483648 := by decide) : (nI n).toInt = (n : Int) := nI_toInt h
theorem i_lt (a b : Int32) : a < b ↔ a.toInt < b.toInt := Int32.lt_iff_toInt_lt
theorem i_le (a b : Int32) : a ≤ b ↔ a.toInt ≤ b.toInt := Int32.le_iff_toInt_le
theorem i_eq (a b : Int32) : a = b ↔ a.toInt = b.toInt := Int32.toInt_inj.symm
theorem i_rng (x : Int32) : -2147483648 ≤ x.toInt ∧ x.toInt < 2147483648 := ⟨Int32.le_toInt x, Int32.toInt_lt x⟩
theorem i_z : (0 : Int32).toInt = 0 := rfl
theorem i_o : (1 : Int32).toInt = 1 := rfl
theorem nI_one : nI 1 = 1 := rfl
theorem i_nat {x : Int32} (h : 0 ≤ x.toInt) : ∃ k : Nat, k < 2147483648 ∧ x = nI k ∧ x.toInt = (k : Int) := by
  have h2 := (i_rng x).2
  refine ⟨x.toInt.toNat, by omega, ?_, by omega⟩
  apply (i_eq _ _).mpr
  rw [nI_toInt (by omega)]
  omega
theorem nI_inj {a b : Nat} (ha : a < 2147483648) (hb : b < 2147483648) (h : nI a = nI b) : a = b := (nI_eq ha hb).mp h
theorem m1_int : (-nI 1).toInt = -1 := by decide
theorem m1_ne (n : Nat) (h : n < 2147483648) : ¬ nI n = -nI 1 := by
  intro e
  have := congrArg Int32.toInt e
  rw [nI_toInt h, m1_int] at this
  omega
/-- the places of w' are those of w, but for those in Ch; the longs too, but for those in Cl -/
def Sm (Ch : Nat → Nat → Prop) (w w' : Wd) : Prop := ∀ a k, ¬ Ch a k → w'.1 a k = w.1 a k
theorem Sm.rf {Ch : Nat → Nat → Prop} {w : Wd} : Sm Ch w w := fun _ _ _ => rfl
theorem Sm.tr {Ch : Nat → Nat → Prop} {w w1 w2 : Wd} (h1 : Sm Ch w w1) (h2 : Sm Ch w1 w2) : Sm Ch w w2 := fun a k h => (h2 a k h).trans (h1 a k h)
theorem Sm.mono {Ch Ch' : Nat → Nat → Prop} {w w1 : Wd} (h1 : Sm Ch w w1) (h : ∀ a k, Ch a k → Ch' a k) : Sm Ch' w w1 := fun a k hn => h1 a k (fun hc => hn (h a k hc))
theorem Sm.up {Ch : Nat → Nat → Prop} {w : Wd} {a k : Nat} {v : Int32} (h : Ch a k) : Sm Ch w (up1 w a k v) := by
  intro b j hn
  have : ¬ (b = a ∧ j = k) := fun e => hn (by rw [e.1, e.2]; exact h)
  simp [up1, this]
theorem up1_1 (w : Wd) (a k : Nat) (v : Int32) (b j : Nat) : (up1 w a k v).1 b j = if b = a ∧ j = k then v else w.1 b j := rfl
theorem up1_2 (w : Wd) (a k : Nat) (v : Int32) : (up1 w a k v).2 = w.2 := rfl
theorem up2_1 (w : Wd) (a k : Nat) (v : Int64) : (up2 w a k v).1 = w.1 := rfl
theorem up2_2 (w : Wd) (a k : Nat) (v : Int64) (b j : Nat) : (up2 w a k v).2 b j = if b = a ∧ j = k then v else w.2 b j := rfl
theorem upA_1 (w : Wd) (a : Nat) (f : Nat → Int32) (b j : Nat) : (upA w a f).1 b j = if b = a then f j else w.1 b j := rfl
theorem upA_2 (w : Wd) (a : Nat) (f : Nat → Int32) : (upA w a f).2 = w.2 := rfl
/-- a contract with another end -/
theorem Ev.imp {μ : MI} {d : Nat} {as : List Value} {w : Wd} {Q Q' : Option Value → Wd → Prop} (h : Ev μ d as w Q) (hq : ∀ r w', Q r w' → Q' r w') : Ev μ d as w Q' := by
  intro l G cA ad sz
  have h1 := h l G cA ad sz
  intro p e ha hc hk s m args below hf happ hP hK
  obtain ⟨n, o, a1, a2, a3, ⟨⟨⟨r, w', b1, b2, b3⟩, b4⟩, L, c1, c2⟩⟩ := h1 p e ha hc hk s m args below hf happ hP hK
  exact ⟨n, o, a1, a2, a3, ⟨⟨⟨r, w', b1, hq r w' b2, b3⟩, b4⟩, L, c1, c2⟩⟩
theorem EvI.imp {μ : MI} {d : Nat} {as : List Value} {w : Wd} {Q Q' : Int32 → Wd → Prop} (h : EvI μ d as w Q) (hq : ∀ r w', Q r w' → Q' r w') : EvI μ d as w Q' :=
  Ev.imp h (fun r w' hr => by
    cases r with
    | none => exact hr.elim
    | some v => cases v <;> first | exact hq _ _ hr | exact hr.elim)
theorem EvV.imp {μ : MI} {d : Nat} {as : List Value} {w : Wd} {Q Q' : Wd → Prop} (h : EvV μ d as w Q) (hq : ∀ w', Q w' → Q' w') : EvV μ d as w Q' :=
  Ev.imp h (fun r w' hr => by
    cases r with
    | none => exact hq _ hr
    | some v => exact hr.elim)
/-! LEXICON -/
def isW (x : Int32) : Prop := 1 ≤ x.toInt ∧ x.toInt ≤ 100
theorem isW_nI {k : Nat} (h : 1 ≤ k) (h2 : k ≤ 100) : isW (nI k) := by
  unfold isW
  rw [nI_toInt (by omega)]
  omega
theorem isW_of {x : Int32} (h : isW x) : ∃ k : Nat, 1 ≤ k ∧ k ≤ 100 ∧ x = nI k := by
  obtain ⟨k, hk, e, ht⟩ := i_nat (x := x) (by have := h.1; omega)
  exact ⟨k, by have := h.1; omega, by have := h.2; omega, e⟩
theorem isW_0 : ¬ isW (nI 0) := by
  unfold isW
  rw [tn 0]
  omega
theorem c_Lexicon_has {d : Nat} {w : Wd} (x : Int32) : EvI m_Lexicon_has d [.int x] w (fun r w' => w' = w ∧ ((isW x ∧ r = 1) ∨ (¬ isW x ∧ r = 0))) := by
  refine ev_Lexicon_has x (vc_Lexicon_has_0 x ⟨fun h => ?_, fun h => ⟨fun h2 => ?_, fun h2 => ?_⟩⟩)
  · rw [i_lt, tn 1] at h
    exact ⟨Or.inl rfl, rfl, Or.inr ⟨fun e => by have := e.1; omega, rfl⟩⟩
  · rw [i_lt, tn 100] at h2
    exact ⟨Or.inl rfl, rfl, Or.inr ⟨fun e => by have := e.2; omega, rfl⟩⟩
  · rw [i_lt, tn 1] at h
    rw [i_lt, tn 100] at h2
    exact ⟨Or.inr rfl, rfl, Or.inl ⟨⟨by omega, by omega⟩, rfl⟩⟩
def it (J : Nat → Nat) : Nat → Nat → Nat
  | 0, k => k
  | n + 1, k => it J n (J k)
theorem it_fix {J : Nat → Nat} {a : Nat} (h : J a = a) : ∀ n, it J n a = a
  | 0 => rfl
  | n + 1 => by rw [it, h]; exact it_fix h n
theorem it_add (J : Nat → Nat) : ∀ m n a, it J (m + n) a = it J n (it J m a)
  | 0, n, a => by rw [Nat.zero_add]; rfl
  | m + 1, n, a => by
    rw [show m + 1 + n = (m + n) + 1 by omega, it, it]
    exact it_add J m n (J a)
theorem it_succ (J : Nat → Nat) (n a : Nat) : it J (n + 1) a = J (it J n a) := it_add J n 1 a
def Jn (w : Wd) (k : Nat) : Nat := (w.1 77 k).toNatClampNeg
/-- sorts and joins, of the class and of the reference -/
def LexI (w : Wd) : Prop := (∀ k, 1 ≤ k → k ≤ 100 → (∃ s, s < 10 ∧ w.1 1 k = nI s ∧ w.1 76 k = nI s) ∧ (∃ j, 1 ≤ j ∧ j ≤ 100 ∧ w.1 77 k = nI j ∧ w.1 2 k = nI (if j = k then 0 else j))) ∧ ∃ rk : Nat → Nat, ∀ k, 1 ≤ k → k ≤ 100 → Jn w k ≠ k → rk (Jn w k) < rk k
theorem LexI.J {w : Wd} (h : LexI w) {k : Nat} (h1 : 1 ≤ k) (h2 : k ≤ 100) : 1 ≤ Jn w k ∧ Jn w k ≤ 100 ∧ w.1 77 k = nI (Jn w k) ∧ w.1 2 k = nI (if Jn w k = k then 0 else Jn w k) := by
  obtain ⟨j, a, b, c, e⟩ := (h.1 k h1 h2).2
  have : Jn w k = j := by unfold Jn; rw [c]; exact nI_clamp (by omega)
  rw [this]
  exact ⟨a, b, c, e⟩
theorem LexI.itr {w : Wd} (h : LexI w) : ∀ (n : Nat) {k : Nat}, 1 ≤ k → k ≤ 100 → 1 ≤ it (Jn w) n k ∧ it (Jn w) n k ≤ 100
  | 0, k, h1, h2 => ⟨h1, h2⟩
  | n + 1, k, h1, h2 => by
    obtain ⟨a, b, -, -⟩ := h.J h1 h2
    exact LexI.itr h n a b
def nmOf (w : Wd) (k : Nat) : Nat := it (Jn w) 100 k
/-- who follows the joins comes to an end within 100 steps -/
theorem LexI.ends {w : Wd} (h : LexI w) {k : Nat} (h1 : 1 ≤ k) (h2 : k ≤ 100) : ∃ n, n < 100 ∧ Jn w (it (Jn w) n k) = it (Jn w) n k := by
  obtain ⟨rk, hr⟩ := h.2
  by_cases hc : ∃ n, n < 100 ∧ Jn w (it (Jn w) n k) = it (Jn w) n k
  · exact hc
  · exfalso
    have hn : ∀ n, n < 100 → Jn w (it (Jn w) n k) ≠ it (Jn w) n k := fun n hn e => hc ⟨n, hn, e⟩
    have step : ∀ n, n < 100 → rk (it (Jn w) (n + 1) k) < rk (it (Jn w) n k) := by
      intro n hlt
      rw [it_succ]
      obtain ⟨a, b⟩ := h.itr n h1 h2
      exact hr _ a b (hn n hlt)
    have mono : ∀ j i, i < j → j ≤ 100 → rk (it (Jn w) j k) < rk (it (Jn w) i k) := by
      intro j
      induction j with
      | zero => intro i hi; omega
      | succ j ih =>
        intro i hi hj
        have s1 := step j (by omega)
        by_cases e : i = j
        · subst e; exact s1
        · have s2 := ih i (by omega) (by omega)
          omega
    -- 101 words within 1 .. 100
    have hole : ∀ m, ∀ f : Nat → Nat, (∀ i, i ≤ m → f i < m) → ∃ i j, i < j ∧ j ≤ m ∧ f i = f j := by
      intro m
      induction m with
      | zero => intro f hf; exact absurd (hf 0 (Nat.le_refl 0)) (Nat.not_lt_zero _)
      | succ m ih =>
        intro f hf
        by_cases hx : ∃ i, i ≤ m ∧ f i = f (m + 1)
        · obtain ⟨i, hi, e⟩ := hx
          exact ⟨i, m + 1, by omega, Nat.le_refl _, e⟩
        · have hx : ∀ i, i ≤ m → f i ≠ f (m + 1) := fun i hi e => hx ⟨i, hi, e⟩
          obtain ⟨i, j, a, b, c⟩ := ih (fun i => if f i = m then f (m + 1) else f i) (by
            intro i hi
            try dsimp only
            have f1 := hf i (by omega)
            have f2 := hf (m + 1) (Nat.le_refl _)
            have f3 := hx i hi
            split <;> omega)
          refine ⟨i, j, a, by omega, ?_⟩
          try dsimp only at c
          have f3 := hx i (by omega)
          have f4 := hx j (by omega)
          split at c <;> split at c <;> omega
    obtain ⟨i, j, a, b, c⟩ := hole 100 (fun i => it (Jn w) i k - 1) (by
      intro i hi
      obtain ⟨p, q⟩ := h.itr i h1 h2
      try dsimp only
      omega)
    obtain ⟨p, q⟩ := h.itr i h1 h2
    obtain ⟨p2, q2⟩ := h.itr j h1 h2
    try dsimp only at c
    have e : it (Jn w) i k = it (Jn w) j k := by omega
    have := mono j i a b
    rw [e] at this
    omega
theorem LexI.stay {w : Wd} (h : LexI w) {k : Nat} (h1 : 1 ≤ k) (h2 : k ≤ 100) : Jn w (nmOf w k) = nmOf w k := by
  obtain ⟨n, hn, e⟩ := h.ends h1 h2
  have : nmOf w k = it (Jn w) n k := by
    unfold nmOf
    rw [show (100 : Nat) = n + (100 - n) by omega, it_add]
    exact it_fix e _
  rw [this]
  exact e
theorem LexI.far {w : Wd} (h : LexI w) {k m g : Nat} (h1 : 1 ≤ k) (h2 : k ≤ 100) (hm : it (Jn w) m k = g) : ∃ m, m < 100 ∧ it (Jn w) m k = g := by
  obtain ⟨n, hn, e⟩ := h.ends h1 h2
  by_cases hc : m < 100
  · exact ⟨m, hc, hm⟩
  · refine ⟨n, hn, ?_⟩
    rw [← hm, show m = n + (m - n) by omega, it_add, it_fix e]
theorem z_nameOf {d : Nat} {w : Wd} {Q : Int32 → Wd → Prop} {x1 : Int32} (hL : LexI w) : ∀ (n step a : Nat), step + n = 100 → 1 ≤ a → a ≤ 100 → Q (nI (it (Jn w) n a)) w → Z m_Lexicon_nameOf (d + 1) (qI Q) 13 [(0, .ref 0), (1, .int x1), (2, .int (nI a)), (3, .int (nI step))] [] w := by
  intro n
  induction n with
  | zero =>
    intro step a hs h1 h2 hq
    refine vc_Lexicon_nameOf_13 _ _ _ ⟨fun _ => hq, fun h => absurd ?_ h⟩
    rw [i_le, tn 100, nI_toInt (by omega)]
    omega
  | succ n ih =>
    intro step a hs h1 h2 hq
    obtain ⟨j1, j2, j3, j4⟩ := hL.J h1 h2
    refine vc_Lexicon_nameOf_13 _ _ _ ⟨fun h => ?_, fun _ => ⟨a, rfl, by omega, _, c_Lexicon_has _, ?_⟩⟩
    · rw [i_le, tn 100, nI_toInt (by omega)] at h
      omega
    · rintro r w1 ⟨rfl, hr⟩
      rw [j4] at hr
      by_cases hf : Jn w1 a = a
      · rw [if_pos hf] at hr
        rcases hr with ⟨hr, -⟩ | ⟨-, rfl⟩
        · exact absurd hr isW_0
        · refine ⟨fun _ => ?_, fun h => absurd rfl h⟩
          rw [it_fix hf] at hq
          exact hq
      · rw [if_neg hf] at hr
        rcases hr with ⟨-, rfl⟩ | ⟨hr, -⟩
        · refine ⟨fun h => absurd h (by decide), fun _ => ⟨a, rfl, by omega, ?_⟩⟩
          rw [j4, if_neg hf, nI_add]
          exact ih (step + 1) (Jn w1 a) (by omega) j1 j2 hq
        · exact absurd (isW_nI j1 j2) hr
theorem c_Lexicon_nameOf {d : Nat} {w : Wd} (hL : LexI w) (x : Int32) : EvI m_Lexicon_nameOf (d + 1) [.ref 0, .int x] w (fun r w' => w' = w ∧ ((¬ isW x ∧ r = -nI 1) ∨ ∃ k, 1 ≤ k ∧ k ≤ 100 ∧ x = nI k ∧ r = nI (nmOf w k))) := by
  refine ev_Lexicon_nameOf x (vc_Lexicon_nameOf_0 x ⟨_, c_Lexicon_has _, ?_⟩)
  rintro r w1 ⟨rfl, ⟨hx, rfl⟩ | ⟨hx, rfl⟩⟩
  · refine ⟨fun _ => ?_, fun h => absurd h (by decide)⟩
    obtain ⟨k, h1, h2, rfl⟩ := isW_of hx
    exact z_nameOf hL 100 0 k rfl h1 h2 ⟨rfl, Or.inr ⟨k, h1, h2, rfl, rfl⟩⟩
  · exact ⟨fun h => absurd rfl h, fun _ => ⟨rfl, Or.inl ⟨hx, rfl⟩⟩⟩
