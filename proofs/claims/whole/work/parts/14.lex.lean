/-! LEXICON, further; and the reference's words -/
/-- an answer 1 or 0 -/
def Bo (P : Prop) (r : Int32) : Prop := (P ∧ r = 1) ∨ (¬ P ∧ r = 0)
theorem Bo.t {P : Prop} (h : P) : Bo P 1 := Or.inl ⟨h, rfl⟩
theorem Bo.f {P : Prop} (h : ¬ P) : Bo P 0 := Or.inr ⟨h, rfl⟩
theorem Bo.z {P : Prop} {r : Int32} (h : Bo P r) (hr : r = 0) : ¬ P := by
  rcases h with ⟨-, rfl⟩ | ⟨h, -⟩
  · exact absurd hr (by decide)
  · exact h
theorem Bo.n {P : Prop} {r : Int32} (h : Bo P r) (hr : ¬ r = 0) : P := by
  rcases h with ⟨h, -⟩ | ⟨-, rfl⟩
  · exact h
  · exact absurd rfl hr
theorem Bo.one {P : Prop} {r s : Int32} (h : Bo P r) (h2 : Bo P s) : r = s := by
  rcases h with ⟨h, rfl⟩ | ⟨h, rfl⟩ <;> rcases h2 with ⟨g, rfl⟩ | ⟨g, rfl⟩
  · rfl
  · exact absurd h g
  · exact absurd g h
  · rfl
theorem Bo.imp {P R : Prop} {r : Int32} (h : Bo P r) (e : P ↔ R) : Bo R r := Or.imp (fun a => ⟨e.mp a.1, a.2⟩) (fun a => ⟨fun x => a.1 (e.mpr x), a.2⟩) h
theorem Bo.r {P : Prop} {r : Int32} (h : Bo P r) : r = 0 ∨ r = 1 := h.elim (fun a => Or.inr a.2) (fun a => Or.inl a.2)
theorem c_has {d : Nat} {w : Wd} (x : Int32) : EvI m_Lexicon_has d [.int x] w (fun r w' => w' = w ∧ Bo (isW x) r) := c_Lexicon_has x
theorem c_Lexicon_setSort {d : Nat} {w : Wd} (x s : Int32) : EvI m_Lexicon_setSort (d + 1) [.ref 0, .int x, .int s] w (fun r w' => (r = 0 ∧ w' = w ∧ ¬ (isW x ∧ 0 ≤ s.toInt ∧ s.toInt < 10)) ∨ (r = 1 ∧ ∃ k j, 1 ≤ k ∧ k ≤ 100 ∧ x = nI k ∧ j < 10 ∧ s = nI j ∧ w' = up1 w 1 k s)) := by
  refine ev_Lexicon_setSort x s (vc_Lexicon_setSort_0 x s ⟨_, c_has x, ?_⟩)
  rintro r w1 ⟨rfl, hr⟩
  refine ⟨fun h => ⟨Or.inl rfl, Or.inl ⟨rfl, rfl, fun e => hr.z h e.1⟩⟩, fun h => ⟨fun h2 => ⟨Or.inl rfl, Or.inl ⟨rfl, rfl, fun e => ?_⟩⟩, fun h2 => ⟨fun h3 => ?_, fun h3 => ⟨Or.inl rfl, Or.inl ⟨rfl, rfl, fun e => ?_⟩⟩⟩⟩⟩
  · rw [i_lt, i_z] at h2
    omega
  · obtain ⟨k, k1, k2, rfl⟩ := isW_of (hr.n h)
    rw [i_lt, i_z] at h2
    rw [i_lt, tn 10] at h3
    obtain ⟨j, -, e, ej⟩ := i_nat (x := s) (by omega)
    exact ⟨k, rfl, by omega, Or.inr rfl, Or.inr ⟨rfl, k, j, k1, k2, rfl, by omega, e, rfl⟩⟩
  · rw [i_lt, tn 10] at h3
    omega
theorem c_Lexicon_sortOf {d : Nat} {w : Wd} {k : Nat} (h1 : 1 ≤ k) (h2 : k ≤ 100) : EvI m_Lexicon_sortOf (d + 1) [.ref 0, .int (nI k)] w (fun r w' => w' = w ∧ r = w.1 1 k) := by
  refine ev_Lexicon_sortOf _ (vc_Lexicon_sortOf_0 _ ⟨_, c_has _, ?_⟩)
  rintro r w1 ⟨rfl, hr⟩
  exact ⟨fun h => absurd (isW_nI h1 h2) (hr.z h), fun _ => ⟨k, rfl, by omega, rfl, rfl⟩⟩
theorem z_leadsTo {d : Nat} {w : Wd} {Q : Int32 → Wd → Prop} {x1 : Int32} {g : Nat} (hg1 : 1 ≤ g) (hg2 : g ≤ 100) (hL : LexI w) : ∀ (n step a : Nat), step + n = 100 → 1 ≤ a → a ≤ 100 → ((∃ m, m < n ∧ it (Jn w) m a = g) → Q 1 w) → ((¬ ∃ m, m < n ∧ it (Jn w) m a = g) → Q 0 w) → Z m_Lexicon_leadsTo (d + 1) (qI Q) 5 [(0, .ref 0), (1, .int x1), (2, .int (nI g)), (3, .int (nI a)), (4, .int (nI step))] [] w := by
  intro n
  induction n with
  | zero =>
    intro step a hs h1 h2 hy hn
    refine vc_Lexicon_leadsTo_5 _ _ _ _ ⟨fun _ => ⟨Or.inl rfl, hn (fun ⟨m, hm, _⟩ => absurd hm (Nat.not_lt_zero m))⟩, fun h => absurd ?_ h⟩
    rw [i_le, tn 100, nI_toInt (by omega)]
    omega
  | succ n ih =>
    intro step a hs h1 h2 hy hn
    obtain ⟨j1, j2, j3, j4⟩ := hL.J h1 h2
    refine vc_Lexicon_leadsTo_5 _ _ _ _ ⟨fun h => ?_, fun _ => ⟨_, c_has _, ?_⟩⟩
    · rw [i_le, tn 100, nI_toInt (by omega)] at h
      omega
    · rintro r w1 ⟨rfl, hr⟩
      refine ⟨fun h => absurd (isW_nI h1 h2) (hr.z h), fun _ => ⟨fun hne => ⟨a, rfl, by omega, ?_⟩, fun he => ⟨Or.inr rfl, hy ⟨0, by omega, (nI_inj (by omega) (by omega) he : a = g)⟩⟩⟩⟩
      rw [j4, nI_add]
      have hne : a ≠ g := fun e => hne (by rw [e])
      by_cases hf : Jn w1 a = a
      · rw [if_pos hf]
        have hno : ¬ ∃ m, m < n + 1 ∧ it (Jn w1) m a = g := fun ⟨m, _, e⟩ => hne (by rw [← e, it_fix hf])
        refine vc_Lexicon_leadsTo_5 _ _ _ _ ⟨fun _ => ⟨Or.inl rfl, hn hno⟩, fun _ => ⟨_, c_has _, ?_⟩⟩
        rintro r2 w2 ⟨rfl, hr2⟩
        exact ⟨fun _ => ⟨Or.inl rfl, hn hno⟩, fun h => absurd (hr2.n h) isW_0⟩
      · rw [if_neg hf]
        refine ih (step + 1) (Jn w1 a) (by omega) j1 j2 (fun ⟨m, hm, e⟩ => hy ⟨m + 1, by omega, e⟩) (fun hno => hn (fun ⟨m, hm, e⟩ => ?_))
        cases m with
        | zero => exact hne e
        | succ m => exact hno ⟨m, by omega, e⟩
theorem c_Lexicon_leadsTo {d : Nat} {w : Wd} (hL : LexI w) {a g : Nat} (h1 : 1 ≤ a) (h2 : a ≤ 100) (hg1 : 1 ≤ g) (hg2 : g ≤ 100) : EvI m_Lexicon_leadsTo (d + 1) [.ref 0, .int (nI a), .int (nI g)] w (fun r w' => w' = w ∧ Bo (∃ m, it (Jn w) m a = g) r) := by
  refine ev_Lexicon_leadsTo _ _ (vc_Lexicon_leadsTo_0 _ _ ?_)
  refine z_leadsTo hg1 hg2 hL 100 0 a rfl h1 h2 (fun ⟨m, _, e⟩ => ⟨rfl, Bo.t ⟨m, e⟩⟩) (fun h => ⟨rfl, Bo.f (fun ⟨m, e⟩ => h (hL.far h1 h2 e))⟩)
/-- what join does to the joins -/
def joinOK (w : Wd) (a b : Nat) : Prop := a = b ∨ ¬ ∃ m, it (Jn w) m b = a
theorem c_Lexicon_link {d : Nat} {w : Wd} (hL : LexI w) (x y : Int32) : EvI m_Lexicon_link (d + 2) [.ref 0, .int x, .int y] w (fun r w' => (r = 0 ∧ w' = w ∧ ¬ (∃ a b, 1 ≤ a ∧ a ≤ 100 ∧ 1 ≤ b ∧ b ≤ 100 ∧ x = nI a ∧ y = nI b ∧ joinOK w a b)) ∨ (r = 1 ∧ ∃ a b, 1 ≤ a ∧ a ≤ 100 ∧ 1 ≤ b ∧ b ≤ 100 ∧ x = nI a ∧ y = nI b ∧ joinOK w a b ∧ w' = up1 w 2 a (nI (if b = a then 0 else b)))) := by
  refine ev_Lexicon_link x y (vc_Lexicon_link_0 x y ⟨_, c_has x, ?_⟩)
  rintro r w1 ⟨rfl, hr⟩
  refine ⟨fun h => ⟨Or.inl rfl, Or.inl ⟨rfl, rfl, fun ⟨a, b, a1, a2, b1, b2, e, _⟩ => hr.z h (by rw [e]; exact isW_nI a1 a2)⟩⟩, fun h => ⟨_, c_has y, ?_⟩⟩
  rintro r2 w2 ⟨rfl, hr2⟩
  refine ⟨fun h2 => ?_, fun h2 => ⟨Or.inl rfl, Or.inl ⟨rfl, rfl, fun ⟨a, b, a1, a2, b1, b2, e, e2, _⟩ => hr2.z h2 (by rw [e2]; exact isW_nI b1 b2)⟩⟩⟩
  obtain ⟨a, a1, a2, rfl⟩ := isW_of (hr.n h)
  obtain ⟨b, b1, b2, rfl⟩ := isW_of (hr2.n h2)
  refine ⟨fun hne => ⟨_, c_Lexicon_leadsTo (d := d) hL b1 b2 a1 a2, ?_⟩, fun he => ⟨a, rfl, by omega, Or.inr rfl, Or.inr ⟨rfl, a, b, a1, a2, b1, b2, rfl, rfl, Or.inl (nI_inj (by omega) (by omega) he), ?_⟩⟩⟩
  · rintro r3 w3 ⟨rfl, hr3⟩
    have hab : a ≠ b := fun e => hne (by rw [e])
    refine ⟨fun h3 => ⟨a, rfl, by omega, Or.inr rfl, Or.inr ⟨rfl, a, b, a1, a2, b1, b2, rfl, rfl, Or.inr (hr3.z h3), by rw [if_neg (Ne.symm hab)]⟩⟩, fun h3 => ⟨Or.inl rfl, Or.inl ⟨rfl, rfl, ?_⟩⟩⟩
    rintro ⟨a', b', c1, c2, c3, c4, e1, e2, hj⟩
    have ea := nI_inj (by omega) (by omega) e1
    have eb := nI_inj (by omega) (by omega) e2
    subst ea
    subst eb
    rcases hj with hj | hj
    · exact hab hj
    · exact hj (hr3.n h3)
  · have e := nI_inj (by omega) (by omega) he
    rw [if_pos e.symm]
theorem Jn_at {w : Wd} {k j : Nat} (hj : j < 2147483648) (h : w.1 77 k = nI j) : Jn w k = j := by
  unfold Jn
  rw [h]
  exact nI_clamp hj
/-- the invariant, behind a join on both sides -/
theorem LexI.join {w w' : Wd} (hL : LexI w) {a b : Nat} (a1 : 1 ≤ a) (a2 : a ≤ 100) (b1 : 1 ≤ b) (b2 : b ≤ 100) (hj : joinOK w a b) (e1 : w'.1 1 = w.1 1) (e76 : w'.1 76 = w.1 76) (e2 : ∀ k, w'.1 2 k = if k = a then nI (if b = a then 0 else b) else w.1 2 k) (e77 : ∀ k, w'.1 77 k = if k = a then nI b else w.1 77 k) : LexI w' := by
  have hJ : ∀ k, Jn w' k = if k = a then b else Jn w k := by
    intro k
    unfold Jn
    rw [e77]
    split
    · exact nI_clamp (by omega)
    · rfl
  refine ⟨fun k k1 k2 => ⟨?_, ?_⟩, ?_⟩
  · rw [e1, e76]
    exact (hL.1 k k1 k2).1
  · by_cases hk : k = a
    · subst hk
      exact ⟨b, b1, b2, by rw [e77, if_pos rfl], by rw [e2, if_pos rfl]⟩
    · obtain ⟨j, q⟩ := (hL.1 k k1 k2).2
      exact ⟨j, by rw [e77, e2, if_neg hk, if_neg hk]; exact q⟩
  · obtain ⟨rk, hr⟩ := hL.2
    by_cases hab : a = b
    · refine ⟨rk, fun k k1 k2 hne => ?_⟩
      rw [hJ] at hne ⊢
      by_cases hk : k = a
      · rw [if_pos hk] at hne
        omega
      · rw [if_neg hk] at hne ⊢
        exact hr k k1 k2 hne
    · have hno : ¬ ∃ m, it (Jn w) m b = a := hj.resolve_left hab
      have hcl : ∀ k, Decidable (∃ m, it (Jn w) m k = a) := fun k => Classical.propDecidable _
      refine ⟨fun k => rk k + (@ite Nat (∃ m, it (Jn w) m k = a) (hcl k) (rk b + 1) 0), fun k k1 k2 hne => ?_⟩
      dsimp only
      rw [hJ] at hne ⊢
      by_cases hk : k = a
      · subst hk
        rw [if_pos rfl] at hne ⊢
        rw [if_neg hno, if_pos ⟨0, rfl⟩]
        omega
      · rw [if_neg hk] at hne ⊢
        have h9 := hr k k1 k2 hne
        by_cases hp : ∃ m, it (Jn w) m k = a
        · have hp2 : ∃ m, it (Jn w) m (Jn w k) = a := by
            obtain ⟨m, hm⟩ := hp
            cases m with
            | zero => exact absurd hm hk
            | succ m => exact ⟨m, hm⟩
          rw [if_pos hp, if_pos hp2]
          omega
        · have hp2 : ¬ ∃ m, it (Jn w) m (Jn w k) = a := fun ⟨m, hm⟩ => hp ⟨m + 1, hm⟩
          rw [if_neg hp, if_neg hp2]
          omega
/-- a word v fits a spec -/
def fitP (w : Wd) (kd nb : Int32) (v : Nat) : Prop := (kd = nI 0 ∧ nI v = nb) ∨ (kd = nI 1 ∧ w.1 76 v = nb) ∨ (¬ kd = nI 0 ∧ ¬ kd = nI 1)
theorem c_Lexicon_fits {d : Nat} {w : Wd} (hL : LexI w) (kd nb : Int32) {v : Nat} (h1 : 1 ≤ v) (h2 : v ≤ 100) : EvI m_Lexicon_fits d [.ref 0, .int kd, .int nb, .int (nI v)] w (fun r w' => w' = w ∧ Bo (fitP w kd nb v) r) := by
  have hs : w.1 1 v = w.1 76 v := by
    obtain ⟨s, -, a, b⟩ := (hL.1 v h1 h2).1
    rw [a, b]
  refine ev_Lexicon_fits _ _ _ (vc_Lexicon_fits_0 _ _ _ ⟨fun e => ⟨fun h => ⟨Or.inl rfl, rfl, Bo.f ?_⟩, fun h => ⟨Or.inr rfl, rfl, Bo.t (Or.inl ⟨e, h⟩)⟩⟩, fun e => ⟨fun e1 => ⟨fun h => ?_, fun _ => ⟨fun h => ?_, fun _ => ⟨v, rfl, by omega, fun h => ⟨Or.inl rfl, rfl, Bo.f ?_⟩, fun h => ⟨Or.inr rfl, rfl, Bo.t (Or.inr (Or.inl ⟨e1, by rw [← hs]; exact h⟩))⟩⟩⟩⟩, fun e1 => ⟨Or.inr rfl, rfl, Bo.t (Or.inr (Or.inr ⟨e, e1⟩))⟩⟩⟩)
  · subst e
    rintro (⟨-, g⟩ | ⟨g, -⟩ | ⟨g, -⟩)
    · exact h g
    · exact absurd g (by decide)
    · exact g rfl
  · rw [i_lt, tn 1, nI_toInt (by omega)] at h
    omega
  · rw [i_lt, tn 100, nI_toInt (by omega)] at h
    omega
  · subst e1
    rintro (⟨g, -⟩ | ⟨-, g⟩ | ⟨-, g⟩)
    · exact e g
    · exact h (hs.trans g)
    · exact g rfl
/-! the reference -/
theorem c_M_isOne {d : Nat} {w : Wd} (x : Int32) : EvI m_M_isOne d [.int x] w (fun r w' => w' = w ∧ Bo (isW x) r) := by
  refine ev_M_isOne x (vc_M_isOne_0 x ⟨fun h => ?_, fun h => ⟨fun h2 => ?_, fun h2 => ?_⟩⟩)
  · rw [i_lt, tn 1] at h
    exact ⟨Or.inl rfl, rfl, Bo.f (fun e => by have := e.1; omega)⟩
  · rw [i_lt, tn 100] at h2
    exact ⟨Or.inl rfl, rfl, Bo.f (fun e => by have := e.2; omega)⟩
  · rw [i_lt, tn 1] at h
    rw [i_lt, tn 100] at h2
    exact ⟨Or.inr rfl, rfl, Bo.t ⟨by omega, by omega⟩⟩
theorem c_M_sort {d : Nat} {w : Wd} (x s : Int32) : EvI m_M_sort (d + 1) [.ref 58, .int x, .int s] w (fun r w' => (r = 0 ∧ w' = up1 w 58 0 (nI 0) ∧ ¬ (isW x ∧ 0 ≤ s.toInt ∧ s.toInt < 10)) ∨ (r = 1 ∧ ∃ k j, 1 ≤ k ∧ k ≤ 100 ∧ x = nI k ∧ j < 10 ∧ s = nI j ∧ w' = up1 (up1 (up1 w 58 0 (nI 0)) 76 k s) 58 34 (nI 1))) := by
  refine ev_M_sort x s (vc_M_sort_0 x s ⟨_, c_M_isOne x, ?_⟩)
  rintro r w1 ⟨rfl, hr⟩
  refine ⟨fun h => ⟨Or.inl rfl, Or.inl ⟨rfl, rfl, fun e => hr.z h e.1⟩⟩, fun h => ⟨fun h2 => ⟨Or.inl rfl, Or.inl ⟨rfl, rfl, fun e => ?_⟩⟩, fun h2 => ⟨fun h3 => ?_, fun h3 => ⟨Or.inl rfl, Or.inl ⟨rfl, rfl, fun e => ?_⟩⟩⟩⟩⟩
  · rw [i_lt, i_z] at h2
    omega
  · obtain ⟨k, k1, k2, rfl⟩ := isW_of (hr.n h)
    rw [i_lt, i_z] at h2
    rw [i_le, tn 9] at h3
    obtain ⟨j, -, e, ej⟩ := i_nat (x := s) (by omega)
    exact ⟨k, rfl, by omega, Or.inr rfl, Or.inr rfl, Or.inr ⟨rfl, k, j, k1, k2, rfl, by omega, e, rfl⟩⟩
  · rw [i_le, tn 9] at h3
    omega
theorem z_M_nameOf {d : Nat} {w : Wd} {Q : Int32 → Wd → Prop} {x1 : Int32} (hL : LexI w) : ∀ (n a : Nat), 1 ≤ a → a ≤ 100 → Jn w (it (Jn w) n a) = it (Jn w) n a → Q (nI (it (Jn w) n a)) w → Z m_M_nameOf d (qI Q) 2 [(0, .ref 58), (1, .int x1), (2, .int (nI a))] [] w := by
  intro n
  induction n with
  | zero =>
    intro a h1 h2 hf hq
    obtain ⟨j1, j2, j3, j4⟩ := hL.J h1 h2
    refine vc_M_nameOf_2 _ _ ⟨a, rfl, by omega, fun _ => hq, fun h => absurd ?_ h⟩
    rw [j3]
    exact congrArg nI hf
  | succ n ih =>
    intro a h1 h2 hf hq
    obtain ⟨j1, j2, j3, j4⟩ := hL.J h1 h2
    refine vc_M_nameOf_2 _ _ ⟨a, rfl, by omega, fun h => ?_, fun _ => ⟨a, rfl, by omega, ?_⟩⟩
    · rw [j3] at h
      have e := nI_inj (by omega) (by omega) h
      rw [it_fix e] at hq
      exact hq
    · rw [j3]
      exact ih (Jn w a) j1 j2 hf hq
theorem c_M_nameOf {d : Nat} {w : Wd} (hL : LexI w) {a : Nat} (h1 : 1 ≤ a) (h2 : a ≤ 100) : EvI m_M_nameOf d [.ref 58, .int (nI a)] w (fun r w' => w' = w ∧ r = nI (nmOf w a)) :=
  ev_M_nameOf _ (vc_M_nameOf_0 _ (z_M_nameOf hL 100 a h1 h2 (hL.stay h1 h2) ⟨rfl, rfl⟩))
theorem LexI.mv {w w' : Wd} (h : LexI w) (e1 : w'.1 1 = w.1 1) (e2 : w'.1 2 = w.1 2) (e3 : w'.1 76 = w.1 76) (e4 : w'.1 77 = w.1 77) : LexI w' := by
  unfold LexI Jn at *
  rw [e1, e2, e3, e4]
  exact h
theorem nmOf_mv {w w' : Wd} (e4 : w'.1 77 = w.1 77) : nmOf w' = nmOf w := by
  have : Jn w' = Jn w := by funext k; unfold Jn; rw [e4]
  funext k
  unfold nmOf
  rw [this]
theorem c_M_named {d : Nat} {w : Wd} (hL : LexI w) (x : Int32) : EvI m_M_named (d + 1) [.ref 58, .int x] w (fun r w' => w' = up1 w 58 0 (nI 0) ∧ ((¬ isW x ∧ r = -nI 1) ∨ ∃ k, 1 ≤ k ∧ k ≤ 100 ∧ x = nI k ∧ r = nI (nmOf w k))) := by
  refine ev_M_named x (vc_M_named_0 x ⟨_, c_M_isOne x, ?_⟩)
  rintro r w1 ⟨rfl, hr⟩
  refine ⟨fun h => ⟨rfl, Or.inl ⟨hr.z h, rfl⟩⟩, fun h => ?_⟩
  obtain ⟨k, k1, k2, rfl⟩ := isW_of (hr.n h)
  have hL2 : LexI (up1 w 58 0 (nI 0)) := hL.mv rfl rfl rfl rfl
  refine ⟨_, c_M_nameOf hL2 k1 k2, ?_⟩
  rintro r2 w2 ⟨rfl, rfl⟩
  exact ⟨rfl, Or.inr ⟨k, k1, k2, rfl, by rw [nmOf_mv (w := w) (w' := up1 w 58 0 (nI 0)) rfl]⟩⟩
theorem z_M_join {d : Nat} {w : Wd} {Q : Int32 → Wd → Prop} (hL : LexI w) {a b : Nat} (a1 : 1 ≤ a) (a2 : a ≤ 100) (b1 : 1 ≤ b) (b2 : b ≤ 100) (hy : joinOK w a b → Q 1 (up1 w 77 a (nI b))) (hn : ¬ joinOK w a b → Q 0 w) : ∀ (n c : Nat), 1 ≤ c → c ≤ 100 → Jn w (it (Jn w) n c) = it (Jn w) n c → ((∃ m, it (Jn w) m b = a) ↔ ∃ m, it (Jn w) m c = a) → (a = b → c = b) → Z m_M_join (d + 1) (qI Q) 23 [(0, .ref 58), (1, .int (nI a)), (2, .int (nI b)), (3, .int (nI c))] [] w := by
  have hab : ∀ {p q : Nat}, p ≤ 100 → q ≤ 100 → nI p = nI q → p = q := fun hp hq e => nI_inj (by omega) (by omega) e
  intro n
  induction n with
  | zero =>
    intro c c1 c2 hf hm hc
    have hf : Jn w c = c := hf
    obtain ⟨j1, j2, j3, j4⟩ := hL.J c1 c2
    refine vc_M_join_23 _ _ _ ⟨fun h => ⟨fun e => ⟨a, rfl, by omega, Or.inr rfl, hy (Or.inl (hab a2 b2 e))⟩, fun e => ⟨fun h2 => absurd h h2, fun _ => ⟨Or.inl rfl, hn (fun hj => ?_)⟩⟩⟩, fun h => ⟨c, rfl, by omega, fun _ => ⟨fun e => ⟨a, rfl, by omega, Or.inr rfl, hy (Or.inl (hab a2 b2 e))⟩, fun e => ⟨fun _ => ⟨a, rfl, by omega, Or.inr rfl, hy (Or.inr (fun hp => ?_))⟩, fun h2 => absurd h2 h⟩⟩, fun h2 => absurd (by rw [j3]; exact congrArg nI hf) h2⟩⟩
    · rcases hj with hj | hj
      · exact e (congrArg nI hj)
      · exact hj (hm.mpr ⟨0, hab c2 a2 h⟩)
    · obtain ⟨m, e2⟩ := hm.mp hp
      rw [it_fix hf] at e2
      exact h (congrArg nI e2)
  | succ n ih =>
    intro c c1 c2 hf hm hc
    obtain ⟨j1, j2, j3, j4⟩ := hL.J c1 c2
    refine vc_M_join_23 _ _ _ ⟨fun h => ⟨fun e => ⟨a, rfl, by omega, Or.inr rfl, hy (Or.inl (hab a2 b2 e))⟩, fun e => ⟨fun h2 => absurd h h2, fun _ => ⟨Or.inl rfl, hn (fun hj => ?_)⟩⟩⟩, fun h => ⟨c, rfl, by omega, fun h3 => ⟨fun e => ⟨a, rfl, by omega, Or.inr rfl, hy (Or.inl (hab a2 b2 e))⟩, fun e => ⟨fun _ => ⟨a, rfl, by omega, Or.inr rfl, hy (Or.inr (fun hp => ?_))⟩, fun h2 => absurd h2 h⟩⟩, fun h2 => ⟨c, rfl, by omega, ?_⟩⟩⟩
    · rcases hj with hj | hj
      · exact e (congrArg nI hj)
      · exact hj (hm.mpr ⟨0, hab c2 a2 h⟩)
    · rw [j3] at h3
      have e3 := hab j2 c2 h3
      obtain ⟨m, e2⟩ := hm.mp hp
      rw [it_fix e3] at e2
      exact h (congrArg nI e2)
    · rw [j3]
      refine ih (Jn w c) j1 j2 hf (hm.trans ⟨fun ⟨m, e⟩ => ?_, fun ⟨m, e⟩ => ⟨m + 1, e⟩⟩) (fun e => absurd (congrArg nI ((hc e).trans e.symm)) h)
      cases m with
      | zero => exact absurd (congrArg nI e) h
      | succ m => exact ⟨m, e⟩
theorem c_M_join {d : Nat} {w : Wd} (hL : LexI w) (x y : Int32) : EvI m_M_join (d + 1) [.ref 58, .int x, .int y] w (fun r w' => (r = 0 ∧ w' = up1 w 58 0 (nI 0) ∧ ¬ (∃ a b, 1 ≤ a ∧ a ≤ 100 ∧ 1 ≤ b ∧ b ≤ 100 ∧ x = nI a ∧ y = nI b ∧ joinOK w a b)) ∨ (r = 1 ∧ ∃ a b, 1 ≤ a ∧ a ≤ 100 ∧ 1 ≤ b ∧ b ≤ 100 ∧ x = nI a ∧ y = nI b ∧ joinOK w a b ∧ w' = up1 (up1 w 58 0 (nI 0)) 77 a (nI b))) := by
  refine ev_M_join x y (vc_M_join_0 x y ⟨_, c_M_isOne x, ?_⟩)
  rintro r w1 ⟨rfl, hr⟩
  refine ⟨fun h => ⟨Or.inl rfl, Or.inl ⟨rfl, rfl, fun ⟨a, b, a1, a2, b1, b2, e, _⟩ => hr.z h (by rw [e]; exact isW_nI a1 a2)⟩⟩, fun h => ⟨_, c_M_isOne y, ?_⟩⟩
  rintro r2 w2 ⟨rfl, hr2⟩
  refine ⟨fun h2 => ?_, fun h2 => ⟨Or.inl rfl, Or.inl ⟨rfl, rfl, fun ⟨a, b, a1, a2, b1, b2, e, e2, _⟩ => hr2.z h2 (by rw [e2]; exact isW_nI b1 b2)⟩⟩⟩
  obtain ⟨a, a1, a2, rfl⟩ := isW_of (hr.n h)
  obtain ⟨b, b1, b2, rfl⟩ := isW_of (hr2.n h2)
  have hL2 : LexI (up1 w 58 0 (nI 0)) := hL.mv rfl rfl rfl rfl
  refine z_M_join hL2 a1 a2 b1 b2 (fun hj => Or.inr ⟨rfl, a, b, a1, a2, b1, b2, rfl, rfl, hj, rfl⟩) (fun hj => Or.inl ⟨rfl, rfl, ?_⟩) 100 b b1 b2 (hL2.stay b1 b2) Iff.rfl (fun _ => rfl)
  rintro ⟨a', b', c1, c2, c3, c4, e1, e2, hj'⟩
  have ea := nI_inj (by omega) (by omega) e1
  have eb := nI_inj (by omega) (by omega) e2
  subst ea
  subst eb
  exact hj hj'
theorem c_M_fits {d : Nat} {w : Wd} (kd nb : Int32) {v : Nat} (hk : kd = nI 0 ∨ kd = nI 1 ∨ kd = nI 2) (h1 : 1 ≤ v) (h2 : v ≤ 100) : EvI m_M_fits d [.ref 58, .int kd, .int nb, .int (nI v)] w (fun r w' => w' = w ∧ Bo (fitP w kd nb v) r) := by
  refine ev_M_fits _ _ _ (vc_M_fits_0 _ _ _ ?_)
  rcases hk with rfl | rfl | rfl
  · refine ⟨fun h => absurd h (by decide), fun _ => ⟨fun h => absurd rfl h, fun _ => ⟨fun h => ⟨Or.inl rfl, rfl, Bo.f ?_⟩, fun h => ⟨Or.inr rfl, rfl, Bo.t (Or.inl ⟨rfl, h⟩)⟩⟩⟩⟩
    rintro (⟨-, g⟩ | ⟨g, -⟩ | ⟨g, -⟩)
    · exact h g
    · exact absurd g (by decide)
    · exact g rfl
  · refine ⟨fun h => absurd h (by decide), fun _ => ⟨fun _ => ⟨v, rfl, by omega, fun h => ⟨Or.inl rfl, rfl, Bo.f ?_⟩, fun h => ⟨Or.inr rfl, rfl, Bo.t (Or.inr (Or.inl ⟨rfl, h⟩))⟩⟩, fun h => absurd h (by decide)⟩⟩
    rintro (⟨g, -⟩ | ⟨-, g⟩ | ⟨-, g⟩)
    · exact absurd g (by decide)
    · exact h g
    · exact g rfl
  · exact ⟨fun _ => ⟨Or.inr rfl, rfl, Bo.t (Or.inr (Or.inr ⟨by decide, by decide⟩))⟩, fun h => absurd rfl h⟩
