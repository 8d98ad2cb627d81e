/-! learn, of the class -/
def Fs (w : Wd) (r : Int32) (f : Nat) : Prop := f < mk w ∧ MU w r (nI 1) f ∧ ∀ n, n < f → ¬ MU w r (nI 1) n
theorem Fs.one {w : Wd} {r : Int32} {f f' : Nat} (h : Fs w r f) (h' : Fs w r f') : f = f' := by
  rcases Nat.lt_trichotomy f f' with g | g | g
  · exact absurd h.2.1 (h'.2.2 f g)
  · exact g
  · exact absurd h'.2.1 (h.2.2 f' g)
def Lk (w : Wd) (r : Int32) (f n : Nat) : Prop := MU w r (nI 1) n ∧ df w n = df w f
def PW (w : Wd) (r : Int32) (f i n : Nat) : Prop := ∀ n', n' < n → Lk w r f n' → wa w n' i = wa w f i
def PS (w : Wd) (r : Int32) (f i n : Nat) : Prop := ∀ n', n' < n → Lk w r f n' → w.1 76 (wa w n' i) = w.1 76 (wa w f i)
theorem PW.s {w : Wd} {r : Int32} {f i n : Nat} (h : PW w r f i n) : PS w r f i n := fun n' a b => by rw [h n' a b]
/-- kind and number of place i, behind the marks below n -/
def KN2 (w : Wd) (r : Int32) (f i n : Nat) (k v : Int32) : Prop := (PW w r f i n ∧ k = nI 0 ∧ v = nI (wa w f i)) ∨ (¬ PW w r f i n ∧ PS w r f i n ∧ k = nI 1 ∧ v = w.1 76 (wa w f i)) ∨ (¬ PW w r f i n ∧ ¬ PS w r f i n ∧ k = nI 2 ∧ v = nI 0)
theorem KN2.one {w : Wd} {r : Int32} {f i n : Nat} {k v k' v' : Int32} (h : KN2 w r f i n k v) (h' : KN2 w r f i n k' v') : k = k' ∧ v = v' := by
  rcases h with ⟨a, rfl, rfl⟩ | ⟨a, b, rfl, rfl⟩ | ⟨a, b, rfl, rfl⟩ <;> rcases h' with ⟨a', rfl, rfl⟩ | ⟨a', b', rfl, rfl⟩ | ⟨a', b', rfl, rfl⟩ <;> first | exact ⟨rfl, rfl⟩ | exact absurd a a' | exact absurd a' a | exact absurd b b' | exact absurd b' b
theorem PW.st {w : Wd} {r : Int32} {f i n : Nat} (hl : Lk w r f n) : PW w r f i (n + 1) ↔ PW w r f i n ∧ wa w n i = wa w f i := by
  constructor
  · intro h
    exact ⟨fun n' a b => h n' (by omega) b, h n (by omega) hl⟩
  · rintro ⟨h, e⟩ n' a b
    by_cases g : n' = n
    · rw [g]; exact e
    · exact h n' (by omega) b
theorem PS.st {w : Wd} {r : Int32} {f i n : Nat} (hl : Lk w r f n) : PS w r f i (n + 1) ↔ PS w r f i n ∧ w.1 76 (wa w n i) = w.1 76 (wa w f i) := by
  constructor
  · intro h
    exact ⟨fun n' a b => h n' (by omega) b, h n (by omega) hl⟩
  · rintro ⟨h, e⟩ n' a b
    by_cases g : n' = n
    · rw [g]; exact e
    · exact h n' (by omega) b
theorem KN2.no {w : Wd} {r : Int32} {f i n : Nat} {k v : Int32} (h : KN2 w r f i n k v) (hl : ¬ Lk w r f n) : KN2 w r f i (n + 1) k v := by
  have e1 : PW w r f i (n + 1) ↔ PW w r f i n := ⟨fun h n' a b => h n' (by omega) b, fun h n' a b => h n' (by
    have : n' ≠ n := fun e => hl (by rw [← e]; exact b)
    omega) b⟩
  have e2 : PS w r f i (n + 1) ↔ PS w r f i n := ⟨fun h n' a b => h n' (by omega) b, fun h n' a b => h n' (by
    have : n' ≠ n := fun e => hl (by rw [← e]; exact b)
    omega) b⟩
  unfold KN2 at *
  rw [e1, e2]
  exact h
section
variable {w0 : Wd} {r : Int32} {f : Nat}
theorem FLs.d {w0 w : Wd} (h : FLs w0 w) : df w = df w0 ∧ dn w = dn w0 ∧ wa w = wa w0 := by
  obtain ⟨e1, e2, e3, e4, e5, e6, e7, e8, e9, e10⟩ := h.m
  refine ⟨?_, ?_, ?_⟩
  · funext n; unfold df; rw [e3, e4]
  · funext n; unfold dn; rw [e3, e4]
  · funext n i; unfold wa; rw [e2, e3, e4, e9]
theorem FLs.mu {w0 w : Wd} (h : FLs w0 w) (b : Int32) (n : Nat) : MU w r b n ↔ MU w0 r b n := by
  obtain ⟨e1, e2, e3, e4, e5, e6, e7, e8, e9, e10⟩ := h.m
  unfold MU thr
  rw [e2, e6, e7, e10]
/-- the arrays of the lesson behind the marks below n -/
def LA (w0 : Wd) (r : Int32) (f m n : Nat) (w : Wd) : Prop := FLs w0 w ∧ (w.1 54 5 = nI (dn w0 f) ∧ w.1 54 6 = r ∧ ((w.1 54 7 = 0 ∧ df w0 f = nI 1 - nI (dn w0 f)) ∨ (w.1 54 7 = 1 ∧ df w0 f = nI (dn w0 f) - nI 1))) ∧ ∀ i, i < dn w0 f → KN2 w0 r f i (if i < m then n + 1 else n) (w.1 55 i) (w.1 56 i)
theorem c_widen {d : Nat} (hC : CtI w0) (hM : MrkI w0) (hf : f < mk w0) {n : Nat} (hn : n < mk w0) (hlk : Lk w0 r f n) {w : Wd} (hA : LA w0 r f 0 n w) : EvV m_Lesson_widen (d + 2) [.ref 54, .int (nI n)] w (fun w' => LA w0 r f 0 (n + 1) w') := by
  obtain ⟨⟨a1, a2, a3, a4, a5, a6⟩, -⟩ := hM.at hC.2.1 hn
  obtain ⟨⟨f1, f2, f3, f4, f5, f6⟩, -⟩ := hM.at hC.2.1 hf
  have edn : dn w0 n = dn w0 f := dn_of (by omega) (by omega) (by omega) (by omega) hlk.2
  have d16 : dn w0 f ≤ 16 := by unfold dn; split <;> omega
  refine ev_Lesson_widen _ (vc_Lesson_widen_0 _ ?_)
  refine lpU (I := fun m w' => LA w0 r f m n w') (G := fun m w' => Z m_Lesson_widen (d + 2) (qV (fun w' => LA w0 r f 0 (n + 1) w')) 2 [(0, .ref 54), (1, .int (nI n)), (2, .int (nI m))] [] w') (M := dn w0 f) ?_ ?_ 0 (Nat.zero_le _) _ hA
  · rintro w1 ⟨l1, l2, l3⟩
    refine vc_Lesson_widen_2 _ _ ?_
    rw [l2.1]
    refine ⟨fun _ => ⟨l1, l2, fun i hi => ?_⟩, fun g => absurd (mle (Nat.le_refl _)) g⟩
    have := l3 i hi
    rw [if_pos hi] at this
    rw [if_neg (Nat.not_lt_zero _)]
    exact this
  · rintro m w1 hm hA1 nx
    obtain ⟨l1, l2, l3⟩ := id hA1
    refine vc_Lesson_widen_2 _ _ ?_
    rw [l2.1]
    refine ⟨fun g => absurd (gle g) (by omega), fun _ => ⟨fun g => absurd (gle g) (by omega), fun _ => ?_⟩⟩
    have hC1 := l1.ct hC
    have hM1 := l1.mrk hM
    obtain ⟨q1, q2, q3⟩ := l1.d
    have e1 := l1.m.1
    have e76 := l1.m.2.2.2.2.2.2.2.1
    refine ⟨_, c_Lesson_wordAt (d := d) hM1 hC1.2.1 (n := n) (i := m) (by rw [e1]; exact hn) (by rw [q2, edn]; exact hm), ?_⟩
    rintro y w2 ⟨rfl, rfl⟩
    rw [q3]
    obtain ⟨v1, v2⟩ := wa_ok hC.2.1 hM hn (i := m) (by omega)
    obtain ⟨u1, u2⟩ := wa_ok hC.2.1 hM hf (i := m) hm
    have hs : ∀ v, 1 ≤ v → v ≤ 100 → w2.1 1 v = w0.1 76 v := fun v h1 h2 => by
      obtain ⟨s, -, a, b⟩ := (hC1.1.1 v h1 h2).1
      rw [a, ← e76, b]
    have k0 := l3 m hm
    rw [if_neg (Nat.lt_irrefl _)] at k0
    refine ⟨m, rfl, by omega, m, rfl, by omega, _, c_Lexicon_fits (d := d + 1) hC1.1 _ _ v1 v2, ?_⟩
    rintro y w1 ⟨rfl, hy⟩
    -- the state behind this place
    have put : ∀ w3, FLs w1 w3 → (∀ k, w3.1 54 k = w1.1 54 k) → (∀ i, i ≠ m → w3.1 55 i = w1.1 55 i ∧ w3.1 56 i = w1.1 56 i) → KN2 w0 r f m (n + 1) (w3.1 55 m) (w3.1 56 m) → Z m_Lesson_widen (d + 2) (qV (fun w' => LA w0 r f 0 (n + 1) w')) 2 [(0, .ref 54), (1, .int (nI n)), (2, .int (nI m + nI 1))] [] w3 := by
      intro w3 g1 g2 g3 g4
      rw [nI_add]
      refine nx w3 ⟨l1.tr g1, by rw [g2, g2, g2]; exact l2, fun i hi => ?_⟩
      by_cases e : i = m
      · subst e
        rw [if_pos (by omega)]
        exact g4
      · rw [(g3 i e).1, (g3 i e).2]
        have := l3 i hi
        by_cases e2 : i < m
        · rw [if_pos e2] at this; rw [if_pos (by omega)]; exact this
        · rw [if_neg e2] at this; rw [if_neg (by omega)]; exact this
    have k54 : ∀ a b x y k, a = 55 ∨ a = 56 → b = 55 ∨ b = 56 → (up1 (up1 w1 a m x) b m y).1 54 k = w1.1 54 k := fun a b x y k ha hb => by
      rw [up1_1, if_neg (by omega), up1_1, if_neg (by omega)]
    have koth : ∀ x y i, i ≠ m → (up1 (up1 w1 55 m x) 56 m y).1 55 i = w1.1 55 i ∧ (up1 (up1 w1 55 m x) 56 m y).1 56 i = w1.1 56 i := fun x y i hi => by
      rw [up1_1, if_neg (by omega), up1_1, if_neg (by omega), up1_1, if_neg (by omega), up1_1, if_neg (by omega)]
      exact ⟨rfl, rfl⟩
    have kat : ∀ x y, (up1 (up1 w1 55 m x) 56 m y).1 55 m = x ∧ (up1 (up1 w1 55 m x) 56 m y).1 56 m = y := fun x y => by
      rw [up1_1, if_neg (by omega), up1_1, if_pos ⟨rfl, rfl⟩, up1_1, if_pos ⟨rfl, rfl⟩]
      exact ⟨rfl, rfl⟩
    have kfl : ∀ x y, FLs w1 (up1 (up1 w1 55 m x) 56 m y) := fun x y => (FLs.up (by unfold CLs; omega)).tr (FLs.up (by unfold CLs; omega))
    have set : ∀ x y, KN2 w0 r f m (n + 1) x y → Z m_Lesson_widen (d + 2) (qV (fun w' => LA w0 r f 0 (n + 1) w')) 2 [(0, .ref 54), (1, .int (nI n)), (2, .int (nI m + nI 1))] [] (up1 (up1 w1 55 m x) 56 m y) := fun x y hk => put _ (kfl x y) (fun k => k54 55 56 x y k (by omega) (by omega)) (koth x y) (by rw [(kat x y).1, (kat x y).2]; exact hk)
    refine ⟨fun g => ⟨m, rfl, by omega, fun g2 => ⟨m, rfl, by omega, m, rfl, by omega, set _ _ ?_⟩, fun g2 => ⟨m, rfl, by omega, ?_⟩⟩, fun g => put w1 FLs.rf (fun _ => rfl) (fun _ _ => ⟨rfl, rfl⟩) ?_⟩
    · -- not the first kind, and it doesn't fit
      have hno := hy.z g
      rcases k0 with ⟨p1, p2, p3⟩ | ⟨p1, p2, p3, p4⟩ | ⟨p1, p2, p3, p4⟩
      · exact absurd p2 g2
      · refine Or.inr (Or.inr ⟨fun x => p1 ((PW.st hlk).mp x).1, fun x => hno (Or.inr (Or.inl ⟨p3, ?_⟩)), rfl, rfl⟩)
        rw [e76, p4]
        exact ((PS.st hlk).mp x).2
      · exact absurd (Or.inr (Or.inr ⟨by rw [p3]; decide, by rw [p3]; decide⟩)) hno
    · have hno := hy.z g
      rcases k0 with ⟨p1, p2, p3⟩ | ⟨p1, p2, p3, p4⟩ | ⟨p1, p2, p3, p4⟩
      · rw [p3]
        refine ⟨_, c_Lexicon_sortOf (d := d) u1 u2, ?_⟩
        rintro y w2 ⟨rfl, rfl⟩
        refine ⟨_, c_Lexicon_sortOf (d := d) v1 v2, ?_⟩
        rintro y w3 ⟨rfl, rfl⟩
        rw [hs _ u1 u2, hs _ v1 v2]
        have npw : ¬ PW w0 r f m (n + 1) := fun x => hno (Or.inl ⟨p2, by rw [p3, ((PW.st hlk).mp x).2]⟩)
        refine ⟨fun g3 => ⟨m, rfl, by omega, m, rfl, by omega, set _ _ (Or.inr (Or.inr ⟨npw, fun x => g3 ((PS.st hlk).mp x).2.symm, rfl, rfl⟩))⟩, fun g3 => ⟨m, rfl, by omega, _, c_Lexicon_sortOf (d := d) v1 v2, ?_⟩⟩
        rintro y w2 ⟨rfl, rfl⟩
        refine ⟨m, rfl, by omega, ?_⟩
        rw [up1_1, if_neg (by omega), hs _ v1 v2]
        exact set _ _ (Or.inr (Or.inl ⟨npw, (PS.st hlk).mpr ⟨p1.s, g3.symm⟩, rfl, g3.symm⟩))
      · rw [p3] at g2; exact absurd g2 (by decide)
      · rw [p3] at g2; exact absurd g2 (by decide)
    · -- it fits
      have hyes := hy.n g
      rcases k0 with ⟨p1, p2, p3⟩ | ⟨p1, p2, p3, p4⟩ | ⟨p1, p2, p3, p4⟩
      · refine Or.inl ⟨(PW.st hlk).mpr ⟨p1, ?_⟩, p2, p3⟩
        rcases hyes with ⟨z1, z2⟩ | ⟨z1, z2⟩ | ⟨z1, z2⟩
        · rw [p3] at z2; exact nI_inj (by omega) (by omega) z2
        · rw [p2] at z1; exact absurd z1 (by decide)
        · exact absurd p2 z1
      · refine Or.inr (Or.inl ⟨fun x => p1 ((PW.st hlk).mp x).1, (PS.st hlk).mpr ⟨p2, ?_⟩, p3, p4⟩)
        rcases hyes with ⟨z1, z2⟩ | ⟨z1, z2⟩ | ⟨z1, z2⟩
        · rw [p3] at z1; exact absurd z1 (by decide)
        · rw [e76, p4] at z2; exact z2
        · exact absurd p3 z2
      · exact Or.inr (Or.inr ⟨fun x => p1 ((PW.st hlk).mp x).1, fun x => p2 ((PS.st hlk).mp x).1, p3, p4⟩)
end
