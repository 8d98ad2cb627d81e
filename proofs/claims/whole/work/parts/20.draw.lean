/-! THE FINDER draws -/
/-- what finds depend on is the same -/
def Mf (w w' : Wd) : Prop := w'.1 58 10 = w.1 58 10 ∧ w'.1 58 30 = w.1 58 30 ∧ ∀ a, (64 ≤ a ∧ a ≤ 70) ∨ a = 76 ∨ (79 ≤ a ∧ a ≤ 81) → w'.1 a = w.1 a
theorem Mf.hlE {w w' : Wd} (h : Mf w w') : hl w' = hl w := N_cg h.1
theorem Mf.cmE {w w' : Wd} (h : Mf w w') : cm w' = cm w := N_cg h.2.1
theorem Mf.NE {w w' : Wd} (h : Mf w w') {a : Nat} (ha : (64 ≤ a ∧ a ≤ 70) ∨ a = 76 ∨ (79 ≤ a ∧ a ≤ 81)) (k : Nat) : N w' a k = N w a k := N_cg (by rw [h.2.2 a ha])
theorem Mf.nrE {w w' : Wd} (h : Mf w w') : nr w' = nr w := by
  show N w' 64 (hl w') = _
  rw [h.hlE, h.NE (by omega)]
theorem Mf.ixE {w w' : Wd} (h : Mf w w') (r i : Nat) : ix w' r i = ix w r i := by
  show 10 * (12 * N w' 58 10 + r) + i = 10 * (12 * N w 58 10 + r) + i
  rw [N_cg h.1]
theorem Mf.niE {w w' : Wd} (h : Mf w w') (r : Nat) : ni w' r = ni w r := by
  show N w' 66 (12 * N w' 58 10 + r) = N w 66 (12 * N w 58 10 + r)
  rw [N_cg h.1, h.NE (by omega)]
theorem Mf.lenE {w w' : Wd} (h : Mf w w') (s : Nat) : len w' s = len w s := h.NE (by omega) s
theorem Mf.wrdE {w w' : Wd} (h : Mf w w') (s p : Nat) : wrd w' s p = wrd w s p := h.NE (by omega) _
theorem Mf.sdE {w w' : Wd} (h : Mf w w') (r i : Nat) : sd w' r i = sd w r i := by
  show N w' 68 (ix w' r i) = N w 68 (ix w r i)
  rw [h.ixE, h.NE (by omega)]
theorem Mf.fitPE {w w' : Wd} (h : Mf w w') (kd nb : Int32) (v : Nat) : fitP w' kd nb v = fitP w kd nb v := by
  unfold fitP
  rw [h.2.2 76 (by omega)]
theorem Mf.fitE {w w' : Wd} (h : Mf w w') (s r i p : Nat) : fit w' s r i p = fit w s r i p := by
  unfold fit
  rw [h.fitPE, h.ixE, h.wrdE, h.2.2 69 (by omega), h.2.2 70 (by omega)]
theorem Mf.StE {w w' : Wd} (h : Mf w w') (s r i p q : Nat) : St w' s r i p q = St w s r i p q := by
  unfold St
  rw [h.fitE, h.ixE, h.lenE, h.2.2 67 (by omega)]
theorem Mf.GoE {w w' : Wd} (h : Mf w w') (s r : Nat) : ∀ (m i p q : Nat), Go w' s r i m p q = Go w s r i m p q
  | 0, _, _, _ => rfl
  | m + 1, i, p, q => by
    show (∃ u, _ ∧ _) = (∃ u, _ ∧ _)
    congr 1
    funext u
    rw [h.StE, Mf.GoE h s r m (i + 1) u q]
theorem Mf.RcE {w w' : Wd} (h : Mf w w') (s r : Nat) : ∀ (i p l t : Nat), Rc w' s r i p l t = Rc w s r i p l t
  | 0, p, l, t => by
    show (p ≤ len w' s ∧ _) = (p ≤ len w s ∧ _)
    rw [h.lenE]
  | i + 1, q, l', t' => by
    show (∃ p l t, _ ∧ _ ∧ _ ∧ _) = (∃ p l t, _ ∧ _ ∧ _ ∧ _)
    congr 1
    funext p
    congr 1
    funext l
    congr 1
    funext t
    rw [Mf.RcE h s r i p l t, h.StE, h.sdE]
theorem Mf.FndE {w w' : Wd} (h : Mf w w') (s r l t : Nat) : Fnd w' s r l t = Fnd w s r l t := by
  unfold Fnd
  rw [h.cmE, h.nrE, h.niE, show thr w' s = thr w s by unfold thr; rw [h.2.2 81 (by omega)]]
  congr 5
  congr 1
  funext p
  rw [h.RcE]
/-- only the finder's own rows have changed -/
def Fr (w w' : Wd) : Prop := (∀ a, a < 37 ∨ 41 < a → w'.1 a = w.1 a) ∧ w'.2 = w.2
theorem Fr.rf {w : Wd} : Fr w w := ⟨fun _ _ => rfl, rfl⟩
theorem Fr.tr {w w1 w2 : Wd} (h : Fr w w1) (h2 : Fr w1 w2) : Fr w w2 := ⟨fun a ha => (h2.1 a ha).trans (h.1 a ha), h2.2.trans h.2⟩
theorem Fr.up {w : Wd} {a k : Nat} {v : Int32} (ha : 37 ≤ a ∧ a ≤ 41) : Fr w (up1 w a k v) := ⟨fun b hb => up1_off b (by omega), rfl⟩
theorem Fr.mf {w w' : Wd} (h : Fr w w') : Mf w w' := ⟨by rw [h.1 58 (by omega)], by rw [h.1 58 (by omega)], fun a ha => h.1 a (by omega)⟩
def CtI (w : Wd) : Prop := LexI w ∧ SenI w ∧ BkI w
theorem CtI.fr {w w' : Wd} (h : CtI w) (f : Fr w w') : CtI w' :=
  ⟨h.1.mv (f.1 1 (by omega)) (f.1 2 (by omega)) (f.1 76 (by omega)) (f.1 77 (by omega)),
   h.2.1.mv (by rw [f.1 58 (by omega)]) (by rw [f.1 58 (by omega)]) (f.1 3 (by omega)) (f.1 4 (by omega)) (f.1 5 (by omega)) (f.1 6 (by omega)) (f.1 7 (by omega)) (f.1 78 (by omega)) (f.1 79 (by omega)) (f.1 80 (by omega)) (f.1 81 (by omega)),
   h.2.2.mv (by rw [f.1 58 (by omega)]) (by rw [f.1 25 (by omega)]) (by rw [f.1 25 (by omega)]) (by rw [f.1 25 (by omega)]) (by rw [f.1 25 (by omega)]) (fun a ha => f.1 a (by omega))⟩
theorem CtI.w {w : Wd} (h : CtI w) {s p : Nat} (hs : s < cm w) (hp : p < len w s) : 1 ≤ wrd w s p ∧ wrd w s p ≤ 100 := ⟨(h.2.1.2.2.2.2.1 s hs p hp).1, (h.2.1.2.2.2.2.1 s hs p hp).2.1⟩
theorem CtI.l {w : Wd} (h : CtI w) {s : Nat} (hs : s < cm w) : 1 ≤ len w s ∧ len w s ≤ 16 ∧ s < 40 := by
  have a := h.2.1.2.2.2.1 s hs
  have b := h.2.1.2.2.1.1
  exact ⟨a.1, a.2.1, by omega⟩
/-- sentence s has a word that a bar names -/
def Brr (w : Wd) (s : Nat) : Prop := ∃ p, p < len w s ∧ brd w (nI (wrd w s p))
theorem z_hasBarredWord {d : Nat} {w : Wd} {Q : Int32 → Wd → Prop} (h : CtI w) {s : Nat} (hs : s < cm w) (hy : Brr w s → Q 1 w) (hn : ¬ Brr w s → Q 0 w) : ∀ (n p : Nat), p + n = len w s → (∀ p', p' < p → ¬ brd w (nI (wrd w s p'))) → Z m_Finder_hasBarredWord (d + 1) (qI Q) 2 [(0, .ref 36), (1, .int (nI s)), (2, .int (nI p))] [] w := by
  obtain ⟨l1, l2, l3⟩ := h.l hs
  intro n
  induction n with
  | zero =>
    intro p hp hno
    refine vc_Finder_hasBarredWord_2 _ _ ⟨_, c_Sentences_lengthOf h.2.1 hs, ?_⟩
    rintro r w1 ⟨rfl, rfl⟩
    refine ⟨fun _ => ⟨Or.inl rfl, hn (fun ⟨p', a, b⟩ => hno p' (by omega) b)⟩, fun g => absurd ?_ g⟩
    rw [nI_leI (by omega) (by omega)]
    omega
  | succ n ih =>
    intro p hp hno
    refine vc_Finder_hasBarredWord_2 _ _ ⟨_, c_Sentences_lengthOf h.2.1 hs, ?_⟩
    rintro r w1 ⟨rfl, rfl⟩
    refine ⟨fun g => ?_, fun _ => ⟨_, c_Sentences_wordAt h.2.1 hs (by omega), ?_⟩⟩
    · rw [nI_leI (by omega) (by omega)] at g
      omega
    · rintro r2 w2 ⟨rfl, rfl⟩
      refine ⟨_, c_Book_isBarred h.2.2 _, ?_⟩
      rintro r3 w3 ⟨rfl, hr⟩
      refine ⟨fun g => ?_, fun g => ⟨Or.inr rfl, hy ⟨p, by omega, hr.n g⟩⟩⟩
      rw [nI_add]
      refine ih (p + 1) (by omega) (fun p' hp' => ?_)
      by_cases e : p' = p
      · subst e; exact hr.z g
      · exact hno p' (by omega)
theorem c_hasBarredWord {d : Nat} {w : Wd} (h : CtI w) {s : Nat} (hs : s < cm w) : EvI m_Finder_hasBarredWord (d + 1) [.ref 36, .int (nI s)] w (fun r w' => w' = w ∧ Bo (Brr w s) r) :=
  ev_Finder_hasBarredWord _ (vc_Finder_hasBarredWord_0 _ (z_hasBarredWord h hs (fun a => ⟨rfl, Bo.t a⟩) (fun a => ⟨rfl, Bo.f a⟩) (len w s) 0 (Nat.zero_add _) (fun p' hp' => absurd hp' (Nat.not_lt_zero _))))
theorem or_pow {a p n : Nat} (ha : a < 2 ^ n) (hp : p < n) : a ||| 2 ^ p < 2 ^ n := or_lt ha (Nat.pow_lt_pow_right (by decide) hp)
theorem tb_or_pow (a p q : Nat) : (a ||| 2 ^ p).testBit q = true ↔ a.testBit q = true ∨ q = p := by
  rw [Nat.testBit_or, Nat.testBit_two_pow, Bool.or_eq_true, decide_eq_true_eq]
  constructor
  · rintro (h | h)
    · exact Or.inl h
    · exact Or.inr h.symm
  · rintro (h | h)
    · exact Or.inl h
    · exact Or.inr h.symm
theorem z_placesOf {d : Nat} {w : Wd} {Q : Int32 → Wd → Prop} (h : CtI w) {s : Nat} (hs : s < cm w) {kd nb : Int32} (hq : ∀ f, f < 65536 → (∀ p, f.testBit p = true ↔ p < len w s ∧ fitP w kd nb (wrd w s p)) → Q (nI f) w) : ∀ (n p f : Nat), p + n = len w s → f < 65536 → (∀ q, f.testBit q = true ↔ q < p ∧ fitP w kd nb (wrd w s q)) → Z m_Finder_placesOf (d + 1) (qI Q) 6 [(0, .ref 36), (1, .int (nI s)), (2, .int kd), (3, .int nb), (4, .int (nI f)), (5, .int (nI p))] [] w := by
  obtain ⟨l1, l2, l3⟩ := h.l hs
  intro n
  induction n with
  | zero =>
    intro p f hp hf hb
    refine vc_Finder_placesOf_6 _ _ _ _ _ ⟨_, c_Sentences_lengthOf h.2.1 hs, ?_⟩
    rintro r w1 ⟨rfl, rfl⟩
    refine ⟨fun _ => hq f hf (fun q => ?_), fun g => absurd ?_ g⟩
    · rw [hb, show p = len w1 s by omega]
    · rw [nI_leI (by omega) (by omega)]
      omega
  | succ n ih =>
    intro p f hp hf hb
    refine vc_Finder_placesOf_6 _ _ _ _ _ ⟨_, c_Sentences_lengthOf h.2.1 hs, ?_⟩
    rintro r w1 ⟨rfl, rfl⟩
    refine ⟨fun g => ?_, fun _ => ⟨_, c_Sentences_wordAt h.2.1 hs (by omega), ?_⟩⟩
    · rw [nI_leI (by omega) (by omega)] at g
      omega
    · rintro r2 w2 ⟨rfl, rfl⟩
      obtain ⟨v1, v2⟩ := h.w hs (show p < len w2 s by omega)
      refine ⟨_, c_Lexicon_fits h.1 _ _ v1 v2, ?_⟩
      rintro r3 w3 ⟨rfl, hr⟩
      refine ⟨fun g => ?_, fun g => ?_⟩
      · rw [nI_add]
        refine ih (p + 1) f (by omega) hf (fun q => ?_)
        rw [hb]
        constructor
        · rintro ⟨a, b⟩; exact ⟨by omega, b⟩
        · rintro ⟨a, b⟩
          by_cases e : q = p
          · subst e; exact absurd b (hr.z g)
          · exact ⟨by omega, b⟩
      · rw [nI_add, one_shl (by omega), or_nI]
        refine ih (p + 1) _ (by omega) (or_pow (n := 16) hf (by omega)) (fun q => ?_)
        rw [tb_or_pow, hb]
        constructor
        · rintro (⟨a, b⟩ | e)
          · exact ⟨by omega, b⟩
          · subst e; exact ⟨by omega, hr.n g⟩
        · rintro ⟨a, b⟩
          by_cases e : q = p
          · exact Or.inr e
          · exact Or.inl ⟨by omega, b⟩
theorem c_placesOf {d : Nat} {w : Wd} (h : CtI w) {s : Nat} (hs : s < cm w) (kd nb : Int32) : EvI m_Finder_placesOf (d + 1) [.ref 36, .int (nI s), .int kd, .int nb] w (fun r w' => w' = w ∧ ∃ f, f < 65536 ∧ r = nI f ∧ ∀ p, f.testBit p = true ↔ p < len w s ∧ fitP w kd nb (wrd w s p)) :=
  ev_Finder_placesOf _ _ _ (vc_Finder_placesOf_0 _ _ _ (z_placesOf h hs (fun f hf hb => ⟨rfl, f, hf, rfl, hb⟩) (len w s) 0 0 (Nat.zero_add _) (by decide) (fun q => ⟨fun e => absurd e (by rw [Nat.zero_testBit]; decide), fun e => absurd e.1 (Nat.not_lt_zero _)⟩)))
/-- the row 'fitting', for the first n items of rule r at sentence s -/
def FtI (w : Wd) (s r n : Nat) : Prop := ∀ i, i < n → (w.1 67 (ix w r i) = 1 ∧ w.1 41 i = -nI 1) ∨ (¬ w.1 67 (ix w r i) = 1 ∧ ∃ f, f < 65536 ∧ w.1 41 i = nI f ∧ ∀ p, f.testBit p = true ↔ p < len w s ∧ fit w s r i p)
theorem FtI.up {w : Wd} {s r n j : Nat} {v : Int32} (h : FtI w s r n) (hj : n ≤ j) : FtI (up1 w 41 j v) s r n := by
  have f : Fr w (up1 w 41 j v) := Fr.up (by omega)
  intro i hi
  rw [f.mf.ixE, f.1 67 (by omega), show (up1 w 41 j v).1 41 i = w.1 41 i by rw [up1_1, if_neg (by omega)]]
  rcases h i hi with a | ⟨a, q, b, c, e⟩
  · exact Or.inl a
  · exact Or.inr ⟨a, q, b, c, fun p => by rw [f.mf.lenE, f.mf.fitE]; exact e p⟩
theorem z_fitItems {d : Nat} {w0 : Wd} {Q : Wd → Prop} {s r : Nat} (h0 : CtI w0) (hs : s < cm w0) (hr : r < nr w0) (hq : ∀ w', Fr w0 w' → (∀ a, a ≠ 41 → w'.1 a = w0.1 a) → FtI w' s r (ni w0 r) → Q w') : ∀ (n i : Nat) (w : Wd), i + n = ni w0 r → Fr w0 w → (∀ a, a ≠ 41 → w.1 a = w0.1 a) → FtI w s r i → Z m_Finder_fitItems (d + 3) (qV Q) 2 [(0, .ref 36), (1, .int (nI s)), (2, .int (nI r)), (3, .int (nI i))] [] w := by
  intro n
  induction n with
  | zero =>
    intro i w hi hf h41 ht
    have hC := h0.fr hf
    have m := hf.mf
    have b1 := (hC.2.2.2.2.1 r (by rw [m.nrE]; exact hr)).2.1.1
    refine vc_Finder_fitItems_2 _ _ _ ⟨_, c_Book_itemsOf (d := d + 1) hC.2.2 (by rw [m.nrE]; exact hr), ?_⟩
    rintro x w1 ⟨rfl, rfl⟩
    rw [m.niE] at b1 ⊢
    refine ⟨fun _ => hq _ hf h41 (by rw [← hi]; exact ht), fun g => absurd ?_ g⟩
    rw [nI_leI (by omega) (by omega)]
    omega
  | succ n ih =>
    intro i w hi hf h41 ht
    have hC := h0.fr hf
    have m := hf.mf
    have hr' : r < nr w := by rw [m.nrE]; exact hr
    have hs' : s < cm w := by rw [m.cmE]; exact hs
    obtain ⟨-, ⟨b1, -, -⟩, a, b, ha, hb, hab, -, -, hit⟩ := hC.2.2.2.2.1 r hr'
    have hi' : i < ni w r := by rw [m.niE]; omega
    refine vc_Finder_fitItems_2 _ _ _ ⟨_, c_Book_itemsOf (d := d + 1) hC.2.2 hr', ?_⟩
    rintro x w1 ⟨rfl, rfl⟩
    refine ⟨fun g => ?_, fun _ => ⟨fun g => ?_, fun _ => ⟨_, c_Book_kindOf (d := d + 1) hC.2.2 hr' hi', ?_⟩⟩⟩
    · rw [nI_leI (by omega) (by omega)] at g; omega
    · rw [nI_leI (by omega) (by omega)] at g; omega
    · rintro x2 w2 ⟨rfl, rfl⟩
      have hit := hit i hi'
      refine ⟨fun g => ⟨_, c_Book_numberOf (d := d + 1) hC.2.2 hr' hi', ?_⟩, fun g => ⟨i, rfl, by omega, ?_⟩⟩
      · rintro x3 w3 ⟨rfl, rfl⟩
        refine ⟨_, c_placesOf (d := d + 1) hC hs' _ _, ?_⟩
        rintro x4 w4 ⟨rfl, f, hf1, rfl, hf2⟩
        refine ⟨i, rfl, by omega, ?_⟩
        rw [nI_add]
        refine ih (i + 1) _ (by omega) (hf.tr (Fr.up (by omega))) (fun a ha => by rw [up1_off a ha]; exact h41 a ha) (fun i' hi2 => ?_)
        by_cases e : i' = i
        · subst e
          have f2 : Fr w4 (up1 w4 41 i' (nI f)) := Fr.up (by omega)
          rw [f2.mf.ixE, f2.1 67 (by omega)]
          rcases hit with ⟨q1, q2, -⟩ | ⟨q1, q2, q3, -⟩
          · exact absurd q2 g
          · refine Or.inr ⟨by rw [q1]; decide, f, hf1, by rw [up1_1, if_pos ⟨rfl, rfl⟩], fun p => ?_⟩
            rw [f2.mf.lenE, f2.mf.fitE, hf2 p, q2, q3]
            rfl
        · exact (ht.up (Nat.le_refl i)) i' (by omega)
      · rw [nI_add]
        refine ih (i + 1) _ (by omega) (hf.tr (Fr.up (by omega))) (fun a ha => by rw [up1_off a ha]; exact h41 a ha) (fun i' hi2 => ?_)
        by_cases e : i' = i
        · subst e
          have f2 : Fr w2 (up1 w2 41 i' (-nI 1)) := Fr.up (by omega)
          rw [f2.mf.ixE, f2.1 67 (by omega)]
          rcases hit with ⟨q1, q2, -⟩ | ⟨q1, q2, q3, q4, -⟩
          · exact Or.inl ⟨q1, by rw [up1_1, if_pos ⟨rfl, rfl⟩]⟩
          · rw [g] at q2
            rw [← q2] at q4
            rcases q4 with e | e | e <;> exact absurd e (by decide)
        · exact (ht.up (Nat.le_refl i)) i' (by omega)
theorem c_fitItems {d : Nat} {w : Wd} (h : CtI w) {s r : Nat} (hs : s < cm w) (hr : r < nr w) : EvV m_Finder_fitItems (d + 3) [.ref 36, .int (nI s), .int (nI r)] w (fun w' => Fr w w' ∧ (∀ a, a ≠ 41 → w'.1 a = w.1 a) ∧ FtI w' s r (ni w r)) :=
  ev_Finder_fitItems _ _ (vc_Finder_fitItems_0 _ _ (z_fitItems h hs hr (fun w' a b c => ⟨a, b, c⟩) (ni w r) 0 w (Nat.zero_add _) Fr.rf (fun _ _ => rfl) (fun i hi => absurd hi (Nat.not_lt_zero _))))
