/-! the reference matches one rule at one sentence -/
def A3 : Nat → Prop := fun a => a = 82 ∨ a = 83 ∨ a = 84
theorem A3.mf {w w' : Wd} (h : Of A3 w w') : Mf w w' := ⟨by rw [h.1 58 (by unfold A3; omega)], by rw [h.1 58 (by unfold A3; omega)], fun a ha => h.1 a (by unfold A3; omega)⟩
theorem A3.ct {w w' : Wd} (hC : CtI w) (h : Of A3 w w') : CtI w' := by
  have f : ∀ a, ¬ (a = 82 ∨ a = 83 ∨ a = 84) → w'.1 a = w.1 a := h.1
  exact ⟨hC.1.mv (f 1 (by omega)) (f 2 (by omega)) (f 76 (by omega)) (f 77 (by omega)),
   hC.2.1.mv (by rw [f 58 (by omega)]) (by rw [f 58 (by omega)]) (f 3 (by omega)) (f 4 (by omega)) (f 5 (by omega)) (f 6 (by omega)) (f 7 (by omega)) (f 78 (by omega)) (f 79 (by omega)) (f 80 (by omega)) (f 81 (by omega)),
   hC.2.2.mv (by rw [f 58 (by omega)]) (by rw [f 25 (by omega)]) (by rw [f 25 (by omega)]) (by rw [f 25 (by omega)]) (by rw [f 25 (by omega)]) (fun a ha => f a (by omega))⟩
theorem Rc.bd {w : Wd} {s r : Nat} (hl : len w s ≤ 16) : ∀ {i p l t : Nat}, Rc w s r i p l t → l ≤ 16 ∧ t ≤ 16
  | 0, _, _, _, h => by have := h.2; omega
  | i + 1, _, _, _, ⟨p, l, t, h1, _, h3, h4⟩ => by
    have a := Rc.bd hl h1
    have b := Rc.le h1
    constructor
    · rw [h3]; split <;> omega
    · rw [h4]; split <;> omega
theorem Mf.soE {w w' : Wd} (h : Mf w w') (s r i m k : Nat) : so w' s r i m k = so w s r i m k := by
  unfold so Sx
  rw [h.StE, h.sdE]
theorem Rc.en {w : Wd} {s r i : Nat} (hl : len w s ≤ 16) (k : Nat) : en (Rc w s r (i + 1)) k ↔ ∃ m, en (Rc w s r i) m ∧ so w s r i m k := by
  constructor
  · rintro ⟨p, l, t, h1, h2⟩
    obtain ⟨b1, b2⟩ := Rc.bd hl h1
    refine ⟨289 * p + 17 * l + t, (en_at b1 b2).mpr h1, ?_⟩
    unfold so
    rw [show (289 * p + 17 * l + t) / 289 = p by omega, show (289 * p + 17 * l + t) % 289 = 17 * l + t by omega, show (17 * l + t) / 17 = l by omega, show (17 * l + t) % 17 = t by omega]
    exact h2
  · rintro ⟨m, h1, h2⟩
    exact ⟨_, _, _, h1, h2⟩
section
variable {d : Nat} {w0 : Wd} {Q : Wd → Prop} {s r : Nat}
/-- what a matching of rule r at s finds -/
def Mt (w : Wd) (s r k : Nat) : Prop := ∃ l t, l < 16 ∧ t < 16 ∧ k = 256 * (12 * s + r) + 16 * l + t ∧ ∃ p, Rc w s r (ni w r) p l t
theorem z_matches4 (hC : CtI w0) (hs : s < cm w0) (hr : r < nr w0) {F : Nat → Prop} (hq : ∀ w', Of A3 w0 w' → BS w' 82 122880 (fun k => F k ∨ Mt w0 s r k) → Q w') {w : Wd} (h1 : Of A3 w0 w) (h2 : BS w 82 122880 F) (h3 : BS w 83 4913 (en (Rc w0 s r (ni w0 r)))) : Z m_M_matches (d + 2) (qV Q) 236 [(0, .ref 58), (1, .int (nI s)), (2, .int (nI r)), (3, .int (nI (len w0 s))), (4, .int (nI (12 * hl w0 + r))), (5, .int (nI 0))] [] w := by
  obtain ⟨l1, l2, l3⟩ := hC.l hs
  have hr12 := hC.2.2.2.1.1
  -- the finds before state number c
  let Fc : Nat → Nat → Prop := fun c k => F k ∨ ∃ p l t, l < 16 ∧ t < 16 ∧ 289 * p + 17 * l + t < c ∧ Rc w0 s r (ni w0 r) p l t ∧ k = 256 * (12 * s + r) + 16 * l + t
  have hcg : ∀ {w c c'}, (∀ p l t, l < 16 → t < 16 → (289 * p + 17 * l + t < c ↔ 289 * p + 17 * l + t < c')) → BS w 82 122880 (Fc c) → BS w 82 122880 (Fc c') := by
    intro w c c' e h
    refine h.cg (fun k _ => or_congr Iff.rfl ?_)
    constructor
    · rintro ⟨p, l, t, a, b, c, f⟩; exact ⟨p, l, t, a, b, (e p l t a b).mp c, f⟩
    · rintro ⟨p, l, t, a, b, c, f⟩; exact ⟨p, l, t, a, b, (e p l t a b).mpr c, f⟩
  have J : ∀ c w', (Of A3 w0 w' ∧ w'.1 83 = w.1 83 ∧ BS w' 82 122880 (Fc c)) → BS w' 83 4913 (en (Rc w0 s r (ni w0 r))) := fun c w' h => h3.mv h.2.1
  refine lpU (I := fun p w' => Of A3 w0 w' ∧ w'.1 83 = w.1 83 ∧ BS w' 82 122880 (Fc (289 * p))) (G := fun p w' => Z m_M_matches (d + 2) (qV Q) 236 [(0, .ref 58), (1, .int (nI s)), (2, .int (nI r)), (3, .int (nI (len w0 s))), (4, .int (nI (12 * hl w0 + r))), (5, .int (nI p))] [] w') (M := len w0 s + 1) ?_ ?_ 0 (Nat.zero_le _) w ⟨h1, rfl, h2.cg (fun k _ => ⟨Or.inl, fun e => e.elim id (fun ⟨p, l, t, _, _, e, _⟩ => absurd e (by omega))⟩)⟩
  · rintro w1 ⟨i1, -, i2⟩
    refine vc_M_matches_236 _ _ _ _ _ ⟨fun _ => hq w1 i1 (i2.cg (fun k _ => or_congr Iff.rfl ?_)), fun g => absurd (mlt (Nat.lt_succ_self _)) g⟩
    constructor
    · rintro ⟨p, l, t, a, b, c, e, f⟩; exact ⟨l, t, a, b, f, p, e⟩
    · rintro ⟨l, t, a, b, f, p, e⟩
      have := e.le
      exact ⟨p, l, t, a, b, by omega, e, f⟩
  · rintro p w1 hp i nx
    refine vc_M_matches_236 _ _ _ _ _ ⟨fun g => absurd (glt g) (by omega), fun _ => ?_⟩
    refine lpU (I := fun l w' => Of A3 w0 w' ∧ w'.1 83 = w.1 83 ∧ BS w' 82 122880 (Fc (289 * p + 17 * l))) (G := fun l w' => Z m_M_matches (d + 2) (qV Q) 245 [(0, .ref 58), (1, .int (nI s)), (2, .int (nI r)), (3, .int (nI (len w0 s))), (4, .int (nI (12 * hl w0 + r))), (5, .int (nI p)), (6, .int (nI l))] [] w') (M := 16) ?_ ?_ 0 (Nat.zero_le _) w1 i
    · rintro w2 ⟨a, b, c⟩
      refine vc_M_matches_245 _ _ _ _ _ _ ⟨fun _ => ?_, fun g => absurd (mle (Nat.le_refl _)) g⟩
      rw [nI_add]
      exact nx w2 ⟨a, b, hcg (fun p' l t hl ht => by omega) c⟩
    · rintro l w2 hl1 i nl
      refine vc_M_matches_245 _ _ _ _ _ _ ⟨fun g => absurd (gle g) (by omega), fun _ => ?_⟩
      refine lpU (I := fun t w' => Of A3 w0 w' ∧ w'.1 83 = w.1 83 ∧ BS w' 82 122880 (Fc (289 * p + 17 * l + t))) (G := fun t w' => Z m_M_matches (d + 2) (qV Q) 255 [(0, .ref 58), (1, .int (nI s)), (2, .int (nI r)), (3, .int (nI (len w0 s))), (4, .int (nI (12 * hl w0 + r))), (5, .int (nI p)), (6, .int (nI l)), (7, .int (nI t))] [] w') (M := 16) ?_ ?_ 0 (Nat.zero_le _) w2 i
      · rintro w3 ⟨a, b, c⟩
        refine vc_M_matches_255 _ _ _ _ _ _ _ ⟨fun _ => ?_, fun g => absurd (mle (Nat.le_refl _)) g⟩
        rw [nI_add]
        exact nl w3 ⟨a, b, hcg (fun p' l t hl ht => by omega) c⟩
      · rintro t w3 ht i nt
        have now := J _ w3 i (289 * p + 17 * l + t) (by omega)
        obtain ⟨i1, i2, i3⟩ := i
        refine vc_M_matches_255 _ _ _ _ _ _ _ ⟨fun g => absurd (gle g) (by omega), fun _ => ⟨289 * p + 17 * l + t, by rw [pk_mul, pk_mul, nI_add, nI_add], by omega, fun g => ?_, fun g => ?_⟩⟩
        · rw [nI_add]
          refine nt w3 ⟨i1, i2, i3.cg (fun k _ => or_congr Iff.rfl ?_)⟩
          constructor
          · rintro ⟨p', l', t', a, b, c, e⟩; exact ⟨p', l', t', a, b, by omega, e⟩
          · rintro ⟨p', l', t', a, b, c, e, f⟩
            refine ⟨p', l', t', a, b, ?_, e, f⟩
            by_cases x : 289 * p' + 17 * l' + t' = 289 * p + 17 * l + t
            · have := now.z g
              rw [← x] at this
              exact absurd ((en_at (by omega) (by omega)).mpr e) this
            · omega
        · refine ⟨_, ev_M_findOf _ _ _ _ (vc_M_findOf_0 _ _ _ _ (Q := fun x w' => w' = w3 ∧ x = nI (256 * (12 * s + r) + 16 * l + t)) ⟨rfl, by rw [pk_mul, nI_add, pk_mul, pk_mul, nI_add, nI_add]⟩), ?_⟩
          rintro x w4 ⟨rfl, rfl⟩
          refine ⟨256 * (12 * s + r) + 16 * l + t, rfl, by omega, Or.inr rfl, ?_⟩
          rw [nI_add]
          refine nt _ ⟨i1.tr (Of.up (Or.inl rfl)), by rw [up1_off 83 (by decide)]; exact i2, i3.up.cg (fun k _ => ?_)⟩
          rw [or_assoc]
          refine or_congr Iff.rfl ?_
          constructor
          · rintro (⟨p', l', t', a, b, c, e⟩ | e)
            · exact ⟨p', l', t', a, b, by omega, e⟩
            · exact ⟨p, l, t, hl1, ht, by omega, (en_at (by omega) (by omega)).mp (now.n g), e⟩
          · rintro ⟨p', l', t', a, b, c, e, f⟩
            by_cases x : 289 * p' + 17 * l' + t' = 289 * p + 17 * l + t
            · exact Or.inr (by omega)
            · exact Or.inl ⟨p', l', t', a, b, by omega, e, f⟩
theorem z_matches3 (hC : CtI w0) (hs : s < cm w0) (hr : r < nr w0) {F : Nat → Prop} (hq : ∀ w', Of A3 w0 w' → BS w' 82 122880 (fun k => F k ∨ Mt w0 s r k) → Q w') : ∀ i, i ≤ ni w0 r → ∀ w, (Of A3 w0 w ∧ BS w 82 122880 F ∧ BS w 83 4913 (en (Rc w0 s r i))) → Z m_M_matches (d + 2) (qV Q) 81 [(0, .ref 58), (1, .int (nI s)), (2, .int (nI r)), (3, .int (nI (len w0 s))), (4, .int (nI (12 * hl w0 + r))), (5, .int (nI (10 * (12 * hl w0 + r) + i)))] [] w := by
  obtain ⟨l1, l2, l3⟩ := hC.l hs
  have hr12 := hC.2.2.2.1.1
  have hh := hC.2.2.1.1
  obtain ⟨-, ⟨hn1, hn2, -⟩, -⟩ := hC.2.2.2.2.1 r hr
  refine lpU (I := fun i w => Of A3 w0 w ∧ BS w 82 122880 F ∧ BS w 83 4913 (en (Rc w0 s r i))) (G := fun i w => Z m_M_matches (d + 2) (qV Q) 81 [(0, .ref 58), (1, .int (nI s)), (2, .int (nI r)), (3, .int (nI (len w0 s))), (4, .int (nI (12 * hl w0 + r))), (5, .int (nI (10 * (12 * hl w0 + r) + i)))] [] w) ?_ ?_
  · rintro w ⟨i1, i2, i3⟩
    refine vc_M_matches_81 _ _ _ _ _ ⟨12 * hl w0 + r, rfl, by omega, ?_⟩
    rw [i1.1 66 (by unfold A3; omega), hn2, pk_mul, nI_add]
    exact ⟨fun _ => z_matches4 hC hs hr hq i1 i2 i3, fun g => absurd (mle (Nat.le_refl _)) g⟩
  · rintro i w hi ⟨i1, i2, i3⟩ nx
    have m1 := A3.mf i1
    refine vc_M_matches_81 _ _ _ _ _ ⟨12 * hl w0 + r, rfl, by omega, ?_⟩
    rw [i1.1 66 (by unfold A3; omega), hn2, pk_mul, nI_add]
    refine ⟨fun g => absurd (gle g) (by omega), fun _ => ?_⟩
    -- then[..] = false
    refine lpU (I := fun j w' => Of A3 w w' ∧ w'.1 82 = w.1 82 ∧ w'.1 83 = w.1 83 ∧ ∀ k, k < j → w'.1 84 k = nI 0) (G := fun j w' => Z m_M_matches (d + 2) (qV Q) 102 [(0, .ref 58), (1, .int (nI s)), (2, .int (nI r)), (3, .int (nI (len w0 s))), (4, .int (nI (12 * hl w0 + r))), (5, .int (nI (10 * (12 * hl w0 + r) + i))), (6, .int (nI j))] [] w') (M := 4913) ?_ ?_ 0 (Nat.zero_le _) w ⟨Of.rf, rfl, rfl, fun k hk => absurd hk (Nat.not_lt_zero _)⟩
    · rintro w1 ⟨j1, j2, j3, j4⟩
      refine vc_M_matches_102 _ _ _ _ _ _ ⟨fun _ => ?_, fun g => absurd (mle (Nat.le_refl _)) g⟩
      let T : Nat → Nat → Prop := fun c k => ∃ m, m < c ∧ en (Rc w0 s r i) m ∧ so w0 s r i m k
      refine lpU (I := fun p w' => Of A3 w w' ∧ w'.1 82 = w.1 82 ∧ w'.1 83 = w.1 83 ∧ BS w' 84 4913 (T (289 * p))) (G := fun p w' => Z m_M_matches (d + 2) (qV Q) 127 [(0, .ref 58), (1, .int (nI s)), (2, .int (nI r)), (3, .int (nI (len w0 s))), (4, .int (nI (12 * hl w0 + r))), (5, .int (nI (10 * (12 * hl w0 + r) + i))), (6, .int (nI p))] [] w') (M := len w0 s + 1) ?_ ?_ 0 (Nat.zero_le _) w1 ⟨j1, j2, j3, (BS.zer j4).cg (fun k _ => ⟨False.elim, fun ⟨m, h, _⟩ => absurd h (by omega)⟩)⟩
      · rintro w2 ⟨k1, k2, k3, k4⟩
        refine vc_M_matches_127 _ _ _ _ _ _ ⟨fun _ => ?_, fun g => absurd (mlt (Nat.lt_succ_self _)) g⟩
        have k4 : BS w2 84 4913 (en (Rc w0 s r (i + 1))) := k4.cg (fun k _ => by
          rw [Rc.en l2]
          constructor
          · rintro ⟨m, -, h⟩; exact ⟨m, h⟩
          · rintro ⟨m, h⟩
            have := Rc.le h.1
            exact ⟨m, by omega, h⟩)
        refine lpU (I := fun j w' => Of A3 w2 w' ∧ w'.1 82 = w2.1 82 ∧ w'.1 84 = w2.1 84 ∧ ∀ k, k < j → w'.1 83 k = w2.1 84 k) (G := fun j w' => Z m_M_matches (d + 2) (qV Q) 199 [(0, .ref 58), (1, .int (nI s)), (2, .int (nI r)), (3, .int (nI (len w0 s))), (4, .int (nI (12 * hl w0 + r))), (5, .int (nI (10 * (12 * hl w0 + r) + i))), (6, .int (nI j))] [] w') (M := 4913) ?_ ?_ 0 (Nat.zero_le _) w2 ⟨Of.rf, rfl, rfl, fun k hk => absurd hk (Nat.not_lt_zero _)⟩
        · rintro w3 ⟨q1, q2, q3, q4⟩
          refine vc_M_matches_199 _ _ _ _ _ _ ⟨fun _ => ?_, fun g => absurd (mle (Nat.le_refl _)) g⟩
          rw [nI_add]
          refine nx w3 ⟨(i1.tr k1).tr q1, i2.mv (q2.trans k2), fun k hk => ?_⟩
          rw [q4 k hk]
          exact k4 k hk
        · rintro j w3 hj ⟨q1, q2, q3, q4⟩ nj
          refine vc_M_matches_199 _ _ _ _ _ _ ⟨fun g => absurd (gle g) (by omega), fun _ => ⟨j, rfl, hj, j, rfl, hj, ?_, ?_⟩⟩
          · rw [q3]; exact (k4 j hj).r
          · rw [nI_add]
            refine nj _ ⟨q1.tr (Of.up (Or.inr (Or.inl rfl))), by rw [up1_off 82 (by decide)]; exact q2, by rw [up1_off 84 (by decide)]; exact q3, fun k hk => ?_⟩
            rw [up1_1]
            by_cases e : k = j
            · rw [if_pos ⟨rfl, e⟩, q3, e]
            · rw [if_neg (fun x => e x.2)]; exact q4 k (by omega)
      · rintro p w2 hp ⟨k1, k2, k3, k4⟩ np
        refine vc_M_matches_127 _ _ _ _ _ _ ⟨fun g => absurd (glt g) (by omega), fun _ => ?_⟩
        rw [pk_mul]
        refine lpU (I := fun g w' => Of A3 w w' ∧ w'.1 82 = w.1 82 ∧ w'.1 83 = w.1 83 ∧ BS w' 84 4913 (T (289 * p + g))) (G := fun g w' => Z m_M_matches (d + 2) (qV Q) 141 [(0, .ref 58), (1, .int (nI s)), (2, .int (nI r)), (3, .int (nI (len w0 s))), (4, .int (nI (12 * hl w0 + r))), (5, .int (nI (10 * (12 * hl w0 + r) + i))), (6, .int (nI p)), (7, .int (nI (289 * p + g)))] [] w') (M := 289) ?_ ?_ 0 (Nat.zero_le _) w2 ⟨k1, k2, k3, k4⟩
        · rintro w3 q
          refine vc_M_matches_141 _ _ _ _ _ _ _ ⟨fun _ => ?_, fun g => absurd ?_ g⟩
          · rw [nI_add]; exact np w3 q
          · rw [pk_mul, nI_add]; exact mle (Nat.le_refl _)
        · rintro g w3 hg ⟨q1, q2, q3, q4⟩ ng
          have now := i3.mv q3 (289 * p + g) (by omega)
          have m3 := A3.mf (i1.tr q1)
          refine vc_M_matches_141 _ _ _ _ _ _ _ ⟨fun x => ?_, fun _ => ⟨289 * p + g, rfl, by omega, fun x => ?_, fun x => ?_⟩⟩
          · rw [pk_mul, nI_add] at x; exact absurd (gle x) (by omega)
          · rw [nI_add]
            refine ng w3 ⟨q1, q2, q3, q4.cg (fun k _ => ⟨fun ⟨m, a, b⟩ => ⟨m, by omega, b⟩, fun ⟨m, a, b⟩ => ⟨m, ?_, b⟩⟩)⟩
            by_cases e : m = 289 * p + g
            · have := now.z x
              rw [← e] at this; exact absurd b.1 this
            · omega
          · rw [pk_mul, sub_nI (by omega), show 289 * p + g - 289 * p = g by omega, show 10 * (12 * hl w0 + r) + i = ix w3 r i from (m3.ixE r i).symm]
            refine ⟨_, c_goes (d := d) (A3.ct hC (i1.tr q1)) (by rw [m3.cmE]; exact hs) (by rw [m3.nrE]; exact hr) (by rw [m3.niE]; exact hi) (by rw [m3.lenE]; omega) hg q4, ?_⟩
            rintro w4 ⟨u1, u2⟩
            rw [nI_add, show ix w3 r i = 10 * (12 * hl w0 + r) + i from m3.ixE r i]
            refine ng w4 ⟨q1.tr (u1.mo (fun a ha => Or.inr (Or.inr ha))), (u1.1 82 (by decide)).trans q2, (u1.1 83 (by decide)).trans q3, u2.cg (fun k _ => ?_)⟩
            rw [m3.soE]
            constructor
            · rintro (⟨m, a, b⟩ | b)
              · exact ⟨m, by omega, b⟩
              · exact ⟨_, by omega, now.n x, b⟩
            · rintro ⟨m, a, b⟩
              by_cases e : m = 289 * p + g
              · rw [← e]; exact Or.inr b.2
              · exact Or.inl ⟨m, by omega, b⟩
    · rintro j w1 hj ⟨j1, j2, j3, j4⟩ nj
      refine vc_M_matches_102 _ _ _ _ _ _ ⟨fun g => absurd (gle g) (by omega), fun _ => ⟨j, rfl, hj, Or.inl rfl, ?_⟩⟩
      rw [nI_add]
      refine nj _ ⟨j1.tr (Of.up (Or.inr (Or.inr rfl))), by rw [up1_off 82 (by decide)]; exact j2, by rw [up1_off 83 (by decide)]; exact j3, fun k hk => ?_⟩
      rw [up1_1]
      by_cases e : k = j
      · rw [if_pos ⟨rfl, e⟩]
      · rw [if_neg (fun x => e x.2)]; exact j4 k (by omega)
theorem c_matches {w : Wd} (hC : CtI w) (hs : s < cm w) (hr : r < nr w) {F : Nat → Prop} (hF : BS w 82 122880 F) : EvV m_M_matches (d + 2) [.ref 58, .int (nI s), .int (nI r)] w (fun w' => Of A3 w w' ∧ BS w' 82 122880 (fun k => F k ∨ Mt w s r k)) := by
  obtain ⟨l1, l2, l3⟩ := hC.l hs
  have hlen : w.1 79 s = nI (len w s) := (hC.2.1.2.2.2.1 s hs).2.2.1
  have hr12 := hC.2.2.2.1.1
  have hh := hC.2.2.1.2
  refine ev_M_matches _ _ (vc_M_matches_0 _ _ ⟨s, rfl, l3, ?_⟩)
  rw [hlen]
  refine lpU (I := fun j w' => Of A3 w w' ∧ w'.1 82 = w.1 82 ∧ ∀ k, k < j → w'.1 83 k = nI 0) (G := fun j w' => Z m_M_matches (d + 2) (qV (fun w' => Of A3 w w' ∧ BS w' 82 122880 (fun k => F k ∨ Mt w s r k))) 10 [(0, .ref 58), (1, .int (nI s)), (2, .int (nI r)), (3, .int (nI (len w s))), (4, .int (nI j))] [] w') (M := 4913) ?_ ?_ 0 (Nat.zero_le _) w ⟨Of.rf, rfl, fun k hk => absurd hk (Nat.not_lt_zero _)⟩
  · rintro w1 ⟨j1, j2, j3⟩
    refine vc_M_matches_10 _ _ _ _ ⟨fun _ => ?_, fun g => absurd (mle (Nat.le_refl _)) g⟩
    refine lpU (I := fun p w' => Of A3 w w' ∧ w'.1 82 = w.1 82 ∧ BS w' 83 4913 (fun k => ∃ p', p' < p ∧ k = 289 * p' + 288)) (G := fun p w' => Z m_M_matches (d + 2) (qV (fun w' => Of A3 w w' ∧ BS w' 82 122880 (fun k => F k ∨ Mt w s r k))) 35 [(0, .ref 58), (1, .int (nI s)), (2, .int (nI r)), (3, .int (nI (len w s))), (4, .int (nI p))] [] w') (M := len w s + 1) ?_ ?_ 0 (Nat.zero_le _) w1 ⟨j1, j2, (BS.zer j3).cg (fun k _ => ⟨False.elim, fun ⟨m, h, _⟩ => absurd h (by omega)⟩)⟩
    · rintro w2 ⟨k1, k2, k3⟩
      refine vc_M_matches_35 _ _ _ _ ⟨fun _ => ?_, fun g => absurd (mlt (Nat.lt_succ_self _)) g⟩
      rw [k1.1 58 (by unfold A3; omega), hh, pk_mul, nI_add, pk_mul]
      refine z_matches3 hC hs hr (fun w' a b => ⟨a, b⟩) 0 (Nat.zero_le _) w2 ⟨k1, hF.mv k2, k3.cg (fun k _ => ?_)⟩
      show _ ↔ (k / 289 ≤ len w s ∧ k % 289 / 17 = 16 ∧ k % 289 % 17 = 16)
      constructor
      · rintro ⟨p', a, rfl⟩
        rw [show (289 * p' + 288) / 289 = p' by omega, show (289 * p' + 288) % 289 = 288 by omega]
        exact ⟨by omega, rfl, rfl⟩
      · rintro ⟨a, b, c⟩
        have := cd_of (k := k) rfl b c
        exact ⟨k / 289, by omega, by omega⟩
    · rintro p w2 hp ⟨k1, k2, k3⟩ np
      refine vc_M_matches_35 _ _ _ _ ⟨fun g => absurd (glt g) (by omega), fun _ => ⟨289 * p + 288, by rw [pk_mul, nI_add], by omega, Or.inr rfl, ?_⟩⟩
      rw [nI_add]
      refine np _ ⟨k1.tr (Of.up (Or.inr (Or.inl rfl))), by rw [up1_off 82 (by decide)]; exact k2, k3.up.cg (fun k _ => ?_)⟩
      constructor
      · rintro (⟨p', a, e⟩ | e)
        · exact ⟨p', by omega, e⟩
        · exact ⟨p, by omega, e⟩
      · rintro ⟨p', a, e⟩
        by_cases x : p' = p
        · subst x; exact Or.inr e
        · exact Or.inl ⟨p', by omega, e⟩
  · rintro j w1 hj ⟨j1, j2, j3⟩ nj
    refine vc_M_matches_10 _ _ _ _ ⟨fun g => absurd (gle g) (by omega), fun _ => ⟨j, rfl, hj, Or.inl rfl, ?_⟩⟩
    rw [nI_add]
    refine nj _ ⟨j1.tr (Of.up (Or.inr (Or.inl rfl))), by rw [up1_off 82 (by decide)]; exact j2, fun k hk => ?_⟩
    rw [up1_1]
    by_cases e : k = j
    · rw [if_pos ⟨rfl, e⟩]
    · rw [if_neg (fun x => e x.2)]; exact j3 k (by omega)
end
