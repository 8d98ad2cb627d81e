/-! THE FINDER draws a rule -/
theorem all_nI {L : Nat} (hL : L ≤ 16) : (nI 1 <<< ((nI L + nI 1) &&& 31)) - nI 1 = nI (2 ^ (L + 1) - 1) := by
  rw [nI_add, one_shl (by omega), sub_nI (Nat.one_le_two_pow)]
theorem pow17 {L : Nat} (hL : L ≤ 16) : 2 ^ (L + 1) ≤ 131072 := Nat.pow_le_pow_right (n := 2) (by decide) (show L + 1 ≤ 17 by omega)
theorem and_all_lt {x L : Nat} : x &&& (2 ^ (L + 1) - 1) < 2 ^ (L + 1) := by
  have h := @Nat.and_le_right x (2 ^ (L + 1) - 1)
  have h2 : 0 < 2 ^ (L + 1) := Nat.two_pow_pos _
  omega
theorem z_forward {d : Nat} {w : Wd} {Q : Int32 → Wd → Prop} {s r a fr en : Nat} (hC : CtI w) (hs : s < cm w) (hf : FtI w s r (ni w r)) (hen : en ≤ ni w r) (hni : ni w r ≤ 10) (hq : ∀ c, c < 2 ^ (len w s + 1) → (∀ q, c.testBit q = true ↔ ∃ p, a.testBit p = true ∧ Go w s r fr (en - fr) p q) → Q (nI c) w) : ∀ (n i c : Nat), i + n = en → fr ≤ i → c < 2 ^ (len w s + 1) → (∀ q, c.testBit q = true ↔ ∃ p, a.testBit p = true ∧ Go w s r fr (i - fr) p q) → Z m_Finder_forward d (qI Q) 6 [(0, .ref 36), (1, .int (nI a)), (2, .int (nI fr)), (3, .int (nI en)), (4, .int (nI (2 ^ (len w s + 1) - 1))), (5, .int (nI c)), (6, .int (nI i))] [] w := by
  obtain ⟨l1, l2, l3⟩ := hC.l hs
  have hp := pow17 l2
  intro n
  induction n with
  | zero =>
    intro i c hi hfi hc hb
    refine vc_Finder_forward_6 _ _ _ _ _ _ ⟨fun _ => hq c hc (by rw [show en = i by omega]; exact hb), fun g => absurd ?_ g⟩
    rw [nI_leI (by omega) (by omega)]
    omega
  | succ n ih =>
    intro i c hi hfi hc hb
    have hc17 : c < 131072 := by omega
    refine vc_Finder_forward_6 _ _ _ _ _ _ ⟨fun g => ?_, fun _ => ⟨fun g => ?_, fun _ => ⟨i, rfl, by omega, fun g => ⟨i, rfl, by omega, ?_⟩, fun g => ?_⟩⟩⟩
    · rw [nI_leI (by omega) (by omega)] at g; omega
    · rw [nI_leI (by omega) (by omega)] at g; omega
    · rcases hf i (by omega) with ⟨-, k⟩ | ⟨k, f, f1, f2, f3⟩
      · exact absurd k g
      · have hcf : c &&& f < 131072 := Nat.lt_of_le_of_lt Nat.and_le_left hc17
        rw [f2, and_nI, shl_nI (by decide) (by omega), and_nI, nI_add]
        refine ih (i + 1) _ (by omega) (by omega) and_all_lt (fun q => ?_)
        rw [fw_spec, show i + 1 - fr = (i - fr) + 1 by omega]
        constructor
        · rintro ⟨hq1, u, u1, u2, rfl⟩
          obtain ⟨p, p1, p2⟩ := (hb u).mp u1
          refine ⟨p, p1, (Go.snoc (i - fr) fr p (u + 1)).mpr ⟨u, p2, Or.inr ?_⟩⟩
          rw [show fr + (i - fr) = i by omega]
          exact ⟨k, ((f3 u).mp u2).1, ((f3 u).mp u2).2, rfl⟩
        · rintro ⟨p, p1, p2⟩
          obtain ⟨u, u1, u2⟩ := (Go.snoc (i - fr) fr p q).mp p2
          rw [show fr + (i - fr) = i by omega] at u2
          refine ⟨u2.le, u, (hb u).mpr ⟨p, p1, u1⟩, ?_⟩
          rcases u2 with ⟨k2, -⟩ | ⟨-, k3, k4, k5⟩
          · exact absurd k2 k
          · exact ⟨(f3 u).mpr ⟨k3, k4⟩, k5⟩
    · rcases hf i (by omega) with ⟨k, -⟩ | ⟨k, f, f1, f2, f3⟩
      · rw [shl_nI (by decide) (by omega), shl_nI (by decide) (by omega), shl_nI (by decide) (by omega), or_nI, or_nI, or_nI, and_nI, nI_add]
        refine ih (i + 1) _ (by omega) (by omega) and_all_lt (fun q => ?_)
        rw [show (c ||| (c * 2 ^ 1 ||| c * 2 ^ 2 ||| c * 2 ^ 3)) = (c ||| ((c * 2 ^ 1) ||| (c * 2 ^ 2)) ||| (c * 2 ^ 3)) by rw [Nat.or_assoc c, Nat.or_assoc]]
        rw [fw_some, show i + 1 - fr = (i - fr) + 1 by omega]
        constructor
        · rintro ⟨hq1, u, u1, u2, u3⟩
          obtain ⟨p, p1, p2⟩ := (hb u).mp u1
          refine ⟨p, p1, (Go.snoc (i - fr) fr p q).mpr ⟨u, p2, Or.inl ?_⟩⟩
          rw [show fr + (i - fr) = i by omega]
          exact ⟨k, u2, u3, hq1⟩
        · rintro ⟨p, p1, p2⟩
          obtain ⟨u, u1, u2⟩ := (Go.snoc (i - fr) fr p q).mp p2
          rw [show fr + (i - fr) = i by omega] at u2
          refine ⟨u2.le, u, (hb u).mpr ⟨p, p1, u1⟩, ?_⟩
          rcases u2 with ⟨-, k3, k4, k5⟩ | ⟨k2, -⟩
          · exact ⟨k3, k4⟩
          · exact absurd k k2
      · rw [f2] at g
        exact absurd g (m1_ne f (by omega))
theorem c_forward {d : Nat} {w : Wd} {s r a fr en : Nat} (hC : CtI w) (hs : s < cm w) (hf : FtI w s r (ni w r)) (hen : en ≤ ni w r) (hni : ni w r ≤ 10) (hfe : fr ≤ en) (ha : a < 2 ^ (len w s + 1)) : EvI m_Finder_forward d [.ref 36, .int (nI a), .int (nI fr), .int (nI en), .int (nI (2 ^ (len w s + 1) - 1))] w (fun x w' => w' = w ∧ ∃ c, c < 2 ^ (len w s + 1) ∧ x = nI c ∧ ∀ q, c.testBit q = true ↔ ∃ p, a.testBit p = true ∧ Go w s r fr (en - fr) p q) :=
  ev_Finder_forward _ _ _ _ (vc_Finder_forward_0 _ _ _ _ (z_forward hC hs hf hen hni (fun c hc hb => ⟨rfl, c, hc, rfl, hb⟩) (en - fr) fr a (by omega) (Nat.le_refl _) ha (fun q => by
    rw [Nat.sub_self]
    exact ⟨fun h => ⟨q, h, rfl⟩, fun ⟨p, h, e⟩ => by have e : p = q := e; rw [← e]; exact h⟩)))
theorem add_m1 {n : Nat} (h : 1 ≤ n) : nI n + -nI 1 = nI (n - 1) := by
  rw [← Int32.sub_eq_add_neg, sub_nI h]
theorem z_backward {d : Nat} {w : Wd} {Q : Int32 → Wd → Prop} {s r a fr en : Nat} (hC : CtI w) (hs : s < cm w) (hf : FtI w s r (ni w r)) (hen : en ≤ ni w r) (hni : ni w r ≤ 10) (hfr : 1 ≤ fr) (hal : ∀ q, a.testBit q = true → q ≤ len w s) (hq : ∀ c, c < 131072 → (∀ p, c.testBit p = true ↔ ∃ q, a.testBit q = true ∧ Go w s r fr (en - fr) p q) → Q (nI c) w) : ∀ (n e c : Nat), fr + n = e → e ≤ en → c < 131072 → (∀ p, c.testBit p = true ↔ ∃ q, a.testBit q = true ∧ Go w s r e (en - e) p q) → Z m_Finder_backward (d + 1) (qI Q) 13 [(0, .ref 36), (1, .int (nI a)), (2, .int (nI fr)), (3, .int (nI en)), (4, .int (nI c)), (5, .int (nI (e - 1)))] [] w := by
  intro n
  induction n with
  | zero =>
    intro e c he hee hc hb
    refine vc_Finder_backward_13 _ _ _ _ _ ⟨fun _ => hq c hc (by rw [show fr = e by omega]; exact hb), fun g => absurd ?_ g⟩
    rw [nI_ltI (by omega) (by omega)]
    omega
  | succ n ih =>
    intro e c he hee hc hb
    have hlen : ∀ q, c.testBit q = true → q ≤ 16 := fun q hq => by
      have := tb_lt (k := 17) hc hq
      omega
    refine vc_Finder_backward_13 _ _ _ _ _ ⟨fun g => ?_, fun _ => ⟨e - 1, rfl, by omega, fun g => ⟨e - 1, rfl, by omega, ?_⟩, fun g => ?_⟩⟩
    · rw [nI_ltI (by omega) (by omega)] at g; omega
    · rcases hf (e - 1) (by omega) with ⟨-, k⟩ | ⟨k, f, f1, f2, f3⟩
      · exact absurd k g
      · rw [f2, shr_nI (by omega) (by decide), and_nI, add_m1 (by omega)]
        refine ih (e - 1) _ (by omega) (by omega) (Nat.lt_of_le_of_lt Nat.and_le_left (by omega)) (fun p => ?_)
        rw [bw_spec, hb, show en - (e - 1) = (en - e) + 1 by omega]
        constructor
        · rintro ⟨⟨q, q1, q2⟩, h2⟩
          obtain ⟨h3, h4⟩ := (f3 p).mp h2
          exact ⟨q, q1, p + 1, Or.inr ⟨k, h3, h4, rfl⟩, by rw [show e - 1 + 1 = e by omega]; exact q2⟩
        · rintro ⟨q, q1, u, u1, u2⟩
          rw [show e - 1 + 1 = e by omega] at u2
          rcases u1 with ⟨k2, -⟩ | ⟨-, k3, k4, rfl⟩
          · exact absurd k2 k
          · exact ⟨⟨q, q1, u2⟩, (f3 p).mpr ⟨k3, k4⟩⟩
    · rcases hf (e - 1) (by omega) with ⟨k, -⟩ | ⟨k, f, f1, f2, f3⟩
      · rw [shr_nI (by omega) (by decide), shr_nI (by omega) (by decide), shr_nI (by omega) (by decide), or_nI, or_nI, or_nI, add_m1 (by omega)]
        have d1 : c / 2 ^ 1 < 2 ^ 17 := Nat.lt_of_le_of_lt (Nat.div_le_self _ _) hc
        have d2 : c / 2 ^ 2 < 2 ^ 17 := Nat.lt_of_le_of_lt (Nat.div_le_self _ _) hc
        have d3 : c / 2 ^ 3 < 2 ^ 17 := Nat.lt_of_le_of_lt (Nat.div_le_self _ _) hc
        refine ih (e - 1) _ (by omega) (by omega) (or_lt (k := 17) hc (or_lt (or_lt d1 d2) d3)) (fun p => ?_)
        rw [show (c ||| (c / 2 ^ 1 ||| c / 2 ^ 2 ||| c / 2 ^ 3)) = (c ||| ((c / 2 ^ 1) ||| (c / 2 ^ 2)) ||| (c / 2 ^ 3)) by rw [Nat.or_assoc c, Nat.or_assoc]]
        rw [bw_some, show en - (e - 1) = (en - e) + 1 by omega]
        constructor
        · rintro ⟨u, u1, u2, u3⟩
          obtain ⟨q, q1, q2⟩ := (hb u).mp u1
          refine ⟨q, q1, u, Or.inl ⟨k, u2, u3, ?_⟩, by rw [show e - 1 + 1 = e by omega]; exact q2⟩
          by_cases hm : en - e = 0
          · rw [hm] at q2
            have q2 : u = q := q2
            rw [q2]
            exact hal q q1
          · rw [show en - e = (en - e - 1) + 1 by omega] at q2
            obtain ⟨v, v1, v2⟩ := q2
            rcases v1 with ⟨-, k3, k4, k5⟩ | ⟨-, k3, -⟩ <;> omega
        · rintro ⟨q, q1, u, u1, u2⟩
          rw [show e - 1 + 1 = e by omega] at u2
          rcases u1 with ⟨-, k3, k4, k5⟩ | ⟨k2, -⟩
          · exact ⟨u, (hb u).mpr ⟨q, q1, u2⟩, k3, k4⟩
          · exact absurd k k2
      · rw [f2] at g
        exact absurd g (m1_ne f (by omega))
theorem c_backward {d : Nat} {w : Wd} {s r fr en : Nat} (hC : CtI w) (hs : s < cm w) (hf : FtI w s r (ni w r)) (hen : en = ni w r) (hni : ni w r ≤ 10) (hfr : 1 ≤ fr) (hfe : fr ≤ en) : EvI m_Finder_backward (d + 1) [.ref 36, .int (nI (2 ^ (len w s + 1) - 1)), .int (nI fr), .int (nI en)] w (fun x w' => w' = w ∧ ∃ c, c < 131072 ∧ x = nI c ∧ ∀ p, c.testBit p = true ↔ ∃ q, q ≤ len w s ∧ Go w s r fr (en - fr) p q) := by
  obtain ⟨l1, l2, l3⟩ := hC.l hs
  have hp := pow17 l2
  have hpos : 0 < 2 ^ (len w s + 1) := Nat.two_pow_pos _
  refine ev_Finder_backward _ _ _ (vc_Finder_backward_0 _ _ _ ?_)
  have hm : (if nI 10 < nI en then nI 10 else nI en) = nI en := by
    rw [if_neg]
    rw [nI_ltI (by omega) (by omega)]
    omega
  rw [hm, sub_nI (by omega)]
  have hbase : ∀ p, (2 ^ (len w s + 1) - 1).testBit p = true ↔ ∃ q, (2 ^ (len w s + 1) - 1).testBit q = true ∧ Go w s r en (en - en) p q := by
    intro p
    rw [Nat.sub_self]
    exact ⟨fun h => ⟨p, h, rfl⟩, fun ⟨q, h, e⟩ => by have e : p = q := e; rw [e]; exact h⟩
  have hal : ∀ q, (2 ^ (len w s + 1) - 1).testBit q = true → q ≤ len w s := by
    intro q hq
    rw [tb_all, decide_eq_true_eq] at hq
    omega
  refine z_backward hC hs hf (by omega) hni hfr hal ?_ (en - fr) en _ (by omega) (Nat.le_refl _) (by omega) hbase
  intro c hc hb
  refine ⟨rfl, c, hc, rfl, fun p => (hb p).trans ?_⟩
  constructor
  · rintro ⟨q, q1, q2⟩
    exact ⟨q, hal q q1, q2⟩
  · rintro ⟨q, q1, q2⟩
    exact ⟨q, by rw [tb_all, decide_eq_true_eq]; omega, q2⟩
/-- the row of right places by left places, at base b: as a set of pairs -/
def RwI (w : Wd) (b : Nat) (S : Nat → Nat → Prop) : Prop := ∀ l, l < 16 → ∃ c, c < 65536 ∧ w.1 37 (b + l) = nI c ∧ ∀ t, c.testBit t = true ↔ S l t
theorem RwI.cg {w : Wd} {b : Nat} {S S' : Nat → Nat → Prop} (h : RwI w b S) (e : ∀ l t, l < 16 → (S l t ↔ S' l t)) : RwI w b S' := fun l hl => by
  obtain ⟨c, c1, c2, c3⟩ := h l hl
  exact ⟨c, c1, c2, fun t => (c3 t).trans (e l t hl)⟩
/-- only places b .. b + 15 of the row 37 have changed -/
def F37 (b : Nat) (w w' : Wd) : Prop := (∀ a k, ¬ (a = 37 ∧ b ≤ k ∧ k < b + 16) → w'.1 a k = w.1 a k) ∧ w'.2 = w.2
theorem F37.rf {b : Nat} {w : Wd} : F37 b w w := ⟨fun _ _ _ => rfl, rfl⟩
theorem F37.tr {b : Nat} {w w1 w2 : Wd} (h : F37 b w w1) (h2 : F37 b w1 w2) : F37 b w w2 := ⟨fun a k hk => (h2.1 a k hk).trans (h.1 a k hk), h2.2.trans h.2⟩
theorem F37.off {b : Nat} {w w' : Wd} (h : F37 b w w') {a : Nat} (ha : a ≠ 37) : w'.1 a = w.1 a := funext fun k => h.1 a k (fun e => ha e.1)
theorem F37.fr {b : Nat} {w w' : Wd} (h : F37 b w w') : Fr w w' := ⟨fun a ha => h.off (by omega), h.2⟩
theorem z_keepPairs {d : Nat} {w0 : Wd} {Q : Wd → Prop} {b u c : Nat} {x4 : Int32} (hb : b + 16 ≤ 7680) (hu : u < 16) (hc : c < 65536) {S : Nat → Nat → Prop} (h0 : RwI w0 b S) (hq : ∀ w', F37 b w0 w' → RwI w' b (fun l t => S l t ∨ (c.testBit l = true ∧ t = u)) → Q w') : ∀ (n l : Nat) (w : Wd), l + n = 16 → F37 b w0 w → RwI w b (fun l' t => S l' t ∨ (l' < l ∧ c.testBit l' = true ∧ t = u)) → Z m_Finder_keepPairs d (qV Q) 18 [(0, .ref 36), (1, .int (nI b)), (2, .int (nI u)), (3, .int (nI c)), (4, .int x4), (5, .int (nI l))] [] w := by
  intro n
  induction n with
  | zero =>
    intro l w hl hf hr
    refine vc_Finder_keepPairs_18 _ _ _ _ _ ⟨fun _ => hq w hf (hr.cg (fun l' t hl' => ?_)), fun g => absurd ?_ g⟩
    · constructor
      · rintro (h | ⟨-, h⟩)
        · exact Or.inl h
        · exact Or.inr h
      · rintro (h | h)
        · exact Or.inl h
        · exact Or.inr ⟨by omega, h⟩
    · rw [nI_leI (by omega) (by omega)]; omega
  | succ n ih =>
    intro l w hl hf hr
    refine vc_Finder_keepPairs_18 _ _ _ _ _ ⟨fun g => ?_, fun _ => ?_⟩
    · rw [nI_leI (by omega) (by omega)] at g; omega
    · rw [bit_nI (by omega) (by omega)]
      refine ⟨fun g => ?_, fun g => ⟨b + l, by rw [nI_add], by omega, b + l, by rw [nI_add], by omega, ?_⟩⟩
      · rw [nI_add]
        refine ih (l + 1) w (by omega) hf (hr.cg (fun l' t hl' => ?_))
        constructor
        · rintro (h | ⟨h1, h⟩)
          · exact Or.inl h
          · exact Or.inr ⟨by omega, h⟩
        · rintro (h | ⟨h1, h2, h3⟩)
          · exact Or.inl h
          · refine Or.inr ⟨?_, h2, h3⟩
            by_cases e : l' = l
            · subst e; exact absurd h2 g
            · omega
      · have g : c.testBit l = true := Classical.not_not.mp g
        obtain ⟨v, v1, v2, v3⟩ := hr l (by omega)
        rw [nI_add, v2, one_shl (by omega), or_nI]
        refine ih (l + 1) _ (by omega) (hf.tr ⟨fun a k hk => by rw [up1_1, if_neg (fun e => hk ⟨e.1, by omega, by omega⟩)], rfl⟩) (fun l' hl' => ?_)
        by_cases e : l' = l
        · subst e
          refine ⟨v ||| 2 ^ u, or_pow (n := 16) v1 (by omega), by rw [up1_1, if_pos ⟨rfl, rfl⟩], fun t => ?_⟩
          rw [tb_or_pow, v3]
          constructor
          · rintro ((h | ⟨h1, h2⟩) | h)
            · exact Or.inl h
            · exact Or.inr ⟨by omega, h2⟩
            · exact Or.inr ⟨by omega, g, h⟩
          · rintro (h | ⟨h1, h2, h3⟩)
            · exact Or.inl (Or.inl h)
            · exact Or.inr h3
        · obtain ⟨v', a1, a2, a3⟩ := hr l' hl'
          refine ⟨v', a1, by rw [up1_1, if_neg (by omega)]; exact a2, fun t => ?_⟩
          rw [a3]
          constructor
          · rintro (h | ⟨h1, h2⟩)
            · exact Or.inl h
            · exact Or.inr ⟨by omega, h2⟩
          · rintro (h | ⟨h1, h2⟩)
            · exact Or.inl h
            · exact Or.inr ⟨by omega, h2⟩
theorem c_keepPairs {d : Nat} {w : Wd} {b u c : Nat} (hb : b + 16 ≤ 7680) (hu : u < 16) (hc : c < 65536) {S : Nat → Nat → Prop} (h0 : RwI w b S) : EvV m_Finder_keepPairs d [.ref 36, .int (nI b), .int (nI u), .int (nI c), .int (nI 0)] w (fun w' => F37 b w w' ∧ RwI w' b (fun l t => S l t ∨ (c.testBit l = true ∧ t = u))) ∧ EvV m_Finder_keepPairs d [.ref 36, .int (nI b), .int (nI u), .int (nI c), .int (nI 1)] w (fun w' => F37 b w w' ∧ RwI w' b (fun l t => (l ≠ u ∧ S l t) ∨ (l = u ∧ c.testBit t = true))) := by
  refine ⟨ev_Finder_keepPairs _ _ _ _ (vc_Finder_keepPairs_0 _ _ _ _ ⟨fun _ => ?_, fun g => absurd rfl g⟩), ev_Finder_keepPairs _ _ _ _ (vc_Finder_keepPairs_0 _ _ _ _ ⟨fun g => absurd g (by decide), fun _ => ⟨b + u, by rw [nI_add], by omega, ?_, ?_⟩⟩)⟩
  · exact z_keepPairs hb hu hc h0 (fun w' a1 a2 => ⟨a1, a2⟩) 16 0 w rfl F37.rf (h0.cg (fun l t hl => ⟨Or.inl, fun h => h.elim id (fun e => absurd e.1 (Nat.not_lt_zero _))⟩))
  · exact ⟨fun a k hk => by rw [up1_1, if_neg (fun e => hk ⟨e.1, by omega, by omega⟩)], rfl⟩
  · intro l hl
    by_cases e : l = u
    · subst e
      exact ⟨c, hc, by rw [up1_1, if_pos ⟨rfl, rfl⟩], fun t => ⟨fun h => Or.inr ⟨rfl, h⟩, fun h => h.elim (fun x => absurd rfl x.1) (fun x => x.2)⟩⟩
    · obtain ⟨v, a1, a2, a3⟩ := h0 l hl
      exact ⟨v, a1, by rw [up1_1, if_neg (by omega)]; exact a2, fun t => by
        rw [a3]
        exact ⟨fun h => Or.inl ⟨e, h⟩, fun h => h.elim (fun x => x.2) (fun x => absurd x.1 e)⟩⟩
