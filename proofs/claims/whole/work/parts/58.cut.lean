/-! TEXT: the tokens, of the reference -/
def hv (t : Nat → Nat) (k : Nat) : Nat → Nat
  | 0 => 0
  | n + 1 => 37 * hv t k n + (t (k + n) - 96)
def RA (t : Nat → Nat) (k : Nat) (s : Int32) (v : Int64) : Prop :=
  (∃ m, 1 ≤ m ∧ (∀ i, i < m → ltr (t (k + i))) ∧ ¬ ltr (t (k + m)) ∧ ((m ≤ 8 ∧ s = nI 1 ∧ v = lN (hv t k m)) ∨ (8 < m ∧ s = nI 4))) ∨
  (∃ m, 1 ≤ m ∧ (∀ i, i < m → dgt (t (k + i))) ∧ ¬ dgt (t (k + m)) ∧ ((m ≤ 4 ∧ s = nI 2 ∧ v = lN (nv t k m)) ∨ (4 < m ∧ s = nI 4))) ∨
  (¬ ltr (t k) ∧ ¬ dgt (t k) ∧ (((t k = 58 ∨ t k = 59 ∨ t k = 61) ∧ s = nI 3 ∧ v = lN (t k)) ∨ ((t k ≠ 58 ∧ t k ≠ 59 ∧ t k ≠ 61) ∧ s = nI 4)))
def TB (L : Nat) (t : Nat → Nat) (w : Wd) : Prop := L ≤ 1200 ∧ (∀ k, k < L → w.1 59 k = nI (t k) ∧ t k < 128) ∧ ∀ k, L ≤ k → t k = 0
theorem lN_mul2 (a b : Nat) : lN a * lN b = lN (a * b) := wb_inj (by rw [Int64.toBitVec_mul, wb_tb, wb_tb, wb_tb]; apply BitVec.eq_of_toNat_eq; simp [BitVec.toNat_mul, Nat.mul_mod])
theorem ct_run {t : Nat → Nat} {k : Nat} (h0 : stB t k = true) : ∀ {i : Nat}, (∀ j, 1 ≤ j → j < i + 1 → stB t (k + j) = false) → ct (stB t) (k + (i + 1)) = ct (stB t) k + 1
  | 0, _ => ct_succ_t h0
  | i + 1, h => by
    rw [show k + (i + 1 + 1) = k + (i + 1) + 1 by omega, ct_succ_f (h (i + 1) (by omega) (by omega))]
    exact ct_run h0 (fun j h1 h2 => h j h1 (by omega))
def CCt (a k : Nat) : Prop := a = 60 ∨ a = 61 ∨ (a = 58 ∧ (k = 2 ∨ k = 3 ∨ k = 7 ∨ k = 8))
def FCt (w w' : Wd) : Prop := Sm CCt w w' ∧ ∀ a, a ≠ 62 → w'.2 a = w.2 a
theorem FCt.rf {w : Wd} : FCt w w := ⟨Sm.rf, fun _ _ => rfl⟩
theorem FCt.tr {w w1 w2 : Wd} (h : FCt w w1) (h2 : FCt w1 w2) : FCt w w2 := ⟨h.1.tr h2.1, fun a ha => (h2.2 a ha).trans (h.2 a ha)⟩
theorem FCt.up {w : Wd} {a k : Nat} {v : Int32} (h : CCt a k) : FCt w (up1 w a k v) := ⟨Sm.up h, fun _ _ => rfl⟩
theorem FCt.up2 {w : Wd} {k : Nat} {v : Int64} : FCt w (Jvm.Pilot.CRowDrawerLaw_law_r8222_c6552c.up2 w 62 k v) := ⟨fun _ _ _ => rfl, fun a ha => by
  funext j
  rw [up2_2, if_neg (fun e => ha e.1)]⟩
/-- the reference's tokens, those that begin before k -/
def TkM (t : Nat → Nat) (k : Nat) (w : Wd) : Prop := ∀ j, j < k → stB t j = true → RA t j (w.1 60 (ct (stB t) j)) (w.2 62 (ct (stB t) j)) ∧ w.1 61 (ct (stB t) j) = nI j
section
variable {L : Nat} {t : Nat → Nat} {w0 : Wd} {d : Nat}
theorem c_Mlet {w : Wd} (c : Nat) (hc : c < 128) : EvI m_M_isLetter d [.int (nI c)] w (fun r w' => w' = w ∧ Bo (ltr c) r) := by
  refine ev_M_isLetter _ (vc_M_isLetter_0 _ ⟨fun g => ⟨Or.inl rfl, rfl, Bo.f (fun x => ?_)⟩, fun g => ⟨fun g2 => ⟨Or.inl rfl, rfl, Bo.f (fun x => ?_)⟩, fun g2 => ⟨Or.inr rfl, rfl, Bo.t ⟨nglt g, nglt g2⟩⟩⟩⟩)
  · have := glt g; have := x.1; omega
  · have := glt g2; have := x.2; omega
theorem c_Mdig {w : Wd} (c : Nat) (hc : c < 128) : EvI m_M_isDigit d [.int (nI c)] w (fun r w' => w' = w ∧ Bo (dgt c) r) := by
  refine ev_M_isDigit _ (vc_M_isDigit_0 _ ⟨fun g => ⟨Or.inl rfl, rfl, Bo.f (fun x => ?_)⟩, fun g => ⟨fun g2 => ⟨Or.inl rfl, rfl, Bo.f (fun x => ?_)⟩, fun g2 => ⟨Or.inr rfl, rfl, Bo.t ⟨nglt g, nglt g2⟩⟩⟩⟩)
  · have := glt g; have := x.1; omega
  · have := glt g2; have := x.2; omega
theorem c_Msig {w : Wd} (c : Nat) (hc : c < 128) : EvI m_M_isSignOf d [.int (nI c)] w (fun r w' => w' = w ∧ Bo (c = 58 ∨ c = 59 ∨ c = 61) r) := by
  refine ev_M_isSignOf _ (vc_M_isSignOf_0 _ ⟨fun g => ⟨Or.inr rfl, rfl, Bo.t (Or.inl (nI_inj (by omega) (by omega) g))⟩, fun g => ⟨fun g2 => ⟨Or.inr rfl, rfl, Bo.t (Or.inr (Or.inr (nI_inj (by omega) (by omega) g2)))⟩, fun g2 => ⟨fun g3 => ⟨Or.inl rfl, rfl, Bo.f ?_⟩, fun g3 => ⟨Or.inr rfl, rfl, Bo.t (Or.inr (Or.inl (nI_inj (by omega) (by omega) g3)))⟩⟩⟩⟩)
  rintro (e | e | e)
  · exact g (by rw [e])
  · exact g3 (by rw [e])
  · exact g2 (by rw [e])
theorem c_cut17 (hT : TB L t w0) {Q : Wd → Prop} (hq : ∀ w', FCt w0 w' → TkM t L w' → w'.1 60 (ct (stB t) L) = nI 0 → w'.1 61 (ct (stB t) L) = nI L → w'.1 58 2 = nI 0 → w'.1 58 7 = nI 0 → w'.1 58 8 = nI 0 → Q w') : ∀ m k w, L - k < m → k ≤ L → ¬ gon t k → FCt w0 w → w.1 58 3 = nI L → w.1 58 2 = nI 0 → TkM t k w → Z m_M_cutAll (d + 2) (qV Q) 17 [(0, .ref 58), (1, .int (nI (ct (stB t) k))), (2, .int (nI k))] [] w := by
  obtain ⟨hL, hA, hz⟩ := id hT
  have tl : ∀ k, t k < 128 := fun k => by
    rcases Nat.lt_or_ge k L with g | g
    · exact (hA k g).2
    · rw [hz k g]; decide
  intro m
  induction m with
  | zero => intro k w hm; omega
  | succ m ih =>
    intro k w hm hk hgo f1 e3 e2 hM
    have hc := ct_le (stB t) k
    have a59 : ∀ w', FCt w0 w' → ∀ j, j < L → w'.1 59 j = nI (t j) := fun w' f j hj => by rw [f.1 59 j (by unfold CCt; omega)]; exact (hA j hj).1
    refine vc_M_cutAll_17 _ _ ?_
    rw [e3]
    refine ⟨fun g => ⟨_, rfl, by omega, _, rfl, by omega, ?_⟩, fun g => ?_⟩
    · have g := gle g
      have ek : k = L := by omega
      subst ek
      refine hq _ (f1.tr ((((FCt.up (by unfold CCt; omega)).tr (FCt.up (by unfold CCt; omega))).tr (FCt.up (by unfold CCt; omega))).tr (FCt.up (by unfold CCt; omega)))) ?_ ?_ ?_ e2 rfl rfl
      · intro j hj hst
        have : ct (stB t) j < ct (stB t) k := by
          have := ct_mono (p := stB t) (show j + 1 ≤ k by omega)
          rw [ct_succ_t hst] at this
          omega
        rw [up1_1, if_neg (by omega), up1_1, if_neg (by omega), up1_1, if_neg (by omega), up1_1, if_neg (by omega), up1_1, if_neg (by omega), up1_1, if_neg (by omega), up1_1, if_neg (by omega), up1_1, if_neg (by omega)]
        exact hM j hj hst
      · rw [up1_1, if_neg (by omega), up1_1, if_neg (by omega), up1_1, if_neg (by omega), up1_1, if_pos ⟨rfl, rfl⟩]
      · rw [up1_1, if_neg (by omega), up1_1, if_neg (by omega), up1_1, if_pos ⟨rfl, rfl⟩]
    · have kL : k < L := ngle g
      have tk := tl k
      rw [← e3] at g
      refine ⟨k, rfl, by omega, ?_⟩
      rw [a59 w f1 k kL]
      have blank : blk (t k) → Z m_M_cutAll (d + 2) (qV Q) 17 [(0, .ref 58), (1, .int (nI (ct (stB t) k))), (2, .int (nI k + nI 1))] [] w := fun hb => by
        have e := ct_succ_f (p := stB t) (k := k) (stB_f (fun x => x.1 hb))
        rw [nI_add, ← e]
        refine ih (k + 1) w (by omega) (by omega) ?_ f1 e3 e2 ?_
        · rintro ⟨-, (x | x)⟩
          · have := x.1; rw [show k + 1 - 1 = k by omega] at this; unfold ltr at this; unfold blk at hb; omega
          · have := x.1; rw [show k + 1 - 1 = k by omega] at this; unfold dgt at this; unfold blk at hb; omega
        · intro j hj hst
          have : j ≠ k := fun e => by rw [e, stB_f (fun x => x.1 hb)] at hst; exact absurd hst (by decide)
          exact hM j (by omega) hst
      refine ⟨fun g1 => blank (Or.inl (nI_inj (by omega) (by omega) g1)), fun g1 => ⟨fun g2 => ⟨_, rfl, by omega, ?_⟩, fun g2 => blank (Or.inr (nI_inj (by omega) (by omega) g2))⟩⟩
      have nb : ¬ blk (t k) := fun x => x.elim (fun e => g1 (by rw [e])) (fun e => g2 (by rw [e]))
      have hst := stB_t ⟨nb, hgo⟩
      generalize hw1 : up1 w 61 (ct (stB t) k) (nI k) = w1
      have f2 : FCt w0 w1 := by rw [← hw1]; exact f1.tr (FCt.up (by unfold CCt; omega))
      have e3' : w1.1 58 3 = nI L := by rw [← hw1]; exact e3
      have e2' : w1.1 58 2 = nI 0 := by rw [← hw1]; exact e2
      have e61 : w1.1 61 (ct (stB t) k) = nI k := by rw [← hw1, up1_1, if_pos ⟨rfl, rfl⟩]
      have hM' : TkM t k w1 := by
        intro j hj hst'
        have : ct (stB t) j < ct (stB t) k := by
          have := ct_mono (p := stB t) (show j + 1 ≤ k by omega)
          rw [ct_succ_t hst'] at this
          omega
        rw [← hw1, up1_1, if_neg (by omega), up1_1, if_neg (by omega), up1_2]
        exact hM j hj hst'
      -- a token from k to k + i
      have tok : ∀ i s v, 1 ≤ i → k + i ≤ L → (∀ j, 1 ≤ j → j < i → gon t (k + j)) → ¬ gon t (k + i) → RA t k s v → Z m_M_cutAll (d + 2) (qV Q) 17 [(0, .ref 58), (1, .int (nI (ct (stB t) k) + nI 1)), (2, .int (nI (k + i)))] [] (up2 (up1 w1 60 (ct (stB t) k) s) 62 (ct (stB t) k) v) := by
        intro i s v hi hiL hin hout hra
        have e : ct (stB t) (k + i) = ct (stB t) k + 1 := by
          have := ct_run hst (i := i - 1) (fun j h1 h2 => stB_f (fun x => x.2 (hin j h1 (by omega))))
          rw [show i - 1 + 1 = i by omega] at this
          exact this
        rw [nI_add, ← e]
        refine ih (k + i) _ (by omega) hiL hout (f2.tr ((FCt.up (by unfold CCt; omega)).tr FCt.up2)) e3' e2' ?_
        intro j hj hst'
        rcases Nat.lt_trichotomy j k with x | x | x
        · have : ct (stB t) j < ct (stB t) k := by
            have := ct_mono (p := stB t) (show j + 1 ≤ k by omega)
            rw [ct_succ_t hst'] at this
            omega
          rw [up2_1, up2_2, if_neg (by omega), up1_1, if_neg (by omega), up1_1, if_neg (by omega), up1_2]
          exact hM' j x hst'
        · subst x
          rw [up2_1, up2_2, if_pos ⟨rfl, rfl⟩, up1_1, if_pos ⟨rfl, rfl⟩, up1_1, if_neg (by omega)]
          exact ⟨hra, e61⟩
        · have := hin (j - k) (by omega) (by omega)
          rw [show k + (j - k) = j by omega] at this
          rw [stB_f (fun x => x.2 this)] at hst'
          exact absurd hst' (by decide)
      refine ⟨_, c_Mlet (d := d + 1) _ tk, ?_⟩
      rintro r w2 ⟨rfl, hr⟩
      refine ⟨fun gl => ⟨_, c_Mdig (d := d + 1) _ tk, ?_⟩, fun gl => ?_⟩
      · rintro r2 w3 ⟨rfl, hr2⟩
        refine ⟨fun gd => ⟨_, c_Msig (d := d + 1) _ tk, ?_⟩, fun gd => ?_⟩
        · rintro r3 w4 ⟨rfl, hr3⟩
          have out : ¬ gon t (k + 1) := by
            rintro ⟨-, (x | x)⟩
            · have := x.1; rw [show k + 1 - 1 = k by omega] at this; exact hr.z gl this
            · have := x.1; rw [show k + 1 - 1 = k by omega] at this; exact hr2.z gd this
          rw [nI_long (by omega), show nI k + nI 1 = nI (k + 1) by rw [nI_add]]
          refine ⟨fun gs => ⟨_, rfl, by omega, _, rfl, by omega, ?_⟩, fun gs => ⟨_, rfl, by omega, _, rfl, by omega, ?_⟩⟩
          · have hn := hr3.z gs
            exact tok 1 _ _ (by omega) (by omega) (fun j h1 h2 => by omega) out (Or.inr (Or.inr ⟨hr.z gl, hr2.z gd, Or.inr ⟨⟨fun x => hn (Or.inl x), fun x => hn (Or.inr (Or.inl x)), fun x => hn (Or.inr (Or.inr x))⟩, rfl⟩⟩))
          · exact tok 1 _ _ (by omega) (by omega) (fun j h1 h2 => by omega) out (Or.inr (Or.inr ⟨hr.z gl, hr2.z gd, Or.inl ⟨hr3.n gs, rfl, rfl⟩⟩))
        · -- a number
          have run : ∀ n i, L - (k + i) < n → k + i ≤ L → (∀ i', i' < i → dgt (t (k + i'))) → Z m_M_cutAll (d + 2) (qV Q) 159 [(0, .ref 58), (1, .int (nI (ct (stB t) k))), (2, .int (nI (k + i))), (3, .int (nI (t k))), (4, .int (nI k)), (5, .long (lN (nv t k (min i 4))))] [] w3 := by
            intro n
            induction n with
            | zero => intro i hn; omega
            | succ n ihn =>
              intro i hn hi hA'
              have i0 : 1 ≤ i ∨ i = 0 := by omega
              have fin : ¬ dgt (t (k + i)) → ((nI (k + i) - nI k ≤ nI 4 → ∃ j1 : Nat, nI (ct (stB t) k) = nI j1 ∧ j1 < 1202 ∧ ∃ j2 : Nat, nI (ct (stB t) k) = nI j2 ∧ j2 < 1202 ∧ Z m_M_cutAll (d + 2) (qV Q) 17 [(0, .ref 58), (1, .int (nI (ct (stB t) k) + nI 1)), (2, .int (nI (k + i)))] [] (up2 (up1 w3 60 j1 (nI 2)) 62 j2 (lN (nv t k (min i 4))))) ∧ (¬ nI (k + i) - nI k ≤ nI 4 → ∃ j3 : Nat, nI (ct (stB t) k) = nI j3 ∧ j3 < 1202 ∧ ∃ j4 : Nat, nI (ct (stB t) k) = nI j4 ∧ j4 < 1202 ∧ Z m_M_cutAll (d + 2) (qV Q) 17 [(0, .ref 58), (1, .int (nI (ct (stB t) k) + nI 1)), (2, .int (nI (k + i)))] [] (up2 (up1 w3 60 j3 (nI 4)) 62 j4 (lN (nv t k (min i 4)))))) := by
                intro hd
                have i1 : 1 ≤ i := by
                  rcases i0 with x | x
                  · exact x
                  · rw [x] at hd; exact absurd (hr2.n gd) hd
                have hin : ∀ j, 1 ≤ j → j < i → gon t (k + j) := fun j h1 h2 => ⟨by omega, Or.inr ⟨by rw [show k + j - 1 = k + (j - 1) by omega]; exact hA' (j - 1) (by omega), hA' j h2⟩⟩
                have hout : ¬ gon t (k + i) := by
                  rintro ⟨-, (x | x)⟩
                  · have h1 := hA' (i - 1) (by omega)
                    have h2 := x.1
                    rw [show k + i - 1 = k + (i - 1) by omega] at h2
                    unfold dgt at h1
                    unfold ltr at h2
                    omega
                  · exact hd x.2
                rw [sub_nI (by omega), show k + i - k = i by omega]
                refine ⟨fun g4 => ⟨_, rfl, by omega, _, rfl, by omega, ?_⟩, fun g4 => ⟨_, rfl, by omega, _, rfl, by omega, ?_⟩⟩
                · have g4 := gle g4
                  rw [show min i 4 = i by omega]
                  exact tok i _ _ i1 hi hin hout (Or.inr (Or.inl ⟨i, i1, hA', hd, Or.inl ⟨g4, rfl, rfl⟩⟩))
                · have g4 := ngle g4
                  exact tok i _ _ i1 hi hin hout (Or.inr (Or.inl ⟨i, i1, hA', hd, Or.inr ⟨g4, rfl⟩⟩))
              refine vc_M_cutAll_159 _ _ _ _ _ ?_
              rw [e3']
              refine ⟨fun gL => fin ?_, fun gL => ⟨k + i, rfl, ?_, ?_⟩⟩
              · have gL := gle gL
                rw [hz (k + i) gL]
                unfold dgt
                omega
              · have gL := ngle gL
                omega
              · have gL := ngle gL
                rw [a59 w3 f2 (k + i) gL]
                refine ⟨_, c_Mdig (d := d + 1) _ (tl _), ?_⟩
                rintro r4 w4 ⟨rfl, hr4⟩
                refine ⟨fun gd2 => fin (hr4.z gd2), fun gd2 => ?_⟩
                have hd := hr4.n gd2
                have nx := ihn (i + 1) (by omega) (by omega) (fun i' hi' => by
                  by_cases e : i' = i
                  · rw [e]; exact hd
                  · exact hA' i' (by omega))
                have en : nI (k + i) + nI 1 = nI (k + (i + 1)) := by rw [nI_add, Nat.add_assoc]
                rw [sub_nI (by omega), show k + i - k = i by omega, en]
                refine ⟨fun g4 => ?_, fun g4 => ⟨k + i, rfl, by omega, ?_⟩⟩
                · have g4 := gle g4
                  rw [show min (i + 1) 4 = min i 4 by omega] at nx
                  exact nx
                · have g4 := ngle g4
                  rw [a59 w4 f2 (k + i) gL, nI_long (by have := tl (k + i); omega), show (10 : Int64) = lN 10 from rfl, show (48 : Int64) = lN 48 from rfl, lN_mul2, lN_add, lN_sub (by have := hd.1; omega), show min i 4 = i by omega]
                  rw [show min (i + 1) 4 = i + 1 by omega, nv, ← Nat.add_sub_assoc hd.1] at nx
                  exact nx
          exact run (L + 1) 0 (by omega) (by omega) (fun i' hi' => absurd hi' (Nat.not_lt_zero _))
      · -- a word
        have run : ∀ n i, L - (k + i) < n → k + i ≤ L → (∀ i', i' < i → ltr (t (k + i'))) → Z m_M_cutAll (d + 2) (qV Q) 70 [(0, .ref 58), (1, .int (nI (ct (stB t) k))), (2, .int (nI (k + i))), (3, .int (nI (t k))), (4, .int (nI k)), (5, .long (lN (hv t k (min i 8))))] [] w2 := by
          intro n
          induction n with
          | zero => intro i hn; omega
          | succ n ihn =>
            intro i hn hi hA'
            have i0 : 1 ≤ i ∨ i = 0 := by omega
            have fin : ¬ ltr (t (k + i)) → ((nI (k + i) - nI k ≤ nI 8 → ∃ j1 : Nat, nI (ct (stB t) k) = nI j1 ∧ j1 < 1202 ∧ ∃ j2 : Nat, nI (ct (stB t) k) = nI j2 ∧ j2 < 1202 ∧ Z m_M_cutAll (d + 2) (qV Q) 17 [(0, .ref 58), (1, .int (nI (ct (stB t) k) + nI 1)), (2, .int (nI (k + i)))] [] (up2 (up1 w2 60 j1 (nI 1)) 62 j2 (lN (hv t k (min i 8))))) ∧ (¬ nI (k + i) - nI k ≤ nI 8 → ∃ j3 : Nat, nI (ct (stB t) k) = nI j3 ∧ j3 < 1202 ∧ ∃ j4 : Nat, nI (ct (stB t) k) = nI j4 ∧ j4 < 1202 ∧ Z m_M_cutAll (d + 2) (qV Q) 17 [(0, .ref 58), (1, .int (nI (ct (stB t) k) + nI 1)), (2, .int (nI (k + i)))] [] (up2 (up1 w2 60 j3 (nI 4)) 62 j4 (lN (hv t k (min i 8)))))) := by
              intro hd
              have i1 : 1 ≤ i := by
                rcases i0 with x | x
                · exact x
                · rw [x] at hd; exact absurd (hr.n gl) hd
              have hin : ∀ j, 1 ≤ j → j < i → gon t (k + j) := fun j h1 h2 => ⟨by omega, Or.inl ⟨by rw [show k + j - 1 = k + (j - 1) by omega]; exact hA' (j - 1) (by omega), hA' j h2⟩⟩
              have hout : ¬ gon t (k + i) := by
                rintro ⟨-, (x | x)⟩
                · exact hd x.2
                · have h1 := hA' (i - 1) (by omega)
                  have h2 := x.1
                  rw [show k + i - 1 = k + (i - 1) by omega] at h2
                  unfold ltr at h1
                  unfold dgt at h2
                  omega
              rw [sub_nI (by omega), show k + i - k = i by omega]
              refine ⟨fun g4 => ⟨_, rfl, by omega, _, rfl, by omega, ?_⟩, fun g4 => ⟨_, rfl, by omega, _, rfl, by omega, ?_⟩⟩
              · have g4 := gle g4
                rw [show min i 8 = i by omega]
                exact tok i _ _ i1 hi hin hout (Or.inl ⟨i, i1, hA', hd, Or.inl ⟨g4, rfl, rfl⟩⟩)
              · have g4 := ngle g4
                exact tok i _ _ i1 hi hin hout (Or.inl ⟨i, i1, hA', hd, Or.inr ⟨g4, rfl⟩⟩)
            refine vc_M_cutAll_70 _ _ _ _ _ ?_
            rw [e3']
            refine ⟨fun gL => fin ?_, fun gL => ⟨k + i, rfl, ?_, ?_⟩⟩
            · have gL := gle gL
              rw [hz (k + i) gL]
              unfold ltr
              omega
            · have gL := ngle gL
              omega
            · have gL := ngle gL
              rw [a59 w2 f2 (k + i) gL]
              refine ⟨_, c_Mlet (d := d + 1) _ (tl _), ?_⟩
              rintro r4 w4 ⟨rfl, hr4⟩
              refine ⟨fun gd2 => fin (hr4.z gd2), fun gd2 => ?_⟩
              have hd := hr4.n gd2
              have nx := ihn (i + 1) (by omega) (by omega) (fun i' hi' => by
                by_cases e : i' = i
                · rw [e]; exact hd
                · exact hA' i' (by omega))
              have en : nI (k + i) + nI 1 = nI (k + (i + 1)) := by rw [nI_add, Nat.add_assoc]
              rw [sub_nI (by omega), show k + i - k = i by omega, en]
              refine ⟨fun g4 => ?_, fun g4 => ⟨k + i, rfl, by omega, ?_⟩⟩
              · have g4 := gle g4
                rw [show min (i + 1) 8 = min i 8 by omega] at nx
                exact nx
              · have g4 := ngle g4
                rw [a59 w4 f2 (k + i) gL]
                refine ⟨_, ev_M_rank _ (vc_M_rank_0 _ (Q := fun r w' => w' = w4 ∧ r = nI (t (k + i) - 96)) ⟨_, c_Mlet (d := d) _ (tl _), ?_⟩), ?_⟩
                · rintro r5 w5 ⟨rfl, hr5⟩
                  exact ⟨fun g => absurd hd (hr5.z g), fun _ => ⟨rfl, sub_nI (by have := hd.1; omega)⟩⟩
                · rintro r5 w5 ⟨rfl, rfl⟩
                  rw [nI_long (by have := tl (k + i); omega), show (37 : Int64) = lN 37 from rfl, lN_mul2, lN_add, show min i 8 = i by omega]
                  rw [show min (i + 1) 8 = i + 1 by omega, hv] at nx
                  exact nx
        exact run (L + 1) 0 (by omega) (by omega) (fun i' hi' => absurd hi' (Nat.not_lt_zero _))
theorem c_cutAll {w : Wd} (hT : TB L t w) (h2 : w.1 58 2 = nI L) : EvV m_M_cutAll (d + 2) [.ref 58] w (fun w' => FCt w w' ∧ TkM t L w' ∧ w'.1 60 (ct (stB t) L) = nI 0 ∧ w'.1 61 (ct (stB t) L) = nI L ∧ w'.1 58 2 = nI 0 ∧ w'.1 58 7 = nI 0 ∧ w'.1 58 8 = nI 0) := by
  refine ev_M_cutAll (vc_M_cutAll_0 ?_)
  refine c_cut17 hT (fun w' a b c e f g h => ⟨a, b, c, e, f, g, h⟩) (L + 1) 0 _ (by omega) (Nat.zero_le _) (fun x => absurd x.1 (by decide)) ((FCt.up (by unfold CCt; omega)).tr (FCt.up (by unfold CCt; omega))) ?_ rfl (fun j hj => absurd hj (Nat.not_lt_zero _))
  rw [up1_1, if_neg (by omega), up1_1, if_pos ⟨rfl, rfl⟩]
  exact h2
end
