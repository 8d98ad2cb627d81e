/-! learn, of the reference -/
def CLm (a k : Nat) : Prop := a = 93 ∨ a = 94 ∨ (a = 58 ∧ (k = 0 ∨ k = 47 ∨ k = 48 ∨ k = 49))
def FLm (w0 w : Wd) : Prop := Sm CLm w0 w ∧ w.2 = w0.2
theorem FLm.tr {w w1 w2 : Wd} (h : FLm w w1) (h2 : FLm w1 w2) : FLm w w2 := ⟨h.1.tr h2.1, h2.2.trans h.2⟩
theorem FLm.up {w : Wd} {a k : Nat} {v : Int32} (h : CLm a k) : FLm w (up1 w a k v) := ⟨Sm.up h, rfl⟩
theorem FLm.s {w w1 : Wd} (h : FLm w w1) : FLs w w1 := ⟨h.1.mono (fun a k x => by unfold CLm at x; unfold CLs; omega), h.2⟩
/-- the reference's lesson, for the places below m -/
def LB (w0 : Wd) (r : Int32) (f m : Nat) (w : Wd) : Prop := FLm w0 w ∧ (w.1 58 47 = nI (dn w0 f) ∧ w.1 58 48 = r ∧ w.1 58 49 = df w0 f) ∧ ∀ i, i < m → KN2 w0 r f i (mk w0) (w.1 93 i) (w.1 94 i)
section
variable {w0 : Wd} {r : Int32} {f : Nat}
theorem c_M_learn120 (hC : CtI w0) (hM : MrkI w0) (hf : Fs w0 r f) {Q : Int32 → Wd → Prop} (hq : ∀ w', LB w0 r f (dn w0 f) w' → Q (nI (dn w0 f)) w') {w1 : Wd} (h0 : LB w0 r f 0 w1) : Z m_M_learn 30 (qI Q) 120 [(0, .ref 58), (1, .int (r)), (2, .int (nI f)), (3, .int (nI 0))] [] w1 := by
  obtain ⟨⟨f1, f2, f3, f4, f5, f6⟩, -⟩ := hM.at hC.2.1 hf.1
  have d16 : dn w0 f ≤ 16 := by unfold dn; split <;> omega
  have mk60 := hM.1.1
  refine lpU (I := fun m w' => LB w0 r f m w') (G := fun m w' => Z m_M_learn 30 (qI Q) 120 [(0, .ref 58), (1, .int (r)), (2, .int (nI f)), (3, .int (nI m))] [] w') (M := dn w0 f) ?_ ?_ 0 (Nat.zero_le _) _ h0
  · rintro w2 hB
    refine vc_M_learn_120 _ _ _ ?_
    rw [hB.2.1.1]
    exact ⟨fun _ => hq _ hB, fun g => absurd (mle (Nat.le_refl _)) g⟩
  · rintro m w2 hm hB nx
    obtain ⟨l0, l2, l3⟩ := id hB
    have l1 := l0.s
    have hC1 := l1.ct hC
    have hM1 := l1.mrk hM
    obtain ⟨q1, q2, q3⟩ := l1.d
    obtain ⟨e1, e2, e3, e4, e5, e6, e7, e76, e9, e81⟩ := l1.m
    obtain ⟨u1, u2⟩ := wa_ok hC.2.1 hM hf.1 (i := m) hm
    refine vc_M_learn_120 _ _ _ ?_
    rw [l2.1]
    refine ⟨fun g => absurd (gle g) (by omega), fun _ => ⟨_, c_M_wordAt (d := 28) hC1 hM1 (n := f) (i := m) (by rw [e1]; exact hf.1) (by rw [q2]; exact hm), ?_⟩⟩
    rintro y w3 ⟨rfl, rfl⟩
    rw [q3]
    refine lpU (I := fun n w' => w' = w3) (G := fun n w' => ∀ x5 x6, Bo (PW w0 r f m n) x5 → Bo (PS w0 r f m n) x6 → Z m_M_learn 30 (qI Q) 145 [(0, .ref 58), (1, .int (r)), (2, .int (nI f)), (3, .int (nI m)), (4, .int (nI (wa w0 f m))), (5, .int (x5)), (6, .int (x6)), (7, .int (nI n))] [] w') (M := mk w0) ?_ ?_ 0 (Nat.zero_le _) _ rfl (nI 1) (nI 1) (Bo.t (fun n' hn => absurd hn (Nat.not_lt_zero _))) (Bo.t (fun n' hn => absurd hn (Nat.not_lt_zero _)))
    · rintro w4 rfl x5 x6 h5 h6
      refine vc_M_learn_145 _ _ _ _ _ _ _ ?_
      rw [l1.1 58 39 (by unfold CLs; omega), hM.1.2.1]
      refine ⟨fun _ => ?_, fun g => absurd (mle (Nat.le_refl _)) g⟩
      have put : ∀ x y, KN2 w0 r f m (mk w0) x y → Z m_M_learn 30 (qI Q) 120 [(0, .ref 58), (1, .int (r)), (2, .int (nI f)), (3, .int (nI m + nI 1))] [] (up1 (up1 w4 93 m x) 94 m y) := fun x y hk => by
        rw [nI_add]
        refine nx _ ⟨l0.tr ((FLm.up (by unfold CLm; omega)).tr (FLm.up (by unfold CLm; omega))), ?_, fun i hi => ?_⟩
        · have e : ∀ k, (up1 (up1 w4 93 m x) 94 m y).1 58 k = w4.1 58 k := fun k => by
            rw [up1_1, if_neg (by omega), up1_1, if_neg (by omega)]
          rw [e, e, e]
          exact l2
        · by_cases e : i = m
          · subst e
            rw [up1_1, if_neg (by omega), up1_1, if_pos ⟨rfl, rfl⟩, up1_1, if_pos ⟨rfl, rfl⟩]
            exact hk
          · rw [up1_1, if_neg (by omega), up1_1, if_neg (by omega), up1_1, if_neg (by omega), up1_1, if_neg (by omega)]
            exact l3 i (by omega)
      refine ⟨fun g5 => ⟨fun g6 => ⟨m, rfl, by omega, fun _ => ⟨fun _ => ⟨m, rfl, by omega, put _ _ ?_⟩, fun g => absurd g6 g⟩, fun g => absurd g5 g⟩, fun g6 => ⟨m, rfl, by omega, fun _ => ⟨fun g => absurd g g6, fun _ => ⟨wa w0 f m, rfl, by omega, m, rfl, by omega, put _ _ ?_⟩⟩, fun g => absurd g5 g⟩⟩, fun g5 => ⟨m, rfl, by omega, fun g => absurd g g5, fun _ => ⟨m, rfl, by omega, put _ _ ?_⟩⟩⟩
      · exact Or.inr (Or.inr ⟨h5.z g5, h6.z g6, rfl, rfl⟩)
      · exact Or.inr (Or.inl ⟨h5.z g5, h6.n g6, rfl, by rw [e76]⟩)
      · exact Or.inl ⟨h5.n g5, rfl, rfl⟩
    · rintro n w4 hn rfl nn x5 x6 h5 h6
      obtain ⟨⟨a1, a2, a3, a4, a5, a6⟩, ⟨-, -, -, -, b90⟩, -⟩ := hM.at hC.2.1 hn
      refine vc_M_learn_145 _ _ _ _ _ _ _ ?_
      rw [l1.1 58 39 (by unfold CLs; omega), hM.1.2.1]
      refine ⟨fun g => absurd (gle g) (by omega), fun _ => ⟨n, rfl, by omega, fun g => ?_, fun g => ?_⟩⟩
      all_goals
        have skip : ¬ Lk w0 r f n → Z m_M_learn 30 (qI Q) 145 [(0, .ref 58), (1, .int (r)), (2, .int (nI f)), (3, .int (nI m)), (4, .int (nI (wa w0 f m))), (5, .int (x5)), (6, .int (x6)), (7, .int (nI n + nI 1))] [] w4 := fun no => by
          have ew : PW w0 r f m (n + 1) ↔ PW w0 r f m n := ⟨fun h n' a b => h n' (by omega) b, fun h n' a b => h n' (by
            have : n' ≠ n := fun e => no (by rw [← e]; exact b)
            omega) b⟩
          have es : PS w0 r f m (n + 1) ↔ PS w0 r f m n := ⟨fun h n' a b => h n' (by omega) b, fun h n' a b => h n' (by
            have : n' ≠ n := fun e => no (by rw [← e]; exact b)
            omega) b⟩
          rw [nI_add]
          exact nn _ rfl x5 x6 (h5.imp ew.symm) (h6.imp es.symm)
      · refine skip (fun x => ?_)
        have := x.1.2.1
        rw [← e6, g] at this
        exact absurd this (by decide)
      · rw [l2.2.2]
        refine ⟨_, c_M_isLike (d := 29) hM1 hC1.2.1 (n := n) (by rw [e1]; exact hn) r (df w0 f), ?_⟩
        rintro y w5 ⟨rfl, hy⟩
        have g : w0.1 90 n = nI 1 := by
          rw [e6] at g
          exact b90.elim (fun x => absurd x g) id
        unfold thr at hy
        rw [e7, e81, e2, q1] at hy
        refine ⟨fun g2 => skip (fun x => hy.z g2 ⟨x.1.1, x.1.2.2, x.2⟩), fun g2 => ?_⟩
        obtain ⟨y1, y2, y3⟩ := hy.n g2
        have hlk : Lk w0 r f n := ⟨⟨y1, g, y2⟩, y3⟩
        have edn : dn w0 n = dn w0 f := dn_of (by omega) (by omega) (by omega) (by omega) y3
        obtain ⟨v1, v2⟩ := wa_ok hC.2.1 hM hn (i := m) (by omega)
        have word := c_M_wordAt (d := 28) hC1 hM1 (n := n) (i := m) (by rw [e1]; exact hn) (by rw [q2, edn]; exact hm)
        rw [q3] at word
        have go : ∀ x5' x6', Bo (PW w0 r f m (n + 1)) x5' → Bo (PS w0 r f m (n + 1)) x6' → Z m_M_learn 30 (qI Q) 145 [(0, .ref 58), (1, .int (r)), (2, .int (nI f)), (3, .int (nI m)), (4, .int (nI (wa w0 f m))), (5, .int (x5')), (6, .int (x6')), (7, .int (nI n + nI 1))] [] w5 := fun x5' x6' k5 k6 => by
          rw [nI_add]
          exact nn _ rfl x5' x6' k5 k6
        have sn : x6 = 0 → Bo (PS w0 r f m (n + 1)) (nI 0) := fun g => Bo.f (fun x => h6.z g ((PS.st hlk).mp x).1)
        have sx : ¬ x6 = 0 → ∀ (Z0 Z1 : Prop), (Bo (PS w0 r f m (n + 1)) (nI 0) → Z0) → (Bo (PS w0 r f m (n + 1)) (nI 1) → Z1) → (¬ (w0.1 76 (wa w0 n m)) = (w0.1 76 (wa w0 f m)) → Z0) ∧ ((w0.1 76 (wa w0 n m)) = (w0.1 76 (wa w0 f m)) → Z1) := fun g Z0 Z1 z0 z1 => ⟨fun k => z0 (Bo.f (fun x => k ((PS.st hlk).mp x).2)), fun k => z1 (Bo.t ((PS.st hlk).mpr ⟨h6.n g, k⟩))⟩
        refine ⟨fun g5 => ?_, fun g5 => ⟨_, word, ?_⟩⟩
        · have k5 : Bo (PW w0 r f m (n + 1)) (nI 0) := Bo.f (fun x => h5.z g5 ((PW.st hlk).mp x).1)
          refine ⟨fun g6 => go _ _ k5 (sn g6), fun g6 => ⟨_, word, ?_⟩⟩
          rintro y w6 ⟨rfl, rfl⟩
          refine ⟨wa w0 n m, rfl, by omega, wa w0 f m, rfl, by omega, ?_⟩
          rw [e76]
          exact sx g6 _ _ (fun k6 => go _ _ k5 k6) (fun k6 => go _ _ k5 k6)
        · rintro y w6 ⟨rfl, rfl⟩
          refine ⟨fun g7 => ?_, fun g7 => ?_⟩
          · have k5 : Bo (PW w0 r f m (n + 1)) (nI 0) := Bo.f (fun x => g7 (by rw [((PW.st hlk).mp x).2]))
            refine ⟨fun g6 => go _ _ k5 (sn g6), fun g6 => ⟨_, word, ?_⟩⟩
            rintro y w7 ⟨rfl, rfl⟩
            refine ⟨wa w0 n m, rfl, by omega, wa w0 f m, rfl, by omega, ?_⟩
            rw [e76]
            exact sx g6 _ _ (fun k6 => go _ _ k5 k6) (fun k6 => go _ _ k5 k6)
          · have k5 : Bo (PW w0 r f m (n + 1)) (nI 1) := Bo.t ((PW.st hlk).mpr ⟨h5.n g5, nI_inj (by omega) (by omega) g7⟩)
            refine ⟨fun g6 => go _ _ k5 (sn g6), fun g6 => ⟨_, word, ?_⟩⟩
            rintro y w7 ⟨rfl, rfl⟩
            refine ⟨wa w0 n m, rfl, by omega, wa w0 f m, rfl, by omega, ?_⟩
            rw [e76]
            exact sx g6 _ _ (fun k6 => go _ _ k5 k6) (fun k6 => go _ _ k5 k6)
end
