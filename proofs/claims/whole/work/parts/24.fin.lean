/-! THE FINDER's invariant -/
theorem c_came {d : Nat} {w : Wd} (h : SenI w) : EvI m_Sentences_came d [.ref 3] w (fun r w' => w' = w ∧ r = nI (cm w)) := ev_Sentences_came (vc_Sentences_came_0 ⟨rfl, h.2.2.1.2.2⟩)
/-- the rows of sentence s are right -/
def Rgt (w : Wd) (s : Nat) : Prop := (∀ k, k < 12 → ∀ l, l < 16 → ∀ t, (rb w s k l).testBit t = true ↔ Fnd w s k l t) ∧ Bo (thr w s ∧ Brr w s) (w.1 39 s)
def FinI (w : Wd) : Prop := (∀ s, s < 40 → ∀ k, k < 12 → KI w s k) ∧ (∀ s, s < 40 → w.1 40 s = 0 ∨ w.1 40 s = 1) ∧ ∀ s, s < cm w → w.1 40 s = 0 → Rgt w s
theorem KI.cg {w w' : Wd} {s k : Nat} (h : KI w s k) (e : ∀ l, l < 16 → w'.1 37 ((s * 12 + k) * 16 + l) = w.1 37 ((s * 12 + k) * 16 + l)) (e2 : w'.1 38 (s * 12 + k) = w.1 38 (s * 12 + k)) : KI w' s k := by
  refine ⟨fun l hl => ?_, ?_⟩
  · rw [show rb w' s k l = rb w s k l from N_cg (e l hl), e l hl]
    exact h.1 l hl
  · rw [e2, h.2]
    congr 1
    exact sumN_cong (fun l hl => by rw [show rb w' s k l = rb w s k l from N_cg (e l hl)])
theorem Brr.mv {w w' : Wd} (m : Mf w w') (e1 : w'.1 71 = w.1 71) (e2 : w'.1 72 = w.1 72) (s : Nat) : Brr w' s = Brr w s := by
  unfold Brr brd
  rw [m.lenE, show nbr w' = nbr w by show N w' 71 (N w' 58 10) = N w 71 (N w 58 10); rw [show N w' 58 10 = N w 58 10 from N_cg m.1]; exact N_cg (a := 71) (k := N w 58 10) (by rw [e1]), m.hlE, e2]
  congr 1
  funext p
  rw [m.wrdE]
theorem Rgt.cg {w w' : Wd} {s : Nat} (hs : s < 40) (h : Rgt w s) (m : Mf w w') (e71 : w'.1 71 = w.1 71) (e72 : w'.1 72 = w.1 72) (e : ∀ k, k < 12 → ∀ l, l < 16 → w'.1 37 ((s * 12 + k) * 16 + l) = w.1 37 ((s * 12 + k) * 16 + l)) (e39 : w'.1 39 s = w.1 39 s) : Rgt w' s := by
  refine ⟨fun k hk l hl t => ?_, ?_⟩
  · rw [show rb w' s k l = rb w s k l from N_cg (e k hk l hl), m.FndE]
    exact h.1 k hk l hl t
  · rw [e39, Brr.mv m e71 e72, show thr w' s = thr w s by unfold thr; rw [m.2.2 81 (by omega)]]
    exact h.2
theorem E0.ki {w : Wd} {s k : Nat} (h : E0 w s k) : KI w s k ∧ ∀ l, l < 16 → ∀ t, ¬ (rb w s k l).testBit t = true := by
  have e : ∀ l, l < 16 → rb w s k l = 0 := fun l hl => N_of (h.1 l hl)
  refine ⟨⟨fun l hl => by rw [e l hl]; exact ⟨by decide, h.1 l hl⟩, ?_⟩, fun l hl t => by rw [e l hl, Nat.zero_testBit]; decide⟩
  rw [h.2, show cnt w s k = sumN (fun _ => 0) 16 from sumN_cong (fun l hl => by rw [e l hl]; rfl)]
  rfl
theorem z_drawSentence {d : Nat} {w0 : Wd} {Q : Wd → Prop} {s : Nat} (hC : CtI w0) (hs : s < cm w0) (ht : thr w0 s) (hq : ∀ w', FS s w0 w' → w'.1 39 = w0.1 39 → (∀ k, k < 12 → KI w' s k) → (∀ k, k < 12 → ∀ l, l < 16 → ∀ t, (rb w' s k l).testBit t = true ↔ Fnd w0 s k l t) → Q w') : ∀ (n k : Nat) (w : Wd), k + n = nr w0 → FS s w0 w → w.1 39 = w0.1 39 → (∀ k', k' < k → KI w s k' ∧ ∀ l, l < 16 → ∀ t, (rb w s k' l).testBit t = true ↔ Fnd w0 s k' l t) → (∀ k', k ≤ k' → k' < 12 → E0 w s k') → Z m_Finder_drawSentence (d + 5) (qV Q) 30 [(0, .ref 36), (1, .int (nI s)), (2, .int (nI k))] [] w := by
  obtain ⟨l1, l2, l3⟩ := hC.l hs
  have hnr := hC.2.2.2.1.1
  intro n
  induction n with
  | zero =>
    intro k w hk f1 f39 f2 f3
    have m := f1.fr.mf
    refine vc_Finder_drawSentence_30 _ _ ⟨_, c_Book_rules (d := d + 4) (hC.fr f1.fr).2.2, ?_⟩
    rintro x w1 ⟨rfl, rfl⟩
    refine ⟨fun _ => hq w1 f1 f39 (fun k' hk' => ?_) (fun k' hk' l hl t => ?_), fun g => absurd ?_ g⟩
    · by_cases e : k' < k
      · exact (f2 k' e).1
      · exact (f3 k' (by omega) hk').ki.1
    · by_cases e : k' < k
      · exact (f2 k' e).2 l hl t
      · exact ⟨fun h => absurd h ((f3 k' (by omega) hk').ki.2 l hl t), fun h => absurd h.2.2.1 (by omega)⟩
    · rw [m.nrE, nI_leI (by omega) (by omega)]; omega
  | succ n ih =>
    intro k w hk f1 f39 f2 f3
    have m := f1.fr.mf
    have hCw := hC.fr f1.fr
    refine vc_Finder_drawSentence_30 _ _ ⟨_, c_Book_rules (d := d + 4) hCw.2.2, ?_⟩
    rintro x w1 ⟨rfl, rfl⟩
    refine ⟨fun g => ?_, fun _ => ⟨fun g => ?_, fun _ => ⟨_, c_drawRule (d := d) hCw (by rw [m.cmE]; exact hs) (by rw [m.nrE]; omega) (fun l hl => ⟨0, by decide, (f3 k (Nat.le_refl k) (by omega)).1 l hl, fun t => ⟨fun h => absurd h (by rw [Nat.zero_testBit]; decide), fun h => h.elim⟩⟩), ?_⟩⟩⟩
    · rw [m.nrE, nI_leI (by omega) (by omega)] at g; omega
    · rw [nI_leI (by omega) (by omega)] at g; omega
    · rintro w2 ⟨g1, g2⟩
      obtain ⟨o1, o2⟩ := RoI.of g2
      refine ⟨_, c_countPairs (d := d + 3) l3 (by omega) o1, ?_⟩
      rintro x3 w3 ⟨rfl, rfl⟩
      refine ⟨s * 12 + k, by rw [pk_mul, nI_add], by omega, ?_⟩
      rw [nI_add]
      have fs2 : FS s w1 (up1 w3 38 (s * 12 + k) (nI (cnt w3 s k))) := by
        refine ⟨fun a j h1 h2 h3 h4 => ?_, g1.2⟩
        rw [up1_1, if_neg (by omega)]
        exact g1.1 a j h1 (by omega)
      have other : ∀ k', k' < 12 → k' ≠ k → ∀ l, l < 16 → (up1 w3 38 (s * 12 + k) (nI (cnt w3 s k))).1 37 ((s * 12 + k') * 16 + l) = w1.1 37 ((s * 12 + k') * 16 + l) := by
        intro k' hk' hne l hl
        rw [up1_1, if_neg (by omega)]
        exact g1.1 37 _ (by omega) (by omega)
      have o38 : ∀ k', k' < 12 → k' ≠ k → (up1 w3 38 (s * 12 + k) (nI (cnt w3 s k))).1 38 (s * 12 + k') = w1.1 38 (s * 12 + k') := by
        intro k' hk' hne
        rw [up1_1, if_neg (by omega)]
        exact g1.1 38 _ (by omega) (by omega)
      refine ih (k + 1) _ (by omega) (f1.tr fs2) ?_ (fun k' hk' => ?_) (fun k' h1 h2 => ?_)
      · rw [← f39]
        funext j
        rw [up1_1, if_neg (by omega)]
        exact g1.1 39 j (by omega) (by omega)
      · by_cases e : k' = k
        · subst e
          have same : ∀ l, rb (up1 w3 38 (s * 12 + k') (nI (cnt w3 s k'))) s k' l = rb w3 s k' l := fun l => N_cg (by rw [up1_1, if_neg (by omega)])
          refine ⟨⟨fun l hl => ?_, ?_⟩, fun l hl t => ?_⟩
          · rw [same, up1_1, if_neg (by omega)]
            exact o1 l hl
          · rw [up1_1, if_pos ⟨rfl, rfl⟩]
            congr 1
          · rw [same, o2 l hl t, m.niE]
            unfold Fnd
            simp only [m.RcE]
            constructor
            · rintro ⟨h1, h2⟩
              exact ⟨hs, ht, by omega, hl, h1, h2⟩
            · rintro ⟨-, -, -, -, h1, h2⟩
              exact ⟨h1, h2⟩
        · obtain ⟨q1, q2⟩ := f2 k' (by omega)
          refine ⟨q1.cg (other k' (by omega) e) (o38 k' (by omega) e), fun l hl t => ?_⟩
          rw [show rb (up1 w3 38 (s * 12 + k) (nI (cnt w3 s k))) s k' l = rb w1 s k' l from N_cg (other k' (by omega) e l hl)]
          exact q2 l hl t
      · obtain ⟨q1, q2⟩ := f3 k' (by omega) h2
        exact ⟨fun l hl => by rw [other k' h2 (by omega) l hl]; exact q1 l hl, by rw [o38 k' h2 (by omega)]; exact q2⟩
theorem c_drawSentence {d : Nat} {w : Wd} {s : Nat} (hC : CtI w) (hs : s < cm w) (h0 : ∀ k, k < 12 → KI w s k) : EvV m_Finder_drawSentence (d + 5) [.ref 36, .int (nI s)] w (fun w' => FS s w w' ∧ (∀ k, k < 12 → KI w' s k) ∧ Rgt w' s) := by
  obtain ⟨l1, l2, l3⟩ := hC.l hs
  refine ev_Finder_drawSentence _ (vc_Finder_drawSentence_0 _ ⟨_, c_clearSentence l3 h0, ?_⟩)
  rintro w1 ⟨f1, b1, e1⟩
  have hC1 := hC.fr f1.fr
  have m := f1.fr.mf
  have hs1 : s < cm w1 := by rw [m.cmE]; exact hs
  refine ⟨_, c_Sentences_isThere hC1.2.1 _, ?_⟩
  rintro x2 w2 ⟨rfl, hr⟩
  refine ⟨fun g => ⟨_, c_hasBarredWord (d := d + 3) hC1 hs1, ?_⟩, fun g => ⟨f1, fun k hk => (e1 k hk).ki.1, fun k hk l hl t => ?_, ?_⟩⟩
  · rintro x3 w3 ⟨rfl, hb⟩
    obtain ⟨s', a1, a2, a3⟩ := hr.n g
    have e := nI_inj (by omega) (by have := hC1.2.1.2.2.1.1; omega) a2
    subst e
    have f2 : FS s w3 (up1 w3 39 s x3) := FS.up (by omega)
    have m2 := f2.fr.mf
    refine ⟨s, rfl, l3, hb.r, ?_⟩
    have hE : ∀ k', 0 ≤ k' → k' < 12 → E0 (up1 w3 39 s x3) s k' := fun k' _ hk' => by
      obtain ⟨q1, q2⟩ := e1 k' hk'
      exact ⟨q1, q2⟩
    have hR : ∀ w', FS s (up1 w3 39 s x3) w' → w'.1 39 = (up1 w3 39 s x3).1 39 → (∀ k, k < 12 → ∀ l, l < 16 → ∀ t, (rb w' s k l).testBit t = true ↔ Fnd (up1 w3 39 s x3) s k l t) → Rgt w' s := by
      intro w' g1 g2 g4
      have m3 := g1.fr.mf
      refine ⟨fun k hk l hl t => by rw [g4 k hk l hl t, m3.FndE], ?_⟩
      rw [g2, up1_1, if_pos ⟨rfl, rfl⟩]
      refine hb.imp ?_
      rw [Brr.mv m3 (g1.fr.1 71 (by omega)) (g1.fr.1 72 (by omega)), show thr w' s = thr w3 s by unfold thr; rw [m3.2.2 81 (by omega)]; rfl]
      exact ⟨fun h => ⟨a3, h⟩, fun h => h.2⟩
    exact z_drawSentence (hC1.fr f2.fr) (by rw [m2.cmE]; exact hs1) a3 (fun w' g1 g2 g3 g4 => ⟨(f1.tr f2).tr g1, g3, hR w' g1 g2 g4⟩) (nr (up1 w3 39 s x3)) 0 _ (Nat.zero_add _) FS.rf rfl (fun k' hk' => absurd hk' (Nat.not_lt_zero _)) hE
  · refine ⟨fun h => absurd h ((e1 k hk).ki.2 l hl t), fun h => absurd ⟨s, hs1, rfl, h.2.1⟩ (hr.z g)⟩
  · rw [b1]
    exact Bo.f (fun h => hr.z g ⟨s, hs1, rfl, h.1⟩)
/-- all sentences' rows are right -/
def Fresh (w : Wd) : Prop := ∀ s, s < cm w → w.1 40 s = 0
theorem z_refresh {d : Nat} {w0 : Wd} {Q : Wd → Prop} (hC : CtI w0) (hq : ∀ w', Fr w0 w' → FinI w' → Fresh w' → Q w') : ∀ (n s : Nat) (w : Wd), s + n = cm w0 → Fr w0 w → FinI w → (∀ s', s' < s → w.1 40 s' = 0) → Z m_Finder_refresh (d + 6) (qV Q) 2 [(0, .ref 36), (1, .int (nI s))] [] w := by
  have hcm := hC.2.1.2.2.1.1
  intro n
  induction n with
  | zero =>
    intro s w hs f hF h0
    have m := f.mf
    refine vc_Finder_refresh_2 _ ⟨_, c_came (hC.fr f).2.1, ?_⟩
    rintro x w1 ⟨rfl, rfl⟩
    refine ⟨fun _ => hq w1 f hF (fun s' hs' => h0 s' (by rw [m.cmE] at hs'; omega)), fun g => absurd ?_ g⟩
    rw [m.cmE, nI_leI (by omega) (by omega)]; omega
  | succ n ih =>
    intro s w hs f hF h0
    have m := f.mf
    have hCw := hC.fr f
    refine vc_Finder_refresh_2 _ ⟨_, c_came hCw.2.1, ?_⟩
    rintro x w1 ⟨rfl, rfl⟩
    refine ⟨fun g => ?_, fun _ => ⟨fun g => ?_, fun _ => ⟨s, rfl, by omega, fun g => ?_, fun g => ⟨_, c_drawSentence (d := d) hCw (by rw [m.cmE]; omega) (hF.1 s (by omega)), ?_⟩⟩⟩⟩
    · rw [m.cmE, nI_leI (by omega) (by omega)] at g; omega
    · rw [nI_leI (by omega) (by omega)] at g; omega
    · rw [nI_add]
      refine ih (s + 1) w1 (by omega) f hF (fun s' hs' => ?_)
      by_cases e : s' = s
      · subst e; exact g
      · exact h0 s' (by omega)
    · rintro w2 ⟨g1, g2, g3⟩
      refine ⟨s, rfl, by omega, Or.inl rfl, ?_⟩
      rw [nI_add]
      have m2 := g1.fr.mf
      have e40 : ∀ s', s' ≠ s → (up1 w2 40 s (nI 0)).1 40 s' = w1.1 40 s' := fun s' hne => by
        rw [up1_1, if_neg (by omega)]
        exact g1.1 40 s' (by omega) (by omega) (by omega) (by omega)
      have e37 : ∀ s', s' < 40 → s' ≠ s → ∀ k, k < 12 → ∀ l, l < 16 → (up1 w2 40 s (nI 0)).1 37 ((s' * 12 + k) * 16 + l) = w1.1 37 ((s' * 12 + k) * 16 + l) := fun s' h1 hne k hk l hl => by
        rw [up1_1, if_neg (by omega)]
        exact g1.1 37 _ (by omega) (by omega) (by omega) (by omega)
      have e38 : ∀ s', s' < 40 → s' ≠ s → ∀ k, k < 12 → (up1 w2 40 s (nI 0)).1 38 (s' * 12 + k) = w1.1 38 (s' * 12 + k) := fun s' h1 hne k hk => by
        rw [up1_1, if_neg (by omega)]
        exact g1.1 38 _ (by omega) (by omega) (by omega) (by omega)
      have f3 : Fr w1 (up1 w2 40 s (nI 0)) := g1.fr.tr (Fr.up (by omega))
      have m3 := f3.mf
      refine ih (s + 1) _ (by omega) (f.tr f3) ⟨fun s' hs' k hk => ?_, fun s' hs' => ?_, fun s' hs' h40 => ?_⟩ (fun s' hs' => ?_)
      · by_cases e : s' = s
        · subst e; exact g2 k hk
        · exact (hF.1 s' hs' k hk).cg (e37 s' hs' e k hk) (e38 s' hs' e k hk)
      · by_cases e : s' = s
        · subst e; exact Or.inl (by rw [up1_1, if_pos ⟨rfl, rfl⟩]; rfl)
        · rw [e40 s' e]; exact hF.2.1 s' hs'
      · rw [m3.cmE] at hs'
        have hs40 : s' < 40 := by rw [m.cmE] at hs'; omega
        by_cases e : s' = s
        · subst e
          exact g3.cg hs40 (Fr.mf (Fr.up (by omega))) rfl rfl (fun _ _ _ _ => rfl) rfl
        · rw [e40 s' e] at h40
          exact (hF.2.2 s' hs' h40).cg hs40 m3 (f3.1 71 (by omega)) (f3.1 72 (by omega)) (e37 s' hs40 e) (by
            rw [up1_1, if_neg (by omega)]
            exact g1.1 39 s' (by omega) (by omega) (by omega) (by omega))
      · by_cases e : s' = s
        · subst e; rw [up1_1, if_pos ⟨rfl, rfl⟩]; rfl
        · rw [e40 s' e]; exact h0 s' (by omega)
theorem c_refresh {d : Nat} {w : Wd} (hC : CtI w) (hF : FinI w) : EvV m_Finder_refresh (d + 6) [.ref 36] w (fun w' => Fr w w' ∧ FinI w' ∧ Fresh w') :=
  ev_Finder_refresh (vc_Finder_refresh_0 (z_refresh hC (fun w' a b c => ⟨a, b, c⟩) (cm w) 0 w (Nat.zero_add _) Fr.rf hF (fun s' hs' => absurd hs' (Nat.not_lt_zero _))))
