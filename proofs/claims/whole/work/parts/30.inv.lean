/-! THE INVARIANT between the class's cells and the reference's -/
def Sa (K : Nat → Nat → Prop) (w w' : Wd) : Prop := ∀ a k, K a k → w'.1 a k = w.1 a k
theorem Sa.row {K : Nat → Nat → Prop} {w w' : Wd} (h : Sa K w w') (a : Nat) (ha : ∀ k, K a k) : w'.1 a = w.1 a := funext fun k => h a k (ha k)
theorem Sa.rf {K : Nat → Nat → Prop} {w : Wd} : Sa K w w := fun _ _ _ => rfl
theorem Sa.tr {K : Nat → Nat → Prop} {w w1 w2 : Wd} (h : Sa K w w1) (h2 : Sa K w1 w2) : Sa K w w2 := fun a k hk => (h2 a k hk).trans (h a k hk)
theorem Sa.up {K : Nat → Nat → Prop} {w : Wd} {a k : Nat} {v : Int32} (h : ¬ K a k) : Sa K w (up1 w a k v) := fun b j hK => by
  rw [up1_1, if_neg (fun e => h (by rw [← e.1, ← e.2]; exact hK))]
theorem Sa.mo {K K' : Nat → Nat → Prop} {w w' : Wd} (h : Sa K w w') (hk : ∀ a k, K' a k → K a k) : Sa K' w w' := fun a k h' => h a k (hk a k h')
/-- cells of LexI, SenI and BkI -/
def KC (a k : Nat) : Prop := (a ≤ 7 ∧ a ≠ 0) ∨ (25 ≤ a ∧ a ≤ 35) ∨ (64 ≤ a ∧ a ≤ 81) ∨ (a = 58 ∧ (k = 10 ∨ k = 28 ∨ k = 30))
theorem CtI.sa {w w' : Wd} (hC : CtI w) (h : Sa KC w w') : CtI w' := by
  have r : ∀ a, ((a ≤ 7 ∧ a ≠ 0) ∨ (25 ≤ a ∧ a ≤ 35) ∨ (64 ≤ a ∧ a ≤ 81)) → w'.1 a = w.1 a := fun a ha => h.row a (fun k => ha.elim Or.inl (fun x => Or.inr (x.elim Or.inl (fun y => Or.inr (Or.inl y)))))
  have f : ∀ k, k = 10 ∨ k = 28 ∨ k = 30 → w'.1 58 k = w.1 58 k := fun k hk => h 58 k (Or.inr (Or.inr (Or.inr ⟨rfl, hk⟩)))
  exact ⟨hC.1.mv (r 1 (by omega)) (r 2 (by omega)) (r 76 (by omega)) (r 77 (by omega)),
    hC.2.1.mv (f 28 (by omega)) (f 30 (by omega)) (r 3 (by omega)) (r 4 (by omega)) (r 5 (by omega)) (r 6 (by omega)) (r 7 (by omega)) (r 78 (by omega)) (r 79 (by omega)) (r 80 (by omega)) (r 81 (by omega)),
    hC.2.2.mv (f 10 (by omega)) (by rw [r 25 (by omega)]) (by rw [r 25 (by omega)]) (by rw [r 25 (by omega)]) (by rw [r 25 (by omega)]) (fun a ha => r a (by omega))⟩
/-- rows told by sentences and rules, before the chains -/
def Bs (w : Wd) (r a b : Nat) : Prop := ∃ s k l t, Fnd w s k l t ∧ ¬ Brr w s ∧ rl w k = r ∧ nmOf w (wrd w s l) = a ∧ nmOf w (wrd w s t) = b
def Cl (w : Wd) (R : Nat → Nat → Nat → Prop) : Prop := ∀ c, c < nch w → ∀ a b e, R (chn w c 1) a b → R (chn w c 2) b e → R (chn w c 0) a e
/-- all rows: the least set that holds those and is closed -/
def Rw (w : Wd) (r a b : Nat) : Prop := ∀ R : Nat → Nat → Nat → Prop, (∀ r a b, Bs w r a b → R r a b) → Cl w R → R r a b
theorem Rw.base {w : Wd} {r a b : Nat} (h : Bs w r a b) : Rw w r a b := fun _ h1 _ => h1 _ _ _ h
theorem Rw.cl (w : Wd) : Cl w (Rw w) := fun c hc a b e h1 h2 R g1 g2 => g2 c hc a b e (h1 R g1 g2) (h2 R g1 g2)
/-- finds, bars and presence are the same -/
def SemF (w w' : Wd) : Prop := cm w' = cm w ∧ (∀ s r l t, Fnd w' s r l t ↔ Fnd w s r l t) ∧ (∀ s, s < cm w → (Brr w' s ↔ Brr w s)) ∧ (∀ s, s < cm w → (thr w' s ↔ thr w s))
theorem SemF.fNE {w w' : Wd} (h : SemF w w') : fN w' = fN w := by
  funext k
  exact bool_eq (by rw [fN_iff, fN_iff]; exact h.2.1 _ _ _ _)
def SemR (w w' : Wd) : Prop := ∀ r a b, Rw w' r a b ↔ Rw w r a b
theorem SemF.tr {w w1 w2 : Wd} (h : SemF w w1) (h2 : SemF w1 w2) : SemF w w2 := ⟨h2.1.trans h.1, fun s r l t => (h2.2.1 s r l t).trans (h.2.1 s r l t), fun s hs => (h2.2.2.1 s (by rw [h.1]; exact hs)).trans (h.2.2.1 s hs), fun s hs => (h2.2.2.2 s (by rw [h.1]; exact hs)).trans (h.2.2.2 s hs)⟩
theorem SemR.tr {w w1 w2 : Wd} (h : SemR w w1) (h2 : SemR w1 w2) : SemR w w2 := fun r a b => (h2 r a b).trans (h r a b)
/-- cells on which finds hang; and rows -/
def KF (a k : Nat) : Prop := (64 ≤ a ∧ a ≤ 72) ∨ a = 76 ∨ (79 ≤ a ∧ a ≤ 81) ∨ (a = 58 ∧ (k = 10 ∨ k = 30))
def KR (a k : Nat) : Prop := (64 ≤ a ∧ a ≤ 74) ∨ a = 76 ∨ a = 77 ∨ (79 ≤ a ∧ a ≤ 81) ∨ (a = 58 ∧ (k = 10 ∨ k = 30))
theorem KF.mf {w w' : Wd} (h : Sa KF w w') : Mf w w' := ⟨h 58 10 (by unfold KF; omega), h 58 30 (by unfold KF; omega), fun a ha => h.row a (fun k => by unfold KF; omega)⟩
theorem KR.f {w w' : Wd} (h : Sa KR w w') : Sa KF w w' := h.mo (fun a k x => by unfold KF at x; unfold KR; omega)
theorem SemF.of {w w' : Wd} (h : Sa KF w w') : SemF w w' := by
  have m := KF.mf h
  refine ⟨m.cmE, fun s r l t => by rw [m.FndE], fun s _ => by rw [Brr.mv m (h.row 71 (fun k => by unfold KF; omega)) (h.row 72 (fun k => by unfold KF; omega))], fun s _ => ?_⟩
  show w'.1 81 s = 0 ↔ w.1 81 s = 0
  rw [h 81 s (by unfold KF; omega)]
theorem nmOf_mv2 {w w' : Wd} (h : w'.1 77 = w.1 77) : nmOf w' = nmOf w := by
  funext k
  unfold nmOf
  rw [show Jn w' = Jn w by funext j; unfold Jn; rw [h]]
theorem SemR.of {w w' : Wd} (h : Sa KR w w') : SemR w w' := by
  have m := KF.mf (KR.f h)
  have e10 : N w' 58 10 = N w 58 10 := N_cg m.1
  have e1 : nch w' = nch w := by
    show N w' 73 (N w' 58 10) = N w 73 (N w 58 10)
    rw [e10]
    exact N_cg (h 73 _ (by unfold KR; omega))
  have e2 : ∀ c j, chn w' c j = chn w c j := fun c j => by
    show N w' 74 (3 * (6 * N w' 58 10 + c) + j) = N w 74 (3 * (6 * N w 58 10 + c) + j)
    rw [e10]
    exact N_cg (h 74 _ (by unfold KR; omega))
  have e3 : ∀ k, rl w' k = rl w k := fun k => by
    show N w' 65 (12 * N w' 58 10 + k) = N w 65 (12 * N w 58 10 + k)
    rw [e10, m.NE (by omega)]
  have eB : Bs w' = Bs w := by
    funext r a b
    unfold Bs
    rw [nmOf_mv2 (h.row 77 (fun k => by unfold KR; omega))]
    congr 1; funext s; congr 1; funext k; congr 1; funext l; congr 1; funext t
    rw [m.FndE, e3, m.wrdE, m.wrdE, Brr.mv m (h.row 71 (fun k => by unfold KR; omega)) (h.row 72 (fun k => by unfold KR; omega))]
  have eC : Cl w' = Cl w := by
    funext R
    unfold Cl
    rw [e1]
    simp only [e2]
  intro r a b
  unfold Rw
  rw [eB, eC]
/-! its parts -/
abbrev tp (w : Wd) : Nat := N w 58 2
def TapI (w : Wd) : Prop := (tp w ≤ 1200 ∧ w.1 58 2 = nI (tp w) ∧ w.1 8 1 = nI (tp w)) ∧ ∀ k, k < tp w → ∃ c, (c = 10 ∨ (32 ≤ c ∧ c ≤ 126)) ∧ w.1 9 k = nI c ∧ w.1 59 k = nI c
theorem TapI.mv {w w' : Wd} (h : TapI w) (e1 : w'.1 58 2 = w.1 58 2) (e2 : w'.1 8 1 = w.1 8 1) (e3 : w'.1 9 = w.1 9) (e4 : w'.1 59 = w.1 59) : TapI w' := by
  unfold TapI tp N at *
  rw [e1, e2, e3, e4]
  exact h
theorem FinI.mv {w w' : Wd} (h : FinI w) (S : SemF w w') (e : ∀ a, 37 ≤ a → a ≤ 40 → w'.1 a = w.1 a) : FinI w' := by
  refine ⟨fun s hs k hk => (h.1 s hs k hk).cg (fun l hl => by rw [e 37 (by omega) (by omega)]) (by rw [e 38 (by omega) (by omega)]), fun s hs => by rw [e 40 (by omega) (by omega)]; exact h.2.1 s hs, fun s hs g => ?_⟩
  rw [S.1] at hs
  rw [e 40 (by omega) (by omega)] at g
  obtain ⟨a, b⟩ := h.2.2 s hs g
  refine ⟨fun k hk l hl t => ?_, ?_⟩
  · rw [S.2.1, show rb w' s k l = rb w s k l from N_cg (by rw [e 37 (by omega) (by omega)])]
    exact a k hk l hl t
  · rw [e 39 (by omega) (by omega)]
    exact b.imp (and_congr (S.2.2.2 s hs).symm (S.2.2.1 s hs).symm)
/-- the class's table is right -/
def TR (w : Wd) : Prop := ∀ r, r < 10 → ∀ a, 1 ≤ a → a ≤ 100 → ∃ lo hi, lo < 2 ^ 64 ∧ hi < 2 ^ 64 ∧ w.2 43 (r * 101 + a) = lN lo ∧ w.2 44 (r * 101 + a) = lN hi ∧ (∀ b, lo.testBit b = true ↔ b < 64 ∧ Rw w r a b) ∧ (∀ b, hi.testBit b = true ↔ Rw w r a (b + 64))
def TabI (w : Wd) : Prop := (w.1 42 6 = 0 ∨ w.1 42 6 = 1) ∧ (w.1 42 6 = 0 → TR w)
theorem TabI.mv {w w' : Wd} (h : TabI w) (S : SemR w w') (e : w'.1 42 6 = w.1 42 6) (e3 : w'.2 43 = w.2 43) (e4 : w'.2 44 = w.2 44) : TabI w' := by
  unfold TabI TR at *
  rw [e, e3, e4]
  refine ⟨h.1, fun g r hr a h1 h2 => ?_⟩
  obtain ⟨lo, hi, a1, a2, a3, a4, a5, a6⟩ := h.2 g r hr a h1 h2
  exact ⟨lo, hi, a1, a2, a3, a4, fun b => by rw [S]; exact a5 b, fun b => by rw [S]; exact a6 b⟩
theorem TabI.stale {w : Wd} (e : w.1 42 6 = 1) : TabI w := ⟨Or.inr e, fun g => by rw [e] at g; exact absurd g (by decide)⟩
def RefI (w : Wd) : Prop := (w.1 58 34 = 0 ∨ w.1 58 34 = 1) ∧ (w.1 58 34 = 0 → RF w)
theorem RefI.mv {w w' : Wd} (h : RefI w) (S : SemF w w') (e : w'.1 58 34 = w.1 58 34) (e2 : w'.1 82 = w.1 82) : RefI w' := by
  unfold RefI RF at *
  rw [e, S.fNE]
  exact ⟨h.1, fun g => BS.mv (h.2 g) e2⟩
theorem RefI.old {w : Wd} (e : w.1 58 34 = 1) : RefI w := ⟨Or.inr e, fun g => by rw [e] at g; exact absurd g (by decide)⟩
abbrev mk (w : Wd) : Nat := N w 58 39
def MrkI (w : Wd) : Prop := (mk w ≤ 60 ∧ w.1 58 39 = nI (mk w) ∧ w.1 45 8 = nI (mk w)) ∧ ∀ k, k < mk w → ∃ s l t r, s < cm w ∧ l < len w s ∧ t < len w s ∧ l ≠ t ∧ r < 10 ∧ (w.1 86 k = nI s ∧ w.1 87 k = nI l ∧ w.1 88 k = nI t ∧ w.1 89 k = nI r ∧ (w.1 90 k = 0 ∨ w.1 90 k = 1)) ∧ w.1 46 k = nI s ∧ w.1 47 k = nI l ∧ w.1 48 k = nI t ∧ w.1 49 k = nI r ∧ w.1 50 k = w.1 90 k
theorem MrkI.mv {w w' : Wd} (h : MrkI w) (hc : cm w ≤ cm w') (hl : ∀ s, s < cm w → len w' s = len w s) (e1 : w'.1 58 39 = w.1 58 39) (e2 : w'.1 45 8 = w.1 45 8) (e : ∀ a, (46 ≤ a ∧ a ≤ 50) ∨ (86 ≤ a ∧ a ≤ 90) → w'.1 a = w.1 a) : MrkI w' := by
  unfold MrkI
  rw [show mk w' = mk w from N_cg e1, e1, e2, e 46 (by omega), e 47 (by omega), e 48 (by omega), e 49 (by omega), e 50 (by omega), e 86 (by omega), e 87 (by omega), e 88 (by omega), e 89 (by omega), e 90 (by omega)]
  refine ⟨h.1, fun k hk => ?_⟩
  obtain ⟨s, l, t, r, a1, a2, a3, a4⟩ := h.2 k hk
  exact ⟨s, l, t, r, by omega, by rw [hl s a1]; exact a2, by rw [hl s a1]; exact a3, a4⟩
abbrev sp (w : Wd) : Nat := N w 58 47
def LesI (w : Wd) : Prop := (sp w ≤ 16 ∧ w.1 58 47 = nI (sp w) ∧ w.1 54 5 = nI (sp w)) ∧ (0 < sp w → 2 ≤ sp w ∧ (∃ r, r < 10 ∧ w.1 58 48 = nI r ∧ w.1 54 6 = nI r) ∧ ((w.1 54 7 = 1 ∧ w.1 58 49 = nI (sp w - 1)) ∨ (w.1 54 7 = 0 ∧ w.1 58 49 = nI 1 - nI (sp w))) ∧ ∀ i, i < sp w → w.1 55 i = w.1 93 i ∧ w.1 56 i = w.1 94 i ∧ (w.1 93 i = nI 0 ∨ w.1 93 i = nI 1 ∨ w.1 93 i = nI 2))
theorem LesI.mv {w w' : Wd} (h : LesI w) (e1 : ∀ k, 47 ≤ k → k ≤ 49 → w'.1 58 k = w.1 58 k) (e : ∀ a, (54 ≤ a ∧ a ≤ 56) ∨ a = 93 ∨ a = 94 → w'.1 a = w.1 a) : LesI w' := by
  unfold LesI
  rw [show sp w' = sp w from N_cg (e1 47 (by omega) (by omega)), e1 47 (by omega) (by omega), e1 48 (by omega) (by omega), e1 49 (by omega) (by omega), e 54 (by omega), e 55 (by omega), e 56 (by omega), e 93 (by omega), e 94 (by omega)]
  exact h
def wcs : List Nat := [940952, 2793, 6029423, 1335121806, 983428, 614923, 34200674, 1186224, 983628, 1912]
def ConI (w : Wd) : Prop := ∀ k, k < 10 → w.2 63 k = lN (wcs.getD k 0)
def Inv (w : Wd) : Prop := CtI w ∧ TapI w ∧ FinI w ∧ TabI w ∧ RefI w ∧ MrkI w ∧ LesI w ∧ ConI w
/-- what a call that leaves the contents as they are may change: (58, 0) and scratch -/
def KI0 (a k : Nat) : Prop := ¬ (a = 58 ∧ k = 0)
theorem Inv.th {w : Wd} (h : Inv w) (v : Int32) : Inv (up1 w 58 0 v) := by
  obtain ⟨h1, h2, h3, h4, h5, h6, h7, h8⟩ := h
  have f : Sa KI0 w (up1 w 58 0 v) := Sa.up (by unfold KI0; omega)
  have fF : SemF w (up1 w 58 0 v) := SemF.of (f.mo (fun a k x => by unfold KF at x; unfold KI0; omega))
  have fR : SemR w (up1 w 58 0 v) := SemR.of (f.mo (fun a k x => by unfold KR at x; unfold KI0; omega))
  have o : ∀ a, a ≠ 58 → (up1 w 58 0 v).1 a = w.1 a := fun a ha => up1_off a ha
  have q : ∀ k, k ≠ 0 → (up1 w 58 0 v).1 58 k = w.1 58 k := fun k hk => f 58 k (by unfold KI0; omega)
  refine ⟨h1.sa (f.mo (fun a k x => by unfold KC at x; unfold KI0; omega)), h2.mv (q 2 (by decide)) rfl rfl rfl, h3.mv fF (fun a _ _ => o a (by omega)), h4.mv fR rfl rfl rfl, h5.mv fF (q 34 (by decide)) rfl, h6.mv (by rw [fF.1]; exact Nat.le_refl _) (fun s _ => rfl) (q 39 (by decide)) rfl (fun a _ => o a (by omega)), h7.mv (fun k _ _ => q k (by omega)) (fun a _ => o a (by omega)), h8⟩
