/-! THE LESSON -/
def df (w : Wd) (n : Nat) : Int32 := nI (mt w n) - nI (ml w n)
def dn (w : Wd) (n : Nat) : Nat := (if ml w n < mt w n then mt w n - ml w n else ml w n - mt w n) + 1
def wa (w : Wd) (n i : Nat) : Nat := wrd w (ms w n) (min (ml w n) (mt w n) + i)
def CLs (a k : Nat) : Prop := (54 ≤ a ∧ a ≤ 56) ∨ a = 93 ∨ a = 94 ∨ (a = 58 ∧ (k = 0 ∨ k = 47 ∨ k = 48 ∨ k = 49))
def FLs (w0 w : Wd) : Prop := Sm CLs w0 w ∧ w.2 = w0.2
theorem FLs.rf {w : Wd} : FLs w w := ⟨Sm.rf, rfl⟩
theorem FLs.tr {w w1 w2 : Wd} (h : FLs w w1) (h2 : FLs w1 w2) : FLs w w2 := ⟨h.1.tr h2.1, h2.2.trans h.2⟩
theorem FLs.up {w : Wd} {a k : Nat} {v : Int32} (h : CLs a k) : FLs w (up1 w a k v) := ⟨Sm.up h, rfl⟩
theorem FLs.row {w w' : Wd} (h : FLs w w') {a : Nat} (g : ¬ (54 ≤ a ∧ a ≤ 56)) (g2 : a ≠ 93) (g3 : a ≠ 94) (g4 : a ≠ 58) : w'.1 a = w.1 a := funext fun k => h.1 a k (by unfold CLs; omega)
theorem FLs.ct {w w' : Wd} (h : FLs w w') (hC : CtI w) : CtI w' := hC.sa (h.1.sa (fun a k x => by unfold KC at x; unfold CLs; omega))
theorem FLs.cm {w w' : Wd} (h : FLs w w') : cm w' = cm w := N_cg (h.1 58 30 (by unfold CLs; omega))
theorem FLs.mrk {w w' : Wd} (h : FLs w w') (hM : MrkI w) : MrkI w' := hM.mv (by rw [h.cm]; exact Nat.le_refl _) (fun s _ => N_cg (h.1 79 s (by unfold CLs; omega))) (h.1 58 39 (by unfold CLs; omega)) (h.1 45 8 (by unfold CLs; omega)) (fun a ha => h.row (by omega) (by omega) (by omega) (by omega))
theorem FLs.m {w w' : Wd} (h : FLs w w') : mk w' = mk w ∧ ms w' = ms w ∧ ml w' = ml w ∧ mt w' = mt w ∧ mr w' = mr w ∧ w'.1 90 = w.1 90 ∧ w'.1 89 = w.1 89 ∧ w'.1 76 = w.1 76 ∧ wrd w' = wrd w ∧ w'.1 81 = w.1 81 := by
  have r : ∀ a, ¬ (54 ≤ a ∧ a ≤ 56) → a ≠ 93 → a ≠ 94 → a ≠ 58 → w'.1 a = w.1 a := fun a g1 g2 g3 g4 => h.row g1 g2 g3 g4
  refine ⟨N_cg (h.1 58 39 (by unfold CLs; omega)), ?_, ?_, ?_, ?_, r 90 (by decide) (by decide) (by decide) (by decide), r 89 (by decide) (by decide) (by decide) (by decide), r 76 (by decide) (by decide) (by decide) (by decide), ?_, r 81 (by decide) (by decide) (by decide) (by decide)⟩
  · funext n; exact N_cg (by rw [r 86 (by decide) (by decide) (by decide) (by decide)])
  · funext n; exact N_cg (by rw [r 87 (by decide) (by decide) (by decide) (by decide)])
  · funext n; exact N_cg (by rw [r 88 (by decide) (by decide) (by decide) (by decide)])
  · funext n; exact N_cg (by rw [r 89 (by decide) (by decide) (by decide) (by decide)])
  · funext s p; exact N_cg (by rw [r 80 (by decide) (by decide) (by decide) (by decide)])
theorem df_int {w : Wd} {n : Nat} (h1 : ml w n < 16) (h2 : mt w n < 16) : (df w n).toInt = (mt w n : Int) - ml w n := by
  unfold df
  rw [Int32.toInt_sub, nI_toInt (by omega), nI_toInt (by omega)]
  exact Int.bmod_eq_of_le (by omega) (by omega)
theorem dn_of {w : Wd} {n f : Nat} (h1 : ml w n < 16) (h2 : mt w n < 16) (g1 : ml w f < 16) (g2 : mt w f < 16) (e : df w n = df w f) : dn w n = dn w f := by
  have e := congrArg Int32.toInt e
  rw [df_int h1 h2, df_int g1 g2] at e
  unfold dn
  split <;> split <;> omega
section
variable {d : Nat} {w : Wd}
theorem c_Marks_at (hM : MrkI w) (hS : SenI w) {n : Nat} (hn : n < mk w) : EvI m_Marks_rightOf d [.ref 45, .int (nI n)] w (fun r w' => w' = w ∧ r = nI (mt w n)) ∧ EvI m_Marks_leftOf d [.ref 45, .int (nI n)] w (fun r w' => w' = w ∧ r = nI (ml w n)) ∧ EvI m_Marks_sentenceOf d [.ref 45, .int (nI n)] w (fun r w' => w' = w ∧ r = nI (ms w n)) := by
  obtain ⟨-, -, c1, c2, c3, -⟩ := hM.at hS hn
  have m1 := hM.1.1
  refine ⟨ev_Marks_rightOf _ (vc_Marks_rightOf_0 _ ⟨fun g => absurd g (nn0 n), fun _ => ?_⟩), ev_Marks_leftOf _ (vc_Marks_leftOf_0 _ ⟨fun g => absurd g (nn0 n), fun _ => ?_⟩), ev_Marks_sentenceOf _ (vc_Marks_sentenceOf_0 _ ⟨fun g => absurd g (nn0 n), fun _ => ?_⟩)⟩
  all_goals rw [hM.1.2.2]
  · exact ⟨fun g => absurd (gle g) (by omega), fun _ => ⟨n, rfl, by omega, rfl, c3⟩⟩
  · exact ⟨fun g => absurd (gle g) (by omega), fun _ => ⟨n, rfl, by omega, rfl, c2⟩⟩
  · exact ⟨fun g => absurd (gle g) (by omega), fun _ => ⟨n, rfl, by omega, rfl, c1⟩⟩
theorem c_Lesson_wordAt (hM : MrkI w) (hS : SenI w) {n i : Nat} (hn : n < mk w) (hi : i < dn w n) : EvI m_Lesson_wordAt (d + 1) [.ref 54, .int (nI n), .int (nI i)] w (fun r w' => w' = w ∧ r = nI (wa w n i)) := by
  obtain ⟨⟨a1, a2, a3, a4, a5, a6⟩, -⟩ := hM.at hS hn
  obtain ⟨k1, k2, k3⟩ := c_Marks_at (d := d) hM hS hn
  refine ev_Lesson_wordAt _ _ (vc_Lesson_wordAt_0 _ _ ⟨_, k2, ?_⟩)
  rintro r w1 ⟨rfl, rfl⟩
  refine ⟨_, k1, ?_⟩
  rintro r w2 ⟨rfl, rfl⟩
  refine ⟨_, k3, ?_⟩
  rintro r w1 ⟨rfl, rfl⟩
  have e : (if nI (mt w1 n) < nI (ml w1 n) then nI (mt w1 n) else nI (ml w1 n)) = nI (min (ml w1 n) (mt w1 n)) := by
    by_cases g : mt w1 n < ml w1 n
    · rw [if_pos (mlt g), show min (ml w1 n) (mt w1 n) = mt w1 n by omega]
    · rw [if_neg (fun x => g (glt x)), show min (ml w1 n) (mt w1 n) = ml w1 n by omega]
  rw [e, nI_add]
  unfold dn at hi
  refine ⟨_, c_Sentences_wordAt (d := d) hS a1 (p := min (ml w1 n) (mt w1 n) + i) (by split at hi <;> omega), ?_⟩
  rintro r w2 ⟨rfl, rfl⟩
  exact ⟨rfl, rfl⟩
theorem c_M_wordAt (hC : CtI w) (hM : MrkI w) {n i : Nat} (hn : n < mk w) (hi : i < dn w n) : EvI m_M_wordAt (d + 1) [.ref 58, .int (nI n), .int (nI i)] w (fun r w' => w' = w ∧ r = nI (wa w n i)) := by
  have hS := hC.2.1
  obtain ⟨⟨a1, a2, a3, a4, a5, a6⟩, ⟨b1, b2, b3, -⟩, -⟩ := hM.at hS hn
  have hc := hS.2.2.1.1
  have mk60 := hM.1.1
  refine ev_M_wordAt _ _ (vc_M_wordAt_0 _ _ ⟨n, rfl, by omega, n, rfl, by omega, n, rfl, by omega, ?_⟩)
  rw [b1, b2, b3]
  refine ⟨_, ev_M_least _ _ (vc_M_least_0 _ _ (Q := fun r w' => w' = w ∧ r = nI (min (ml w n) (mt w n))) ⟨fun g => ⟨rfl, ?_⟩, fun g => ⟨rfl, ?_⟩⟩), ?_⟩
  · have g := gle g
    rw [show min (ml w n) (mt w n) = mt w n by omega]
  · have g := ngle g
    rw [show min (ml w n) (mt w n) = ml w n by omega]
  rintro r w1 ⟨rfl, rfl⟩
  unfold dn at hi
  have hp : min (ml w1 n) (mt w1 n) + i < len w1 (ms w1 n) := by split at hi <;> omega
  refine ⟨16 * ms w1 n + (min (ml w1 n) (mt w1 n) + i), by rw [pk_mul, nI_add, nI_add, Nat.add_assoc], by omega, rfl, (hS.2.2.2.2.1 _ a1 _ hp).2.2.1⟩
theorem wa_ok (hS : SenI w) (hM : MrkI w) {n i : Nat} (hn : n < mk w) (hi : i < dn w n) : 1 ≤ wa w n i ∧ wa w n i ≤ 100 := by
  obtain ⟨⟨a1, a2, a3, a4, a5, a6⟩, -⟩ := hM.at hS hn
  unfold dn at hi
  have hp : min (ml w n) (mt w n) + i < len w (ms w n) := by split at hi <;> omega
  have := hS.2.2.2.2.1 _ a1 _ hp
  exact ⟨this.1, this.2.1⟩
theorem c_Lesson_isLike (hM : MrkI w) (hS : SenI w) {n : Nat} (hn : n < mk w) {x : Int32} (hx : (w.1 54 7 = 0 ∧ x = nI 1 - w.1 54 5) ∨ (w.1 54 7 = 1 ∧ x = w.1 54 5 - nI 1)) : EvI m_Lesson_isLike (d + 1) [.ref 54, .int (nI n)] w (fun r w' => w' = w ∧ Bo (df w n = x) r) := by
  obtain ⟨k1, k2, k3⟩ := c_Marks_at (d := d) hM hS hn
  refine ev_Lesson_isLike _ (vc_Lesson_isLike_0 _ ⟨_, k1, ?_⟩)
  rintro r w1 ⟨rfl, rfl⟩
  refine ⟨_, k2, ?_⟩
  rintro r w2 ⟨rfl, rfl⟩
  rcases hx with ⟨h1, rfl⟩ | ⟨h1, rfl⟩
  · exact ⟨fun _ => ⟨fun g => ⟨Or.inl rfl, rfl, Bo.f g⟩, fun g => ⟨Or.inr rfl, rfl, Bo.t g⟩⟩, fun g => absurd h1 g⟩
  · exact ⟨fun g => absurd (h1.symm.trans g) (by decide), fun _ => ⟨fun g => ⟨Or.inl rfl, rfl, Bo.f g⟩, fun g => ⟨Or.inr rfl, rfl, Bo.t g⟩⟩⟩
theorem c_M_isLike (hM : MrkI w) (hS : SenI w) {n : Nat} (hn : n < mk w) (r x : Int32) : EvI m_M_isLike d [.ref 58, .int (nI n), .int (r), .int (x)] w (fun y w' => w' = w ∧ Bo (w.1 89 n = r ∧ thr w (ms w n) ∧ df w n = x) y) := by
  obtain ⟨⟨a1, a2, a3, a4, a5, a6⟩, ⟨b1, b2, b3, b4, b5⟩, -⟩ := hM.at hS hn
  have mk60 := hM.1.1
  have hc := hS.2.2.1.1
  refine ev_M_isLike _ _ _ (vc_M_isLike_0 _ _ _ ⟨n, rfl, by omega, fun g => ⟨Or.inl rfl, rfl, Bo.f (fun x => g x.1)⟩, fun g => ⟨n, rfl, by omega, ms w n, b1, by omega, fun g2 => ⟨Or.inl rfl, rfl, Bo.f (fun x => g2 x.2.1)⟩, fun g2 => ⟨n, rfl, by omega, n, rfl, by omega, ?_⟩⟩⟩)
  rw [b2, b3]
  exact ⟨fun g3 => ⟨Or.inl rfl, rfl, Bo.f (fun x => g3 x.2.2)⟩, fun g3 => ⟨Or.inr rfl, rfl, Bo.t ⟨g, g2, g3⟩⟩⟩
end
