/-! THE TABLE: chains, of the class -/
def Ext (w : Wd) (R R' : Nat → Nat → Nat → Prop) : Prop := (∀ r a b, R r a b → R' r a b) ∧ ∀ S : Nat → Nat → Nat → Prop, (∀ r a b, R r a b → S r a b) → Cl w S → ∀ r a b, R' r a b → S r a b
theorem Ext.rf {w : Wd} {R : Nat → Nat → Nat → Prop} : Ext w R R := ⟨fun _ _ _ h => h, fun _ h _ => h⟩
theorem Ext.tr {w : Wd} {R R1 R2 : Nat → Nat → Nat → Prop} (h : Ext w R R1) (h2 : Ext w R1 R2) : Ext w R R2 := ⟨fun r a b x => h2.1 r a b (h.1 r a b x), fun S k c => h2.2 S (h.2 S k c) c⟩
theorem Ext.dm {w : Wd} (hC : CtI w) {R R' : Nat → Nat → Nat → Prop} (h : Ext w R R') (hD : Dm R) : Dm R' := fun r a b x => h.2 _ hD (fun c hc a b e h1 h2 => by
  have := (hC.2.2.2.2.2.2.2.2.1 c hc 0 (by omega)).1
  exact ⟨this, h1.2.1, h1.2.2.1, h2.2.2.2.1, h2.2.2.2.2⟩) r a b x
/-- closed, and got from the rows of the sentences: all rows -/
theorem Ext.all {w : Wd} {R : Nat → Nat → Nat → Prop} (h : Ext w (Bs w) R) (hc : Cl w R) : R = Rw w := by
  funext r a b
  apply propext
  exact ⟨fun x => h.2 (Rw w) (fun _ _ _ => Rw.base) (Rw.cl w) r a b x, fun x => x R h.1 hc⟩
def Ff (R : Nat → Nat → Nat → Prop) (p q a e : Nat) : Prop := ∃ b, R p a b ∧ R q b e
def Fo (R : Nat → Nat → Nat → Prop) (g p q a : Nat) : Nat → Nat → Nat → Prop := fun r x e => R r x e ∨ (r = g ∧ x = a ∧ Ff R p q a e)
section
variable {R : Nat → Nat → Nat → Prop} {w : Wd} {d : Nat}
theorem Fo.ext {c a : Nat} (hc : c < nch w) : Ext w R (Fo R (chn w c 0) (chn w c 1) (chn w c 2) a) := by
  refine ⟨fun r a b h => Or.inl h, fun S hS hCl r x e h => ?_⟩
  rcases h with h | ⟨rfl, rfl, b, h1, h2⟩
  · exact hS _ _ _ h
  · exact hCl c hc _ _ _ (hS _ _ _ h1) (hS _ _ _ h2)
theorem c_followFrom (hD : Dm R) (h : TbI R w) {a g p q : Nat} (ha : 1 ≤ a) (ha2 : a ≤ 100) (hg : g < 10) (hp : p < 10) (hq : q < 10) : EvI m_Table_followFrom (d + 1) [.ref 42, .int (nI a), .int (nI g), .int (nI p), .int (nI q)] w (fun x w' => F2 w w' ∧ TbI (Fo R g p q a) w' ∧ Bo (∃ e, Ff R p q a e ∧ ¬ R g a e) x) := by
  refine ev_Table_followFrom _ _ _ _ (vc_Table_followFrom_0 _ _ _ _ ?_)
  refine lpU (I := fun b w' => w' = w) (G := fun b w' => ∀ L H, L < 2 ^ 64 → H < 2 ^ 64 → (∀ e, L.testBit e = true ↔ e < 64 ∧ ∃ b', b' < b + 1 ∧ R p a b' ∧ R q b' e) → (∀ e, H.testBit e = true ↔ ∃ b', b' < b + 1 ∧ R p a b' ∧ R q b' (e + 64)) → Z m_Table_followFrom (d + 1) (qI (fun x w' => F2 w w' ∧ TbI (Fo R g p q a) w' ∧ Bo (∃ e, Ff R p q a e ∧ ¬ R g a e) x)) 9 [(0, .ref 42), (1, .int (nI a)), (2, .int (nI g)), (3, .int (nI p)), (4, .int (nI q)), (5, .long (lN L)), (7, .long (lN H)), (9, .int (nI (b + 1)))] [] w') (M := 100) ?_ ?_ 0 (Nat.zero_le _) _ rfl 0 0 (by decide) (by decide) (fun e => ?_) (fun e => ?_)
  · rintro w1 rfl L H hL hH bL bH
    obtain ⟨lo, hi, h1, h2, h3, h4, h5, h6⟩ := h g hg a ha ha2
    have all : ∀ e, (∃ b', b' < 100 + 1 ∧ R p a b' ∧ R q b' e) ↔ Ff R p q a e := fun e => ⟨fun ⟨b', _, x, y⟩ => ⟨b', x, y⟩, fun ⟨b', x, y⟩ => ⟨b', by have := (hD _ _ _ x).2.2.2.2; omega, x, y⟩⟩
    have bL : ∀ e, L.testBit e = true ↔ e < 64 ∧ Ff R p q a e := fun e => by rw [bL, all]
    have bH : ∀ e, H.testBit e = true ↔ Ff R p q a (e + 64) := fun e => by rw [bH, all]
    -- the new table
    have put : F2 w1 (up2 (up2 w1 43 (g * 101 + a) (lN lo ||| lN L)) 44 (g * 101 + a) (lN hi ||| lN H)) ∧ TbI (Fo R g p q a) (up2 (up2 w1 43 (g * 101 + a) (lN lo ||| lN L)) 44 (g * 101 + a) (lN hi ||| lN H)) := by
      refine ⟨(F2.up (Or.inl rfl)).tr (F2.up (Or.inr rfl)), fun r' hr' a' ha' ha2' => ?_⟩
      by_cases e : r' = g ∧ a' = a
      · obtain ⟨rfl, rfl⟩ := e
        refine ⟨lo ||| L, hi ||| H, Nat.or_lt_two_pow h1 hL, Nat.or_lt_two_pow h2 hH, by rw [up2_2, if_neg (by omega), up2_2, if_pos ⟨rfl, rfl⟩, wb_or h1 hL], by rw [up2_2, if_pos ⟨rfl, rfl⟩, wb_or h2 hH], fun i => ?_, fun i => ?_⟩
        · rw [Nat.testBit_or, Bool.or_eq_true, h5, bL]
          unfold Fo
          constructor
          · rintro (⟨x, y⟩ | ⟨x, y⟩)
            · exact ⟨x, Or.inl y⟩
            · exact ⟨x, Or.inr ⟨rfl, rfl, y⟩⟩
          · rintro ⟨x, y | ⟨-, -, y⟩⟩
            · exact Or.inl ⟨x, y⟩
            · exact Or.inr ⟨x, y⟩
        · rw [Nat.testBit_or, Bool.or_eq_true, h6, bH]
          unfold Fo
          constructor
          · rintro (y | y)
            · exact Or.inl y
            · exact Or.inr ⟨rfl, rfl, y⟩
          · rintro (y | ⟨-, -, y⟩)
            · exact Or.inl y
            · exact Or.inr y
      · obtain ⟨lo', hi', k1, k2, k3, k4, k5, k6⟩ := h r' hr' a' ha' ha2'
        have ne : r' * 101 + a' ≠ g * 101 + a := by omega
        refine ⟨lo', hi', k1, k2, by rw [up2_2, if_neg (by omega), up2_2, if_neg (by omega)]; exact k3, by rw [up2_2, if_neg (by omega), up2_2, if_neg (by omega)]; exact k4, fun i => ?_, fun i => ?_⟩
        · rw [k5]
          exact and_congr_right (fun _ => ⟨Or.inl, fun y => y.elim id (fun z => absurd ⟨z.1, z.2.1⟩ e)⟩)
        · rw [k6]
          exact ⟨Or.inl, fun y => y.elim id (fun z => absurd ⟨z.1, z.2.1⟩ e)⟩
    have ec : nI g * nI 101 + nI a = nI (g * 101 + a) := by rw [pk_mul, nI_add]
    have j10 : g * 101 + a < 1010 := by omega
    have e44 : ∀ v, (up2 w1 43 (g * 101 + a) v).2 44 (g * 101 + a) = w1.2 44 (g * 101 + a) := fun v => by rw [up2_2, if_neg (by omega)]
    have nL : (∀ i, i < 64 → L.testBit i = true → lo.testBit i = true) ↔ ∀ e, e < 64 → Ff R p q a e → R g a e := by
      constructor
      · intro x e he y
        exact ((h5 e).mp (x e he ((bL e).mpr ⟨he, y⟩))).2
      · intro x e he y
        exact (h5 e).mpr ⟨he, x e he ((bL e).mp y).2⟩
    have nH : (∀ i, i < 64 → H.testBit i = true → hi.testBit i = true) ↔ ∀ e, 64 ≤ e → Ff R p q a e → R g a e := by
      constructor
      · intro x e he y
        have hb : e ≤ 100 := by
          obtain ⟨b', _, z⟩ := y
          exact (hD _ _ _ z).2.2.2.2
        have := (h6 (e - 64)).mp (x (e - 64) (by omega) ((bH (e - 64)).mpr (by rw [show e - 64 + 64 = e by omega]; exact y)))
        rw [show e - 64 + 64 = e by omega] at this
        exact this
      · intro x e he y
        exact (h6 e).mpr (x (e + 64) (by omega) ((bH e).mp y))
    refine vc_Table_followFrom_9 _ _ _ _ _ _ _ ⟨fun _ => ⟨_, ec, j10, ?_⟩, fun g => absurd (mlt (by omega)) g⟩
    rw [h3, lg_cmp_eq, lN_not, nL]
    refine ⟨fun k => ⟨_, ec, j10, _, ec, j10, _, ec, j10, _, ec, j10, Or.inr rfl, ?_⟩, fun k => ⟨_, ec, j10, ?_⟩⟩
    · rw [h3, h4]
      refine ⟨put.1, put.2, Bo.t ?_⟩
      refine Classical.byContradiction (fun x => k (fun e he y => Classical.byContradiction (fun z => x ⟨e, y, z⟩)))
    · rw [h4, lg_cmp_eq, lN_not, nH]
      refine ⟨fun k2 => ⟨_, ec, j10, _, ec, j10, _, ec, j10, _, ec, j10, Or.inl rfl, ?_⟩, fun k2 => ⟨_, ec, j10, _, ec, j10, _, ec, j10, _, ec, j10, Or.inr rfl, ?_⟩⟩
      · rw [h3, h4]
        refine ⟨put.1, put.2, Bo.f ?_⟩
        rintro ⟨e, y, z⟩
        rcases Nat.lt_or_ge e 64 with x | x
        · exact z (k e x y)
        · exact z (k2 e x y)
      · rw [h3, h4]
        refine ⟨put.1, put.2, Bo.t ?_⟩
        refine Classical.byContradiction (fun x => k2 (fun e he y => Classical.byContradiction (fun z => x ⟨e, y, z⟩)))
  · rintro b w1 hb rfl nx L H hL hH bL bH
    refine vc_Table_followFrom_9 _ _ _ _ _ _ _ ⟨fun g => absurd (glt g) (by omega), fun _ => ⟨_, c_hasRow (d := d) h hp ha ha2 (b := b + 1) (by omega), ?_⟩⟩
    rintro x w2 ⟨rfl, hx⟩
    rw [nI_add]
    refine ⟨fun k => nx _ rfl L H hL hH (fun e => ?_) (fun e => ?_), fun k => ⟨q * 101 + (b + 1), by rw [pk_mul, nI_add], by omega, q * 101 + (b + 1), by rw [pk_mul, nI_add], by omega, ?_⟩⟩
    · rw [bL]
      refine and_congr_right (fun _ => ⟨fun ⟨b', y1, y2⟩ => ⟨b', by omega, y2⟩, fun ⟨b', y1, y2⟩ => ⟨b', ?_, y2⟩⟩)
      have : b' ≠ b + 1 := fun e => hx.z k (by rw [← e]; exact y2.1)
      omega
    · rw [bH]
      refine ⟨fun ⟨b', y1, y2⟩ => ⟨b', by omega, y2⟩, fun ⟨b', y1, y2⟩ => ⟨b', ?_, y2⟩⟩
      have : b' ≠ b + 1 := fun e => hx.z k (by rw [← e]; exact y2.1)
      omega
    · obtain ⟨lo, hi, h1, h2, h3, h4, h5, h6⟩ := h q hq (b + 1) (by omega) (by omega)
      rw [h3, h4, wb_or hL h1, wb_or hH h2]
      have hx := hx.n k
      refine nx _ rfl _ _ (Nat.or_lt_two_pow hL h1) (Nat.or_lt_two_pow hH h2) (fun e => ?_) (fun e => ?_)
      · rw [Nat.testBit_or, Bool.or_eq_true, bL, h5]
        constructor
        · rintro (⟨y1, b', y2, y3⟩ | ⟨y1, y2⟩)
          · exact ⟨y1, b', by omega, y3⟩
          · exact ⟨y1, b + 1, by omega, hx, y2⟩
        · rintro ⟨y1, b', y2, y3, y4⟩
          by_cases e' : b' = b + 1
          · subst e'; exact Or.inr ⟨y1, y4⟩
          · exact Or.inl ⟨y1, b', by omega, y3, y4⟩
      · rw [Nat.testBit_or, Bool.or_eq_true, bH, h6]
        constructor
        · rintro (⟨b', y2, y3⟩ | y2)
          · exact ⟨b', by omega, y3⟩
          · exact ⟨b + 1, by omega, hx, y2⟩
        · rintro ⟨b', y2, y3, y4⟩
          by_cases e' : b' = b + 1
          · subst e'; exact Or.inr y4
          · exact Or.inl ⟨b', by omega, y3, y4⟩
  · rw [Nat.zero_testBit]
    refine ⟨fun x => absurd x (by decide), fun ⟨_, b', x, y, _⟩ => ?_⟩
    have := (hD _ _ _ y).2.2.2.1
    omega
  · rw [Nat.zero_testBit]
    refine ⟨fun x => absurd x (by decide), fun ⟨b', x, y, _⟩ => ?_⟩
    have := (hD _ _ _ y).2.2.2.1
    omega
end
