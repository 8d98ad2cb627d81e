/-! THE TABLE, of the reference -/
def RB (R : Nat → Nat → Nat → Prop) (w : Wd) : Prop := ∀ r, r < 10 → ∀ a, a ≤ 100 → ∀ b, b ≤ 100 → Bo (R r a b) (w.1 85 (10201 * r + 101 * a + b))
abbrev O85 (w w' : Wd) : Prop := Of (fun a => a = 85) w w'
theorem RB.ad {R : Nat → Nat → Nat → Prop} {w : Wd} (h : RB R w) {r a b : Nat} (ha : a ≤ 100) (hb : b ≤ 100) : RB (Ad R r a b) (up1 w 85 (10201 * r + 101 * a + b) (nI 1)) := fun r' hr' a' ha' b' hb' => by
  rw [up1_1]
  by_cases e : 10201 * r' + 101 * a' + b' = 10201 * r + 101 * a + b
  · rw [if_pos ⟨rfl, e⟩]
    have e1 : r' = r := by omega
    have e2 : a' = a := by omega
    have e3 : b' = b := by omega
    exact Bo.t (Or.inr ⟨e1, e2, e3⟩)
  · rw [if_neg (fun x => e x.2)]
    refine (h r' hr' a' ha' b' hb').imp ⟨Or.inl, fun x => x.elim id (fun ⟨z1, z2, z3⟩ => absurd (by rw [z1, z2, z3]) e)⟩
theorem Ad.ext {w : Wd} {R : Nat → Nat → Nat → Prop} {c a b e : Nat} (hc : c < nch w) (h1 : R (chn w c 1) a b) (h2 : R (chn w c 2) b e) : Ext w R (Ad R (chn w c 0) a e) := by
  refine ⟨fun r a b h => Or.inl h, fun S hS hCl r x y h => ?_⟩
  rcases h with h | ⟨rfl, rfl, rfl⟩
  · exact hS _ _ _ h
  · exact hCl c hc _ _ _ (hS _ _ _ h1) (hS _ _ _ h2)
def Dn (R : Nat → Nat → Nat → Prop) (g p q A B C : Nat) : Prop := ∀ a b e, (a < A ∨ (a = A ∧ (b < B ∨ (b = B ∧ e < C)))) → R p a b → R q b e → R g a e
section
variable {R0 : Nat → Nat → Nat → Prop} {w0 : Wd} {d : Nat}
theorem c_M_joins (hC : CtI w0) (hD : Dm R0) {w : Wd} (hw : O85 w0 w) (h : RB R0 w) {c : Nat} (hc : c < nch w0) : EvI m_M_joins d [.ref 58, .int (nI (chn w0 c 0)), .int (nI (chn w0 c 1)), .int (nI (chn w0 c 2))] w (fun x w' => ∃ R, O85 w0 w' ∧ RB R w' ∧ Gw w0 R0 R x (ClC w0 R0 c)) := by
  have k0 := (hC.2.2.2.2.2.2.2.2.1 c hc 0 (by omega)).1
  have k1 := (hC.2.2.2.2.2.2.2.2.1 c hc 1 (by omega)).1
  have k2 := (hC.2.2.2.2.2.2.2.2.1 c hc 2 (by omega)).1
  have D0 : ∀ A B, Dn R0 (chn w0 c 0) (chn w0 c 1) (chn w0 c 2) A B 0 → Dn R0 (chn w0 c 0) (chn w0 c 1) (chn w0 c 2) A B 1 := fun A B k a b e hx h1 h2 => k a b e (by have := (hD _ _ _ h2).2.2.2.1; omega) h1 h2
  have D1 : ∀ A, Dn R0 (chn w0 c 0) (chn w0 c 1) (chn w0 c 2) A 0 0 → Dn R0 (chn w0 c 0) (chn w0 c 1) (chn w0 c 2) A 1 0 := fun A k a b e hx h1 h2 => k a b e (by have := (hD _ _ _ h1).2.2.2.1; omega) h1 h2
  refine ev_M_joins _ _ _ (vc_M_joins_0 _ _ _ ?_)
  generalize hq : (qI (fun x w' => ∃ R, O85 w0 w' ∧ RB R w' ∧ Gw w0 R0 R x (ClC w0 R0 c))) = Q
  refine lpU (I := fun a w' => True) (G := fun a w' => ∀ R x4, O85 w0 w' → RB R w' → Gw w0 R0 R x4 (Dn R0 (chn w0 c 0) (chn w0 c 1) (chn w0 c 2) (a + 1) 0 0) → Z m_M_joins d Q 6 [(0, .ref 58), (1, .int (nI (chn w0 c 0))), (2, .int (nI (chn w0 c 1))), (3, .int (nI (chn w0 c 2))), (4, .int (x4)), (5, .int (nI (a + 1)))] [] w') (M := 100) ?_ ?_ 0 (Nat.zero_le _) _ trivial R0 (nI 0) hw h ⟨Ext.rf, Or.inl ⟨rfl, rfl, fun a b e hx h1 _ => absurd (hD _ _ _ h1).2.1 (by omega)⟩⟩
  · rintro w1 - R x4 f1 f2 f3
    rw [← hq]
    refine vc_M_joins_6 _ _ _ _ _ ⟨fun _ => ⟨?_, R, f1, f2, f3.imp (fun k a b e h1 h2 => ?_)⟩, fun g => absurd (mlt (by omega)) g⟩
    · rcases f3.2 with ⟨z, -⟩ | ⟨z, -⟩
      · exact Or.inl z
      · exact Or.inr z
    · exact k a b e (by have := (hD _ _ _ h1).2.2.1; omega) h1 h2
  · rintro a w1 ha - na R x4 f1 f2 f3
    rw [← hq]
    refine vc_M_joins_6 _ _ _ _ _ ⟨fun g => absurd (glt g) (by omega), fun _ => ?_⟩
    rw [hq]
    refine lpU (I := fun b w' => True) (G := fun b w' => ∀ R x4, O85 w0 w' → RB R w' → Gw w0 R0 R x4 (Dn R0 (chn w0 c 0) (chn w0 c 1) (chn w0 c 2) (a + 1) (b + 1) 0) → Z m_M_joins d Q 16 [(0, .ref 58), (1, .int (nI (chn w0 c 0))), (2, .int (nI (chn w0 c 1))), (3, .int (nI (chn w0 c 2))), (4, .int (x4)), (5, .int (nI (a + 1))), (6, .int (nI (b + 1)))] [] w') (M := 100) ?_ ?_ 0 (Nat.zero_le _) _ trivial R x4 f1 f2 (f3.imp (D1 _))
    · rintro w2 - R x4 f1 f2 f3
      rw [← hq]
      refine vc_M_joins_16 _ _ _ _ _ _ ⟨fun _ => ?_, fun g => absurd (mlt (by omega)) g⟩
      rw [hq, nI_add]
      refine na _ trivial R x4 f1 f2 (f3.imp (fun k a' b e hx h1 h2 => k a' b e ?_ h1 h2))
      have := (hD _ _ _ h1).2.2.2.2
      omega
    · rintro b w2 hb - nb R x4 f1 f2 f3
      rw [← hq]
      refine vc_M_joins_16 _ _ _ _ _ _ ⟨fun g => absurd (glt g) (by omega), fun _ => ?_⟩
      rw [hq]
      refine lpU (I := fun e w' => True) (G := fun e w' => ∀ R x4, O85 w0 w' → RB R w' → Gw w0 R0 R x4 (Dn R0 (chn w0 c 0) (chn w0 c 1) (chn w0 c 2) (a + 1) (b + 1) (e + 1)) → Z m_M_joins d Q 26 [(0, .ref 58), (1, .int (nI (chn w0 c 0))), (2, .int (nI (chn w0 c 1))), (3, .int (nI (chn w0 c 2))), (4, .int (x4)), (5, .int (nI (a + 1))), (6, .int (nI (b + 1))), (7, .int (nI (e + 1)))] [] w') (M := 100) ?_ ?_ 0 (Nat.zero_le _) _ trivial R x4 f1 f2 (f3.imp (D0 _ _))
      · rintro w3 - R x4 f1 f2 f3
        rw [← hq]
        refine vc_M_joins_26 _ _ _ _ _ _ _ ⟨fun _ => ?_, fun g => absurd (mlt (by omega)) g⟩
        rw [hq, nI_add]
        refine nb _ trivial R x4 f1 f2 (f3.imp (fun k a' b' e hx h1 h2 => k a' b' e ?_ h1 h2))
        have := (hD _ _ _ h2).2.2.2.2
        omega
      · rintro e w3 he - ne R x4 f1 f2 f3
        rw [← hq]
        have r1 := f2 (chn w0 c 1) k1 (a + 1) (by omega) (b + 1) (by omega)
        have r2 := f2 (chn w0 c 2) k2 (b + 1) (by omega) (e + 1) (by omega)
        have r3 := f2 (chn w0 c 0) k0 (a + 1) (by omega) (e + 1) (by omega)
        refine vc_M_joins_26 _ _ _ _ _ _ _ ⟨fun g => absurd (glt g) (by omega), fun _ => ⟨10201 * chn w0 c 1 + 101 * (a + 1) + (b + 1), by rw [pk_mul, pk_mul, nI_add, nI_add], by omega, fun g1 => ?_, fun g1 => ⟨10201 * chn w0 c 2 + 101 * (b + 1) + (e + 1), by rw [pk_mul, pk_mul, nI_add, nI_add], by omega, fun g2 => ?_, fun g2 => ⟨10201 * chn w0 c 0 + 101 * (a + 1) + (e + 1), by rw [pk_mul, pk_mul, nI_add, nI_add], by omega, fun g3 => ?_, fun g3 => ⟨10201 * chn w0 c 0 + 101 * (a + 1) + (e + 1), by rw [pk_mul, pk_mul, nI_add, nI_add], by omega, Or.inr rfl, ?_⟩⟩⟩⟩⟩
        all_goals rw [hq, nI_add]
        · refine nb _ trivial R x4 f1 f2 ⟨f3.1, f3.2.imp (fun ⟨z1, z2, z3⟩ => ⟨z1, z2, fun a' b' e' hx h1 h2 => ?_⟩) id⟩
          by_cases eb : a' = a + 1 ∧ b' = b + 1
          · obtain ⟨rfl, rfl⟩ := eb
            rw [← z2] at h1
            exact absurd h1 (r1.z g1)
          · exact z3 a' b' e' (by omega) h1 h2
        · refine ne _ trivial R x4 f1 f2 ⟨f3.1, f3.2.imp (fun ⟨z1, z2, z3⟩ => ⟨z1, z2, fun a' b' e' hx h1 h2 => ?_⟩) id⟩
          by_cases eb : a' = a + 1 ∧ b' = b + 1 ∧ e' = e + 1
          · obtain ⟨rfl, rfl, rfl⟩ := eb
            rw [← z2] at h2
            exact absurd h2 (r2.z g2)
          · exact z3 a' b' e' (by omega) h1 h2
        · refine ne _ trivial R x4 f1 f2 ⟨f3.1, f3.2.imp (fun ⟨z1, z2, z3⟩ => ⟨z1, z2, fun a' b' e' hx h1 h2 => ?_⟩) id⟩
          by_cases eb : a' = a + 1 ∧ b' = b + 1 ∧ e' = e + 1
          · obtain ⟨rfl, rfl, rfl⟩ := eb
            rw [← z2]
            exact r3.n g3
          · exact z3 a' b' e' (by omega) h1 h2
        · refine ne _ trivial _ (nI 1) (f1.tr (Of.up rfl)) (f2.ad (r := chn w0 c 0) (a := a + 1) (b := e + 1) (by omega) (by omega)) ⟨f3.1.tr (Ad.ext hc (r1.n g1) (r2.n g2)), Or.inr ⟨rfl, _, _, _, Or.inr ⟨rfl, rfl, rfl⟩, fun k => r3.z g3 (f3.1.1 _ _ _ k)⟩⟩
theorem c_M_chains (hC : CtI w0) (hD : Dm R0) {Q : Wd → Prop} (hq : ∀ w' R, O85 w0 w' → RB R w' → Ext w0 R0 R → Cl w0 R → Q w') {w : Wd} (hw : O85 w0 w) (h : RB R0 w) : Z m_M_findRows (d + 1) (qV Q) 149 [(0, .ref 58), (1, .int (nI 1))] [] w := by
  have hh := hC.2.2.1
  have hc6 := hC.2.2.2.2.2.2.2.1
  have key : ∀ n R w', 100000 - cR R < n → O85 w0 w' → RB R w' → Ext w0 R0 R → Z m_M_findRows (d + 1) (qV Q) 149 [(0, .ref 58), (1, .int (nI 1))] [] w' := by
    intro n
    induction n with
    | zero => intro R w1 hn; omega
    | succ n ih =>
      intro R w1 hn f1 f2 f3
      have hDR : Dm R := f3.dm hC hD
      have c1 := cR_le R
      refine vc_M_findRows_149 _ ⟨fun g => absurd g (by decide), fun _ => ?_⟩
      rw [f1.1 58 (by decide), hh.2, pk_mul]
      refine lpU (I := fun c w' => True) (G := fun c w' => ∀ R' x1, O85 w0 w' → RB R' w' → Gw w0 R R' x1 (∀ c', c' < c → ClC w0 R c') → Z m_M_findRows (d + 1) (qV Q) 163 [(0, .ref 58), (1, .int (x1)), (2, .int (nI (6 * hl w0 + c)))] [] w') (M := nch w0) ?_ ?_ 0 (Nat.zero_le _) _ trivial R (nI 0) f1 f2 ⟨Ext.rf, Or.inl ⟨rfl, rfl, fun c' hc' => absurd hc' (Nat.not_lt_zero _)⟩⟩
      · rintro w2 - R' x1 e1 e2 e3
        refine vc_M_findRows_163 _ _ ⟨hl w0, by rw [e1.1 58 (by decide)]; exact hh.2, hh.1, ?_⟩
        rw [e1.1 58 (by decide), hh.2, pk_mul, e1.1 73 (by decide), hc6.2.1, nI_add]
        refine ⟨fun _ => ?_, fun g => absurd (mle (Nat.le_refl _)) g⟩
        rcases e3.2 with ⟨rfl, rfl, z3⟩ | ⟨rfl, z2⟩
        · exact vc_M_findRows_149 _ ⟨fun _ => hq _ R' e1 e2 f3 (fun c hc a b e h1 h2 => z3 c hc a b e h1 h2), fun g => absurd rfl g⟩
        · have c2 := cR_le R'
          have c3 := cR_lt (e3.1.dm hC hDR) e3.1.1 z2
          exact ih R' _ (by omega) e1 e2 (f3.tr e3.1)
      · rintro c w2 hc - nx R' x1 e1 e2 e3
        refine vc_M_findRows_163 _ _ ⟨hl w0, by rw [e1.1 58 (by decide)]; exact hh.2, hh.1, ?_⟩
        rw [e1.1 58 (by decide), hh.2, pk_mul, e1.1 73 (by decide), hc6.2.1, nI_add]
        refine ⟨fun g => absurd (gle g) (by omega), fun _ => ⟨3 * (6 * hl w0 + c) + 0, by rw [pk_mul, Nat.add_zero], by omega, 3 * (6 * hl w0 + c) + 1, by rw [pk_mul, nI_add], by omega, 3 * (6 * hl w0 + c) + 2, by rw [pk_mul, nI_add], by omega, ?_⟩⟩
        have k := fun j hj => (hC.2.2.2.2.2.2.2.2.1 c hc j hj).2.1
        rw [e1.1 74 (by decide), k 0 (by omega), k 1 (by omega), k 2 (by omega)]
        refine ⟨_, c_M_joins (d := d) hC (e3.1.dm hC hDR) e1 e2 hc, ?_⟩
        rintro y w3 ⟨R2, g1, g2, g3⟩
        rw [nI_add, Nat.add_assoc]
        have grew : ¬ y = 0 → Gw w0 R R2 (nI 1) (∀ c', c' < c + 1 → ClC w0 R c') := fun g => ⟨e3.1.tr g3.1, Or.inr ⟨rfl, by
          rcases g3.2 with ⟨z1, -⟩ | ⟨-, r, a, b, z1, z2⟩
          · exact absurd z1 g
          · exact ⟨r, a, b, z1, fun k => z2 (e3.1.1 _ _ _ k)⟩⟩⟩
        have stay : y = 0 → ∀ x, x1 = x → Gw w0 R R2 x (∀ c', c' < c + 1 → ClC w0 R c') := by
          rintro g x rfl
          rcases g3.2 with ⟨-, rfl, z3⟩ | ⟨z1, -⟩
          · refine ⟨e3.1, e3.2.imp (fun ⟨k1, k2, k3⟩ => ⟨k1, k2, fun c' hc' => ?_⟩) id⟩
            by_cases e : c' = c
            · subst e; rw [k2] at z3; exact z3
            · exact k3 c' (by omega)
          · rw [z1] at g; exact absurd g (by decide)
        refine ⟨fun g => nx _ trivial R2 (nI 1) g1 g2 (grew g), fun g => ⟨fun g5 => nx _ trivial R2 (nI 0) g1 g2 (stay g _ g5), fun g5 => nx _ trivial R2 (nI 1) g1 g2 (stay g _ ?_)⟩⟩
        rcases e3.2 with ⟨z1, -⟩ | ⟨z1, -⟩
        · exact absurd z1 g5
        · exact z1
  exact key 100001 R0 w (by omega) hw h Ext.rf
end
