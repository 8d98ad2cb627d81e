/-! TEXT: the reference beside the class: chains and single ones -/
/-- behind a fault that both have -/
def FSt (h : Nat) (u0 w' U : Wd) : Prop := FU U ∧ PFr h u0 U ∧ Bd w' U ∧ U.1 58 11 = nI h
theorem FSt.up {h : Nat} {u0 w' U : Wd} (F : FSt h u0 w' U) {a k : Nat} {v : Int32} (hp : PC h a k) (h8 : ¬ (a = 58 ∧ k = 8)) (h11 : ¬ (a = 58 ∧ k = 11)) : FSt h u0 w' (up1 U a k v) :=
  ⟨F.1.mv (u_o (by omega)), F.2.1.tr (PFr.up hp), F.2.2.1.mv (u_o (by omega)), (u_o (by omega)).trans F.2.2.2⟩
theorem FSt.rl {h : Nat} {u0 w' U : Wd} (F : FSt h u0 w' U) : Rl h u0 w' U := ⟨F.2.1, Or.inr F.2.2.1⟩
def X5 (Q : Wd → Prop) (U : Wd) : Prop := ∃ j6 : Nat, (U.1 58 11) = nI j6 ∧ j6 < 2 ∧ ∃ j7 : Nat, (U.1 58 11) = nI j7 ∧ j7 < 2 ∧ Q (up1 U 73 j7 ((U.1 73 j6) + (nI 1)))
def X4 (d : Nat) (Q : Wd → Prop) (x : Int32) (U : Wd) (r : Int32) : Prop := ∃ j5 : Nat, (x + (nI 2)) = nI j5 ∧ j5 < 36 ∧ ∃ Q5 : Wd → Prop, EvV m_M_takeSign d [.ref 58, .int (nI 59)] (up1 U 74 j5 r) Q5 ∧ ∀ w5 : Wd, Q5 w5 → X5 Q w5
def X3 (d : Nat) (Q : Wd → Prop) (x : Int32) (U : Wd) (r : Int32) : Prop := ∃ j4 : Nat, (x + (nI 1)) = nI j4 ∧ j4 < 36 ∧ ∃ Q4 : Int32 → Wd → Prop, EvI m_M_takeNumber d [.ref 58, .int (nI 0), .int (nI 9)] (up1 U 74 j4 r) Q4 ∧ ∀ (r4 : Int32) (w4 : Wd), Q4 r4 w4 → X4 d Q x w4 r4
def X2 (d : Nat) (Q : Wd → Prop) (x : Int32) (U : Wd) : Prop := ∃ Q3 : Int32 → Wd → Prop, EvI m_M_takeNumber d [.ref 58, .int (nI 0), .int (nI 9)] U Q3 ∧ ∀ (r3 : Int32) (w3 : Wd), Q3 r3 w3 → X3 d Q x w3 r3
def X1 (d : Nat) (Q : Wd → Prop) (x : Int32) (U : Wd) (r : Int32) : Prop := ∃ j3 : Nat, x = nI j3 ∧ j3 < 36 ∧ ∃ Q2 : Wd → Prop, EvV m_M_takeSign d [.ref 58, .int (nI 61)] (up1 U 74 j3 r) Q2 ∧ ∀ w2 : Wd, Q2 w2 → X2 d Q x w2
section
variable {h : Nat} {w u w' U : Wd} {d : Nat} {Q : Wd → Prop} {x r : Int32} {K : Nat}
theorem b5 (h2 : h < 2) (F : FSt h u w' U) (hq : ∀ u', Rl h u w' u' → Q u') : X5 Q U := ⟨h, F.2.2.2, h2, h, F.2.2.2, h2, hq _ (F.up (by unfold PC; omega) (by omega) (by omega)).rl⟩
theorem b4 (h2 : h < 2) (hK : K < 6) (hx : x = nI (3 * (6 * h + K))) (F : FSt h u w' U) (hq : ∀ u', Rl h u w' u' → Q u') : X4 (d + 1) Q x U r := by
  have F1 : FSt h u w' (up1 U 74 (3 * (6 * h + K) + 2) r) := F.up (by unfold PC; omega) (by omega) (by omega)
  refine ⟨3 * (6 * h + K) + 2, by rw [hx, nI_add], by omega, _, c_takeSignF (d := d) F1.1 _, ?_⟩
  rintro w5 rfl
  exact b5 h2 F1 hq
theorem b3 (h2 : h < 2) (hK : K < 6) (hx : x = nI (3 * (6 * h + K))) (F : FSt h u w' U) (hq : ∀ u', Rl h u w' u' → Q u') : X3 (d + 1) Q x U r := by
  have F1 : FSt h u w' (up1 U 74 (3 * (6 * h + K) + 1) r) := F.up (by unfold PC; omega) (by omega) (by omega)
  refine ⟨3 * (6 * h + K) + 1, by rw [hx, nI_add], by omega, _, c_takeNumberF (d := d) F1.1 _ _, ?_⟩
  rintro r5 w5 ⟨rfl, rfl⟩
  exact b4 h2 hK hx (F1.up (by unfold PC; omega) (by omega) (by omega)) hq
theorem b2 (h2 : h < 2) (hK : K < 6) (hx : x = nI (3 * (6 * h + K))) (F : FSt h u w' U) (hq : ∀ u', Rl h u w' u' → Q u') : X2 (d + 1) Q x U := by
  refine ⟨_, c_takeNumberF (d := d) F.1 _ _, ?_⟩
  rintro r5 w5 ⟨rfl, rfl⟩
  exact b3 h2 hK hx (F.up (by unfold PC; omega) (by omega) (by omega)) hq
theorem b1' (h2 : h < 2) (hK : K < 6) (hx : x = nI (3 * (6 * h + K))) (F : FSt h u w' U) (hq : ∀ u', Rl h u w' u' → Q u') : X1 (d + 1) Q x U r := by
  have F1 : FSt h u w' (up1 U 74 (3 * (6 * h + K)) r) := F.up (by unfold PC; omega) (by omega) (by omega)
  refine ⟨3 * (6 * h + K), hx, by omega, _, c_takeSignF (d := d) F1.1 _, ?_⟩
  rintro w5 rfl
  exact b2 h2 hK hx F1 hq
theorem FSt.num {u1 : Wd} (f1 : PFr h u u1) (e11 : u1.1 58 11 = nI h) {u' : Wd} (hu' : ∃ F v, u' = up1 (up1 u1 58 8 F) 58 7 v) (B : Bd w' u') (F : FU u') : FSt h u w' u' := by
  obtain ⟨F0, v0, rfl⟩ := hu'
  exact ⟨F, f1.tr ((PFr.p (by omega)).tr (PFr.p (by omega))), B, by rw [u_o (by omega), u_o (by omega)]; exact e11⟩
theorem FSt.sg {u1 : Wd} (f1 : PFr h u u1) (e11 : u1.1 58 11 = nI h) {u' : Wd} (hu' : ∃ F, u' = up1 u1 58 8 F) (B : Bd w' u') (F : FU u') : FSt h u w' u' := by
  obtain ⟨F0, rfl⟩ := hu'
  exact ⟨F, f1.tr (PFr.p (by omega)), B, by rw [u_o (by omega)]; exact e11⟩
/-- in step, and what has changed is known -/
def IS (h : Nat) (C : Nat → Nat → Prop) (u0 w U : Wd) : Prop := Sy w U ∧ CVD w ∧ PFr h u0 U ∧ ∀ a k, ¬ (a = 58 ∧ k = 7) → ¬ C a k → U.1 a k = u0.1 a k
theorem IS.up {C : Nat → Nat → Prop} (I : IS h C u w U) {a k : Nat} {v : Int32} (hp : PC h a k) (hC : C a k) (ha : a ≠ 58) : IS h C u w (up1 U a k v) := by
  have := hp
  have n60 : a ≠ 60 := fun e => by unfold PC at this; omega
  have n61 : a ≠ 61 := fun e => by unfold PC at this; omega
  exact ⟨I.1.mv (fun _ _ _ => rfl) (u_o (by omega)) (u_o (by omega)) (up1_off 60 (fun e => n60 e.symm)) (up1_off 61 (fun e => n61 e.symm)) (up1_2 _ _ _ _), I.2.1, I.2.2.1.tr (PFr.up hp), fun b j h1 h2 => by
    rw [u_o (fun e => h2 (by rw [e.1, e.2]; exact hC))]
    exact I.2.2.2 b j h1 h2⟩
theorem IS.to {C : Nat → Nat → Prop} (I : IS h C u w U) {w2 : Wd} {v : Int32} (S : Sy w2 (up1 U 58 7 v)) (hv : CVD w2) : IS h C u w2 (up1 U 58 7 v) := ⟨S, hv, I.2.2.1.tr (PFr.p (by omega)), fun b j h1 h2 => by
  rw [u_o h1]
  exact I.2.2.2 b j h1 h2⟩
end
section
variable {h : Nat} {w u : Wd} {d : Nat}
def C74 (h K a k : Nat) : Prop := a = 74 ∧ 3 * (6 * h + K) ≤ k ∧ k < 3 * (6 * h + K) + 3
theorem c_M_readChain (G : Gd h w u) (hc : cd w = -nI 8) : EvV m_M_readChain (d + 2) [.ref 58] u (fun u' => Rl h u (fChain w) u') := by
  obtain ⟨S, ⟨hn, h2⟩, hv, D⟩ := id G
  obtain ⟨d1, d2, d3, d4, ⟨d5, d5'⟩, d6, d7⟩ := id D
  have hc1 : ¬ cd w = -nI 1 := by rw [hc]; decide
  obtain ⟨hv1, tk1⟩ := hv.adv hc1
  refine ev_M_readChain (vc_M_readChain_0 ⟨h, hn, h2, fun g => ⟨h, hn, h2, ?_⟩, fun g => ⟨_, c_wrong (d := d + 1) S 5, ?_⟩⟩)
  · rw [d5'] at g
    have hb : nc w < 6 := by
      rcases Nat.lt_or_ge (nc w) 6 with x | x
      · exact x
      · exact absurd (by rw [show nc w = 6 by omega]) g
    have E : fChain w = bN (nmb 0 9 (adw w)) (fun x w => bS (sgs (-nI 4) w) (fun w => bN (nmb 0 9 w) (fun y w => bN (nmb 0 9 w) (fun z w => bS (sgs (-nI 5) w) (fun w => addC w x y z))))) := if_pos hb
    have I0 : IS h (C74 h (nc w)) u w u := ⟨S, hv, PFr.rf, fun _ _ _ _ => rfl⟩
    have I1 := I0.to (S.next hc1) hv1
    rw [S.at, nI_add]
    have hx : nI 3 * (nI 6 * u.1 58 11 + u.1 73 h) = nI (3 * (6 * h + nc w)) := by rw [hn, d5', pk_mul, nI_add, pk_mul]
    generalize nI 3 * (nI 6 * u.1 58 11 + u.1 73 h) = xx at *
    generalize up1 u 58 7 (nI (tk w + 1)) = u1 at *
    have i11 : ∀ {w2 U : Wd}, IS h (C74 h (nc w)) u w2 U → U.1 58 11 = nI h := fun I => (I.2.2.2 58 11 (by omega) (by unfold C74; omega)).trans hn
    refine rnum (d := d) (P := fun r1 w1 => X1 (d + 1) (fun u' => Rl h u (fChain w) u') xx w1 r1) I1.1 hv1 (by omega) (by omega) (fun n n1 n2 en hv2 S2 => ?_) (fun u' hu' e0 B F => ?_)
    · have I2 := I1.to S2 hv2
      have I2' := I2.up (a := 74) (k := 3 * (6 * h + nc w)) (v := nI n) (by unfold PC; omega) (by unfold C74; omega) (by decide)
      refine ⟨3 * (6 * h + nc w), hx, by omega, ?_⟩
      have c0 : (up1 (up1 u1 58 7 (nI (tk (adw w) + 1))) 74 (3 * (6 * h + nc w)) (nI n)).1 74 (3 * (6 * h + nc w)) = nI n := u_s
      generalize up1 (up1 u1 58 7 (nI (tk (adw w) + 1))) 74 (3 * (6 * h + nc w)) (nI n) = u2 at *
      refine rsig (d := d) I2'.1 hv2 (k := 61) (c := -nI 4) (by omega) (by decide) (by decide) (fun e3 hv3 S4 => ?_) (fun u' hu' e0 B F => ?_)
      · have I3 := I2'.to S4 hv3
        have c0 : (up1 u2 58 7 (nI (tk (adw (adw w)) + 1))).1 74 (3 * (6 * h + nc w)) = nI n := (u_o (by omega)).trans c0
        generalize up1 u2 58 7 (nI (tk (adw (adw w)) + 1)) = u3 at *
        refine rnum (d := d) (P := fun r1 w1 => X3 (d + 1) (fun u' => Rl h u (fChain w) u') xx w1 r1) I3.1 hv3 (by omega) (by omega) (fun n' n1' n2' en' hv4 S5 => ?_) (fun u' hu' e0 B F => ?_)
        · have I4 := (I3.to S5 hv4).up (a := 74) (k := 3 * (6 * h + nc w) + 1) (v := nI n') (by unfold PC; omega) (by unfold C74; omega) (by decide)
          refine ⟨3 * (6 * h + nc w) + 1, by rw [hx, nI_add], by omega, ?_⟩
          have c0 : (up1 (up1 u3 58 7 (nI (tk (adw (adw (adw w))) + 1))) 74 (3 * (6 * h + nc w) + 1) (nI n')).1 74 (3 * (6 * h + nc w)) = nI n := (u_o (by omega)).trans ((u_o (by omega)).trans c0)
          have c1 : (up1 (up1 u3 58 7 (nI (tk (adw (adw (adw w))) + 1))) 74 (3 * (6 * h + nc w) + 1) (nI n')).1 74 (3 * (6 * h + nc w) + 1) = nI n' := u_s
          generalize up1 (up1 u3 58 7 (nI (tk (adw (adw (adw w))) + 1))) 74 (3 * (6 * h + nc w) + 1) (nI n') = u4 at *
          refine rnum (d := d) (P := fun r1 w1 => X4 (d + 1) (fun u' => Rl h u (fChain w) u') xx w1 r1) I4.1 hv4 (by omega) (by omega) (fun n'' n1'' n2'' en'' hv5 S6 => ?_) (fun u' hu' e0 B F => ?_)
          · have I5 := (I4.to S6 hv5).up (a := 74) (k := 3 * (6 * h + nc w) + 2) (v := nI n'') (by unfold PC; omega) (by unfold C74; omega) (by decide)
            refine ⟨3 * (6 * h + nc w) + 2, by rw [hx, nI_add], by omega, ?_⟩
            have c0 : (up1 (up1 u4 58 7 (nI (tk (adw (adw (adw (adw w)))) + 1))) 74 (3 * (6 * h + nc w) + 2) (nI n'')).1 74 (3 * (6 * h + nc w)) = nI n := (u_o (by omega)).trans ((u_o (by omega)).trans c0)
            have c1 : (up1 (up1 u4 58 7 (nI (tk (adw (adw (adw (adw w)))) + 1))) 74 (3 * (6 * h + nc w) + 2) (nI n'')).1 74 (3 * (6 * h + nc w) + 1) = nI n' := (u_o (by omega)).trans ((u_o (by omega)).trans c1)
            have c2 : (up1 (up1 u4 58 7 (nI (tk (adw (adw (adw (adw w)))) + 1))) 74 (3 * (6 * h + nc w) + 2) (nI n'')).1 74 (3 * (6 * h + nc w) + 2) = nI n'' := u_s
            generalize up1 (up1 u4 58 7 (nI (tk (adw (adw (adw (adw w)))) + 1))) 74 (3 * (6 * h + nc w) + 2) (nI n'') = u5 at *
            refine rsig (d := d) I5.1 hv5 (k := 59) (c := -nI 5) (by omega) (by decide) (by decide) (fun e6 hv6 S7 => ?_) (fun u' hu' e0 B F => ?_)
            · have I6 := I5.to S7 hv6
              have c0 : (up1 u5 58 7 (nI (tk (adw (adw (adw (adw (adw w))))) + 1))).1 74 (3 * (6 * h + nc w)) = nI n := (u_o (by omega)).trans c0
              have c1 : (up1 u5 58 7 (nI (tk (adw (adw (adw (adw (adw w))))) + 1))).1 74 (3 * (6 * h + nc w) + 1) = nI n' := (u_o (by omega)).trans c1
              have c2 : (up1 u5 58 7 (nI (tk (adw (adw (adw (adw (adw w))))) + 1))).1 74 (3 * (6 * h + nc w) + 2) = nI n'' := (u_o (by omega)).trans c2
              generalize up1 u5 58 7 (nI (tk (adw (adw (adw (adw (adw w))))) + 1)) = u6 at *
              have r73 : u6.1 73 h = nI (nc w) := (I6.2.2.2 73 h (by omega) (by unfold C74; omega)).trans d5'
              refine ⟨h, i11 I6, h2, h, i11 I6, h2, ?_⟩
              rw [r73, nI_add]
              have Ef : fChain w = addC (adw (adw (adw (adw (adw (adw w)))))) (nI n) (nI n') (nI n'') := by
                rw [E, bN_t en (by omega), bS_t e3, bN_t en' (by omega), bN_t en'' (by omega), bS_t e6]
              have nc6 : nc (adw (adw (adw (adw (adw (adw w)))))) = nc w := by rw [(nb_adw _).2.1, (nb_adw _).2.1, (nb_adw _).2.1, (nb_adw _).2.1, (nb_adw _).2.1, (nb_adw _).2.1]
              have cw : ∀ a k, 13 ≤ a → a ≤ 23 → (adw (adw (adw (adw (adw (adw w)))))).1 a k = w.1 a k := fun a k _ _ => by
                rw [adw_o (by omega), adw_o (by omega), adw_o (by omega), adw_o (by omega), adw_o (by omega), adw_o (by omega)]
              show Rl h u (fChain w) _
              rw [Ef]
              generalize adw (adw (adw (adw (adw (adw w))))) = w6 at *
              refine ⟨I6.2.2.1.tr (PFr.up (by unfold PC; omega)), Or.inl ⟨?_, ⟨by rw [u_o (by omega)]; exact i11 I6, h2⟩, (hv6.adC (by rw [nc6]; exact hb) _ _ _).1, ?_⟩⟩
              · exact I6.1.mv (fun a _ _ => funext fun j => addC_o (by omega) (by omega)) (u_o (by omega)) (u_o (by omega)) (up1_off 60 (by decide)) (up1_off 61 (by decide)) (up1_2 _ _ _ _)
              · have D6 : Dr h w6 u := D.mv cw (fun _ _ _ _ => rfl)
                refine D6.chain (by rw [nc6]; exact hb) (by omega) (by omega) (by omega) (fun a k h1 h3 h4 h5 => ?_) (by rw [u_s, nc6]) (fun k => ?_)
                · rw [u_o h4]
                  exact I6.2.2.2 a k (by omega) (by unfold C74; omega)
                · rw [u_o (by omega), nc6]
                  by_cases x2 : k = 3 * (6 * h + nc w) + 2
                  · rw [if_pos x2, x2, c2]
                  · rw [if_neg x2]
                    by_cases x1 : k = 3 * (6 * h + nc w) + 1
                    · rw [if_pos x1, x1, c1]
                    · rw [if_neg x1]
                      by_cases x0 : k = 3 * (6 * h + nc w)
                      · rw [if_pos x0, x0, c0]
                      · rw [if_neg x0]
                        exact I6.2.2.2 74 k (by omega) (by unfold C74; omega)
            · have Ef : (sgs (-nI 5) (adw (adw (adw (adw (adw w)))))).2 = fChain w := by rw [E, bN_t en (by omega), bS_t e3, bN_t en' (by omega), bN_t en'' (by omega), bS_f e0]
              rw [Ef] at B
              exact b5 h2 (FSt.sg I5.2.2.1 (i11 I5) hu' B F) (fun _ k => k)
          · have Ef : (nmb 0 9 (adw (adw (adw (adw w))))).2 = fChain w := by rw [E, bN_t en (by omega), bS_t e3, bN_t en' (by omega), bN_f e0]
            rw [Ef] at B
            exact b4 h2 hb hx (FSt.num I4.2.2.1 (i11 I4) hu' B F) (fun _ k => k)
        · have Ef : (nmb 0 9 (adw (adw (adw w)))).2 = fChain w := by rw [E, bN_t en (by omega), bS_t e3, bN_f e0]
          rw [Ef] at B
          exact b3 h2 hb hx (FSt.num I3.2.2.1 (i11 I3) hu' B F) (fun _ k => k)
      · have Ef : (sgs (-nI 4) (adw (adw w))).2 = fChain w := by rw [E, bN_t en (by omega), bS_f e0]
        rw [Ef] at B
        exact b2 h2 hb hx (FSt.sg I2'.2.2.1 (i11 I2') hu' B F) (fun _ k => k)
    · have Ef : (nmb 0 9 (adw w)).2 = fChain w := by rw [E, bN_f e0]
      rw [Ef] at B
      exact b1' h2 hb hx (FSt.num I1.2.2.1 (i11 I1) hu' B F) (fun _ k => k)
  · rintro w11 rfl
    rw [d5'] at g
    have : nc w = 6 := nI_inj (by omega) (by omega) g
    refine ⟨PFr.p (by omega), Or.inr ?_⟩
    have E : fChain w = flt w 5 := if_neg (by omega)
    rw [E]
    exact (Bd.of hv.1 (by omega) (by omega) (by rw [u_s])).1
end
