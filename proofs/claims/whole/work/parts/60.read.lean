/-! TEXT: what the class's reader does, as functions of worlds -/
abbrev tk (w : Wd) : Nat := N w 10 3
def cd (w : Wd) : Int32 := w.1 11 (tk w)
def adw (w : Wd) : Wd := up1 w 10 3 (nI (tk w + 1))
def flt (w : Wd) (n : Nat) : Wd := up1 w 24 3 (nI n + nI 16 * w.1 12 (tk w))
def nmb (lo hi : Nat) (w : Wd) : Int32 × Wd := if cd w < 0 then (-nI 1, flt w 1) else if cd w < nI lo ∨ nI hi < cd w then (-nI 1, flt w 4) else (cd w, adw w)
def sgs (c : Int32) (w : Wd) : Int32 × Wd := if cd w = c then (nI 1, adw w) else (nI 0, flt w 1)
/-- tokens at hand -/
def CV (w : Wd) : Prop := ∃ s, 1 ≤ s ∧ s ≤ 1201 ∧ w.1 10 2 = nI s ∧ w.1 11 (s - 1) = -nI 1 ∧ tk w < s ∧ w.1 10 3 = nI (tk w) ∧ ∀ j, j < s → ∃ q, q ≤ 1200 ∧ w.1 12 j = nI q
section
variable {w : Wd} {d : Nat}
theorem CV.adv (h : CV w) (hc : ¬ cd w = -nI 1) : CV (adw w) ∧ tk (adw w) = tk w + 1 := by
  obtain ⟨s, h1, h2, h3, h4, h5, h6, h7⟩ := h
  have e : tk (adw w) = tk w + 1 := N_of rfl
  refine ⟨⟨s, h1, h2, h3, h4, ?_, ?_, h7⟩, e⟩
  · rw [e]
    have : tk w ≠ s - 1 := fun x => hc (by unfold cd; rw [x]; exact h4)
    omega
  · rw [e]; rfl
theorem c_code (h : CV w) : EvI m_Tokens_code d [.ref 10] w (fun r w' => w' = w ∧ r = cd w) := by
  obtain ⟨s, h1, h2, h3, h4, h5, h6, -⟩ := h
  refine ev_Tokens_code (vc_Tokens_code_0 ?_)
  rw [h3, h6]
  exact ⟨fun g => absurd (gle g) (by omega), fun _ => ⟨fun g => absurd (glt g) (by omega), fun _ => ⟨tk w, rfl, by omega, rfl, rfl⟩⟩⟩
theorem c_place (h : CV w) : EvI m_Tokens_place d [.ref 10] w (fun r w' => w' = w ∧ r = w.1 12 (tk w)) := by
  obtain ⟨s, h1, h2, h3, h4, h5, h6, -⟩ := h
  refine ev_Tokens_place (vc_Tokens_place_0 ?_)
  rw [h3, h6]
  exact ⟨fun g => absurd (gle g) (by omega), fun _ => ⟨fun g => absurd (glt g) (by omega), fun _ => ⟨tk w, rfl, by omega, rfl, rfl⟩⟩⟩
theorem c_advance (h : CV w) : EvV m_Tokens_advance d [.ref 10] w (fun w' => w' = adw w) := by
  obtain ⟨s, h1, h2, h3, h4, h5, h6, -⟩ := h
  refine ev_Tokens_advance (vc_Tokens_advance_0 ?_)
  rw [h3, h6, nI_add]
  exact ⟨fun g => absurd (gle g) (by omega), fun _ => rfl⟩
theorem c_fail (h : CV w) (n : Nat) : EvI m_Reader_fail (d + 1) [.ref 24, .int (nI n)] w (fun r w' => w' = flt w n ∧ r = 0) := by
  refine ev_Reader_fail _ (vc_Reader_fail_0 _ ⟨_, c_place (d := d) h, ?_⟩)
  rintro r w1 ⟨rfl, rfl⟩
  exact ⟨Or.inl rfl, rfl, rfl⟩
theorem c_readNumber (h : CV w) (lo hi : Nat) : EvI m_Reader_readNumber (d + 2) [.ref 24, .int (nI lo), .int (nI hi)] w (fun r w' => w' = (nmb lo hi w).2 ∧ r = (nmb lo hi w).1) := by
  refine ev_Reader_readNumber _ _ (vc_Reader_readNumber_0 _ _ ⟨_, c_code (d := d + 1) h, ?_⟩)
  rintro r w1 ⟨rfl, rfl⟩
  have lt : ∀ x : Int32, 0 ≤ x ↔ ¬ x < 0 := fun x => by rw [i_le, i_lt, i_z]; omega
  have le : ∀ x y : Int32, x ≤ y ↔ ¬ y < x := fun x y => by rw [i_le, i_lt]; omega
  unfold nmb
  refine ⟨fun g => ?_, fun g => ⟨_, c_fail (d := d) h 1, ?_⟩⟩
  · rw [if_neg ((lt _).mp g)]
    refine ⟨fun g2 => ⟨_, c_fail (d := d) h 4, ?_⟩, fun g2 => ⟨fun g3 => ⟨_, c_advance (d := d + 1) h, ?_⟩, fun g3 => ⟨_, c_fail (d := d) h 4, ?_⟩⟩⟩
    · rintro r w2 ⟨rfl, rfl⟩
      rw [if_pos (Or.inl g2)]
      exact ⟨rfl, rfl⟩
    · rintro w2 rfl
      rw [if_neg (fun x => x.elim g2 (fun y => (le _ _).mp g3 y))]
      exact ⟨rfl, rfl⟩
    · rintro r w2 ⟨rfl, rfl⟩
      rw [if_pos (Or.inr (Classical.byContradiction (fun x => g3 ((le _ _).mpr x))))]
      exact ⟨rfl, rfl⟩
  · rintro r w2 ⟨rfl, rfl⟩
    rw [if_pos (Classical.byContradiction (fun x => g ((lt _).mpr x)))]
    exact ⟨rfl, rfl⟩
theorem c_readSign (h : CV w) (c : Int32) : EvI m_Reader_readSign (d + 2) [.ref 24, .int (c)] w (fun r w' => w' = (sgs c w).2 ∧ r = (sgs c w).1) := by
  refine ev_Reader_readSign _ (vc_Reader_readSign_0 _ ⟨_, c_code (d := d + 1) h, ?_⟩)
  rintro r w1 ⟨rfl, rfl⟩
  unfold sgs
  refine ⟨fun g => ⟨_, c_advance (d := d + 1) h, ?_⟩, fun g => ⟨_, c_fail (d := d) h 1, ?_⟩⟩
  · rintro w2 rfl
    rw [if_pos g]
    exact ⟨Or.inr rfl, rfl, rfl⟩
  · rintro r w2 ⟨rfl, rfl⟩
    rw [if_neg g]
    exact ⟨Or.inl rfl, rfl, rfl⟩
/-- a number that is none ends with a fault -/
theorem num_cases (lo hi : Nat) (hh : hi < 2147483648) (hlo : lo < 2147483648) : ((nmb lo hi w).1 = -nI 1 ∧ (nmb lo hi w).2 = flt w (if cd w < 0 then 1 else 4) ∧ (cd w < 0 ∨ (¬ cd w < 0 ∧ (cd w < nI lo ∨ nI hi < cd w)))) ∨ ∃ n, lo ≤ n ∧ n ≤ hi ∧ cd w = nI n ∧ nmb lo hi w = (nI n, adw w) := by
  unfold nmb
  by_cases g : cd w < 0
  · rw [if_pos g, if_pos g]; exact Or.inl ⟨rfl, rfl, Or.inl g⟩
  · rw [if_neg g, if_neg g]
    by_cases g2 : cd w < nI lo ∨ nI hi < cd w
    · rw [if_pos g2]; exact Or.inl ⟨rfl, rfl, Or.inr ⟨g, g2⟩⟩
    · rw [if_neg g2]
      obtain ⟨n, n0, e, -⟩ := i_nat (nlt0 g)
      have a : ¬ cd w < nI lo := fun x => g2 (Or.inl x)
      have b : ¬ nI hi < cd w := fun x => g2 (Or.inr x)
      rw [e] at a b ⊢
      exact Or.inr ⟨n, nglt a, nglt b, rfl, rfl⟩
theorem CV.fl (h : CV w) {n : Nat} (h1 : 1 ≤ n) (h2 : n ≤ 16) : ∃ F, 1 ≤ F ∧ F < 2147483648 ∧ (flt w n).1 24 3 = nI F ∧ ∃ q, q ≤ 1200 ∧ w.1 12 (tk w) = nI q ∧ F = n + 16 * q := by
  obtain ⟨s, -, -, -, -, h5, -, h7⟩ := h
  obtain ⟨q, q1, q2⟩ := h7 _ h5
  refine ⟨n + 16 * q, by omega, by omega, ?_, q, q1, q2, rfl⟩
  show nI n + nI 16 * w.1 12 (tk w) = _
  rw [q2, pk_mul, nI_add]
theorem CV.flN (h : CV w) {n : Nat} (h1 : 1 ≤ n) (h2 : n ≤ 16) : ¬ (flt w n).1 24 3 = 0 := by
  obtain ⟨F, f1, f2, f3, -⟩ := h.fl h1 h2
  rw [f3]
  intro e
  have := nI_inj (b := 0) f2 (by omega) e
  omega
end
/-! the draft -/
abbrev nd (w : Wd) : Nat := N w 13 0
abbrev nb (w : Wd) : Nat := N w 13 7
abbrev nc (w : Wd) : Nat := N w 13 9
abbrev itn (w : Wd) : Nat := N w 15 (nd w)
def addB (w : Wd) (x : Int32) : Wd := up1 (up1 w 20 (nb w) x) 13 7 (nI (nb w + 1))
def addC (w : Wd) (x y z : Int32) : Wd := up1 (up1 (up1 (up1 w 21 (nc w) x) 22 (nc w) y) 23 (nc w) z) 13 9 (nI (nc w + 1))
def addS (w : Wd) (x : Int32) : Wd := up1 w 13 13 (w.1 13 13 ||| (nI 1 <<< (x &&& 31)))
def openR (w : Wd) (x : Int32) : Wd := up1 (up1 (up1 (up1 w 14 (nd w) x) 15 (nd w) (nI 0)) 16 (nd w) (-nI 1)) 17 (nd w) (-nI 1)
def closeR (w : Wd) : Wd := up1 w 13 0 (nI (nd w + 1))
def addI (w : Wd) (k v : Int32) (role : Nat) : Wd := up1 (if role = 1 then up1 (up1 (up1 w 18 (nd w * 10 + itn w) k) 19 (nd w * 10 + itn w) v) 16 (nd w) (nI (itn w)) else if role = 2 then up1 (up1 (up1 w 18 (nd w * 10 + itn w) k) 19 (nd w * 10 + itn w) v) 17 (nd w) (nI (itn w)) else up1 (up1 w 18 (nd w * 10 + itn w) k) 19 (nd w * 10 + itn w) v) 15 (nd w) (nI (itn w + 1))
theorem u_o {w : Wd} {a k b j : Nat} {v : Int32} (h : ¬ (b = a ∧ j = k)) : (up1 w a k v).1 b j = w.1 b j := by rw [up1_1, if_neg h]
theorem u_s {w : Wd} {a k : Nat} {v : Int32} : (up1 w a k v).1 a k = v := by rw [up1_1, if_pos ⟨rfl, rfl⟩]
theorem adw_o {w : Wd} {b j : Nat} (h : ¬ (b = 10 ∧ j = 3)) : (adw w).1 b j = w.1 b j := u_o h
theorem flt_o {w : Wd} {n b j : Nat} (h : ¬ (b = 24 ∧ j = 3)) : (flt w n).1 b j = w.1 b j := u_o h
theorem addB_o {w : Wd} {x : Int32} {b j : Nat} (h : ¬ b = 20) (h2 : ¬ (b = 13 ∧ j = 7)) : (addB w x).1 b j = w.1 b j := (u_o h2).trans (u_o (fun e => h e.1))
theorem addC_o {w : Wd} {x y z : Int32} {b j : Nat} (h : ¬ (21 ≤ b ∧ b ≤ 23)) (h2 : ¬ (b = 13 ∧ j = 9)) : (addC w x y z).1 b j = w.1 b j := (u_o h2).trans ((u_o (by omega)).trans ((u_o (by omega)).trans (u_o (by omega))))
theorem addS_o {w : Wd} {x : Int32} {b j : Nat} (h2 : ¬ (b = 13 ∧ j = 13)) : (addS w x).1 b j = w.1 b j := u_o h2
theorem openR_o {w : Wd} {x : Int32} {b j : Nat} (h : ¬ (14 ≤ b ∧ b ≤ 17)) : (openR w x).1 b j = w.1 b j := (u_o (by omega)).trans ((u_o (by omega)).trans ((u_o (by omega)).trans (u_o (by omega))))
theorem closeR_o {w : Wd} {b j : Nat} (h : ¬ (b = 13 ∧ j = 0)) : (closeR w).1 b j = w.1 b j := u_o h
theorem addI_o {w : Wd} {k v : Int32} {role b j : Nat} (h : ¬ (15 ≤ b ∧ b ≤ 19)) : (addI w k v role).1 b j = w.1 b j := by
  unfold addI
  rw [u_o (by omega)]
  split
  · rw [u_o (by omega), u_o (by omega), u_o (by omega)]
  · split
    · rw [u_o (by omega), u_o (by omega), u_o (by omega)]
    · rw [u_o (by omega), u_o (by omega)]
def DV (w : Wd) : Prop := w.1 13 0 = nI (nd w) ∧ nd w ≤ 12 ∧ w.1 13 7 = nI (nb w) ∧ nb w ≤ 10 ∧ w.1 13 9 = nI (nc w) ∧ nc w ≤ 6
theorem DV.mv3 {w w' : Wd} (h : DV w) (e1 : w'.1 13 0 = w.1 13 0) (e2 : w'.1 13 7 = w.1 13 7) (e3 : w'.1 13 9 = w.1 13 9) : DV w' := by
  unfold DV nd nb nc N at *
  rw [e1, e2, e3]
  exact h
theorem DV.mv {w w' : Wd} (h : DV w) (e : w'.1 13 = w.1 13) : DV w' := h.mv3 (by rw [e]) (by rw [e]) (by rw [e])
def CVD (w : Wd) : Prop := CV w ∧ DV w ∧ w.1 24 3 = 0
def OV (w : Wd) : Prop := nd w < 12 ∧ w.1 15 (nd w) = nI (itn w) ∧ itn w ≤ 10
theorem OV.mv {w w' : Wd} (h : OV w) (e : w'.1 13 = w.1 13) (e2 : w'.1 15 = w.1 15) : OV w' := by
  unfold OV itn nd N at *
  rw [e, e2]
  exact h
theorem CV.mv {w w' : Wd} (h : CV w) (e : ∀ a, 10 ≤ a → a ≤ 12 → w'.1 a = w.1 a) : CV w' ∧ tk w' = tk w := by
  unfold CV tk N at *
  rw [e 10 (by omega) (by omega), e 11 (by omega) (by omega), e 12 (by omega) (by omega)]
  exact ⟨h, rfl⟩
def bN (p : Int32 × Wd) (k : Int32 → Wd → Wd) : Wd := if p.1 = -nI 1 then p.2 else k p.1 p.2
def bS (p : Int32 × Wd) (k : Wd → Wd) : Wd := if p.1 = 0 then p.2 else k p.2
def fBar (w : Wd) : Wd := if nb w < 10 then bN (nmb 1 100 (adw w)) (fun x w => bS (sgs (-nI 5) w) (fun w => addB w x)) else flt w 5
def fChain (w : Wd) : Wd := if nc w < 6 then bN (nmb 0 9 (adw w)) (fun x w => bS (sgs (-nI 4) w) (fun w => bN (nmb 0 9 w) (fun y w => bN (nmb 0 9 w) (fun z w => bS (sgs (-nI 5) w) (fun w => addC w x y z))))) else flt w 5
def fSing (w : Wd) : Wd := bN (nmb 0 9 (adw w)) (fun x w => bS (sgs (-nI 5) w) (fun w => addS w x))
def fSpec (role : Nat) (w : Wd) : Int32 × Wd := if cd w = -nI 13 then (if (nmb 1 100 (adw w)).1 = -nI 1 then (nI 0, (nmb 1 100 (adw w)).2) else (nI 1, addI (nmb 1 100 (adw w)).2 (nI 0) (nmb 1 100 (adw w)).1 role)) else if cd w = -nI 14 then (if (nmb 0 9 (adw w)).1 = -nI 1 then (nI 0, (nmb 0 9 (adw w)).2) else (nI 1, addI (nmb 0 9 (adw w)).2 (nI 1) (nmb 0 9 (adw w)).1 role)) else if cd w = -nI 15 then (nI 1, addI (adw w) (nI 2) (nI 0) role) else (nI 0, flt w 1)
def fItem (n : Nat) (w : Wd) : Int32 × Wd := if cd w = -nI 10 then (if ¬ w.1 16 (nd w) = -nI 1 then (nI 0, flt w 1) else if 10 ≤ n then (nI 0, flt w 5) else fSpec 1 (adw w)) else if cd w = -nI 11 then (if ¬ w.1 17 (nd w) = -nI 1 then (nI 0, flt w 1) else if 10 ≤ n then (nI 0, flt w 5) else fSpec 2 (adw w)) else if cd w = -nI 12 then (if 10 ≤ n then (nI 0, flt w 5) else (nI 1, addI (adw w) (nI 3) (nI 0) 0)) else if cd w = -nI 13 ∨ cd w = -nI 14 ∨ cd w = -nI 15 then (if 10 ≤ n then (nI 0, flt w 5) else fSpec 0 w) else (nI 0, flt w 1)
def fEnd (w : Wd) : Wd := if w.1 16 (nd w) = -nI 1 ∨ w.1 17 (nd w) = -nI 1 then flt w 1 else bS (sgs (-nI 5) w) closeR
def fItems : Nat → Wd → Wd
  | 0, w => fEnd w
  | m + 1, w => if cd w = -nI 5 then fEnd w else if (fItem (10 - m) w).1 = 0 then (fItem (10 - m) w).2 else fItems m (fItem (10 - m) w).2
def fRule (w : Wd) : Wd := if nd w < 12 then bN (nmb 0 9 (adw w)) (fun x w => bS (sgs (-nI 3) w) (fun w => fItems 11 (openR w x))) else flt w 5
def fStmt (w : Wd) : Wd := if cd w = -nI 9 then fSing w else if cd w = -nI 8 then fChain w else if cd w = -nI 7 then fBar w else if cd w = -nI 6 then fRule w else flt w 1
/-- behind a statement: a fault, or all in order and further on -/
def PO (w w' : Wd) : Prop := ¬ w'.1 24 3 = 0 ∨ (CVD w' ∧ tk w < tk w')
section
variable {w : Wd} {d : Nat}
theorem CVD.adv (h : CVD w) (hc : ¬ cd w = -nI 1) : CVD (adw w) ∧ tk (adw w) = tk w + 1 := ⟨⟨(h.1.adv hc).1, h.2.1.mv (up1_off 13 (by decide)), (adw_o (by decide)).trans h.2.2⟩, (h.1.adv hc).2⟩
theorem nI_m1 {n : Nat} (h : n < 2147483648) : ¬ nI n = -nI 1 := m1_ne n h
/-- behind a number -/
theorem CVD.num (h : CVD w) (lo hi : Nat) (hh : hi ≤ 100) (hl' : lo ≤ 100) : ((nmb lo hi w).1 = -nI 1 ∧ ¬ (nmb lo hi w).2.1 24 3 = 0) ∨ (∃ n, lo ≤ n ∧ n ≤ hi ∧ cd w = nI n ∧ nmb lo hi w = (nI n, adw w) ∧ CVD (adw w) ∧ tk (adw w) = tk w + 1) := by
  rcases num_cases (w := w) lo hi (by omega) (by omega) with ⟨a, b, -⟩ | ⟨n, a, b, c, e⟩
  · refine Or.inl ⟨a, ?_⟩
    rw [b]
    split
    · exact h.1.flN (by omega) (by omega)
    · exact h.1.flN (by omega) (by omega)
  · have := h.adv (by rw [c]; exact nI_m1 (by omega))
    exact Or.inr ⟨n, a, b, c, e, this.1, this.2⟩
theorem CVD.sig (h : CVD w) {c : Int32} (hc : ¬ c = -nI 1) : ((sgs c w).1 = nI 0 ∧ ¬ (sgs c w).2.1 24 3 = 0 ∧ ¬ cd w = c) ∨ (cd w = c ∧ sgs c w = (nI 1, adw w) ∧ CVD (adw w) ∧ tk (adw w) = tk w + 1) := by
  unfold sgs
  by_cases g : cd w = c
  · rw [if_pos g]
    have := h.adv (by rw [g]; exact hc)
    exact Or.inr ⟨g, rfl, this.1, this.2⟩
  · rw [if_neg g]
    exact Or.inl ⟨rfl, h.1.flN (by omega) (by omega), g⟩
theorem bN_f {p : Int32 × Wd} {k : Int32 → Wd → Wd} (h : p.1 = -nI 1) : bN p k = p.2 := if_pos h
theorem bN_t {p : Int32 × Wd} {k : Int32 → Wd → Wd} {n : Nat} {w' : Wd} (h : p = (nI n, w')) (hn : n ≤ 100) : bN p k = k (nI n) w' := by
  rw [h]
  exact if_neg (nI_m1 (by omega))
theorem bS_f {p : Int32 × Wd} {k : Wd → Wd} (h : p.1 = nI 0) : bS p k = p.2 := if_pos h
theorem bS_t {p : Int32 × Wd} {k : Wd → Wd} {w' : Wd} (h : p = (nI 1, w')) : bS p k = k w' := by
  rw [h]
  exact if_neg (show ¬ nI 1 = 0 by decide)
theorem num_k (h : CVD w) (lo hi : Nat) (hh : hi ≤ 100) (hl' : lo ≤ 100) {A : Wd → Prop} {B : Int32 → Wd → Prop} (hA : (nmb lo hi w).1 = -nI 1 → ¬ (nmb lo hi w).2.1 24 3 = 0 → A (nmb lo hi w).2) (hB : ∀ n, lo ≤ n → n ≤ hi → cd w = nI n → nmb lo hi w = (nI n, adw w) → CVD (adw w) → tk (adw w) = tk w + 1 → B (nI n) (adw w)) : ∃ Q : Int32 → Wd → Prop, EvI m_Reader_readNumber (d + 2) [.ref 24, .int (nI lo), .int (nI hi)] w Q ∧ ∀ r w', Q r w' → ((r = -nI 1 → A w') ∧ (¬ r = -nI 1 → B r w')) := by
  refine ⟨_, c_readNumber (d := d) h.1 lo hi, ?_⟩
  rintro r w' ⟨rfl, rfl⟩
  rcases h.num lo hi hh hl' with ⟨a, b⟩ | ⟨n, n1, n2, n3, e, h2, t2⟩
  · exact ⟨fun _ => hA a b, fun g => absurd a g⟩
  · have := hB n n1 n2 n3 e h2 t2
    rw [e]
    exact ⟨fun g => absurd g (nI_m1 (by omega)), fun _ => this⟩
theorem num_k' (h : CVD w) (lo hi : Nat) (hh : hi ≤ 100) (hl' : lo ≤ 100) {A : Wd → Prop} {B : Int32 → Wd → Prop} (hA : (nmb lo hi w).1 = -nI 1 → ¬ (nmb lo hi w).2.1 24 3 = 0 → A (nmb lo hi w).2) (hB : ∀ n, lo ≤ n → n ≤ hi → cd w = nI n → nmb lo hi w = (nI n, adw w) → CVD (adw w) → tk (adw w) = tk w + 1 → B (nI n) (adw w)) : ∃ Q : Int32 → Wd → Prop, EvI m_Reader_readNumber (d + 2) [.ref 24, .int (nI lo), .int (nI hi)] w Q ∧ ∀ r w', Q r w' → ((¬ r = -nI 1 → B r w') ∧ (r = -nI 1 → A w')) := by
  obtain ⟨Q, q1, q2⟩ := num_k (d := d) h lo hi hh hl' hA hB
  exact ⟨Q, q1, fun r w' x => ⟨(q2 r w' x).2, (q2 r w' x).1⟩⟩
theorem sig_k (h : CVD w) (c : Int32) (hc : ¬ c = -nI 1) {A : Wd → Prop} {B : Wd → Prop} (hA : (sgs c w).1 = nI 0 → ¬ (sgs c w).2.1 24 3 = 0 → A (sgs c w).2) (hB : cd w = c → sgs c w = (nI 1, adw w) → CVD (adw w) → tk (adw w) = tk w + 1 → B (adw w)) : ∃ Q : Int32 → Wd → Prop, EvI m_Reader_readSign (d + 2) [.ref 24, .int (c)] w Q ∧ ∀ r w', Q r w' → ((r = 0 → A w') ∧ (¬ r = 0 → B w')) := by
  refine ⟨_, c_readSign (d := d) h.1 c, ?_⟩
  rintro r w' ⟨rfl, rfl⟩
  rcases h.sig hc with ⟨a, b, -⟩ | ⟨c1, e, h2, t2⟩
  · exact ⟨fun _ => hA a b, fun g => absurd a g⟩
  · have := hB c1 e h2 t2
    rw [e]
    exact ⟨fun g => absurd (show nI 1 = 0 from g) (by decide), fun _ => this⟩
theorem sig_k' (h : CVD w) (c : Int32) (hc : ¬ c = -nI 1) {A : Wd → Prop} {B : Wd → Prop} (hA : (sgs c w).1 = nI 0 → ¬ (sgs c w).2.1 24 3 = 0 → A (sgs c w).2) (hB : cd w = c → sgs c w = (nI 1, adw w) → CVD (adw w) → tk (adw w) = tk w + 1 → B (adw w)) : ∃ Q : Int32 → Wd → Prop, EvI m_Reader_readSign (d + 2) [.ref 24, .int (c)] w Q ∧ ∀ r w', Q r w' → ((¬ r = 0 → B w') ∧ (r = 0 → A w')) := by
  obtain ⟨Q, q1, q2⟩ := sig_k (d := d) h c hc hA hB
  exact ⟨Q, q1, fun r w' x => ⟨(q2 r w' x).2, (q2 r w' x).1⟩⟩
theorem c_readBar (h : CVD w) (hc : ¬ cd w = -nI 1) : EvV m_Reader_readBar (d + 3) [.ref 24] w (fun w' => w' = fBar w ∧ PO w w') := by
  obtain ⟨h1, t1⟩ := h.adv hc
  obtain ⟨-, -, b1, b2, -⟩ := h.2.1
  refine ev_Reader_readBar (vc_Reader_readBar_0 ⟨_, ev_Book_bars_d (d := d + 2) (vc_Book_bars_d_0 (Q := fun r w' => w' = w ∧ r = nI (nb w)) ⟨rfl, b1⟩), ?_⟩)
  rintro r w1 ⟨rfl, rfl⟩
  refine ⟨fun g => ⟨_, c_advance (d := d + 2) h.1, ?_⟩, fun g => ⟨_, c_fail (d := d + 1) h.1 5, ?_⟩⟩
  · rintro w2 rfl
    have g := glt g
    have E : fBar w1 = bN (nmb 1 100 (adw w1)) (fun x w => bS (sgs (-nI 5) w) (fun w => addB w x)) := if_pos g
    refine num_k (d := d) h1 1 100 (by omega) (by omega) (fun a b => ⟨by rw [E, bN_f a], Or.inl b⟩) (fun n n1 n2 n3 e h2 t2 => ?_)
    refine sig_k (d := d) h2 (-nI 5) (by decide) (fun a b => ⟨by rw [E, bN_t e n2, bS_f a], Or.inl b⟩) (fun c1 e2 h3 t3 => ?_)
    generalize hw6 : adw (adw (adw w1)) = w6 at *
    have e13 : w6.1 13 7 = nI (nb w1) := by rw [← hw6, adw_o (by decide), adw_o (by decide), adw_o (by decide)]; exact b1
    have en : nb w6 = nb w1 := N_of e13
    refine ⟨_, ev_Book_addBar_d _ (vc_Book_addBar_d_0 _ (Q := fun w' => w' = addB w6 (nI n)) ?_), ?_⟩
    · rw [e13, nI_add]
      exact ⟨fun g => absurd (gle g) (by omega), fun _ => ⟨nb w1, rfl, g, by unfold addB; rw [en]⟩⟩
    · rintro w2 rfl
      have m := h3.1.mv (w' := addB w6 (nI n)) (fun a _ _ => (up1_off a (by omega)).trans (up1_off a (by omega)))
      refine ⟨by rw [E, bN_t e n2, bS_t e2], Or.inr ⟨⟨m.1, ?_, (addB_o (by decide) (by decide)).trans h3.2.2⟩, ?_⟩⟩
      · obtain ⟨d1, d2, d3, d4, d5, d6⟩ := h3.2.1
        have x7 : (addB w6 (nI n)).1 13 7 = nI (nb w1 + 1) := by unfold addB; rw [u_s, en]
        have x : nb (addB w6 (nI n)) = nb w1 + 1 := N_of x7
        have y0 : (addB w6 (nI n)).1 13 0 = w6.1 13 0 := addB_o (by decide) (by decide)
        have y9 : (addB w6 (nI n)).1 13 9 = w6.1 13 9 := addB_o (by decide) (by decide)
        unfold DV
        rw [x, x7, show nd (addB w6 (nI n)) = nd w6 from N_cg y0, show nc (addB w6 (nI n)) = nc w6 from N_cg y9, y0, y9]
        exact ⟨d1, d2, rfl, by omega, d5, d6⟩
      · rw [m.2]; omega
  · rintro r w2 ⟨rfl, rfl⟩
    have g := nglt g
    exact ⟨(if_neg (by omega)).symm, Or.inl (h.1.flN (by omega) (by omega))⟩
theorem c_readChain (h : CVD w) (hc : ¬ cd w = -nI 1) : EvV m_Reader_readChain (d + 3) [.ref 24] w (fun w' => w' = fChain w ∧ PO w w') := by
  obtain ⟨h1, t1⟩ := h.adv hc
  obtain ⟨-, -, -, -, b1, b2⟩ := h.2.1
  refine ev_Reader_readChain (vc_Reader_readChain_0 ⟨_, ev_Book_chains_d (d := d + 2) (vc_Book_chains_d_0 (Q := fun r w' => w' = w ∧ r = nI (nc w)) ⟨rfl, b1⟩), ?_⟩)
  rintro r w1 ⟨rfl, rfl⟩
  refine ⟨fun g => ⟨_, c_advance (d := d + 2) h.1, ?_⟩, fun g => ⟨_, c_fail (d := d + 1) h.1 5, ?_⟩⟩
  · rintro w2 rfl
    have g := glt g
    have E : fChain w1 = bN (nmb 0 9 (adw w1)) (fun x w => bS (sgs (-nI 4) w) (fun w => bN (nmb 0 9 w) (fun y w => bN (nmb 0 9 w) (fun z w => bS (sgs (-nI 5) w) (fun w => addC w x y z))))) := if_pos g
    refine num_k (d := d) h1 0 9 (by omega) (by omega) (fun a b => ⟨by rw [E, bN_f a], Or.inl b⟩) (fun n n1 n2 n3 e h2 t2 => ?_)
    refine sig_k' (d := d) h2 (-nI 4) (by decide) (fun a b => ⟨by rw [E, bN_t e (by omega), bS_f a], Or.inl b⟩) (fun c1 e2 h3 t3 => ?_)
    refine num_k' (d := d) h3 0 9 (by omega) (by omega) (fun a b => ⟨by rw [E, bN_t e (by omega), bS_t e2, bN_f a], Or.inl b⟩) (fun n' n1' n2' n3' e3 h4 t4 => ?_)
    refine num_k (d := d) h4 0 9 (by omega) (by omega) (fun a b => ⟨by rw [E, bN_t e (by omega), bS_t e2, bN_t e3 (by omega), bN_f a], Or.inl b⟩) (fun n'' n1'' n2'' n3'' e4 h5 t5 => ?_)
    refine sig_k (d := d) h5 (-nI 5) (by decide) (fun a b => ⟨by rw [E, bN_t e (by omega), bS_t e2, bN_t e3 (by omega), bN_t e4 (by omega), bS_f a], Or.inl b⟩) (fun c1' e5 h6 t6 => ?_)
    generalize hw6 : adw (adw (adw (adw (adw (adw w1))))) = w6 at *
    have e13 : w6.1 13 9 = nI (nc w1) := by rw [← hw6, adw_o (by decide), adw_o (by decide), adw_o (by decide), adw_o (by decide), adw_o (by decide), adw_o (by decide)]; exact b1
    have en : nc w6 = nc w1 := N_of e13
    refine ⟨_, ev_Book_addChain_d _ _ _ (vc_Book_addChain_d_0 _ _ _ (Q := fun w' => w' = addC w6 (nI n) (nI n') (nI n'')) ?_), ?_⟩
    · rw [e13, nI_add]
      refine ⟨fun g => absurd (gle g) (by omega), fun _ => ⟨nc w1, rfl, g, nc w1, rfl, g, nc w1, rfl, g, ?_⟩⟩
      unfold addC
      rw [en]
    · rintro w2 rfl
      have m := h6.1.mv (w' := addC w6 (nI n) (nI n') (nI n'')) (fun a _ _ => (up1_off a (by omega)).trans ((up1_off a (by omega)).trans ((up1_off a (by omega)).trans (up1_off a (by omega)))))
      refine ⟨by rw [E, bN_t e (by omega), bS_t e2, bN_t e3 (by omega), bN_t e4 (by omega), bS_t e5], Or.inr ⟨⟨m.1, ?_, (addC_o (by decide) (by decide)).trans h6.2.2⟩, ?_⟩⟩
      · obtain ⟨d1, d2, d3, d4, d5, d6⟩ := h6.2.1
        have x9 : (addC w6 (nI n) (nI n') (nI n'')).1 13 9 = nI (nc w1 + 1) := by unfold addC; rw [u_s, en]
        have x : nc (addC w6 (nI n) (nI n') (nI n'')) = nc w1 + 1 := N_of x9
        have y0 : (addC w6 (nI n) (nI n') (nI n'')).1 13 0 = w6.1 13 0 := addC_o (by decide) (by decide)
        have y7 : (addC w6 (nI n) (nI n') (nI n'')).1 13 7 = w6.1 13 7 := addC_o (by decide) (by decide)
        unfold DV
        rw [x, x9, show nd (addC w6 (nI n) (nI n') (nI n'')) = nd w6 from N_cg y0, show nb (addC w6 (nI n) (nI n') (nI n'')) = nb w6 from N_cg y7, y0, y7]
        exact ⟨d1, d2, d3, d4, rfl, by omega⟩
      · rw [m.2]; omega
  · rintro r w2 ⟨rfl, rfl⟩
    have g := nglt g
    exact ⟨(if_neg (by omega)).symm, Or.inl (h.1.flN (by omega) (by omega))⟩
theorem c_readSingle (h : CVD w) (hc : ¬ cd w = -nI 1) : EvV m_Reader_readSingle (d + 3) [.ref 24] w (fun w' => w' = fSing w ∧ PO w w') := by
  obtain ⟨h1, t1⟩ := h.adv hc
  refine ev_Reader_readSingle (vc_Reader_readSingle_0 ⟨_, c_advance (d := d + 2) h.1, ?_⟩)
  rintro w2 rfl
  have E : fSing w = bN (nmb 0 9 (adw w)) (fun x w => bS (sgs (-nI 5) w) (fun w => addS w x)) := rfl
  refine num_k (d := d) h1 0 9 (by omega) (by omega) (fun a b => ⟨by rw [E, bN_f a], Or.inl b⟩) (fun n n1 n2 n3 e h2 t2 => ?_)
  refine sig_k (d := d) h2 (-nI 5) (by decide) (fun a b => ⟨by rw [E, bN_t e (by omega), bS_f a], Or.inl b⟩) (fun c1 e2 h3 t3 => ?_)
  generalize hw6 : adw (adw (adw w)) = w6 at *
  refine ⟨_, ev_Book_addSingle_d _ (vc_Book_addSingle_d_0 _ (Q := fun w' => w' = addS w6 (nI n)) ⟨_, c_isRelation (d := d + 1) _, ?_⟩), ?_⟩
  · rintro r w2 ⟨rfl, hr⟩
    exact ⟨fun g => absurd (isRl_nI (by omega)) (hr.z g), fun _ => rfl⟩
  · rintro w2 rfl
    have m := h3.1.mv (w' := addS w6 (nI n)) (fun a _ _ => up1_off a (by omega))
    refine ⟨by rw [E, bN_t e (by omega), bS_t e2], Or.inr ⟨⟨m.1, ?_, (addS_o (by decide)).trans h3.2.2⟩, ?_⟩⟩
    · exact h3.2.1.mv3 (addS_o (by decide)) (addS_o (by decide)) (addS_o (by decide))
    · rw [m.2]; omega
end
