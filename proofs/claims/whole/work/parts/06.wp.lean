/-! MANY STEPS: 'wp .. n pc': from pc on, up to a stop, at most n steps -/
abbrev Prog : Type := List (Nat × Instr)
def prOK (μ : MI) (P : Prog) : Bool := P.all fun q => match decode (mB μ) q.1 with
  | .ok (i, len) => decide (i = q.2) && (Nat.beq (ln i) 0 || Nat.beq len (ln i))
  | _ => false
def wp (μ : MI) (P : Prog) (S : List (Nat × List Nat)) (d : Nat) (Q : Option Value → Wd → Prop) : Nat → Nat → List (Nat × Value) → List Value → Wd → Prop
  | 0, _, _, _, _ => False
  | n + 1, pc, lv, st, w => ot (tget P pc) fun i => stp μ d Q i pc lv st w fun pc' lv' st' w' => match tget S pc' with
    | some ks => Z μ d Q pc' (lpick lv' ks) st' w'
    | none => wp μ P S d Q n pc' lv' st' w'
theorem z_pick {μ : MI} {d : Nat} {Q : Option Value → Wd → Prop} {pc : Nat} {lv : List (Nat × Value)} {st : List Value} {w : Wd} (ks : List Nat) (h : Z μ d Q pc (lpick lv ks) st w) : Z μ d Q pc lv st w :=
  fun p l e s m args below meth c G cA ad hC hF hI H locs ls hP hS hl => h p l e s m args below meth c G cA ad hC hF hI H locs ls hP hS (lvc_pick ks hl)
theorem wp_ok {μ : MI} {P : Prog} {S : List (Nat × List Nat)} {d : Nat} {Q : Option Value → Wd → Prop} (ho : (mY μ).cls = clN.getD (mK μ) "") (hP : prOK μ P = true) : ∀ (n pc : Nat) (lv : List (Nat × Value)) (st : List Value) (w : Wd), wp μ P S d Q n pc lv st w → Z μ d Q pc lv st w := by
  intro n
  induction n with
  | zero => intro pc lv st w h; exact h.elim
  | succ n ih =>
    intro pc lv st w h
    obtain ⟨i, hi, h⟩ := ot_inv h
    have h1 := List.all_eq_true.mp hP _ (tget_mem hi)
    dsimp only at h1
    split at h1
    · rename_i i2 len hd
      rw [Bool.and_eq_true, decide_eq_true_eq, Bool.or_eq_true] at h1
      obtain ⟨e1, h2⟩ := h1
      subst e1
      refine stp_ok ho hd (h2.imp Nat.eq_of_beq_eq_true Nat.eq_of_beq_eq_true) ?_ h
      intro pc' lv' st' w' hk
      split at hk
      · exact z_pick _ hk
      · exact ih _ _ _ _ hk
    · cases h1
