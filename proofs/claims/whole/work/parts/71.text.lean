/-! TEXT: what the reader leaves as it is; the reference's loop -/
def CFr (w w' : Wd) : Prop := (∀ a k, ¬ (a = 10 ∨ (13 ≤ a ∧ a ≤ 24)) → w'.1 a k = w.1 a k) ∧ w'.2 = w.2
theorem CFr.rf {w : Wd} : CFr w w := ⟨fun _ _ _ => rfl, rfl⟩
theorem CFr.tr {w w1 w2 : Wd} (h : CFr w w1) (h2 : CFr w1 w2) : CFr w w2 := ⟨fun a k g => (h2.1 a k g).trans (h.1 a k g), h2.2.trans h.2⟩
theorem CFr.up {w : Wd} {a k : Nat} {v : Int32} (h : a = 10 ∨ (13 ≤ a ∧ a ≤ 24)) : CFr w (up1 w a k v) := ⟨fun b j g => u_o (fun e => g (by rw [e.1]; exact h)), up1_2 _ _ _ _⟩
section
variable {w : Wd}
theorem q_adw : CFr w (adw w) := CFr.up (by omega)
theorem q_flt (n : Nat) : CFr w (flt w n) := CFr.up (by omega)
theorem q_num (lo hi : Nat) : CFr w (nmb lo hi w).2 := by
  unfold nmb
  split
  · exact q_flt 1
  · split
    · exact q_flt 4
    · exact q_adw
theorem q_sig (c : Int32) : CFr w (sgs c w).2 := by
  unfold sgs
  split
  · exact q_adw
  · exact q_flt 1
theorem q_bN {p : Int32 × Wd} {k : Int32 → Wd → Wd} (h : CFr w p.2) (hk : ∀ x w1, CFr w1 (k x w1)) : CFr w (bN p k) := by
  unfold bN
  split
  · exact h
  · exact h.tr (hk _ _)
theorem q_bS {p : Int32 × Wd} {k : Wd → Wd} (h : CFr w p.2) (hk : ∀ w1, CFr w1 (k w1)) : CFr w (bS p k) := by
  unfold bS
  split
  · exact h
  · exact h.tr (hk _)
theorem q_addB (x : Int32) : CFr w (addB w x) := (CFr.up (by omega)).tr (CFr.up (by omega))
theorem q_addC (x y z : Int32) : CFr w (addC w x y z) := (((CFr.up (by omega)).tr (CFr.up (by omega))).tr (CFr.up (by omega))).tr (CFr.up (by omega))
theorem q_addS (x : Int32) : CFr w (addS w x) := CFr.up (by omega)
theorem q_openR (x : Int32) : CFr w (openR w x) := (((CFr.up (by omega)).tr (CFr.up (by omega))).tr (CFr.up (by omega))).tr (CFr.up (by omega))
theorem q_closeR : CFr w (closeR w) := CFr.up (by omega)
theorem q_addI (k v : Int32) (role : Nat) : CFr w (addI w k v role) := by
  unfold addI
  refine CFr.tr (w1 := if role = 1 then _ else _) ?_ (CFr.up (by omega))
  split
  · exact ((CFr.up (by omega)).tr (CFr.up (by omega))).tr (CFr.up (by omega))
  · split
    · exact ((CFr.up (by omega)).tr (CFr.up (by omega))).tr (CFr.up (by omega))
    · exact (CFr.up (by omega)).tr (CFr.up (by omega))
theorem q_bar : CFr w (fBar w) := by
  unfold fBar
  split
  · exact q_bN (q_adw.tr (q_num _ _)) (fun x w1 => q_bS (q_sig _) (fun w2 => q_addB _))
  · exact q_flt 5
theorem q_chain : CFr w (fChain w) := by
  unfold fChain
  split
  · exact q_bN (q_adw.tr (q_num _ _)) (fun x w1 => q_bS (q_sig _) (fun w2 => q_bN (q_num _ _) (fun y w3 => q_bN (q_num _ _) (fun z w4 => q_bS (q_sig _) (fun w5 => q_addC _ _ _)))))
  · exact q_flt 5
theorem q_sing : CFr w (fSing w) := by
  unfold fSing
  exact q_bN (q_adw.tr (q_num _ _)) (fun x w1 => q_bS (q_sig _) (fun w2 => q_addS _))
theorem q_spec (role : Nat) : CFr w (fSpec role w).2 := by
  unfold fSpec
  split
  · split
    · exact q_adw.tr (q_num _ _)
    · exact (q_adw.tr (q_num _ _)).tr (q_addI _ _ _)
  · split
    · split
      · exact q_adw.tr (q_num _ _)
      · exact (q_adw.tr (q_num _ _)).tr (q_addI _ _ _)
    · split
      · exact q_adw.tr (q_addI _ _ _)
      · exact q_flt 1
theorem q_item (n : Nat) : CFr w (fItem n w).2 := by
  unfold fItem
  split
  · split
    · exact q_flt 1
    · split
      · exact q_flt 5
      · exact q_adw.tr (q_spec _)
  · split
    · split
      · exact q_flt 1
      · split
        · exact q_flt 5
        · exact q_adw.tr (q_spec _)
    · split
      · split
        · exact q_flt 5
        · exact q_adw.tr (q_addI _ _ _)
      · split
        · split
          · exact q_flt 5
          · exact q_spec _
        · exact q_flt 1
theorem q_end : CFr w (fEnd w) := by
  unfold fEnd
  split
  · exact q_flt 1
  · exact q_bS (q_sig _) (fun _ => q_closeR)
theorem q_items : ∀ m (w : Wd), CFr w (fItems m w)
  | 0, w => q_end
  | m + 1, w => by
    rw [fItems]
    split
    · exact q_end
    · split
      · exact q_item _
      · exact (q_item _).tr (q_items m _)
theorem q_rule : CFr w (fRule w) := by
  unfold fRule
  split
  · exact q_bN (q_adw.tr (q_num _ _)) (fun x w1 => q_bS (q_sig _) (fun w2 => (q_openR _).tr (q_items _ _)))
  · exact q_flt 5
theorem q_stmt : CFr w (fStmt w) := by
  unfold fStmt
  split
  · exact q_sing
  · split
    · exact q_chain
    · split
      · exact q_bar
      · split
        · exact q_rule
        · exact q_flt 1
theorem q_read : ∀ n (w : Wd), CFr w (fRead n w)
  | 0, w => CFr.rf
  | n + 1, w => by
    rw [fRead]
    split
    · exact CFr.rf
    · split
      · exact CFr.rf
      · exact q_stmt.tr (q_read n _)
end
theorem tok0 {c s : Int32} {v : Int64} (h : TokE c s v) : s = nI 0 ↔ c = -nI 1 := by
  rcases h with (⟨n, m1, rfl, rfl, rfl⟩ | ⟨j, hj, rfl, rfl⟩ | ⟨i, hi, rfl, rfl, rfl⟩ | ⟨rfl, hs⟩) | ⟨rfl, rfl⟩
  · exact ⟨fun x => absurd x (by decide), fun x => absurd x (nI_m1 (by omega))⟩
  · refine ⟨fun x => absurd x (by decide), fun x => ?_⟩
    rcases hj with ⟨-, rfl⟩ | ⟨-, rfl⟩ | ⟨-, rfl⟩ <;> exact absurd x (by decide)
  · exact ⟨fun x => absurd x (by decide), fun x => absurd x.symm (cdk_d i hi).2.1⟩
  · refine ⟨fun x => ?_, fun x => absurd x (by decide)⟩
    rcases hs with rfl | ⟨rfl, -⟩ <;> exact absurd x (by decide)
  · exact ⟨fun _ => rfl, fun _ => rfl⟩
section
variable {h d : Nat} {u0 : Wd}
theorem Bd.fu {w u : Wd} (B : Bd w u) : FU u ∧ ¬ w.1 24 3 = 0 := by
  obtain ⟨F, a, b, c, e⟩ := B
  refine ⟨⟨F, a, b, e⟩, fun x => ?_⟩
  rw [c] at x
  have := nI_inj (b := 0) b (by omega) x
  omega
theorem c_M_loop {x : Int32} {Q : Int32 → Wd → Prop} : ∀ n w u, (Gd h w u ∨ Bd w u) → PFr h u0 u → (¬ (fRead n w).1 24 3 = 0 ∨ cd (fRead n w) = -nI 1) → (∀ u', PFr h u0 u' → Gd h (fRead n w) u' → Q (nI 0) (up1 (up1 u' 58 10 (nI h)) 58 34 (nI 1))) → (∀ u', PFr h u0 u' → Bd (fRead n w) u' → Q (u'.1 58 8) u') → Z m_M_text (d + 7) (qI Q) 78 [(0, .ref 58), (1, .int (x))] [] u := by
  have bad : ∀ n w u, Bd w u → PFr h u0 u → (∀ u', PFr h u0 u' → Bd (fRead n w) u' → Q (u'.1 58 8) u') → Z m_M_text (d + 7) (qI Q) 78 [(0, .ref 58), (1, .int (x))] [] u := fun n w u B f hb => by
    have e : fRead n w = w := by
      cases n with
      | zero => rfl
      | succ n => rw [fRead, if_pos B.fu.2]
    rw [e] at hb
    exact vc_M_text_78 _ ⟨fun g => ⟨fun _ => hb u f B, fun g2 => absurd g2 g⟩, fun g => absurd g B.fu.1.n.1⟩
  have ends : ∀ w u, Gd h w u → cd w = -nI 1 → PFr h u0 u → (∀ u', PFr h u0 u' → Gd h w u' → Q (nI 0) (up1 (up1 u' 58 10 (nI h)) 58 34 (nI 1))) → Z m_M_text (d + 7) (qI Q) 78 [(0, .ref 58), (1, .int (x))] [] u := fun w u G hc f hg => by
    obtain ⟨te, t2⟩ := G.1.tok
    have z := (tok0 te).mpr hc
    have := hg u f G
    refine vc_M_text_78 _ ⟨fun g => absurd G.f8 g, fun _ => ⟨tk w, G.at, t2, fun _ => ⟨fun g => absurd G.f8 g, fun _ => ⟨Or.inr rfl, ?_⟩⟩, fun g => absurd z g⟩⟩
    rw [G.f8, G.2.1.1]
    exact this
  intro n
  induction n with
  | zero =>
    intro w u hGB f he hg hb
    rcases hGB with G | B
    · refine ends w u G ?_ f hg
      exact he.elim (fun z => absurd G.2.2.1.2.2 z) id
    · exact bad 0 w u B f hb
  | succ n ih =>
    intro w u hGB f he hg hb
    rcases hGB with G | B
    · have f0 : ¬ ¬ w.1 24 3 = 0 := fun z => z G.2.2.1.2.2
      by_cases hc : cd w = -nI 1
      · have e : fRead (n + 1) w = w := by rw [fRead, if_neg f0, if_pos hc]
        rw [e] at hg
        exact ends w u G hc f hg
      · have e : fRead (n + 1) w = fRead n (fStmt w) := by rw [fRead, if_neg f0, if_neg hc]
        rw [e] at he hg hb
        obtain ⟨te, t2⟩ := G.1.tok
        refine vc_M_text_78 _ ⟨fun g => absurd G.f8 g, fun _ => ⟨tk w, G.at, t2, fun g => absurd ((tok0 te).mp g) hc, fun _ => ⟨_, c_M_statement (d := d) G, ?_⟩⟩⟩
        rintro u1 ⟨f1, r1⟩
        exact ih (fStmt w) u1 r1 (f.tr f1) he hg hb
    · exact bad (n + 1) w u B f hb
end
/-- the held half, with the sentences: finds and rows are the same -/
theorem Hf.sem {w w' : Wd} (H : Hf w w') (hB : BkI w) (e30 : w'.1 58 30 = w.1 58 30) (r : ∀ a, a = 76 ∨ a = 77 ∨ (79 ≤ a ∧ a ≤ 81) → w'.1 a = w.1 a) : SemF w w' ∧ SemR w w' := by
  have ecm : cm w' = cm w := N_cg e30
  have el : ∀ s, len w' s = len w s := fun s => N_cg (by rw [r 79 (by omega)])
  have ew : ∀ s p, wrd w' s p = wrd w s p := fun s p => N_cg (by rw [r 80 (by omega)])
  have ht : ∀ s, thr w' s ↔ thr w s := fun s => by show w'.1 81 s = 0 ↔ w.1 81 s = 0; rw [r 81 (by omega)]
  have eF : ∀ s k l t, Fnd w' s k l t ↔ Fnd w s k l t := fun s k l t => H.FndE hB (el s) (fun p _ => ⟨ew s p, by rw [r 76 (by omega)]⟩) (by rw [ecm]) (ht s) k l t
  have eBr : ∀ s, Brr w' s ↔ Brr w s := fun s => H.BrrE hB (el s) (fun p _ => ew s p)
  refine ⟨⟨ecm, eF, fun s _ => eBr s, fun s _ => ht s⟩, ?_⟩
  have n12 := hB.2.1.1
  have n6 := hB.2.2.2.2.2.1.1
  have eB : ∀ r a b, Bs w' r a b ↔ Bs w r a b := fun r0 a b => by
    unfold Bs
    rw [nmOf_mv2 (r 77 (by omega))]
    constructor
    · rintro ⟨s, k, l, t, h1, h2, h3, h4, h5⟩
      have h1' := (eF s k l t).mp h1
      have hk : k < 12 := by have := h1'.2.2.1; omega
      rw [H.rlE hk] at h3
      rw [ew] at h4 h5
      exact ⟨s, k, l, t, h1', fun x => h2 ((eBr s).mpr x), h3, h4, h5⟩
    · rintro ⟨s, k, l, t, h1, h2, h3, h4, h5⟩
      have hk : k < 12 := by have := h1.2.2.1; omega
      exact ⟨s, k, l, t, (eF s k l t).mpr h1, fun x => h2 ((eBr s).mp x), by rw [H.rlE hk]; exact h3, by rw [ew]; exact h4, by rw [ew]; exact h5⟩
  have ech : ∀ c, c < nch w → ∀ j, j < 3 → chn w' c j = chn w c j := fun c hc j hj => N_cg2 (H.chnE (by omega) hj)
  have eC : ∀ R, Cl w' R ↔ Cl w R := fun R => by
    unfold Cl
    rw [H.nchE]
    constructor
    · intro x c hc a b e h1 h2
      have := x c hc a b e
      rw [ech c hc 0 (by omega), ech c hc 1 (by omega), ech c hc 2 (by omega)] at this
      exact this h1 h2
    · intro x c hc a b e
      rw [ech c hc 0 (by omega), ech c hc 1 (by omega), ech c hc 2 (by omega)]
      exact x c hc a b e
  intro r0 a b
  unfold Rw
  constructor
  · intro x R h1 h2
    exact x R (fun r a b k => h1 r a b ((eB r a b).mp k)) ((eC R).mpr h2)
  · intro x R h1 h2
    exact x R (fun r a b k => h1 r a b ((eB r a b).mpr k)) ((eC R).mp h2)
