theorem pI_inv {st : List Value} {f : Int32 → List Value → Prop} (h : pI st f) : ∃ v t, st = .int v :: t ∧ f v t := by
  unfold pI at h
  split at h
  · exact ⟨_, _, rfl, h⟩
  · exact h.elim
theorem pL_inv {st : List Value} {f : Int64 → List Value → Prop} (h : pL st f) : ∃ v t, st = .long v :: t ∧ f v t := by
  unfold pL at h
  split at h
  · exact ⟨_, _, rfl, h⟩
  · exact h.elim
theorem pR_inv {st : List Value} {f : Nat → List Value → Prop} (h : pR st f) : ∃ v t, st = .ref v :: t ∧ f v t := by
  unfold pR at h
  split at h
  · exact ⟨_, _, rfl, h⟩
  · exact h.elim
theorem pIs_inv {st : List Value} {f : Int32 → Prop} (h : pIs st f) : ∃ v, st = [.int v] ∧ f v := by
  unfold pIs at h
  split at h
  · exact ⟨_, rfl, h⟩
  · exact h.elim
theorem ldI_inv {lv : List (Nat × Value)} {k : Nat} {f : Int32 → Prop} (h : ldI lv k f) : ∃ v, lget lv k = some (.int v) ∧ f v := by
  unfold ldI at h
  split at h
  · exact ⟨_, by assumption, h⟩
  · exact h.elim
theorem ldL_inv {lv : List (Nat × Value)} {k : Nat} {f : Int64 → Prop} (h : ldL lv k f) : ∃ v, lget lv k = some (.long v) ∧ f v := by
  unfold ldL at h
  split at h
  · exact ⟨_, by assumption, h⟩
  · exact h.elim
theorem ldR_inv {lv : List (Nat × Value)} {k : Nat} {f : Nat → Prop} (h : ldR lv k f) : ∃ v, lget lv k = some (.ref v) ∧ f v := by
  unfold ldR at h
  split at h
  · exact ⟨_, by assumption, h⟩
  · exact h.elim
theorem ot_inv {α : Type} {o : Option α} {f : α → Prop} (h : ot o f) : ∃ x, o = some x ∧ f x := by
  unfold ot at h
  split at h
  · exact ⟨_, rfl, h⟩
  · exact h.elim
theorem bo_inv {b : Bool} {P : Prop} (h : bo b P) : b = true ∧ P := by
  cases b
  · exact h.elim
  · exact ⟨rfl, h⟩
theorem jp_inv {pc : Nat} {off : Int} {f : Nat → Prop} (h : jp pc off f) : ∃ t : Nat, (pc : Int) + off = (t : Int) ∧ f t := by
  unfold jp at h
  split at h
  · exact ⟨_, by assumption, h⟩
  · exact h.elim
theorem aok_inv {ty ty2 : FieldType} {P : Prop} (h : aok ty ty2 P) : ty = ty2 ∧ P ∧ (ty = .int ∨ ty = .boolean ∨ ty = .char ∨ ty = .long) := by
  unfold aok at h
  split at h
  · exact ⟨rfl, h, Or.inl rfl⟩
  · exact ⟨rfl, h, Or.inr (Or.inl rfl)⟩
  · exact ⟨rfl, h, Or.inr (Or.inr (Or.inl rfl))⟩
  · exact ⟨rfl, h, Or.inr (Or.inr (Or.inr rfl))⟩
  · exact h.elim
theorem ga_inv {a : Nat} {q : FieldType × Nat} (h : ga a = some q) : shp[a]? = some (.inr q) ∧ q.2 < 2 ^ 31 := by
  unfold ga at h
  cases hx : shp[a]? with
  | none => rw [hx] at h; cases h
  | some z =>
    rw [hx] at h
    cases z with
    | inl z => cases h
    | inr z =>
      cases h
      refine ⟨rfl, ?_⟩
      have h1 := List.all_eq_true.mp shp_small _ (List.mem_of_getElem? hx)
      have h2 : Nat.ble q.2 200000 = true := h1
      have h3 := Nat.le_of_ble_eq_true h2
      omega
theorem shp_id {a : Nat} {x : Shp} (h : shp[a]? = some x) : a < NS := by
  have h1 : a < shp.length := (List.getElem?_eq_some_iff.mp h).1
  rw [shp_len] at h1
  exact h1
theorem isC_inv {a ci : Nat} (h : isC a ci = true) : ∃ fs, shp[a]? = some (.inl (ci, fs)) := by
  unfold isC at h
  split at h
  · rename_i c2 fs hx
    have e := Nat.eq_of_beq_eq_true h
    subst e
    exact ⟨fs, hx⟩
  · cases h
theorem gv_inv {w : Wd} {a ci k : Nat} {v : Value} (h : gv w a ci k = some v) : ∃ fs o, shp[a]? = some (.inl (ci, fs)) ∧ fs[k]? = some o ∧ (∀ ad, cv ad v = fv ad w a k o) := by
  unfold gv at h
  split at h
  · rename_i c2 fs hx
    cases hb : Nat.beq c2 ci with
    | false => rw [hb] at h; cases h
    | true =>
      rw [hb] at h
      have e := Nat.eq_of_beq_eq_true hb
      subst e
      simp only [cond_true] at h
      split at h
      · cases h; exact ⟨fs, _, hx, by assumption, fun _ => rfl⟩
      · cases h; exact ⟨fs, _, hx, by assumption, fun _ => rfl⟩
      · cases h
  · cases h
theorem gp_inv {a ci k : Nat} (h : gp a ci k = true) : ∃ fs, shp[a]? = some (.inl (ci, fs)) ∧ fs[k]? = some none := by
  unfold gp at h
  split at h
  · rename_i c2 fs hx
    rw [Bool.and_eq_true] at h
    have e := Nat.eq_of_beq_eq_true h.1
    subst e
    refine ⟨fs, hx, ?_⟩
    have h2 := h.2
    split at h2
    · assumption
    · cases h2
  · cases h
theorem in_ws {μ : MI} {w : Cond} (h : w ∈ TT) : w ∈ wsM μ := List.mem_cons_of_mem _ h
theorem z_iload_n {μ : MI} {d : Nat} {Q : Option Value → Wd → Prop} {pc : Nat} {lv : List (Nat × Value)} {st : List Value} {w : Wd} {k : Fin 4} {x : Int32} (hd : decode (mB μ) pc = .ok (.iload_n k, 1)) (hg : lget lv k = some (.int x)) (k : Z μ d Q (pc + 1) lv (.int x :: st) w) : Z μ d Q pc lv st w := fun p l e s m args below meth c G cA ad hC hF hI H locs ls hP hS hl => lv_iload_n hC.1 hC.2.1 hd rfl (lvc_get hl hg) (k p l e s m args below meth c G cA ad hC hF hI H locs ls hP hS hl)
theorem z_iload {μ : MI} {d : Nat} {Q : Option Value → Wd → Prop} {pc : Nat} {lv : List (Nat × Value)} {st : List Value} {w : Wd} {k : Nat} {x : Int32} (hd : decode (mB μ) pc = .ok (.iload k, 2)) (hg : lget lv k = some (.int x)) (k : Z μ d Q (pc + 2) lv (.int x :: st) w) : Z μ d Q pc lv st w := fun p l e s m args below meth c G cA ad hC hF hI H locs ls hP hS hl => lv_iload hC.1 hC.2.1 hd (lvc_get hl hg) (k p l e s m args below meth c G cA ad hC hF hI H locs ls hP hS hl)
theorem z_lload_n {μ : MI} {d : Nat} {Q : Option Value → Wd → Prop} {pc : Nat} {lv : List (Nat × Value)} {st : List Value} {w : Wd} {k : Fin 4} {x : Int64} (hd : decode (mB μ) pc = .ok (.lload_n k, 1)) (hg : lget lv k = some (.long x)) (k : Z μ d Q (pc + 1) lv (.long x :: st) w) : Z μ d Q pc lv st w := fun p l e s m args below meth c G cA ad hC hF hI H locs ls hP hS hl => lv_lload_n hC.1 hC.2.1 hd rfl (lvc_get hl hg) (k p l e s m args below meth c G cA ad hC hF hI H locs ls hP hS hl)
theorem z_lload {μ : MI} {d : Nat} {Q : Option Value → Wd → Prop} {pc : Nat} {lv : List (Nat × Value)} {st : List Value} {w : Wd} {k : Nat} {x : Int64} (hd : decode (mB μ) pc = .ok (.lload k, 2)) (hg : lget lv k = some (.long x)) (k : Z μ d Q (pc + 2) lv (.long x :: st) w) : Z μ d Q pc lv st w := fun p l e s m args below meth c G cA ad hC hF hI H locs ls hP hS hl => lv_lload hC.1 hC.2.1 hd (lvc_get hl hg) (k p l e s m args below meth c G cA ad hC hF hI H locs ls hP hS hl)
theorem z_aload_n {μ : MI} {d : Nat} {Q : Option Value → Wd → Prop} {pc : Nat} {lv : List (Nat × Value)} {st : List Value} {w : Wd} {k : Fin 4} {x : Nat} (hd : decode (mB μ) pc = .ok (.aload_n k, 1)) (hg : lget lv k = some (.ref x)) (k : Z μ d Q (pc + 1) lv (.ref x :: st) w) : Z μ d Q pc lv st w := fun p l e s m args below meth c G cA ad hC hF hI H locs ls hP hS hl => lv_aload_n hC.1 hC.2.1 hd rfl (lvc_get hl hg) (k p l e s m args below meth c G cA ad hC hF hI H locs ls hP hS hl)
theorem z_aload {μ : MI} {d : Nat} {Q : Option Value → Wd → Prop} {pc : Nat} {lv : List (Nat × Value)} {st : List Value} {w : Wd} {k : Nat} {x : Nat} (hd : decode (mB μ) pc = .ok (.aload k, 2)) (hg : lget lv k = some (.ref x)) (k : Z μ d Q (pc + 2) lv (.ref x :: st) w) : Z μ d Q pc lv st w := fun p l e s m args below meth c G cA ad hC hF hI H locs ls hP hS hl => lv_aload hC.1 hC.2.1 hd (lvc_get hl hg) (k p l e s m args below meth c G cA ad hC hF hI H locs ls hP hS hl)
theorem z_istore_n {μ : MI} {d : Nat} {Q : Option Value → Wd → Prop} {pc : Nat} {lv : List (Nat × Value)} {st : List Value} {w : Wd} {k : Fin 4} {x : Int32} (hd : decode (mB μ) pc = .ok (.istore_n k, 1)) (hb : (k : Nat) < mL μ) (kk : Z μ d Q (pc + 1) (lput1 lv k (.int x)) st w) : Z μ d Q pc lv (.int x :: st) w := fun p l e s m args below meth c G cA ad hC hF hI H locs ls hP hS hl => lv_istore_n (lv' := lvc ad (lput1 lv k (.int x))) hC.1 hC.2.1 hd rfl hl hb (lvc_put1 ad lv k (.int x)) (fun ls hl => kk p l e s m args below meth c G cA ad hC hF hI H locs ls hP hS hl)
theorem z_istore {μ : MI} {d : Nat} {Q : Option Value → Wd → Prop} {pc : Nat} {lv : List (Nat × Value)} {st : List Value} {w : Wd} {k : Nat} {x : Int32} (hd : decode (mB μ) pc = .ok (.istore k, 2)) (hb : (k : Nat) < mL μ) (kk : Z μ d Q (pc + 2) (lput1 lv k (.int x)) st w) : Z μ d Q pc lv (.int x :: st) w := fun p l e s m args below meth c G cA ad hC hF hI H locs ls hP hS hl => lv_istore (lv' := lvc ad (lput1 lv k (.int x))) hC.1 hC.2.1 hd hl hb (lvc_put1 ad lv k (.int x)) (fun ls hl => kk p l e s m args below meth c G cA ad hC hF hI H locs ls hP hS hl)
theorem z_lstore_n {μ : MI} {d : Nat} {Q : Option Value → Wd → Prop} {pc : Nat} {lv : List (Nat × Value)} {st : List Value} {w : Wd} {k : Fin 4} {x : Int64} (hd : decode (mB μ) pc = .ok (.lstore_n k, 1)) (hb : (k : Nat) + 1 < mL μ) (kk : Z μ d Q (pc + 1) (lput2 lv k (.long x)) st w) : Z μ d Q pc lv (.long x :: st) w := fun p l e s m args below meth c G cA ad hC hF hI H locs ls hP hS hl => lv_lstore_n (lv' := lvc ad (lput2 lv k (.long x))) hC.1 hC.2.1 hd rfl hl hb (lvc_put2 ad lv k (.long x)) (fun ls hl => kk p l e s m args below meth c G cA ad hC hF hI H locs ls hP hS hl)
theorem z_lstore {μ : MI} {d : Nat} {Q : Option Value → Wd → Prop} {pc : Nat} {lv : List (Nat × Value)} {st : List Value} {w : Wd} {k : Nat} {x : Int64} (hd : decode (mB μ) pc = .ok (.lstore k, 2)) (hb : (k : Nat) + 1 < mL μ) (kk : Z μ d Q (pc + 2) (lput2 lv k (.long x)) st w) : Z μ d Q pc lv (.long x :: st) w := fun p l e s m args below meth c G cA ad hC hF hI H locs ls hP hS hl => lv_lstore (lv' := lvc ad (lput2 lv k (.long x))) hC.1 hC.2.1 hd hl hb (lvc_put2 ad lv k (.long x)) (fun ls hl => kk p l e s m args below meth c G cA ad hC hF hI H locs ls hP hS hl)
theorem lv_pos {ad : Nat → Nat} {lv : List (Nat × Value)} {k : Nat} {x : Int32} (hg : lget lv k = some (.int x)) : ∃ j : Nat, (lvc ad lv)[j]? = some (k, .int x) := by
  have h : (k, cv ad (.int x)) ∈ lvc ad lv := List.mem_map.mpr ⟨(k, .int x), lget_mem hg, rfl⟩
  exact List.getElem?_of_mem h
theorem z_iinc {μ : MI} {d : Nat} {Q : Option Value → Wd → Prop} {pc : Nat} {lv : List (Nat × Value)} {st : List Value} {w : Wd} {k : Nat} {n : Int} {x : Int32} (hd : decode (mB μ) pc = .ok (.iinc k n, 3)) (hg : lget lv k = some (.int x)) (hb : k < mL μ) (kk : Z μ d Q (pc + 3) (lput1 lv k (.int (x + iI n))) st w) : Z μ d Q pc lv st w := by
  intro p l e s m args below meth c G cA ad hC hF hI H locs ls hP hS hl
  obtain ⟨j, hj⟩ := lv_pos (ad := ad) hg
  exact lv_iinc (v := x + iI n) (lv' := lvc ad (lput1 lv k (.int (x + iI n)))) hC.1 hC.2.1 hd hl hj (by rw [iI_eq]) hb (lvc_put1 ad lv k (.int (x + iI n))) (fun ls hl => kk p l e s m args below meth c G cA ad hC hF hI H locs ls hP hS hl)
theorem z_iconst {μ : MI} {d : Nat} {Q : Option Value → Wd → Prop} {pc : Nat} {lv : List (Nat × Value)} {st : List Value} {w : Wd} {n : Int} (hd : decode (mB μ) pc = .ok (.iconst n, 1)) (k : Z μ d Q (pc + 1) lv (.int (iI n) :: st) w) : Z μ d Q pc lv (st) w := fun p l e s m args below meth c G cA ad hC hF hI H locs ls hP hS hl => lv_iconst hC.1 hC.2.1 hd (iI_eq n) (k p l e s m args below meth c G cA ad hC hF hI H locs ls hP hS hl)
theorem z_bipush {μ : MI} {d : Nat} {Q : Option Value → Wd → Prop} {pc : Nat} {lv : List (Nat × Value)} {st : List Value} {w : Wd} {n : Int} (h1 : -129 < n) (h2 : n < 128) (hd : decode (mB μ) pc = .ok (.bipush n, 2)) (k : Z μ d Q (pc + 2) lv (.int (iI n) :: st) w) : Z μ d Q pc lv (st) w := fun p l e s m args below meth c G cA ad hC hF hI H locs ls hP hS hl => lv_bipush hC.1 hC.2.1 hd (iI_b (by omega) h2) (k p l e s m args below meth c G cA ad hC hF hI H locs ls hP hS hl)
theorem z_sipush {μ : MI} {d : Nat} {Q : Option Value → Wd → Prop} {pc : Nat} {lv : List (Nat × Value)} {st : List Value} {w : Wd} {n : Int} (h1 : -32769 < n) (h2 : n < 32768) (hd : decode (mB μ) pc = .ok (.sipush n, 3)) (k : Z μ d Q (pc + 3) lv (.int (iI n) :: st) w) : Z μ d Q pc lv (st) w := fun p l e s m args below meth c G cA ad hC hF hI H locs ls hP hS hl => lv_sipush hC.1 hC.2.1 hd (iI_s (by omega) h2) (k p l e s m args below meth c G cA ad hC hF hI H locs ls hP hS hl)
theorem z_lconst {μ : MI} {d : Nat} {Q : Option Value → Wd → Prop} {pc : Nat} {lv : List (Nat × Value)} {st : List Value} {w : Wd} {n : Fin 2} (hd : decode (mB μ) pc = .ok (.lconst n, 1)) (k : Z μ d Q (pc + 1) lv (.long (lN n) :: st) w) : Z μ d Q pc lv (st) w := fun p l e s m args below meth c G cA ad hC hF hI H locs ls hP hS hl => lv_lconst hC.1 hC.2.1 hd rfl (k p l e s m args below meth c G cA ad hC hF hI H locs ls hP hS hl)
theorem z_ldc {μ : MI} {d : Nat} {Q : Option Value → Wd → Prop} {pc : Nat} {lv : List (Nat × Value)} {st : List Value} {w : Wd} {x : Nat} {v : Int32} (ho : (mY μ).cls = clN.getD (mK μ) "") (hd : decode (mB μ) pc = .ok (.ldc x, 2)) (hx : tget (LI (mK μ)) x = some v) (k : Z μ d Q (pc + 2) lv (.int v :: st) w) : Z μ d Q pc lv st w := fun p l e s m args below meth c G cA ad hC hF hI H locs ls hP hS hl => lv_ldc hC.1 hC.2.1 hC.2.2.2.2.1 (hC.2.2.2.2.2.1 _ (in_ws (by rw [ho]; exact LI_ok _ _ (tget_mem hx)))) hd (k p l e s m args below meth c G cA ad hC hF hI H locs ls hP hS hl)
theorem SRt_ok : ∀ (m : Nat) (q : Nat × Nat), q ∈ SRt m → m = 10 ∧ q.2 < 10 ∧ sIdx q.2 = q.1
  | 10, q, h => by
    have h2 : ∀ q ∈ SRt 10, q.2 < 10 ∧ sIdx q.2 = q.1 := by decide
    exact ⟨rfl, h2 q h⟩
  | 0, q, h => absurd h List.not_mem_nil
  | 1, q, h => absurd h List.not_mem_nil
  | 2, q, h => absurd h List.not_mem_nil
  | 3, q, h => absurd h List.not_mem_nil
  | 4, q, h => absurd h List.not_mem_nil
  | 5, q, h => absurd h List.not_mem_nil
  | 6, q, h => absurd h List.not_mem_nil
  | 7, q, h => absurd h List.not_mem_nil
  | 8, q, h => absurd h List.not_mem_nil
  | 9, q, h => absurd h List.not_mem_nil
  | _ + 11, q, h => absurd h List.not_mem_nil
theorem z_ldcS {μ : MI} {d : Nat} {Q : Option Value → Wd → Prop} {pc : Nat} {lv : List (Nat × Value)} {st : List Value} {w : Wd} {x k0 : Nat} (ho : (mY μ).cls = clN.getD (mK μ) "") (hd : decode (mB μ) pc = .ok (.ldc x, 2)) (hx : tget (SRt (mK μ)) x = some k0) (k : Z μ d Q (pc + 2) lv (.ref (200 + k0) :: st) w) : Z μ d Q pc lv st w := by
  intro p l e s m args below meth c G cA ad hC hF hI H locs ls hP hS hl
  obtain ⟨h1, h2, h3⟩ := SRt_ok _ _ (tget_mem hx)
  have hR := hF.2.2.1 k0 h2
  dsimp only at h3
  rw [h3] at hR
  have hown := hC.2.2.2.2.1
  rw [ho, h1] at hown
  exact va_ldcS hC.1 hC.2.1 hown hR hd (k p l e s m args below meth c G cA ad hC hF hI H locs ls hP hS hl)
theorem z_ldc_w {μ : MI} {d : Nat} {Q : Option Value → Wd → Prop} {pc : Nat} {lv : List (Nat × Value)} {st : List Value} {w : Wd} {x : Nat} {v : Int32} (ho : (mY μ).cls = clN.getD (mK μ) "") (hd : decode (mB μ) pc = .ok (.ldc_w x, 3)) (hx : tget (LI (mK μ)) x = some v) (k : Z μ d Q (pc + 3) lv (.int v :: st) w) : Z μ d Q pc lv st w := fun p l e s m args below meth c G cA ad hC hF hI H locs ls hP hS hl => lv_ldcw hC.1 hC.2.1 hC.2.2.2.2.1 (hC.2.2.2.2.2.1 _ (in_ws (by rw [ho]; exact LI_ok _ _ (tget_mem hx)))) hd (k p l e s m args below meth c G cA ad hC hF hI H locs ls hP hS hl)
theorem z_ldc2 {μ : MI} {d : Nat} {Q : Option Value → Wd → Prop} {pc : Nat} {lv : List (Nat × Value)} {st : List Value} {w : Wd} {x : Nat} {v : Int64} (ho : (mY μ).cls = clN.getD (mK μ) "") (hd : decode (mB μ) pc = .ok (.ldc2_w x, 3)) (hx : tget (LL (mK μ)) x = some v) (k : Z μ d Q (pc + 3) lv (.long v :: st) w) : Z μ d Q pc lv st w := fun p l e s m args below meth c G cA ad hC hF hI H locs ls hP hS hl => lv_ldc2 hC.1 hC.2.1 hC.2.2.2.2.1 (hC.2.2.2.2.2.1 _ (in_ws (by rw [ho]; exact LL_ok _ _ (tget_mem hx)))) hd (k p l e s m args below meth c G cA ad hC hF hI H locs ls hP hS hl)
theorem z_iadd {μ : MI} {d : Nat} {Q : Option Value → Wd → Prop} {pc : Nat} {lv : List (Nat × Value)} {st : List Value} {w : Wd} {x y : Int32} (hd : decode (mB μ) pc = .ok (.iadd, 1)) (k : Z μ d Q (pc + 1) lv (.int (x + y) :: st) w) : Z μ d Q pc lv (.int y :: .int x :: st) w := fun p l e s m args below meth c G cA ad hC hF hI H locs ls hP hS hl => lv_iadd hC.1 hC.2.1 hd  (k p l e s m args below meth c G cA ad hC hF hI H locs ls hP hS hl)
theorem z_isub {μ : MI} {d : Nat} {Q : Option Value → Wd → Prop} {pc : Nat} {lv : List (Nat × Value)} {st : List Value} {w : Wd} {x y : Int32} (hd : decode (mB μ) pc = .ok (.isub, 1)) (k : Z μ d Q (pc + 1) lv (.int (x - y) :: st) w) : Z μ d Q pc lv (.int y :: .int x :: st) w := fun p l e s m args below meth c G cA ad hC hF hI H locs ls hP hS hl => lv_isub hC.1 hC.2.1 hd  (k p l e s m args below meth c G cA ad hC hF hI H locs ls hP hS hl)
theorem z_imul {μ : MI} {d : Nat} {Q : Option Value → Wd → Prop} {pc : Nat} {lv : List (Nat × Value)} {st : List Value} {w : Wd} {x y : Int32} (hd : decode (mB μ) pc = .ok (.imul, 1)) (k : Z μ d Q (pc + 1) lv (.int (x * y) :: st) w) : Z μ d Q pc lv (.int y :: .int x :: st) w := fun p l e s m args below meth c G cA ad hC hF hI H locs ls hP hS hl => lv_imul hC.1 hC.2.1 hd  (k p l e s m args below meth c G cA ad hC hF hI H locs ls hP hS hl)
theorem z_iand {μ : MI} {d : Nat} {Q : Option Value → Wd → Prop} {pc : Nat} {lv : List (Nat × Value)} {st : List Value} {w : Wd} {x y : Int32} (hd : decode (mB μ) pc = .ok (.iand, 1)) (k : Z μ d Q (pc + 1) lv (.int (x &&& y) :: st) w) : Z μ d Q pc lv (.int y :: .int x :: st) w := fun p l e s m args below meth c G cA ad hC hF hI H locs ls hP hS hl => lv_iand hC.1 hC.2.1 hd  (k p l e s m args below meth c G cA ad hC hF hI H locs ls hP hS hl)
theorem z_ior {μ : MI} {d : Nat} {Q : Option Value → Wd → Prop} {pc : Nat} {lv : List (Nat × Value)} {st : List Value} {w : Wd} {x y : Int32} (hd : decode (mB μ) pc = .ok (.ior, 1)) (k : Z μ d Q (pc + 1) lv (.int (x ||| y) :: st) w) : Z μ d Q pc lv (.int y :: .int x :: st) w := fun p l e s m args below meth c G cA ad hC hF hI H locs ls hP hS hl => lv_ior hC.1 hC.2.1 hd  (k p l e s m args below meth c G cA ad hC hF hI H locs ls hP hS hl)
theorem z_ishl {μ : MI} {d : Nat} {Q : Option Value → Wd → Prop} {pc : Nat} {lv : List (Nat × Value)} {st : List Value} {w : Wd} {x y : Int32} (hd : decode (mB μ) pc = .ok (.ishl, 1)) (k : Z μ d Q (pc + 1) lv (.int (x <<< (y &&& 31)) :: st) w) : Z μ d Q pc lv (.int y :: .int x :: st) w := fun p l e s m args below meth c G cA ad hC hF hI H locs ls hP hS hl => lv_ishl hC.1 hC.2.1 hd  (k p l e s m args below meth c G cA ad hC hF hI H locs ls hP hS hl)
theorem z_ishr {μ : MI} {d : Nat} {Q : Option Value → Wd → Prop} {pc : Nat} {lv : List (Nat × Value)} {st : List Value} {w : Wd} {x y : Int32} (hd : decode (mB μ) pc = .ok (.ishr, 1)) (k : Z μ d Q (pc + 1) lv (.int (x >>> (y &&& 31)) :: st) w) : Z μ d Q pc lv (.int y :: .int x :: st) w := fun p l e s m args below meth c G cA ad hC hF hI H locs ls hP hS hl => lv_ishr hC.1 hC.2.1 hd  (k p l e s m args below meth c G cA ad hC hF hI H locs ls hP hS hl)
theorem z_iushr {μ : MI} {d : Nat} {Q : Option Value → Wd → Prop} {pc : Nat} {lv : List (Nat × Value)} {st : List Value} {w : Wd} {x y : Int32} (hd : decode (mB μ) pc = .ok (.iushr, 1)) (k : Z μ d Q (pc + 1) lv (.int ((x.toUInt32 >>> (y.toUInt32 &&& Int32.toUInt32 31)).toInt32) :: st) w) : Z μ d Q pc lv (.int y :: .int x :: st) w := fun p l e s m args below meth c G cA ad hC hF hI H locs ls hP hS hl => lv_iushr hC.1 hC.2.1 hd rfl (k p l e s m args below meth c G cA ad hC hF hI H locs ls hP hS hl)
theorem z_idiv {μ : MI} {d : Nat} {Q : Option Value → Wd → Prop} {pc : Nat} {lv : List (Nat × Value)} {st : List Value} {w : Wd} {x y : Int32} (hne : ¬ y = 0) (hd : decode (mB μ) pc = .ok (.idiv, 1)) (k : Z μ d Q (pc + 1) lv (.int (x / y) :: st) w) : Z μ d Q pc lv (.int y :: .int x :: st) w := fun p l e s m args below meth c G cA ad hC hF hI H locs ls hP hS hl => lv_idiv hC.1 hC.2.1 hd hne (k p l e s m args below meth c G cA ad hC hF hI H locs ls hP hS hl)
theorem z_irem {μ : MI} {d : Nat} {Q : Option Value → Wd → Prop} {pc : Nat} {lv : List (Nat × Value)} {st : List Value} {w : Wd} {x y : Int32} (hne : ¬ y = 0) (hd : decode (mB μ) pc = .ok (.irem, 1)) (k : Z μ d Q (pc + 1) lv (.int (x - x / y * y) :: st) w) : Z μ d Q pc lv (.int y :: .int x :: st) w := fun p l e s m args below meth c G cA ad hC hF hI H locs ls hP hS hl => lv_irem hC.1 hC.2.1 hd hne (k p l e s m args below meth c G cA ad hC hF hI H locs ls hP hS hl)
theorem z_ineg {μ : MI} {d : Nat} {Q : Option Value → Wd → Prop} {pc : Nat} {lv : List (Nat × Value)} {st : List Value} {w : Wd} {x : Int32} (hd : decode (mB μ) pc = .ok (.ineg, 1)) (k : Z μ d Q (pc + 1) lv (.int (-x) :: st) w) : Z μ d Q pc lv (.int x :: st) w := fun p l e s m args below meth c G cA ad hC hF hI H locs ls hP hS hl => lv_ineg hC.1 hC.2.1 hd  (k p l e s m args below meth c G cA ad hC hF hI H locs ls hP hS hl)
theorem z_ladd {μ : MI} {d : Nat} {Q : Option Value → Wd → Prop} {pc : Nat} {lv : List (Nat × Value)} {st : List Value} {w : Wd} {x y : Int64} (hd : decode (mB μ) pc = .ok (.ladd, 1)) (k : Z μ d Q (pc + 1) lv (.long (x + y) :: st) w) : Z μ d Q pc lv (.long y :: .long x :: st) w := fun p l e s m args below meth c G cA ad hC hF hI H locs ls hP hS hl => lv_ladd hC.1 hC.2.1 hd  (k p l e s m args below meth c G cA ad hC hF hI H locs ls hP hS hl)
theorem z_lsub {μ : MI} {d : Nat} {Q : Option Value → Wd → Prop} {pc : Nat} {lv : List (Nat × Value)} {st : List Value} {w : Wd} {x y : Int64} (hd : decode (mB μ) pc = .ok (.lsub, 1)) (k : Z μ d Q (pc + 1) lv (.long (x - y) :: st) w) : Z μ d Q pc lv (.long y :: .long x :: st) w := fun p l e s m args below meth c G cA ad hC hF hI H locs ls hP hS hl => lv_lsub hC.1 hC.2.1 hd  (k p l e s m args below meth c G cA ad hC hF hI H locs ls hP hS hl)
theorem z_lmul {μ : MI} {d : Nat} {Q : Option Value → Wd → Prop} {pc : Nat} {lv : List (Nat × Value)} {st : List Value} {w : Wd} {x y : Int64} (hd : decode (mB μ) pc = .ok (.lmul, 1)) (k : Z μ d Q (pc + 1) lv (.long (x * y) :: st) w) : Z μ d Q pc lv (.long y :: .long x :: st) w := fun p l e s m args below meth c G cA ad hC hF hI H locs ls hP hS hl => lv_lmul hC.1 hC.2.1 hd  (k p l e s m args below meth c G cA ad hC hF hI H locs ls hP hS hl)
theorem z_land {μ : MI} {d : Nat} {Q : Option Value → Wd → Prop} {pc : Nat} {lv : List (Nat × Value)} {st : List Value} {w : Wd} {x y : Int64} (hd : decode (mB μ) pc = .ok (.land, 1)) (k : Z μ d Q (pc + 1) lv (.long (x &&& y) :: st) w) : Z μ d Q pc lv (.long y :: .long x :: st) w := fun p l e s m args below meth c G cA ad hC hF hI H locs ls hP hS hl => lv_land hC.1 hC.2.1 hd  (k p l e s m args below meth c G cA ad hC hF hI H locs ls hP hS hl)
theorem z_lor {μ : MI} {d : Nat} {Q : Option Value → Wd → Prop} {pc : Nat} {lv : List (Nat × Value)} {st : List Value} {w : Wd} {x y : Int64} (hd : decode (mB μ) pc = .ok (.lor, 1)) (k : Z μ d Q (pc + 1) lv (.long (x ||| y) :: st) w) : Z μ d Q pc lv (.long y :: .long x :: st) w := fun p l e s m args below meth c G cA ad hC hF hI H locs ls hP hS hl => lv_lor hC.1 hC.2.1 hd  (k p l e s m args below meth c G cA ad hC hF hI H locs ls hP hS hl)
theorem z_lxor {μ : MI} {d : Nat} {Q : Option Value → Wd → Prop} {pc : Nat} {lv : List (Nat × Value)} {st : List Value} {w : Wd} {x y : Int64} (hd : decode (mB μ) pc = .ok (.lxor, 1)) (k : Z μ d Q (pc + 1) lv (.long (x ^^^ y) :: st) w) : Z μ d Q pc lv (.long y :: .long x :: st) w := fun p l e s m args below meth c G cA ad hC hF hI H locs ls hP hS hl => lv_lxor hC.1 hC.2.1 hd  (k p l e s m args below meth c G cA ad hC hF hI H locs ls hP hS hl)
theorem z_lshl {μ : MI} {d : Nat} {Q : Option Value → Wd → Prop} {pc : Nat} {lv : List (Nat × Value)} {st : List Value} {w : Wd} {x : Int64} {y : Int32} (hd : decode (mB μ) pc = .ok (.lshl, 1)) (k : Z μ d Q (pc + 1) lv (.long (x <<< (y.toInt64 &&& 63)) :: st) w) : Z μ d Q pc lv (.int y :: .long x :: st) w := fun p l e s m args below meth c G cA ad hC hF hI H locs ls hP hS hl => lv_lshl hC.1 hC.2.1 hd rfl (k p l e s m args below meth c G cA ad hC hF hI H locs ls hP hS hl)
theorem z_lshr {μ : MI} {d : Nat} {Q : Option Value → Wd → Prop} {pc : Nat} {lv : List (Nat × Value)} {st : List Value} {w : Wd} {x : Int64} {y : Int32} (hd : decode (mB μ) pc = .ok (.lshr, 1)) (k : Z μ d Q (pc + 1) lv (.long (x >>> (y.toInt64 &&& 63)) :: st) w) : Z μ d Q pc lv (.int y :: .long x :: st) w := fun p l e s m args below meth c G cA ad hC hF hI H locs ls hP hS hl => lv_lshr hC.1 hC.2.1 hd rfl (k p l e s m args below meth c G cA ad hC hF hI H locs ls hP hS hl)
theorem z_lushr {μ : MI} {d : Nat} {Q : Option Value → Wd → Prop} {pc : Nat} {lv : List (Nat × Value)} {st : List Value} {w : Wd} {x : Int64} {y : Int32} (hd : decode (mB μ) pc = .ok (.lushr, 1)) (k : Z μ d Q (pc + 1) lv (.long ((x.toUInt64 >>> (y.toInt64.toUInt64 &&& Int64.toUInt64 63)).toInt64) :: st) w) : Z μ d Q pc lv (.int y :: .long x :: st) w := fun p l e s m args below meth c G cA ad hC hF hI H locs ls hP hS hl => lv_lushr hC.1 hC.2.1 hd rfl (k p l e s m args below meth c G cA ad hC hF hI H locs ls hP hS hl)
theorem z_lcmp {μ : MI} {d : Nat} {Q : Option Value → Wd → Prop} {pc : Nat} {lv : List (Nat × Value)} {st : List Value} {w : Wd} {x y : Int64} (hd : decode (mB μ) pc = .ok (.lcmp, 1)) (k : Z μ d Q (pc + 1) lv (.int (lg_cmp x y) :: st) w) : Z μ d Q pc lv (.long y :: .long x :: st) w := fun p l e s m args below meth c G cA ad hC hF hI H locs ls hP hS hl => W.lcmp hC.1 hC.2.1 hd  (k p l e s m args below meth c G cA ad hC hF hI H locs ls hP hS hl)
theorem z_i2l {μ : MI} {d : Nat} {Q : Option Value → Wd → Prop} {pc : Nat} {lv : List (Nat × Value)} {st : List Value} {w : Wd} {x : Int32} (hd : decode (mB μ) pc = .ok (.i2l, 1)) (k : Z μ d Q (pc + 1) lv (.long x.toInt64 :: st) w) : Z μ d Q pc lv (.int x :: st) w := fun p l e s m args below meth c G cA ad hC hF hI H locs ls hP hS hl => lv_i2l hC.1 hC.2.1 hd rfl (k p l e s m args below meth c G cA ad hC hF hI H locs ls hP hS hl)
theorem z_l2i {μ : MI} {d : Nat} {Q : Option Value → Wd → Prop} {pc : Nat} {lv : List (Nat × Value)} {st : List Value} {w : Wd} {x : Int64} (hd : decode (mB μ) pc = .ok (.l2i, 1)) (k : Z μ d Q (pc + 1) lv (.int x.toInt32 :: st) w) : Z μ d Q pc lv (.long x :: st) w := fun p l e s m args below meth c G cA ad hC hF hI H locs ls hP hS hl => lv_l2i hC.1 hC.2.1 hd rfl (k p l e s m args below meth c G cA ad hC hF hI H locs ls hP hS hl)
theorem z_i2c {μ : MI} {d : Nat} {Q : Option Value → Wd → Prop} {pc : Nat} {lv : List (Nat × Value)} {st : List Value} {w : Wd} {x : Int32} (hd : decode (mB μ) pc = .ok (.i2c, 1)) (k : Z μ d Q (pc + 1) lv (.int ((x.toUInt32 % 65536).toInt32) :: st) w) : Z μ d Q pc lv (.int x :: st) w := fun p l e s m args below meth c G cA ad hC hF hI H locs ls hP hS hl => lv_i2c hC.1 hC.2.1 hd rfl (k p l e s m args below meth c G cA ad hC hF hI H locs ls hP hS hl)
theorem z_dup {μ : MI} {d : Nat} {Q : Option Value → Wd → Prop} {pc : Nat} {lv : List (Nat × Value)} {st : List Value} {w : Wd} {v : Value} (hc : v.category = 1) (hd : decode (mB μ) pc = .ok (.dup, 1)) (k : Z μ d Q (pc + 1) lv (v :: v :: st) w) : Z μ d Q pc lv (v :: st) w := fun p l e s m args below meth c G cA ad hC hF hI H locs ls hP hS hl => lv_dup hC.1 hC.2.1 hd ((cv_cat ad v).trans hc) (k p l e s m args below meth c G cA ad hC hF hI H locs ls hP hS hl)
theorem z_pop {μ : MI} {d : Nat} {Q : Option Value → Wd → Prop} {pc : Nat} {lv : List (Nat × Value)} {st : List Value} {w : Wd} {v : Value} (hc : v.category = 1) (hd : decode (mB μ) pc = .ok (.pop, 1)) (k : Z μ d Q (pc + 1) lv (st) w) : Z μ d Q pc lv (v :: st) w := fun p l e s m args below meth c G cA ad hC hF hI H locs ls hP hS hl => lv_pop hC.1 hC.2.1 hd ((cv_cat ad v).trans hc) (k p l e s m args below meth c G cA ad hC hF hI H locs ls hP hS hl)
theorem z_dup2 {μ : MI} {d : Nat} {Q : Option Value → Wd → Prop} {pc : Nat} {lv : List (Nat × Value)} {st : List Value} {w : Wd} {v u : Value} (hc : v.category = 1) (hc2 : u.category = 1) (hd : decode (mB μ) pc = .ok (.dup2, 1)) (k : Z μ d Q (pc + 1) lv (v :: u :: v :: u :: st) w) : Z μ d Q pc lv (v :: u :: st) w := fun p l e s m args below meth c G cA ad hC hF hI H locs ls hP hS hl => lv_dup2_11 hC.1 hC.2.1 hd ((cv_cat ad v).trans hc) ((cv_cat ad u).trans hc2) (k p l e s m args below meth c G cA ad hC hF hI H locs ls hP hS hl)
theorem z_if {μ : MI} {d : Nat} {Q : Option Value → Wd → Prop} {pc : Nat} {lv : List (Nat × Value)} {st : List Value} {w : Wd} {x : Int32} {cd : ClassFile.Cond} {off : Int} {tgt : Nat} (hd : decode (mB μ) pc = .ok (.ifCond cd off, 3)) (ht : (pc : Int) + off = (tgt : Int)) (kt : cT cd x 0 → Z μ d Q tgt lv st w) (kf : cF cd x 0 → Z μ d Q (pc + 3) lv st w) : Z μ d Q pc lv (.int x :: st) w := by
  intro p l e s m args below meth c G cA ad hC hF hI H locs ls hP hS hl
  cases cd with
  | eq => exact lv_if_eq hC.1 hC.2.1 hd ht (fun h => kt h p l e s m args below meth c G cA ad hC hF hI H locs ls hP hS hl) (fun h => kf h p l e s m args below meth c G cA ad hC hF hI H locs ls hP hS hl)
  | ne => exact lv_if_ne hC.1 hC.2.1 hd ht (fun h => kt h p l e s m args below meth c G cA ad hC hF hI H locs ls hP hS hl) (fun h => kf h p l e s m args below meth c G cA ad hC hF hI H locs ls hP hS hl)
  | lt => exact lv_if_lt hC.1 hC.2.1 hd ht (fun h => kt h p l e s m args below meth c G cA ad hC hF hI H locs ls hP hS hl) (fun h => kf h p l e s m args below meth c G cA ad hC hF hI H locs ls hP hS hl)
  | ge => exact lv_if_ge hC.1 hC.2.1 hd ht (fun h => kt h p l e s m args below meth c G cA ad hC hF hI H locs ls hP hS hl) (fun h => kf h p l e s m args below meth c G cA ad hC hF hI H locs ls hP hS hl)
  | gt => exact lv_if_gt hC.1 hC.2.1 hd ht (fun h => kt h p l e s m args below meth c G cA ad hC hF hI H locs ls hP hS hl) (fun h => kf h p l e s m args below meth c G cA ad hC hF hI H locs ls hP hS hl)
  | le => exact lv_if_le hC.1 hC.2.1 hd ht (fun h => kt h p l e s m args below meth c G cA ad hC hF hI H locs ls hP hS hl) (fun h => kf h p l e s m args below meth c G cA ad hC hF hI H locs ls hP hS hl)
theorem z_icmp {μ : MI} {d : Nat} {Q : Option Value → Wd → Prop} {pc : Nat} {lv : List (Nat × Value)} {st : List Value} {w : Wd} {x y : Int32} {cd : ClassFile.Cond} {off : Int} {tgt : Nat} (hd : decode (mB μ) pc = .ok (.if_icmp cd off, 3)) (ht : (pc : Int) + off = (tgt : Int)) (kt : cT cd x y → Z μ d Q tgt lv st w) (kf : cF cd x y → Z μ d Q (pc + 3) lv st w) : Z μ d Q pc lv (.int y :: .int x :: st) w := by
  intro p l e s m args below meth c G cA ad hC hF hI H locs ls hP hS hl
  cases cd with
  | eq => exact lv_icmp_eq hC.1 hC.2.1 hd ht (fun h => kt h p l e s m args below meth c G cA ad hC hF hI H locs ls hP hS hl) (fun h => kf h p l e s m args below meth c G cA ad hC hF hI H locs ls hP hS hl)
  | ne => exact lv_icmp_ne hC.1 hC.2.1 hd ht (fun h => kt h p l e s m args below meth c G cA ad hC hF hI H locs ls hP hS hl) (fun h => kf h p l e s m args below meth c G cA ad hC hF hI H locs ls hP hS hl)
  | lt => exact lv_icmp_lt hC.1 hC.2.1 hd ht (fun h => kt h p l e s m args below meth c G cA ad hC hF hI H locs ls hP hS hl) (fun h => kf h p l e s m args below meth c G cA ad hC hF hI H locs ls hP hS hl)
  | ge => exact lv_icmp_ge hC.1 hC.2.1 hd ht (fun h => kt h p l e s m args below meth c G cA ad hC hF hI H locs ls hP hS hl) (fun h => kf h p l e s m args below meth c G cA ad hC hF hI H locs ls hP hS hl)
  | gt => exact lv_icmp_gt hC.1 hC.2.1 hd ht (fun h => kt h p l e s m args below meth c G cA ad hC hF hI H locs ls hP hS hl) (fun h => kf h p l e s m args below meth c G cA ad hC hF hI H locs ls hP hS hl)
  | le => exact lv_icmp_le hC.1 hC.2.1 hd ht (fun h => kt h p l e s m args below meth c G cA ad hC hF hI H locs ls hP hS hl) (fun h => kf h p l e s m args below meth c G cA ad hC hF hI H locs ls hP hS hl)
theorem z_goto {μ : MI} {d : Nat} {Q : Option Value → Wd → Prop} {pc : Nat} {lv : List (Nat × Value)} {st : List Value} {w : Wd} {off : Int} {tgt : Nat} (hd : decode (mB μ) pc = .ok (.goto off, 3)) (ht : (pc : Int) + off = (tgt : Int)) (k : Z μ d Q tgt lv st w) : Z μ d Q pc lv st w := fun p l e s m args below meth c G cA ad hC hF hI H locs ls hP hS hl => lv_goto hC.1 hC.2.1 hd ht (k p l e s m args below meth c G cA ad hC hF hI H locs ls hP hS hl)
theorem iI_of {x : Int32} {v : Int} (h : x.toInt = v) : x = iI v := by
  rw [← iI_eq, ← h, Int32.ofInt_toInt]
theorem iI_ne {x : Int32} {v : Int} (h1 : -2147483648 ≤ v) (h2 : v < 2147483648) (h : ¬ x.toInt = v) : ¬ x = iI v := fun e => h (by rw [e]; exact iI_toInt h1 h2)
theorem sw_key {μ : MI} {d : Nat} {Q : Option Value → Wd → Prop} {pc : Nat} {lv : List (Nat × Value)} {st : List Value} {w : Wd} {x : Int32} {df : Int} : ∀ (l : List Int) (v : Int), -2147483648 ≤ v → v + (l.length : Int) ≤ 2147483648 → swc x df pc (fun t => Z μ d Q t lv st w) (tab v l) → (∃ (j : Nat) (off : Int) (tg : Nat), l[j]? = some off ∧ x.toInt = v + (j : Int) ∧ (pc : Int) + off = (tg : Int) ∧ Z μ d Q tg lv st w) ∨ ((∀ j : Nat, j < l.length → ¬ x.toInt = v + (j : Int)) ∧ ∃ tg : Nat, (pc : Int) + df = (tg : Int) ∧ Z μ d Q tg lv st w) := by
  intro l
  induction l with
  | nil =>
    intro v _ _ h
    obtain ⟨tg, a, b⟩ := jp_inv h
    exact Or.inr ⟨fun j hj => absurd hj (Nat.not_lt_zero j), tg, a, b⟩
  | cons a t ih =>
    intro v r1 r2 h
    obtain ⟨tg, hj, h1, h2⟩ := jp_inv h
    simp only [List.length_cons] at r2
    by_cases hx : x.toInt = v
    · exact Or.inl ⟨0, a, tg, rfl, by simpa using hx, hj, h1 (iI_of hx)⟩
    · rcases ih (v + 1) (by omega) (by omega) (h2 (iI_ne r1 (by omega) hx)) with ⟨j, off, tg2, q1, q2, q3, q4⟩ | ⟨q1, tg2, q3, q4⟩
      · exact Or.inl ⟨j + 1, off, tg2, by simpa using q1, by omega, q3, q4⟩
      · refine Or.inr ⟨fun j hj => ?_, tg2, q3, q4⟩
        cases j with
        | zero => simpa using hx
        | succ j =>
          have h9 := q1 j (by simpa using hj)
          omega
theorem z_table {μ : MI} {d : Nat} {Q : Option Value → Wd → Prop} {pc : Nat} {lv : List (Nat × Value)} {st : List Value} {w : Wd} {x : Int32} {df lo hi : Int} {os : Array Int} {len : Nat} (hd : decode (mB μ) pc = .ok (.tableswitch df lo hi os, len)) (h1 : lo + (os.size : Int) = hi + 1) (h2 : -2147483649 < lo) (h3 : hi < 2147483648) (h : swc x df pc (fun t => Z μ d Q t lv st w) (tab lo os.toList)) : Z μ d Q pc lv (.int x :: st) w := by
  have hl : (os.toList.length : Int) = (os.size : Int) := by rw [Array.length_toList]
  rcases sw_key os.toList lo (by omega) (by omega) h with ⟨j, off, tg, q1, q2, q3, q4⟩ | ⟨q1, tg, q3, q4⟩
  · have hj : j < os.toList.length := (List.getElem?_eq_some_iff.mp q1).1
    intro p l e s m args below meth c G cA ad hC hF hI H locs ls hP hS hl
    refine lv_tableIn (off := off) hC.1 hC.2.1 hd (by omega) (by omega) ?_ q3 (q4 p l e s m args below meth c G cA ad hC hF hI H locs ls hP hS hl)
    have e1 : (x.toInt - lo).toNat = j := by omega
    rw [e1, ← Array.getElem?_toList]
    exact q1
  · intro p l e s m args below meth c G cA ad hC hF hI H locs ls hP hS hl2
    refine lv_tableOut hC.1 hC.2.1 hd ?_ q3 (q4 p l e s m args below meth c G cA ad hC hF hI H locs ls hP hS hl2)
    by_cases hz : x.toInt < lo
    · exact Or.inl hz
    · refine Or.inr ?_
      by_cases hy : hi < x.toInt
      · exact hy
      · exact absurd (by omega) (q1 (x.toInt - lo).toNat (by omega))
theorem sl_key {μ : MI} {d : Nat} {Q : Option Value → Wd → Prop} {pc : Nat} {lv : List (Nat × Value)} {st : List Value} {w : Wd} {x : Int32} {df : Int} : ∀ (l : List (Int × Int)), (∀ q ∈ l, -2147483649 < q.1 ∧ q.1 < 2147483648) → swc x df pc (fun t => Z μ d Q t lv st w) l → ∃ tg : Nat, (pc : Int) + Op.lookupswitch.offset l df x.toInt = (tg : Int) ∧ Z μ d Q tg lv st w := by
  intro l
  induction l with
  | nil =>
    intro _ h
    obtain ⟨tg, a, b⟩ := jp_inv h
    exact ⟨tg, a, b⟩
  | cons a t ih =>
    intro r h
    obtain ⟨tg, hj, h1, h2⟩ := jp_inv h
    obtain ⟨k, off⟩ := a
    have hr := r (k, off) List.mem_cons_self
    dsimp only at hr h1 h2 hj
    by_cases hx : k = x.toInt
    · exact ⟨tg, by rw [Op.lookupswitch.offset_cons, if_pos hx]; exact hj, h1 (iI_of hx.symm)⟩
    · obtain ⟨t2, a1, a2⟩ := ih (fun q hq => r q (List.mem_cons_of_mem _ hq)) (h2 (iI_ne (by omega) hr.2 (fun e => hx e.symm)))
      exact ⟨t2, by rw [Op.lookupswitch.offset_cons, if_neg hx]; exact a1, a2⟩
theorem z_lookup {μ : MI} {d : Nat} {Q : Option Value → Wd → Prop} {pc : Nat} {lv : List (Nat × Value)} {st : List Value} {w : Wd} {x : Int32} {df : Int} {ps : Array (Int × Int)} {len : Nat} (hd : decode (mB μ) pc = .ok (.lookupswitch df ps, len)) (h1 : (ps.toList.zip (ps.toList.drop 1)).all (fun (a, next) => a.1 < next.1) = true) (h2 : ∀ q ∈ ps.toList, -2147483649 < q.1 ∧ q.1 < 2147483648) (h : swc x df pc (fun t => Z μ d Q t lv st w) ps.toList) : Z μ d Q pc lv (.int x :: st) w := by
  obtain ⟨tg, a1, a2⟩ := sl_key ps.toList h2 h
  intro p l e s m args below meth c G cA ad hC hF hI H locs ls hP hS hl
  exact lv_lookup hC.1 hC.2.1 hd h1 rfl a1 (a2 p l e s m args below meth c G cA ad hC hF hI H locs ls hP hS hl)
theorem swc_mono {x : Int32} {df : Int} {pc : Nat} {K K' : Nat → Prop} (hk : ∀ t, K t → K' t) : ∀ l : List (Int × Int), swc x df pc K l → swc x df pc K' l := by
  intro l
  induction l with
  | nil =>
    intro h
    obtain ⟨tg, a, b⟩ := jp_inv h
    unfold swc jp
    rw [a]
    exact hk _ b
  | cons a t ih =>
    intro h
    obtain ⟨tg, hj, h1, h2⟩ := jp_inv h
    unfold swc jp
    rw [hj]
    exact ⟨fun e => hk _ (h1 e), fun e => ih (h2 e)⟩
theorem z_get {μ : MI} {d : Nat} {Q : Option Value → Wd → Prop} {pc : Nat} {lv : List (Nat × Value)} {st : List Value} {w : Wd} {x a : Nat} {q : Nat × Nat} {v : Value} (ho : (mY μ).cls = clN.getD (mK μ) "") (hd : decode (mB μ) pc = .ok (.getfield x, 3)) (hx : tget (FR (mK μ)) x = some q) (hg : gv w a q.1 q.2 = some v) (k : Z μ d Q (pc + 3) lv (v :: st) w) : Z μ d Q pc lv (.ref a :: st) w := by
  intro p l e s m args below meth c G cA ad hC hF hI H locs ls hP hS hl
  obtain ⟨C, Tb, N, h1, h2, h3, h4⟩ := FR_ok _ _ (tget_mem hx)
  obtain ⟨fs, o, g1, g2, g3⟩ := gv_inv hg
  have he := wsl_at (ad := ad) (cA := cA) (w := w) g1
  refine va_get (D := G) (cl := vwCl) (C := C) (T := Tb) (N := N) (ci := q.1) (v := cv ad v) (fs := fs.mapIdx (fv ad w a)) hC.1 hC.2.1 hC.2.2.2.2.2.1 (fun z hz => in_ws (h4 z hz)) hC.2.2.2.2.1 hF.1 hP a he h1 q.2 h2 (hC.2.2.2.2.2.1 _ (in_ws (by rw [ho]; exact h3))) (fun _ h9 => h9) ?_ hd (k p l e s m args below meth c G cA ad hC hF hI H locs ls hP hS hl)
  rw [List.getElem?_mapIdx, g2, g3]
  rfl
theorem z_put {μ : MI} {d : Nat} {Q : Option Value → Wd → Prop} {pc : Nat} {lv : List (Nat × Value)} {st : List Value} {w : Wd} {x a : Nat} {q : Nat × Nat × Nat} {v : Int32} (ho : (mY μ).cls = clN.getD (mK μ) "") (hd : decode (mB μ) pc = .ok (.putfield x, 3)) (hx : tget (PR (mK μ)) x = some q) (hg : gp a q.1 q.2.1 = true) (hv : q.2.2 = 0 ∨ v = 0 ∨ v = 1) (k : Z μ d Q (pc + 3) lv st (up1 w a q.2.1 v)) : Z μ d Q pc lv (.int v :: .ref a :: st) w := by
  intro p l e s m args below meth c G cA ad hC hF hI H locs ls hP hS hl
  obtain ⟨C, Tb, N, ty0, h1, h2, h3, h4, h5, h6, h7, h8⟩ := PR_ok _ _ (tget_mem hx)
  obtain ⟨fs, g1, g2⟩ := gp_inv hg
  have he := wsl_at (ad := ad) (cA := cA) (w := w) g1
  have hD := wsl_D (cA := cA) (w := w) (sz := s.heap.size) hI
  have hfl : q.2.1 < fs.length := (List.getElem?_eq_some_iff.mp g2).1
  refine va_put (D := G) (cl := vwCl) (C := C) (T := Tb) (N := N) (ci := q.1) (v := .int v) (fs := fs.mapIdx (fv ad w a)) hC.1 hC.2.1 hC.2.2.2.2.2.1 (fun z hz => in_ws (h4 z hz)) ty0 h5 h6 hC.2.2.2.2.1 hF.1 hP hD hS a he h1 q.2.1 h2 (hC.2.2.2.2.2.1 _ (in_ws (by rw [ho]; exact h3))) (fun _ h9 => h9) h7 h8 ?_ ?_ (by simpa using hfl) hd (fun H1 locs1 hP1 hD1 hS1 => ?_)
  · rcases hv with hv | rfl | rfl
    · dsimp only at hv ⊢
      rw [if_pos hv]; rfl
    · dsimp only
      split <;> rfl
    · dsimp only
      split <;> rfl
  · rcases hv with hv | rfl | rfl
    · dsimp only at hv ⊢
      rw [if_pos hv]; rfl
    · dsimp only
      split <;> rfl
    · dsimp only
      split <;> rfl
  · have e9 : (wsl ad cA w).set a (ad a, .inr (q.1, (fs.mapIdx (fv ad w a)).set q.2.1 (.int v))) = wsl ad cA (up1 w a q.2.1 v) := wsl_set g1 (by rw [set_fld g2]; rfl) up1_off (fun _ _ => rfl)
    rw [e9] at hP1
    exact k p l e s m args below meth c G cA ad hC hF hI H1 locs1 ls hP1 hS1 hl
theorem nI_vp {j n : Nat} (h : j < n) (hn : n < 2 ^ 31) : vp_in (nI j) n ∧ (nI j).toNatClampNeg = j := ⟨vp_in_nI h hn, nI_clamp (by omega)⟩
theorem z_ret {μ : MI} {d : Nat} {Q : Option Value → Wd → Prop} {pc : Nat} {lv : List (Nat × Value)} {st : List Value} {w : Wd} {v : Int32} {ty : FieldType} (hd : decode (mB μ) pc = .ok (.ireturn, 1)) (hr : mR μ = some ty) (hn : narrow ty (.int v) = .int v) (h : Q (some (.int v)) w) : Z μ d Q pc lv [.int v] w := by
  intro p l e s m args below meth c G cA ad hC hF hI H locs ls hP hS hl
  have hlocks := hC.2.2.2.2.2.2
  exact W.zret (Qc := Qw G cA ad s.heap.size Q) hC.1 hC.2.1 (hC.2.2.1.trans hr) hn (fun t ht hW => ⟨⟨some (.int v), w, rfl, h, by rw [ht]; exact hP⟩, hS.F ht⟩) hS.2.2 hd
theorem z_lret {μ : MI} {d : Nat} {Q : Option Value → Wd → Prop} {pc : Nat} {lv : List (Nat × Value)} {st : List Value} {w : Wd} {v : Int64} (hd : decode (mB μ) pc = .ok (.lreturn, 1)) (hr : mR μ = some .long) (h : Q (some (.long v)) w) : Z μ d Q pc lv [.long v] w := by
  intro p l e s m args below meth c G cA ad hC hF hI H locs ls hP hS hl
  have hlocks := hC.2.2.2.2.2.2
  exact W.lret (Qc := Qw G cA ad s.heap.size Q) hC.1 hC.2.1 (hC.2.2.1.trans hr) (fun t ht hW => ⟨⟨some (.long v), w, rfl, h, by rw [ht]; exact hP⟩, hS.F ht⟩) hS.2.2 hd
theorem z_aret {μ : MI} {d : Nat} {Q : Option Value → Wd → Prop} {pc : Nat} {lv : List (Nat × Value)} {st : List Value} {w : Wd} {v : Nat} {n : String} (hd : decode (mB μ) pc = .ok (.areturn, 1)) (hr : mR μ = some (.object n)) (h : Q (some (.ref v)) w) : Z μ d Q pc lv [.ref v] w := by
  intro p l e s m args below meth c G cA ad hC hF hI H locs ls hP hS hl
  have hlocks := hC.2.2.2.2.2.2
  exact W.aret (Qc := Qw G cA ad s.heap.size Q) (v := .ref (ad v)) hC.1 hC.2.1 (hC.2.2.1.trans hr) (Or.inl ⟨n, rfl⟩) (Or.inr ⟨_, rfl⟩) (fun t ht hW => ⟨⟨some (.ref v), w, rfl, h, by rw [ht]; exact hP⟩, hS.F ht⟩) hS.2.2 hd
theorem z_vret {μ : MI} {d : Nat} {Q : Option Value → Wd → Prop} {pc : Nat} {lv : List (Nat × Value)} {st : List Value} {w : Wd} (hd : decode (mB μ) pc = .ok (.return_, 1)) (hr : mR μ = none) (h : Q none w) : Z μ d Q pc lv [] w := by
  intro p l e s m args below meth c G cA ad hC hF hI H locs ls hP hS hl
  have hlocks := hC.2.2.2.2.2.2
  exact W.vret (Qc := Qw G cA ad s.heap.size Q) hC.1 hC.2.1 (hC.2.2.1.trans hr) (fun t ht hW => ⟨⟨none, w, rfl, h, by rw [ht]; exact hP⟩, hS.F ht⟩) hS.2.2 hd
theorem z_iaload {μ : MI} {d : Nat} {Q : Option Value → Wd → Prop} {pc : Nat} {lv : List (Nat × Value)} {st : List Value} {w : Wd} {i : Int32} {a n j : Nat} (hd : decode (mB μ) pc = .ok (.iaload, 1)) (hg : ga a = some (.int, n)) (hi : i = nI j) (hj : j < n) (k : Z μ d Q (pc + 1) lv (.int (w.1 a j) :: st) w) : Z μ d Q pc lv (.int i :: .ref a :: st) w := by
  subst hi
  intro p l e s m args below meth c G cA ad hC hF hI H locs ls hP hS hl
  obtain ⟨g1, g2⟩ := ga_inv hg
  obtain ⟨v1, v2⟩ := nI_vp hj g2
  have he : (wsl ad cA w)[a]? = some (ad a, .inl (cA .int, n, .inl (w.1 a))) := wsl_at g1
  refine va_iald (D := G) (cl := vwCl) hC.1 hC.2.1 hF.1 hP a 0 he rfl v1 hd ?_
  rw [v2]
  exact k p l e s m args below meth c G cA ad hC hF hI H locs ls hP hS hl
theorem z_iastore {μ : MI} {d : Nat} {Q : Option Value → Wd → Prop} {pc : Nat} {lv : List (Nat × Value)} {st : List Value} {w : Wd} {i : Int32} {v : Int32} {a n j : Nat} (hd : decode (mB μ) pc = .ok (.iastore, 1)) (hg : ga a = some (.int, n)) (hi : i = nI j) (hj : j < n) (k : Z μ d Q (pc + 1) lv st (up1 w a j v)) : Z μ d Q pc lv (.int v :: .int i :: .ref a :: st) w := by
  subst hi
  intro p l e s m args below meth c G cA ad hC hF hI H locs ls hP hS hl
  obtain ⟨g1, g2⟩ := ga_inv hg
  obtain ⟨v1, v2⟩ := nI_vp hj g2
  have he : (wsl ad cA w)[a]? = some (ad a, .inl (cA .int, n, .inl (w.1 a))) := wsl_at g1
  have hD := wsl_D (cA := cA) (w := w) (sz := s.heap.size) hI
  refine va_iast (D := G) (cl := vwCl) hC.1 hC.2.1 hF.1 hP hD hS a 0 he rfl v1 hd (fun H1 locs1 hP1 hD1 hS1 => ?_)
  rw [v2] at hP1
  have e9 : (wsl ad cA w).set a (ad a, .inl (cA .int, n, .inl (upd (w.1 a) j v))) = wsl ad cA (up1 w a j v) := wsl_set g1 (by simp only [cont, up1_on]) up1_off (fun _ _ => rfl)
  rw [e9] at hP1
  exact k p l e s m args below meth c G cA ad hC hF hI H1 locs1 ls hP1 hS1 hl
theorem z_baload {μ : MI} {d : Nat} {Q : Option Value → Wd → Prop} {pc : Nat} {lv : List (Nat × Value)} {st : List Value} {w : Wd} {i : Int32} {a n j : Nat} (hd : decode (mB μ) pc = .ok (.baload, 1)) (hg : ga a = some (.boolean, n)) (hi : i = nI j) (hj : j < n) (k : Z μ d Q (pc + 1) lv (.int (w.1 a j) :: st) w) : Z μ d Q pc lv (.int i :: .ref a :: st) w := by
  subst hi
  intro p l e s m args below meth c G cA ad hC hF hI H locs ls hP hS hl
  obtain ⟨g1, g2⟩ := ga_inv hg
  obtain ⟨v1, v2⟩ := nI_vp hj g2
  have he : (wsl ad cA w)[a]? = some (ad a, .inl (cA .boolean, n, .inl (w.1 a))) := wsl_at g1
  refine va_zald (D := G) (cl := vwCl) hC.1 hC.2.1 hF.1 hP a 1 he rfl v1 hd ?_
  rw [v2]
  exact k p l e s m args below meth c G cA ad hC hF hI H locs ls hP hS hl
theorem z_bastore {μ : MI} {d : Nat} {Q : Option Value → Wd → Prop} {pc : Nat} {lv : List (Nat × Value)} {st : List Value} {w : Wd} {i : Int32} {v : Int32} {a n j : Nat} (hd : decode (mB μ) pc = .ok (.bastore, 1)) (hg : ga a = some (.boolean, n)) (hi : i = nI j) (hj : j < n) (hv : v = 0 ∨ v = 1) (k : Z μ d Q (pc + 1) lv st (up1 w a j v)) : Z μ d Q pc lv (.int v :: .int i :: .ref a :: st) w := by
  subst hi
  intro p l e s m args below meth c G cA ad hC hF hI H locs ls hP hS hl
  obtain ⟨g1, g2⟩ := ga_inv hg
  obtain ⟨v1, v2⟩ := nI_vp hj g2
  have he : (wsl ad cA w)[a]? = some (ad a, .inl (cA .boolean, n, .inl (w.1 a))) := wsl_at g1
  have hD := wsl_D (cA := cA) (w := w) (sz := s.heap.size) hI
  have hn : vp_nar .boolean v = v := by rcases hv with rfl | rfl <;> rfl
  refine va_zast (D := G) (cl := vwCl) hC.1 hC.2.1 hF.1 hP hD hS a 1 he rfl v1 hd (fun H1 locs1 hP1 hD1 hS1 => ?_)
  rw [v2, hn] at hP1
  have e9 : (wsl ad cA w).set a (ad a, .inl (cA .boolean, n, .inl (upd (w.1 a) j v))) = wsl ad cA (up1 w a j v) := wsl_set g1 (by simp only [cont, up1_on]) up1_off (fun _ _ => rfl)
  rw [e9] at hP1
  exact k p l e s m args below meth c G cA ad hC hF hI H1 locs1 ls hP1 hS1 hl
theorem z_caload {μ : MI} {d : Nat} {Q : Option Value → Wd → Prop} {pc : Nat} {lv : List (Nat × Value)} {st : List Value} {w : Wd} {i : Int32} {a n j : Nat} (hd : decode (mB μ) pc = .ok (.caload, 1)) (hg : ga a = some (.char, n)) (hi : i = nI j) (hj : j < n) (k : Z μ d Q (pc + 1) lv (.int (w.1 a j) :: st) w) : Z μ d Q pc lv (.int i :: .ref a :: st) w := by
  subst hi
  intro p l e s m args below meth c G cA ad hC hF hI H locs ls hP hS hl
  obtain ⟨g1, g2⟩ := ga_inv hg
  obtain ⟨v1, v2⟩ := nI_vp hj g2
  have he : (wsl ad cA w)[a]? = some (ad a, .inl (cA .char, n, .inl (w.1 a))) := wsl_at g1
  refine va_cald (D := G) (cl := vwCl) hC.1 hC.2.1 hF.1 hP a 2 he rfl v1 hd ?_
  rw [v2]
  exact k p l e s m args below meth c G cA ad hC hF hI H locs ls hP hS hl
theorem z_castore {μ : MI} {d : Nat} {Q : Option Value → Wd → Prop} {pc : Nat} {lv : List (Nat × Value)} {st : List Value} {w : Wd} {i : Int32} {v : Int32} {a n j : Nat} (hd : decode (mB μ) pc = .ok (.castore, 1)) (hg : ga a = some (.char, n)) (hi : i = nI j) (hj : j < n) (hv : ∃ j : Nat, j < 65536 ∧ v = nI j) (k : Z μ d Q (pc + 1) lv st (up1 w a j v)) : Z μ d Q pc lv (.int v :: .int i :: .ref a :: st) w := by
  subst hi
  intro p l e s m args below meth c G cA ad hC hF hI H locs ls hP hS hl
  obtain ⟨g1, g2⟩ := ga_inv hg
  obtain ⟨v1, v2⟩ := nI_vp hj g2
  have he : (wsl ad cA w)[a]? = some (ad a, .inl (cA .char, n, .inl (w.1 a))) := wsl_at g1
  have hD := wsl_D (cA := cA) (w := w) (sz := s.heap.size) hI
  have hn : vp_nar .char v = v := by
    obtain ⟨z, hz, rfl⟩ := hv
    have h9 := (pk_charN hz).1
    unfold vp_nar
    rw [h9]
  refine va_cast (D := G) (cl := vwCl) hC.1 hC.2.1 hF.1 hP hD hS a 2 he rfl v1 hd (fun H1 locs1 hP1 hD1 hS1 => ?_)
  rw [v2, hn] at hP1
  have e9 : (wsl ad cA w).set a (ad a, .inl (cA .char, n, .inl (upd (w.1 a) j v))) = wsl ad cA (up1 w a j v) := wsl_set g1 (by simp only [cont, up1_on]) up1_off (fun _ _ => rfl)
  rw [e9] at hP1
  exact k p l e s m args below meth c G cA ad hC hF hI H1 locs1 ls hP1 hS1 hl
theorem z_laload {μ : MI} {d : Nat} {Q : Option Value → Wd → Prop} {pc : Nat} {lv : List (Nat × Value)} {st : List Value} {w : Wd} {i : Int32} {a n j : Nat} (hd : decode (mB μ) pc = .ok (.laload, 1)) (hg : ga a = some (.long, n)) (hi : i = nI j) (hj : j < n) (k : Z μ d Q (pc + 1) lv (.long (w.2 a j) :: st) w) : Z μ d Q pc lv (.int i :: .ref a :: st) w := by
  subst hi
  intro p l e s m args below meth c G cA ad hC hF hI H locs ls hP hS hl
  obtain ⟨g1, g2⟩ := ga_inv hg
  obtain ⟨v1, v2⟩ := nI_vp hj g2
  have he : (wsl ad cA w)[a]? = some (ad a, .inl (cA .long, n, .inr (.inl (w.2 a)))) := wsl_at g1
  refine va_lald (D := G) (cl := vwCl) hC.1 hC.2.1 hF.1 hP a 3 he rfl v1 hd ?_
  rw [v2]
  exact k p l e s m args below meth c G cA ad hC hF hI H locs ls hP hS hl
theorem z_lastore {μ : MI} {d : Nat} {Q : Option Value → Wd → Prop} {pc : Nat} {lv : List (Nat × Value)} {st : List Value} {w : Wd} {i : Int32} {v : Int64} {a n j : Nat} (hd : decode (mB μ) pc = .ok (.lastore, 1)) (hg : ga a = some (.long, n)) (hi : i = nI j) (hj : j < n) (k : Z μ d Q (pc + 1) lv st (up2 w a j v)) : Z μ d Q pc lv (.long v :: .int i :: .ref a :: st) w := by
  subst hi
  intro p l e s m args below meth c G cA ad hC hF hI H locs ls hP hS hl
  obtain ⟨g1, g2⟩ := ga_inv hg
  obtain ⟨v1, v2⟩ := nI_vp hj g2
  have he : (wsl ad cA w)[a]? = some (ad a, .inl (cA .long, n, .inr (.inl (w.2 a)))) := wsl_at g1
  have hD := wsl_D (cA := cA) (w := w) (sz := s.heap.size) hI
  refine va_last (D := G) (cl := vwCl) hC.1 hC.2.1 hF.1 hP hD hS a 3 he rfl v1 hd (fun H1 locs1 hP1 hD1 hS1 => ?_)
  rw [v2] at hP1
  have e9 : (wsl ad cA w).set a (ad a, .inl (cA .long, n, .inr (.inl (vp_updL (w.2 a) j v)))) = wsl ad cA (up2 w a j v) := wsl_set g1 (by simp only [cont, up2_on]) (fun _ _ => rfl) up2_off
  rw [e9] at hP1
  exact k p l e s m args below meth c G cA ad hC hF hI H1 locs1 ls hP1 hS1 hl
theorem z_alen {μ : MI} {d : Nat} {Q : Option Value → Wd → Prop} {pc : Nat} {lv : List (Nat × Value)} {st : List Value} {w : Wd} {a : Nat} {q : FieldType × Nat} (hd : decode (mB μ) pc = .ok (.arraylength, 1)) (hg : ga a = some q) (hq : q.1 = .int ∨ q.1 = .boolean ∨ q.1 = .char ∨ q.1 = .long) (k : Z μ d Q (pc + 1) lv (.int (nI q.2) :: st) w) : Z μ d Q pc lv (.ref a :: st) w := by
  intro p l e s m args below meth c G cA ad hC hF hI H locs ls hP hS hl
  obtain ⟨g1, g2⟩ := ga_inv hg
  obtain ⟨ty, n⟩ := q
  have he := wsl_at (ad := ad) (cA := cA) (w := w) g1
  rcases hq with hq | hq | hq | hq <;> cases hq
  · exact va_alen (D := G) (cl := vwCl) hC.1 hC.2.1 hF.1 hP a 0 he rfl rfl hd (k p l e s m args below meth c G cA ad hC hF hI H locs ls hP hS hl)
  · exact va_alen (D := G) (cl := vwCl) hC.1 hC.2.1 hF.1 hP a 1 he rfl rfl hd (k p l e s m args below meth c G cA ad hC hF hI H locs ls hP hS hl)
  · exact va_alen (D := G) (cl := vwCl) hC.1 hC.2.1 hF.1 hP a 2 he rfl rfl hd (k p l e s m args below meth c G cA ad hC hF hI H locs ls hP hS hl)
  · exact va_alen (D := G) (cl := vwCl) hC.1 hC.2.1 hF.1 hP a 3 he rfl rfl hd (k p l e s m args below meth c G cA ad hC hF hI H locs ls hP hS hl)
theorem shp_tys : (shp.all fun x => match x with | .inr (.int, _) => true | .inr (.boolean, _) => true | .inr (.char, _) => true | .inr (.long, _) => true | .inr _ => false | _ => true) = true := by decide +kernel
theorem shp_ty {a : Nat} {q : FieldType × Nat} (h : ga a = some q) : q.1 = .int ∨ q.1 = .boolean ∨ q.1 = .char ∨ q.1 = .long := by
  obtain ⟨h1, -⟩ := ga_inv h
  have h3 := List.all_eq_true.mp shp_tys _ (List.mem_of_getElem? h1)
  obtain ⟨ty, n⟩ := q
  cases ty <;> first | exact Or.inl rfl | exact Or.inr (Or.inl rfl) | exact Or.inr (Or.inr (Or.inl rfl)) | exact Or.inr (Or.inr (Or.inr rfl)) | (cases h3)
theorem cl_name {k : Nat} {q : vw_C} (h : vwCl[k]? = some q) : q.1 = clN.getD k "" := by
  match k, h with
  | 0, h => cases h; rfl
  | 1, h => cases h; rfl
  | 2, h => cases h; rfl
  | 3, h => cases h; rfl
  | 4, h => cases h; rfl
  | 5, h => cases h; rfl
  | 6, h => cases h; rfl
  | 7, h => cases h; rfl
  | 8, h => cases h; rfl
  | 9, h => cases h; rfl
  | 10, h => cases h; rfl
  | 11, h => cases h; rfl
  | 12, h => cases h; rfl
  | k + 13, h => simp [vwCl] at h
theorem stW_le {st : List Value} (ad : Nat → Nat) (h : stW st = true) : ((st.map (cv ad)).map fun v => v.category).sum ≤ 8 := by
  have h9 := Nat.le_of_ble_eq_true h
  rw [List.map_map, show ((fun v : Value => v.category) ∘ cv ad) = (fun v => v.category) from funext (cv_cat ad)]
  exact h9
theorem z_copy {μ : MI} {d : Nat} {Q : Option Value → Wd → Prop} {pc : Nat} {lv : List (Nat × Value)} {st : List Value} {w : Wd} {x a b n0 n1 j0 j1 k : Nat} (ho : (mY μ).cls = clN.getD (mK μ) "") {i : Nat} (hd : decode (mB μ) pc = .ok (.invokestatic x, 3)) (hx : tget (MR (mK μ)) x = some (i, 3)) (ha : ga a = some (.int, n0)) (hb : ga b = some (.int, n1)) (h4 : j0 + k ≤ n0) (h5 : j1 + k ≤ n1) (hd0 : 0 < d) (hst : stW st = true) (kk : Z μ d Q (pc + 3) lv st (upA w b (va_cpy (w.1 a) (w.1 b) j0 j1 k))) : Z μ d Q pc lv (.int (nI k) :: .int (nI j1) :: .ref b :: .int (nI j0) :: .ref a :: st) w := by
  intro p l e s m args below meth c G cA ad hC hF hI H locs ls hP hS hl
  obtain ⟨g1, g2⟩ := ga_inv ha
  obtain ⟨g3, g4⟩ := ga_inv hb
  have hea : (wsl ad cA w)[a]? = some (ad a, .inl (cA .int, n0, .inl (w.1 a))) := wsl_at g1
  have heb : (wsl ad cA w)[b]? = some (ad b, .inl (cA .int, n1, .inl (w.1 b))) := wsl_at g3
  have hD := wsl_D (cA := cA) (w := w) (sz := s.heap.size) hI
  have hlk : Cond.methodLink (clN.getD (mK μ) "") x arraycopyName ∈ TT := MR_ok _ _ (tget_mem hx)
  have hts := hC.2.2.2.2.2.1
  dsimp only at g2 g4
  have c0 : (nI j0).toNatClampNeg = j0 := nI_clamp (by omega)
  have c1 : (nI j1).toNatClampNeg = j1 := nI_clamp (by omega)
  have c2 : (nI k).toNatClampNeg = k := nI_clamp (by omega)
  have hw := stW_le ad hst
  refine va_copyi (D := G) (cl := vwCl) (ty := .int) hC.1 hC.2.1 (hC.2.2.2.1.trans hl.1.symm) hC.2.2.2.2.1 (hts _ (in_ws (by rw [ho]; exact hlk))) (hts _ (in_ws tt_ac_n)) (hts _ (in_ws tt_ac_s)) (hts _ (in_ws tt_sys)) hF.1 hP hD hS a b 0 0 hea heb rfl rfl rfl (nI_pos (by omega)) (nI_pos (by omega)) (nI_pos (by omega)) (by rw [c0, c2]; exact h4) (by rw [c1, c2]; exact h5) (fun _ _ => rfl) (show 1 ≤ (rmD d).frames from hd0) ?_ hd (fun H1 locs1 hP1 hD1 hS1 => ?_)
  · have e1 : nativeFrameWords "java/lang/System" "arraycopy" 5 = 7 := by decide +kernel
    rw [e1]
    show _ ≤ 40 * d
    omega
  · rw [c0, c1, c2] at hP1
    have e9 : (wsl ad cA w).set b (ad b, .inl (cA .int, n1, .inl (va_cpy (w.1 a) (w.1 b) j0 j1 k))) = wsl ad cA (upA w b (va_cpy (w.1 a) (w.1 b) j0 j1 k)) := wsl_set g3 (by simp [cont, upA]) (fun z hz => by funext j; simp [upA, hz]) (fun _ _ => rfl)
    rw [e9] at hP1
    exact kk p l e s m args below meth c G cA ad hC hF hI H1 locs1 ls hP1 hS1 hl
theorem z_min {μ : MI} {d : Nat} {Q : Option Value → Wd → Prop} {pc : Nat} {lv : List (Nat × Value)} {st : List Value} {w : Wd} {x i : Nat} {u v : Int32} (ho : (mY μ).cls = clN.getD (mK μ) "") (hd : decode (mB μ) pc = .ok (.invokestatic x, 3)) (hx : tget (MR (mK μ)) x = some (i, 5)) (hd0 : 0 < d) (hst : stW st = true) (kk : Z μ d Q (pc + 3) lv (.int (if v < u then v else u) :: st) w) : Z μ d Q pc lv (.int v :: .int u :: st) w := by
  intro p l e s m args below meth c G cA ad hC hF hI H locs ls hP hS hl
  have hlk : Cond.methodLink (clN.getD (mK μ) "") x Lib.Math.min.name ∈ TT := MR_ok _ _ (tget_mem hx)
  have hts := hC.2.2.2.2.2.1
  have hw := stW_le ad hst
  exact va_mmin hC.1 hC.2.1 (hC.2.2.2.1.trans hl.1.symm) hC.2.2.2.2.1 (hts _ (in_ws (by rw [ho]; exact hlk))) (hts _ (in_ws tt_min_s)) (hts _ (in_ws tt_math)) (hts _ (in_ws tt_min_c)) (show 1 ≤ (rmD d).frames from hd0) (by show _ ≤ 40 * d; omega) (Nat.zero_le _) (Nat.zero_le _) hd (kk p l e s m args below meth c G cA ad hC hF hI H locs ls hP hS hl)
theorem z_max {μ : MI} {d : Nat} {Q : Option Value → Wd → Prop} {pc : Nat} {lv : List (Nat × Value)} {st : List Value} {w : Wd} {x i : Nat} {u v : Int32} (ho : (mY μ).cls = clN.getD (mK μ) "") (hd : decode (mB μ) pc = .ok (.invokestatic x, 3)) (hx : tget (MR (mK μ)) x = some (i, 6)) (hd0 : 0 < d) (hst : stW st = true) (kk : Z μ d Q (pc + 3) lv (.int (if u < v then v else u) :: st) w) : Z μ d Q pc lv (.int v :: .int u :: st) w := by
  intro p l e s m args below meth c G cA ad hC hF hI H locs ls hP hS hl
  have hlk : Cond.methodLink (clN.getD (mK μ) "") x Lib.Math.max.name ∈ TT := MR_ok _ _ (tget_mem hx)
  have hts := hC.2.2.2.2.2.1
  have hw := stW_le ad hst
  exact va_mmax hC.1 hC.2.1 (hC.2.2.2.1.trans hl.1.symm) hC.2.2.2.2.1 (hts _ (in_ws (by rw [ho]; exact hlk))) (hts _ (in_ws tt_max_s)) (hts _ (in_ws tt_math)) (hts _ (in_ws tt_max_c)) (show 1 ≤ (rmD d).frames from hd0) (by show _ ≤ 40 * d; omega) (Nat.zero_le _) (Nat.zero_le _) hd (kk p l e s m args below meth c G cA ad hC hF hI H locs ls hP hS hl)
theorem z_abs {μ : MI} {d : Nat} {Q : Option Value → Wd → Prop} {pc : Nat} {lv : List (Nat × Value)} {st : List Value} {w : Wd} {x i : Nat} {u : Int32} (ho : (mY μ).cls = clN.getD (mK μ) "") (hd : decode (mB μ) pc = .ok (.invokestatic x, 3)) (hx : tget (MR (mK μ)) x = some (i, 7)) (hd0 : 0 < d) (hst : stW st = true) (kk : Z μ d Q (pc + 3) lv (.int (if 0 ≤ u then u else 0 - u) :: st) w) : Z μ d Q pc lv (.int u :: st) w := by
  intro p l e s m args below meth c G cA ad hC hF hI H locs ls hP hS hl
  have hlk : Cond.methodLink (clN.getD (mK μ) "") x Lib.Math.abs.name ∈ TT := MR_ok _ _ (tget_mem hx)
  have hts := hC.2.2.2.2.2.1
  have hw := stW_le ad hst
  exact va_mabs hC.1 hC.2.1 (hC.2.2.2.1.trans hl.1.symm) hC.2.2.2.2.1 (hts _ (in_ws (by rw [ho]; exact hlk))) (hts _ (in_ws tt_abs_s)) (hts _ (in_ws tt_math)) (hts _ (in_ws tt_abs_c)) (show 1 ≤ (rmD d).frames from hd0) (by show _ ≤ 40 * d; omega) (Nat.zero_le _) (Nat.zero_le _) hd (kk p l e s m args below meth c G cA ad hC hF hI H locs ls hP hS hl)
/-- behind a call -/
theorem z_back {μ : MI} {d : Nat} {Q : Option Value → Wd → Prop} {pc : Nat} {lv : List (Nat × Value)} {st : List Value} {w : Wd} {as : List Value} {Q' : Option Value → Wd → Prop} {st0 : List Value}
    (hr : ∀ (p : Program) (l : Launch) (e : Env) (s : State) (m : MethodId) (args : Array Value) (below : List Frame) (meth : Method) (c : Code) (G : va_G) (cA : FieldType → ClassId) (ad : Nat → Nat), Cx μ p s m args meth c → Fx G cA ad s.heap.size s → Inj ad → ∀ (H : Heap) (locs : List Loc) (ls : Array Slot), va_P G vwCl (wsl ad cA w) H → va_S (AA ad s.heap.size) s.heap H locs → lv_has ls (mL μ) (lvc ad lv) →
      va_Run p l e (rmD d) s m args below meth c H locs 0 0 0 0 (F0 m pc ls (st0.map (cv ad))) (st.map (cv ad)) (Qw G cA ad H.size Q' (as.map (cv ad)).toArray) (AA ad H.size))
    (kk : ∀ (r : Option Value) (w' : Wd), Q' r w' → Z μ d Q (pc + 3) lv (r.toList ++ st) w') : Z μ d Q pc lv st0 w := by
  intro p l e s m args below meth c G cA ad hC hF hI H locs ls hP hS hl T hT X
  obtain ⟨v, st₀, t, T', L, h0, X', hL, e1, e2, ⟨⟨r, w', hv, hq, hP'⟩, hz, hk⟩, sg⟩ := hr p l e s m args below meth c G cA ad hC hF hI H locs ls hP hS hl T hT X
  have hv' : v = r.map (cv ad) := by cases hv; rfl
  subst hv'
  rw [h0] at hz hk
  have hn : ∀ q, AA ad H.size q → AA ad s.heap.size q := fun q hq => hq.elim Or.inl (fun z => Or.inr (Nat.le_trans hS.1 z))
  have hS' : va_S (AA ad s.heap.size) s.heap T'.heap (locs ++ L) := ⟨Nat.le_trans hS.1 (by rw [e1]; exact hz), fun q h1 h2 => by rw [e1, hk q (Nat.lt_of_lt_of_le h1 hS.1) (fun z => h2 (hn q z))]; exact hS.2.1 q h1 h2, fun q hq => by
      rcases List.mem_append.mp hq with h | h
      · exact hS.2.2 q h
      · exact hn _ (hL q h)⟩
  have hst : (r.map (cv ad)).toList ++ st.map (cv ad) = (r.toList ++ st).map (cv ad) := by cases r <;> rfl
  obtain ⟨t2, a1, b1⟩ := kk r w' hq p l e s m args below meth c G cA ad hC hF hI T'.heap (locs ++ L) ls (by rw [e1]; exact hP') hS' hl T' rfl X'
  rw [← hst] at a1
  exact ⟨t2, sg t2 a1, b1⟩
theorem Pw_blind {G : va_G} {cA : FieldType → ClassId} {ad : Nat → Nat} {sz : Nat} {as : List Value} {w : Wd} : FrameBlind (Pw G cA ad sz as w) := fun a U g mk h => by
  obtain ⟨h1, h2, h3, h4, h5⟩ := h
  exact ⟨h1, h2, h3, h4.calling g mk a, h5⟩
theorem good_ws {μ μ' : MI} (h : Cond.code (mY μ') (mB μ') (mL μ') (mR μ') ∈ TT) : GoodIn (wsM μ) (wsM μ') := by
  intro z hz
  rcases List.mem_cons.mp hz with e | hz
  · subst e
    exact ⟨in_ws h, tt_good h⟩
  · exact ⟨in_ws hz, tt_good hz⟩
theorem rm_fit {d L : Nat} (h : L ≤ 21) : (rmD d).frames + 1 ≤ (rmD (d + 1)).frames ∧ 8 + (L + 11) + (rmD d).locals ≤ (rmD (d + 1)).locals := by
  refine ⟨Nat.le_refl _, ?_⟩
  show 8 + (L + 11) + 40 * d ≤ 40 * (d + 1)
  omega
theorem cw_V {μ μ' : MI} {d x n : Nat} {s : State} {args : Array Value} (ho : (mY μ).cls = clN.getD (mK μ) "") (hts : ∀ w ∈ wsM μ, w.before args s = true) (hlk : Cond.methodLink (clN.getD (mK μ) "") x (mY μ') ∈ TT) (hM : MOK (μ', n, false)) : CallW (rmD (d + 1)) s args (mY μ).cls (mY μ').cls x (mY μ') (mB μ') (mL μ') (mR μ') (wsM μ') (rmD d) 0 0 n := by
  obtain ⟨m1, m2, m3, m4, m5, m67, m8, m9, m10⟩ := hM
  dsimp only at m1 m2 m3 m4 m5 m67 m8 m9 m10
  rw [if_neg (by decide)] at m67
  obtain ⟨m6, m7⟩ := m67
  refine cwV (Ts := wsM μ) n hts ?_ rfl rfl rfl ⟨rfl, m3, m4, m5⟩ (rm_fit m9)
  intro z hz
  rcases List.mem_append.mp hz with hz | hz
  · simp only [List.mem_cons, List.not_mem_nil, or_false] at hz
    rcases hz with e | e | e | e <;> subst e
    · rw [ho]; exact ⟨in_ws hlk, tt_good hlk⟩
    · exact ⟨in_ws m6, tt_good m6⟩
    · exact ⟨in_ws m7, tt_good m7⟩
    · exact ⟨in_ws m2, tt_good m2⟩
  · exact good_ws m1 z hz
theorem z_callV {μ : MI} {d : Nat} {Q : Option Value → Wd → Prop} {pc : Nat} {lv : List (Nat × Value)} {st : List Value} {w : Wd} {x b i n : Nat} {μ' : MI} {as : List Value} {Q' : Option Value → Wd → Prop} (ho : (mY μ).cls = clN.getD (mK μ) "") (hd : decode (mB μ) pc = .ok (.invokevirtual x, 3)) (hx : tget (MR (mK μ)) x = some (i, 0)) (hm : MT[i]? = some (μ', n, false)) (has : as.length = n) (hc : isC b (mK μ') = true) (hst : stW st = true) (hE : Ev μ' d (.ref b :: as) w Q')
    (kk : ∀ (r : Option Value) (w' : Wd), Q' r w' → Z μ (d + 1) Q (pc + 3) lv (r.toList ++ st) w') : Z μ (d + 1) Q pc lv (as.reverse ++ .ref b :: st) w := by
  refine z_back (as := .ref b :: as) (Q' := Q') ?_ kk
  intro p l e s m args below meth c G cA ad hC hF hI H locs ls hP hS hl
  have hM := MT_ok _ (List.mem_of_getElem? hm)
  obtain ⟨y, hy, hlk⟩ := MR_ok _ _ (tget_mem hx)
  cases hm.symm.trans hy
  obtain ⟨fs, g1⟩ := isC_inv hc
  have he : (wsl ad cA w)[b]? = some (ad b, .inr (mK μ', fs.mapIdx (fv ad w b))) := wsl_at g1
  obtain ⟨r0, h1, -⟩ := id (hP b _ he)
  have hq1 : r0.1 = (mY μ').cls := (cl_name h1).trans hM.2.2.2.2.2.2.2.2.symm
  refine va_runV (As := as.map (cv ad)) (b := ad b) (n := n) (nL := mL μ) (Ts := wsM μ) ⟨hC.1, hC.2.1, hC.2.2.2.1, hC.2.2.2.2.1, hC.2.2.2.2.2.1⟩ (hE l G cA ad H.size) (cw_V ho hC.2.2.2.2.2.1 hlk hM) ⟨Pw_blind, ?_, fun U hU hW => ⟨rfl, by rw [hU], by rw [hU]; exact hP, hF.go hS hU hW, hI⟩⟩ rfl (by simpa using has) hl.1 (by simp [List.map_reverse, cv]) (lv_room (stW_le ad hst)) hd ⟨Nat.zero_le _, Nat.zero_le _⟩
  rw [← hq1]
  exact va_recv hF.1 hP h1 he
theorem z_callS {μ : MI} {d : Nat} {Q : Option Value → Wd → Prop} {pc : Nat} {lv : List (Nat × Value)} {st : List Value} {w : Wd} {x i n kd : Nat} {μ' : MI} {as : List Value} {Q' : Option Value → Wd → Prop} (ho : (mY μ).cls = clN.getD (mK μ) "") (hd : decode (mB μ) pc = .ok (.invokestatic x, 3)) (hx : tget (MR (mK μ)) x = some (i, kd)) (hkd : kd = 1 ∨ kd = 2) (hm : MT[i]? = some (μ', n, true)) (has : as.length = n) (hst : stW st = true) (hE : Ev μ' d as w Q')
    (kk : ∀ (r : Option Value) (w' : Wd), Q' r w' → Z μ (d + 1) Q (pc + 3) lv (r.toList ++ st) w') : Z μ (d + 1) Q pc lv (as.reverse ++ st) w := by
  refine z_back (as := as) (Q' := Q') ?_ kk
  intro p l e s m args below meth c G cA ad hC hF hI H locs ls hP hS hl
  obtain ⟨m1, m2, m3, m4, m5, m6, m8, m9, m10⟩ := MT_ok _ (List.mem_of_getElem? hm)
  dsimp only at m1 m2 m3 m4 m5 m6 m8 m9 m10
  rw [if_pos rfl] at m6
  rcases hkd with rfl | rfl
  · obtain ⟨y, hy, hlk⟩ := MR_ok _ _ (tget_mem hx)
    cases hm.symm.trans hy
    have hcw : CallB (rmD (d + 1)) s args (mY μ).cls x (mY μ') (mB μ') (mL μ') (mR μ') (wsM μ') (rmD d) 0 0 n ∧ (Cond.static (mY μ')).before args s = true := by
      refine va_cwS (Ts := wsM μ) n hC.2.2.2.2.2.1 ?_ rfl rfl rfl ⟨m3, m4, m5⟩ (rm_fit m9)
      intro z hz
      rcases List.mem_append.mp hz with hz | hz
      · simp only [List.mem_cons, List.not_mem_nil, or_false] at hz
        rcases hz with e | e | e <;> subst e
        · rw [ho]; exact ⟨in_ws hlk, tt_good hlk⟩
        · exact ⟨in_ws m6, tt_good m6⟩
        · exact ⟨in_ws m2, tt_good m2⟩
      · exact good_ws m1 z hz
    exact va_runS (As := as.map (cv ad)) (n := n) (nL := mL μ) (Ts := wsM μ) ⟨hC.1, hC.2.1, hC.2.2.2.1, hC.2.2.2.2.1, hC.2.2.2.2.2.1⟩ (hE l G cA ad H.size) hcw ⟨Pw_blind, fun U hU hW => ⟨rfl, by rw [hU], by rw [hU]; exact hP, hF.go hS hU hW, hI⟩⟩ rfl (by simpa using has) hl.1 (by simp [List.map_reverse]) (lv_room (stW_le ad hst)) hd ⟨Nat.zero_le _, Nat.zero_le _⟩
  · obtain ⟨y, hy, host, hlk⟩ := MR_ok _ _ (tget_mem hx)
    cases hm.symm.trans hy
    have hN := hF.2.1 _ hlk
    dsimp only at hN
    rw [← ho] at hN
    have hcw : va_CN (rmD (d + 1)) s args (mY μ).cls x (mY μ') host (mB μ') (mL μ') (mR μ') (wsM μ') (rmD d) 0 0 n := va_cnB (Ts := wsM μ) n hC.2.2.2.2.2.1 (good_ws m1) rfl rfl rfl hN (hC.2.2.2.2.2.1 _ (in_ws m2)) ⟨m3, m4, m5⟩ (rm_fit m9)
    exact va_runSN (As := as.map (cv ad)) (n := n) (nL := mL μ) (Ts := wsM μ) ⟨hC.1, hC.2.1, hC.2.2.2.1, hC.2.2.2.2.1, hC.2.2.2.2.2.1⟩ (hE l G cA ad H.size) ⟨hcw, hC.2.2.2.2.2.1 _ (in_ws m6), trivial⟩ ⟨Pw_blind, fun U hU hW => ⟨rfl, by rw [hU], by rw [hU]; exact hP, hF.go hS hU hW, hI⟩⟩ rfl (by simpa using has) hl.1 (by simp [List.map_reverse]) (lv_room (stW_le ad hst)) hd ⟨Nat.zero_le _, Nat.zero_le _⟩
theorem z_callT {μ : MI} {d : Nat} {Q : Option Value → Wd → Prop} {pc : Nat} {lv : List (Nat × Value)} {st : List Value} {w : Wd} {x i n k : Nat} {μ' : MI} {as : List Value} {Q' : Option Value → Wd → Prop} (ho : (mY μ).cls = clN.getD (mK μ) "") (hd : decode (mB μ) pc = .ok (.invokevirtual x, 3)) (hx : tget (MR (mK μ)) x = some (i, 4)) (hm : MT[i]? = some (μ', n, false)) (has : as.length = n) (hk : k < 10) (hc : mK μ' = 17) (hst : stW st = true) (hE : Ev μ' d (.ref (200 + k) :: as) w Q')
    (kk : ∀ (r : Option Value) (w' : Wd), Q' r w' → Z μ (d + 1) Q (pc + 3) lv (r.toList ++ st) w') : Z μ (d + 1) Q pc lv (as.reverse ++ .ref (200 + k) :: st) w := by
  refine z_back (as := .ref (200 + k) :: as) (Q' := Q') ?_ kk
  intro p l e s m args below meth c G cA ad hC hF hI H locs ls hP hS hl
  have hM := MT_ok _ (List.mem_of_getElem? hm)
  obtain ⟨y, hy, hlk⟩ := MR_ok _ _ (tget_mem hx)
  cases hm.symm.trans hy
  have hcl : (mY μ').cls = "java/lang/String" := hM.2.2.2.2.2.2.2.2.trans (by dsimp only; rw [hc]; rfl)
  refine va_runV (As := as.map (cv ad)) (b := ad (200 + k)) (n := n) (nL := mL μ) (Ts := wsM μ) ⟨hC.1, hC.2.1, hC.2.2.2.1, hC.2.2.2.2.1, hC.2.2.2.2.2.1⟩ (hE l G cA ad H.size) (cw_V ho hC.2.2.2.2.2.1 hlk hM) ⟨Pw_blind, ?_, fun U hU hW => ⟨rfl, by rw [hU], by rw [hU]; exact hP, hF.go hS hU hW, hI⟩⟩ rfl (by simpa using has) hl.1 (by simp [List.map_reverse, cv]) (lv_room (stW_le ad hst)) hd ⟨Nat.zero_le _, Nat.zero_le _⟩
  rw [hcl]
  exact vk_recv (adK := fun k => ad (200 + k)) hF.2.2.2.1 hk hS
/-- a call by the type of its answer -/
theorem cal_inv {μ' : MI} {d : Nat} {as : List Value} {w : Wd} {K : List Value → Wd → Prop} (h : cal μ' d as w K) : ∃ (d' : Nat) (Q' : Option Value → Wd → Prop), d = d' + 1 ∧ Ev μ' d' as w Q' ∧ ∀ (r : Option Value) (w' : Wd), Q' r w' → K r.toList w' := by
  cases d with
  | zero => exact h.elim
  | succ d =>
    unfold cal at h
    dsimp only at h
    split at h
    · obtain ⟨Q, h1, h2⟩ := h
      exact ⟨d, _, rfl, h1, fun r w' hq => by
        cases r with
        | none => exact h2 w' hq
        | some v => exact hq.elim⟩
    · obtain ⟨Q, h1, h2⟩ := h
      exact ⟨d, _, rfl, h1, fun r w' hq => by
        cases r with
        | none => exact hq.elim
        | some v => cases v <;> first | exact h2 _ w' hq | exact hq.elim⟩
    · obtain ⟨Q, h1, h2⟩ := h
      exact ⟨d, _, rfl, h1, fun r w' hq => by
        cases r with
        | none => exact hq.elim
        | some v => cases v <;> first | exact h2 _ w' hq | exact hq.elim⟩
    · obtain ⟨Q, h1, h2⟩ := h
      exact ⟨d, _, rfl, h1, fun r w' hq => by
        cases r with
        | none => exact hq.elim
        | some v => cases v <;> first | exact h2 _ w' hq | exact hq.elim⟩
theorem rok_inv {ty : FieldType} {v : Int32} {P : Prop} (h : rok ty v P) : narrow ty (.int v) = .int v ∧ P := by
  unfold rok at h
  split at h
  · exact ⟨rfl, h⟩
  · refine ⟨?_, h.2⟩
    rcases h.1 with e | e <;> subst e <;> rfl
  · obtain ⟨⟨j, hj, rfl⟩, h⟩ := h
    exact ⟨(pk_charN hj).1, h⟩
  · exact h.elim
def ln : Instr → Nat
  | .aload_n _ | .iload_n _ | .lload_n _ | .istore_n _ | .lstore_n _ | .iconst _ | .lconst _ => 1
  | .aload _ | .iload _ | .lload _ | .istore _ | .lstore _ | .bipush _ | .ldc _ => 2
  | .iinc _ _ | .sipush _ | .ldc_w _ | .ldc2_w _ | .ifCond _ _ | .if_icmp _ _ | .goto _ | .getfield _ | .putfield _ | .invokevirtual _ | .invokestatic _ => 3
  | .tableswitch _ _ _ _ | .lookupswitch _ _ => 0
  | _ => 1
set_option maxHeartbeats 4000000 in
set_option maxRecDepth 100000 in
/-- ONE STEP IS SOUND -/
theorem stp_ok {μ : MI} {d : Nat} {Q : Option Value → Wd → Prop} {pc : Nat} {lv : List (Nat × Value)} {st : List Value} {w : Wd} (ho : (mY μ).cls = clN.getD (mK μ) "") {i : Instr} {len : Nat} {K : Nat → List (Nat × Value) → List Value → Wd → Prop} (hd : decode (mB μ) pc = .ok (i, len)) (hln : ln i = 0 ∨ len = ln i) (hK : ∀ pc lv st w, K pc lv st w → Z μ d Q pc lv st w) (h : stp μ d Q i pc lv st w K) : Z μ d Q pc lv st w := by
  have hl : ∀ {n : Nat}, ln i = n + 1 → decode (mB μ) pc = .ok (i, n + 1) := by
    intro n hn
    rcases hln with h9 | h9
    · omega
    · rw [hd, h9, hn]
  cases i with
  | iload_n k =>
    obtain ⟨v, hg, h⟩ := ldI_inv h; exact z_iload_n (hl rfl) hg (hK _ _ _ _ h)
  | iload k =>
    obtain ⟨v, hg, h⟩ := ldI_inv h; exact z_iload (hl rfl) hg (hK _ _ _ _ h)
  | lload_n k =>
    obtain ⟨v, hg, h⟩ := ldL_inv h; exact z_lload_n (hl rfl) hg (hK _ _ _ _ h)
  | lload k =>
    obtain ⟨v, hg, h⟩ := ldL_inv h; exact z_lload (hl rfl) hg (hK _ _ _ _ h)
  | aload_n k =>
    obtain ⟨v, hg, h⟩ := ldR_inv h; exact z_aload_n (hl rfl) hg (hK _ _ _ _ h)
  | aload k =>
    obtain ⟨v, hg, h⟩ := ldR_inv h; exact z_aload (hl rfl) hg (hK _ _ _ _ h)
  | istore_n k =>
    obtain ⟨v, t, rfl, h⟩ := pI_inv h; obtain ⟨hb, h⟩ := bo_inv h; exact z_istore_n (hl rfl) (Nat.le_of_ble_eq_true hb) (hK _ _ _ _ h)
  | istore k =>
    obtain ⟨v, t, rfl, h⟩ := pI_inv h; obtain ⟨hb, h⟩ := bo_inv h; exact z_istore (hl rfl) (Nat.le_of_ble_eq_true hb) (hK _ _ _ _ h)
  | lstore_n k =>
    obtain ⟨v, t, rfl, h⟩ := pL_inv h; obtain ⟨hb, h⟩ := bo_inv h; exact z_lstore_n (hl rfl) (Nat.le_of_ble_eq_true hb) (hK _ _ _ _ h)
  | lstore k =>
    obtain ⟨v, t, rfl, h⟩ := pL_inv h; obtain ⟨hb, h⟩ := bo_inv h; exact z_lstore (hl rfl) (Nat.le_of_ble_eq_true hb) (hK _ _ _ _ h)
  | iinc k n =>
    obtain ⟨v, hg, h⟩ := ldI_inv h; obtain ⟨hb, h⟩ := bo_inv h; exact z_iinc (hl rfl) hg (Nat.le_of_ble_eq_true hb) (hK _ _ _ _ h)
  | iconst n =>
    exact z_iconst (hl rfl) (hK _ _ _ _ h)
  | bipush n =>
    obtain ⟨hb, h⟩ := bo_inv h; rw [Bool.and_eq_true, decide_eq_true_eq, decide_eq_true_eq] at hb; exact z_bipush hb.1 hb.2 (hl rfl) (hK _ _ _ _ h)
  | sipush n =>
    obtain ⟨hb, h⟩ := bo_inv h; rw [Bool.and_eq_true, decide_eq_true_eq, decide_eq_true_eq] at hb; exact z_sipush hb.1 hb.2 (hl rfl) (hK _ _ _ _ h)
  | lconst n =>
    exact z_lconst (hl rfl) (hK _ _ _ _ h)
  | ldc x =>
    unfold stp at h; dsimp only at h; split at h
    · exact z_ldc ho (hl rfl) (by assumption) (hK _ _ _ _ h)
    · obtain ⟨k, hx, h⟩ := ot_inv h; exact z_ldcS ho (hl rfl) hx (hK _ _ _ _ h)
  | ldc_w x =>
    obtain ⟨v, hx, h⟩ := ot_inv h; exact z_ldc_w ho (hl rfl) hx (hK _ _ _ _ h)
  | ldc2_w x =>
    obtain ⟨v, hx, h⟩ := ot_inv h; exact z_ldc2 ho (hl rfl) hx (hK _ _ _ _ h)
  | iadd =>
    obtain ⟨y, t, rfl, h⟩ := pI_inv h; obtain ⟨x, t, rfl, h⟩ := pI_inv h; exact z_iadd (hl rfl) (hK _ _ _ _ h)
  | isub =>
    obtain ⟨y, t, rfl, h⟩ := pI_inv h; obtain ⟨x, t, rfl, h⟩ := pI_inv h; exact z_isub (hl rfl) (hK _ _ _ _ h)
  | imul =>
    obtain ⟨y, t, rfl, h⟩ := pI_inv h; obtain ⟨x, t, rfl, h⟩ := pI_inv h; exact z_imul (hl rfl) (hK _ _ _ _ h)
  | iand =>
    obtain ⟨y, t, rfl, h⟩ := pI_inv h; obtain ⟨x, t, rfl, h⟩ := pI_inv h; exact z_iand (hl rfl) (hK _ _ _ _ h)
  | ior =>
    obtain ⟨y, t, rfl, h⟩ := pI_inv h; obtain ⟨x, t, rfl, h⟩ := pI_inv h; exact z_ior (hl rfl) (hK _ _ _ _ h)
  | ishl =>
    obtain ⟨y, t, rfl, h⟩ := pI_inv h; obtain ⟨x, t, rfl, h⟩ := pI_inv h; exact z_ishl (hl rfl) (hK _ _ _ _ h)
  | ishr =>
    obtain ⟨y, t, rfl, h⟩ := pI_inv h; obtain ⟨x, t, rfl, h⟩ := pI_inv h; exact z_ishr (hl rfl) (hK _ _ _ _ h)
  | iushr =>
    obtain ⟨y, t, rfl, h⟩ := pI_inv h; obtain ⟨x, t, rfl, h⟩ := pI_inv h; exact z_iushr (hl rfl) (hK _ _ _ _ h)
  | idiv =>
    obtain ⟨y, t, rfl, h⟩ := pI_inv h; obtain ⟨x, t, rfl, h⟩ := pI_inv h; exact z_idiv h.1 (hl rfl) (hK _ _ _ _ h.2)
  | irem =>
    obtain ⟨y, t, rfl, h⟩ := pI_inv h; obtain ⟨x, t, rfl, h⟩ := pI_inv h; exact z_irem h.1 (hl rfl) (hK _ _ _ _ h.2)
  | ineg =>
    obtain ⟨x, t, rfl, h⟩ := pI_inv h; exact z_ineg (hl rfl) (hK _ _ _ _ h)
  | ladd =>
    obtain ⟨y, t, rfl, h⟩ := pL_inv h; obtain ⟨x, t, rfl, h⟩ := pL_inv h; exact z_ladd (hl rfl) (hK _ _ _ _ h)
  | lsub =>
    obtain ⟨y, t, rfl, h⟩ := pL_inv h; obtain ⟨x, t, rfl, h⟩ := pL_inv h; exact z_lsub (hl rfl) (hK _ _ _ _ h)
  | lmul =>
    obtain ⟨y, t, rfl, h⟩ := pL_inv h; obtain ⟨x, t, rfl, h⟩ := pL_inv h; exact z_lmul (hl rfl) (hK _ _ _ _ h)
  | land =>
    obtain ⟨y, t, rfl, h⟩ := pL_inv h; obtain ⟨x, t, rfl, h⟩ := pL_inv h; exact z_land (hl rfl) (hK _ _ _ _ h)
  | lor =>
    obtain ⟨y, t, rfl, h⟩ := pL_inv h; obtain ⟨x, t, rfl, h⟩ := pL_inv h; exact z_lor (hl rfl) (hK _ _ _ _ h)
  | lxor =>
    obtain ⟨y, t, rfl, h⟩ := pL_inv h; obtain ⟨x, t, rfl, h⟩ := pL_inv h; exact z_lxor (hl rfl) (hK _ _ _ _ h)
  | lshl =>
    obtain ⟨y, t, rfl, h⟩ := pI_inv h; obtain ⟨x, t, rfl, h⟩ := pL_inv h; exact z_lshl (hl rfl) (hK _ _ _ _ h)
  | lshr =>
    obtain ⟨y, t, rfl, h⟩ := pI_inv h; obtain ⟨x, t, rfl, h⟩ := pL_inv h; exact z_lshr (hl rfl) (hK _ _ _ _ h)
  | lushr =>
    obtain ⟨y, t, rfl, h⟩ := pI_inv h; obtain ⟨x, t, rfl, h⟩ := pL_inv h; exact z_lushr (hl rfl) (hK _ _ _ _ h)
  | lcmp =>
    obtain ⟨y, t, rfl, h⟩ := pL_inv h; obtain ⟨x, t, rfl, h⟩ := pL_inv h; exact z_lcmp (hl rfl) (hK _ _ _ _ h)
  | i2l =>
    obtain ⟨x, t, rfl, h⟩ := pI_inv h; exact z_i2l (hl rfl) (hK _ _ _ _ h)
  | l2i =>
    obtain ⟨x, t, rfl, h⟩ := pL_inv h; exact z_l2i (hl rfl) (hK _ _ _ _ h)
  | i2c =>
    obtain ⟨x, t, rfl, h⟩ := pI_inv h; exact z_i2c (hl rfl) (hK _ _ _ _ h)
  | dup =>
    cases st with
    | nil => exact h.elim
    | cons v t => obtain ⟨hb, h⟩ := bo_inv h; exact z_dup (Nat.eq_of_beq_eq_true hb) (hl rfl) (hK _ _ _ _ h)
  | pop =>
    cases st with
    | nil => exact h.elim
    | cons v t => obtain ⟨hb, h⟩ := bo_inv h; exact z_pop (Nat.eq_of_beq_eq_true hb) (hl rfl) (hK _ _ _ _ h)
  | dup2 =>
    match st, h with
    | v :: u :: t, h => obtain ⟨hb, h⟩ := bo_inv h; rw [Bool.and_eq_true] at hb; exact z_dup2 (Nat.eq_of_beq_eq_true hb.1) (Nat.eq_of_beq_eq_true hb.2) (hl rfl) (hK _ _ _ _ h)
    | [v], h => exact h.elim
    | [], h => exact h.elim
  | goto o =>
    obtain ⟨tg, hj, h⟩ := jp_inv h; exact z_goto (hl rfl) hj (hK _ _ _ _ h)
  | ifCond c o =>
    obtain ⟨x, t, rfl, h⟩ := pI_inv h; obtain ⟨tg, hj, h⟩ := jp_inv h; exact z_if (hl rfl) hj (fun hc => hK _ _ _ _ (h.1 hc)) (fun hc => hK _ _ _ _ (h.2 hc))
  | if_icmp c o =>
    obtain ⟨y, t, rfl, h⟩ := pI_inv h; obtain ⟨x, t, rfl, h⟩ := pI_inv h; obtain ⟨tg, hj, h⟩ := jp_inv h; exact z_icmp (hl rfl) hj (fun hc => hK _ _ _ _ (h.1 hc)) (fun hc => hK _ _ _ _ (h.2 hc))
  | iaload =>
    obtain ⟨i, t, rfl, h⟩ := pI_inv h; obtain ⟨a, t, rfl, h⟩ := pR_inv h; obtain ⟨q, hq, h⟩ := ot_inv h; obtain ⟨e1, ⟨j, hi, hj, k9⟩, -⟩ := aok_inv h; obtain ⟨ty, n⟩ := q; cases e1; exact z_iaload (hl rfl) hq hi hj (hK _ _ _ _ k9)
  | iastore =>
    obtain ⟨v, t, rfl, h⟩ := pI_inv h; obtain ⟨i, t, rfl, h⟩ := pI_inv h; obtain ⟨a, t, rfl, h⟩ := pR_inv h; obtain ⟨q, hq, h⟩ := ot_inv h; obtain ⟨e1, ⟨j, hi, hj, k9⟩, -⟩ := aok_inv h; obtain ⟨ty, n⟩ := q; cases e1; exact z_iastore (hl rfl) hq hi hj (hK _ _ _ _ k9)
  | baload =>
    obtain ⟨i, t, rfl, h⟩ := pI_inv h; obtain ⟨a, t, rfl, h⟩ := pR_inv h; obtain ⟨q, hq, h⟩ := ot_inv h; obtain ⟨e1, ⟨j, hi, hj, k9⟩, -⟩ := aok_inv h; obtain ⟨ty, n⟩ := q; cases e1; exact z_baload (hl rfl) hq hi hj (hK _ _ _ _ k9)
  | bastore =>
    obtain ⟨v, t, rfl, h⟩ := pI_inv h; obtain ⟨i, t, rfl, h⟩ := pI_inv h; obtain ⟨a, t, rfl, h⟩ := pR_inv h; obtain ⟨q, hq, h⟩ := ot_inv h; obtain ⟨e1, ⟨j, hi, hj, k9⟩, -⟩ := aok_inv h; obtain ⟨ty, n⟩ := q; cases e1; exact z_bastore (hl rfl) hq hi hj k9.1 (hK _ _ _ _ k9.2)
  | caload =>
    obtain ⟨i, t, rfl, h⟩ := pI_inv h; obtain ⟨a, t, rfl, h⟩ := pR_inv h; obtain ⟨q, hq, h⟩ := ot_inv h; obtain ⟨e1, ⟨j, hi, hj, k9⟩, -⟩ := aok_inv h; obtain ⟨ty, n⟩ := q; cases e1; exact z_caload (hl rfl) hq hi hj (hK _ _ _ _ k9)
  | castore =>
    obtain ⟨v, t, rfl, h⟩ := pI_inv h; obtain ⟨i, t, rfl, h⟩ := pI_inv h; obtain ⟨a, t, rfl, h⟩ := pR_inv h; obtain ⟨q, hq, h⟩ := ot_inv h; obtain ⟨e1, ⟨j, hi, hj, k9⟩, -⟩ := aok_inv h; obtain ⟨ty, n⟩ := q; cases e1; exact z_castore (hl rfl) hq hi hj k9.1 (hK _ _ _ _ k9.2)
  | laload =>
    obtain ⟨i, t, rfl, h⟩ := pI_inv h; obtain ⟨a, t, rfl, h⟩ := pR_inv h; obtain ⟨q, hq, h⟩ := ot_inv h; obtain ⟨e1, ⟨j, hi, hj, k9⟩, -⟩ := aok_inv h; obtain ⟨ty, n⟩ := q; cases e1; exact z_laload (hl rfl) hq hi hj (hK _ _ _ _ k9)
  | lastore =>
    obtain ⟨v, t, rfl, h⟩ := pL_inv h; obtain ⟨i, t, rfl, h⟩ := pI_inv h; obtain ⟨a, t, rfl, h⟩ := pR_inv h; obtain ⟨q, hq, h⟩ := ot_inv h; obtain ⟨e1, ⟨j, hi, hj, k9⟩, -⟩ := aok_inv h; obtain ⟨ty, n⟩ := q; cases e1; exact z_lastore (hl rfl) hq hi hj (hK _ _ _ _ k9)
  | tableswitch df lo hi os =>
    obtain ⟨x, t, rfl, h⟩ := pI_inv h; obtain ⟨hb, h⟩ := bo_inv h; rw [Bool.and_eq_true, Bool.and_eq_true, decide_eq_true_eq, decide_eq_true_eq, decide_eq_true_eq] at hb; exact z_table hd hb.1.1 hb.1.2 hb.2 (swc_mono (fun _ hh => hK _ _ _ _ hh) _ h)
  | lookupswitch df ps =>
    obtain ⟨x, t, rfl, h⟩ := pI_inv h; obtain ⟨hb, h⟩ := bo_inv h; rw [Bool.and_eq_true] at hb; exact z_lookup hd hb.1 (fun q hq => by have h9 := List.all_eq_true.mp hb.2 q hq; rw [Bool.and_eq_true, decide_eq_true_eq, decide_eq_true_eq] at h9; exact h9) (swc_mono (fun _ hh => hK _ _ _ _ hh) _ h)
  | getfield x =>
    obtain ⟨a, t, rfl, h⟩ := pR_inv h; obtain ⟨q, hx, h⟩ := ot_inv h; obtain ⟨v, hg, h⟩ := ot_inv h; exact z_get ho (hl rfl) hx hg (hK _ _ _ _ h)
  | putfield x =>
    obtain ⟨v, t, rfl, h⟩ := pI_inv h; obtain ⟨a, t, rfl, h⟩ := pR_inv h; obtain ⟨q, hx, h⟩ := ot_inv h; obtain ⟨hb, h⟩ := bo_inv h
    by_cases h0 : q.2.2 = 0
    · rw [if_pos h0] at h; exact z_put ho (hl rfl) hx hb (Or.inl h0) (hK _ _ _ _ h)
    · rw [if_neg h0] at h; exact z_put ho (hl rfl) hx hb (Or.inr h.1) (hK _ _ _ _ h.2)
  | arraylength =>
    obtain ⟨a, t, rfl, h⟩ := pR_inv h; obtain ⟨q, hq, h⟩ := ot_inv h; exact z_alen (hl rfl) hq (shp_ty hq) (hK _ _ _ _ h)
  | ireturn =>
    obtain ⟨v, rfl, h⟩ := pIs_inv h; obtain ⟨ty, hr, h⟩ := ot_inv h; obtain ⟨hn, h⟩ := rok_inv h; exact z_ret (st := []) (hl rfl) hr hn h
  | lreturn =>
    unfold stp at h; dsimp only at h; split at h
    · exact z_lret (st := []) (hl rfl) (by assumption) h
    · exact h.elim
  | areturn =>
    unfold stp at h; dsimp only at h; split at h
    · exact z_aret (st := []) (hl rfl) (by assumption) h
    · exact h.elim
  | return_ =>
    unfold stp at h; dsimp only at h; split at h
    · exact z_vret (st := []) (hl rfl) (by assumption) h
    · exact h.elim
  | invokevirtual x =>
    obtain ⟨q, hx, h21⟩ := ot_inv h
    obtain ⟨i, kd⟩ := q
    dsimp only at h21
    split at h21
    · obtain ⟨⟨μ', n, sb⟩, hm, h22⟩ := ot_inv h21
      obtain ⟨⟨as, rest⟩, hu, h23⟩ := ot_inv h22
      obtain ⟨b, t, hb2, h24⟩ := pR_inv h23
      obtain ⟨hb, h25⟩ := bo_inv h24
      dsimp only at hm hu hb2 hb h25
      rw [Bool.and_eq_true, Bool.and_eq_true] at hb
      obtain ⟨⟨hb3, hb4⟩, hb5⟩ := hb
      cases sb
      · obtain ⟨bs, e1, e2, e3⟩ := tkA_spec _ _ _ _ _ hu
        rw [List.append_nil] at e1
        subst e1
        subst hb2
        subst e2
        obtain ⟨d', Q', e4, hE, h26⟩ := cal_inv h25
        subst e4
        exact z_callV ho (hl rfl) hx hm e3 hb4 hb5 hE (fun r w' hq => hK _ _ _ _ (h26 r w' hq))
      · cases hb3
    · obtain ⟨⟨μ', n, sb⟩, hm, h27⟩ := ot_inv h21
      obtain ⟨⟨as, rest⟩, hu, h28⟩ := ot_inv h27
      obtain ⟨b, t, hb2, h29⟩ := pR_inv h28
      obtain ⟨⟨k, hk, hbk⟩, h30⟩ := h29
      obtain ⟨hb, h31⟩ := bo_inv h30
      dsimp only at hm hu hb2 hb h31
      rw [Bool.and_eq_true, Bool.and_eq_true] at hb
      obtain ⟨⟨hb3, hb4⟩, hb5⟩ := hb
      cases sb
      · obtain ⟨bs, e1, e2, e3⟩ := tkA_spec _ _ _ _ _ hu
        rw [List.append_nil] at e1
        subst e1
        subst hb2
        subst e2
        subst hbk
        obtain ⟨d', Q', e4, hE, h32⟩ := cal_inv h31
        subst e4
        exact z_callT ho (hl rfl) hx hm e3 hk (Nat.eq_of_beq_eq_true hb4) hb5 hE (fun r w' hq => hK _ _ _ _ (h32 r w' hq))
      · cases hb3
    · exact h21.elim
  | invokestatic x =>
    obtain ⟨q, hx, h21⟩ := ot_inv h
    obtain ⟨i, kd⟩ := q
    dsimp only at h21
    split at h21
    · obtain ⟨⟨μ', n, sb⟩, hm, h22⟩ := ot_inv h21
      obtain ⟨⟨as, rest⟩, hu, h23⟩ := ot_inv h22
      obtain ⟨hb, h24⟩ := bo_inv h23
      dsimp only at hm hu hb h24
      rw [Bool.and_eq_true] at hb
      obtain ⟨hb3, hb5⟩ := hb
      subst hb3
      obtain ⟨bs, e1, e2, e3⟩ := tkA_spec _ _ _ _ _ hu
      rw [List.append_nil] at e1
      subst e1
      subst e2
      obtain ⟨d', Q', e4, hE, h25⟩ := cal_inv h24
      subst e4
      exact z_callS ho (hl rfl) hx (Or.inl rfl) hm e3 hb5 hE (fun r w' hq => hK _ _ _ _ (h25 r w' hq))
    · obtain ⟨⟨μ', n, sb⟩, hm, h26⟩ := ot_inv h21
      obtain ⟨⟨as, rest⟩, hu, h27⟩ := ot_inv h26
      obtain ⟨hb, h28⟩ := bo_inv h27
      dsimp only at hm hu hb h28
      rw [Bool.and_eq_true] at hb
      obtain ⟨hb3, hb5⟩ := hb
      subst hb3
      obtain ⟨bs, e1, e2, e3⟩ := tkA_spec _ _ _ _ _ hu
      rw [List.append_nil] at e1
      subst e1
      subst e2
      obtain ⟨d', Q', e4, hE, h29⟩ := cal_inv h28
      subst e4
      exact z_callS ho (hl rfl) hx (Or.inr rfl) hm e3 hb5 hE (fun r w' hq => hK _ _ _ _ (h29 r w' hq))
    · obtain ⟨n, t, rfl, h30⟩ := pI_inv h21
      obtain ⟨dp, t, rfl, h31⟩ := pI_inv h30
      obtain ⟨b, t, rfl, h32⟩ := pR_inv h31
      obtain ⟨sp, t, rfl, h33⟩ := pI_inv h32
      obtain ⟨a, t, rfl, h34⟩ := pR_inv h33
      obtain ⟨qa, ha, h35⟩ := ot_inv h34
      obtain ⟨qb, hb, h36⟩ := ot_inv h35
      obtain ⟨e1, h36, -⟩ := aok_inv h36
      obtain ⟨e2, h36, -⟩ := aok_inv h36
      obtain ⟨hc, j0, j1, k, rfl, rfl, rfl, h4, h5, h37⟩ := bo_inv h36
      obtain ⟨ta, na⟩ := qa
      obtain ⟨tb, nb⟩ := qb
      cases e1
      cases e2
      rw [Bool.and_eq_true] at hc
      exact z_copy ho (hl rfl) hx ha hb h4 h5 (Nat.le_of_ble_eq_true hc.1) hc.2 (hK _ _ _ _ h37)
    · obtain ⟨y, t, rfl, h38⟩ := pI_inv h21
      obtain ⟨x, t, rfl, h39⟩ := pI_inv h38
      obtain ⟨hc, h40⟩ := bo_inv h39
      rw [Bool.and_eq_true] at hc
      exact z_min ho (hl rfl) hx (Nat.le_of_ble_eq_true hc.1) hc.2 (hK _ _ _ _ h40)
    · obtain ⟨y, t, rfl, h41⟩ := pI_inv h21
      obtain ⟨x, t, rfl, h42⟩ := pI_inv h41
      obtain ⟨hc, h43⟩ := bo_inv h42
      rw [Bool.and_eq_true] at hc
      exact z_max ho (hl rfl) hx (Nat.le_of_ble_eq_true hc.1) hc.2 (hK _ _ _ _ h43)
    · obtain ⟨x, t, rfl, h44⟩ := pI_inv h21
      obtain ⟨hc, h45⟩ := bo_inv h44
      rw [Bool.and_eq_true] at hc
      exact z_abs ho (hl rfl) hx (Nat.le_of_ble_eq_true hc.1) hc.2 (hK _ _ _ _ h45)
    · exact h21.elim
  | aaload => exact h.elim
  | aastore => exact h.elim
  | aconst_null => exact h.elim
  | anewarray x => exact h.elim
  | astore x => exact h.elim
  | astore_n x => exact h.elim
  | athrow => exact h.elim
  | checkcast x => exact h.elim
  | d2f => exact h.elim
  | d2i => exact h.elim
  | d2l => exact h.elim
  | dadd => exact h.elim
  | daload => exact h.elim
  | dastore => exact h.elim
  | dcmp x => exact h.elim
  | dconst x => exact h.elim
  | ddiv => exact h.elim
  | dload x => exact h.elim
  | dload_n x => exact h.elim
  | dmul => exact h.elim
  | dneg => exact h.elim
  | drem => exact h.elim
  | dreturn => exact h.elim
  | dstore x => exact h.elim
  | dstore_n x => exact h.elim
  | dsub => exact h.elim
  | dup_x1 => exact h.elim
  | dup_x2 => exact h.elim
  | dup2_x1 => exact h.elim
  | dup2_x2 => exact h.elim
  | f2d => exact h.elim
  | f2i => exact h.elim
  | f2l => exact h.elim
  | fadd => exact h.elim
  | faload => exact h.elim
  | fastore => exact h.elim
  | fcmp x => exact h.elim
  | fconst x => exact h.elim
  | fdiv => exact h.elim
  | fload x => exact h.elim
  | fload_n x => exact h.elim
  | fmul => exact h.elim
  | fneg => exact h.elim
  | frem => exact h.elim
  | freturn => exact h.elim
  | fstore x => exact h.elim
  | fstore_n x => exact h.elim
  | fsub => exact h.elim
  | getstatic x => exact h.elim
  | goto_w x => exact h.elim
  | i2b => exact h.elim
  | i2d => exact h.elim
  | i2f => exact h.elim
  | i2s => exact h.elim
  | if_acmp x y => exact h.elim
  | ifnonnull x => exact h.elim
  | ifnull x => exact h.elim
  | instanceof x => exact h.elim
  | invokedynamic x => exact h.elim
  | invokeinterface x y => exact h.elim
  | invokespecial x => exact h.elim
  | ixor => exact h.elim
  | jsr x => exact h.elim
  | jsr_w x => exact h.elim
  | l2d => exact h.elim
  | l2f => exact h.elim
  | ldiv => exact h.elim
  | lneg => exact h.elim
  | lrem => exact h.elim
  | monitorenter => exact h.elim
  | monitorexit => exact h.elim
  | multianewarray x y => exact h.elim
  | new x => exact h.elim
  | newarray x => exact h.elim
  | nop => exact h.elim
  | pop2 => exact h.elim
  | putstatic x => exact h.elim
  | ret x => exact h.elim
  | saload => exact h.elim
  | sastore => exact h.elim
  | swap => exact h.elim
