/-! STEPS WITH ANY ROOM AND ANY END: for the methods that make cells, throw, or call those that do -/
section
variable {p : Program} {l : Launch} {e : Env} {R R' : Room} {s : State} {m : MethodId} {args : Array Value} {below : List Frame} {meth : Method} {c : Code} {H : Heap} {locs : List Loc} {cells slots : Nat} {Q Q' : State → Prop} {g : JFrame}
theorem w_room (hf : R.frames ≤ R'.frames) (hlo : R.locals ≤ R'.locals) (hc : R.cells ≤ R'.cells) (hs : R.slots ≤ R'.slots) (h : W p l e R s m args below meth c H locs cells slots Q g) : W p l e R' s m args below meth c H locs cells slots Q g := by
  intro T hT X
  refine h T hT ⟨X.admits, X.cas, X.clock, X.frames, ?_, X.hears, X.method, X.code, X.here, X.tail, X.warmed, X.limits, X.bytes, X.same⟩
  have h9 := X.room
  simp only [State.hasRoom, Bool.and_eq_true, decide_eq_true_eq] at h9 ⊢
  obtain ⟨⟨⟨⟨h1, h2, h3, h4, h5, h6⟩, h7⟩, h8⟩, h10⟩ := h9
  exact ⟨⟨⟨⟨by omega, by omega, by omega, by omega, by omega, h6⟩, by omega⟩, by omega⟩, h10⟩
theorem w_imp (h : W p l e R s m args below meth c H locs cells slots Q g) (k : ∀ t, Q t → Q' t) : W p l e R s m args below meth c H locs cells slots Q' g := by
  intro T hT X
  obtain ⟨t, a, b⟩ := h T hT X
  exact ⟨t, a, k t b⟩
theorem mq_wide {Qc : Array Value → State → Outcome → State → Prop} {free : Addr → Prop} {mc ms : Nat} {t : State} (h : MQ below Qc args s 0 0 free t) : MQ below Qc args s mc ms free t := by
  obtain ⟨o, a1, a2, a3, L, ⟨h1, h2, h3⟩, h4⟩ := h
  exact ⟨o, a1, a2, a3, L, ⟨h1, h2, h3.mono (Nat.zero_le _) (Nat.zero_le _)⟩, h4⟩
end
/-- the method goes on from here, and ends with Q; K: what is said of the rest of the heap -/
def GZ (p : Program) (l : Launch) (e : Env) (R : Room) (s : State) (m : MethodId) (args : Array Value) (below : List Frame) (meth : Method) (c : Code) (G : va_G) (cA : FieldType → ClassId) (ad : Nat → Nat) (nL : Nat) (K : Heap → Prop) (Q : State → Prop) (cells slots pc : Nat) (lv : List (Nat × Value)) (st : List Value) (w : Wd) : Prop :=
  ∀ (H : Heap) (locs : List Loc) (ls : Array Slot), va_P G vwCl (wsl ad cA w) H → va_S (AA ad s.heap.size) s.heap H locs → K H → lv_has ls nL (lvc ad lv) → W p l e R s m args below meth c H locs cells slots Q (F0 m pc ls (st.map (cv ad)))
/-- K stays where only the numbered cells and new ones change -/
def Kst (ad : Nat → Nat) (K : Heap → Prop) : Prop := ∀ H H1 : Heap, H.size ≤ H1.size → (∀ q : Nat, q < H.size → ¬ AA ad H.size q → H1[q]? = H[q]?) → K H → K H1
section
variable {p : Program} {l : Launch} {e : Env} {R : Room} {s : State} {m : MethodId} {args : Array Value} {below : List Frame} {meth : Method} {c : Code} {G : va_G} {cA : FieldType → ClassId} {ad : Nat → Nat} {nL : Nat} {K : Heap → Prop} {Q : State → Prop} {cc : ByteArray} {cells slots : Nat}
theorem g_aload_n {pc : Nat} {lv : List (Nat × Value)} {st : List Value} {w : Wd} {k : Fin 4} {x : Nat} (hx : p.tables.exec = Jvm.exec) (hb : c.code = cc) (hd : decode cc pc = .ok (.aload_n k, 1)) (hg : lget lv k = some (.ref x)) (k : GZ p l e R s m args below meth c G cA ad nL K Q cells slots (pc + 1) lv (.ref x :: st) w) : GZ p l e R s m args below meth c G cA ad nL K Q cells slots pc lv st w := fun H locs ls hP hS hK hl => lv_aload_n hx hb hd rfl (lvc_get hl hg) (k H locs ls hP hS hK hl)
theorem g_iload_n {pc : Nat} {lv : List (Nat × Value)} {st : List Value} {w : Wd} {k : Fin 4} {x : Int32} (hx : p.tables.exec = Jvm.exec) (hb : c.code = cc) (hd : decode cc pc = .ok (.iload_n k, 1)) (hg : lget lv k = some (.int x)) (k : GZ p l e R s m args below meth c G cA ad nL K Q cells slots (pc + 1) lv (.int x :: st) w) : GZ p l e R s m args below meth c G cA ad nL K Q cells slots pc lv st w := fun H locs ls hP hS hK hl => lv_iload_n hx hb hd rfl (lvc_get hl hg) (k H locs ls hP hS hK hl)
theorem g_iload {pc : Nat} {lv : List (Nat × Value)} {st : List Value} {w : Wd} {k : Nat} {x : Int32} (hx : p.tables.exec = Jvm.exec) (hb : c.code = cc) (hd : decode cc pc = .ok (.iload k, 2)) (hg : lget lv k = some (.int x)) (k : GZ p l e R s m args below meth c G cA ad nL K Q cells slots (pc + 2) lv (.int x :: st) w) : GZ p l e R s m args below meth c G cA ad nL K Q cells slots pc lv st w := fun H locs ls hP hS hK hl => lv_iload hx hb hd (lvc_get hl hg) (k H locs ls hP hS hK hl)
theorem g_istore {pc : Nat} {lv : List (Nat × Value)} {st : List Value} {w : Wd} {k : Nat} {x : Int32} (hx : p.tables.exec = Jvm.exec) (hb : c.code = cc) (hd : decode cc pc = .ok (.istore k, 2)) (hb2 : (k : Nat) < nL) (kk : GZ p l e R s m args below meth c G cA ad nL K Q cells slots (pc + 2) (lput1 lv k (.int x)) st w) : GZ p l e R s m args below meth c G cA ad nL K Q cells slots pc lv (.int x :: st) w := fun H locs ls hP hS hK hl => lv_istore (lv' := lvc ad (lput1 lv k (.int x))) hx hb hd hl hb2 (lvc_put1 ad lv k (.int x)) (fun ls hl => kk H locs ls hP hS hK hl)
theorem g_iinc {pc : Nat} {lv : List (Nat × Value)} {st : List Value} {w : Wd} {k : Nat} {n : Int} {x : Int32} (hx : p.tables.exec = Jvm.exec) (hb : c.code = cc) (hd : decode cc pc = .ok (.iinc k n, 3)) (hg : lget lv k = some (.int x)) (hb2 : k < nL) (kk : GZ p l e R s m args below meth c G cA ad nL K Q cells slots (pc + 3) (lput1 lv k (.int (x + iI n))) st w) : GZ p l e R s m args below meth c G cA ad nL K Q cells slots pc lv st w := by
  intro H locs ls hP hS hK hl
  obtain ⟨j, hj⟩ := lv_pos (ad := ad) hg
  exact lv_iinc (v := x + iI n) (lv' := lvc ad (lput1 lv k (.int (x + iI n)))) hx hb hd hl hj (by rw [iI_eq]) hb2 (lvc_put1 ad lv k (.int (x + iI n))) (fun ls hl => kk H locs ls hP hS hK hl)
theorem g_iconst {pc : Nat} {lv : List (Nat × Value)} {st : List Value} {w : Wd} {n : Int} (hx : p.tables.exec = Jvm.exec) (hb : c.code = cc) (hd : decode cc pc = .ok (.iconst n, 1)) (k : GZ p l e R s m args below meth c G cA ad nL K Q cells slots (pc + 1) lv (.int (iI n) :: st) w) : GZ p l e R s m args below meth c G cA ad nL K Q cells slots pc lv (st) w := fun H locs ls hP hS hK hl => lv_iconst hx hb hd (iI_eq n) (k H locs ls hP hS hK hl)
theorem g_bipush {pc : Nat} {lv : List (Nat × Value)} {st : List Value} {w : Wd} {n : Int} (hx : p.tables.exec = Jvm.exec) (hb : c.code = cc) (h1 : -129 < n) (h2 : n < 128) (hd : decode cc pc = .ok (.bipush n, 2)) (k : GZ p l e R s m args below meth c G cA ad nL K Q cells slots (pc + 2) lv (.int (iI n) :: st) w) : GZ p l e R s m args below meth c G cA ad nL K Q cells slots pc lv (st) w := fun H locs ls hP hS hK hl => lv_bipush hx hb hd (iI_b (by omega) h2) (k H locs ls hP hS hK hl)
theorem g_iadd {pc : Nat} {lv : List (Nat × Value)} {st : List Value} {w : Wd} {x y : Int32} (hx : p.tables.exec = Jvm.exec) (hb : c.code = cc) (hd : decode cc pc = .ok (.iadd, 1)) (k : GZ p l e R s m args below meth c G cA ad nL K Q cells slots (pc + 1) lv (.int (x + y) :: st) w) : GZ p l e R s m args below meth c G cA ad nL K Q cells slots pc lv (.int y :: .int x :: st) w := fun H locs ls hP hS hK hl => lv_iadd hx hb hd  (k H locs ls hP hS hK hl)
theorem g_isub {pc : Nat} {lv : List (Nat × Value)} {st : List Value} {w : Wd} {x y : Int32} (hx : p.tables.exec = Jvm.exec) (hb : c.code = cc) (hd : decode cc pc = .ok (.isub, 1)) (k : GZ p l e R s m args below meth c G cA ad nL K Q cells slots (pc + 1) lv (.int (x - y) :: st) w) : GZ p l e R s m args below meth c G cA ad nL K Q cells slots pc lv (.int y :: .int x :: st) w := fun H locs ls hP hS hK hl => lv_isub hx hb hd  (k H locs ls hP hS hK hl)
theorem g_iand {pc : Nat} {lv : List (Nat × Value)} {st : List Value} {w : Wd} {x y : Int32} (hx : p.tables.exec = Jvm.exec) (hb : c.code = cc) (hd : decode cc pc = .ok (.iand, 1)) (k : GZ p l e R s m args below meth c G cA ad nL K Q cells slots (pc + 1) lv (.int (x &&& y) :: st) w) : GZ p l e R s m args below meth c G cA ad nL K Q cells slots pc lv (.int y :: .int x :: st) w := fun H locs ls hP hS hK hl => lv_iand hx hb hd  (k H locs ls hP hS hK hl)
theorem g_land {pc : Nat} {lv : List (Nat × Value)} {st : List Value} {w : Wd} {x y : Int64} (hx : p.tables.exec = Jvm.exec) (hb : c.code = cc) (hd : decode cc pc = .ok (.land, 1)) (k : GZ p l e R s m args below meth c G cA ad nL K Q cells slots (pc + 1) lv (.long (x &&& y) :: st) w) : GZ p l e R s m args below meth c G cA ad nL K Q cells slots pc lv (.long y :: .long x :: st) w := fun H locs ls hP hS hK hl => lv_land hx hb hd  (k H locs ls hP hS hK hl)
theorem g_lor {pc : Nat} {lv : List (Nat × Value)} {st : List Value} {w : Wd} {x y : Int64} (hx : p.tables.exec = Jvm.exec) (hb : c.code = cc) (hd : decode cc pc = .ok (.lor, 1)) (k : GZ p l e R s m args below meth c G cA ad nL K Q cells slots (pc + 1) lv (.long (x ||| y) :: st) w) : GZ p l e R s m args below meth c G cA ad nL K Q cells slots pc lv (.long y :: .long x :: st) w := fun H locs ls hP hS hK hl => lv_lor hx hb hd  (k H locs ls hP hS hK hl)
theorem g_lshl {pc : Nat} {lv : List (Nat × Value)} {st : List Value} {w : Wd} {x : Int64} {y : Int32} (hx : p.tables.exec = Jvm.exec) (hb : c.code = cc) (hd : decode cc pc = .ok (.lshl, 1)) (k : GZ p l e R s m args below meth c G cA ad nL K Q cells slots (pc + 1) lv (.long (x <<< (y.toInt64 &&& 63)) :: st) w) : GZ p l e R s m args below meth c G cA ad nL K Q cells slots pc lv (.int y :: .long x :: st) w := fun H locs ls hP hS hK hl => lv_lshl hx hb hd rfl (k H locs ls hP hS hK hl)
theorem g_i2l {pc : Nat} {lv : List (Nat × Value)} {st : List Value} {w : Wd} {x : Int32} (hx : p.tables.exec = Jvm.exec) (hb : c.code = cc) (hd : decode cc pc = .ok (.i2l, 1)) (k : GZ p l e R s m args below meth c G cA ad nL K Q cells slots (pc + 1) lv (.long x.toInt64 :: st) w) : GZ p l e R s m args below meth c G cA ad nL K Q cells slots pc lv (.int x :: st) w := fun H locs ls hP hS hK hl => lv_i2l hx hb hd rfl (k H locs ls hP hS hK hl)
theorem g_lcmp {pc : Nat} {lv : List (Nat × Value)} {st : List Value} {w : Wd} {x y : Int64} (hx : p.tables.exec = Jvm.exec) (hb : c.code = cc) (hd : decode cc pc = .ok (.lcmp, 1)) (k : GZ p l e R s m args below meth c G cA ad nL K Q cells slots (pc + 1) lv (.int (lg_cmp x y) :: st) w) : GZ p l e R s m args below meth c G cA ad nL K Q cells slots pc lv (.long y :: .long x :: st) w := fun H locs ls hP hS hK hl => W.lcmp hx hb hd  (k H locs ls hP hS hK hl)
theorem g_if {pc : Nat} {lv : List (Nat × Value)} {st : List Value} {w : Wd} {x : Int32} {cd : ClassFile.Cond} {off : Int} {tgt : Nat} (hx : p.tables.exec = Jvm.exec) (hb : c.code = cc) (hd : decode cc pc = .ok (.ifCond cd off, 3)) (ht : (pc : Int) + off = (tgt : Int)) (kt : cT cd x 0 → GZ p l e R s m args below meth c G cA ad nL K Q cells slots tgt lv st w) (kf : cF cd x 0 → GZ p l e R s m args below meth c G cA ad nL K Q cells slots (pc + 3) lv st w) : GZ p l e R s m args below meth c G cA ad nL K Q cells slots pc lv (.int x :: st) w := by
  intro H locs ls hP hS hK hl
  cases cd with
  | eq => exact lv_if_eq hx hb hd ht (fun h => kt h H locs ls hP hS hK hl) (fun h => kf h H locs ls hP hS hK hl)
  | ne => exact lv_if_ne hx hb hd ht (fun h => kt h H locs ls hP hS hK hl) (fun h => kf h H locs ls hP hS hK hl)
  | lt => exact lv_if_lt hx hb hd ht (fun h => kt h H locs ls hP hS hK hl) (fun h => kf h H locs ls hP hS hK hl)
  | ge => exact lv_if_ge hx hb hd ht (fun h => kt h H locs ls hP hS hK hl) (fun h => kf h H locs ls hP hS hK hl)
  | gt => exact lv_if_gt hx hb hd ht (fun h => kt h H locs ls hP hS hK hl) (fun h => kf h H locs ls hP hS hK hl)
  | le => exact lv_if_le hx hb hd ht (fun h => kt h H locs ls hP hS hK hl) (fun h => kf h H locs ls hP hS hK hl)
theorem g_icmp {pc : Nat} {lv : List (Nat × Value)} {st : List Value} {w : Wd} {x y : Int32} {cd : ClassFile.Cond} {off : Int} {tgt : Nat} (hx : p.tables.exec = Jvm.exec) (hb : c.code = cc) (hd : decode cc pc = .ok (.if_icmp cd off, 3)) (ht : (pc : Int) + off = (tgt : Int)) (kt : cT cd x y → GZ p l e R s m args below meth c G cA ad nL K Q cells slots tgt lv st w) (kf : cF cd x y → GZ p l e R s m args below meth c G cA ad nL K Q cells slots (pc + 3) lv st w) : GZ p l e R s m args below meth c G cA ad nL K Q cells slots pc lv (.int y :: .int x :: st) w := by
  intro H locs ls hP hS hK hl
  cases cd with
  | eq => exact lv_icmp_eq hx hb hd ht (fun h => kt h H locs ls hP hS hK hl) (fun h => kf h H locs ls hP hS hK hl)
  | ne => exact lv_icmp_ne hx hb hd ht (fun h => kt h H locs ls hP hS hK hl) (fun h => kf h H locs ls hP hS hK hl)
  | lt => exact lv_icmp_lt hx hb hd ht (fun h => kt h H locs ls hP hS hK hl) (fun h => kf h H locs ls hP hS hK hl)
  | ge => exact lv_icmp_ge hx hb hd ht (fun h => kt h H locs ls hP hS hK hl) (fun h => kf h H locs ls hP hS hK hl)
  | gt => exact lv_icmp_gt hx hb hd ht (fun h => kt h H locs ls hP hS hK hl) (fun h => kf h H locs ls hP hS hK hl)
  | le => exact lv_icmp_le hx hb hd ht (fun h => kt h H locs ls hP hS hK hl) (fun h => kf h H locs ls hP hS hK hl)
theorem g_goto {pc : Nat} {lv : List (Nat × Value)} {st : List Value} {w : Wd} {off : Int} {tgt : Nat} (hx : p.tables.exec = Jvm.exec) (hb : c.code = cc) (hd : decode cc pc = .ok (.goto off, 3)) (ht : (pc : Int) + off = (tgt : Int)) (k : GZ p l e R s m args below meth c G cA ad nL K Q cells slots tgt lv st w) : GZ p l e R s m args below meth c G cA ad nL K Q cells slots pc lv st w := fun H locs ls hP hS hK hl => lv_goto hx hb hd ht (k H locs ls hP hS hK hl)
theorem g_sw_key {pc : Nat} {lv : List (Nat × Value)} {st : List Value} {w : Wd} {x : Int32} {df : Int} : ∀ (lz : List Int) (v : Int), -2147483648 ≤ v → v + (lz.length : Int) ≤ 2147483648 → swc x df pc (fun t => GZ p l e R s m args below meth c G cA ad nL K Q cells slots t lv st w) (tab v lz) → (∃ (j : Nat) (off : Int) (tg : Nat), lz[j]? = some off ∧ x.toInt = v + (j : Int) ∧ (pc : Int) + off = (tg : Int) ∧ GZ p l e R s m args below meth c G cA ad nL K Q cells slots tg lv st w) ∨ ((∀ j : Nat, j < lz.length → ¬ x.toInt = v + (j : Int)) ∧ ∃ tg : Nat, (pc : Int) + df = (tg : Int) ∧ GZ p l e R s m args below meth c G cA ad nL K Q cells slots tg lv st w) := by
  intro lz
  induction lz with
  | nil =>
    intro v _ _ h
    obtain ⟨tg, a, b⟩ := jp_inv h
    exact Or.inr ⟨fun j hj => absurd hj (Nat.not_lt_zero j), tg, a, b⟩
  | cons a t ih =>
    intro v r1 r2 h
    obtain ⟨tg, hj, h1, h2⟩ := jp_inv h
    simp only [List.length_cons] at r2
    by_cases hx : x.toInt = v
    · exact Or.inl ⟨0, a, tg, rfl, by simpa using hx, hj, h1 (iI_of hx)⟩
    · rcases ih (v + 1) (by omega) (by omega) (h2 (iI_ne r1 (by omega) hx)) with ⟨j, off, tg2, q1, q2, q3, q4⟩ | ⟨q1, tg2, q3, q4⟩
      · exact Or.inl ⟨j + 1, off, tg2, by simpa using q1, by omega, q3, q4⟩
      · refine Or.inr ⟨fun j hj => ?_, tg2, q3, q4⟩
        cases j with
        | zero => simpa using hx
        | succ j =>
          have h9 := q1 j (by simpa using hj)
          omega
theorem g_table {pc : Nat} {lv : List (Nat × Value)} {st : List Value} {w : Wd} {x : Int32} {df lo hi : Int} {os : Array Int} {len : Nat} (hx : p.tables.exec = Jvm.exec) (hb : c.code = cc) (hd : decode cc pc = .ok (.tableswitch df lo hi os, len)) (h1 : lo + (os.size : Int) = hi + 1) (h2 : -2147483649 < lo) (h3 : hi < 2147483648) (h : swc x df pc (fun t => GZ p l e R s m args below meth c G cA ad nL K Q cells slots t lv st w) (tab lo os.toList)) : GZ p l e R s m args below meth c G cA ad nL K Q cells slots pc lv (.int x :: st) w := by
  have hl : (os.toList.length : Int) = (os.size : Int) := by rw [Array.length_toList]
  rcases g_sw_key os.toList lo (by omega) (by omega) h with ⟨j, off, tg, q1, q2, q3, q4⟩ | ⟨q1, tg, q3, q4⟩
  · have hj : j < os.toList.length := (List.getElem?_eq_some_iff.mp q1).1
    intro H locs ls hP hS hK hl
    refine lv_tableIn (off := off) hx hb hd (by omega) (by omega) ?_ q3 (q4 H locs ls hP hS hK hl)
    have e1 : (x.toInt - lo).toNat = j := by omega
    rw [e1, ← Array.getElem?_toList]
    exact q1
  · intro H locs ls hP hS hK hl2
    refine lv_tableOut hx hb hd ?_ q3 (q4 H locs ls hP hS hK hl2)
    by_cases hz : x.toInt < lo
    · exact Or.inl hz
    · refine Or.inr ?_
      by_cases hy : hi < x.toInt
      · exact hy
      · exact absurd (by omega) (q1 (x.toInt - lo).toNat (by omega))
theorem g_ldc2 {pc x : Nat} {lv : List (Nat × Value)} {st : List Value} {w : Wd} {own : String} {v : Int64} (hx : p.tables.exec = Jvm.exec) (hb : c.code = cc) (hown : s.vm.findClass own = some m.cls) (hk : (Cond.constantLong own x v).before args s = true) (hd : decode cc pc = .ok (.ldc2_w x, 3)) (k : GZ p l e R s m args below meth c G cA ad nL K Q cells slots (pc + 3) lv (.long v :: st) w) : GZ p l e R s m args below meth c G cA ad nL K Q cells slots pc lv st w :=
  fun H locs ls hP hS hK hl => lv_ldc2 hx hb hown hk hd (k H locs ls hP hS hK hl)
theorem g_get {pc x a : Nat} {lv : List (Nat × Value)} {st : List Value} {w : Wd} {own : String} {q : Nat × Nat} {v : Value} (S : CallFix p m c cc nL s args TT own) (hF : Fx G cA ad s.heap.size s) (hd : decode cc pc = .ok (.getfield x, 3)) {kn : Nat} (hown : own = clN.getD kn "") (hx : tget (FR kn) x = some q) (hg : gv w a q.1 q.2 = some v) (k : GZ p l e R s m args below meth c G cA ad nL K Q cells slots (pc + 3) lv (v :: st) w) : GZ p l e R s m args below meth c G cA ad nL K Q cells slots pc lv (.ref a :: st) w := by
  intro H locs ls hP hS hK hl
  obtain ⟨C, Tb, N, h1, h2, h3, h4⟩ := FR_ok _ _ (tget_mem hx)
  obtain ⟨fs, o, g1, g2, g3⟩ := gv_inv hg
  have he := wsl_at (ad := ad) (cA := cA) (w := w) g1
  refine va_get (D := G) (cl := vwCl) (C := C) (T := Tb) (N := N) (ci := q.1) (v := cv ad v) (fs := fs.mapIdx (fv ad w a)) S.1 S.2.1 S.2.2.2.2 (fun z hz => h4 z hz) S.2.2.2.1 hF.1 hP a he h1 q.2 h2 (S.2.2.2.2 _ (by rw [hown]; exact h3)) (fun _ h9 => h9) ?_ hd (k H locs ls hP hS hK hl)
  rw [List.getElem?_mapIdx, g2, g3]
  rfl
theorem g_cwR {own : String} {μ' : MI} {x n mc ms : Nat} {rm : Room} (hts : ∀ w ∈ TT, w.before args s = true) (hlk : Cond.methodLink own x (mY μ') ∈ TT) (hM : MOK (μ', n, false)) (hrc : rm.cells = mc) (hrs : rm.slots = ms) (hR : rm.frames + 1 ≤ R.frames ∧ 40 + rm.locals ≤ R.locals) : CallW R s args own (mY μ').cls x (mY μ') (mB μ') (mL μ') (mR μ') (wsM μ') rm mc ms n := by
  obtain ⟨m1, m2, m3, m4, m5, m67, m8, m9, m10⟩ := hM
  dsimp only at m1 m2 m3 m4 m5 m67 m8 m9 m10
  rw [if_neg (by decide)] at m67
  obtain ⟨m6, m7⟩ := m67
  refine cwV (Ts := TT) n hts ?_ rfl hrc hrs ⟨rfl, m3, m4, m5⟩ ⟨hR.1, by omega⟩
  intro z hz
  rcases List.mem_append.mp hz with hz | hz
  · simp only [List.mem_cons, List.not_mem_nil, or_false] at hz
    rcases hz with e | e | e | e <;> subst e
    · exact ⟨hlk, tt_good hlk⟩
    · exact ⟨m6, tt_good m6⟩
    · exact ⟨m7, tt_good m7⟩
    · exact ⟨m2, tt_good m2⟩
  · rcases List.mem_cons.mp hz with e | hz
    · subst e
      exact ⟨m1, tt_good m1⟩
    · exact ⟨hz, tt_good hz⟩
theorem g_cw {own : String} {μ' : MI} {d x n : Nat} (hts : ∀ w ∈ TT, w.before args s = true) (hlk : Cond.methodLink own x (mY μ') ∈ TT) (hM : MOK (μ', n, false)) (hR : d + 1 ≤ R.frames ∧ 40 * (d + 1) ≤ R.locals) : CallW R s args own (mY μ').cls x (mY μ') (mB μ') (mL μ') (mR μ') (wsM μ') (rmD d) 0 0 n :=
  g_cwR hts hlk hM rfl rfl ⟨hR.1, by show 40 + 40 * d ≤ R.locals; omega⟩
theorem g_recv {μ' : MI} {n b : Nat} {w : Wd} {H : Heap} {st : Bool} (hF : Fx G cA ad s.heap.size s) (hM : MOK (μ', n, st)) (hc : isC b (mK μ') = true) (hP : va_P G vwCl (wsl ad cA w) H) : ∃ cell : Cell, H[ad b]? = some cell ∧ cell.vm.isStatics = false ∧ s.vm.findClass (mY μ').cls = some cell.cls := by
  obtain ⟨fs, g1⟩ := isC_inv hc
  have he : (wsl ad cA w)[b]? = some (ad b, .inr (mK μ', fs.mapIdx (fv ad w b))) := wsl_at g1
  obtain ⟨r0, h1, -⟩ := id (hP b _ he)
  have hq1 : r0.1 = (mY μ').cls := (cl_name h1).trans hM.2.2.2.2.2.2.2.2.symm
  rw [← hq1]
  exact va_recv hF.1 hP h1 he
/-- a call of a method by its contract -/
theorem g_callV {pc x b n d : Nat} {lv : List (Nat × Value)} {st as : List Value} {w : Wd} {own : String} {μ' : MI} {Q' : Option Value → Wd → Prop} (S : CallFix p m c cc nL s args TT own) (hF : Fx G cA ad s.heap.size s) (hI : Inj ad) (hKs : Kst ad K) (hcs : cells ≤ R.cells ∧ slots ≤ R.slots) (hR : d + 1 ≤ R.frames ∧ 40 * (d + 1) ≤ R.locals)
    (hd : decode cc pc = .ok (.invokevirtual x, 3)) (hlk : Cond.methodLink own x (mY μ') ∈ TT) (hM : MOK (μ', n, false)) (has : as.length = n) (hc : isC b (mK μ') = true) (hst : stW st = true) (hE : Ev μ' d (.ref b :: as) w Q')
    (kk : ∀ (r : Option Value) (w' : Wd), Q' r w' → GZ p l e R s m args below meth c G cA ad nL K Q cells slots (pc + 3) lv (r.toList ++ st) w') : GZ p l e R s m args below meth c G cA ad nL K Q cells slots pc lv (as.reverse ++ .ref b :: st) w := by
  intro H locs ls hP hS hK hl T hT X
  have hr : va_Run p l e R s m args below meth c H locs cells slots 0 0 (F0 m pc ls ((as.reverse ++ .ref b :: st).map (cv ad))) (st.map (cv ad)) (Qw G cA ad H.size Q' ((.ref b :: as).map (cv ad)).toArray) (AA ad H.size) := va_runV (As := as.map (cv ad)) (b := ad b) (n := n) (nL := nL) (Ts := TT) S (hE l G cA ad H.size) (g_cw S.2.2.2.2 hlk hM hR) ⟨Pw_blind, g_recv hF hM hc hP, fun U hU hW => ⟨rfl, by rw [hU], by rw [hU]; exact hP, hF.go hS hU hW, hI⟩⟩ rfl (by simpa using has) hl.1 (by simp [List.map_reverse, cv]) (lv_room (stW_le ad hst)) hd hcs
  obtain ⟨v, st₀, t, T', L, h0, X', hL, e1, e2, ⟨⟨r, w', hv, hq, hP'⟩, hz, hk⟩, sg⟩ := hr T hT X
  have hv' : v = r.map (cv ad) := by cases hv; rfl
  subst hv'
  rw [h0] at hz hk
  have hn : ∀ q, AA ad H.size q → AA ad s.heap.size q := fun q hq => hq.elim Or.inl (fun z => Or.inr (Nat.le_trans hS.1 z))
  have hS' : va_S (AA ad s.heap.size) s.heap T'.heap (locs ++ L) := ⟨Nat.le_trans hS.1 (by rw [e1]; exact hz), fun q h1 h2 => by rw [e1, hk q (Nat.lt_of_lt_of_le h1 hS.1) (fun z => h2 (hn q z))]; exact hS.2.1 q h1 h2, fun q hq => by
      rcases List.mem_append.mp hq with h | h
      · exact hS.2.2 q h
      · exact hn _ (hL q h)⟩
  have hst : (r.map (cv ad)).toList ++ st.map (cv ad) = (r.toList ++ st).map (cv ad) := by cases r <;> rfl
  have hK' : K T'.heap := hKs H T'.heap (by rw [e1]; exact hz) (fun q h1 h2 => by rw [e1]; exact hk q h1 h2) hK
  obtain ⟨t2, a1, b1⟩ := kk r w' hq T'.heap (locs ++ L) ls (by rw [e1]; exact hP') hS' hK' hl T' rfl X'
  rw [← hst] at a1
  exact ⟨t2, sg t2 a1, b1⟩
/-- .. whose answer is an int -/
theorem g_callI {pc x b n d : Nat} {lv : List (Nat × Value)} {st as : List Value} {w : Wd} {own : String} {μ' : MI} {Q' : Int32 → Wd → Prop} (S : CallFix p m c cc nL s args TT own) (hF : Fx G cA ad s.heap.size s) (hI : Inj ad) (hKs : Kst ad K) (hcs : cells ≤ R.cells ∧ slots ≤ R.slots) (hR : d + 1 ≤ R.frames ∧ 40 * (d + 1) ≤ R.locals)
    (hd : decode cc pc = .ok (.invokevirtual x, 3)) (hlk : Cond.methodLink own x (mY μ') ∈ TT) (hM : MOK (μ', n, false)) (has : as.length = n) (hc : isC b (mK μ') = true) (hst : stW st = true) (hE : EvI μ' d (.ref b :: as) w Q')
    (kk : ∀ (r : Int32) (w' : Wd), Q' r w' → GZ p l e R s m args below meth c G cA ad nL K Q cells slots (pc + 3) lv (.int r :: st) w') : GZ p l e R s m args below meth c G cA ad nL K Q cells slots pc lv (as.reverse ++ .ref b :: st) w := by
  refine g_callV S hF hI hKs hcs hR hd hlk hM has hc hst hE ?_
  intro r w' hq
  cases r with
  | none => exact hq.elim
  | some v =>
    cases v with
    | int v => exact kk v w' hq
    | _ => exact hq.elim
end
