set_option maxRecDepth 20000
/-! CONSTRUCTORS: the cells that a constructor makes lie one behind another, from its own object's address b on; M says what they hold -/
def num : Nat → List va_E → va_W
  | _, [] => []
  | b, x :: t => (b, x) :: num (b + 1) t
theorem num_get : ∀ (M : List va_E) (b i : Nat), (num b M)[i]? = (M[i]?).map (fun x => (b + i, x))
  | [], _, _ => rfl
  | x :: t, b, 0 => rfl
  | x :: t, b, i + 1 => by
    show (num (b + 1) t)[i]? = ((t)[i]?).map (fun x => (b + (i + 1), x))
    rw [num_get t (b + 1) i]
    congr 1
    funext x
    congr 1
    omega
theorem num_lt {M : List va_E} {b i : Nat} {q : Nat × va_E} (h : (num b M)[i]? = some q) : i < M.length ∧ q.1 = b + i ∧ M[i]? = some q.2 := by
  rw [num_get] at h
  cases hx : M[i]? with
  | none => rw [hx] at h; cases h
  | some x =>
    rw [hx] at h
    cases h
    exact ⟨(List.getElem?_eq_some_iff.mp hx).1, rfl, rfl⟩
theorem num_app : ∀ (M N : List va_E) (b : Nat), num b (M ++ N) = num b M ++ num (b + M.length) N
  | [], N, b => rfl
  | x :: t, N, b => by
    show (b, x) :: num (b + 1) (t ++ N) = (b, x) :: (num (b + 1) t ++ num (b + (t.length + 1)) N)
    rw [num_app t N (b + 1)]
    congr 3
    omega
theorem num_len : ∀ (M : List va_E) (b : Nat), (num b M).length = M.length
  | [], _ => rfl
  | x :: t, b => by
    show (num (b + 1) t).length + 1 = t.length + 1
    rw [num_len t (b + 1)]
theorem num_set : ∀ (M : List va_E) (b i : Nat) (y : va_E), (num b M).set i (b + i, y) = num b (M.set i y)
  | [], _, _, _ => rfl
  | x :: t, b, 0, y => rfl
  | x :: t, b, i + 1, y => by
    show (b, x) :: (num (b + 1) t).set i (b + (i + 1), y) = (b, x) :: num (b + 1) (t.set i y)
    rw [show b + (i + 1) = b + 1 + i by omega, num_set t (b + 1) i y]
theorem num_D {M : List va_E} {b : Nat} : va_D (fun q => b ≤ q) (num b M) := by
  refine ⟨fun i j p q hi hj e => ?_, fun k q hk => ?_⟩
  · obtain ⟨-, h1, -⟩ := num_lt hi
    obtain ⟨-, h2, -⟩ := num_lt hj
    omega
  · obtain ⟨-, h1, -⟩ := num_lt hk
    show b ≤ q.1
    omega
def nestI : List (String × Nat × MethodName × String) := [("RowDrawer", 9, ⟨"RowDrawer$Lexicon", "<init>", "()V"⟩, "RowDrawer"), ("RowDrawer", 18, ⟨"RowDrawer$Sentences", "<init>", "()V"⟩, "RowDrawer"), ("RowDrawer", 25, ⟨"RowDrawer$Tape", "<init>", "()V"⟩, "RowDrawer"), ("RowDrawer$Reader", 11, ⟨"RowDrawer$Tokens", "<init>", "()V"⟩, "RowDrawer"), ("RowDrawer$Reader", 20, ⟨"RowDrawer$Book", "<init>", "()V"⟩, "RowDrawer"), ("RowDrawer", 41, ⟨"RowDrawer$Book", "<init>", "()V"⟩, "RowDrawer"), ("RowDrawer", 75, ⟨"RowDrawer$BestSet", "<init>", "()V"⟩, "RowDrawer")]
/-- what stays while constructors run -/
def Fc (G : va_G) (cA : FieldType → ClassId) (U : State) : Prop := va_K G vwCl (tysA cA) U ∧ ∀ q ∈ nestI, va_Nw (.methodLinkNest q.1 q.2.1 q.2.2.1 q.2.2.2) U
theorem Fc.go {G : va_G} {cA : FieldType → ClassId} {s U : State} (h : Fc G cA s) (hW : s.WarmedH U.vm) : Fc G cA U := ⟨va_K.moved hW.alike h.1, fun q hq => va_Nw.warmM hW (h.2 q hq)⟩
theorem Fc.calling {G : va_G} {cA : FieldType → ClassId} {U : State} (g : JFrame) (mk : MethodId) (a : Array Value) (h : Fc G cA U) : Fc G cA (U.calling g mk a) := ⟨va_K.moved (u := U) (U := U.calling g mk a) (Vm.Alike.refl U.vm) h.1, fun q hq => va_Nw.same (u := U) (U := U.calling g mk a) rfl rfl (h.2 q hq)⟩
/-- a class by its number: its table, its words, its fields' types and names -/
def CD (ci : Nat) (C : String) (Tb : u_T) (N : Nat) (ty : Nat → FieldType) : Prop := vwCl[ci]? = some (C, Tb, N) ∧ (∀ w ∈ u_ws C Tb N, w ∈ TT) ∧ (∀ k, k < N → parseFieldDescriptor (Tb k).2.2.1 = some (ty k)) ∧ (∀ a, a < N → ∀ b, b < N → a ≠ b → (Tb a).2.1 ≠ (Tb b).2.1)
theorem cd0 : CD 0 RX0 TX0 6 tyX0 := ⟨rfl, inX0, tyX0_ok, nmX0⟩
theorem cd1 : CD 1 RX1 TX1 14 tyX1 := ⟨rfl, inX1, tyX1_ok, nmX1⟩
theorem cd2 : CD 2 RX2 TX2 8 tyX2 := ⟨rfl, inX2, tyX2_ok, nmX2⟩
theorem cd3 : CD 3 RX3 TX3 8 tyX3 := ⟨rfl, inX3, tyX3_ok, nmX3⟩
theorem cd4 : CD 4 RX4 TX4 2 tyX4 := ⟨rfl, inX4, tyX4_ok, nmX4⟩
theorem cd5 : CD 5 RX5 TX5 9 tyX5 := ⟨rfl, inX5, tyX5_ok, nmX5⟩
theorem cd6 : CD 6 RX6 TX6 4 tyX6 := ⟨rfl, inX6, tyX6_ok, nmX6⟩
theorem cd7 : CD 7 RX7 TX7 7 tyX7 := ⟨rfl, inX7, tyX7_ok, nmX7⟩
theorem cd8 : CD 8 RX8 TX8 7 tyX8 := ⟨rfl, inX8, tyX8_ok, nmX8⟩
theorem cd9 : CD 9 RX9 TX9 2 tyX9 := ⟨rfl, inX9, tyX9_ok, nmX9⟩
theorem cd10 : CD 10 RX10 TX10 4 tyX10 := ⟨rfl, inX10, tyX10_ok, nmX10⟩
theorem cd11 : CD 11 RX11 TX11 10 tyX11 := ⟨rfl, inX11, tyX11_ok, nmX11⟩
theorem cd12 : CD 12 RX12 TX12 52 tyX12 := ⟨rfl, inX12, tyX12_ok, nmX12⟩
def arrE (cA : FieldType → ClassId) : FieldType → Nat → va_E
  | .long, n => .inl (cA .long, n, .inr (.inl fun _ => 0))
  | ty, n => .inl (cA ty, n, .inl fun _ => 0)
/-- the walk goes on from here, with the cells M made so far -/
def CZ (p : Program) (l : Launch) (e : Env) (R : Room) (s : State) (m : MethodId) (args : Array Value) (below : List Frame) (meth : Method) (c : Code) (G : va_G) (cA : FieldType → ClassId) (b nL : Nat) (Q : State → Prop) (cells slots pc : Nat) (lv : List (Nat × Value)) (st : List Value) (M : List va_E) : Prop :=
  ∀ (H : Heap) (locs : List Loc) (ls : Array Slot), va_P G vwCl (num b M) H → va_S (fun q => b ≤ q) s.heap H locs → lv_has ls nL lv → W p l e R s m args below meth c H locs cells slots Q (F0 m pc ls st)
def rmC (d mc ms : Nat) : Room := { frames := d, cells := mc, slots := ms, locals := 40 * d }
def CP (G : va_G) (cA : FieldType → ClassId) (b : Nat) (as : List Value) (M : List va_E) : Array Value → State → Prop := va_Pc as (fun U => U.heap.size = b + M.length ∧ va_P G vwCl (num b M) U.heap ∧ Fc G cA U)
def CQ (G : va_G) (b : Nat) (M : List va_E) : Array Value → State → Outcome → State → Prop := fun _ st oc t => oc = .returned none ∧ va_P G vwCl (num b M) t.heap ∧ va_F (fun q => b ≤ q) st t
/-- a constructor's contract -/
def CM (l : Launch) (y : MethodName) (cc : ByteArray) (nL d mc ms : Nat) (G : va_G) (cA : FieldType → ClassId) (b : Nat) (as : List Value) (M M' : List va_E) : Prop := Met l y (Cond.code y cc nL none :: TT) (rmC d mc ms) (CP G cA b as M) (CQ G b M') mc ms (fun q => b ≤ q)
theorem CP_blind {G : va_G} {cA : FieldType → ClassId} {b : Nat} {as : List Value} {M : List va_E} : FrameBlind (CP G cA b as M) := fun a U g mk h => by
  obtain ⟨h1, h2, h3, h4⟩ := h
  exact ⟨h1, h2, h3, h4.calling g mk a⟩
section
variable {p : Program} {l : Launch} {e : Env} {R : Room} {s : State} {m : MethodId} {args : Array Value} {below : List Frame} {meth : Method} {c : Code} {G : va_G} {cA : FieldType → ClassId} {b nL : Nat} {Q : State → Prop} {cc : ByteArray} {own : String} {cells slots pc : Nat} {lv : List (Nat × Value)} {st : List Value} {M : List va_E}
theorem kget {ls : Array Slot} {n k : Nat} {v : Value} (h : lv_has ls n lv) (hg : lget lv k = some v) : ls[k]? = some (.val v) := h.2.2 (k, v) (lget_mem hg)
theorem k_size {T : State} {H : Heap} {locs : List Loc} (X : Stand p l e R s m args below meth c T locs cells slots) (hT : T.heap = H) (hP : va_P G vwCl (num b M) H) (hS : va_S (fun q => b ≤ q) s.heap H locs) (hbs : b ≤ s.heap.size) (hcnt : s.heap.size + cells = b + M.length) : H.size = b + M.length := by
  have h1 := X.heapSize
  rw [hT] at h1
  have h2 := hS.1
  cases hn : M.length with
  | zero => omega
  | succ k =>
    have hk : k < M.length := by omega
    have h3 : (num b M)[k]? = some (b + k, M[k]) := by rw [num_get, List.getElem?_eq_getElem hk]; rfl
    have h4 : b + k < H.size := (hP k _ h3).lt
    omega
theorem k_aload_n {k : Fin 4} {x : Nat} (S : CallFix p m c cc nL s args TT own) (hd : decode cc pc = .ok (.aload_n k, 1)) (hg : lget lv k = some (.ref x)) (kk : CZ p l e R s m args below meth c G cA b nL Q cells slots (pc + 1) lv (.ref x :: st) M) : CZ p l e R s m args below meth c G cA b nL Q cells slots pc lv st M := fun H locs ls hP hS hl => lv_aload_n S.1 S.2.1 hd rfl (kget hl hg) (kk H locs ls hP hS hl)
theorem k_aload {k : Nat} {x : Nat} (S : CallFix p m c cc nL s args TT own) (hd : decode cc pc = .ok (.aload k, 2)) (hg : lget lv k = some (.ref x)) (kk : CZ p l e R s m args below meth c G cA b nL Q cells slots (pc + 2) lv (.ref x :: st) M) : CZ p l e R s m args below meth c G cA b nL Q cells slots pc lv st M := fun H locs ls hP hS hl => lv_aload S.1 S.2.1 hd (kget hl hg) (kk H locs ls hP hS hl)
theorem k_iload_n {k : Fin 4} {x : Int32} (S : CallFix p m c cc nL s args TT own) (hd : decode cc pc = .ok (.iload_n k, 1)) (hg : lget lv k = some (.int x)) (kk : CZ p l e R s m args below meth c G cA b nL Q cells slots (pc + 1) lv (.int x :: st) M) : CZ p l e R s m args below meth c G cA b nL Q cells slots pc lv st M := fun H locs ls hP hS hl => lv_iload_n S.1 S.2.1 hd rfl (kget hl hg) (kk H locs ls hP hS hl)
theorem k_iconst {n : Int} (S : CallFix p m c cc nL s args TT own) (hd : decode cc pc = .ok (.iconst n, 1)) (kk : CZ p l e R s m args below meth c G cA b nL Q cells slots (pc + 1) lv (.int (iI n) :: st) M) : CZ p l e R s m args below meth c G cA b nL Q cells slots pc lv st M := fun H locs ls hP hS hl => lv_iconst S.1 S.2.1 hd (iI_eq n) (kk H locs ls hP hS hl)
theorem k_bipush {n : Int} (S : CallFix p m c cc nL s args TT own) (h1 : -129 < n) (h2 : n < 128) (hd : decode cc pc = .ok (.bipush n, 2)) (kk : CZ p l e R s m args below meth c G cA b nL Q cells slots (pc + 2) lv (.int (iI n) :: st) M) : CZ p l e R s m args below meth c G cA b nL Q cells slots pc lv st M := fun H locs ls hP hS hl => lv_bipush S.1 S.2.1 hd (iI_b (by omega) h2) (kk H locs ls hP hS hl)
theorem k_sipush {n : Int} (S : CallFix p m c cc nL s args TT own) (h1 : -32769 < n) (h2 : n < 32768) (hd : decode cc pc = .ok (.sipush n, 3)) (kk : CZ p l e R s m args below meth c G cA b nL Q cells slots (pc + 3) lv (.int (iI n) :: st) M) : CZ p l e R s m args below meth c G cA b nL Q cells slots pc lv st M := fun H locs ls hP hS hl => lv_sipush S.1 S.2.1 hd (iI_s (by omega) h2) (kk H locs ls hP hS hl)
theorem k_ldc {x : Nat} {v : Int32} (S : CallFix p m c cc nL s args TT own) (hk : Cond.constant own x v ∈ TT) (hd : decode cc pc = .ok (.ldc x, 2)) (kk : CZ p l e R s m args below meth c G cA b nL Q cells slots (pc + 2) lv (.int v :: st) M) : CZ p l e R s m args below meth c G cA b nL Q cells slots pc lv st M := fun H locs ls hP hS hl => lv_ldc S.1 S.2.1 S.2.2.2.1 (S.2.2.2.2 _ hk) hd (kk H locs ls hP hS hl)
theorem k_ldc2 {x : Nat} {v : Int64} (S : CallFix p m c cc nL s args TT own) (hk : Cond.constantLong own x v ∈ TT) (hd : decode cc pc = .ok (.ldc2_w x, 3)) (kk : CZ p l e R s m args below meth c G cA b nL Q cells slots (pc + 3) lv (.long v :: st) M) : CZ p l e R s m args below meth c G cA b nL Q cells slots pc lv st M := fun H locs ls hP hS hl => lv_ldc2 S.1 S.2.1 S.2.2.2.1 (S.2.2.2.2 _ hk) hd (kk H locs ls hP hS hl)
theorem k_dup {x : Nat} (S : CallFix p m c cc nL s args TT own) (hd : decode cc pc = .ok (.dup, 1)) (kk : CZ p l e R s m args below meth c G cA b nL Q cells slots (pc + 1) lv (.ref x :: .ref x :: st) M) : CZ p l e R s m args below meth c G cA b nL Q cells slots pc lv (.ref x :: st) M := fun H locs ls hP hS hl => lv_dup S.1 S.2.1 hd rfl (kk H locs ls hP hS hl)
theorem k_goto {off : Int} {tgt : Nat} (S : CallFix p m c cc nL s args TT own) (hd : decode cc pc = .ok (.goto off, 3)) (ht : (pc : Int) + off = (tgt : Int)) (kk : CZ p l e R s m args below meth c G cA b nL Q cells slots tgt lv st M) : CZ p l e R s m args below meth c G cA b nL Q cells slots pc lv st M := fun H locs ls hP hS hl => lv_goto S.1 S.2.1 hd ht (kk H locs ls hP hS hl)
theorem k_icmpgt {x y : Int32} {off : Int} {tgt : Nat} (S : CallFix p m c cc nL s args TT own) (hd : decode cc pc = .ok (.if_icmp .gt off, 3)) (ht : (pc : Int) + off = (tgt : Int)) (kt : cT .gt x y → CZ p l e R s m args below meth c G cA b nL Q cells slots tgt lv st M) (kf : cF .gt x y → CZ p l e R s m args below meth c G cA b nL Q cells slots (pc + 3) lv st M) : CZ p l e R s m args below meth c G cA b nL Q cells slots pc lv (.int y :: .int x :: st) M := fun H locs ls hP hS hl => lv_icmp_gt S.1 S.2.1 hd ht (fun h => kt h H locs ls hP hS hl) (fun h => kf h H locs ls hP hS hl)
theorem k_istore_n {k : Fin 4} {x : Int32} {lv' : List (Nat × Value)} (S : CallFix p m c cc nL s args TT own) (hd : decode cc pc = .ok (.istore_n k, 1)) (hn : (k : Nat) < nL) (hl' : lput1 lv k (.int x) = lv') (kk : CZ p l e R s m args below meth c G cA b nL Q cells slots (pc + 1) lv' st M) : CZ p l e R s m args below meth c G cA b nL Q cells slots pc lv (.int x :: st) M := fun H locs ls hP hS hl => lv_istore_n (lv' := lv') S.1 S.2.1 hd rfl hl hn hl' (fun ls2 hl2 => kk H locs ls2 hP hS hl2)
theorem k_astore_n {k : Fin 4} {x : Nat} {lv' : List (Nat × Value)} (S : CallFix p m c cc nL s args TT own) (hd : decode cc pc = .ok (.astore_n k, 1)) (hn : (k : Nat) < nL) (hl' : lput1 lv k (.ref x) = lv') (kk : CZ p l e R s m args below meth c G cA b nL Q cells slots (pc + 1) lv' st M) : CZ p l e R s m args below meth c G cA b nL Q cells slots pc lv (.ref x :: st) M := fun H locs ls hP hS hl => lv_astore_n (lv' := lv') S.1 S.2.1 hd rfl hl hn hl' (fun ls2 hl2 => kk H locs ls2 hP hS hl2)
theorem k_iinc {k j : Nat} {n : Int} {x : Int32} {lv' : List (Nat × Value)} (S : CallFix p m c cc nL s args TT own) (hd : decode cc pc = .ok (.iinc k n, 3)) (hj : lv[j]? = some (k, .int x)) (hn : k < nL) (hl' : lput1 lv k (.int (x + iI n)) = lv') (kk : CZ p l e R s m args below meth c G cA b nL Q cells slots (pc + 3) lv' st M) : CZ p l e R s m args below meth c G cA b nL Q cells slots pc lv st M := fun H locs ls hP hS hl => lv_iinc (v := x + iI n) (lv' := lv') S.1 S.2.1 hd hl hj (by rw [iI_eq]) hn hl' (fun ls2 hl2 => kk H locs ls2 hP hS hl2)
theorem k_obj {x a : Nat} (S : CallFix p m c cc nL s args TT own) (hk : Cond.methodLink own x Lib.objectInit ∈ TT) (hd : decode cc pc = .ok (.invokespecial x, 3)) (hf : 1 ≤ R.frames) (hlo : 40 ≤ R.locals) (hst : stW st = true) (kk : CZ p l e R s m args below meth c G cA b nL Q cells slots (pc + 3) lv st M) : CZ p l e R s m args below meth c G cA b nL Q cells slots pc lv (.ref a :: st) M := by
  intro H locs ls hP hS hl
  have h8 : (st.map fun v => v.category).sum ≤ 8 := Nat.le_of_ble_eq_true hst
  refine W.objInit (g := F0 m pc ls (.ref a :: st)) S.1 S.2.1 S.2.2.2.1 (S.2.2.2.2 _ hk) (S.2.2.2.2 (.instanceMethod Lib.objectInit) (tt_at 105 rfl rfl)) (S.2.2.2.2 (.code Lib.objectInit ⟨#[0xb1]⟩ 1 none) (tt_at 106 rfl rfl)) rfl (hl.1.trans S.2.2.1.symm) rfl hd hf ?_ (kk H locs ls hP hS hl)
  have := lv_room (m := m) (pc := pc) (ls := ls) (rest := .ref a :: st) h8
  omega
theorem k_new {C : String} {Tb : u_T} {N ci x : Nat} {ty : Nat → FieldType} {fs : List Value} (S : CallFix p m c cc nL s args TT own) (hF : Fc G cA s) (hcd : CD ci C Tb N ty) (hk : Cond.classLink own x C ∈ TT) (h1 : Cond.instantiable C N ∈ TT) (h2 : Cond.initialized C ∈ TT) (hfs : ∀ j, j < N → defaultValue (ty j) = vp_V fs j) (hbs : b ≤ s.heap.size) (hcnt : s.heap.size + cells = b + M.length) (hc : cells + 1 ≤ R.cells) (hs : slots + N ≤ R.slots) (hd : decode cc pc = .ok (.new x, 3))
    (kk : CZ p l e R s m args below meth c G cA b nL Q (cells + 1) (slots + N) (pc + 3) lv (.ref (b + M.length) :: st) (M ++ [.inr (ci, fs)])) : CZ p l e R s m args below meth c G cA b nL Q cells slots pc lv st M := by
  intro H locs ls hP hS hl T9 hT9 X9
  have hH := k_size X9 hT9 hP hS hbs hcnt
  have hKn := hF.1.1 ci _ hcd.1
  refine (?_ : W p l e R s m args below meth c H locs cells slots Q (F0 m pc ls st)) T9 hT9 X9
  refine W.newcK S.1 S.2.1 S.2.2.2.1 (S.2.2.2.2 _ hk) (S.2.2.2.2 _ h1) (S.2.2.2.2 _ h2) rfl hd hc hs hKn.2.1 hH fun H1 kC hkC e1 z1 o1 => ?_
  refine kk H1 locs ls ?_ ⟨Nat.le_trans hS.1 (by omega), fun q a1 a2 => (o1 q (by have := hS.1; omega)).trans (hS.2.1 q a1 a2), hS.2.2⟩ hl
  rw [num_app]
  refine (hP.kept (fun k q hq => o1 q.1 (by have := (hP k q hq).lt; omega))).app (fun k q hq => ?_)
  cases k with
  | zero =>
    cases hq
    exact ⟨_, hcd.1, (u_born ty S.2.2.2.2 hcd.2.1 hKn hkC e1 hcd.2.2.1).to hfs⟩
  | succ k => cases hq
theorem k_newa {n : Int32} {N : Nat} {at' : ArrayType} {ty : FieldType} (S : CallFix p m c cc nL s args TT own) (hF : Fc G cA s) (hty : newarray.typeOf at' = ty) (hta : ty = .int ∨ ty = .boolean ∨ ty = .char ∨ ty = .long) (hn : n = nI N) (hN : N < 200000) (hbs : b ≤ s.heap.size) (hcnt : s.heap.size + cells = b + M.length) (hc : cells + 1 ≤ R.cells) (hs : slots + N ≤ R.slots) (hd : decode cc pc = .ok (.newarray at', 2))
    (kk : CZ p l e R s m args below meth c G cA b nL Q (cells + 1) (slots + N) (pc + 2) lv (.ref (b + M.length) :: st) (M ++ [arrE cA ty N])) : CZ p l e R s m args below meth c G cA b nL Q cells slots pc lv (.int n :: st) M := by
  intro H locs ls hP hS hl T9 hT9 X9
  have hH := k_size X9 hT9 hP hS hbs hcnt
  refine (?_ : W p l e R s m args below meth c H locs cells slots Q (F0 m pc ls (.int n :: st))) T9 hT9 X9
  subst hn
  subst hty
  have harr : (Cond.arrayClass (newarray.typeOf at')).before args s = true := by
    rcases hta with h | h | h | h <;> rw [h]
    · exact S.2.2.2.2 _ (tt_at 120 rfl rfl)
    · exact S.2.2.2.2 _ (tt_at 149 rfl rfl)
    · exact S.2.2.2.2 _ (tt_at 163 rfl rfl)
    · exact S.2.2.2.2 _ (tt_at 312 rfl rfl)
  have hnn : ¬ nI N < 0 := nn0 N
  have hby : N * componentBytes (newarray.typeOf at') ≤ 536870912 := by
    have h8 : componentBytes (newarray.typeOf at') ≤ 8 := by rcases hta with h | h | h | h <;> rw [h] <;> decide
    calc N * componentBytes (newarray.typeOf at') ≤ N * 8 := Nat.mul_le_mul_left N h8
      _ ≤ 536870912 := by omega
  refine va_newaK (g := F0 m pc ls (.int (nI N) :: st)) S.1 S.2.1 harr rfl hd rfl hnn (nI_clamp (by omega)) hby hc hs hH fun H1 cB e1 z1 o1 hAr hNm => ?_
  have hcB : cB = cA (newarray.typeOf at') := by
    have hk : ∀ k : Nat, (tysA cA)[k]? = some (cA (newarray.typeOf at'), newarray.typeOf at') → cB = cA (newarray.typeOf at') := by
      intro k hk
      have h3 := (hF.1.2 k _ hk).2
      have h4 : s.vm.findClass ("[" ++ (newarray.typeOf at').toString) = some (cA (newarray.typeOf at')) := by
        cases at' <;> exact h3
      exact Option.some.inj (hNm.symm.trans h4)
    rcases hta with h | h | h | h
    · exact hk 0 (by rw [h]; rfl)
    · exact hk 1 (by rw [h]; rfl)
    · exact hk 2 (by rw [h]; rfl)
    · exact hk 3 (by rw [h]; rfl)
  subst hcB
  refine kk H1 locs ls ?_ ⟨Nat.le_trans hS.1 (by omega), fun q a1 a2 => (o1 q (by have := hS.1; omega)).trans (hS.2.1 q a1 a2), hS.2.2⟩ hl
  rw [num_app]
  refine (hP.kept (fun k q hq => o1 q.1 (by have := (hP k q hq).lt; omega))).app (fun k q hq => ?_)
  cases k with
  | zero =>
    cases hq
    rcases hta with h | h | h | h <;> rw [h] at e1 ⊢ <;> exact e1
  | succ k => cases hq
theorem k_put {C : String} {Tb : u_T} {N ci x j : Nat} {ty : Nat → FieldType} {fs fs' : List Value} {M' : List va_E} {v : Value} (S : CallFix p m c cc nL s args TT own) (hF : Fc G cA s) (hin : meth.name = "<init>") (hcd : CD ci C Tb N ty) (hj : j < N) (hk : Cond.fieldLink own x (Tb j).1 (Tb j).2.1 (Tb j).2.2.1 ∈ TT) (hfin : (Tb j).2.2.2 = true) (hdecl : (Tb j).1 = own) (hnv : narrow (ty j) v = v) (hfv : fits (ty j) v = true) (hl' : j < fs.length) (he : fs.set j v = fs') (hd : decode cc pc = .ok (.putfield x, 3))
    (kk : CZ p l e R s m args below meth c G cA b nL Q cells slots (pc + 3) lv st (.inr (ci, fs') :: M')) : CZ p l e R s m args below meth c G cA b nL Q cells slots pc lv (v :: .ref b :: st) (.inr (ci, fs) :: M') := by
  intro H locs ls hP hS hl
  subst he
  refine va_putF (D := G) (ci := ci) (v := v) (ty := ty j) (C := C) (T := Tb) (N := N) S.1 S.2.1 S.2.2.2.2 hcd.2.1 ty hcd.2.2.1 hcd.2.2.2 S.2.2.2.1 hF.1 hP num_D hS 0 rfl hcd.1 j hj (S.2.2.2.2 _ hk) (fun _ h9 => h9) hfin hin hdecl (hcd.2.2.1 j hj) hnv hfv hl' hd (fun H1 locs1 hP1 hD1 hS1 => ?_)
  exact kk H1 locs1 ls hP1 hS1 hl
theorem k_get {C : String} {Tb : u_T} {N ci x j : Nat} {ty : Nat → FieldType} {fs : List Value} {M' : List va_E} {v : Value} (S : CallFix p m c cc nL s args TT own) (hF : Fc G cA s) (hcd : CD ci C Tb N ty) (hj : j < N) (hk : Cond.fieldLink own x (Tb j).1 (Tb j).2.1 (Tb j).2.2.1 ∈ TT) (hv : fs[j]? = some v) (hd : decode cc pc = .ok (.getfield x, 3))
    (kk : CZ p l e R s m args below meth c G cA b nL Q cells slots (pc + 3) lv (v :: st) (.inr (ci, fs) :: M')) : CZ p l e R s m args below meth c G cA b nL Q cells slots pc lv (.ref b :: st) (.inr (ci, fs) :: M') := by
  intro H locs ls hP hS hl
  exact va_get (D := G) (cl := vwCl) (C := C) (T := Tb) (N := N) (ci := ci) S.1 S.2.1 S.2.2.2.2 hcd.2.1 S.2.2.2.1 hF.1 hP 0 rfl hcd.1 j hj (S.2.2.2.2 _ hk) (fun _ h9 => h9) hv hd (kk H locs ls hP hS hl)
theorem k_newa' {n : Int32} {N : Nat} {at' : ArrayType} {ty : FieldType} {x : va_E} {M' : List va_E} (S : CallFix p m c cc nL s args TT own) (hF : Fc G cA s) (hty : newarray.typeOf at' = ty) (hta : ty = .int ∨ ty = .boolean ∨ ty = .char ∨ ty = .long) (hn : n = nI N) (hN : N < 200000) (hbs : b ≤ s.heap.size) (hcnt : s.heap.size + cells = b + (x :: M').length) (hc : cells + 1 ≤ R.cells) (hs : slots + N ≤ R.slots) (hd : decode cc pc = .ok (.newarray at', 2)) {a : Nat} (ha : a = b + (x :: M').length)
    (kk : CZ p l e R s m args below meth c G cA b nL Q (cells + 1) (slots + N) (pc + 2) lv (.ref a :: st) (x :: (M' ++ [arrE cA ty N]))) : CZ p l e R s m args below meth c G cA b nL Q cells slots pc lv (.int n :: st) (x :: M') := by
  subst ha
  exact k_newa S hF hty hta hn hN hbs hcnt hc hs hd kk
theorem k_new' {C : String} {Tb : u_T} {N ci k : Nat} {ty : Nat → FieldType} {fs : List Value} {x : va_E} {M' : List va_E} (S : CallFix p m c cc nL s args TT own) (hF : Fc G cA s) (hcd : CD ci C Tb N ty) (hk : Cond.classLink own k C ∈ TT) (h1 : Cond.instantiable C N ∈ TT) (h2 : Cond.initialized C ∈ TT) (hfs : ∀ j, j < N → defaultValue (ty j) = vp_V fs j) (hbs : b ≤ s.heap.size) (hcnt : s.heap.size + cells = b + (x :: M').length) (hc : cells + 1 ≤ R.cells) (hs : slots + N ≤ R.slots) (hd : decode cc pc = .ok (.new k, 3)) {a : Nat} (ha : a = b + (x :: M').length)
    (kk : CZ p l e R s m args below meth c G cA b nL Q (cells + 1) (slots + N) (pc + 3) lv (.ref a :: st) (x :: (M' ++ [.inr (ci, fs)]))) : CZ p l e R s m args below meth c G cA b nL Q cells slots pc lv st (x :: M') := by
  subst ha
  exact k_new S hF hcd hk h1 h2 hfs hbs hcnt hc hs hd kk
/-- a value in a field that isn't final -/
theorem k_putI {C : String} {Tb : u_T} {N ci x j : Nat} {ty : Nat → FieldType} {fs fs' : List Value} {M' : List va_E} {v : Value} (S : CallFix p m c cc nL s args TT own) (hF : Fc G cA s) (hcd : CD ci C Tb N ty) (hj : j < N) (hk : Cond.fieldLink own x (Tb j).1 (Tb j).2.1 (Tb j).2.2.1 ∈ TT) (hfin : (Tb j).2.2.2 = false) (hnv : narrow (ty j) v = v) (hfv : fits (ty j) v = true) (hl' : j < fs.length) (he : fs.set j v = fs') (hd : decode cc pc = .ok (.putfield x, 3))
    (kk : CZ p l e R s m args below meth c G cA b nL Q cells slots (pc + 3) lv st (.inr (ci, fs') :: M')) : CZ p l e R s m args below meth c G cA b nL Q cells slots pc lv (v :: .ref b :: st) (.inr (ci, fs) :: M') := by
  intro H locs ls hP hS hl
  subst he
  refine va_put (D := G) (ci := ci) (v := v) (ty := ty j) (C := C) (T := Tb) (N := N) S.1 S.2.1 S.2.2.2.2 hcd.2.1 ty hcd.2.2.1 hcd.2.2.2 S.2.2.2.1 hF.1 hP num_D hS 0 rfl hcd.1 j hj (S.2.2.2.2 _ hk) (fun _ h9 => h9) hfin (hcd.2.2.1 j hj) hnv hfv hl' hd (fun H1 locs1 hP1 hD1 hS1 => ?_)
  exact kk H1 locs1 ls hP1 hS1 hl
theorem k_last {k n : Nat} {f f' : Nat → Int64} {v : Int64} {j a : Nat} {i : Int32} {M' : List va_E} (S : CallFix p m c cc nL s args TT own) (hF : Fc G cA s) (ha : a = b + k) (hm : M[k]? = some (.inl (cA .long, n, .inr (.inl f)))) (hi : i = nI j) (hj : j < n) (hn : n < 200000) (he : vp_updL f j v = f') (hM : M.set k (.inl (cA .long, n, .inr (.inl f'))) = M') (hd : decode cc pc = .ok (.lastore, 1))
    (kk : CZ p l e R s m args below meth c G cA b nL Q cells slots (pc + 1) lv st M') : CZ p l e R s m args below meth c G cA b nL Q cells slots pc lv (.long v :: .int i :: .ref a :: st) M := by
  intro H locs ls hP hS hl
  subst ha
  subst hi
  subst he
  subst hM
  refine va_last (D := G) (cl := vwCl) S.1 S.2.1 hF.1 hP num_D hS k 3 (by rw [num_get, hm]; rfl) rfl (vp_in_nI hj (by omega)) hd (fun H1 locs1 hP1 hD1 hS1 => ?_)
  rw [nI_clamp (by omega), num_set] at hP1
  exact kk H1 locs1 ls hP1 hS1 hl
theorem k_iast {k n : Nat} {f f' : Nat → Int32} {v : Int32} {j a : Nat} {i : Int32} {M' : List va_E} (S : CallFix p m c cc nL s args TT own) (hF : Fc G cA s) (ha : a = b + k) (hm : M[k]? = some (.inl (cA .int, n, .inl f))) (hi : i = nI j) (hj : j < n) (hn : n < 200000) (he : upd f j v = f') (hM : M.set k (.inl (cA .int, n, .inl f')) = M') (hd : decode cc pc = .ok (.iastore, 1))
    (kk : CZ p l e R s m args below meth c G cA b nL Q cells slots (pc + 1) lv st M') : CZ p l e R s m args below meth c G cA b nL Q cells slots pc lv (.int v :: .int i :: .ref a :: st) M := by
  intro H locs ls hP hS hl
  subst ha
  subst hi
  subst he
  subst hM
  refine va_iast (D := G) (cl := vwCl) S.1 S.2.1 hF.1 hP num_D hS k 0 (by rw [num_get, hm]; rfl) rfl (vp_in_nI hj (by omega)) hd (fun H1 locs1 hP1 hD1 hS1 => ?_)
  rw [nI_clamp (by omega), num_set] at hP1
  exact kk H1 locs1 ls hP1 hS1 hl
/-- behind a constructor's call: its cells behind the others -/
theorem k_back {H : Heap} {locs : List Loc} {ls : Array Slot} {a mc ms : Nat} {A N N' : List va_E} {st0 : List Value} {av : Array Value} (ha : a = b + A.length) (hM : M = A ++ N) (hP : va_P G vwCl (num b M) H) (hS : va_S (fun q => b ≤ q) s.heap H locs) (hl : lv_has ls nL lv)
    (hr : va_Run p l e R s m args below meth c H locs cells slots mc ms (F0 m pc ls st0) st (CQ G a N' av) (fun q => a ≤ q))
    (kk : CZ p l e R s m args below meth c G cA b nL Q (cells + mc) (slots + ms) (pc + 3) lv st (A ++ N')) : W p l e R s m args below meth c H locs cells slots Q (F0 m pc ls st0) := by
  subst ha
  subst hM
  intro T hT X
  obtain ⟨v, st₀, t, T', L, h0, X', hL, e1, e2, ⟨hv, hP', hz, hk⟩, sg⟩ := hr T hT X
  cases hv
  rw [h0] at hz hk
  obtain ⟨t2, a1, b1⟩ := kk T'.heap (locs ++ L) ls (by
      rw [num_app]
      refine va_P.app (fun k q hq => ?_) (by rw [e1]; exact hP')
      obtain ⟨c1, c2, c3⟩ := num_lt hq
      have h5 : (num b (A ++ N))[k]? = some q := by
        rw [num_app, List.getElem?_append_left (by rw [← num_len A b] at c1; exact c1)]
        exact hq
      refine (hP k q h5).kept ?_
      rw [e1]
      exact hk q.1 (hP k q h5).lt (by show ¬ b + A.length ≤ q.1; omega))
    ⟨Nat.le_trans hS.1 (by rw [e1]; exact hz), fun q h1 h2 => by rw [e1, hk q (Nat.lt_of_lt_of_le h1 hS.1) (fun z => h2 (Nat.le_trans (Nat.le_add_right _ _) z))]; exact hS.2.1 q h1 h2, fun q hq => by
      rcases List.mem_append.mp hq with h | h
      · exact hS.2.2 q h
      · exact Nat.le_trans (Nat.le_add_right _ _) (hL q h)⟩ hl T' rfl X'
  exact ⟨t2, sg t2 a1, b1⟩
theorem k_sub {H : Heap} {A N : List va_E} (hP : va_P G vwCl (num b (A ++ N)) H) : va_P G vwCl (num (b + A.length) N) H := by
  rw [num_app] at hP
  refine hP.by (fun k => (num b A).length + k) (fun k q hk => ?_)
  rw [List.getElem?_append_right (Nat.le_add_right _ _), Nat.add_sub_cancel_left]
  exact hk
/-- a constructor of the nest, called -/
theorem k_initN {y : MethodName} {bytes : ByteArray} {maxL d mc ms n x a : Nat} {as : List Value} {A N N' : List va_E} {host : String} (S : CallFix p m c cc nL s args TT own) (hF : Fc G cA s) (hC : CM l y bytes maxL d mc ms G cA a (.ref a :: as) N N') (hnest : (own, x, y, host) ∈ nestI) (h1 : Cond.code y bytes maxL none ∈ TT) (h2 : Cond.initialized y.cls ∈ TT) (h3 : Cond.instanceMethod y ∈ TT) (hy : y.name = "<init>" ∧ y.cls ≠ "java/lang/invoke/MethodHandle" ∧ y.cls ≠ "java/lang/invoke/VarHandle" ∧ (parseMethodDescriptor y.desc).map (fun d => d.parameters.length) = some n) (hn : as.length = n)
    (hR : d + 1 ≤ R.frames ∧ 8 + (maxL + 11) + 40 * d ≤ R.locals) (hbs : b ≤ s.heap.size) (hcnt : s.heap.size + cells = b + M.length) (ha : a = b + A.length) (hM : M = A ++ N) (hst : stW st = true) (hc : cells + mc ≤ R.cells ∧ slots + ms ≤ R.slots) (hd : decode cc pc = .ok (.invokespecial x, 3))
    (kk : CZ p l e R s m args below meth c G cA b nL Q (cells + mc) (slots + ms) (pc + 3) lv st (A ++ N')) : CZ p l e R s m args below meth c G cA b nL Q cells slots pc lv (as.reverse ++ .ref a :: st) M := by
  intro H locs ls hP hS hl T9 hT9 X9
  have hH := k_size X9 hT9 hP hS hbs hcnt
  refine (?_ : W p l e R s m args below meth c H locs cells slots Q (F0 m pc ls (as.reverse ++ .ref a :: st))) T9 hT9 X9
  refine k_back ha hM hP hS hl (va_runIN (As := as) (b := a) (n := n) (nL := nL) (Ts := TT) (host := host) S hC ⟨va_cnB n S.2.2.2.2 (fun z hz => ?_) rfl rfl rfl (hF.2 _ hnest) (S.2.2.2.2 _ h2) hy.2 hR, hy.1, S.2.2.2.2 _ h3⟩ ⟨CP_blind, fun U hU hW => ⟨rfl, ?_, ?_, hF.go hW⟩⟩ rfl hn hl.1 rfl (lv_room (Nat.le_of_ble_eq_true hst)) hd hc) kk
  · rcases List.mem_cons.mp hz with e | hz
    · subst e
      exact ⟨h1, tt_good h1⟩
    · exact ⟨hz, tt_good hz⟩
  · rw [hU, hH, hM, ha, List.length_append]
    omega
  · rw [hU, ha]
    rw [hM] at hP
    exact k_sub hP
/-- another constructor, called -/
theorem k_init {y : MethodName} {bytes : ByteArray} {maxL d mc ms n x a : Nat} {as : List Value} {A N N' : List va_E} (S : CallFix p m c cc nL s args TT own) (hF : Fc G cA s) (hC : CM l y bytes maxL d mc ms G cA a (.ref a :: as) N N') (hlk : Cond.methodLink own x y ∈ TT) (h1 : Cond.code y bytes maxL none ∈ TT) (h2 : Cond.initialized y.cls ∈ TT) (h3 : Cond.instanceMethod y ∈ TT) (hy : y.name = "<init>" ∧ y.cls ≠ "java/lang/invoke/MethodHandle" ∧ y.cls ≠ "java/lang/invoke/VarHandle" ∧ (parseMethodDescriptor y.desc).map (fun d => d.parameters.length) = some n) (hn : as.length = n)
    (hR : d + 1 ≤ R.frames ∧ 8 + (maxL + 11) + 40 * d ≤ R.locals) (hbs : b ≤ s.heap.size) (hcnt : s.heap.size + cells = b + M.length) (ha : a = b + A.length) (hM : M = A ++ N) (hst : stW st = true) (hc : cells + mc ≤ R.cells ∧ slots + ms ≤ R.slots) (hd : decode cc pc = .ok (.invokespecial x, 3))
    (kk : CZ p l e R s m args below meth c G cA b nL Q (cells + mc) (slots + ms) (pc + 3) lv st (A ++ N')) : CZ p l e R s m args below meth c G cA b nL Q cells slots pc lv (as.reverse ++ .ref a :: st) M := by
  intro H locs ls hP hS hl T9 hT9 X9
  have hH := k_size X9 hT9 hP hS hbs hcnt
  refine (?_ : W p l e R s m args below meth c H locs cells slots Q (F0 m pc ls (as.reverse ++ .ref a :: st))) T9 hT9 X9
  refine k_back ha hM hP hS hl (va_runI (As := as) (b := a) (n := n) (nL := nL) (Ts := TT) S hC (cwI n S.2.2.2.2 (fun z hz => ?_) rfl rfl rfl (S.2.2.2.2 _ h2) (S.2.2.2.2 _ hlk) (S.2.2.2.2 _ h3) hy.1 hy.2 hR) ⟨CP_blind, fun U hU hW => ⟨rfl, ?_, ?_, hF.go hW⟩⟩ rfl hn hl.1 rfl (lv_room (Nat.le_of_ble_eq_true hst)) hd hc) kk
  · rcases List.mem_cons.mp hz with e | hz
    · subst e
      exact ⟨h1, tt_good h1⟩
    · exact ⟨hz, tt_good hz⟩
  · rw [hU, hH, hM, ha, List.length_append]
    omega
  · rw [hU, ha]
    rw [hM] at hP
    exact k_sub hP
end
/-- a constructor's contract out of the walk from its entry -/
theorem CM.of {l : Launch} {y : MethodName} {cc : ByteArray} {nL d mc ms : Nat} {G : va_G} {cA : FieldType → ClassId} {b : Nat} {as : List Value} {M M' : List va_E} (hy : plainName y.cls = true) (hin : y.name = "<init>") (hn : (lg_sl as).length ≤ nL)
    (h : ∀ (p : Program) (e : Env) (s : State) (m : MethodId) (below : List Frame) (meth : Method) (c : Code), CallFix p m c cc nL s as.toArray TT y.cls → Fc G cA s → meth.name = "<init>" → meth.sig.returnType = none → meth.locks = false → s.heap.size = b + M.length →
      CZ p l e (rmC d mc ms) s m as.toArray below meth c G cA b nL (MQ below (CQ G b M') as.toArray s mc ms (fun q => b ≤ q)) 0 0 0 (lv_args 0 as) [] M) : CM l y cc nL d mc ms G cA b as M M' := by
  refine Met.ofW (cc := cc) (maxL := nL) (ret := none) hy rfl ?_
  intro p e s m args below meth c s₁ B hml hv
  obtain ⟨rfl, hsz, hP, hF⟩ := hv
  have hts := atoms_spec (ws := Cond.code y cc nL none :: TT) B.pre
  have hown : s.vm.findClass y.cls = some m.cls := findClass_of_methodNamed B.named
  have hl := lv_entry as (n := nL) hn
  rw [lg_entry_eq]
  exact h p e s m below meth c ⟨B.exec, B.bytes, hml, hown, fun z hz => hts z (List.mem_cons_of_mem _ hz)⟩ hF ((name_of_methodNamed B.named B.method).1.trans hin) B.returns B.notSynchronized hsz s.heap [] _ hP va_S.rf hl
/-- its end -/
theorem k_ret {p : Program} {l : Launch} {e : Env} {R : Room} {s : State} {m : MethodId} {args : Array Value} {below : List Frame} {meth : Method} {c : Code} {G : va_G} {cA : FieldType → ClassId} {b nL : Nat} {cc : ByteArray} {own : String} {cells slots pc : Nat} {lv : List (Nat × Value)} {M : List va_E} (S : CallFix p m c cc nL s args TT own) (hr : meth.sig.returnType = none) (hlocks : meth.locks = false) (hd : decode cc pc = .ok (.return_, 1)) : CZ p l e R s m args below meth c G cA b nL (MQ below (CQ G b M) args s cells slots (fun q => b ≤ q)) cells slots pc lv [] M := by
  intro H locs ls hP hS hl
  exact W.vret (Qc := CQ G b M) S.1 S.2.1 hr (fun t ht hW => ⟨rfl, by rw [ht]; exact hP, hS.F ht⟩) hS.2.2 hd
