/-! THE MACHINE OVER NUMBERED CELLS. World: what the cells hold (ints by cell and place; longs by cell and place). -/
abbrev Wd : Type := (Nat → Nat → Int32) × (Nat → Nat → Int64)
def cv (ad : Nat → Nat) : Value → Value
  | .ref i => .ref (ad i)
  | v => v
theorem cv_cat (ad : Nat → Nat) (v : Value) : (cv ad v).category = v.category := by cases v <;> rfl
def lvc (ad : Nat → Nat) (lv : List (Nat × Value)) : List (Nat × Value) := lv.map (fun q => (q.1, cv ad q.2))
def fv (ad : Nat → Nat) (w : Wd) (a : Nat) (k : Nat) (o : Option Nat) : Value := match o with
  | some r => .ref (ad r)
  | none => .int (w.1 a k)
def cont (ad : Nat → Nat) (cA : FieldType → ClassId) (w : Wd) (a : Nat) (x : Shp) : va_E := match x with
  | .inl (ci, fs) => .inr (ci, fs.mapIdx (fv ad w a))
  | .inr (.long, n) => .inl (cA .long, n, .inr (.inl (w.2 a)))
  | .inr (ty, n) => .inl (cA ty, n, .inl (w.1 a))
def wsl (ad : Nat → Nat) (cA : FieldType → ClassId) (w : Wd) : va_W := shp.mapIdx (fun a x => (ad a, cont ad cA w a x))
theorem wsl_at {ad : Nat → Nat} {cA : FieldType → ClassId} {w : Wd} {a : Nat} {x : Shp} (h : shp[a]? = some x) : (wsl ad cA w)[a]? = some (ad a, cont ad cA w a x) := by
  simp [wsl, List.getElem?_mapIdx, h]
def up1 (w : Wd) (a k : Nat) (v : Int32) : Wd := (fun b j => if b = a ∧ j = k then v else w.1 b j, w.2)
def up2 (w : Wd) (a k : Nat) (v : Int64) : Wd := (w.1, fun b j => if b = a ∧ j = k then v else w.2 b j)
def upA (w : Wd) (a : Nat) (f : Nat → Int32) : Wd := (fun b j => if b = a then f j else w.1 b j, w.2)
theorem cont_congr {ad : Nat → Nat} {cA : FieldType → ClassId} {w w' : Wd} {a : Nat} (h1 : w'.1 a = w.1 a) (h2 : w'.2 a = w.2 a) (x : Shp) : cont ad cA w' a x = cont ad cA w a x := by
  have h3 : fv ad w' a = fv ad w a := by
    funext k o
    cases o with
    | none => simp [fv, h1]
    | some r => rfl
  rcases x with ⟨ci, fs⟩ | ⟨ty, n⟩
  · simp [cont, h3]
  · cases ty <;> simp [cont, h1, h2]
theorem wsl_set {ad : Nat → Nat} {cA : FieldType → ClassId} {w w' : Wd} {a : Nat} {x : Shp} {y : va_E} (h : shp[a]? = some x) (hy : y = cont ad cA w' a x) (h1 : ∀ b, b ≠ a → w'.1 b = w.1 b) (h2 : ∀ b, b ≠ a → w'.2 b = w.2 b) : (wsl ad cA w).set a (ad a, y) = wsl ad cA w' := by
  subst hy
  have hl : a < shp.length := (List.getElem?_eq_some_iff.mp h).1
  apply List.ext_getElem?
  intro b
  by_cases hb : b = a
  · subst hb
    rw [List.getElem?_set_self (by simpa [wsl] using hl), wsl_at h]
  · rw [List.getElem?_set_ne (Ne.symm hb)]
    cases hx : shp[b]? with
    | none => simp [wsl, List.getElem?_mapIdx, hx]
    | some z => rw [wsl_at hx, wsl_at hx, cont_congr (h1 b hb) (h2 b hb)]
theorem up1_off {w : Wd} {a k : Nat} {v : Int32} : ∀ b, b ≠ a → (up1 w a k v).1 b = w.1 b := by
  intro b hb
  funext j
  simp [up1, hb]
theorem up2_off {w : Wd} {a k : Nat} {v : Int64} : ∀ b, b ≠ a → (up2 w a k v).2 b = w.2 b := by
  intro b hb
  funext j
  simp [up2, hb]
theorem up1_on {w : Wd} {a k : Nat} {v : Int32} : (up1 w a k v).1 a = upd (w.1 a) k v := by
  funext j
  simp [up1, upd]
theorem up2_on {w : Wd} {a k : Nat} {v : Int64} : (up2 w a k v).2 a = vp_updL (w.2 a) k v := by
  funext j
  simp [up2, vp_updL]
theorem set_fld {ad : Nat → Nat} {w : Wd} {a k : Nat} {fs : List (Option Nat)} (h : fs[k]? = some none) (v : Int32) : (fs.mapIdx (fv ad w a)).set k (.int v) = fs.mapIdx (fv ad (up1 w a k v) a) := by
  have hl : k < fs.length := (List.getElem?_eq_some_iff.mp h).1
  apply List.ext_getElem?
  intro b
  by_cases hb : b = k
  · subst hb
    rw [List.getElem?_set_self (by simpa using hl), List.getElem?_mapIdx, h]
    simp [fv, up1]
  · rw [List.getElem?_set_ne (Ne.symm hb), List.getElem?_mapIdx, List.getElem?_mapIdx]
    cases hx : fs[b]? with
    | none => rfl
    | some o =>
      cases o with
      | none => simp [fv, up1, hb]
      | some r => rfl
def AA (ad : Nat → Nat) (sz : Nat) : Nat → Prop := fun q => (∃ i, i < NS ∧ q = ad i) ∨ sz ≤ q
def Inj (ad : Nat → Nat) : Prop := ∀ i j, i < NS → j < NS → ad i = ad j → i = j
theorem wsl_lt {ad : Nat → Nat} {cA : FieldType → ClassId} {w : Wd} {i : Nat} {q : Nat × va_E} (h : (wsl ad cA w)[i]? = some q) : i < NS ∧ q.1 = ad i := by
  have hl : i < (wsl ad cA w).length := (List.getElem?_eq_some_iff.mp h).1
  have hl2 : i < shp.length := by simpa [wsl] using hl
  refine ⟨by rw [← shp_len]; exact hl2, ?_⟩
  have hx : shp[i]? = some shp[i] := List.getElem?_eq_getElem hl2
  rw [wsl_at hx] at h
  cases h
  rfl
theorem wsl_D {ad : Nat → Nat} {cA : FieldType → ClassId} {w : Wd} {sz : Nat} (h : Inj ad) : va_D (AA ad sz) (wsl ad cA w) := by
  refine ⟨fun i j x y hi hj e => ?_, fun k q hk => ?_⟩
  · obtain ⟨a1, a2⟩ := wsl_lt hi
    obtain ⟨b1, b2⟩ := wsl_lt hj
    exact h i j a1 b1 (by rw [← a2, ← b2]; exact e)
  · obtain ⟨a1, a2⟩ := wsl_lt hk
    exact Or.inl ⟨k, a1, a2⟩
/-- the types of arrays, with their classes -/
def tysA (cA : FieldType → ClassId) : List (ClassId × FieldType) := [(cA .int, .int), (cA .boolean, .boolean), (cA .char, .char), (cA .long, .long)]
def sIdx : Nat → Nat := fun k => [63, 69, 71, 73, 75, 77, 84, 86, 88, 82].getD k 0
def sTxt : Nat → String := fun k => ["any", "bar", "chain", "left", "rule", "right", "some", "sort", "single", "word"].getD k ""
def sLen : List Nat := [3, 3, 5, 4, 4, 5, 4, 4, 6, 4]
def sByt : List (List Int32) := [[97, 110, 121], [98, 97, 114], [99, 104, 97, 105, 110], [108, 101, 102, 116], [114, 117, 108, 101], [114, 105, 103, 104, 116], [115, 111, 109, 101], [115, 111, 114, 116], [115, 105, 110, 103, 108, 101], [119, 111, 114, 100]]
/-- the static that String.checkIndex reads: null or a reference -/
def Fz (ad : Nat → Nat) (A : Nat → Prop) (U : State) (H : Heap) : Prop :=
  va_Z "jdk/internal/util/Preconditions" "SIOOBE_FORMATTER" "Ljava/util/function/BiFunction;" .null A U H ∨ va_Z "jdk/internal/util/Preconditions" "SIOOBE_FORMATTER" "Ljava/util/function/BiFunction;" (.ref (ad 400)) A U H
/-- what stays: the classes, the nest's links, the ten words as String constants, the static that String reads -/
def Fx (G : va_G) (cA : FieldType → ClassId) (ad : Nat → Nat) (sz : Nat) (U : State) : Prop :=
  va_K G vwCl (tysA cA) U ∧ (∀ q ∈ nestL, va_Nw (.methodLinkNest q.1 q.2.1 q.2.2.1 q.2.2.2) U) ∧ (∀ k, k < 10 → vk_R "RowDrawer$Tokens" (sIdx k) (sTxt k) (ad (200 + k)) U) ∧
  vk_S 10 sLen sByt (fun k => ad (200 + k)) (fun k => ad (300 + k)) (AA ad sz) U U.heap ∧ va_Z "java/lang/String" "COMPACT_STRINGS" "Z" (.int 1) (AA ad sz) U U.heap ∧ Fz ad (AA ad sz) U U.heap
theorem Fx.go {G : va_G} {cA : FieldType → ClassId} {ad : Nat → Nat} {s U : State} {H : Heap} {locs : List Loc} (h : Fx G cA ad s.heap.size s) (hS : va_S (AA ad s.heap.size) s.heap H locs) (hU : U.heap = H) (hW : s.WarmedH U.vm) : Fx G cA ad H.size U := by
  obtain ⟨h1, h2, h3, h4, h5, h6⟩ := h
  have hn : ∀ q, AA ad H.size q → AA ad s.heap.size q := fun q hq => hq.elim Or.inl (fun z => Or.inr (Nat.le_trans hS.1 z))
  refine ⟨va_K.moved hW.alike h1, fun q hq => va_Nw.warmM hW (h2 q hq), fun k hk => (h3 k hk).warm hW, ?_, ?_, ?_⟩
  · rw [hU]
    exact ((h4.kept hS.2.1).moved hW.alike).narrow hn
  · rw [hU]
    exact ((va_Z.kept h5 hS.2.1).moved hW.alike).narrow hn
  · rw [hU]
    exact h6.imp (fun z => ((va_Z.kept z hS.2.1).moved hW.alike).narrow hn) (fun z => ((va_Z.kept z hS.2.1).moved hW.alike).narrow hn)
theorem Fx.calling {G : va_G} {cA : FieldType → ClassId} {ad : Nat → Nat} {sz : Nat} {U : State} (g : JFrame) (mk : MethodId) (a : Array Value) (h : Fx G cA ad sz U) : Fx G cA ad sz (U.calling g mk a) := by
  obtain ⟨h1, h2, h3, h4, h5, h6⟩ := h
  refine ⟨va_K.moved (u := U) (U := U.calling g mk a) (Vm.Alike.refl U.vm) h1, fun q hq => va_Nw.same (u := U) (U := U.calling g mk a) rfl rfl (h2 q hq), fun k hk => vk_R.same (u := U) (U := U.calling g mk a) rfl (h3 k hk), ?_, ?_, ?_⟩
  · exact vk_S.moved (u := U) (U := U.calling g mk a) (Vm.Alike.refl U.vm) h4
  · exact va_Z.moved (u := U) (U := U.calling g mk a) (Vm.Alike.refl U.vm) h5
  · exact h6.imp (va_Z.moved (u := U) (U := U.calling g mk a) (Vm.Alike.refl U.vm)) (va_Z.moved (u := U) (U := U.calling g mk a) (Vm.Alike.refl U.vm))
def wsM (μ : MI) : List Cond := Cond.code (mY μ) (mB μ) (mL μ) (mR μ) :: TT
def rmD (d : Nat) : Room := { frames := d, cells := 0, slots := 0, locals := 40 * d }
def Pw (G : va_G) (cA : FieldType → ClassId) (ad : Nat → Nat) (sz : Nat) (as : List Value) (w : Wd) : Array Value → State → Prop :=
  va_Pc (as.map (cv ad)) (fun U => U.heap.size = sz ∧ va_P G vwCl (wsl ad cA w) U.heap ∧ Fx G cA ad sz U ∧ Inj ad)
def Qw (G : va_G) (cA : FieldType → ClassId) (ad : Nat → Nat) (sz : Nat) (Q : Option Value → Wd → Prop) : Array Value → State → Outcome → State → Prop :=
  fun _ st oc t => (∃ (r : Option Value) (w' : Wd), oc = .returned (r.map (cv ad)) ∧ Q r w' ∧ va_P G vwCl (wsl ad cA w') t.heap) ∧ va_F (AA ad sz) st t
/-- THE CONTRACT of a method at a world: it returns, and 'Q answer world' -/
def Ev (μ : MI) (d : Nat) (as : List Value) (w : Wd) (Q : Option Value → Wd → Prop) : Prop :=
  ∀ (l : Launch) (G : va_G) (cA : FieldType → ClassId) (ad : Nat → Nat) (sz : Nat), Met l (mY μ) (wsM μ) (rmD d) (Pw G cA ad sz as w) (Qw G cA ad sz Q) 0 0 (AA ad sz)
def Cx (μ : MI) (p : Program) (s : State) (m : MethodId) (args : Array Value) (meth : Method) (c : Code) : Prop :=
  p.tables.exec = Jvm.exec ∧ c.code = mB μ ∧ meth.sig.returnType = mR μ ∧ c.maxLocals = mL μ ∧ s.vm.findClass (mY μ).cls = some m.cls ∧ (∀ w ∈ wsM μ, w.before args s = true) ∧ meth.locks = false
/-- the method goes on from here, and ends with Q -/
def Z (μ : MI) (d : Nat) (Q : Option Value → Wd → Prop) (pc : Nat) (lv : List (Nat × Value)) (st : List Value) (w : Wd) : Prop :=
  ∀ (p : Program) (l : Launch) (e : Env) (s : State) (m : MethodId) (args : Array Value) (below : List Frame) (meth : Method) (c : Code) (G : va_G) (cA : FieldType → ClassId) (ad : Nat → Nat),
    Cx μ p s m args meth c → Fx G cA ad s.heap.size s → Inj ad → ∀ (H : Heap) (locs : List Loc) (ls : Array Slot), va_P G vwCl (wsl ad cA w) H → va_S (AA ad s.heap.size) s.heap H locs → lv_has ls (mL μ) (lvc ad lv) →
    W p l e (rmD d) s m args below meth c H locs 0 0 (MQ below (Qw G cA ad s.heap.size Q) args s 0 0 (AA ad s.heap.size)) (F0 m pc ls (st.map (cv ad)))
theorem sl_len (ad : Nat → Nat) : ∀ as : List Value, (lg_sl (as.map (cv ad))).length = (lg_sl as).length
  | [] => rfl
  | v :: t => by
    have ih := sl_len ad t
    simp only [lg_sl] at ih ⊢
    simp only [List.map_cons, List.flatMap_cons, List.length_append, cv_cat, ih]
    split <;> rfl
/-- a method's contract out of the walk from its entry -/
theorem Ev.ofZ {μ : MI} {d : Nat} {as : List Value} {w : Wd} {Q : Option Value → Wd → Prop} (hy : plainName (mY μ).cls = true) (hn : (lg_sl as).length ≤ mL μ) (h : Z μ d Q 0 (lv_args 0 as) [] w) : Ev μ d as w Q := by
  intro l G cA ad sz
  refine Met.ofW (cc := mB μ) (maxL := mL μ) (ret := mR μ) hy rfl ?_
  intro p e s m args below meth c s₁ B hml hv
  obtain ⟨rfl, hsz, hP, hF, hI⟩ := hv
  subst hsz
  have hts := atoms_spec (ws := wsM μ) B.pre
  have hown : s.vm.findClass (mY μ).cls = some m.cls := findClass_of_methodNamed B.named
  have hsl := sl_len ad as
  have hla : ∀ (i : Nat) (l : List Value), lv_args i (l.map (cv ad)) = lvc ad (lv_args i l) := by
    intro i l
    induction l generalizing i with
    | nil => rfl
    | cons v t ih => simp only [List.map_cons, lv_args, lvc, cv_cat, ih]
  have hl := lv_entry (as.map (cv ad)) (n := mL μ) (by rw [hsl]; exact hn)
  rw [lg_entry_eq]
  rw [hla] at hl
  exact h p l e s m _ below meth c G cA ad ⟨B.exec, B.bytes, B.returns, hml, hown, hts, B.notSynchronized⟩ hF hI _ _ _ hP va_S.rf hl
