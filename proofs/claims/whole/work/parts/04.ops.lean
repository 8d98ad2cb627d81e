/-! ONE STEP, AS A CONDITION: 'stp .. K': the instruction at pc may be taken, and K holds where it leads -/
def lget : List (Nat × Value) → Nat → Option Value
  | [], _ => none
  | q :: t, k => bif Nat.beq q.1 k then some q.2 else lget t k
theorem lget_mem {k : Nat} {v : Value} : ∀ {lv : List (Nat × Value)}, lget lv k = some v → (k, v) ∈ lv
  | [], h => by cases h
  | q :: t, h => by
    unfold lget at h
    cases hb : Nat.beq q.1 k with
    | true =>
      rw [hb] at h
      have e : q.1 = k := Nat.eq_of_beq_eq_true hb
      obtain ⟨a, b⟩ := q
      cases h
      cases e
      exact List.mem_cons_self
    | false =>
      rw [hb] at h
      exact List.mem_cons_of_mem _ (lget_mem h)
def lput1 (lv : List (Nat × Value)) (i : Nat) (v : Value) : List (Nat × Value) := (i, v) :: lv.filter (fun q => !(q.1 == i) && !(q.1 + 1 == i && q.2.category == 2))
def lput2 (lv : List (Nat × Value)) (i : Nat) (v : Value) : List (Nat × Value) := (i, v) :: lv.filter (fun q => !(q.1 == i) && (!(q.1 == i + 1) && !(q.1 + 1 == i && q.2.category == 2)))
def lpick (lv : List (Nat × Value)) (ks : List Nat) : List (Nat × Value) := ks.filterMap (fun k => (lget lv k).map (fun v => (k, v)))
theorem lvc_get {ad : Nat → Nat} {ls : Array Slot} {n k : Nat} {lv : List (Nat × Value)} {v : Value} (h : lv_has ls n (lvc ad lv)) (hg : lget lv k = some v) : ls[k]? = some (.val (cv ad v)) :=
  h.2.2 (k, cv ad v) (List.mem_map.mpr ⟨(k, v), lget_mem hg, rfl⟩)
theorem lvc_filter (ad : Nat → Nat) (f : Nat → Nat → Bool) (lv : List (Nat × Value)) : (lvc ad lv).filter (fun q => f q.1 q.2.category) = lvc ad (lv.filter (fun q => f q.1 q.2.category)) := by
  induction lv with
  | nil => rfl
  | cons q t ih =>
    simp only [lvc, List.map_cons] at ih ⊢
    by_cases hf : f q.1 q.2.category = true
    · rw [List.filter_cons_of_pos (by simpa [cv_cat] using hf), List.filter_cons_of_pos (by simpa using hf), ih]; rfl
    · rw [List.filter_cons_of_neg (by simpa [cv_cat] using hf), List.filter_cons_of_neg (by simpa using hf), ih]
theorem lvc_put1 (ad : Nat → Nat) (lv : List (Nat × Value)) (i : Nat) (v : Value) : (i, cv ad v) :: (lvc ad lv).filter (fun q => !(q.1 == i) && !(q.1 + 1 == i && q.2.category == 2)) = lvc ad (lput1 lv i v) := by
  rw [lvc_filter ad (fun a b => !(a == i) && !(a + 1 == i && b == 2)) lv]; rfl
theorem lvc_put2 (ad : Nat → Nat) (lv : List (Nat × Value)) (i : Nat) (v : Value) : (i, cv ad v) :: (lvc ad lv).filter (fun q => !(q.1 == i) && (!(q.1 == i + 1) && !(q.1 + 1 == i && q.2.category == 2))) = lvc ad (lput2 lv i v) := by
  rw [lvc_filter ad (fun a b => !(a == i) && (!(a == i + 1) && !(a + 1 == i && b == 2))) lv]; rfl
theorem lvc_pick {ad : Nat → Nat} {ls : Array Slot} {n : Nat} {lv : List (Nat × Value)} (ks : List Nat) (h : lv_has ls n (lvc ad lv)) : lv_has ls n (lvc ad (lpick lv ks)) := by
  refine ⟨h.1, h.2.1, fun q hq => ?_⟩
  obtain ⟨q0, h0, rfl⟩ := List.mem_map.mp hq
  obtain ⟨k, -, hk⟩ := List.mem_filterMap.mp h0
  cases hg : lget lv k with
  | none => rw [hg] at hk; cases hk
  | some v =>
    rw [hg] at hk
    cases hk
    exact lvc_get h hg
def iI : Int → Int32
  | .ofNat k => nI k
  | .negSucc k => -nI (k + 1)
theorem iI_eq (n : Int) : Int32.ofInt n = iI n := by
  cases n with
  | ofNat k => exact Int32.toBitVec_inj.mp (by simp [iI, nI, Int32.toBitVec_ofInt])
  | negSucc k => exact Int32.toBitVec_inj.mp (by simp [iI, nI, Int32.toBitVec_ofInt, Int.negSucc_eq, BitVec.ofInt_neg])
theorem iI_toInt {n : Int} (h1 : -2147483648 ≤ n) (h2 : n < 2147483648) : (iI n).toInt = n := by
  rw [← iI_eq, Int32.toInt_ofInt]
  exact Int.bmod_eq_of_le (m := 4294967296) (by omega) (by omega)
theorem iI_b {n : Int} (h1 : -128 ≤ n) (h2 : n < 128) : (Int8.ofInt n).toInt32 = iI n := by
  apply Int32.toInt_inj.mp
  rw [iI_toInt (by omega) (by omega), Int8.toInt_toInt32, Int8.toInt_ofInt]
  exact Int.bmod_eq_of_le (m := 256) (by omega) (by omega)
theorem iI_s {n : Int} (h1 : -32768 ≤ n) (h2 : n < 32768) : (Int16.ofInt n).toInt32 = iI n := by
  apply Int32.toInt_inj.mp
  rw [iI_toInt (by omega) (by omega), Int16.toInt_toInt32, Int16.toInt_ofInt]
  exact Int.bmod_eq_of_le (m := 65536) (by omega) (by omega)
def ldI (lv : List (Nat × Value)) (k : Nat) (f : Int32 → Prop) : Prop := match lget lv k with | some (.int v) => f v | _ => False
def ldL (lv : List (Nat × Value)) (k : Nat) (f : Int64 → Prop) : Prop := match lget lv k with | some (.long v) => f v | _ => False
def ldR (lv : List (Nat × Value)) (k : Nat) (f : Nat → Prop) : Prop := match lget lv k with | some (.ref v) => f v | _ => False
def pI (st : List Value) (f : Int32 → List Value → Prop) : Prop := match st with | .int v :: t => f v t | _ => False
def pL (st : List Value) (f : Int64 → List Value → Prop) : Prop := match st with | .long v :: t => f v t | _ => False
def pR (st : List Value) (f : Nat → List Value → Prop) : Prop := match st with | .ref v :: t => f v t | _ => False
def pIs (st : List Value) (f : Int32 → Prop) : Prop := match st with | [.int v] => f v | _ => False
def ot {α : Type} (o : Option α) (f : α → Prop) : Prop := match o with | some x => f x | none => False
def jp (pc : Nat) (off : Int) (f : Nat → Prop) : Prop := match (pc : Int) + off with | .ofNat t => f t | .negSucc _ => False
def bo (b : Bool) (P : Prop) : Prop := match b with | true => P | false => False
def tget {α : Type} : List (Nat × α) → Nat → Option α
  | [], _ => none
  | q :: t, k => bif Nat.beq q.1 k then some q.2 else tget t k
theorem tget_mem {α : Type} {k : Nat} {v : α} : ∀ {l : List (Nat × α)}, tget l k = some v → (k, v) ∈ l
  | [], h => by cases h
  | q :: t, h => by
    unfold tget at h
    cases hb : Nat.beq q.1 k with
    | true =>
      rw [hb] at h
      have e : q.1 = k := Nat.eq_of_beq_eq_true hb
      obtain ⟨a, b⟩ := q
      cases h
      cases e
      exact List.mem_cons_self
    | false =>
      rw [hb] at h
      exact List.mem_cons_of_mem _ (tget_mem h)
/-- field k of cell a, if that is an object of class ci -/
def gv (w : Wd) (a ci k : Nat) : Option Value := match shp[a]? with
  | some (.inl (c2, fs)) => bif Nat.beq c2 ci then (match fs[k]? with | some (some r) => some (.ref r) | some none => some (.int (w.1 a k)) | none => none) else none
  | _ => none
def gp (a ci k : Nat) : Bool := match shp[a]? with
  | some (.inl (c2, fs)) => Nat.beq c2 ci && (match fs[k]? with | some none => true | _ => false)
  | _ => false
/-- the array a: its type and length -/
def ga (a : Nat) : Option (FieldType × Nat) := match shp[a]? with
  | some (.inr q) => some q
  | _ => none
def isC (a ci : Nat) : Bool := match shp[a]? with
  | some (.inl (c2, _)) => Nat.beq c2 ci
  | _ => false
def cT (c : ClassFile.Cond) (x y : Int32) : Prop := match c with
  | .eq => x = y | .ne => ¬ x = y | .lt => x < y | .ge => y ≤ x | .gt => y < x | .le => x ≤ y
def cF (c : ClassFile.Cond) (x y : Int32) : Prop := match c with
  | .eq => ¬ x = y | .ne => x = y | .lt => ¬ x < y | .ge => ¬ y ≤ x | .gt => ¬ y < x | .le => ¬ x ≤ y
def tkA : Nat → List Value → List Value → Option (List Value × List Value)
  | 0, st, acc => some (acc, st)
  | n + 1, v :: st, acc => tkA n st (v :: acc)
  | _ + 1, [], _ => none
theorem tkA_spec : ∀ (n : Nat) (st acc as rest : List Value), tkA n st acc = some (as, rest) → ∃ bs, as = bs ++ acc ∧ st = bs.reverse ++ rest ∧ bs.length = n
  | 0, st, acc, as, rest, h => by
    cases h
    exact ⟨[], rfl, rfl, rfl⟩
  | n + 1, [], acc, as, rest, h => by cases h
  | n + 1, v :: st, acc, as, rest, h => by
    obtain ⟨bs, h1, h2, h3⟩ := tkA_spec n st (v :: acc) as rest h
    exact ⟨bs ++ [v], by rw [h1]; simp, by rw [h2]; simp, by simp [h3]⟩
def qI (Q : Int32 → Wd → Prop) : Option Value → Wd → Prop := fun r w => match r with | some (.int x) => Q x w | _ => False
def qL (Q : Int64 → Wd → Prop) : Option Value → Wd → Prop := fun r w => match r with | some (.long x) => Q x w | _ => False
def qR (Q : Nat → Wd → Prop) : Option Value → Wd → Prop := fun r w => match r with | some (.ref x) => Q x w | _ => False
def qV (Q : Wd → Prop) : Option Value → Wd → Prop := fun r w => match r with | none => Q w | _ => False
abbrev EvI (μ : MI) (d : Nat) (as : List Value) (w : Wd) (Q : Int32 → Wd → Prop) : Prop := Ev μ d as w (qI Q)
abbrev EvL (μ : MI) (d : Nat) (as : List Value) (w : Wd) (Q : Int64 → Wd → Prop) : Prop := Ev μ d as w (qL Q)
abbrev EvR (μ : MI) (d : Nat) (as : List Value) (w : Wd) (Q : Nat → Wd → Prop) : Prop := Ev μ d as w (qR Q)
abbrev EvV (μ : MI) (d : Nat) (as : List Value) (w : Wd) (Q : Wd → Prop) : Prop := Ev μ d as w (qV Q)
/-- a call, by the type of its answer -/
def cal (μ : MI) (d : Nat) (as : List Value) (w : Wd) (K : List Value → Wd → Prop) : Prop := match d with
  | 0 => False
  | d + 1 => match mR μ with
    | none => ∃ Q, EvV μ d as w Q ∧ ∀ w', Q w' → K [] w'
    | some .long => ∃ Q, EvL μ d as w Q ∧ ∀ r w', Q r w' → K [.long r] w'
    | some (.object _) => ∃ Q, EvR μ d as w Q ∧ ∀ r w', Q r w' → K [.ref r] w'
    | some _ => ∃ Q, EvI μ d as w Q ∧ ∀ r w', Q r w' → K [.int r] w'
def stW (st : List Value) : Bool := Nat.ble ((st.map fun v => v.category).sum) 8
/-- a switch, case by case -/
def swc (x : Int32) (dflt : Int) (pc : Nat) (K : Nat → Prop) : List (Int × Int) → Prop
  | [] => jp pc dflt K
  | q :: t => jp pc q.2 fun tg => (x = iI q.1 → K tg) ∧ (¬ x = iI q.1 → swc x dflt pc K t)
def tab (lo : Int) : List Int → List (Int × Int)
  | [] => []
  | o :: t => (lo, o) :: tab (lo + 1) t
/-- an array's place: a number -/
def plc (i : Int32) (n : Nat) (f : Nat → Prop) : Prop := ∃ j : Nat, i = nI j ∧ j < n ∧ f j
def SRt : Nat → List (Nat × Nat)
  | 10 => [(63, 0), (69, 1), (71, 2), (73, 3), (75, 4), (77, 5), (84, 6), (86, 7), (88, 8), (82, 9)]
  | _ => []
def rok (ty : FieldType) (v : Int32) (P : Prop) : Prop := match ty with
  | .int => P
  | .boolean => (v = 0 ∨ v = 1) ∧ P
  | .char => (∃ j : Nat, j < 65536 ∧ v = nI j) ∧ P
  | _ => False
def aok (ty ty2 : FieldType) (P : Prop) : Prop := match ty, ty2 with
  | .int, .int => P
  | .boolean, .boolean => P
  | .char, .char => P
  | .long, .long => P
  | _, _ => False
def stp (μ : MI) (d : Nat) (Q : Option Value → Wd → Prop) (i : Instr) (pc : Nat) (lv : List (Nat × Value)) (st : List Value) (w : Wd) (K : Nat → List (Nat × Value) → List Value → Wd → Prop) : Prop := match i with
  | .aload_n k => ldR lv k fun v => K (pc + 1) lv (.ref v :: st) w
  | .aload k => ldR lv k fun v => K (pc + 2) lv (.ref v :: st) w
  | .iload_n k => ldI lv k fun v => K (pc + 1) lv (.int v :: st) w
  | .iload k => ldI lv k fun v => K (pc + 2) lv (.int v :: st) w
  | .lload_n k => ldL lv k fun v => K (pc + 1) lv (.long v :: st) w
  | .lload k => ldL lv k fun v => K (pc + 2) lv (.long v :: st) w
  | .istore_n k => pI st fun v st => bo (Nat.blt k (mL μ)) (K (pc + 1) (lput1 lv k (.int v)) st w)
  | .istore k => pI st fun v st => bo (Nat.blt k (mL μ)) (K (pc + 2) (lput1 lv k (.int v)) st w)
  | .lstore_n k => pL st fun v st => bo (Nat.blt (k + 1) (mL μ)) (K (pc + 1) (lput2 lv k (.long v)) st w)
  | .lstore k => pL st fun v st => bo (Nat.blt (k + 1) (mL μ)) (K (pc + 2) (lput2 lv k (.long v)) st w)
  | .iinc k n => ldI lv k fun v => bo (Nat.blt k (mL μ)) (K (pc + 3) (lput1 lv k (.int (v + iI n))) st w)
  | .iconst n => K (pc + 1) lv (.int (iI n) :: st) w
  | .bipush n => bo (decide (-129 < n) && decide (n < 128)) (K (pc + 2) lv (.int (iI n) :: st) w)
  | .sipush n => bo (decide (-32769 < n) && decide (n < 32768)) (K (pc + 3) lv (.int (iI n) :: st) w)
  | .lconst n => K (pc + 1) lv (.long (lN n) :: st) w
  | .ldc x => match tget (LI (mK μ)) x with
    | some v => K (pc + 2) lv (.int v :: st) w
    | none => ot (tget (SRt (mK μ)) x) fun k => K (pc + 2) lv (.ref (200 + k) :: st) w
  | .ldc_w x => ot (tget (LI (mK μ)) x) fun v => K (pc + 3) lv (.int v :: st) w
  | .ldc2_w x => ot (tget (LL (mK μ)) x) fun v => K (pc + 3) lv (.long v :: st) w
  | .iadd => pI st fun y st => pI st fun x st => K (pc + 1) lv (.int (x + y) :: st) w
  | .isub => pI st fun y st => pI st fun x st => K (pc + 1) lv (.int (x - y) :: st) w
  | .imul => pI st fun y st => pI st fun x st => K (pc + 1) lv (.int (x * y) :: st) w
  | .idiv => pI st fun y st => pI st fun x st => ¬ y = 0 ∧ K (pc + 1) lv (.int (x / y) :: st) w
  | .irem => pI st fun y st => pI st fun x st => ¬ y = 0 ∧ K (pc + 1) lv (.int (x - x / y * y) :: st) w
  | .ineg => pI st fun x st => K (pc + 1) lv (.int (-x) :: st) w
  | .iand => pI st fun y st => pI st fun x st => K (pc + 1) lv (.int (x &&& y) :: st) w
  | .ior => pI st fun y st => pI st fun x st => K (pc + 1) lv (.int (x ||| y) :: st) w
  | .ishl => pI st fun y st => pI st fun x st => K (pc + 1) lv (.int (x <<< (y &&& 31)) :: st) w
  | .ishr => pI st fun y st => pI st fun x st => K (pc + 1) lv (.int (x >>> (y &&& 31)) :: st) w
  | .iushr => pI st fun y st => pI st fun x st => K (pc + 1) lv (.int ((x.toUInt32 >>> (y.toUInt32 &&& Int32.toUInt32 31)).toInt32) :: st) w
  | .ladd => pL st fun y st => pL st fun x st => K (pc + 1) lv (.long (x + y) :: st) w
  | .lsub => pL st fun y st => pL st fun x st => K (pc + 1) lv (.long (x - y) :: st) w
  | .lmul => pL st fun y st => pL st fun x st => K (pc + 1) lv (.long (x * y) :: st) w
  | .land => pL st fun y st => pL st fun x st => K (pc + 1) lv (.long (x &&& y) :: st) w
  | .lor => pL st fun y st => pL st fun x st => K (pc + 1) lv (.long (x ||| y) :: st) w
  | .lxor => pL st fun y st => pL st fun x st => K (pc + 1) lv (.long (x ^^^ y) :: st) w
  | .lshl => pI st fun y st => pL st fun x st => K (pc + 1) lv (.long (x <<< (y.toInt64 &&& 63)) :: st) w
  | .lshr => pI st fun y st => pL st fun x st => K (pc + 1) lv (.long (x >>> (y.toInt64 &&& 63)) :: st) w
  | .lushr => pI st fun y st => pL st fun x st => K (pc + 1) lv (.long ((x.toUInt64 >>> (y.toInt64.toUInt64 &&& Int64.toUInt64 63)).toInt64) :: st) w
  | .lcmp => pL st fun y st => pL st fun x st => K (pc + 1) lv (.int (lg_cmp x y) :: st) w
  | .i2l => pI st fun x st => K (pc + 1) lv (.long x.toInt64 :: st) w
  | .l2i => pL st fun x st => K (pc + 1) lv (.int x.toInt32 :: st) w
  | .i2c => pI st fun x st => K (pc + 1) lv (.int ((x.toUInt32 % 65536).toInt32) :: st) w
  | .dup => match st with | v :: t => bo (Nat.beq v.category 1) (K (pc + 1) lv (v :: v :: t) w) | _ => False
  | .pop => match st with | v :: t => bo (Nat.beq v.category 1) (K (pc + 1) lv t w) | _ => False
  | .dup2 => match st with | v :: u :: t => bo (Nat.beq v.category 1 && Nat.beq u.category 1) (K (pc + 1) lv (v :: u :: v :: u :: t) w) | _ => False
  | .ifCond c o => pI st fun x st => jp pc o fun t => (cT c x 0 → K t lv st w) ∧ (cF c x 0 → K (pc + 3) lv st w)
  | .if_icmp c o => pI st fun y st => pI st fun x st => jp pc o fun t => (cT c x y → K t lv st w) ∧ (cF c x y → K (pc + 3) lv st w)
  | .goto o => jp pc o fun t => K t lv st w
  | .tableswitch df lo hi os => pI st fun x st => bo (decide (lo + (os.size : Int) = hi + 1) && decide (-2147483649 < lo) && decide (hi < 2147483648)) (swc x df pc (fun t => K t lv st w) (tab lo os.toList))
  | .lookupswitch df ps => pI st fun x st => bo ((ps.toList.zip (ps.toList.drop 1)).all (fun (a, next) => a.1 < next.1) && ps.toList.all (fun q => decide (-2147483649 < q.1) && decide (q.1 < 2147483648))) (swc x df pc (fun t => K t lv st w) ps.toList)
  | .getfield x => pR st fun a st => ot (tget (FR (mK μ)) x) fun q => ot (gv w a q.1 q.2) fun v => K (pc + 3) lv (v :: st) w
  | .putfield x => pI st fun v st => pR st fun a st => ot (tget (PR (mK μ)) x) fun q => bo (gp a q.1 q.2.1) (rok (if q.2.2 = 0 then .int else .boolean) v (K (pc + 3) lv st (up1 w a q.2.1 v)))
  | .iaload => pI st fun i st => pR st fun a st => ot (ga a) fun q => aok q.1 .int (plc i q.2 fun j => K (pc + 1) lv (.int (w.1 a j) :: st) w)
  | .baload => pI st fun i st => pR st fun a st => ot (ga a) fun q => aok q.1 .boolean (plc i q.2 fun j => K (pc + 1) lv (.int (w.1 a j) :: st) w)
  | .caload => pI st fun i st => pR st fun a st => ot (ga a) fun q => aok q.1 .char (plc i q.2 fun j => K (pc + 1) lv (.int (w.1 a j) :: st) w)
  | .laload => pI st fun i st => pR st fun a st => ot (ga a) fun q => aok q.1 .long (plc i q.2 fun j => K (pc + 1) lv (.long (w.2 a j) :: st) w)
  | .iastore => pI st fun v st => pI st fun i st => pR st fun a st => ot (ga a) fun q => aok q.1 .int (plc i q.2 fun j => K (pc + 1) lv st (up1 w a j v))
  | .bastore => pI st fun v st => pI st fun i st => pR st fun a st => ot (ga a) fun q => aok q.1 .boolean (plc i q.2 fun j => rok .boolean v (K (pc + 1) lv st (up1 w a j v)))
  | .castore => pI st fun v st => pI st fun i st => pR st fun a st => ot (ga a) fun q => aok q.1 .char (plc i q.2 fun j => rok .char v (K (pc + 1) lv st (up1 w a j v)))
  | .lastore => pL st fun v st => pI st fun i st => pR st fun a st => ot (ga a) fun q => aok q.1 .long (plc i q.2 fun j => K (pc + 1) lv st (up2 w a j v))
  | .arraylength => pR st fun a st => ot (ga a) fun q => K (pc + 1) lv (.int (nI q.2) :: st) w
  | .invokevirtual x => ot (tget (MR (mK μ)) x) fun q => match q.2 with
    | 0 => ot (MT[q.1]?) fun z => ot (tkA z.2.1 st []) fun u => pR u.2 fun b st => bo (!z.2.2 && isC b (mK z.1) && stW st) (cal z.1 d (.ref b :: u.1) w fun r w' => K (pc + 3) lv (r ++ st) w')
    | 4 => ot (MT[q.1]?) fun z => ot (tkA z.2.1 st []) fun u => pR u.2 fun b st => (∃ k, k < 10 ∧ b = 200 + k) ∧ bo (!z.2.2 && Nat.beq (mK z.1) 17 && stW st) (cal z.1 d (.ref b :: u.1) w fun r w' => K (pc + 3) lv (r ++ st) w')
    | _ => False
  | .invokestatic x => ot (tget (MR (mK μ)) x) fun q => match q.2 with
    | 1 => ot (MT[q.1]?) fun z => ot (tkA z.2.1 st []) fun u => bo (z.2.2 && stW u.2) (cal z.1 d u.1 w fun r w' => K (pc + 3) lv (r ++ u.2) w')
    | 2 => ot (MT[q.1]?) fun z => ot (tkA z.2.1 st []) fun u => bo (z.2.2 && stW u.2) (cal z.1 d u.1 w fun r w' => K (pc + 3) lv (r ++ u.2) w')
    | 3 => pI st fun n st => pI st fun dp st => pR st fun b st => pI st fun sp st => pR st fun a st => ot (ga a) fun qa => ot (ga b) fun qb => aok qa.1 .int (aok qb.1 .int (bo (Nat.blt 0 d && stW st) (∃ j0 j1 m : Nat, sp = nI j0 ∧ dp = nI j1 ∧ n = nI m ∧ j0 + m ≤ qa.2 ∧ j1 + m ≤ qb.2 ∧ K (pc + 3) lv st (upA w b (va_cpy (w.1 a) (w.1 b) j0 j1 m)))))
    | 5 => pI st fun y st => pI st fun x st => bo (Nat.blt 0 d && stW st) (K (pc + 3) lv (.int (if y < x then y else x) :: st) w)
    | 6 => pI st fun y st => pI st fun x st => bo (Nat.blt 0 d && stW st) (K (pc + 3) lv (.int (if x < y then y else x) :: st) w)
    | 7 => pI st fun x st => bo (Nat.blt 0 d && stW st) (K (pc + 3) lv (.int (if 0 ≤ x then x else 0 - x) :: st) w)
    | _ => False
  | .ireturn => pIs st fun v => ot (mR μ) fun ty => rok ty v (Q (some (.int v)) w)
  | .lreturn => match st, mR μ with | [.long v], some .long => Q (some (.long v)) w | _, _ => False
  | .areturn => match st, mR μ with | [.ref v], some (.object _) => Q (some (.ref v)) w | _, _ => False
  | .return_ => match st, mR μ with | [], none => Q none w | _, _ => False
  | _ => False
