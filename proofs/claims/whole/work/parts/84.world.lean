set_option maxRecDepth 100000
/-! THE FIRST WORLD: what the cells hold behind both constructors -/
def w0 : Wd := (fun a k => bif Nat.beq a 77 then jof 101 k else bif (Nat.beq a 58 && Nat.beq k 34) then iI 1 else 0, fun a k => bif Nat.beq a 63 then lwf [940952, 2793, 6029423, 1335121806, 983428, 614923, 34200674, 1186224, 983628, 1912] k else 0)
/-- the cells' places in the order in which they are made -/
def pmL : List Nat := [1, 2, 3, 4, 5, 6, 7, 8, 9, 10, 12, 13, 14, 15, 16, 17, 18, 19, 20, 21, 22, 23, 24, 25, 11, 26, 27, 28, 29, 30, 31, 32, 33, 34, 35, 36, 37, 38, 39, 40, 41, 42, 43, 44, 45, 46, 47, 48, 49, 50, 51, 52, 53, 54, 55, 56, 57, 0, 58, 59, 60, 61, 62, 63, 64, 65, 66, 67, 68, 69, 70, 71, 72, 73, 74, 75, 76, 77, 78, 79, 80, 81, 82, 83, 84, 85, 86, 87, 88, 89, 90, 91, 92, 93, 94]
def adL (z b : Nat) (aK aV : Nat → Nat) (fz rt : Nat) : Nat → Nat := fun i =>
  bif Nat.blt i 95 then z + pmL.getD i 0 else bif Nat.blt i 210 then aK (i - 200) else bif Nat.blt i 310 then aV (i - 300) else bif Nat.beq i 400 then fz else bif Nat.beq i 500 then b else bif Nat.beq i 501 then z + 95 else rt
/-- all cells that are made before the law's loop -/
def MTc (cA : FieldType → ClassId) (z : Nat) : List va_E := ((([] ++ N_row cA z) ++ Nm cA (z + 58) (jof 101)) ++ [arrE cA .long 1])
def FLt (cA : FieldType → ClassId) (z : Nat) : List va_E := [.inr (11, [.ref (z + 1), .ref (z + 4), .ref (z + 9), .ref (z + 11), .ref (z + 26), .ref (z + 37), .ref (z + 43), .ref (z + 46), .ref (z + 52), .ref (z + 55)]), .inr (4, [.ref (z + 2), .ref (z + 3)]), arrE cA .int 101, arrE cA .int 101, .inr (7, [.ref (z + 5), .ref (z + 6), .ref (z + 7), .ref (z + 8), .int 0, .int 0, .int 0]), arrE cA .int 640, arrE cA .int 40, arrE cA .boolean 40, arrE cA .int 16, .inr (9, [.ref (z + 10), .int 0]), arrE cA .char 1200, .inr (6, [.ref (z + 9), .ref (z + 12), .ref (z + 15), .int 0]), .inr (10, [.ref (z + 13), .ref (z + 14), .int 0, .int 0]), arrE cA .int 1201, arrE cA .int 1201, .inr (1, [.int 0, .ref (z + 16), .ref (z + 17), .ref (z + 18), .ref (z + 19), .ref (z + 20), .ref (z + 21), .int 0, .ref (z + 22), .int 0, .ref (z + 23), .ref (z + 24), .ref (z + 25), .int 0]), arrE cA .int 12, arrE cA .int 12, arrE cA .int 12, arrE cA .int 12, arrE cA .int 120, arrE cA .int 120, arrE cA .int 10, arrE cA .int 6, arrE cA .int 6, arrE cA .int 6, .inr (1, [.int 0, .ref (z + 27), .ref (z + 28), .ref (z + 29), .ref (z + 30), .ref (z + 31), .ref (z + 32), .int 0, .ref (z + 33), .int 0, .ref (z + 34), .ref (z + 35), .ref (z + 36), .int 0]), arrE cA .int 12, arrE cA .int 12, arrE cA .int 12, arrE cA .int 12, arrE cA .int 120, arrE cA .int 120, arrE cA .int 10, arrE cA .int 6, arrE cA .int 6, arrE cA .int 6, .inr (2, [.ref (z + 1), .ref (z + 4), .ref (z + 26), .ref (z + 38), .ref (z + 39), .ref (z + 40), .ref (z + 41), .ref (z + 42)]), arrE cA .int 7680, arrE cA .int 480, arrE cA .boolean 40, arrE cA .boolean 40, arrE cA .int 10, .inr (8, [.ref (z + 1), .ref (z + 4), .ref (z + 26), .ref (z + 37), .ref (z + 44), .ref (z + 45), .int 0]), arrE cA .long 1010, arrE cA .long 1010, .inr (5, [.ref (z + 4), .ref (z + 26), .ref (z + 37), .ref (z + 47), .ref (z + 48), .ref (z + 49), .ref (z + 50), .ref (z + 51), .int 0]), arrE cA .int 60, arrE cA .int 60, arrE cA .int 60, arrE cA .int 60, arrE cA .boolean 60, .inr (0, [.ref (z + 53), .ref (z + 54), .int 0, .int 0, .int 0, .int 0]), arrE cA .long 12, arrE cA .long 12, .inr (3, [.ref (z + 1), .ref (z + 4), .ref (z + 46), .ref (z + 56), .ref (z + 57), .int 0, .int 0, .int 0]), arrE cA .int 16, arrE cA .int 16, .inr (12, [.int 0, .ref (z + 59), .int 0, .int 0, .ref (z + 60), .ref (z + 61), .ref (z + 62), .int 0, .int 0, .ref (z + 63), .int 0, .int 0, .ref (z + 64), .ref (z + 65), .ref (z + 66), .ref (z + 67), .ref (z + 68), .ref (z + 69), .ref (z + 70), .ref (z + 71), .ref (z + 72), .ref (z + 73), .ref (z + 74), .ref (z + 75), .int 0, .int 0, .ref (z + 76), .ref (z + 77), .int 0, .ref (z + 78), .int 0, .ref (z + 79), .ref (z + 80), .ref (z + 81), .int (iI 1), .ref (z + 82), .ref (z + 83), .ref (z + 84), .ref (z + 85), .int 0, .ref (z + 86), .ref (z + 87), .ref (z + 88), .ref (z + 89), .ref (z + 90), .ref (z + 91), .ref (z + 92), .int 0, .int 0, .int 0, .ref (z + 93), .ref (z + 94)]), arrE cA .int 1200, arrE cA .int 1202, arrE cA .int 1202, arrE cA .long 1202, .inl (cA .long, 10, .inr (.inl (lwf [940952, 2793, 6029423, 1335121806, 983428, 614923, 34200674, 1186224, 983628, 1912]))), arrE cA .int 2, arrE cA .int 24, arrE cA .int 24, arrE cA .boolean 240, arrE cA .int 240, arrE cA .int 240, arrE cA .int 240, arrE cA .int 2, arrE cA .int 20, arrE cA .int 2, arrE cA .int 36, arrE cA .boolean 20, arrE cA .int 101, .inl (cA .int, 101, .inl (jof 101)), arrE cA .int 16, arrE cA .int 40, arrE cA .int 640, arrE cA .boolean 40, arrE cA .boolean 122880, arrE cA .boolean 4913, arrE cA .boolean 4913, arrE cA .boolean 102010, arrE cA .int 60, arrE cA .int 60, arrE cA .int 60, arrE cA .int 60, arrE cA .boolean 60, arrE cA .long 12, arrE cA .long 12, arrE cA .int 16, arrE cA .int 16, arrE cA .long 1]
theorem MT_flat (cA : FieldType → ClassId) (z : Nat) : MTc cA z = FLt cA z := by
  simp only [MTc, FLt, Nm, N_lex, N_sen, N_tap, N_tok, N_bok, N_rdr, N_fin, N_tab, N_mrk, N_bst, N_les, N_row, List.nil_append, List.cons_append, List.append_assoc, Nat.add_assoc, Nat.reduceAdd]
def mapI (f : Nat → Option Nat → Value) : Nat → List (Option Nat) → List Value
  | _, [] => []
  | k, x :: t => f k x :: mapI f (k + 1) t
theorem mapI_get (f : Nat → Option Nat → Value) : ∀ (l : List (Option Nat)) (k i : Nat), (mapI f k l)[i]? = (l[i]?).map (f (k + i))
  | [], _, _ => rfl
  | x :: t, k, 0 => rfl
  | x :: t, k, i + 1 => by
    show (mapI f (k + 1) t)[i]? = (t[i]?).map (f (k + (i + 1)))
    rw [mapI_get f t (k + 1) i, show k + 1 + i = k + (i + 1) by omega]
theorem mapI_eq (f : Nat → Option Nat → Value) (l : List (Option Nat)) : l.mapIdx f = mapI f 0 l := by
  apply List.ext_getElem?
  intro i
  rw [List.getElem?_mapIdx, mapI_get, Nat.zero_add]
def cont2 (ad : Nat → Nat) (cA : FieldType → ClassId) (w : Wd) (a : Nat) (x : Shp) : va_E := match x with
  | .inl (ci, fs) => .inr (ci, mapI (fv ad w a) 0 fs)
  | .inr (.long, n) => .inl (cA .long, n, .inr (.inl (w.2 a)))
  | .inr (ty, n) => .inl (cA ty, n, .inl (w.1 a))
theorem cont2_eq (ad : Nat → Nat) (cA : FieldType → ClassId) (w : Wd) (a : Nat) (x : Shp) : cont2 ad cA w a x = cont ad cA w a x := by
  rcases x with ⟨ci, fs⟩ | ⟨ty, n⟩
  · simp only [cont2, cont, mapI_eq]
  · cases ty <;> rfl
def McP (cA : FieldType → ClassId) (z : Nat) (ad : Nat → Nat) (k : Nat) : Prop := ∃ x, shp[k]? = some x ∧ (FLt cA z)[pmL.getD k 0]? = some (cont2 ad cA w0 k x) ∧ ad k = z + pmL.getD k 0
theorem mc_0 {cA : FieldType → ClassId} {z b : Nat} {aK aV : Nat → Nat} {fz rt : Nat} : McP cA z (adL z b aK aV fz rt) 0 := ⟨_, rfl, rfl, rfl⟩
theorem mc_1 {cA : FieldType → ClassId} {z b : Nat} {aK aV : Nat → Nat} {fz rt : Nat} : McP cA z (adL z b aK aV fz rt) 1 := ⟨_, rfl, rfl, rfl⟩
theorem mc_2 {cA : FieldType → ClassId} {z b : Nat} {aK aV : Nat → Nat} {fz rt : Nat} : McP cA z (adL z b aK aV fz rt) 2 := ⟨_, rfl, rfl, rfl⟩
theorem mc_3 {cA : FieldType → ClassId} {z b : Nat} {aK aV : Nat → Nat} {fz rt : Nat} : McP cA z (adL z b aK aV fz rt) 3 := ⟨_, rfl, rfl, rfl⟩
theorem mc_4 {cA : FieldType → ClassId} {z b : Nat} {aK aV : Nat → Nat} {fz rt : Nat} : McP cA z (adL z b aK aV fz rt) 4 := ⟨_, rfl, rfl, rfl⟩
theorem mc_5 {cA : FieldType → ClassId} {z b : Nat} {aK aV : Nat → Nat} {fz rt : Nat} : McP cA z (adL z b aK aV fz rt) 5 := ⟨_, rfl, rfl, rfl⟩
theorem mc_6 {cA : FieldType → ClassId} {z b : Nat} {aK aV : Nat → Nat} {fz rt : Nat} : McP cA z (adL z b aK aV fz rt) 6 := ⟨_, rfl, rfl, rfl⟩
theorem mc_7 {cA : FieldType → ClassId} {z b : Nat} {aK aV : Nat → Nat} {fz rt : Nat} : McP cA z (adL z b aK aV fz rt) 7 := ⟨_, rfl, rfl, rfl⟩
theorem mc_8 {cA : FieldType → ClassId} {z b : Nat} {aK aV : Nat → Nat} {fz rt : Nat} : McP cA z (adL z b aK aV fz rt) 8 := ⟨_, rfl, rfl, rfl⟩
theorem mc_9 {cA : FieldType → ClassId} {z b : Nat} {aK aV : Nat → Nat} {fz rt : Nat} : McP cA z (adL z b aK aV fz rt) 9 := ⟨_, rfl, rfl, rfl⟩
theorem mc_10 {cA : FieldType → ClassId} {z b : Nat} {aK aV : Nat → Nat} {fz rt : Nat} : McP cA z (adL z b aK aV fz rt) 10 := ⟨_, rfl, rfl, rfl⟩
theorem mc_11 {cA : FieldType → ClassId} {z b : Nat} {aK aV : Nat → Nat} {fz rt : Nat} : McP cA z (adL z b aK aV fz rt) 11 := ⟨_, rfl, rfl, rfl⟩
theorem mc_12 {cA : FieldType → ClassId} {z b : Nat} {aK aV : Nat → Nat} {fz rt : Nat} : McP cA z (adL z b aK aV fz rt) 12 := ⟨_, rfl, rfl, rfl⟩
theorem mc_13 {cA : FieldType → ClassId} {z b : Nat} {aK aV : Nat → Nat} {fz rt : Nat} : McP cA z (adL z b aK aV fz rt) 13 := ⟨_, rfl, rfl, rfl⟩
theorem mc_14 {cA : FieldType → ClassId} {z b : Nat} {aK aV : Nat → Nat} {fz rt : Nat} : McP cA z (adL z b aK aV fz rt) 14 := ⟨_, rfl, rfl, rfl⟩
theorem mc_15 {cA : FieldType → ClassId} {z b : Nat} {aK aV : Nat → Nat} {fz rt : Nat} : McP cA z (adL z b aK aV fz rt) 15 := ⟨_, rfl, rfl, rfl⟩
theorem mc_16 {cA : FieldType → ClassId} {z b : Nat} {aK aV : Nat → Nat} {fz rt : Nat} : McP cA z (adL z b aK aV fz rt) 16 := ⟨_, rfl, rfl, rfl⟩
theorem mc_17 {cA : FieldType → ClassId} {z b : Nat} {aK aV : Nat → Nat} {fz rt : Nat} : McP cA z (adL z b aK aV fz rt) 17 := ⟨_, rfl, rfl, rfl⟩
theorem mc_18 {cA : FieldType → ClassId} {z b : Nat} {aK aV : Nat → Nat} {fz rt : Nat} : McP cA z (adL z b aK aV fz rt) 18 := ⟨_, rfl, rfl, rfl⟩
theorem mc_19 {cA : FieldType → ClassId} {z b : Nat} {aK aV : Nat → Nat} {fz rt : Nat} : McP cA z (adL z b aK aV fz rt) 19 := ⟨_, rfl, rfl, rfl⟩
theorem mc_20 {cA : FieldType → ClassId} {z b : Nat} {aK aV : Nat → Nat} {fz rt : Nat} : McP cA z (adL z b aK aV fz rt) 20 := ⟨_, rfl, rfl, rfl⟩
theorem mc_21 {cA : FieldType → ClassId} {z b : Nat} {aK aV : Nat → Nat} {fz rt : Nat} : McP cA z (adL z b aK aV fz rt) 21 := ⟨_, rfl, rfl, rfl⟩
theorem mc_22 {cA : FieldType → ClassId} {z b : Nat} {aK aV : Nat → Nat} {fz rt : Nat} : McP cA z (adL z b aK aV fz rt) 22 := ⟨_, rfl, rfl, rfl⟩
theorem mc_23 {cA : FieldType → ClassId} {z b : Nat} {aK aV : Nat → Nat} {fz rt : Nat} : McP cA z (adL z b aK aV fz rt) 23 := ⟨_, rfl, rfl, rfl⟩
theorem mc_24 {cA : FieldType → ClassId} {z b : Nat} {aK aV : Nat → Nat} {fz rt : Nat} : McP cA z (adL z b aK aV fz rt) 24 := ⟨_, rfl, rfl, rfl⟩
theorem mc_25 {cA : FieldType → ClassId} {z b : Nat} {aK aV : Nat → Nat} {fz rt : Nat} : McP cA z (adL z b aK aV fz rt) 25 := ⟨_, rfl, rfl, rfl⟩
theorem mc_26 {cA : FieldType → ClassId} {z b : Nat} {aK aV : Nat → Nat} {fz rt : Nat} : McP cA z (adL z b aK aV fz rt) 26 := ⟨_, rfl, rfl, rfl⟩
theorem mc_27 {cA : FieldType → ClassId} {z b : Nat} {aK aV : Nat → Nat} {fz rt : Nat} : McP cA z (adL z b aK aV fz rt) 27 := ⟨_, rfl, rfl, rfl⟩
theorem mc_28 {cA : FieldType → ClassId} {z b : Nat} {aK aV : Nat → Nat} {fz rt : Nat} : McP cA z (adL z b aK aV fz rt) 28 := ⟨_, rfl, rfl, rfl⟩
theorem mc_29 {cA : FieldType → ClassId} {z b : Nat} {aK aV : Nat → Nat} {fz rt : Nat} : McP cA z (adL z b aK aV fz rt) 29 := ⟨_, rfl, rfl, rfl⟩
theorem mc_30 {cA : FieldType → ClassId} {z b : Nat} {aK aV : Nat → Nat} {fz rt : Nat} : McP cA z (adL z b aK aV fz rt) 30 := ⟨_, rfl, rfl, rfl⟩
theorem mc_31 {cA : FieldType → ClassId} {z b : Nat} {aK aV : Nat → Nat} {fz rt : Nat} : McP cA z (adL z b aK aV fz rt) 31 := ⟨_, rfl, rfl, rfl⟩
theorem mc_32 {cA : FieldType → ClassId} {z b : Nat} {aK aV : Nat → Nat} {fz rt : Nat} : McP cA z (adL z b aK aV fz rt) 32 := ⟨_, rfl, rfl, rfl⟩
theorem mc_33 {cA : FieldType → ClassId} {z b : Nat} {aK aV : Nat → Nat} {fz rt : Nat} : McP cA z (adL z b aK aV fz rt) 33 := ⟨_, rfl, rfl, rfl⟩
theorem mc_34 {cA : FieldType → ClassId} {z b : Nat} {aK aV : Nat → Nat} {fz rt : Nat} : McP cA z (adL z b aK aV fz rt) 34 := ⟨_, rfl, rfl, rfl⟩
theorem mc_35 {cA : FieldType → ClassId} {z b : Nat} {aK aV : Nat → Nat} {fz rt : Nat} : McP cA z (adL z b aK aV fz rt) 35 := ⟨_, rfl, rfl, rfl⟩
theorem mc_36 {cA : FieldType → ClassId} {z b : Nat} {aK aV : Nat → Nat} {fz rt : Nat} : McP cA z (adL z b aK aV fz rt) 36 := ⟨_, rfl, rfl, rfl⟩
theorem mc_37 {cA : FieldType → ClassId} {z b : Nat} {aK aV : Nat → Nat} {fz rt : Nat} : McP cA z (adL z b aK aV fz rt) 37 := ⟨_, rfl, rfl, rfl⟩
theorem mc_38 {cA : FieldType → ClassId} {z b : Nat} {aK aV : Nat → Nat} {fz rt : Nat} : McP cA z (adL z b aK aV fz rt) 38 := ⟨_, rfl, rfl, rfl⟩
theorem mc_39 {cA : FieldType → ClassId} {z b : Nat} {aK aV : Nat → Nat} {fz rt : Nat} : McP cA z (adL z b aK aV fz rt) 39 := ⟨_, rfl, rfl, rfl⟩
theorem mc_40 {cA : FieldType → ClassId} {z b : Nat} {aK aV : Nat → Nat} {fz rt : Nat} : McP cA z (adL z b aK aV fz rt) 40 := ⟨_, rfl, rfl, rfl⟩
theorem mc_41 {cA : FieldType → ClassId} {z b : Nat} {aK aV : Nat → Nat} {fz rt : Nat} : McP cA z (adL z b aK aV fz rt) 41 := ⟨_, rfl, rfl, rfl⟩
theorem mc_42 {cA : FieldType → ClassId} {z b : Nat} {aK aV : Nat → Nat} {fz rt : Nat} : McP cA z (adL z b aK aV fz rt) 42 := ⟨_, rfl, rfl, rfl⟩
theorem mc_43 {cA : FieldType → ClassId} {z b : Nat} {aK aV : Nat → Nat} {fz rt : Nat} : McP cA z (adL z b aK aV fz rt) 43 := ⟨_, rfl, rfl, rfl⟩
theorem mc_44 {cA : FieldType → ClassId} {z b : Nat} {aK aV : Nat → Nat} {fz rt : Nat} : McP cA z (adL z b aK aV fz rt) 44 := ⟨_, rfl, rfl, rfl⟩
theorem mc_45 {cA : FieldType → ClassId} {z b : Nat} {aK aV : Nat → Nat} {fz rt : Nat} : McP cA z (adL z b aK aV fz rt) 45 := ⟨_, rfl, rfl, rfl⟩
theorem mc_46 {cA : FieldType → ClassId} {z b : Nat} {aK aV : Nat → Nat} {fz rt : Nat} : McP cA z (adL z b aK aV fz rt) 46 := ⟨_, rfl, rfl, rfl⟩
theorem mc_47 {cA : FieldType → ClassId} {z b : Nat} {aK aV : Nat → Nat} {fz rt : Nat} : McP cA z (adL z b aK aV fz rt) 47 := ⟨_, rfl, rfl, rfl⟩
theorem mc_48 {cA : FieldType → ClassId} {z b : Nat} {aK aV : Nat → Nat} {fz rt : Nat} : McP cA z (adL z b aK aV fz rt) 48 := ⟨_, rfl, rfl, rfl⟩
theorem mc_49 {cA : FieldType → ClassId} {z b : Nat} {aK aV : Nat → Nat} {fz rt : Nat} : McP cA z (adL z b aK aV fz rt) 49 := ⟨_, rfl, rfl, rfl⟩
theorem mc_50 {cA : FieldType → ClassId} {z b : Nat} {aK aV : Nat → Nat} {fz rt : Nat} : McP cA z (adL z b aK aV fz rt) 50 := ⟨_, rfl, rfl, rfl⟩
theorem mc_51 {cA : FieldType → ClassId} {z b : Nat} {aK aV : Nat → Nat} {fz rt : Nat} : McP cA z (adL z b aK aV fz rt) 51 := ⟨_, rfl, rfl, rfl⟩
theorem mc_52 {cA : FieldType → ClassId} {z b : Nat} {aK aV : Nat → Nat} {fz rt : Nat} : McP cA z (adL z b aK aV fz rt) 52 := ⟨_, rfl, rfl, rfl⟩
theorem mc_53 {cA : FieldType → ClassId} {z b : Nat} {aK aV : Nat → Nat} {fz rt : Nat} : McP cA z (adL z b aK aV fz rt) 53 := ⟨_, rfl, rfl, rfl⟩
theorem mc_54 {cA : FieldType → ClassId} {z b : Nat} {aK aV : Nat → Nat} {fz rt : Nat} : McP cA z (adL z b aK aV fz rt) 54 := ⟨_, rfl, rfl, rfl⟩
theorem mc_55 {cA : FieldType → ClassId} {z b : Nat} {aK aV : Nat → Nat} {fz rt : Nat} : McP cA z (adL z b aK aV fz rt) 55 := ⟨_, rfl, rfl, rfl⟩
theorem mc_56 {cA : FieldType → ClassId} {z b : Nat} {aK aV : Nat → Nat} {fz rt : Nat} : McP cA z (adL z b aK aV fz rt) 56 := ⟨_, rfl, rfl, rfl⟩
theorem mc_57 {cA : FieldType → ClassId} {z b : Nat} {aK aV : Nat → Nat} {fz rt : Nat} : McP cA z (adL z b aK aV fz rt) 57 := ⟨_, rfl, rfl, rfl⟩
theorem mc_58 {cA : FieldType → ClassId} {z b : Nat} {aK aV : Nat → Nat} {fz rt : Nat} : McP cA z (adL z b aK aV fz rt) 58 := ⟨_, rfl, rfl, rfl⟩
theorem mc_59 {cA : FieldType → ClassId} {z b : Nat} {aK aV : Nat → Nat} {fz rt : Nat} : McP cA z (adL z b aK aV fz rt) 59 := ⟨_, rfl, rfl, rfl⟩
theorem mc_60 {cA : FieldType → ClassId} {z b : Nat} {aK aV : Nat → Nat} {fz rt : Nat} : McP cA z (adL z b aK aV fz rt) 60 := ⟨_, rfl, rfl, rfl⟩
theorem mc_61 {cA : FieldType → ClassId} {z b : Nat} {aK aV : Nat → Nat} {fz rt : Nat} : McP cA z (adL z b aK aV fz rt) 61 := ⟨_, rfl, rfl, rfl⟩
theorem mc_62 {cA : FieldType → ClassId} {z b : Nat} {aK aV : Nat → Nat} {fz rt : Nat} : McP cA z (adL z b aK aV fz rt) 62 := ⟨_, rfl, rfl, rfl⟩
theorem mc_63 {cA : FieldType → ClassId} {z b : Nat} {aK aV : Nat → Nat} {fz rt : Nat} : McP cA z (adL z b aK aV fz rt) 63 := ⟨_, rfl, rfl, rfl⟩
theorem mc_64 {cA : FieldType → ClassId} {z b : Nat} {aK aV : Nat → Nat} {fz rt : Nat} : McP cA z (adL z b aK aV fz rt) 64 := ⟨_, rfl, rfl, rfl⟩
theorem mc_65 {cA : FieldType → ClassId} {z b : Nat} {aK aV : Nat → Nat} {fz rt : Nat} : McP cA z (adL z b aK aV fz rt) 65 := ⟨_, rfl, rfl, rfl⟩
theorem mc_66 {cA : FieldType → ClassId} {z b : Nat} {aK aV : Nat → Nat} {fz rt : Nat} : McP cA z (adL z b aK aV fz rt) 66 := ⟨_, rfl, rfl, rfl⟩
theorem mc_67 {cA : FieldType → ClassId} {z b : Nat} {aK aV : Nat → Nat} {fz rt : Nat} : McP cA z (adL z b aK aV fz rt) 67 := ⟨_, rfl, rfl, rfl⟩
theorem mc_68 {cA : FieldType → ClassId} {z b : Nat} {aK aV : Nat → Nat} {fz rt : Nat} : McP cA z (adL z b aK aV fz rt) 68 := ⟨_, rfl, rfl, rfl⟩
theorem mc_69 {cA : FieldType → ClassId} {z b : Nat} {aK aV : Nat → Nat} {fz rt : Nat} : McP cA z (adL z b aK aV fz rt) 69 := ⟨_, rfl, rfl, rfl⟩
theorem mc_70 {cA : FieldType → ClassId} {z b : Nat} {aK aV : Nat → Nat} {fz rt : Nat} : McP cA z (adL z b aK aV fz rt) 70 := ⟨_, rfl, rfl, rfl⟩
theorem mc_71 {cA : FieldType → ClassId} {z b : Nat} {aK aV : Nat → Nat} {fz rt : Nat} : McP cA z (adL z b aK aV fz rt) 71 := ⟨_, rfl, rfl, rfl⟩
theorem mc_72 {cA : FieldType → ClassId} {z b : Nat} {aK aV : Nat → Nat} {fz rt : Nat} : McP cA z (adL z b aK aV fz rt) 72 := ⟨_, rfl, rfl, rfl⟩
theorem mc_73 {cA : FieldType → ClassId} {z b : Nat} {aK aV : Nat → Nat} {fz rt : Nat} : McP cA z (adL z b aK aV fz rt) 73 := ⟨_, rfl, rfl, rfl⟩
theorem mc_74 {cA : FieldType → ClassId} {z b : Nat} {aK aV : Nat → Nat} {fz rt : Nat} : McP cA z (adL z b aK aV fz rt) 74 := ⟨_, rfl, rfl, rfl⟩
theorem mc_75 {cA : FieldType → ClassId} {z b : Nat} {aK aV : Nat → Nat} {fz rt : Nat} : McP cA z (adL z b aK aV fz rt) 75 := ⟨_, rfl, rfl, rfl⟩
theorem mc_76 {cA : FieldType → ClassId} {z b : Nat} {aK aV : Nat → Nat} {fz rt : Nat} : McP cA z (adL z b aK aV fz rt) 76 := ⟨_, rfl, rfl, rfl⟩
theorem mc_77 {cA : FieldType → ClassId} {z b : Nat} {aK aV : Nat → Nat} {fz rt : Nat} : McP cA z (adL z b aK aV fz rt) 77 := ⟨_, rfl, rfl, rfl⟩
theorem mc_78 {cA : FieldType → ClassId} {z b : Nat} {aK aV : Nat → Nat} {fz rt : Nat} : McP cA z (adL z b aK aV fz rt) 78 := ⟨_, rfl, rfl, rfl⟩
theorem mc_79 {cA : FieldType → ClassId} {z b : Nat} {aK aV : Nat → Nat} {fz rt : Nat} : McP cA z (adL z b aK aV fz rt) 79 := ⟨_, rfl, rfl, rfl⟩
theorem mc_80 {cA : FieldType → ClassId} {z b : Nat} {aK aV : Nat → Nat} {fz rt : Nat} : McP cA z (adL z b aK aV fz rt) 80 := ⟨_, rfl, rfl, rfl⟩
theorem mc_81 {cA : FieldType → ClassId} {z b : Nat} {aK aV : Nat → Nat} {fz rt : Nat} : McP cA z (adL z b aK aV fz rt) 81 := ⟨_, rfl, rfl, rfl⟩
theorem mc_82 {cA : FieldType → ClassId} {z b : Nat} {aK aV : Nat → Nat} {fz rt : Nat} : McP cA z (adL z b aK aV fz rt) 82 := ⟨_, rfl, rfl, rfl⟩
theorem mc_83 {cA : FieldType → ClassId} {z b : Nat} {aK aV : Nat → Nat} {fz rt : Nat} : McP cA z (adL z b aK aV fz rt) 83 := ⟨_, rfl, rfl, rfl⟩
theorem mc_84 {cA : FieldType → ClassId} {z b : Nat} {aK aV : Nat → Nat} {fz rt : Nat} : McP cA z (adL z b aK aV fz rt) 84 := ⟨_, rfl, rfl, rfl⟩
theorem mc_85 {cA : FieldType → ClassId} {z b : Nat} {aK aV : Nat → Nat} {fz rt : Nat} : McP cA z (adL z b aK aV fz rt) 85 := ⟨_, rfl, rfl, rfl⟩
theorem mc_86 {cA : FieldType → ClassId} {z b : Nat} {aK aV : Nat → Nat} {fz rt : Nat} : McP cA z (adL z b aK aV fz rt) 86 := ⟨_, rfl, rfl, rfl⟩
theorem mc_87 {cA : FieldType → ClassId} {z b : Nat} {aK aV : Nat → Nat} {fz rt : Nat} : McP cA z (adL z b aK aV fz rt) 87 := ⟨_, rfl, rfl, rfl⟩
theorem mc_88 {cA : FieldType → ClassId} {z b : Nat} {aK aV : Nat → Nat} {fz rt : Nat} : McP cA z (adL z b aK aV fz rt) 88 := ⟨_, rfl, rfl, rfl⟩
theorem mc_89 {cA : FieldType → ClassId} {z b : Nat} {aK aV : Nat → Nat} {fz rt : Nat} : McP cA z (adL z b aK aV fz rt) 89 := ⟨_, rfl, rfl, rfl⟩
theorem mc_90 {cA : FieldType → ClassId} {z b : Nat} {aK aV : Nat → Nat} {fz rt : Nat} : McP cA z (adL z b aK aV fz rt) 90 := ⟨_, rfl, rfl, rfl⟩
theorem mc_91 {cA : FieldType → ClassId} {z b : Nat} {aK aV : Nat → Nat} {fz rt : Nat} : McP cA z (adL z b aK aV fz rt) 91 := ⟨_, rfl, rfl, rfl⟩
theorem mc_92 {cA : FieldType → ClassId} {z b : Nat} {aK aV : Nat → Nat} {fz rt : Nat} : McP cA z (adL z b aK aV fz rt) 92 := ⟨_, rfl, rfl, rfl⟩
theorem mc_93 {cA : FieldType → ClassId} {z b : Nat} {aK aV : Nat → Nat} {fz rt : Nat} : McP cA z (adL z b aK aV fz rt) 93 := ⟨_, rfl, rfl, rfl⟩
theorem mc_94 {cA : FieldType → ClassId} {z b : Nat} {aK aV : Nat → Nat} {fz rt : Nat} : McP cA z (adL z b aK aV fz rt) 94 := ⟨_, rfl, rfl, rfl⟩
def allN (P : Nat → Prop) : Nat → Prop
  | 0 => True
  | n + 1 => allN P n ∧ P n
theorem allN_at {P : Nat → Prop} : ∀ (n : Nat), allN P n → ∀ k, k < n → P k
  | 0, _, k, h => absurd h (Nat.not_lt_zero k)
  | n + 1, h, k, hk => by
    by_cases e : k = n
    · subst e; exact h.2
    · exact allN_at n h.1 k (by omega)
theorem mc_all (cA : FieldType → ClassId) (z b : Nat) (aK aV : Nat → Nat) (fz rt : Nat) : ∀ k, k < 95 → McP cA z (adL z b aK aV fz rt) k := allN_at (P := McP cA z (adL z b aK aV fz rt)) 95 ⟨⟨⟨⟨⟨⟨⟨⟨⟨⟨⟨⟨⟨⟨⟨⟨⟨⟨⟨⟨⟨⟨⟨⟨⟨⟨⟨⟨⟨⟨⟨⟨⟨⟨⟨⟨⟨⟨⟨⟨⟨⟨⟨⟨⟨⟨⟨⟨⟨⟨⟨⟨⟨⟨⟨⟨⟨⟨⟨⟨⟨⟨⟨⟨⟨⟨⟨⟨⟨⟨⟨⟨⟨⟨⟨⟨⟨⟨⟨⟨⟨⟨⟨⟨⟨⟨⟨⟨⟨⟨⟨⟨⟨⟨⟨trivial, mc_0⟩, mc_1⟩, mc_2⟩, mc_3⟩, mc_4⟩, mc_5⟩, mc_6⟩, mc_7⟩, mc_8⟩, mc_9⟩, mc_10⟩, mc_11⟩, mc_12⟩, mc_13⟩, mc_14⟩, mc_15⟩, mc_16⟩, mc_17⟩, mc_18⟩, mc_19⟩, mc_20⟩, mc_21⟩, mc_22⟩, mc_23⟩, mc_24⟩, mc_25⟩, mc_26⟩, mc_27⟩, mc_28⟩, mc_29⟩, mc_30⟩, mc_31⟩, mc_32⟩, mc_33⟩, mc_34⟩, mc_35⟩, mc_36⟩, mc_37⟩, mc_38⟩, mc_39⟩, mc_40⟩, mc_41⟩, mc_42⟩, mc_43⟩, mc_44⟩, mc_45⟩, mc_46⟩, mc_47⟩, mc_48⟩, mc_49⟩, mc_50⟩, mc_51⟩, mc_52⟩, mc_53⟩, mc_54⟩, mc_55⟩, mc_56⟩, mc_57⟩, mc_58⟩, mc_59⟩, mc_60⟩, mc_61⟩, mc_62⟩, mc_63⟩, mc_64⟩, mc_65⟩, mc_66⟩, mc_67⟩, mc_68⟩, mc_69⟩, mc_70⟩, mc_71⟩, mc_72⟩, mc_73⟩, mc_74⟩, mc_75⟩, mc_76⟩, mc_77⟩, mc_78⟩, mc_79⟩, mc_80⟩, mc_81⟩, mc_82⟩, mc_83⟩, mc_84⟩, mc_85⟩, mc_86⟩, mc_87⟩, mc_88⟩, mc_89⟩, mc_90⟩, mc_91⟩, mc_92⟩, mc_93⟩, mc_94⟩
theorem w0_P {G : va_G} {cA : FieldType → ClassId} {z b : Nat} {aK aV : Nat → Nat} {fz rt : Nat} {H : Heap} (h : va_P G vwCl (num z (MTc cA z)) H) : va_P G vwCl (wsl (adL z b aK aV fz rt) cA w0) H := by
  refine h.by (fun k => pmL.getD k 0) (fun k q hk => ?_)
  obtain ⟨h1, -⟩ := wsl_lt hk
  obtain ⟨x, a1, a2, a3⟩ := mc_all cA z b aK aV fz rt k h1
  rw [wsl_at a1] at hk
  cases hk
  rw [MT_flat, num_get, a2, a3, cont2_eq]
  rfl
theorem w0_out {G : va_G} {cA : FieldType → ClassId} {z : Nat} {H : Heap} (h : va_P G vwCl (num z (MTc cA z)) H) : va_P G vwCl [(z + 95, outE cA fun _ => 0)] H := by
  refine h.by (fun _ => 95) (fun k q hk => ?_)
  cases k with
  | zero =>
    cases hk
    rw [MT_flat, num_get]
    rfl
  | succ k => cases hk
theorem pm_inj : ∀ i, i < 95 → ∀ j, j < 95 → pmL.getD i 0 = pmL.getD j 0 → i = j := by decide +kernel
theorem pm_lt : ∀ i, i < 95 → pmL.getD i 0 < 95 := by decide +kernel
theorem adL_lt {z b : Nat} {aK aV : Nat → Nat} {fz rt i : Nat} (h : i < 95) : adL z b aK aV fz rt i = z + pmL.getD i 0 := by
  unfold adL
  have : Nat.blt i 95 = true := by
    simpa [Nat.blt_eq] using h
  rw [this]
  rfl
theorem adL_inj (z b : Nat) (aK aV : Nat → Nat) (fz rt : Nat) : Inj (adL z b aK aV fz rt) := by
  intro i j hi hj e
  rw [adL_lt hi, adL_lt hj] at e
  exact pm_inj i hi j hj (by omega)
theorem beq_no {x y : Nat} (h : x ≠ y) : Nat.beq x y = false := by
  cases e : Nat.beq x y with
  | false => rfl
  | true => exact absurd (Nat.eq_of_beq_eq_true e) h
theorem w0_1 (a k : Nat) (h1 : a ≠ 77) (h2 : a ≠ 58) : w0.1 a k = 0 := by
  show (bif Nat.beq a 77 then jof 101 k else bif (Nat.beq a 58 && Nat.beq k 34) then iI 1 else 0) = 0
  rw [beq_no h1, beq_no h2]
  rfl
theorem z0 : Int32.toNatClampNeg 0 = 0 := by decide
theorem N0 (a k : Nat) (h1 : a ≠ 77) (h2 : a ≠ 58) : N w0 a k = 0 := by
  unfold N
  rw [w0_1 a k h1 h2]
  exact z0
theorem w0_lex : LexI w0 := by
  refine ⟨fun k h1 h2 => ⟨⟨0, by decide, w0_1 1 k (by decide) (by decide), w0_1 76 k (by decide) (by decide)⟩, k, h1, h2, ?_, ?_⟩, fun _ => 0, fun k h1 h2 h3 => ?_⟩
  · show jof 101 k = nI k
    unfold jof
    rw [if_pos (by omega)]
  · rw [w0_1 2 k (by decide) (by decide), if_pos rfl]
    rfl
  · refine absurd ?_ h3
    show (jof 101 k).toNatClampNeg = k
    unfold jof
    rw [if_pos (by omega)]
    exact nI_clamp (by omega)
theorem w0_sen : SenI w0 := by
  have e1 : td w0 = 0 := z0
  have e2 : cm w0 = 0 := z0
  refine ⟨⟨by omega, by rw [e1]; rfl, by rw [e1]; rfl⟩, fun p h => by omega, ⟨by omega, by rw [e2]; rfl, by rw [e2]; rfl⟩, fun s h => by omega, fun s h => by omega, fun s h => by omega, fun s _ => w0_1 81 s (by decide) (by decide), by rw [e2]; rfl⟩
theorem w0_bk : BkI w0 := by
  have e1 : hl w0 = 0 := z0
  have e2 : nr w0 = 0 := N0 64 _ (by decide) (by decide)
  have e3 : nbr w0 = 0 := N0 71 _ (by decide) (by decide)
  have e4 : nch w0 = 0 := N0 73 _ (by decide) (by decide)
  refine ⟨⟨by omega, by rw [e1]; rfl⟩, ⟨by omega, by rw [e2]; exact w0_1 64 _ (by decide) (by decide), by rw [e2]; rfl⟩, fun r h => by omega, ⟨by omega, by rw [e3]; exact w0_1 71 _ (by decide) (by decide), by rw [e3]; rfl⟩, fun b h => by omega, ⟨by omega, by rw [e4]; exact w0_1 73 _ (by decide) (by decide), by rw [e4]; rfl⟩, fun c h => by omega, 0, by decide, rfl, fun r _ => Or.inr ⟨w0_1 75 _ (by decide) (by decide), Nat.zero_testBit r⟩⟩
theorem w0_Rw {r a b : Nat} (h : Rw w0 r a b) : False := by
  have ec : cm w0 = 0 := z0
  unfold Rw at h
  refine h (fun _ _ _ => False) (fun r a b g => ?_) (fun c hc a b e h1 h2 => h1)
  obtain ⟨s, k, l, t, f, -⟩ := g
  have := f.1
  omega
theorem w0_Inv : Inv w0 := by
  have ec : cm w0 = 0 := z0
  refine ⟨⟨w0_lex, w0_sen, w0_bk⟩, ?_, ?_, ?_, ?_, ?_, ?_, ?_⟩
  · have e : tp w0 = 0 := z0
    exact ⟨⟨by omega, by rw [e]; rfl, by rw [e]; rfl⟩, fun k h => by omega⟩
  · refine ⟨fun s _ k _ => ⟨fun l _ => ?_, ?_⟩, fun s _ => Or.inl (w0_1 40 s (by decide) (by decide)), fun s h => by omega⟩
    · have e : rb w0 s k l = 0 := N0 37 _ (by decide) (by decide)
      exact ⟨by omega, by rw [e]; exact w0_1 37 _ (by decide) (by decide)⟩
    · rw [w0_1 38 _ (by decide) (by decide)]
      have e : cnt w0 s k = 0 := by
        show sumN (fun l => pcn 16 (N w0 37 ((s * 12 + k) * 16 + l))) 16 = 0
        rw [sumN_cong (g := fun _ => pcn 16 0) (fun l _ => by rw [N0 37 _ (by decide) (by decide)])]
        decide
      rw [e]
      rfl
  · refine ⟨Or.inl rfl, fun _ r _ a _ _ => ⟨0, 0, by decide, by decide, rfl, rfl, fun b => ?_, fun b => ?_⟩⟩
    · rw [Nat.zero_testBit]
      refine ⟨fun h => absurd h Bool.false_ne_true, fun h => ?_⟩
      exact (w0_Rw h.2).elim
    · rw [Nat.zero_testBit]
      refine ⟨fun h => absurd h Bool.false_ne_true, fun h => ?_⟩
      exact (w0_Rw h).elim
  · exact RefI.old rfl
  · have e : mk w0 = 0 := z0
    exact ⟨⟨by omega, by rw [e]; rfl, by rw [e]; rfl⟩, fun k h => by omega⟩
  · have e : sp w0 = 0 := z0
    exact ⟨⟨by omega, by rw [e]; rfl, by rw [e]; rfl⟩, fun h => by omega⟩
  · intro k hk
    have h : ∀ k, k < 10 → lwf [940952, 2793, 6029423, 1335121806, 983428, 614923, 34200674, 1186224, 983628, 1912] k = lN (wcs.getD k 0) := by decide
    exact h k hk
