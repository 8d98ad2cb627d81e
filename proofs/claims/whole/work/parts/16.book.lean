/-! THE BOOK, as the reference holds it; and the class's -/
theorem sh_ok : ∀ k, k < 32 → ((nI k &&& 31).toBitVec.smod 32).toNat = k := by decide
theorem shr_nI {n k : Nat} (hn : n < 2147483648) (hk : k < 32) : nI n >>> (nI k &&& 31) = nI (n / 2 ^ k) := pk_shrN hn _ k (sh_ok k hk)
theorem shl_nI {n k : Nat} (hk : k < 32) (h : n * 2 ^ k < 4294967296) : nI n <<< (nI k &&& 31) = nI (n * 2 ^ k) := pk_shlN _ k (sh_ok k hk) h
theorem and1_nI {n : Nat} (hn : n < 4294967296) : nI n &&& nI 1 = nI (n % 2) := pk_andN hn 1 (by decide)
theorem tb_iff (n k : Nat) : n.testBit k = true ↔ n / 2 ^ k % 2 = 1 := by
  rw [Nat.testBit_eq_decide_div_mod_eq, decide_eq_true_eq]
theorem bit_nI {n k : Nat} (hn : n < 2147483648) (hk : k < 32) : ((nI n >>> (nI k &&& 31)) &&& nI 1) = 0 ↔ ¬ n.testBit k = true := by
  have h1 : n / 2 ^ k < 2147483648 := Nat.lt_of_le_of_lt (Nat.div_le_self _ _) hn
  rw [shr_nI hn hk, and1_nI (by omega), tb_iff, ← nI_0, nI_eq (by omega) (by decide)]
  omega
theorem or_nI (a b : Nat) : nI a ||| nI b = nI (a ||| b) := Int32.toBitVec_inj.mp (by simp [nI])
theorem and_nI (a b : Nat) : nI a &&& nI b = nI (a &&& b) := Int32.toBitVec_inj.mp (by simp [nI])
theorem or_lt {a b k : Nat} (ha : a < 2 ^ k) (hb : b < 2 ^ k) : a ||| b < 2 ^ k := Nat.or_lt_two_pow ha hb
theorem and_lt {a b k : Nat} (ha : a < 2 ^ k) : a &&& b < 2 ^ k := Nat.lt_of_le_of_lt Nat.and_le_left ha
abbrev hl (w : Wd) : Nat := N w 58 10
abbrev nr (w : Wd) : Nat := N w 64 (hl w)
abbrev rl (w : Wd) (r : Nat) : Nat := N w 65 (12 * hl w + r)
abbrev ni (w : Wd) (r : Nat) : Nat := N w 66 (12 * hl w + r)
abbrev ix (w : Wd) (r i : Nat) : Nat := 10 * (12 * hl w + r) + i
abbrev nbr (w : Wd) : Nat := N w 71 (hl w)
abbrev nch (w : Wd) : Nat := N w 73 (hl w)
abbrev chn (w : Wd) (c j : Nat) : Nat := N w 74 (3 * (6 * hl w + c) + j)
/-- one item, on both sides; a, b: the places of left and right -/
def ItI (w : Wd) (r a b i : Nat) : Prop :=
  (w.1 67 (ix w r i) = 1 ∧ w.1 30 (10 * r + i) = nI 3 ∧ w.1 68 (ix w r i) = nI 0 ∧ i ≠ a ∧ i ≠ b) ∨
  (w.1 67 (ix w r i) = 0 ∧ w.1 30 (10 * r + i) = w.1 69 (ix w r i) ∧ w.1 31 (10 * r + i) = w.1 70 (ix w r i) ∧ (w.1 69 (ix w r i) = nI 0 ∨ w.1 69 (ix w r i) = nI 1 ∨ w.1 69 (ix w r i) = nI 2) ∧ w.1 68 (ix w r i) = nI (if i = a then 1 else if i = b then 2 else 0))
def RuI (w : Wd) (r : Nat) : Prop :=
  (rl w r < 10 ∧ w.1 65 (12 * hl w + r) = nI (rl w r) ∧ w.1 26 r = nI (rl w r)) ∧ (ni w r ≤ 10 ∧ w.1 66 (12 * hl w + r) = nI (ni w r) ∧ w.1 27 r = nI (ni w r)) ∧
  ∃ a b, a < ni w r ∧ b < ni w r ∧ a ≠ b ∧ w.1 28 r = nI a ∧ w.1 29 r = nI b ∧ ∀ i, i < ni w r → ItI w r a b i
def BkI (w : Wd) : Prop :=
  (hl w < 2 ∧ w.1 58 10 = nI (hl w)) ∧ (nr w ≤ 12 ∧ w.1 64 (hl w) = nI (nr w) ∧ w.1 25 0 = nI (nr w)) ∧ (∀ r, r < nr w → RuI w r) ∧
  (nbr w ≤ 10 ∧ w.1 71 (hl w) = nI (nbr w) ∧ w.1 25 7 = nI (nbr w)) ∧ (∀ b, b < nbr w → w.1 32 b = w.1 72 (10 * hl w + b)) ∧
  (nch w ≤ 6 ∧ w.1 73 (hl w) = nI (nch w) ∧ w.1 25 9 = nI (nch w)) ∧ (∀ c, c < nch w → ∀ j, j < 3 → chn w c j < 10 ∧ w.1 74 (3 * (6 * hl w + c) + j) = nI (chn w c j) ∧ w.1 (33 + j) c = nI (chn w c j)) ∧
  ∃ sg, sg < 1024 ∧ w.1 25 13 = nI sg ∧ ∀ r, r < 10 → (w.1 75 (10 * hl w + r) = 1 ∧ sg.testBit r = true) ∨ (w.1 75 (10 * hl w + r) = 0 ∧ sg.testBit r = false)
theorem BkI.mv {w w' : Wd} (h : BkI w) (e0 : w'.1 58 10 = w.1 58 10) (e1 : w'.1 25 0 = w.1 25 0) (e1' : w'.1 25 7 = w.1 25 7) (e1'' : w'.1 25 9 = w.1 25 9) (e1''' : w'.1 25 13 = w.1 25 13) (e : ∀ a, (26 ≤ a ∧ a ≤ 35) ∨ (64 ≤ a ∧ a ≤ 75) → w'.1 a = w.1 a) : BkI w' := by
  have c26 := e 26 (by omega)
  have c27 := e 27 (by omega)
  have c28 := e 28 (by omega)
  have c29 := e 29 (by omega)
  have c30 := e 30 (by omega)
  have c31 := e 31 (by omega)
  have c32 := e 32 (by omega)
  have c33 : ∀ j, j < 3 → w'.1 (33 + j) = w.1 (33 + j) := fun j hj => e (33 + j) (by omega)
  have c64 := e 64 (by omega)
  have c65 := e 65 (by omega)
  have c66 := e 66 (by omega)
  have c67 := e 67 (by omega)
  have c68 := e 68 (by omega)
  have c69 := e 69 (by omega)
  have c70 := e 70 (by omega)
  have c71 := e 71 (by omega)
  have c72 := e 72 (by omega)
  have c73 := e 73 (by omega)
  have c74 := e 74 (by omega)
  have c75 := e 75 (by omega)
  unfold BkI RuI ItI ix rl ni nbr nch chn nr hl N at *
  rw [e0, e1, e1', e1'', e1''', c26, c27, c28, c29, c30, c31, c32, c64, c65, c66, c67, c68, c69, c70, c71, c72, c73, c74, c75]
  obtain ⟨q1, q2, q3, q4, q5, q6, q7, q8⟩ := h
  exact ⟨q1, q2, q3, q4, q5, q6, fun c hc j hj => by rw [c33 j hj]; exact q7 c hc j hj, q8⟩
/-- x is a number of a relation -/
def isRl (x : Int32) : Prop := 0 ≤ x.toInt ∧ x.toInt < 10
theorem isRl_of {x : Int32} (h : isRl x) : ∃ r, r < 10 ∧ x = nI r := by
  obtain ⟨k, -, e, hk⟩ := i_nat h.1
  exact ⟨k, by have := h.2; omega, e⟩
theorem isRl_nI {r : Nat} (h : r < 10) : isRl (nI r) := by
  unfold isRl
  rw [nI_toInt (by omega)]
  omega
theorem c_isRelation {d : Nat} {w : Wd} (x : Int32) : EvI m_D_isRelation d [.int x] w (fun r w' => w' = w ∧ Bo (isRl x) r) := by
  refine ev_D_isRelation x (vc_D_isRelation_0 x ⟨fun g => ⟨Or.inl rfl, rfl, Bo.f (fun e => ?_)⟩, fun g => ⟨fun g2 => ⟨Or.inl rfl, rfl, Bo.f (fun e => ?_)⟩, fun g2 => ⟨Or.inr rfl, rfl, Bo.t ⟨nlt0 g, ?_⟩⟩⟩⟩)
  · have := lt0 g; have := e.1; omega
  · rw [le_nI (by decide)] at g2; have := e.2; omega
  · rw [le_nI (by decide)] at g2; omega
theorem c_M_isR {d : Nat} {w : Wd} (x : Int32) : EvI m_M_isR d [.int x] w (fun r w' => w' = w ∧ Bo (isRl x) r) := by
  refine ev_M_isR x (vc_M_isR_0 x ⟨fun g => ⟨Or.inl rfl, rfl, Bo.f (fun e => ?_)⟩, fun g => ⟨fun g2 => ⟨Or.inl rfl, rfl, Bo.f (fun e => ?_)⟩, fun g2 => ⟨Or.inr rfl, rfl, Bo.t ⟨nlt0 g, ?_⟩⟩⟩⟩)
  · have := lt0 g; have := e.1; omega
  · rw [nI_lt' (by decide)] at g2; have := e.2; omega
  · rw [nI_lt' (by decide)] at g2; omega
theorem c_Book_rules {d : Nat} {w : Wd} (h : BkI w) : EvI m_Book_rules d [.ref 25] w (fun r w' => w' = w ∧ r = nI (nr w)) := ev_Book_rules (vc_Book_rules_0 ⟨rfl, h.2.1.2.2⟩)
theorem c_Book_bars {d : Nat} {w : Wd} (h : BkI w) : EvI m_Book_bars d [.ref 25] w (fun r w' => w' = w ∧ r = nI (nbr w)) := ev_Book_bars (vc_Book_bars_0 ⟨rfl, h.2.2.2.1.2.2⟩)
theorem c_Book_chains {d : Nat} {w : Wd} (h : BkI w) : EvI m_Book_chains d [.ref 25] w (fun r w' => w' = w ∧ r = nI (nch w)) := ev_Book_chains (vc_Book_chains_0 ⟨rfl, h.2.2.2.2.2.1.2.2⟩)
/-- x is the number of a rule -/
def isRu (w : Wd) (x : Int32) : Prop := 0 ≤ x.toInt ∧ x.toInt < nr w
theorem isRu_of {w : Wd} {x : Int32} (h : isRu w x) : ∃ r, r < nr w ∧ x = nI r := by
  obtain ⟨k, -, e, hk⟩ := i_nat h.1
  exact ⟨k, by have := h.2; omega, e⟩
theorem isRu_nI {w : Wd} (hB : BkI w) {r : Nat} (h : r < nr w) : isRu w (nI r) := by
  have := hB.2.1.1
  unfold isRu
  rw [nI_toInt (by omega)]
  omega
theorem c_Book_hasRule {d : Nat} {w : Wd} (h : BkI w) (x : Int32) : EvI m_Book_hasRule d [.ref 25, .int x] w (fun r w' => w' = w ∧ Bo (isRu w x) r) := by
  have hn := h.2.1.1
  refine ev_Book_hasRule x (vc_Book_hasRule_0 x ?_)
  rw [h.2.1.2.2]
  refine ⟨fun g => ⟨Or.inl rfl, rfl, Bo.f (fun e => ?_)⟩, fun g => ⟨fun g2 => ⟨Or.inl rfl, rfl, Bo.f (fun e => ?_)⟩, fun g2 => ⟨Or.inr rfl, rfl, Bo.t ⟨nlt0 g, ?_⟩⟩⟩⟩
  · have := lt0 g; have := e.1; omega
  · rw [le_nI] at g2; have := e.2; omega
  · rw [le_nI] at g2; omega
theorem c_Book_relationOf {d : Nat} {w : Wd} (h : BkI w) {r : Nat} (hr : r < nr w) : EvI m_Book_relationOf (d + 1) [.ref 25, .int (nI r)] w (fun x w' => w' = w ∧ x = nI (rl w r)) := by
  have hn := h.2.1.1
  refine ev_Book_relationOf _ (vc_Book_relationOf_0 _ ⟨_, c_Book_hasRule h _, ?_⟩)
  rintro x w1 ⟨rfl, hx⟩
  exact ⟨fun g => absurd (isRu_nI h hr) (hx.z g), fun _ => ⟨r, rfl, by omega, rfl, (h.2.2.1 r hr).1.2.2⟩⟩
theorem c_Book_itemsOf {d : Nat} {w : Wd} (h : BkI w) {r : Nat} (hr : r < nr w) : EvI m_Book_itemsOf (d + 1) [.ref 25, .int (nI r)] w (fun x w' => w' = w ∧ x = nI (ni w r)) := by
  have hn := h.2.1.1
  refine ev_Book_itemsOf _ (vc_Book_itemsOf_0 _ ⟨_, c_Book_hasRule h _, ?_⟩)
  rintro x w1 ⟨rfl, hx⟩
  exact ⟨fun g => absurd (isRu_nI h hr) (hx.z g), fun _ => ⟨r, rfl, by omega, rfl, (h.2.2.1 r hr).2.1.2.2⟩⟩
theorem c_Book_leftItem {d : Nat} {w : Wd} (h : BkI w) {r : Nat} (hr : r < nr w) : EvI m_Book_leftItem (d + 1) [.ref 25, .int (nI r)] w (fun x w' => w' = w ∧ x = w.1 28 r) := by
  have hn := h.2.1.1
  refine ev_Book_leftItem _ (vc_Book_leftItem_0 _ ⟨_, c_Book_hasRule h _, ?_⟩)
  rintro x w1 ⟨rfl, hx⟩
  exact ⟨fun g => absurd (isRu_nI h hr) (hx.z g), fun _ => ⟨r, rfl, by omega, rfl, rfl⟩⟩
theorem c_Book_rightItem {d : Nat} {w : Wd} (h : BkI w) {r : Nat} (hr : r < nr w) : EvI m_Book_rightItem (d + 1) [.ref 25, .int (nI r)] w (fun x w' => w' = w ∧ x = w.1 29 r) := by
  have hn := h.2.1.1
  refine ev_Book_rightItem _ (vc_Book_rightItem_0 _ ⟨_, c_Book_hasRule h _, ?_⟩)
  rintro x w1 ⟨rfl, hx⟩
  exact ⟨fun g => absurd (isRu_nI h hr) (hx.z g), fun _ => ⟨r, rfl, by omega, rfl, rfl⟩⟩
theorem c_Book_hasItem {d : Nat} {w : Wd} (h : BkI w) {r i : Nat} (hr : r < nr w) (hi : i < ni w r) : EvI m_Book_hasItem d [.ref 25, .int (nI r), .int (nI i)] w (fun x w' => w' = w ∧ x = 1) := by
  have hn := h.2.1.1
  obtain ⟨-, ⟨n1, n2, n3⟩, -⟩ := h.2.2.1 r hr
  refine ev_Book_hasItem _ _ (vc_Book_hasItem_0 _ _ ?_)
  rw [h.2.1.2.2]
  refine ⟨fun g => absurd (lt0 g) (by rw [nI_toInt (by omega)]; omega), fun g => ⟨fun g2 => ?_, fun g2 => ⟨fun g3 => absurd (lt0 g3) (by rw [nI_toInt (by omega)]; omega), fun g3 => ⟨r, rfl, by omega, fun g4 => ?_, fun g4 => ⟨Or.inr rfl, rfl, rfl⟩⟩⟩⟩⟩
  · rw [nI_leI (by omega) (by omega)] at g2; omega
  · rw [n3, nI_leI (by omega) (by omega)] at g4; omega
theorem c_Book_kindOf {d : Nat} {w : Wd} (h : BkI w) {r i : Nat} (hr : r < nr w) (hi : i < ni w r) : EvI m_Book_kindOf (d + 1) [.ref 25, .int (nI r), .int (nI i)] w (fun x w' => w' = w ∧ x = w.1 30 (10 * r + i)) := by
  have hn := h.2.1.1
  obtain ⟨-, ⟨n1, n2, n3⟩, -⟩ := h.2.2.1 r hr
  refine ev_Book_kindOf _ _ (vc_Book_kindOf_0 _ _ ⟨_, c_Book_hasItem h hr hi, ?_⟩)
  rintro x w1 ⟨rfl, rfl⟩
  exact ⟨fun g => absurd g (by decide), fun _ => ⟨10 * r + i, by rw [pk_mul, nI_add, Nat.mul_comm], by omega, rfl, rfl⟩⟩
theorem c_Book_numberOf {d : Nat} {w : Wd} (h : BkI w) {r i : Nat} (hr : r < nr w) (hi : i < ni w r) : EvI m_Book_numberOf (d + 1) [.ref 25, .int (nI r), .int (nI i)] w (fun x w' => w' = w ∧ x = w.1 31 (10 * r + i)) := by
  have hn := h.2.1.1
  obtain ⟨-, ⟨n1, n2, n3⟩, -⟩ := h.2.2.1 r hr
  refine ev_Book_numberOf _ _ (vc_Book_numberOf_0 _ _ ⟨_, c_Book_hasItem h hr hi, ?_⟩)
  rintro x w1 ⟨rfl, rfl⟩
  exact ⟨fun g => absurd g (by decide), fun _ => ⟨10 * r + i, by rw [pk_mul, nI_add, Nat.mul_comm], by omega, rfl, rfl⟩⟩
/-- a bar names x -/
def brd (w : Wd) (x : Int32) : Prop := ∃ b, b < nbr w ∧ w.1 72 (10 * hl w + b) = x
theorem z_Book_isBarred {d : Nat} {w : Wd} {Q : Int32 → Wd → Prop} {x : Int32} (h : BkI w) (hy : brd w x → Q 1 w) (hn : ¬ brd w x → Q 0 w) : ∀ (n b : Nat), b + n = nbr w → (∀ b', b' < b → ¬ w.1 72 (10 * hl w + b') = x) → Z m_Book_isBarred d (qI Q) 2 [(0, .ref 25), (1, .int x), (2, .int (nI b))] [] w := by
  have hb := h.2.2.2.1.1
  intro n
  induction n with
  | zero =>
    intro b hbn hno
    refine vc_Book_isBarred_2 _ _ ?_
    rw [h.2.2.2.1.2.2]
    refine ⟨fun _ => ⟨Or.inl rfl, hn (fun ⟨b', h1, h2⟩ => hno b' (by omega) h2)⟩, fun g => absurd ?_ g⟩
    rw [nI_leI (by omega) (by omega)]
    omega
  | succ n ih =>
    intro b hbn hno
    refine vc_Book_isBarred_2 _ _ ?_
    rw [h.2.2.2.1.2.2]
    refine ⟨fun g => ?_, fun g => ⟨fun g2 => ?_, fun _ => ⟨b, rfl, by omega, fun g3 => ?_, fun g3 => ⟨Or.inr rfl, hy ⟨b, by omega, ?_⟩⟩⟩⟩⟩
    · rw [nI_leI (by omega) (by omega)] at g; omega
    · rw [nI_leI (by omega) (by omega)] at g2; omega
    · rw [nI_add]
      refine ih (b + 1) (by omega) (fun b' hb' => ?_)
      by_cases e : b' = b
      · subst e
        rw [h.2.2.2.2.1 b' (by omega)] at g3
        exact g3
      · exact hno b' (by omega)
    · rw [← h.2.2.2.2.1 b (by omega)]
      exact g3
theorem c_Book_isBarred {d : Nat} {w : Wd} (h : BkI w) (x : Int32) : EvI m_Book_isBarred d [.ref 25, .int x] w (fun r w' => w' = w ∧ Bo (brd w x) r) :=
  ev_Book_isBarred x (vc_Book_isBarred_0 x (z_Book_isBarred h (fun a => ⟨rfl, Bo.t a⟩) (fun a => ⟨rfl, Bo.f a⟩) (nbr w) 0 (Nat.zero_add _) (fun b' hb' => absurd hb' (Nat.not_lt_zero _))))
theorem c_Book_chain {d : Nat} {w : Wd} (h : BkI w) {c : Nat} (hc : c < nch w) : EvI m_Book_chainGoal d [.ref 25, .int (nI c)] w (fun r w' => w' = w ∧ r = nI (chn w c 0)) ∧ EvI m_Book_chainFirst d [.ref 25, .int (nI c)] w (fun r w' => w' = w ∧ r = nI (chn w c 1)) ∧ EvI m_Book_chainSecond d [.ref 25, .int (nI c)] w (fun r w' => w' = w ∧ r = nI (chn w c 2)) := by
  have hn := h.2.2.2.2.2.1.1
  refine ⟨ev_Book_chainGoal _ (vc_Book_chainGoal_0 _ ?_), ev_Book_chainFirst _ (vc_Book_chainFirst_0 _ ?_), ev_Book_chainSecond _ (vc_Book_chainSecond_0 _ ?_)⟩
  all_goals rw [h.2.2.2.2.2.1.2.2]
  · refine ⟨fun g => absurd (lt0 g) (by rw [nI_toInt (by omega)]; omega), fun g => ⟨fun g2 => ?_, fun g2 => ⟨c, rfl, by omega, rfl, (h.2.2.2.2.2.2.1 c hc 0 (by omega)).2.2⟩⟩⟩
    rw [nI_leI (by omega) (by omega)] at g2; omega
  · refine ⟨fun g => absurd (lt0 g) (by rw [nI_toInt (by omega)]; omega), fun g => ⟨fun g2 => ?_, fun g2 => ⟨c, rfl, by omega, rfl, (h.2.2.2.2.2.2.1 c hc 1 (by omega)).2.2⟩⟩⟩
    rw [nI_leI (by omega) (by omega)] at g2; omega
  · refine ⟨fun g => absurd (lt0 g) (by rw [nI_toInt (by omega)]; omega), fun g => ⟨fun g2 => ?_, fun g2 => ⟨c, rfl, by omega, rfl, (h.2.2.2.2.2.2.1 c hc 2 (by omega)).2.2⟩⟩⟩
    rw [nI_leI (by omega) (by omega)] at g2; omega
/-- x is a single relation -/
def sgl (w : Wd) (x : Int32) : Prop := ∃ r, r < 10 ∧ x = nI r ∧ w.1 75 (10 * hl w + r) = 1
theorem c_Book_isSingle {d : Nat} {w : Wd} (h : BkI w) (x : Int32) : EvI m_Book_isSingle (d + 1) [.ref 25, .int x] w (fun r w' => w' = w ∧ Bo (sgl w x) r) := by
  obtain ⟨sg, s1, s2, s3⟩ := h.2.2.2.2.2.2.2
  refine ev_Book_isSingle x (vc_Book_isSingle_0 x ⟨_, c_isRelation x, ?_⟩)
  rintro r1 w1 ⟨rfl, hr⟩
  refine ⟨fun g => ⟨Or.inl rfl, rfl, Bo.f (fun ⟨r, a, e, _⟩ => hr.z g (by rw [e]; exact isRl_nI a))⟩, fun g => ?_⟩
  obtain ⟨r, hr2, rfl⟩ := isRl_of (hr.n g)
  rw [s2, bit_nI (by omega) (by omega)]
  refine ⟨fun g2 => ⟨Or.inl rfl, rfl, Bo.f (fun ⟨r', a, e, b⟩ => ?_)⟩, fun g2 => ⟨Or.inr rfl, rfl, Bo.t ⟨r, hr2, rfl, ?_⟩⟩⟩
  · have := nI_inj (by omega) (by omega) e
    subst this
    rcases s3 r hr2 with ⟨-, k⟩ | ⟨k, -⟩
    · exact g2 k
    · rw [b] at k; exact absurd k (by decide)
  · rcases s3 r hr2 with ⟨k, -⟩ | ⟨-, k⟩
    · exact k
    · exact absurd (by rw [k]; decide) g2
