set_option maxRecDepth 100000
theorem l_c0 {p : Program} {l : Launch} {e : Env} {s : State} {m : MethodId} {below : List Frame} {meth : Method} {c : Code} {b L : Nat} {xs : Nat → Int32} {G : va_G} {cA : FieldType → ClassId} {ad : Nat → Nat} {f : Nat → Int64} {cells slots i : Nat} {w : Wd} (C : LC p l s m meth c b L xs G cA ad) (hi : i + 7 ≤ L) (h : Inv w) (hcs : cells + 1 ≤ 601024 ∧ slots + 6 ≤ 7293034) (kk : ∀ (w' : Wd) (f' : Nat → Int64) (c' s' : Nat), Inv w' → c' ≤ cells + 1 → s' ≤ slots + 6 → GZ p l e room_1 s m #[Value.ref b] below meth c G cA ad 7 (Kf G cA ad f') (lw_Z below #[Value.ref b] s) c' s' 23 (lvL (i + 7)) [] w') : GZ p l e room_1 s m #[Value.ref b] below meth c G cA ad 7 (Kf G cA ad f) (lw_Z below #[Value.ref b] s) cells slots 136 (lvL i) [] w := by
  refine g_aload_n (k := 1) (x := 57) C.1.1 C.1.2.1 (by decide +kernel) rfl ?_
  refine l_arg (k := 1) (i := i) C rfl rfl (by omega) (by unfold argB; decide +kernel) ?_
  refine l_arg (k := 2) (i := i) C rfl rfl (by omega) (by unfold argB; decide +kernel) ?_
  refine l_call (x := 19) (a := 57) (as := [.int (xs (i + 1)), .int (xs (i + 2))]) (st := []) (μ' := m_D_sort) C ⟨by omega, by omega⟩ (by decide +kernel) rfl (tt_at 434 rfl rfl) m_D_sort_ok rfl rfl rfl rfl (op_sort h _ _) ?_
  intro r w1 hq
  refine g_aload_n (k := 2) (x := 58) C.1.1 C.1.2.1 (by decide +kernel) rfl ?_
  refine l_arg (k := 1) (i := i) C rfl rfl (by omega) (by unfold argB; decide +kernel) ?_
  refine l_arg (k := 2) (i := i) C rfl rfl (by omega) (by unfold argB; decide +kernel) ?_
  refine l_call (x := 23) (a := 58) (as := [.int (xs (i + 1)), .int (xs (i + 2))]) (st := [.int r]) (μ' := m_M_sort) C ⟨by omega, by omega⟩ (by decide +kernel) rfl (tt_at 1484 rfl rfl) m_M_sort_ok rfl rfl rfl rfl hq ?_
  intro r2 w2 hq2
  refine g_icmp (cd := .eq) (off := 761) (tgt := 929) C.1.1 C.1.2.1 (by decide +kernel) (by decide) (fun _ => l_next C (kk w2 f cells slots hq2.2 (by omega) (by omega))) (fun hne => absurd hq2.1.symm hne)
theorem l_c1 {p : Program} {l : Launch} {e : Env} {s : State} {m : MethodId} {below : List Frame} {meth : Method} {c : Code} {b L : Nat} {xs : Nat → Int32} {G : va_G} {cA : FieldType → ClassId} {ad : Nat → Nat} {f : Nat → Int64} {cells slots i : Nat} {w : Wd} (C : LC p l s m meth c b L xs G cA ad) (hi : i + 7 ≤ L) (h : Inv w) (hcs : cells + 1 ≤ 601024 ∧ slots + 6 ≤ 7293034) (kk : ∀ (w' : Wd) (f' : Nat → Int64) (c' s' : Nat), Inv w' → c' ≤ cells + 1 → s' ≤ slots + 6 → GZ p l e room_1 s m #[Value.ref b] below meth c G cA ad 7 (Kf G cA ad f') (lw_Z below #[Value.ref b] s) c' s' 23 (lvL (i + 7)) [] w') : GZ p l e room_1 s m #[Value.ref b] below meth c G cA ad 7 (Kf G cA ad f) (lw_Z below #[Value.ref b] s) cells slots 173 (lvL i) [] w := by
  refine g_aload_n (k := 1) (x := 57) C.1.1 C.1.2.1 (by decide +kernel) rfl ?_
  refine l_arg (k := 1) (i := i) C rfl rfl (by omega) (by unfold argB; decide +kernel) ?_
  refine l_arg (k := 2) (i := i) C rfl rfl (by omega) (by unfold argB; decide +kernel) ?_
  refine l_call (x := 24) (a := 57) (as := [.int (xs (i + 1)), .int (xs (i + 2))]) (st := []) (μ' := m_D_join) C ⟨by omega, by omega⟩ (by decide +kernel) rfl (tt_at 465 rfl rfl) m_D_join_ok rfl rfl rfl rfl (op_join h _ _) ?_
  intro r w1 hq
  refine g_aload_n (k := 2) (x := 58) C.1.1 C.1.2.1 (by decide +kernel) rfl ?_
  refine l_arg (k := 1) (i := i) C rfl rfl (by omega) (by unfold argB; decide +kernel) ?_
  refine l_arg (k := 2) (i := i) C rfl rfl (by omega) (by unfold argB; decide +kernel) ?_
  refine l_call (x := 27) (a := 58) (as := [.int (xs (i + 1)), .int (xs (i + 2))]) (st := [.int r]) (μ' := m_M_join) C ⟨by omega, by omega⟩ (by decide +kernel) rfl (tt_at 1491 rfl rfl) m_M_join_ok rfl rfl rfl rfl hq ?_
  intro r2 w2 hq2
  refine g_icmp (cd := .eq) (off := 724) (tgt := 929) C.1.1 C.1.2.1 (by decide +kernel) (by decide) (fun _ => l_next C (kk w2 f cells slots hq2.2 (by omega) (by omega))) (fun hne => absurd hq2.1.symm hne)
theorem l_c2 {p : Program} {l : Launch} {e : Env} {s : State} {m : MethodId} {below : List Frame} {meth : Method} {c : Code} {b L : Nat} {xs : Nat → Int32} {G : va_G} {cA : FieldType → ClassId} {ad : Nat → Nat} {f : Nat → Int64} {cells slots i : Nat} {w : Wd} (C : LC p l s m meth c b L xs G cA ad) (hi : i + 7 ≤ L) (h : Inv w) (hcs : cells + 1 ≤ 601024 ∧ slots + 6 ≤ 7293034) (kk : ∀ (w' : Wd) (f' : Nat → Int64) (c' s' : Nat), Inv w' → c' ≤ cells + 1 → s' ≤ slots + 6 → GZ p l e room_1 s m #[Value.ref b] below meth c G cA ad 7 (Kf G cA ad f') (lw_Z below #[Value.ref b] s) c' s' 23 (lvL (i + 7)) [] w') : GZ p l e room_1 s m #[Value.ref b] below meth c G cA ad 7 (Kf G cA ad f) (lw_Z below #[Value.ref b] s) cells slots 210 (lvL i) [] w := by
  refine g_aload_n (k := 1) (x := 57) C.1.1 C.1.2.1 (by decide +kernel) rfl ?_
  refine l_arg (k := 1) (i := i) C rfl rfl (by omega) (by unfold argB; decide +kernel) ?_
  refine l_call (x := 28) (a := 57) (as := [.int (xs (i + 1))]) (st := []) (μ' := m_D_word) C ⟨by omega, by omega⟩ (by decide +kernel) rfl (tt_at 477 rfl rfl) m_D_word_ok rfl rfl rfl rfl (op_word h _) ?_
  intro r w1 hq
  refine g_aload_n (k := 2) (x := 58) C.1.1 C.1.2.1 (by decide +kernel) rfl ?_
  refine l_arg (k := 1) (i := i) C rfl rfl (by omega) (by unfold argB; decide +kernel) ?_
  refine l_call (x := 32) (a := 58) (as := [.int (xs (i + 1))]) (st := [.int r]) (μ' := m_M_word) C ⟨by omega, by omega⟩ (by decide +kernel) rfl (tt_at 1503 rfl rfl) m_M_word_ok rfl rfl rfl rfl hq ?_
  intro r2 w2 hq2
  refine g_icmp (cd := .eq) (off := 699) (tgt := 929) C.1.1 C.1.2.1 (by decide +kernel) (by decide) (fun _ => l_next C (kk w2 f cells slots hq2.2 (by omega) (by omega))) (fun hne => absurd hq2.1.symm hne)
theorem l_c3 {p : Program} {l : Launch} {e : Env} {s : State} {m : MethodId} {below : List Frame} {meth : Method} {c : Code} {b L : Nat} {xs : Nat → Int32} {G : va_G} {cA : FieldType → ClassId} {ad : Nat → Nat} {f : Nat → Int64} {cells slots i : Nat} {w : Wd} (C : LC p l s m meth c b L xs G cA ad) (hi : i + 7 ≤ L) (h : Inv w) (hcs : cells + 1 ≤ 601024 ∧ slots + 6 ≤ 7293034) (kk : ∀ (w' : Wd) (f' : Nat → Int64) (c' s' : Nat), Inv w' → c' ≤ cells + 1 → s' ≤ slots + 6 → GZ p l e room_1 s m #[Value.ref b] below meth c G cA ad 7 (Kf G cA ad f') (lw_Z below #[Value.ref b] s) c' s' 23 (lvL (i + 7)) [] w') : GZ p l e room_1 s m #[Value.ref b] below meth c G cA ad 7 (Kf G cA ad f) (lw_Z below #[Value.ref b] s) cells slots 235 (lvL i) [] w := by
  refine g_aload_n (k := 1) (x := 57) C.1.1 C.1.2.1 (by decide +kernel) rfl ?_
  refine l_call (x := 33) (a := 57) (as := []) (st := []) (μ' := m_D_sentence) C ⟨by omega, by omega⟩ (by decide +kernel) rfl (tt_at 486 rfl rfl) m_D_sentence_ok rfl rfl rfl rfl (op_sentence h) ?_
  intro r w1 hq
  refine g_aload_n (k := 2) (x := 58) C.1.1 C.1.2.1 (by decide +kernel) rfl ?_
  refine l_call (x := 37) (a := 58) (as := []) (st := [.int r]) (μ' := m_M_sentence) C ⟨by omega, by omega⟩ (by decide +kernel) rfl (tt_at 1507 rfl rfl) m_M_sentence_ok rfl rfl rfl rfl hq ?_
  intro r2 w2 hq2
  refine g_icmp (cd := .eq) (off := 686) (tgt := 929) C.1.1 C.1.2.1 (by decide +kernel) (by decide) (fun _ => l_next C (kk w2 f cells slots hq2.2 (by omega) (by omega))) (fun hne => absurd hq2.1.symm hne)
theorem l_c4 {p : Program} {l : Launch} {e : Env} {s : State} {m : MethodId} {below : List Frame} {meth : Method} {c : Code} {b L : Nat} {xs : Nat → Int32} {G : va_G} {cA : FieldType → ClassId} {ad : Nat → Nat} {f : Nat → Int64} {cells slots i : Nat} {w : Wd} (C : LC p l s m meth c b L xs G cA ad) (hi : i + 7 ≤ L) (h : Inv w) (hcs : cells + 1 ≤ 601024 ∧ slots + 6 ≤ 7293034) (kk : ∀ (w' : Wd) (f' : Nat → Int64) (c' s' : Nat), Inv w' → c' ≤ cells + 1 → s' ≤ slots + 6 → GZ p l e room_1 s m #[Value.ref b] below meth c G cA ad 7 (Kf G cA ad f') (lw_Z below #[Value.ref b] s) c' s' 23 (lvL (i + 7)) [] w') : GZ p l e room_1 s m #[Value.ref b] below meth c G cA ad 7 (Kf G cA ad f) (lw_Z below #[Value.ref b] s) cells slots 248 (lvL i) [] w := by
  refine g_aload_n (k := 1) (x := 57) C.1.1 C.1.2.1 (by decide +kernel) rfl ?_
  refine l_arg (k := 1) (i := i) C rfl rfl (by omega) (by unfold argB; decide +kernel) ?_
  refine l_call (x := 38) (a := 57) (as := [.int (xs (i + 1))]) (st := []) (μ' := m_D_take) C ⟨by omega, by omega⟩ (by decide +kernel) rfl (tt_at 501 rfl rfl) m_D_take_ok rfl rfl rfl rfl (op_take h _) ?_
  intro r w1 hq
  refine g_aload_n (k := 2) (x := 58) C.1.1 C.1.2.1 (by decide +kernel) rfl ?_
  refine l_arg (k := 1) (i := i) C rfl rfl (by omega) (by unfold argB; decide +kernel) ?_
  refine l_call (x := 42) (a := 58) (as := [.int (xs (i + 1))]) (st := [.int r]) (μ' := m_M_take) C ⟨by omega, by omega⟩ (by decide +kernel) rfl (tt_at 1511 rfl rfl) m_M_take_ok rfl rfl rfl rfl hq ?_
  intro r2 w2 hq2
  refine g_icmp (cd := .eq) (off := 661) (tgt := 929) C.1.1 C.1.2.1 (by decide +kernel) (by decide) (fun _ => l_next C (kk w2 f cells slots hq2.2 (by omega) (by omega))) (fun hne => absurd hq2.1.symm hne)
theorem l_c5 {p : Program} {l : Launch} {e : Env} {s : State} {m : MethodId} {below : List Frame} {meth : Method} {c : Code} {b L : Nat} {xs : Nat → Int32} {G : va_G} {cA : FieldType → ClassId} {ad : Nat → Nat} {f : Nat → Int64} {cells slots i : Nat} {w : Wd} (C : LC p l s m meth c b L xs G cA ad) (hi : i + 7 ≤ L) (h : Inv w) (hcs : cells + 1 ≤ 601024 ∧ slots + 6 ≤ 7293034) (kk : ∀ (w' : Wd) (f' : Nat → Int64) (c' s' : Nat), Inv w' → c' ≤ cells + 1 → s' ≤ slots + 6 → GZ p l e room_1 s m #[Value.ref b] below meth c G cA ad 7 (Kf G cA ad f') (lw_Z below #[Value.ref b] s) c' s' 23 (lvL (i + 7)) [] w') : GZ p l e room_1 s m #[Value.ref b] below meth c G cA ad 7 (Kf G cA ad f) (lw_Z below #[Value.ref b] s) cells slots 273 (lvL i) [] w := by
  refine g_aload_n (k := 1) (x := 57) C.1.1 C.1.2.1 (by decide +kernel) rfl ?_
  refine l_arg (k := 1) (i := i) C rfl rfl (by omega) (by unfold argB; decide +kernel) ?_
  refine l_lonB C (by unfold lonB; decide +kernel) rfl ?_
  refine l_arg (k := 2) (i := i) C rfl rfl (by omega) (by unfold argB; decide +kernel) ?_
  refine l_lonC C (by unfold lonC; decide +kernel) rfl ?_
  refine l_arg (k := 3) (i := i) C rfl rfl (by omega) (by unfold argB; decide +kernel) ?_
  refine l_lonB C (by unfold lonB; decide +kernel) rfl ?_
  refine l_arg (k := 4) (i := i) C rfl rfl (by omega) (by unfold argB; decide +kernel) ?_
  refine l_lonC C (by unfold lonC; decide +kernel) rfl ?_
  refine l_arg (k := 5) (i := i) C rfl rfl (by omega) (by unfold argB; decide +kernel) ?_
  refine l_lonB C (by unfold lonB; decide +kernel) rfl ?_
  refine l_argC (k := 6) (i := i) C rfl rfl (by omega) (by decide) (by unfold argC; decide +kernel) ?_
  refine l_lonC C (by unfold lonC; decide +kernel) rfl ?_
  refine l_call (x := 45) (a := 57) (as := [.long (jl (xs (i + 1)) (xs (i + 2))), .long (jl (xs (i + 3)) (xs (i + 4))), .long (jl (xs (i + 5)) (xs (i + 6)))]) (st := []) (μ' := m_D_feed) C ⟨by omega, by omega⟩ (by decide +kernel) rfl (tt_at 513 rfl rfl) m_D_feed_ok rfl rfl rfl rfl (op_feed h _ _ _) ?_
  intro r w1 hq
  refine g_aload_n (k := 2) (x := 58) C.1.1 C.1.2.1 (by decide +kernel) rfl ?_
  refine l_arg (k := 1) (i := i) C rfl rfl (by omega) (by unfold argB; decide +kernel) ?_
  refine l_lonB C (by unfold lonB; decide +kernel) rfl ?_
  refine l_arg (k := 2) (i := i) C rfl rfl (by omega) (by unfold argB; decide +kernel) ?_
  refine l_lonC C (by unfold lonC; decide +kernel) rfl ?_
  refine l_arg (k := 3) (i := i) C rfl rfl (by omega) (by unfold argB; decide +kernel) ?_
  refine l_lonB C (by unfold lonB; decide +kernel) rfl ?_
  refine l_arg (k := 4) (i := i) C rfl rfl (by omega) (by unfold argB; decide +kernel) ?_
  refine l_lonC C (by unfold lonC; decide +kernel) rfl ?_
  refine l_arg (k := 5) (i := i) C rfl rfl (by omega) (by unfold argB; decide +kernel) ?_
  refine l_lonB C (by unfold lonB; decide +kernel) rfl ?_
  refine l_argC (k := 6) (i := i) C rfl rfl (by omega) (by decide) (by unfold argC; decide +kernel) ?_
  refine l_lonC C (by unfold lonC; decide +kernel) rfl ?_
  refine l_call (x := 49) (a := 58) (as := [.long (jl (xs (i + 1)) (xs (i + 2))), .long (jl (xs (i + 3)) (xs (i + 4))), .long (jl (xs (i + 5)) (xs (i + 6)))]) (st := [.int r]) (μ' := m_M_feed) C ⟨by omega, by omega⟩ (by decide +kernel) rfl (tt_at 1226 rfl rfl) m_M_feed_ok rfl rfl rfl rfl hq ?_
  intro r2 w2 hq2
  refine g_icmp (cd := .eq) (off := 514) (tgt := 929) C.1.1 C.1.2.1 (by decide +kernel) (by decide) (fun _ => l_next C (kk w2 f cells slots hq2.2 (by omega) (by omega))) (fun hne => absurd hq2.1.symm hne)
theorem l_c6 {p : Program} {l : Launch} {e : Env} {s : State} {m : MethodId} {below : List Frame} {meth : Method} {c : Code} {b L : Nat} {xs : Nat → Int32} {G : va_G} {cA : FieldType → ClassId} {ad : Nat → Nat} {f : Nat → Int64} {cells slots i : Nat} {w : Wd} (C : LC p l s m meth c b L xs G cA ad) (hi : i + 7 ≤ L) (h : Inv w) (hcs : cells + 1 ≤ 601024 ∧ slots + 6 ≤ 7293034) (kk : ∀ (w' : Wd) (f' : Nat → Int64) (c' s' : Nat), Inv w' → c' ≤ cells + 1 → s' ≤ slots + 6 → GZ p l e room_1 s m #[Value.ref b] below meth c G cA ad 7 (Kf G cA ad f') (lw_Z below #[Value.ref b] s) c' s' 23 (lvL (i + 7)) [] w') : GZ p l e room_1 s m #[Value.ref b] below meth c G cA ad 7 (Kf G cA ad f) (lw_Z below #[Value.ref b] s) cells slots 420 (lvL i) [] w := by
  refine g_aload_n (k := 1) (x := 57) C.1.1 C.1.2.1 (by decide +kernel) rfl ?_
  refine l_call (x := 50) (a := 57) (as := []) (st := []) (μ' := m_D_text) C ⟨by omega, by omega⟩ (by decide +kernel) rfl (tt_at 528 rfl rfl) m_D_text_ok rfl rfl rfl rfl (op_text str_ok h) ?_
  intro r w1 hq
  refine g_aload_n (k := 2) (x := 58) C.1.1 C.1.2.1 (by decide +kernel) rfl ?_
  refine l_call (x := 53) (a := 58) (as := []) (st := [.int r]) (μ' := m_M_text) C ⟨by omega, by omega⟩ (by decide +kernel) rfl (tt_at 1409 rfl rfl) m_M_text_ok rfl rfl rfl rfl hq ?_
  intro r2 w2 hq2
  refine g_icmp (cd := .eq) (off := 501) (tgt := 929) C.1.1 C.1.2.1 (by decide +kernel) (by decide) (fun _ => l_next C (kk w2 f cells slots hq2.2 (by omega) (by omega))) (fun hne => absurd hq2.1.symm hne)
theorem l_c7 {p : Program} {l : Launch} {e : Env} {s : State} {m : MethodId} {below : List Frame} {meth : Method} {c : Code} {b L : Nat} {xs : Nat → Int32} {G : va_G} {cA : FieldType → ClassId} {ad : Nat → Nat} {f : Nat → Int64} {cells slots i : Nat} {w : Wd} (C : LC p l s m meth c b L xs G cA ad) (hi : i + 7 ≤ L) (h : Inv w) (hcs : cells + 1 ≤ 601024 ∧ slots + 6 ≤ 7293034) (kk : ∀ (w' : Wd) (f' : Nat → Int64) (c' s' : Nat), Inv w' → c' ≤ cells + 1 → s' ≤ slots + 6 → GZ p l e room_1 s m #[Value.ref b] below meth c G cA ad 7 (Kf G cA ad f') (lw_Z below #[Value.ref b] s) c' s' 23 (lvL (i + 7)) [] w') : GZ p l e room_1 s m #[Value.ref b] below meth c G cA ad 7 (Kf G cA ad f) (lw_Z below #[Value.ref b] s) cells slots 433 (lvL i) [] w := by
  refine g_aload_n (k := 1) (x := 57) C.1.1 C.1.2.1 (by decide +kernel) rfl ?_
  refine l_call (x := 54) (a := 57) (as := []) (st := []) (μ' := m_D_finds) C ⟨by omega, by omega⟩ (by decide +kernel) rfl (tt_at 750 rfl rfl) m_D_finds_ok rfl rfl rfl rfl (op_finds h) ?_
  intro r w1 hq
  refine g_aload_n (k := 2) (x := 58) C.1.1 C.1.2.1 (by decide +kernel) rfl ?_
  refine l_call (x := 57) (a := 58) (as := []) (st := [.int r]) (μ' := m_M_finds) C ⟨by omega, by omega⟩ (by decide +kernel) rfl (tt_at 1519 rfl rfl) m_M_finds_ok rfl rfl rfl rfl hq ?_
  intro r2 w2 hq2
  refine g_icmp (cd := .eq) (off := 488) (tgt := 929) C.1.1 C.1.2.1 (by decide +kernel) (by decide) (fun _ => l_next C (kk w2 f cells slots hq2.2 (by omega) (by omega))) (fun hne => absurd hq2.1.symm hne)
theorem l_c8 {p : Program} {l : Launch} {e : Env} {s : State} {m : MethodId} {below : List Frame} {meth : Method} {c : Code} {b L : Nat} {xs : Nat → Int32} {G : va_G} {cA : FieldType → ClassId} {ad : Nat → Nat} {f : Nat → Int64} {cells slots i : Nat} {w : Wd} (C : LC p l s m meth c b L xs G cA ad) (hi : i + 7 ≤ L) (h : Inv w) (hcs : cells + 1 ≤ 601024 ∧ slots + 6 ≤ 7293034) (kk : ∀ (w' : Wd) (f' : Nat → Int64) (c' s' : Nat), Inv w' → c' ≤ cells + 1 → s' ≤ slots + 6 → GZ p l e room_1 s m #[Value.ref b] below meth c G cA ad 7 (Kf G cA ad f') (lw_Z below #[Value.ref b] s) c' s' 23 (lvL (i + 7)) [] w') : GZ p l e room_1 s m #[Value.ref b] below meth c G cA ad 7 (Kf G cA ad f) (lw_Z below #[Value.ref b] s) cells slots 446 (lvL i) [] w := by
  refine g_aload_n (k := 1) (x := 57) C.1.1 C.1.2.1 (by decide +kernel) rfl ?_
  refine l_arg (k := 1) (i := i) C rfl rfl (by omega) (by unfold argB; decide +kernel) ?_
  refine l_arg (k := 2) (i := i) C rfl rfl (by omega) (by unfold argB; decide +kernel) ?_
  refine l_call (x := 58) (a := 57) (as := [.int (xs (i + 1)), .int (xs (i + 2))]) (st := []) (μ' := m_D_find) C ⟨by omega, by omega⟩ (by decide +kernel) rfl (tt_at 856 rfl rfl) m_D_find_ok rfl rfl rfl rfl (op_find h _ _) ?_
  intro r w1 hq
  refine g_aload_n (k := 2) (x := 58) C.1.1 C.1.2.1 (by decide +kernel) rfl ?_
  refine l_arg (k := 1) (i := i) C rfl rfl (by omega) (by unfold argB; decide +kernel) ?_
  refine l_arg (k := 2) (i := i) C rfl rfl (by omega) (by unfold argB; decide +kernel) ?_
  refine l_call (x := 61) (a := 58) (as := [.int (xs (i + 1)), .int (xs (i + 2))]) (st := [.int r]) (μ' := m_M_find) C ⟨by omega, by omega⟩ (by decide +kernel) rfl (tt_at 1542 rfl rfl) m_M_find_ok rfl rfl rfl rfl hq ?_
  intro r2 w2 hq2
  refine g_icmp (cd := .eq) (off := 451) (tgt := 929) C.1.1 C.1.2.1 (by decide +kernel) (by decide) (fun _ => l_next C (kk w2 f cells slots hq2.2 (by omega) (by omega))) (fun hne => absurd hq2.1.symm hne)
theorem l_c9 {p : Program} {l : Launch} {e : Env} {s : State} {m : MethodId} {below : List Frame} {meth : Method} {c : Code} {b L : Nat} {xs : Nat → Int32} {G : va_G} {cA : FieldType → ClassId} {ad : Nat → Nat} {f : Nat → Int64} {cells slots i : Nat} {w : Wd} (C : LC p l s m meth c b L xs G cA ad) (hi : i + 7 ≤ L) (h : Inv w) (hcs : cells + 1 ≤ 601024 ∧ slots + 6 ≤ 7293034) (kk : ∀ (w' : Wd) (f' : Nat → Int64) (c' s' : Nat), Inv w' → c' ≤ cells + 1 → s' ≤ slots + 6 → GZ p l e room_1 s m #[Value.ref b] below meth c G cA ad 7 (Kf G cA ad f') (lw_Z below #[Value.ref b] s) c' s' 23 (lvL (i + 7)) [] w') : GZ p l e room_1 s m #[Value.ref b] below meth c G cA ad 7 (Kf G cA ad f) (lw_Z below #[Value.ref b] s) cells slots 483 (lvL i) [] w := by
  refine g_aload_n (k := 1) (x := 57) C.1.1 C.1.2.1 (by decide +kernel) rfl ?_
  refine l_arg (k := 1) (i := i) C rfl rfl (by omega) (by unfold argB; decide +kernel) ?_
  refine l_call (x := 62) (a := 57) (as := [.int (xs (i + 1))]) (st := []) (μ' := m_D_rows) C ⟨by omega, by omega⟩ (by decide +kernel) rfl (tt_at 884 rfl rfl) m_D_rows_ok rfl rfl rfl rfl (op_rows h _) ?_
  intro r w1 hq
  refine g_aload_n (k := 2) (x := 58) C.1.1 C.1.2.1 (by decide +kernel) rfl ?_
  refine l_arg (k := 1) (i := i) C rfl rfl (by omega) (by unfold argB; decide +kernel) ?_
  refine l_call (x := 65) (a := 58) (as := [.int (xs (i + 1))]) (st := [.int r]) (μ' := m_M_rows) C ⟨by omega, by omega⟩ (by decide +kernel) rfl (tt_at 1550 rfl rfl) m_M_rows_ok rfl rfl rfl rfl hq ?_
  intro r2 w2 hq2
  refine g_icmp (cd := .eq) (off := 426) (tgt := 929) C.1.1 C.1.2.1 (by decide +kernel) (by decide) (fun _ => l_next C (kk w2 f cells slots hq2.2 (by omega) (by omega))) (fun hne => absurd hq2.1.symm hne)
theorem l_c10 {p : Program} {l : Launch} {e : Env} {s : State} {m : MethodId} {below : List Frame} {meth : Method} {c : Code} {b L : Nat} {xs : Nat → Int32} {G : va_G} {cA : FieldType → ClassId} {ad : Nat → Nat} {f : Nat → Int64} {cells slots i : Nat} {w : Wd} (C : LC p l s m meth c b L xs G cA ad) (hi : i + 7 ≤ L) (h : Inv w) (hcs : cells + 1 ≤ 601024 ∧ slots + 6 ≤ 7293034) (kk : ∀ (w' : Wd) (f' : Nat → Int64) (c' s' : Nat), Inv w' → c' ≤ cells + 1 → s' ≤ slots + 6 → GZ p l e room_1 s m #[Value.ref b] below meth c G cA ad 7 (Kf G cA ad f') (lw_Z below #[Value.ref b] s) c' s' 23 (lvL (i + 7)) [] w') : GZ p l e room_1 s m #[Value.ref b] below meth c G cA ad 7 (Kf G cA ad f) (lw_Z below #[Value.ref b] s) cells slots 508 (lvL i) [] w := by
  refine g_aload_n (k := 1) (x := 57) C.1.1 C.1.2.1 (by decide +kernel) rfl ?_
  refine l_arg (k := 1) (i := i) C rfl rfl (by omega) (by unfold argB; decide +kernel) ?_
  refine l_arg (k := 2) (i := i) C rfl rfl (by omega) (by unfold argB; decide +kernel) ?_
  refine l_arg (k := 3) (i := i) C rfl rfl (by omega) (by unfold argB; decide +kernel) ?_
  refine l_call (x := 66) (a := 57) (as := [.int (xs (i + 1)), .int (xs (i + 2)), .int (xs (i + 3))]) (st := []) (μ' := m_D_row) C ⟨by omega, by omega⟩ (by decide +kernel) rfl (tt_at 965 rfl rfl) m_D_row_ok rfl rfl rfl rfl (op_row h _ _ _) ?_
  intro r w1 hq
  refine g_aload_n (k := 2) (x := 58) C.1.1 C.1.2.1 (by decide +kernel) rfl ?_
  refine l_arg (k := 1) (i := i) C rfl rfl (by omega) (by unfold argB; decide +kernel) ?_
  refine l_arg (k := 2) (i := i) C rfl rfl (by omega) (by unfold argB; decide +kernel) ?_
  refine l_arg (k := 3) (i := i) C rfl rfl (by omega) (by unfold argB; decide +kernel) ?_
  refine l_call (x := 70) (a := 58) (as := [.int (xs (i + 1)), .int (xs (i + 2)), .int (xs (i + 3))]) (st := [.int r]) (μ' := m_M_row) C ⟨by omega, by omega⟩ (by decide +kernel) rfl (tt_at 1565 rfl rfl) m_M_row_ok rfl rfl rfl rfl hq ?_
  intro r2 w2 hq2
  refine g_icmp (cd := .eq) (off := 377) (tgt := 929) C.1.1 C.1.2.1 (by decide +kernel) (by decide) (fun _ => l_next C (kk w2 f cells slots hq2.2 (by omega) (by omega))) (fun hne => absurd hq2.1.symm hne)
theorem l_c11 {p : Program} {l : Launch} {e : Env} {s : State} {m : MethodId} {below : List Frame} {meth : Method} {c : Code} {b L : Nat} {xs : Nat → Int32} {G : va_G} {cA : FieldType → ClassId} {ad : Nat → Nat} {f : Nat → Int64} {cells slots i : Nat} {w : Wd} (C : LC p l s m meth c b L xs G cA ad) (hi : i + 7 ≤ L) (h : Inv w) (hcs : cells + 1 ≤ 601024 ∧ slots + 6 ≤ 7293034) (kk : ∀ (w' : Wd) (f' : Nat → Int64) (c' s' : Nat), Inv w' → c' ≤ cells + 1 → s' ≤ slots + 6 → GZ p l e room_1 s m #[Value.ref b] below meth c G cA ad 7 (Kf G cA ad f') (lw_Z below #[Value.ref b] s) c' s' 23 (lvL (i + 7)) [] w') : GZ p l e room_1 s m #[Value.ref b] below meth c G cA ad 7 (Kf G cA ad f) (lw_Z below #[Value.ref b] s) cells slots 557 (lvL i) [] w := by
  refine g_aload_n (k := 1) (x := 57) C.1.1 C.1.2.1 (by decide +kernel) rfl ?_
  refine l_arg (k := 1) (i := i) C rfl rfl (by omega) (by unfold argB; decide +kernel) ?_
  refine l_arg (k := 2) (i := i) C rfl rfl (by omega) (by unfold argB; decide +kernel) ?_
  refine l_call (x := 71) (a := 57) (as := [.int (xs (i + 1)), .int (xs (i + 2))]) (st := []) (μ' := m_D_quarrel) C ⟨by omega, by omega⟩ (by decide +kernel) rfl (tt_at 977 rfl rfl) m_D_quarrel_ok rfl rfl rfl rfl (op_quarrel h _ _) ?_
  intro r w1 hq
  refine g_aload_n (k := 2) (x := 58) C.1.1 C.1.2.1 (by decide +kernel) rfl ?_
  refine l_arg (k := 1) (i := i) C rfl rfl (by omega) (by unfold argB; decide +kernel) ?_
  refine l_arg (k := 2) (i := i) C rfl rfl (by omega) (by unfold argB; decide +kernel) ?_
  refine l_call (x := 74) (a := 58) (as := [.int (xs (i + 1)), .int (xs (i + 2))]) (st := [.int r]) (μ' := m_M_quarrel) C ⟨by omega, by omega⟩ (by decide +kernel) rfl (tt_at 1569 rfl rfl) m_M_quarrel_ok rfl rfl rfl rfl hq ?_
  intro r2 w2 hq2
  refine g_icmp (cd := .eq) (off := 340) (tgt := 929) C.1.1 C.1.2.1 (by decide +kernel) (by decide) (fun _ => l_next C (kk w2 f cells slots hq2.2 (by omega) (by omega))) (fun hne => absurd hq2.1.symm hne)
theorem l_c12 {p : Program} {l : Launch} {e : Env} {s : State} {m : MethodId} {below : List Frame} {meth : Method} {c : Code} {b L : Nat} {xs : Nat → Int32} {G : va_G} {cA : FieldType → ClassId} {ad : Nat → Nat} {f : Nat → Int64} {cells slots i : Nat} {w : Wd} (C : LC p l s m meth c b L xs G cA ad) (hi : i + 7 ≤ L) (h : Inv w) (hcs : cells + 1 ≤ 601024 ∧ slots + 6 ≤ 7293034) (kk : ∀ (w' : Wd) (f' : Nat → Int64) (c' s' : Nat), Inv w' → c' ≤ cells + 1 → s' ≤ slots + 6 → GZ p l e room_1 s m #[Value.ref b] below meth c G cA ad 7 (Kf G cA ad f') (lw_Z below #[Value.ref b] s) c' s' 23 (lvL (i + 7)) [] w') : GZ p l e room_1 s m #[Value.ref b] below meth c G cA ad 7 (Kf G cA ad f) (lw_Z below #[Value.ref b] s) cells slots 594 (lvL i) [] w := by
  refine g_aload_n (k := 1) (x := 57) C.1.1 C.1.2.1 (by decide +kernel) rfl ?_
  refine l_arg (k := 1) (i := i) C rfl rfl (by omega) (by unfold argB; decide +kernel) ?_
  refine l_arg (k := 2) (i := i) C rfl rfl (by omega) (by unfold argB; decide +kernel) ?_
  refine l_arg (k := 3) (i := i) C rfl rfl (by omega) (by unfold argB; decide +kernel) ?_
  refine l_arg (k := 4) (i := i) C rfl rfl (by omega) (by unfold argB; decide +kernel) ?_
  refine l_arg (k := 5) (i := i) C rfl rfl (by omega) (by unfold argB; decide +kernel) ?_
  refine l_bool C (by unfold booB; decide +kernel) rfl ?_
  refine l_call (x := 75) (a := 57) (as := [.int (xs (i + 1)), .int (xs (i + 2)), .int (xs (i + 3)), .int (xs (i + 4)), .int (bv (xs (i + 5)))]) (st := []) (μ' := m_D_mark) C ⟨by omega, by omega⟩ (by decide +kernel) rfl (tt_at 989 rfl rfl) m_D_mark_ok rfl rfl rfl rfl (op_mark h _ _ _ _ _ (bv_01 _)) ?_
  intro r w1 hq
  refine g_aload_n (k := 2) (x := 58) C.1.1 C.1.2.1 (by decide +kernel) rfl ?_
  refine l_arg (k := 1) (i := i) C rfl rfl (by omega) (by unfold argB; decide +kernel) ?_
  refine l_arg (k := 2) (i := i) C rfl rfl (by omega) (by unfold argB; decide +kernel) ?_
  refine l_arg (k := 3) (i := i) C rfl rfl (by omega) (by unfold argB; decide +kernel) ?_
  refine l_arg (k := 4) (i := i) C rfl rfl (by omega) (by unfold argB; decide +kernel) ?_
  refine l_arg (k := 5) (i := i) C rfl rfl (by omega) (by unfold argB; decide +kernel) ?_
  refine l_bool C (by unfold booB; decide +kernel) rfl ?_
  refine l_call (x := 79) (a := 58) (as := [.int (xs (i + 1)), .int (xs (i + 2)), .int (xs (i + 3)), .int (xs (i + 4)), .int (bv (xs (i + 5)))]) (st := [.int r]) (μ' := m_M_mark) C ⟨by omega, by omega⟩ (by decide +kernel) rfl (tt_at 1573 rfl rfl) m_M_mark_ok rfl rfl rfl rfl hq ?_
  intro r2 w2 hq2
  refine g_icmp (cd := .eq) (off := 251) (tgt := 929) C.1.1 C.1.2.1 (by decide +kernel) (by decide) (fun _ => l_next C (kk w2 f cells slots hq2.2 (by omega) (by omega))) (fun hne => absurd hq2.1.symm hne)
theorem l_c14 {p : Program} {l : Launch} {e : Env} {s : State} {m : MethodId} {below : List Frame} {meth : Method} {c : Code} {b L : Nat} {xs : Nat → Int32} {G : va_G} {cA : FieldType → ClassId} {ad : Nat → Nat} {f : Nat → Int64} {cells slots i : Nat} {w : Wd} (C : LC p l s m meth c b L xs G cA ad) (hi : i + 7 ≤ L) (h : Inv w) (hcs : cells + 1 ≤ 601024 ∧ slots + 6 ≤ 7293034) (kk : ∀ (w' : Wd) (f' : Nat → Int64) (c' s' : Nat), Inv w' → c' ≤ cells + 1 → s' ≤ slots + 6 → GZ p l e room_1 s m #[Value.ref b] below meth c G cA ad 7 (Kf G cA ad f') (lw_Z below #[Value.ref b] s) c' s' 23 (lvL (i + 7)) [] w') : GZ p l e room_1 s m #[Value.ref b] below meth c G cA ad 7 (Kf G cA ad f) (lw_Z below #[Value.ref b] s) cells slots 751 (lvL i) [] w := by
  refine g_aload_n (k := 1) (x := 57) C.1.1 C.1.2.1 (by decide +kernel) rfl ?_
  refine l_arg (k := 1) (i := i) C rfl rfl (by omega) (by unfold argB; decide +kernel) ?_
  refine l_call (x := 89) (a := 57) (as := [.int (xs (i + 1))]) (st := []) (μ' := m_D_best) C ⟨by omega, by omega⟩ (by decide +kernel) rfl (tt_at 1003 rfl rfl) m_D_best_ok rfl rfl rfl rfl (op_best h _) ?_
  intro r w1 hq
  refine g_aload_n (k := 2) (x := 58) C.1.1 C.1.2.1 (by decide +kernel) rfl ?_
  refine l_arg (k := 1) (i := i) C rfl rfl (by omega) (by unfold argB; decide +kernel) ?_
  refine l_call (x := 92) (a := 58) (as := [.int (xs (i + 1))]) (st := [.int r]) (μ' := m_M_best) C ⟨by omega, by omega⟩ (by decide +kernel) rfl (tt_at 1589 rfl rfl) m_M_best_ok rfl rfl rfl rfl hq ?_
  intro r2 w2 hq2
  refine g_icmp (cd := .eq) (off := 158) (tgt := 929) C.1.1 C.1.2.1 (by decide +kernel) (by decide) (fun _ => l_next C (kk w2 f cells slots hq2.2 (by omega) (by omega))) (fun hne => absurd hq2.1.symm hne)
theorem l_c15 {p : Program} {l : Launch} {e : Env} {s : State} {m : MethodId} {below : List Frame} {meth : Method} {c : Code} {b L : Nat} {xs : Nat → Int32} {G : va_G} {cA : FieldType → ClassId} {ad : Nat → Nat} {f : Nat → Int64} {cells slots i : Nat} {w : Wd} (C : LC p l s m meth c b L xs G cA ad) (hi : i + 7 ≤ L) (h : Inv w) (hcs : cells + 1 ≤ 601024 ∧ slots + 6 ≤ 7293034) (kk : ∀ (w' : Wd) (f' : Nat → Int64) (c' s' : Nat), Inv w' → c' ≤ cells + 1 → s' ≤ slots + 6 → GZ p l e room_1 s m #[Value.ref b] below meth c G cA ad 7 (Kf G cA ad f') (lw_Z below #[Value.ref b] s) c' s' 23 (lvL (i + 7)) [] w') : GZ p l e room_1 s m #[Value.ref b] below meth c G cA ad 7 (Kf G cA ad f) (lw_Z below #[Value.ref b] s) cells slots 776 (lvL i) [] w := by
  refine g_aload_n (k := 1) (x := 57) C.1.1 C.1.2.1 (by decide +kernel) rfl ?_
  refine l_arg (k := 1) (i := i) C rfl rfl (by omega) (by unfold argB; decide +kernel) ?_
  refine l_call (x := 93) (a := 57) (as := [.int (xs (i + 1))]) (st := []) (μ' := m_D_learn) C ⟨by omega, by omega⟩ (by decide +kernel) rfl (tt_at 1039 rfl rfl) m_D_learn_ok rfl rfl rfl rfl (op_learn h _) ?_
  intro r w1 hq
  refine g_aload_n (k := 2) (x := 58) C.1.1 C.1.2.1 (by decide +kernel) rfl ?_
  refine l_arg (k := 1) (i := i) C rfl rfl (by omega) (by unfold argB; decide +kernel) ?_
  refine l_call (x := 96) (a := 58) (as := [.int (xs (i + 1))]) (st := [.int r]) (μ' := m_M_learn) C ⟨by omega, by omega⟩ (by decide +kernel) rfl (tt_at 1596 rfl rfl) m_M_learn_ok rfl rfl rfl rfl hq ?_
  intro r2 w2 hq2
  refine g_icmp (cd := .eq) (off := 133) (tgt := 929) C.1.1 C.1.2.1 (by decide +kernel) (by decide) (fun _ => l_next C (kk w2 f cells slots hq2.2 (by omega) (by omega))) (fun hne => absurd hq2.1.symm hne)
theorem l_c16 {p : Program} {l : Launch} {e : Env} {s : State} {m : MethodId} {below : List Frame} {meth : Method} {c : Code} {b L : Nat} {xs : Nat → Int32} {G : va_G} {cA : FieldType → ClassId} {ad : Nat → Nat} {f : Nat → Int64} {cells slots i : Nat} {w : Wd} (C : LC p l s m meth c b L xs G cA ad) (hi : i + 7 ≤ L) (h : Inv w) (hcs : cells + 1 ≤ 601024 ∧ slots + 6 ≤ 7293034) (kk : ∀ (w' : Wd) (f' : Nat → Int64) (c' s' : Nat), Inv w' → c' ≤ cells + 1 → s' ≤ slots + 6 → GZ p l e room_1 s m #[Value.ref b] below meth c G cA ad 7 (Kf G cA ad f') (lw_Z below #[Value.ref b] s) c' s' 23 (lvL (i + 7)) [] w') : GZ p l e room_1 s m #[Value.ref b] below meth c G cA ad 7 (Kf G cA ad f) (lw_Z below #[Value.ref b] s) cells slots 801 (lvL i) [] w := by
  refine g_aload_n (k := 1) (x := 57) C.1.1 C.1.2.1 (by decide +kernel) rfl ?_
  refine l_arg (k := 1) (i := i) C rfl rfl (by omega) (by unfold argB; decide +kernel) ?_
  refine l_arg (k := 2) (i := i) C rfl rfl (by omega) (by unfold argB; decide +kernel) ?_
  refine l_call (x := 97) (a := 57) (as := [.int (xs (i + 1)), .int (xs (i + 2))]) (st := []) (μ' := m_D_learnt) C ⟨by omega, by omega⟩ (by decide +kernel) rfl (tt_at 1090 rfl rfl) m_D_learnt_ok rfl rfl rfl rfl (op_learnt h _ _) ?_
  intro r w1 hq
  refine g_aload_n (k := 2) (x := 58) C.1.1 C.1.2.1 (by decide +kernel) rfl ?_
  refine l_arg (k := 1) (i := i) C rfl rfl (by omega) (by unfold argB; decide +kernel) ?_
  refine l_arg (k := 2) (i := i) C rfl rfl (by omega) (by unfold argB; decide +kernel) ?_
  refine l_call (x := 100) (a := 58) (as := [.int (xs (i + 1)), .int (xs (i + 2))]) (st := [.int r]) (μ' := m_M_learnt) C ⟨by omega, by omega⟩ (by decide +kernel) rfl (tt_at 1611 rfl rfl) m_M_learnt_ok rfl rfl rfl rfl hq ?_
  intro r2 w2 hq2
  refine g_icmp (cd := .eq) (off := 96) (tgt := 929) C.1.1 C.1.2.1 (by decide +kernel) (by decide) (fun _ => l_next C (kk w2 f cells slots hq2.2 (by omega) (by omega))) (fun hne => absurd hq2.1.symm hne)
theorem l_c17 {p : Program} {l : Launch} {e : Env} {s : State} {m : MethodId} {below : List Frame} {meth : Method} {c : Code} {b L : Nat} {xs : Nat → Int32} {G : va_G} {cA : FieldType → ClassId} {ad : Nat → Nat} {f : Nat → Int64} {cells slots i : Nat} {w : Wd} (C : LC p l s m meth c b L xs G cA ad) (hi : i + 7 ≤ L) (h : Inv w) (hcs : cells + 1 ≤ 601024 ∧ slots + 6 ≤ 7293034) (kk : ∀ (w' : Wd) (f' : Nat → Int64) (c' s' : Nat), Inv w' → c' ≤ cells + 1 → s' ≤ slots + 6 → GZ p l e room_1 s m #[Value.ref b] below meth c G cA ad 7 (Kf G cA ad f') (lw_Z below #[Value.ref b] s) c' s' 23 (lvL (i + 7)) [] w') : GZ p l e room_1 s m #[Value.ref b] below meth c G cA ad 7 (Kf G cA ad f) (lw_Z below #[Value.ref b] s) cells slots 838 (lvL i) [] w := by
  refine g_aload_n (k := 1) (x := 57) C.1.1 C.1.2.1 (by decide +kernel) rfl ?_
  refine l_arg (k := 1) (i := i) C rfl rfl (by omega) (by unfold argB; decide +kernel) ?_
  refine l_bool C (by unfold booB; decide +kernel) rfl ?_
  refine l_call (x := 101) (a := 57) (as := [.int (bv (xs (i + 1)))]) (st := []) (μ' := m_D_catches) C ⟨by omega, by omega⟩ (by decide +kernel) rfl (tt_at 1102 rfl rfl) m_D_catches_ok rfl rfl rfl rfl (op_catches h _ (bv_01 _)) ?_
  intro r w1 hq
  refine g_aload_n (k := 2) (x := 58) C.1.1 C.1.2.1 (by decide +kernel) rfl ?_
  refine l_arg (k := 1) (i := i) C rfl rfl (by omega) (by unfold argB; decide +kernel) ?_
  refine l_bool C (by unfold booB; decide +kernel) rfl ?_
  refine l_call (x := 105) (a := 58) (as := [.int (bv (xs (i + 1)))]) (st := [.int r]) (μ' := m_M_catches) C ⟨by omega, by omega⟩ (by decide +kernel) rfl (tt_at 1615 rfl rfl) m_M_catches_ok rfl rfl rfl rfl hq ?_
  intro r2 w2 hq2
  refine g_icmp (cd := .eq) (off := 55) (tgt := 929) C.1.1 C.1.2.1 (by decide +kernel) (by decide) (fun _ => l_next C (kk w2 f cells slots hq2.2 (by omega) (by omega))) (fun hne => absurd hq2.1.symm hne)
theorem l_c18 {p : Program} {l : Launch} {e : Env} {s : State} {m : MethodId} {below : List Frame} {meth : Method} {c : Code} {b L : Nat} {xs : Nat → Int32} {G : va_G} {cA : FieldType → ClassId} {ad : Nat → Nat} {f : Nat → Int64} {cells slots i : Nat} {w : Wd} (C : LC p l s m meth c b L xs G cA ad) (hi : i + 7 ≤ L) (h : Inv w) (hcs : cells + 1 ≤ 601024 ∧ slots + 6 ≤ 7293034) (kk : ∀ (w' : Wd) (f' : Nat → Int64) (c' s' : Nat), Inv w' → c' ≤ cells + 1 → s' ≤ slots + 6 → GZ p l e room_1 s m #[Value.ref b] below meth c G cA ad 7 (Kf G cA ad f') (lw_Z below #[Value.ref b] s) c' s' 23 (lvL (i + 7)) [] w') : GZ p l e room_1 s m #[Value.ref b] below meth c G cA ad 7 (Kf G cA ad f) (lw_Z below #[Value.ref b] s) cells slots 879 (lvL i) [] w := by
  refine g_aload_n (k := 1) (x := 57) C.1.1 C.1.2.1 (by decide +kernel) rfl ?_
  refine l_arg (k := 1) (i := i) C rfl rfl (by omega) (by unfold argB; decide +kernel) ?_
  refine l_call (x := 106) (a := 57) (as := [.int (xs (i + 1))]) (st := []) (μ' := m_D_named) C ⟨by omega, by omega⟩ (by decide +kernel) rfl (tt_at 1114 rfl rfl) m_D_named_ok rfl rfl rfl rfl (op_named h _) ?_
  intro r w1 hq
  refine g_aload_n (k := 2) (x := 58) C.1.1 C.1.2.1 (by decide +kernel) rfl ?_
  refine l_arg (k := 1) (i := i) C rfl rfl (by omega) (by unfold argB; decide +kernel) ?_
  refine l_call (x := 109) (a := 58) (as := [.int (xs (i + 1))]) (st := [.int r]) (μ' := m_M_named) C ⟨by omega, by omega⟩ (by decide +kernel) rfl (tt_at 1495 rfl rfl) m_M_named_ok rfl rfl rfl rfl hq ?_
  intro r2 w2 hq2
  refine g_icmp (cd := .eq) (off := 30) (tgt := 929) C.1.1 C.1.2.1 (by decide +kernel) (by decide) (fun _ => l_next C (kk w2 f cells slots hq2.2 (by omega) (by omega))) (fun hne => absurd hq2.1.symm hne)
theorem l_c19 {p : Program} {l : Launch} {e : Env} {s : State} {m : MethodId} {below : List Frame} {meth : Method} {c : Code} {b L : Nat} {xs : Nat → Int32} {G : va_G} {cA : FieldType → ClassId} {ad : Nat → Nat} {f : Nat → Int64} {cells slots i : Nat} {w : Wd} (C : LC p l s m meth c b L xs G cA ad) (hi : i + 7 ≤ L) (h : Inv w) (hcs : cells + 1 ≤ 601024 ∧ slots + 6 ≤ 7293034) (kk : ∀ (w' : Wd) (f' : Nat → Int64) (c' s' : Nat), Inv w' → c' ≤ cells + 1 → s' ≤ slots + 6 → GZ p l e room_1 s m #[Value.ref b] below meth c G cA ad 7 (Kf G cA ad f') (lw_Z below #[Value.ref b] s) c' s' 23 (lvL (i + 7)) [] w') : GZ p l e room_1 s m #[Value.ref b] below meth c G cA ad 7 (Kf G cA ad f) (lw_Z below #[Value.ref b] s) cells slots 904 (lvL i) [] w := by
  refine g_aload_n (k := 1) (x := 57) C.1.1 C.1.2.1 (by decide +kernel) rfl ?_
  refine l_arg (k := 1) (i := i) C rfl rfl (by omega) (by unfold argB; decide +kernel) ?_
  refine l_call (x := 110) (a := 57) (as := [.int (xs (i + 1))]) (st := []) (μ' := m_D_count) C ⟨by omega, by omega⟩ (by decide +kernel) rfl (tt_at 1119 rfl rfl) m_D_count_ok rfl rfl rfl rfl (op_count h _) ?_
  intro r w1 hq
  refine g_aload_n (k := 2) (x := 58) C.1.1 C.1.2.1 (by decide +kernel) rfl ?_
  refine l_arg (k := 1) (i := i) C rfl rfl (by omega) (by unfold argB; decide +kernel) ?_
  refine l_call (x := 113) (a := 58) (as := [.int (xs (i + 1))]) (st := [.int r]) (μ' := m_M_count) C ⟨by omega, by omega⟩ (by decide +kernel) rfl (tt_at 1619 rfl rfl) m_M_count_ok rfl rfl rfl rfl hq ?_
  intro r2 w2 hq2
  refine g_icmp (cd := .eq) (off := 5) (tgt := 929) C.1.1 C.1.2.1 (by decide +kernel) (by decide) (fun _ => l_next C (kk w2 f cells slots hq2.2 (by omega) (by omega))) (fun hne => absurd hq2.1.symm hne)
theorem l_c13 {p : Program} {l : Launch} {e : Env} {s : State} {m : MethodId} {below : List Frame} {meth : Method} {c : Code} {b L : Nat} {xs : Nat → Int32} {G : va_G} {cA : FieldType → ClassId} {ad : Nat → Nat} {f : Nat → Int64} {cells slots i : Nat} {w : Wd} (C : LC p l s m meth c b L xs G cA ad) (hi : i + 7 ≤ L) (h : Inv w) (hcs : cells + 1 ≤ 601024 ∧ slots + 6 ≤ 7293034) (kk : ∀ (w' : Wd) (f' : Nat → Int64) (c' s' : Nat), Inv w' → c' ≤ cells + 1 → s' ≤ slots + 6 → GZ p l e room_1 s m #[Value.ref b] below meth c G cA ad 7 (Kf G cA ad f') (lw_Z below #[Value.ref b] s) c' s' 23 (lvL (i + 7)) [] w') : GZ p l e room_1 s m #[Value.ref b] below meth c G cA ad 7 (Kf G cA ad f) (lw_Z below #[Value.ref b] s) cells slots 683 (lvL i) [] w := by
  refine g_aload_n (k := 1) (x := 57) C.1.1 C.1.2.1 (by decide +kernel) rfl ?_
  refine l_arg (k := 1) (i := i) C rfl rfl (by omega) (by unfold argB; decide +kernel) ?_
  refine l_arg (k := 2) (i := i) C rfl rfl (by omega) (by unfold argB; decide +kernel) ?_
  refine g_aload_n (k := 3) (x := 501) C.1.1 C.1.2.1 (by decide +kernel) rfl ?_
  refine l_rule (x := xs (i + 1)) (y := xs (i + 2)) C h hcs ?_
  intro k w1 f1 hk
  refine g_istore (k := 5) (x := k) C.1.1 C.1.2.1 (by decide +kernel) (by decide) ?_
  refine g_aload_n (k := 2) (x := 58) C.1.1 C.1.2.1 (by decide +kernel) rfl ?_
  refine l_arg (k := 1) (i := i) C rfl rfl (by omega) (by unfold argB; decide +kernel) ?_
  refine l_arg (k := 2) (i := i) C rfl rfl (by omega) (by unfold argB; decide +kernel) ?_
  have i1 : Inv w1 := by
    rcases hk with ⟨-, i1, -, -⟩ | ⟨-, -, e⟩
    · exact i1
    · rw [e]
      exact h
  refine l_call (x := 85) (a := 58) (as := [.int (xs (i + 1)), .int (xs (i + 2))]) (st := []) (μ' := m_M_rule) C hcs (by decide +kernel) rfl (tt_at 1577 rfl rfl) m_M_rule_ok rfl rfl rfl rfl (c_M_rule i1.1 i1.2.2.2.2.2.1 i1.2.2.2.2.1 _ _) ?_
  intro r w2 hq
  refine g_istore (k := 6) (x := r) C.1.1 C.1.2.1 (by decide +kernel) (by decide) ?_
  refine g_aload_n (k := 2) (x := 58) C.1.1 C.1.2.1 (by decide +kernel) rfl ?_
  refine l_call (x := 86) (a := 58) (as := []) (st := []) (μ' := m_M_thrown) (Q' := fun r w' => w' = w2 ∧ r = w2.1 58 0) C hcs (by decide +kernel) rfl (tt_at 1222 rfl rfl) m_M_thrown_ok rfl rfl rfl rfl (ev_M_thrown (vc_M_thrown_0 ⟨rfl, rfl⟩)) ?_
  rintro r3 w3 ⟨rfl, e3⟩
  refine g_iload (k := 5) (x := k) C.1.1 C.1.2.1 (by decide +kernel) rfl ?_
  have i3 : Inv w3 := by
    rcases hq with ⟨-, -, e⟩ | ⟨-, j, hj, ex, m1, rf, -, -⟩
    · rw [e]
      exact i1.th _
    · exact i1.rfr Fr.rf i1.2.2.1 m1 rf
  have ek : r3 = k := by
    rw [e3]
    rcases hk with ⟨ek, -, ok, -⟩ | ⟨ek, no, ew⟩
    · rcases hq with ⟨no, -, -⟩ | ⟨-, j, hj, ex, m1, rf, et, -⟩
      · exact absurd ok no
      · rw [et, ek]
    · subst ew
      rcases hq with ⟨-, -, e⟩ | ⟨ok, -⟩
      · rw [e, ek]
        simp [up1]
        decide
      · exact absurd ok no
  refine g_icmp (cd := .eq) (off := 5) (tgt := 731) C.1.1 C.1.2.1 (by decide +kernel) (by decide) (fun _ => ?_) (fun hne => absurd ek hne)
  refine g_iload (k := 5) (x := k) C.1.1 C.1.2.1 (by decide +kernel) rfl ?_
  have fin : ∀ {lv : List (Nat × Value)}, lpick lv [4, 0, 1, 2, 3] = lvL i → GZ p l e room_1 s m #[Value.ref b] below meth c G cA ad 7 (Kf G cA ad f1) (lw_Z below #[Value.ref b] s) (cells + 1) (slots + 6) 748 lv [] w3 := by
    intro lv hlv
    refine g_goto (off := 181) (tgt := 929) C.1.1 C.1.2.1 (by decide +kernel) (by decide) ?_
    refine l_pick [4, 0, 1, 2, 3] ?_
    rw [hlv]
    exact l_next C (kk w3 f1 (cells + 1) (slots + 6) i3 (Nat.le_refl _) (Nat.le_refl _))
  refine g_if (cd := .ne) (off := 15) (tgt := 748) C.1.1 C.1.2.1 (by decide +kernel) (by decide) (fun _ => fin rfl) (fun hk0 => ?_)
  have hk0 : k = 0 := hk0
  refine g_aload_n (k := 3) (x := 501) C.1.1 C.1.2.1 (by decide +kernel) rfl ?_
  refine g_iconst (n := 0) C.1.1 C.1.2.1 (by decide +kernel) ?_
  refine l_lald C (by decide +kernel) rfl ?_
  refine g_iload (k := 6) (x := r) C.1.1 C.1.2.1 (by decide +kernel) rfl ?_
  refine g_i2l C.1.1 C.1.2.1 (by decide +kernel) ?_
  refine g_lcmp C.1.1 C.1.2.1 (by decide +kernel) ?_
  have er : f1 0 = r.toInt64 := by
    rcases hk with ⟨-, -, ok, hv⟩ | ⟨ek1, -, -⟩
    · rcases hq with ⟨no, -, -⟩ | ⟨-, j, hj, ex, m1, rf, et, er⟩
      · exact absurd ok no
      · rw [er]
        exact hv j hj ex
    · rw [ek1] at hk0
      exact absurd hk0 (by decide)
  rw [er, cmp_self]
  exact g_if (cd := .eq) (off := 5) (tgt := 748) C.1.1 C.1.2.1 (by decide +kernel) (by decide) (fun _ => fin rfl) (fun hne => absurd rfl hne)
theorem sub7 {L : Nat} (h : L ≤ 3584) : (nI L - iI 7).toInt = (L : Int) - 7 := by
  have e7 : (iI 7).toInt = 7 := by decide
  rw [Int32.toInt_sub, tn L (by omega), e7]
  exact Int.bmod_eq_of_le (m := 4294967296) (by omega) (by omega)
/-- the law's loop -/
theorem l_loop {p : Program} {l : Launch} {e : Env} {s : State} {m : MethodId} {below : List Frame} {meth : Method} {c : Code} {b L : Nat} {xs : Nat → Int32} {G : va_G} {cA : FieldType → ClassId} {ad : Nat → Nat} (C : LC p l s m meth c b L xs G cA ad) : ∀ (n i : Nat) (w : Wd) (f : Nat → Int64) (cells slots : Nat), L ≤ i + 7 * n → i ≤ 3600 → cells + n ≤ 601024 → slots + 6 * n ≤ 7293034 → Inv w → GZ p l e room_1 s m #[Value.ref b] below meth c G cA ad 7 (Kf G cA ad f) (lw_Z below #[Value.ref b] s) cells slots 23 (lvL i) [] w := by
  intro n
  have hL := C.2.2.1.2.2
  have hd : ∀ (i : Nat) (w : Wd) (f : Nat → Int64) (cells slots : Nat), i ≤ 3600 → cells ≤ 601024 → slots ≤ 7293034 → (i + 7 ≤ L → GZ p l e room_1 s m #[Value.ref b] below meth c G cA ad 7 (Kf G cA ad f) (lw_Z below #[Value.ref b] s) cells slots 33 (lvL i) [] w) → GZ p l e room_1 s m #[Value.ref b] below meth c G cA ad 7 (Kf G cA ad f) (lw_Z below #[Value.ref b] s) cells slots 23 (lvL i) [] w := by
    intro i w f cells slots hi hc hs kk
    refine g_iload (k := 4) (x := nI i) C.1.1 C.1.2.1 (by decide +kernel) rfl ?_
    refine g_aload_n (k := 0) (x := 500) C.1.1 C.1.2.1 (by decide +kernel) rfl ?_
    refine l_slen C (by decide +kernel) ?_
    refine g_bipush (n := 7) C.1.1 C.1.2.1 (by decide) (by decide) (by decide +kernel) ?_
    refine g_isub C.1.1 C.1.2.1 (by decide +kernel) ?_
    refine g_icmp (cd := .gt) (off := 905) (tgt := 935) C.1.1 C.1.2.1 (by decide +kernel) (by decide) (fun _ => l_end C ⟨hc, hs⟩) (fun hg => kk ?_)
    have hg : ¬ nI L - iI 7 < nI i := hg
    rw [Int32.lt_iff_toInt_lt, sub7 hL, tn i (by omega)] at hg
    omega
  induction n with
  | zero =>
    intro i w f cells slots h1 h2 h3 h4 h
    exact hd i w f cells slots h2 (by omega) (by omega) (fun h9 => by omega)
  | succ n ih =>
    intro i w f cells slots h1 h2 h3 h4 h
    refine hd i w f cells slots h2 (by omega) (by omega) (fun hi => ?_)
    have kk : ∀ (w' : Wd) (f' : Nat → Int64) (c' s' : Nat), Inv w' → c' ≤ cells + 1 → s' ≤ slots + 6 → GZ p l e room_1 s m #[Value.ref b] below meth c G cA ad 7 (Kf G cA ad f') (lw_Z below #[Value.ref b] s) c' s' 23 (lvL (i + 7)) [] w' := fun w' f' c' s' h5 h6 h7 => ih (i + 7) w' f' c' s' (by omega) (by omega) (by omega) (by omega) h5
    have hcs : cells + 1 ≤ 601024 ∧ slots + 6 ≤ 7293034 := ⟨by omega, by omega⟩
    refine g_aload_n (k := 0) (x := 500) C.1.1 C.1.2.1 (by decide +kernel) rfl ?_
    refine g_iload (k := 4) (x := nI i) C.1.1 C.1.2.1 (by decide +kernel) rfl ?_
    refine l_sld C (by omega) (by decide +kernel) ?_
    refine g_bipush (n := 31) C.1.1 C.1.2.1 (by decide) (by decide) (by decide +kernel) ?_
    refine g_iand C.1.1 C.1.2.1 (by decide +kernel) ?_
    refine g_table (df := 889) (lo := 0) (hi := 19) (os := #[96, 133, 170, 195, 208, 233, 380, 393, 406, 443, 468, 517, 554, 643, 711, 736, 761, 798, 839, 864]) (len := 96) C.1.1 C.1.2.1 (by decide +kernel) (by decide) (by decide) (by decide) ?_
    refine swc_of (jp_of (tg := 929) (by decide) (l_next C (kk w f cells slots h (by omega) (by omega)))) _ ?_
    have all : ∀ t ∈ [136, 173, 210, 235, 248, 273, 420, 433, 446, 483, 508, 557, 594, 683, 751, 776, 801, 838, 879, 904], GZ p l e room_1 s m #[Value.ref b] below meth c G cA ad 7 (Kf G cA ad f) (lw_Z below #[Value.ref b] s) cells slots t (lvL i) [] w :=
      List.forall_mem_cons.mpr ⟨l_c0 C hi h hcs kk, List.forall_mem_cons.mpr ⟨l_c1 C hi h hcs kk, List.forall_mem_cons.mpr ⟨l_c2 C hi h hcs kk, List.forall_mem_cons.mpr ⟨l_c3 C hi h hcs kk, List.forall_mem_cons.mpr ⟨l_c4 C hi h hcs kk, List.forall_mem_cons.mpr ⟨l_c5 C hi h hcs kk, List.forall_mem_cons.mpr ⟨l_c6 C hi h hcs kk, List.forall_mem_cons.mpr ⟨l_c7 C hi h hcs kk, List.forall_mem_cons.mpr ⟨l_c8 C hi h hcs kk, List.forall_mem_cons.mpr ⟨l_c9 C hi h hcs kk, List.forall_mem_cons.mpr ⟨l_c10 C hi h hcs kk, List.forall_mem_cons.mpr ⟨l_c11 C hi h hcs kk, List.forall_mem_cons.mpr ⟨l_c12 C hi h hcs kk, List.forall_mem_cons.mpr ⟨l_c13 C hi h hcs kk, List.forall_mem_cons.mpr ⟨l_c14 C hi h hcs kk, List.forall_mem_cons.mpr ⟨l_c15 C hi h hcs kk, List.forall_mem_cons.mpr ⟨l_c16 C hi h hcs kk, List.forall_mem_cons.mpr ⟨l_c17 C hi h hcs kk, List.forall_mem_cons.mpr ⟨l_c18 C hi h hcs kk, List.forall_mem_cons.mpr ⟨l_c19 C hi h hcs kk, fun _ h => absurd h List.not_mem_nil⟩⟩⟩⟩⟩⟩⟩⟩⟩⟩⟩⟩⟩⟩⟩⟩⟩⟩⟩⟩
    have tgt : ∀ q ∈ tab 0 [96, 133, 170, 195, 208, 233, 380, 393, 406, 443, 468, 517, 554, 643, 711, 736, 761, 798, 839, 864], ∃ t ∈ [136, 173, 210, 235, 248, 273, 420, 433, 446, 483, 508, 557, 594, 683, 751, 776, 801, 838, 879, 904], (40 : Int) + q.2 = ((t : Nat) : Int) := by decide
    intro q hq
    obtain ⟨t, ht, e⟩ := tgt q hq
    exact jp_of e (all t ht)
