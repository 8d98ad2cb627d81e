def P_Lexicon_has : Prog := [(0, .iload_n 0), (1, .iconst 1), (2, .if_icmp .lt 13), (5, .iload_n 0), (6, .bipush 100), (8, .if_icmp .gt 7), (11, .iconst 1), (12, .goto 4), (15, .iconst 0), (16, .ireturn)]
theorem pr_Lexicon_has : prOK m_Lexicon_has P_Lexicon_has = true := by decide +kernel
def S_Lexicon_has : List (Nat × List Nat) := []
theorem ev_Lexicon_has {d : Nat} {w : Wd} {Q : Int32 → Wd → Prop} (x0 : Int32) (h : Z m_Lexicon_has d (qI Q) 0 [(0, .int x0)] [] w) : EvI m_Lexicon_has d [.int x0] w Q := Ev.ofZ (by decide +kernel) (Nat.le_of_ble_eq_true rfl) h
set_option maxRecDepth 20000 in
set_option maxHeartbeats 1000000 in
theorem vc_Lexicon_has_0 {d : Nat} {w : Wd} {Q : Int32 → Wd → Prop} (x0 : Int32) (h : ((x0 < (nI 1) → ((nI 0) = 0 ∨ (nI 0) = 1) ∧ Q (nI 0) w) ∧ (¬ x0 < (nI 1) → (((nI 100) < x0 → ((nI 0) = 0 ∨ (nI 0) = 1) ∧ Q (nI 0) w) ∧ (¬ (nI 100) < x0 → ((nI 1) = 0 ∨ (nI 1) = 1) ∧ Q (nI 1) w))))) : Z m_Lexicon_has d (qI Q) 0 [(0, .int x0)] [] w := wp_ok (P := P_Lexicon_has) (S := S_Lexicon_has) rfl pr_Lexicon_has 10 _ _ _ _ h
def P_Lexicon_setSort : Prog := [(0, .iload_n 1), (1, .invokestatic 18), (4, .ifCond .eq 13), (7, .iload_n 2), (8, .ifCond .lt 9), (11, .iload_n 2), (12, .bipush 10), (14, .if_icmp .lt 5), (17, .iconst 0), (18, .ireturn), (19, .aload_n 0), (20, .getfield 9), (23, .iload_n 1), (24, .iload_n 2), (25, .iastore), (26, .iconst 1), (27, .ireturn)]
theorem pr_Lexicon_setSort : prOK m_Lexicon_setSort P_Lexicon_setSort = true := by decide +kernel
def S_Lexicon_setSort : List (Nat × List Nat) := []
theorem ev_Lexicon_setSort {d : Nat} {w : Wd} {Q : Int32 → Wd → Prop} (x1 : Int32) (x2 : Int32) (h : Z m_Lexicon_setSort d (qI Q) 0 [(0, .ref 0), (1, .int x1), (2, .int x2)] [] w) : EvI m_Lexicon_setSort d [.ref 0, .int x1, .int x2] w Q := Ev.ofZ (by decide +kernel) (Nat.le_of_ble_eq_true rfl) h
set_option maxRecDepth 20000 in
set_option maxHeartbeats 1000000 in
theorem vc_Lexicon_setSort_0 {d : Nat} {w : Wd} {Q : Int32 → Wd → Prop} (x1 : Int32) (x2 : Int32) (h : ∃ Q1 : Int32 → Wd → Prop, EvI m_Lexicon_has d [.int x1] w Q1 ∧ ∀ (r1 : Int32) (w1 : Wd), Q1 r1 w1 → ((r1 = 0 → ((nI 0) = 0 ∨ (nI 0) = 1) ∧ Q (nI 0) w1) ∧ (¬ r1 = 0 → ((x2 < 0 → ((nI 0) = 0 ∨ (nI 0) = 1) ∧ Q (nI 0) w1) ∧ (¬ x2 < 0 → ((x2 < (nI 10) → ∃ j1 : Nat, x1 = nI j1 ∧ j1 < 101 ∧ ((nI 1) = 0 ∨ (nI 1) = 1) ∧ Q (nI 1) (up1 w1 1 j1 x2)) ∧ (¬ x2 < (nI 10) → ((nI 0) = 0 ∨ (nI 0) = 1) ∧ Q (nI 0) w1))))))) : Z m_Lexicon_setSort (d + 1) (qI Q) 0 [(0, .ref 0), (1, .int x1), (2, .int x2)] [] w := wp_ok (P := P_Lexicon_setSort) (S := S_Lexicon_setSort) rfl pr_Lexicon_setSort 16 _ _ _ _ h
def P_Lexicon_sortOf : Prog := [(0, .iload_n 1), (1, .invokestatic 18), (4, .ifCond .eq 12), (7, .aload_n 0), (8, .getfield 9), (11, .iload_n 1), (12, .iaload), (13, .goto 4), (16, .iconst (-1)), (17, .ireturn)]
theorem pr_Lexicon_sortOf : prOK m_Lexicon_sortOf P_Lexicon_sortOf = true := by decide +kernel
def S_Lexicon_sortOf : List (Nat × List Nat) := []
theorem ev_Lexicon_sortOf {d : Nat} {w : Wd} {Q : Int32 → Wd → Prop} (x1 : Int32) (h : Z m_Lexicon_sortOf d (qI Q) 0 [(0, .ref 0), (1, .int x1)] [] w) : EvI m_Lexicon_sortOf d [.ref 0, .int x1] w Q := Ev.ofZ (by decide +kernel) (Nat.le_of_ble_eq_true rfl) h
set_option maxRecDepth 20000 in
set_option maxHeartbeats 1000000 in
theorem vc_Lexicon_sortOf_0 {d : Nat} {w : Wd} {Q : Int32 → Wd → Prop} (x1 : Int32) (h : ∃ Q1 : Int32 → Wd → Prop, EvI m_Lexicon_has d [.int x1] w Q1 ∧ ∀ (r1 : Int32) (w1 : Wd), Q1 r1 w1 → ((r1 = 0 → Q (-nI 1) w1) ∧ (¬ r1 = 0 → ∃ j1 : Nat, x1 = nI j1 ∧ j1 < 101 ∧ Q (w1.1 1 j1) w1))) : Z m_Lexicon_sortOf (d + 1) (qI Q) 0 [(0, .ref 0), (1, .int x1)] [] w := wp_ok (P := P_Lexicon_sortOf) (S := S_Lexicon_sortOf) rfl pr_Lexicon_sortOf 10 _ _ _ _ h
def P_Lexicon_link : Prog := [(0, .iload_n 1), (1, .invokestatic 18), (4, .ifCond .eq 10), (7, .iload_n 2), (8, .invokestatic 18), (11, .ifCond .ne 5), (14, .iconst 0), (15, .ireturn), (16, .iload_n 1), (17, .iload_n 2), (18, .if_icmp .ne 12), (21, .aload_n 0), (22, .getfield 15), (25, .iload_n 1), (26, .iconst 0), (27, .iastore), (28, .iconst 1), (29, .ireturn), (30, .aload_n 0), (31, .iload_n 2), (32, .iload_n 1), (33, .invokevirtual 22), (36, .ifCond .eq 5), (39, .iconst 0), (40, .ireturn), (41, .aload_n 0), (42, .getfield 15), (45, .iload_n 1), (46, .iload_n 2), (47, .iastore), (48, .iconst 1), (49, .ireturn)]
theorem pr_Lexicon_link : prOK m_Lexicon_link P_Lexicon_link = true := by decide +kernel
def S_Lexicon_link : List (Nat × List Nat) := []
theorem ev_Lexicon_link {d : Nat} {w : Wd} {Q : Int32 → Wd → Prop} (x1 : Int32) (x2 : Int32) (h : Z m_Lexicon_link d (qI Q) 0 [(0, .ref 0), (1, .int x1), (2, .int x2)] [] w) : EvI m_Lexicon_link d [.ref 0, .int x1, .int x2] w Q := Ev.ofZ (by decide +kernel) (Nat.le_of_ble_eq_true rfl) h
set_option maxRecDepth 20000 in
set_option maxHeartbeats 1000000 in
theorem vc_Lexicon_link_0 {d : Nat} {w : Wd} {Q : Int32 → Wd → Prop} (x1 : Int32) (x2 : Int32) (h : ∃ Q1 : Int32 → Wd → Prop, EvI m_Lexicon_has d [.int x1] w Q1 ∧ ∀ (r1 : Int32) (w1 : Wd), Q1 r1 w1 → ((r1 = 0 → ((nI 0) = 0 ∨ (nI 0) = 1) ∧ Q (nI 0) w1) ∧ (¬ r1 = 0 → ∃ Q2 : Int32 → Wd → Prop, EvI m_Lexicon_has d [.int x2] w1 Q2 ∧ ∀ (r2 : Int32) (w2 : Wd), Q2 r2 w2 → ((¬ r2 = 0 → ((¬ x1 = x2 → ∃ Q3 : Int32 → Wd → Prop, EvI m_Lexicon_leadsTo d [.ref 0, .int x2, .int x1] w2 Q3 ∧ ∀ (r3 : Int32) (w3 : Wd), Q3 r3 w3 → ((r3 = 0 → ∃ j1 : Nat, x1 = nI j1 ∧ j1 < 101 ∧ ((nI 1) = 0 ∨ (nI 1) = 1) ∧ Q (nI 1) (up1 w3 2 j1 x2)) ∧ (¬ r3 = 0 → ((nI 0) = 0 ∨ (nI 0) = 1) ∧ Q (nI 0) w3))) ∧ (x1 = x2 → ∃ j2 : Nat, x1 = nI j2 ∧ j2 < 101 ∧ ((nI 1) = 0 ∨ (nI 1) = 1) ∧ Q (nI 1) (up1 w2 2 j2 (nI 0))))) ∧ (r2 = 0 → ((nI 0) = 0 ∨ (nI 0) = 1) ∧ Q (nI 0) w2))))) : Z m_Lexicon_link (d + 1) (qI Q) 0 [(0, .ref 0), (1, .int x1), (2, .int x2)] [] w := wp_ok (P := P_Lexicon_link) (S := S_Lexicon_link) rfl pr_Lexicon_link 22 _ _ _ _ h
def P_Lexicon_leadsTo : Prog := [(0, .iload_n 1), (1, .istore_n 3), (2, .iconst 0), (3, .istore 4), (5, .iload 4), (7, .bipush 100), (9, .if_icmp .ge 30), (12, .iload_n 3), (13, .invokestatic 18), (16, .ifCond .eq 23), (19, .iload_n 3), (20, .iload_n 2), (21, .if_icmp .ne 5), (24, .iconst 1), (25, .ireturn), (26, .aload_n 0), (27, .getfield 15), (30, .iload_n 3), (31, .iaload), (32, .istore_n 3), (33, .iinc 4 1), (36, .goto (-31)), (39, .iconst 0), (40, .ireturn)]
theorem pr_Lexicon_leadsTo : prOK m_Lexicon_leadsTo P_Lexicon_leadsTo = true := by decide +kernel
def S_Lexicon_leadsTo : List (Nat × List Nat) := [(5, [0, 1, 2, 3, 4])]
theorem ev_Lexicon_leadsTo {d : Nat} {w : Wd} {Q : Int32 → Wd → Prop} (x1 : Int32) (x2 : Int32) (h : Z m_Lexicon_leadsTo d (qI Q) 0 [(0, .ref 0), (1, .int x1), (2, .int x2)] [] w) : EvI m_Lexicon_leadsTo d [.ref 0, .int x1, .int x2] w Q := Ev.ofZ (by decide +kernel) (Nat.le_of_ble_eq_true rfl) h
set_option maxRecDepth 20000 in
set_option maxHeartbeats 1000000 in
theorem vc_Lexicon_leadsTo_0 {d : Nat} {w : Wd} {Q : Int32 → Wd → Prop} (x1 : Int32) (x2 : Int32) (h : Z m_Lexicon_leadsTo (d + 1) (qI Q) 5 [(0, .ref 0), (1, .int x1), (2, .int x2), (3, .int x1), (4, .int (nI 0))] [] w) : Z m_Lexicon_leadsTo (d + 1) (qI Q) 0 [(0, .ref 0), (1, .int x1), (2, .int x2)] [] w := wp_ok (P := P_Lexicon_leadsTo) (S := S_Lexicon_leadsTo) rfl pr_Lexicon_leadsTo 5 _ _ _ _ h
set_option maxRecDepth 20000 in
set_option maxHeartbeats 1000000 in
theorem vc_Lexicon_leadsTo_5 {d : Nat} {w : Wd} {Q : Int32 → Wd → Prop} (x1 : Int32) (x2 : Int32) (x3 : Int32) (x4 : Int32) (h : (((nI 100) ≤ x4 → ((nI 0) = 0 ∨ (nI 0) = 1) ∧ Q (nI 0) w) ∧ (¬ (nI 100) ≤ x4 → ∃ Q1 : Int32 → Wd → Prop, EvI m_Lexicon_has d [.int x3] w Q1 ∧ ∀ (r1 : Int32) (w1 : Wd), Q1 r1 w1 → ((r1 = 0 → ((nI 0) = 0 ∨ (nI 0) = 1) ∧ Q (nI 0) w1) ∧ (¬ r1 = 0 → ((¬ x3 = x2 → ∃ j1 : Nat, x3 = nI j1 ∧ j1 < 101 ∧ Z m_Lexicon_leadsTo (d + 1) (qI Q) 5 [(0, .ref 0), (1, .int x1), (2, .int x2), (3, .int (w1.1 2 j1)), (4, .int (x4 + nI 1))] [] w1) ∧ (x3 = x2 → ((nI 1) = 0 ∨ (nI 1) = 1) ∧ Q (nI 1) w1))))))) : Z m_Lexicon_leadsTo (d + 1) (qI Q) 5 [(0, .ref 0), (1, .int x1), (2, .int x2), (3, .int x3), (4, .int x4)] [] w := wp_ok (P := P_Lexicon_leadsTo) (S := S_Lexicon_leadsTo) rfl pr_Lexicon_leadsTo 17 _ _ _ _ h
def P_Lexicon_nameOf : Prog := [(0, .iload_n 1), (1, .invokestatic 18), (4, .ifCond .ne 5), (7, .iconst (-1)), (8, .ireturn), (9, .iload_n 1), (10, .istore_n 2), (11, .iconst 0), (12, .istore_n 3), (13, .iload_n 3), (14, .bipush 100), (16, .if_icmp .ge 28), (19, .aload_n 0), (20, .getfield 15), (23, .iload_n 2), (24, .iaload), (25, .invokestatic 18), (28, .ifCond .eq 16), (31, .aload_n 0), (32, .getfield 15), (35, .iload_n 2), (36, .iaload), (37, .istore_n 2), (38, .iinc 3 1), (41, .goto (-28)), (44, .iload_n 2), (45, .ireturn)]
theorem pr_Lexicon_nameOf : prOK m_Lexicon_nameOf P_Lexicon_nameOf = true := by decide +kernel
def S_Lexicon_nameOf : List (Nat × List Nat) := [(13, [0, 1, 2, 3])]
theorem ev_Lexicon_nameOf {d : Nat} {w : Wd} {Q : Int32 → Wd → Prop} (x1 : Int32) (h : Z m_Lexicon_nameOf d (qI Q) 0 [(0, .ref 0), (1, .int x1)] [] w) : EvI m_Lexicon_nameOf d [.ref 0, .int x1] w Q := Ev.ofZ (by decide +kernel) (Nat.le_of_ble_eq_true rfl) h
set_option maxRecDepth 20000 in
set_option maxHeartbeats 1000000 in
theorem vc_Lexicon_nameOf_0 {d : Nat} {w : Wd} {Q : Int32 → Wd → Prop} (x1 : Int32) (h : ∃ Q1 : Int32 → Wd → Prop, EvI m_Lexicon_has d [.int x1] w Q1 ∧ ∀ (r1 : Int32) (w1 : Wd), Q1 r1 w1 → ((¬ r1 = 0 → Z m_Lexicon_nameOf (d + 1) (qI Q) 13 [(0, .ref 0), (1, .int x1), (2, .int x1), (3, .int (nI 0))] [] w1) ∧ (r1 = 0 → Q (-nI 1) w1))) : Z m_Lexicon_nameOf (d + 1) (qI Q) 0 [(0, .ref 0), (1, .int x1)] [] w := wp_ok (P := P_Lexicon_nameOf) (S := S_Lexicon_nameOf) rfl pr_Lexicon_nameOf 8 _ _ _ _ h
set_option maxRecDepth 20000 in
set_option maxHeartbeats 1000000 in
theorem vc_Lexicon_nameOf_13 {d : Nat} {w : Wd} {Q : Int32 → Wd → Prop} (x1 : Int32) (x2 : Int32) (x3 : Int32) (h : (((nI 100) ≤ x3 → Q x2 w) ∧ (¬ (nI 100) ≤ x3 → ∃ j1 : Nat, x2 = nI j1 ∧ j1 < 101 ∧ ∃ Q1 : Int32 → Wd → Prop, EvI m_Lexicon_has d [.int (w.1 2 j1)] w Q1 ∧ ∀ (r1 : Int32) (w1 : Wd), Q1 r1 w1 → ((r1 = 0 → Q x2 w1) ∧ (¬ r1 = 0 → ∃ j2 : Nat, x2 = nI j2 ∧ j2 < 101 ∧ Z m_Lexicon_nameOf (d + 1) (qI Q) 13 [(0, .ref 0), (1, .int x1), (2, .int (w1.1 2 j2)), (3, .int (x3 + nI 1))] [] w1))))) : Z m_Lexicon_nameOf (d + 1) (qI Q) 13 [(0, .ref 0), (1, .int x1), (2, .int x2), (3, .int x3)] [] w := wp_ok (P := P_Lexicon_nameOf) (S := S_Lexicon_nameOf) rfl pr_Lexicon_nameOf 17 _ _ _ _ h
def P_Lexicon_fits : Prog := [(0, .iload_n 1), (1, .lookupswitch 65 #[(0, 27), (1, 38)]), (28, .iload_n 3), (29, .iload_n 2), (30, .if_icmp .ne 7), (33, .iconst 1), (34, .goto 4), (37, .iconst 0), (38, .ireturn), (39, .iload_n 3), (40, .iconst 1), (41, .if_icmp .lt 23), (44, .iload_n 3), (45, .bipush 100), (47, .if_icmp .gt 17), (50, .aload_n 0), (51, .getfield 9), (54, .iload_n 3), (55, .iaload), (56, .iload_n 2), (57, .if_icmp .ne 7), (60, .iconst 1), (61, .goto 4), (64, .iconst 0), (65, .ireturn), (66, .iconst 1), (67, .ireturn)]
theorem pr_Lexicon_fits : prOK m_Lexicon_fits P_Lexicon_fits = true := by decide +kernel
def S_Lexicon_fits : List (Nat × List Nat) := []
theorem ev_Lexicon_fits {d : Nat} {w : Wd} {Q : Int32 → Wd → Prop} (x1 : Int32) (x2 : Int32) (x3 : Int32) (h : Z m_Lexicon_fits d (qI Q) 0 [(0, .ref 0), (1, .int x1), (2, .int x2), (3, .int x3)] [] w) : EvI m_Lexicon_fits d [.ref 0, .int x1, .int x2, .int x3] w Q := Ev.ofZ (by decide +kernel) (Nat.le_of_ble_eq_true rfl) h
set_option maxRecDepth 20000 in
set_option maxHeartbeats 1000000 in
theorem vc_Lexicon_fits_0 {d : Nat} {w : Wd} {Q : Int32 → Wd → Prop} (x1 : Int32) (x2 : Int32) (x3 : Int32) (h : ((x1 = nI 0 → ((¬ x3 = x2 → ((nI 0) = 0 ∨ (nI 0) = 1) ∧ Q (nI 0) w) ∧ (x3 = x2 → ((nI 1) = 0 ∨ (nI 1) = 1) ∧ Q (nI 1) w))) ∧ (¬ x1 = nI 0 → ((x1 = nI 1 → ((x3 < (nI 1) → ((nI 0) = 0 ∨ (nI 0) = 1) ∧ Q (nI 0) w) ∧ (¬ x3 < (nI 1) → (((nI 100) < x3 → ((nI 0) = 0 ∨ (nI 0) = 1) ∧ Q (nI 0) w) ∧ (¬ (nI 100) < x3 → ∃ j1 : Nat, x3 = nI j1 ∧ j1 < 101 ∧ ((¬ (w.1 1 j1) = x2 → ((nI 0) = 0 ∨ (nI 0) = 1) ∧ Q (nI 0) w) ∧ ((w.1 1 j1) = x2 → ((nI 1) = 0 ∨ (nI 1) = 1) ∧ Q (nI 1) w))))))) ∧ (¬ x1 = nI 1 → ((nI 1) = 0 ∨ (nI 1) = 1) ∧ Q (nI 1) w))))) : Z m_Lexicon_fits d (qI Q) 0 [(0, .ref 0), (1, .int x1), (2, .int x2), (3, .int x3)] [] w := wp_ok (P := P_Lexicon_fits) (S := S_Lexicon_fits) rfl pr_Lexicon_fits 18 _ _ _ _ h
def P_Sentences_tell : Prog := [(0, .aload_n 0), (1, .getfield 25), (4, .bipush 16), (6, .if_icmp .lt 5), (9, .iconst (-1)), (10, .ireturn), (11, .aload_n 0), (12, .getfield 22), (15, .aload_n 0), (16, .getfield 25), (19, .iload_n 1), (20, .iastore), (21, .aload_n 0), (22, .dup), (23, .getfield 25), (26, .iconst 1), (27, .iadd), (28, .putfield 25), (31, .aload_n 0), (32, .getfield 25), (35, .ireturn)]
theorem pr_Sentences_tell : prOK m_Sentences_tell P_Sentences_tell = true := by decide +kernel
def S_Sentences_tell : List (Nat × List Nat) := []
theorem ev_Sentences_tell {d : Nat} {w : Wd} {Q : Int32 → Wd → Prop} (x1 : Int32) (h : Z m_Sentences_tell d (qI Q) 0 [(0, .ref 3), (1, .int x1)] [] w) : EvI m_Sentences_tell d [.ref 3, .int x1] w Q := Ev.ofZ (by decide +kernel) (Nat.le_of_ble_eq_true rfl) h
set_option maxRecDepth 20000 in
set_option maxHeartbeats 1000000 in
theorem vc_Sentences_tell_0 {d : Nat} {w : Wd} {Q : Int32 → Wd → Prop} (x1 : Int32) (h : (((w.1 3 4) < (nI 16) → ∃ j1 : Nat, (w.1 3 4) = nI j1 ∧ j1 < 16 ∧ Q ((w.1 3 4) + (nI 1)) (up1 (up1 w 7 j1 x1) 3 4 ((w.1 3 4) + (nI 1)))) ∧ (¬ (w.1 3 4) < (nI 16) → Q (-nI 1) w))) : Z m_Sentences_tell d (qI Q) 0 [(0, .ref 3), (1, .int x1)] [] w := wp_ok (P := P_Sentences_tell) (S := S_Sentences_tell) rfl pr_Sentences_tell 20 _ _ _ _ h
def P_Sentences_close : Prog := [(0, .aload_n 0), (1, .getfield 25), (4, .ifCond .eq 12), (7, .aload_n 0), (8, .getfield 29), (11, .bipush 40), (13, .if_icmp .lt 5), (16, .iconst (-1)), (17, .ireturn), (18, .aload_n 0), (19, .getfield 29), (22, .istore_n 1), (23, .aload_n 0), (24, .getfield 22), (27, .iconst 0), (28, .aload_n 0), (29, .getfield 9), (32, .iload_n 1), (33, .bipush 16), (35, .imul), (36, .aload_n 0), (37, .getfield 25), (40, .invokestatic 32), (43, .aload_n 0), (44, .getfield 15), (47, .iload_n 1), (48, .aload_n 0), (49, .getfield 25), (52, .iastore), (53, .aload_n 0), (54, .getfield 18), (57, .iload_n 1), (58, .iconst 1), (59, .bastore), (60, .aload_n 0), (61, .iconst 0), (62, .putfield 25), (65, .aload_n 0), (66, .dup), (67, .getfield 29), (70, .iconst 1), (71, .iadd), (72, .putfield 29), (75, .aload_n 0), (76, .dup), (77, .getfield 38), (80, .iconst 1), (81, .iadd), (82, .putfield 38), (85, .iload_n 1), (86, .ireturn)]
theorem pr_Sentences_close : prOK m_Sentences_close P_Sentences_close = true := by decide +kernel
def S_Sentences_close : List (Nat × List Nat) := []
theorem ev_Sentences_close {d : Nat} {w : Wd} {Q : Int32 → Wd → Prop}  (h : Z m_Sentences_close d (qI Q) 0 [(0, .ref 3)] [] w) : EvI m_Sentences_close d [.ref 3] w Q := Ev.ofZ (by decide +kernel) (Nat.le_of_ble_eq_true rfl) h
set_option maxRecDepth 20000 in
set_option maxHeartbeats 1000000 in
theorem vc_Sentences_close_0 {d : Nat} {w : Wd} {Q : Int32 → Wd → Prop}  (h : (((w.1 3 4) = 0 → Q (-nI 1) w) ∧ (¬ (w.1 3 4) = 0 → (((w.1 3 5) < (nI 40) → ∃ j1 j2 m1 : Nat, (nI 0) = nI j1 ∧ ((w.1 3 5) * (nI 16)) = nI j2 ∧ (w.1 3 4) = nI m1 ∧ j1 + m1 ≤ 16 ∧ j2 + m1 ≤ 640 ∧ ∃ j3 : Nat, (w.1 3 5) = nI j3 ∧ j3 < 40 ∧ ∃ j4 : Nat, (w.1 3 5) = nI j4 ∧ j4 < 40 ∧ ((nI 1) = 0 ∨ (nI 1) = 1) ∧ Q (w.1 3 5) (up1 (up1 (up1 (up1 (up1 (upA w 4 (va_cpy (w.1 7) (w.1 4) j1 j2 m1)) 5 j3 (w.1 3 4)) 6 j4 (nI 1)) 3 4 (nI 0)) 3 5 ((w.1 3 5) + (nI 1))) 3 6 ((w.1 3 6) + (nI 1)))) ∧ (¬ (w.1 3 5) < (nI 40) → Q (-nI 1) w))))) : Z m_Sentences_close (d + 1) (qI Q) 0 [(0, .ref 3)] [] w := wp_ok (P := P_Sentences_close) (S := S_Sentences_close) rfl pr_Sentences_close 50 _ _ _ _ h
def P_Sentences_remove : Prog := [(0, .aload_n 0), (1, .iload_n 1), (2, .invokevirtual 41), (5, .ifCond .ne 5), (8, .iconst 0), (9, .ireturn), (10, .aload_n 0), (11, .getfield 18), (14, .iload_n 1), (15, .iconst 0), (16, .bastore), (17, .aload_n 0), (18, .dup), (19, .getfield 38), (22, .iconst 1), (23, .isub), (24, .putfield 38), (27, .iconst 1), (28, .ireturn)]
theorem pr_Sentences_remove : prOK m_Sentences_remove P_Sentences_remove = true := by decide +kernel
def S_Sentences_remove : List (Nat × List Nat) := []
theorem ev_Sentences_remove {d : Nat} {w : Wd} {Q : Int32 → Wd → Prop} (x1 : Int32) (h : Z m_Sentences_remove d (qI Q) 0 [(0, .ref 3), (1, .int x1)] [] w) : EvI m_Sentences_remove d [.ref 3, .int x1] w Q := Ev.ofZ (by decide +kernel) (Nat.le_of_ble_eq_true rfl) h
set_option maxRecDepth 20000 in
set_option maxHeartbeats 1000000 in
theorem vc_Sentences_remove_0 {d : Nat} {w : Wd} {Q : Int32 → Wd → Prop} (x1 : Int32) (h : ∃ Q1 : Int32 → Wd → Prop, EvI m_Sentences_isThere d [.ref 3, .int x1] w Q1 ∧ ∀ (r1 : Int32) (w1 : Wd), Q1 r1 w1 → ((¬ r1 = 0 → ∃ j1 : Nat, x1 = nI j1 ∧ j1 < 40 ∧ ((nI 0) = 0 ∨ (nI 0) = 1) ∧ ((nI 1) = 0 ∨ (nI 1) = 1) ∧ Q (nI 1) (up1 (up1 w1 6 j1 (nI 0)) 3 6 ((w1.1 3 6) - (nI 1)))) ∧ (r1 = 0 → ((nI 0) = 0 ∨ (nI 0) = 1) ∧ Q (nI 0) w1))) : Z m_Sentences_remove (d + 1) (qI Q) 0 [(0, .ref 3), (1, .int x1)] [] w := wp_ok (P := P_Sentences_remove) (S := S_Sentences_remove) rfl pr_Sentences_remove 18 _ _ _ _ h
def P_Sentences_isThere : Prog := [(0, .iload_n 1), (1, .ifCond .lt 24), (4, .iload_n 1), (5, .aload_n 0), (6, .getfield 29), (9, .if_icmp .ge 16), (12, .aload_n 0), (13, .getfield 18), (16, .iload_n 1), (17, .baload), (18, .ifCond .eq 7), (21, .iconst 1), (22, .goto 4), (25, .iconst 0), (26, .ireturn)]
theorem pr_Sentences_isThere : prOK m_Sentences_isThere P_Sentences_isThere = true := by decide +kernel
def S_Sentences_isThere : List (Nat × List Nat) := []
theorem ev_Sentences_isThere {d : Nat} {w : Wd} {Q : Int32 → Wd → Prop} (x1 : Int32) (h : Z m_Sentences_isThere d (qI Q) 0 [(0, .ref 3), (1, .int x1)] [] w) : EvI m_Sentences_isThere d [.ref 3, .int x1] w Q := Ev.ofZ (by decide +kernel) (Nat.le_of_ble_eq_true rfl) h
set_option maxRecDepth 20000 in
set_option maxHeartbeats 1000000 in
theorem vc_Sentences_isThere_0 {d : Nat} {w : Wd} {Q : Int32 → Wd → Prop} (x1 : Int32) (h : ((x1 < 0 → ((nI 0) = 0 ∨ (nI 0) = 1) ∧ Q (nI 0) w) ∧ (¬ x1 < 0 → (((w.1 3 5) ≤ x1 → ((nI 0) = 0 ∨ (nI 0) = 1) ∧ Q (nI 0) w) ∧ (¬ (w.1 3 5) ≤ x1 → ∃ j1 : Nat, x1 = nI j1 ∧ j1 < 40 ∧ (((w.1 6 j1) = 0 → ((nI 0) = 0 ∨ (nI 0) = 1) ∧ Q (nI 0) w) ∧ (¬ (w.1 6 j1) = 0 → ((nI 1) = 0 ∨ (nI 1) = 1) ∧ Q (nI 1) w))))))) : Z m_Sentences_isThere d (qI Q) 0 [(0, .ref 3), (1, .int x1)] [] w := wp_ok (P := P_Sentences_isThere) (S := S_Sentences_isThere) rfl pr_Sentences_isThere 15 _ _ _ _ h
def P_Sentences_lengthOf : Prog := [(0, .iload_n 1), (1, .ifCond .lt 20), (4, .iload_n 1), (5, .aload_n 0), (6, .getfield 29), (9, .if_icmp .ge 12), (12, .aload_n 0), (13, .getfield 15), (16, .iload_n 1), (17, .iaload), (18, .goto 4), (21, .iconst 0), (22, .ireturn)]
theorem pr_Sentences_lengthOf : prOK m_Sentences_lengthOf P_Sentences_lengthOf = true := by decide +kernel
def S_Sentences_lengthOf : List (Nat × List Nat) := []
theorem ev_Sentences_lengthOf {d : Nat} {w : Wd} {Q : Int32 → Wd → Prop} (x1 : Int32) (h : Z m_Sentences_lengthOf d (qI Q) 0 [(0, .ref 3), (1, .int x1)] [] w) : EvI m_Sentences_lengthOf d [.ref 3, .int x1] w Q := Ev.ofZ (by decide +kernel) (Nat.le_of_ble_eq_true rfl) h
set_option maxRecDepth 20000 in
set_option maxHeartbeats 1000000 in
theorem vc_Sentences_lengthOf_0 {d : Nat} {w : Wd} {Q : Int32 → Wd → Prop} (x1 : Int32) (h : ((x1 < 0 → Q (nI 0) w) ∧ (¬ x1 < 0 → (((w.1 3 5) ≤ x1 → Q (nI 0) w) ∧ (¬ (w.1 3 5) ≤ x1 → ∃ j1 : Nat, x1 = nI j1 ∧ j1 < 40 ∧ Q (w.1 5 j1) w))))) : Z m_Sentences_lengthOf d (qI Q) 0 [(0, .ref 3), (1, .int x1)] [] w := wp_ok (P := P_Sentences_lengthOf) (S := S_Sentences_lengthOf) rfl pr_Sentences_lengthOf 13 _ _ _ _ h
def P_Sentences_wordAt : Prog := [(0, .iload_n 1), (1, .ifCond .lt 29), (4, .iload_n 1), (5, .aload_n 0), (6, .getfield 29), (9, .if_icmp .ge 21), (12, .iload_n 2), (13, .ifCond .lt 17), (16, .iload_n 2), (17, .aload_n 0), (18, .getfield 15), (21, .iload_n 1), (22, .iaload), (23, .if_icmp .ge 7), (26, .iconst 1), (27, .goto 4), (30, .iconst 0), (31, .istore_n 3), (32, .iload_n 3), (33, .ifCond .eq 17), (36, .aload_n 0), (37, .getfield 9), (40, .iload_n 1), (41, .bipush 16), (43, .imul), (44, .iload_n 2), (45, .iadd), (46, .iaload), (47, .goto 4), (50, .iconst 0), (51, .ireturn)]
theorem pr_Sentences_wordAt : prOK m_Sentences_wordAt P_Sentences_wordAt = true := by decide +kernel
def S_Sentences_wordAt : List (Nat × List Nat) := []
theorem ev_Sentences_wordAt {d : Nat} {w : Wd} {Q : Int32 → Wd → Prop} (x1 : Int32) (x2 : Int32) (h : Z m_Sentences_wordAt d (qI Q) 0 [(0, .ref 3), (1, .int x1), (2, .int x2)] [] w) : EvI m_Sentences_wordAt d [.ref 3, .int x1, .int x2] w Q := Ev.ofZ (by decide +kernel) (Nat.le_of_ble_eq_true rfl) h
set_option maxRecDepth 20000 in
set_option maxHeartbeats 1000000 in
theorem vc_Sentences_wordAt_0 {d : Nat} {w : Wd} {Q : Int32 → Wd → Prop} (x1 : Int32) (x2 : Int32) (h : ((x1 < 0 → (((nI 0) = 0 → Q (nI 0) w) ∧ (¬ (nI 0) = 0 → ∃ j1 : Nat, ((x1 * (nI 16)) + x2) = nI j1 ∧ j1 < 640 ∧ Q (w.1 4 j1) w))) ∧ (¬ x1 < 0 → (((w.1 3 5) ≤ x1 → (((nI 0) = 0 → Q (nI 0) w) ∧ (¬ (nI 0) = 0 → ∃ j2 : Nat, ((x1 * (nI 16)) + x2) = nI j2 ∧ j2 < 640 ∧ Q (w.1 4 j2) w))) ∧ (¬ (w.1 3 5) ≤ x1 → ((x2 < 0 → (((nI 0) = 0 → Q (nI 0) w) ∧ (¬ (nI 0) = 0 → ∃ j3 : Nat, ((x1 * (nI 16)) + x2) = nI j3 ∧ j3 < 640 ∧ Q (w.1 4 j3) w))) ∧ (¬ x2 < 0 → ∃ j4 : Nat, x1 = nI j4 ∧ j4 < 40 ∧ (((w.1 5 j4) ≤ x2 → (((nI 0) = 0 → Q (nI 0) w) ∧ (¬ (nI 0) = 0 → ∃ j5 : Nat, ((x1 * (nI 16)) + x2) = nI j5 ∧ j5 < 640 ∧ Q (w.1 4 j5) w))) ∧ (¬ (w.1 5 j4) ≤ x2 → (((nI 1) = 0 → Q (nI 0) w) ∧ (¬ (nI 1) = 0 → ∃ j6 : Nat, ((x1 * (nI 16)) + x2) = nI j6 ∧ j6 < 640 ∧ Q (w.1 4 j6) w))))))))))) : Z m_Sentences_wordAt d (qI Q) 0 [(0, .ref 3), (1, .int x1), (2, .int x2)] [] w := wp_ok (P := P_Sentences_wordAt) (S := S_Sentences_wordAt) rfl pr_Sentences_wordAt 30 _ _ _ _ h
def P_Sentences_told : Prog := [(0, .aload_n 0), (1, .getfield 25), (4, .ireturn)]
theorem pr_Sentences_told : prOK m_Sentences_told P_Sentences_told = true := by decide +kernel
def S_Sentences_told : List (Nat × List Nat) := []
theorem ev_Sentences_told {d : Nat} {w : Wd} {Q : Int32 → Wd → Prop}  (h : Z m_Sentences_told d (qI Q) 0 [(0, .ref 3)] [] w) : EvI m_Sentences_told d [.ref 3] w Q := Ev.ofZ (by decide +kernel) (Nat.le_of_ble_eq_true rfl) h
set_option maxRecDepth 20000 in
set_option maxHeartbeats 1000000 in
theorem vc_Sentences_told_0 {d : Nat} {w : Wd} {Q : Int32 → Wd → Prop}  (h : Q (w.1 3 4) w) : Z m_Sentences_told d (qI Q) 0 [(0, .ref 3)] [] w := wp_ok (P := P_Sentences_told) (S := S_Sentences_told) rfl pr_Sentences_told 4 _ _ _ _ h
def P_Sentences_came : Prog := [(0, .aload_n 0), (1, .getfield 29), (4, .ireturn)]
theorem pr_Sentences_came : prOK m_Sentences_came P_Sentences_came = true := by decide +kernel
def S_Sentences_came : List (Nat × List Nat) := []
theorem ev_Sentences_came {d : Nat} {w : Wd} {Q : Int32 → Wd → Prop}  (h : Z m_Sentences_came d (qI Q) 0 [(0, .ref 3)] [] w) : EvI m_Sentences_came d [.ref 3] w Q := Ev.ofZ (by decide +kernel) (Nat.le_of_ble_eq_true rfl) h
set_option maxRecDepth 20000 in
set_option maxHeartbeats 1000000 in
theorem vc_Sentences_came_0 {d : Nat} {w : Wd} {Q : Int32 → Wd → Prop}  (h : Q (w.1 3 5) w) : Z m_Sentences_came d (qI Q) 0 [(0, .ref 3)] [] w := wp_ok (P := P_Sentences_came) (S := S_Sentences_came) rfl pr_Sentences_came 4 _ _ _ _ h
def P_Sentences_present : Prog := [(0, .aload_n 0), (1, .getfield 38), (4, .ireturn)]
theorem pr_Sentences_present : prOK m_Sentences_present P_Sentences_present = true := by decide +kernel
def S_Sentences_present : List (Nat × List Nat) := []
theorem ev_Sentences_present {d : Nat} {w : Wd} {Q : Int32 → Wd → Prop}  (h : Z m_Sentences_present d (qI Q) 0 [(0, .ref 3)] [] w) : EvI m_Sentences_present d [.ref 3] w Q := Ev.ofZ (by decide +kernel) (Nat.le_of_ble_eq_true rfl) h
set_option maxRecDepth 20000 in
set_option maxHeartbeats 1000000 in
theorem vc_Sentences_present_0 {d : Nat} {w : Wd} {Q : Int32 → Wd → Prop}  (h : Q (w.1 3 6) w) : Z m_Sentences_present d (qI Q) 0 [(0, .ref 3)] [] w := wp_ok (P := P_Sentences_present) (S := S_Sentences_present) rfl pr_Sentences_present 4 _ _ _ _ h
def P_Tape_put : Prog := [(0, .bipush 56), (2, .istore_n 3), (3, .iload_n 3), (4, .ifCond .lt 59), (7, .lload_n 1), (8, .iload_n 3), (9, .lushr), (10, .l2i), (11, .sipush 255), (14, .iand), (15, .istore 4), (17, .iload 4), (19, .invokestatic 15), (22, .ifCond .eq 35), (25, .aload_n 0), (26, .getfield 19), (29, .sipush 1200), (32, .if_icmp .ge 25), (35, .aload_n 0), (36, .getfield 9), (39, .aload_n 0), (40, .getfield 19), (43, .iload 4), (45, .i2c), (46, .castore), (47, .aload_n 0), (48, .dup), (49, .getfield 19), (52, .iconst 1), (53, .iadd), (54, .putfield 19), (57, .iinc 3 (-8)), (60, .goto (-57)), (63, .return_)]
theorem pr_Tape_put : prOK m_Tape_put P_Tape_put = true := by decide +kernel
def S_Tape_put : List (Nat × List Nat) := [(3, [0, 1, 3])]
theorem ev_Tape_put {d : Nat} {w : Wd} {Q : Wd → Prop} (x1 : Int64) (h : Z m_Tape_put d (qV Q) 0 [(0, .ref 8), (1, .long x1)] [] w) : EvV m_Tape_put d [.ref 8, .long x1] w Q := Ev.ofZ (by decide +kernel) (Nat.le_of_ble_eq_true rfl) h
set_option maxRecDepth 20000 in
set_option maxHeartbeats 1000000 in
theorem vc_Tape_put_0 {d : Nat} {w : Wd} {Q : Wd → Prop} (x1 : Int64) (h : Z m_Tape_put (d + 1) (qV Q) 3 [(0, .ref 8), (1, .long x1), (3, .int (nI 56))] [] w) : Z m_Tape_put (d + 1) (qV Q) 0 [(0, .ref 8), (1, .long x1)] [] w := wp_ok (P := P_Tape_put) (S := S_Tape_put) rfl pr_Tape_put 3 _ _ _ _ h
set_option maxRecDepth 20000 in
set_option maxHeartbeats 1000000 in
theorem vc_Tape_put_3 {d : Nat} {w : Wd} {Q : Wd → Prop} (x1 : Int64) (x3 : Int32) (h : ((x3 < 0 → Q w) ∧ (¬ x3 < 0 → ∃ Q1 : Int32 → Wd → Prop, EvI m_Tape_isKnown d [.int ((((x1.toUInt64 >>> (x3.toInt64.toUInt64 &&& Int64.toUInt64 63)).toInt64).toInt32) &&& (nI 255))] w Q1 ∧ ∀ (r1 : Int32) (w1 : Wd), Q1 r1 w1 → ((r1 = 0 → Z m_Tape_put (d + 1) (qV Q) 3 [(0, .ref 8), (1, .long x1), (3, .int (x3 + (-nI 8)))] [] w1) ∧ (¬ r1 = 0 → (((nI 1200) ≤ (w1.1 8 1) → Z m_Tape_put (d + 1) (qV Q) 3 [(0, .ref 8), (1, .long x1), (3, .int (x3 + (-nI 8)))] [] w1) ∧ (¬ (nI 1200) ≤ (w1.1 8 1) → ∃ j1 : Nat, (w1.1 8 1) = nI j1 ∧ j1 < 1200 ∧ (∃ z1 : Nat, z1 < 65536 ∧ ((((((x1.toUInt64 >>> (x3.toInt64.toUInt64 &&& Int64.toUInt64 63)).toInt64).toInt32) &&& (nI 255)).toUInt32 % 65536).toInt32) = nI z1) ∧ Z m_Tape_put (d + 1) (qV Q) 3 [(0, .ref 8), (1, .long x1), (3, .int (x3 + (-nI 8)))] [] (up1 (up1 w1 9 j1 ((((((x1.toUInt64 >>> (x3.toInt64.toUInt64 &&& Int64.toUInt64 63)).toInt64).toInt32) &&& (nI 255)).toUInt32 % 65536).toInt32)) 8 1 ((w1.1 8 1) + (nI 1)))))))))) : Z m_Tape_put (d + 1) (qV Q) 3 [(0, .ref 8), (1, .long x1), (3, .int x3)] [] w := wp_ok (P := P_Tape_put) (S := S_Tape_put) rfl pr_Tape_put 32 _ _ _ _ h
def P_Tape_isKnown : Prog := [(0, .iload_n 0), (1, .bipush 10), (3, .if_icmp .eq 15), (6, .iload_n 0), (7, .bipush 32), (9, .if_icmp .lt 13), (12, .iload_n 0), (13, .bipush 126), (15, .if_icmp .gt 7), (18, .iconst 1), (19, .goto 4), (22, .iconst 0), (23, .ireturn)]
theorem pr_Tape_isKnown : prOK m_Tape_isKnown P_Tape_isKnown = true := by decide +kernel
def S_Tape_isKnown : List (Nat × List Nat) := []
theorem ev_Tape_isKnown {d : Nat} {w : Wd} {Q : Int32 → Wd → Prop} (x0 : Int32) (h : Z m_Tape_isKnown d (qI Q) 0 [(0, .int x0)] [] w) : EvI m_Tape_isKnown d [.int x0] w Q := Ev.ofZ (by decide +kernel) (Nat.le_of_ble_eq_true rfl) h
set_option maxRecDepth 20000 in
set_option maxHeartbeats 1000000 in
theorem vc_Tape_isKnown_0 {d : Nat} {w : Wd} {Q : Int32 → Wd → Prop} (x0 : Int32) (h : ((x0 = (nI 10) → ((nI 1) = 0 ∨ (nI 1) = 1) ∧ Q (nI 1) w) ∧ (¬ x0 = (nI 10) → ((x0 < (nI 32) → ((nI 0) = 0 ∨ (nI 0) = 1) ∧ Q (nI 0) w) ∧ (¬ x0 < (nI 32) → (((nI 126) < x0 → ((nI 0) = 0 ∨ (nI 0) = 1) ∧ Q (nI 0) w) ∧ (¬ (nI 126) < x0 → ((nI 1) = 0 ∨ (nI 1) = 1) ∧ Q (nI 1) w))))))) : Z m_Tape_isKnown d (qI Q) 0 [(0, .int x0)] [] w := wp_ok (P := P_Tape_isKnown) (S := S_Tape_isKnown) rfl pr_Tape_isKnown 13 _ _ _ _ h
def P_Tape_length : Prog := [(0, .aload_n 0), (1, .getfield 19), (4, .ireturn)]
theorem pr_Tape_length : prOK m_Tape_length P_Tape_length = true := by decide +kernel
def S_Tape_length : List (Nat × List Nat) := []
theorem ev_Tape_length {d : Nat} {w : Wd} {Q : Int32 → Wd → Prop}  (h : Z m_Tape_length d (qI Q) 0 [(0, .ref 8)] [] w) : EvI m_Tape_length d [.ref 8] w Q := Ev.ofZ (by decide +kernel) (Nat.le_of_ble_eq_true rfl) h
set_option maxRecDepth 20000 in
set_option maxHeartbeats 1000000 in
theorem vc_Tape_length_0 {d : Nat} {w : Wd} {Q : Int32 → Wd → Prop}  (h : Q (w.1 8 1) w) : Z m_Tape_length d (qI Q) 0 [(0, .ref 8)] [] w := wp_ok (P := P_Tape_length) (S := S_Tape_length) rfl pr_Tape_length 4 _ _ _ _ h
def P_Tape_at : Prog := [(0, .iload_n 1), (1, .ifCond .lt 20), (4, .iload_n 1), (5, .aload_n 0), (6, .getfield 19), (9, .if_icmp .ge 12), (12, .aload_n 0), (13, .getfield 9), (16, .iload_n 1), (17, .caload), (18, .goto 4), (21, .iconst 0), (22, .ireturn)]
theorem pr_Tape_at : prOK m_Tape_at P_Tape_at = true := by decide +kernel
def S_Tape_at : List (Nat × List Nat) := []
theorem ev_Tape_at {d : Nat} {w : Wd} {Q : Int32 → Wd → Prop} (x1 : Int32) (h : Z m_Tape_at d (qI Q) 0 [(0, .ref 8), (1, .int x1)] [] w) : EvI m_Tape_at d [.ref 8, .int x1] w Q := Ev.ofZ (by decide +kernel) (Nat.le_of_ble_eq_true rfl) h
set_option maxRecDepth 20000 in
set_option maxHeartbeats 1000000 in
theorem vc_Tape_at_0 {d : Nat} {w : Wd} {Q : Int32 → Wd → Prop} (x1 : Int32) (h : ((x1 < 0 → (∃ z1 : Nat, z1 < 65536 ∧ (nI 0) = nI z1) ∧ Q (nI 0) w) ∧ (¬ x1 < 0 → (((w.1 8 1) ≤ x1 → (∃ z2 : Nat, z2 < 65536 ∧ (nI 0) = nI z2) ∧ Q (nI 0) w) ∧ (¬ (w.1 8 1) ≤ x1 → ∃ j1 : Nat, x1 = nI j1 ∧ j1 < 1200 ∧ (∃ z3 : Nat, z3 < 65536 ∧ (w.1 9 j1) = nI z3) ∧ Q (w.1 9 j1) w))))) : Z m_Tape_at d (qI Q) 0 [(0, .ref 8), (1, .int x1)] [] w := wp_ok (P := P_Tape_at) (S := S_Tape_at) rfl pr_Tape_at 13 _ _ _ _ h
def P_Tape_clear : Prog := [(0, .aload_n 0), (1, .iconst 0), (2, .putfield 19), (5, .return_)]
theorem pr_Tape_clear : prOK m_Tape_clear P_Tape_clear = true := by decide +kernel
def S_Tape_clear : List (Nat × List Nat) := []
theorem ev_Tape_clear {d : Nat} {w : Wd} {Q : Wd → Prop}  (h : Z m_Tape_clear d (qV Q) 0 [(0, .ref 8)] [] w) : EvV m_Tape_clear d [.ref 8] w Q := Ev.ofZ (by decide +kernel) (Nat.le_of_ble_eq_true rfl) h
set_option maxRecDepth 20000 in
set_option maxHeartbeats 1000000 in
theorem vc_Tape_clear_0 {d : Nat} {w : Wd} {Q : Wd → Prop}  (h : Q (up1 w 8 1 (nI 0))) : Z m_Tape_clear d (qV Q) 0 [(0, .ref 8)] [] w := wp_ok (P := P_Tape_clear) (S := S_Tape_clear) rfl pr_Tape_clear 5 _ _ _ _ h
