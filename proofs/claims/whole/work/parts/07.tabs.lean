/-! The tables of the small machine, written by program: every method, its steps. -/
noncomputable def jn_c0_0 : List (Nat × jn_E) := [(0, .inl (jn_aload_n 0)), (1, .inl jn_oinit), (4, .inl (jn_aload_n 0)), (5, .inl (jn_aload_n 1)), (6, .inl (jn_putF 0 0 2)), (9, .inl (jn_aload_n 0)), (10, .inl (jn_bipush 6)), (12, .inl jn_newI), (14, .inl (jn_putF 0 1 2)), (17, .inr (.inr 0))]
noncomputable def jn_c0 : List (Nat × jn_E) := jn_c0_0
def jn_mi0 : jn_MI := (RX0, cX0_init, 2, "<init>")
/-- DebtNet$Book.<init>(LDebtNet$Net;)V -/
noncomputable def jn_me0 : jn_Me := (jn_mi0, yX0_init, none, jn_c0)
noncomputable def jn_c1_0 : List (Nat × jn_E) := [(0, .inl (jn_iconst 0)), (1, .inl (jn_istore_n 1)), (2, .inl (jn_iconst 0)), (3, .inl (jn_istore_n 2)), (4, .inl (jn_iload_n 2)), (5, .inl (jn_bipush 6)), (7, .inl (jn_icge 25)), (10, .inl (jn_iload_n 1)), (11, .inl (jn_aload_n 0)), (12, .inl (jn_getf 0 1)), (15, .inl (jn_iload_n 2)), (16, .inl jn_iaload), (17, .inl jn_iadd), (18, .inl (jn_istore_n 1)), (19, .inl (jn_iinc 2 1)), (22, .inl (jn_goto 4)), (25, .inl (jn_iload_n 1)), (26, .inr (.inr 1))]
noncomputable def jn_c1 : List (Nat × jn_E) := jn_c1_0
def jn_mi1 : jn_MI := (RX0, cX0_total, 3, "total")
/-- DebtNet$Book.total()I -/
noncomputable def jn_me1 : jn_Me := (jn_mi1, yX0_total, (some .int), jn_c1)
noncomputable def jn_c2_0 : List (Nat × jn_E) := [(0, .inl (jn_iconst 0)), (1, .inl (jn_istore_n 2)), (2, .inl (jn_iload_n 2)), (3, .inl (jn_bipush 6)), (5, .inl (jn_icge 30)), (8, .inl (jn_iload_n 2)), (9, .inl (jn_iload_n 1)), (10, .inl (jn_iceq 24)), (13, .inl (jn_aload_n 0)), (14, .inl (jn_getf 0 1)), (17, .inl (jn_iload_n 2)), (18, .inl jn_iaload), (19, .inl (jn_ifge 24)), (22, .inl (jn_iconst 1)), (23, .inr (.inr 2)), (24, .inl (jn_iinc 2 1)), (27, .inl (jn_goto 2)), (30, .inl (jn_iconst 0)), (31, .inr (.inr 2))]
noncomputable def jn_c2 : List (Nat × jn_E) := jn_c2_0
def jn_mi2 : jn_MI := (RX0, cX0_hasDebtBeside, 3, "hasDebtBeside")
/-- DebtNet$Book.hasDebtBeside(I)Z -/
noncomputable def jn_me2 : jn_Me := (jn_mi2, yX0_hasDebtBeside, (some .boolean), jn_c2)
noncomputable def jn_c3_0 : List (Nat × jn_E) := [(0, .inl (jn_iconst 0)), (1, .inl (jn_istore_n 2)), (2, .inl (jn_iconst 0)), (3, .inl (jn_istore_n 3)), (4, .inl (jn_iload_n 3)), (5, .inl (jn_bipush 6)), (7, .inl (jn_icge 31)), (10, .inl (jn_aload_n 0)), (11, .inl (jn_getf 0 1)), (14, .inl (jn_iload_n 3)), (15, .inl jn_iaload), (16, .inl (jn_aload_n 1)), (17, .inl (jn_iload_n 3)), (18, .inl jn_iaload), (19, .inl (jn_iceq 25)), (22, .inl (jn_iinc 2 1)), (25, .inl (jn_iinc 3 1)), (28, .inl (jn_goto 4)), (31, .inl (jn_iload_n 2)), (32, .inr (.inr 1))]
noncomputable def jn_c3 : List (Nat × jn_E) := jn_c3_0
def jn_mi3 : jn_MI := (RX0, cX0_differencesFrom, 4, "differencesFrom")
/-- DebtNet$Book.differencesFrom([I)I -/
noncomputable def jn_me3 : jn_Me := (jn_mi3, yX0_differencesFrom, (some .int), jn_c3)
noncomputable def jn_c4_0 : List (Nat × jn_E) := [(0, .inl (jn_aload_n 0)), (1, .inl (jn_getf 0 1)), (4, .inl (jn_iconst 0)), (5, .inl (jn_aload_n 1)), (6, .inl (jn_iconst 0)), (7, .inl (jn_bipush 6)), (9, .inl jn_acopy), (12, .inr (.inr 0))]
noncomputable def jn_c4 : List (Nat × jn_E) := jn_c4_0
def jn_mi4 : jn_MI := (RX0, cX0_copyTo, 2, "copyTo")
/-- DebtNet$Book.copyTo([I)V -/
noncomputable def jn_me4 : jn_Me := (jn_mi4, yX0_copyTo, none, jn_c4)
noncomputable def jn_c5_0 : List (Nat × jn_E) := [(0, .inl (jn_aload_n 0)), (1, .inl (jn_aload_n 1)), (2, .inr (.inl (3, 2, 2))), (5, .inl (jn_istore_n 2)), (6, .inl (jn_aload_n 1)), (7, .inl (jn_iconst 0)), (8, .inl (jn_aload_n 0)), (9, .inl (jn_getf 0 1)), (12, .inl (jn_iconst 0)), (13, .inl (jn_bipush 6)), (15, .inl jn_acopy), (18, .inl (jn_iload_n 2)), (19, .inr (.inr 1))]
noncomputable def jn_c5 : List (Nat × jn_E) := jn_c5_0
def jn_mi5 : jn_MI := (RX0, cX0_takeFrom, 3, "takeFrom")
/-- DebtNet$Book.takeFrom([I)I -/
noncomputable def jn_me5 : jn_Me := (jn_mi5, yX0_takeFrom, (some .int), jn_c5)
noncomputable def jn_c6_0 : List (Nat × jn_E) := [(0, .inl (jn_iconst 1)), (1, .inl (jn_iload_n 1)), (2, .inl jn_ishl), (3, .inl (jn_istore_n 2)), (4, .inl (jn_iconst 1)), (5, .inl (jn_istore_n 3)), (6, .inl (jn_iload_n 3)), (7, .inl (jn_aload_n 0)), (8, .inl (jn_getf 0 0)), (11, .inl (jn_getf 2 1)), (14, .inl (jn_icge 71)), (17, .inl (jn_iconst 0)), (18, .inl (jn_istore 4)), (20, .inl (jn_iload 4)), (22, .inl (jn_aload_n 0)), (23, .inl (jn_getf 0 0)), (26, .inl (jn_getf 2 1)), (29, .inl (jn_icge 65)), (32, .inl (jn_aload_n 0)), (33, .inl (jn_getf 0 0)), (36, .inl (jn_iload 4)), (38, .inl (jn_iload_n 2)), (39, .inr (.inl (17, 4, 3))), (42, .inl (jn_aload_n 0))]
noncomputable def jn_c6_1 : List (Nat × jn_E) := [(43, .inl (jn_getf 0 1)), (46, .inl (jn_iload 4)), (48, .inl jn_iaload), (49, .inl (jn_icle 59)), (52, .inl (jn_iload_n 2)), (53, .inl (jn_iconst 1)), (54, .inl (jn_iload 4)), (56, .inl jn_ishl), (57, .inl jn_ior), (58, .inl (jn_istore_n 2)), (59, .inl (jn_iinc 4 1)), (62, .inl (jn_goto 20)), (65, .inl (jn_iinc 3 1)), (68, .inl (jn_goto 6)), (71, .inl (jn_iload_n 2)), (72, .inr (.inr 1))]
noncomputable def jn_c6 : List (Nat × jn_E) := jn_c6_0 ++ (jn_c6_1)
def jn_mi6 : jn_MI := (RX0, cX0_fireFrom, 5, "fireFrom")
/-- DebtNet$Book.fireFrom(I)I -/
noncomputable def jn_me6 : jn_Me := (jn_mi6, yX0_fireFrom, (some .int), jn_c6)
noncomputable def jn_c7_0 : List (Nat × jn_E) := [(0, .inl (jn_aload_n 0)), (1, .inl jn_oinit), (4, .inl (jn_aload_n 0)), (5, .inl (jn_new 5 1 [.null])), (8, .inl jn_dup), (9, .inr (.inl (42, 1, 1))), (12, .inl (jn_putF 1 1 2)), (15, .inl (jn_aload_n 0)), (16, .inl (jn_new 5 1 [.null])), (19, .inl jn_dup), (20, .inr (.inl (42, 1, 1))), (23, .inl (jn_putF 1 2 2)), (26, .inl (jn_aload_n 0)), (27, .inl (jn_bipush 6)), (29, .inl jn_newI), (31, .inl (jn_putF 1 3 2)), (34, .inl (jn_aload_n 0)), (35, .inl (jn_aload_n 1)), (36, .inl (jn_putF 1 0 2)), (39, .inr (.inr 0))]
noncomputable def jn_c7 : List (Nat × jn_E) := jn_c7_0
def jn_mi7 : jn_MI := (RX1, cX1_init, 2, "<init>")
/-- DebtNet$Breaker.<init>(LDebtNet$Reducer;)V -/
noncomputable def jn_me7 : jn_Me := (jn_mi7, yX1_init, none, jn_c7)
noncomputable def jn_c8_0 : List (Nat × jn_E) := [(0, .inl (jn_aload_n 1)), (1, .inr (.inl (1, 2, 1))), (4, .inl (jn_istore_n 2)), (5, .inl (jn_aload_n 1)), (6, .inl (jn_getf 0 0)), (9, .inr (.inl (19, 4, 1))), (12, .inl (jn_istore_n 3)), (13, .inl (jn_iload_n 2)), (14, .inl (jn_ifge 19)), (17, .inl (jn_iconst (-1))), (18, .inr (.inr 1)), (19, .inl (jn_iload_n 2)), (20, .inl (jn_iconst 2)), (21, .inl (jn_iload_n 3)), (22, .inl jn_imul), (23, .inl (jn_iconst 2)), (24, .inl jn_isub), (25, .inl (jn_icle 32)), (28, .inl (jn_iload_n 2)), (29, .inl (jn_iload_n 3)), (30, .inl jn_isub), (31, .inr (.inr 1)), (32, .inl (jn_iconst 0)), (33, .inl (jn_istore 4))]
noncomputable def jn_c8_1 : List (Nat × jn_E) := [(35, .inl (jn_iload 4)), (37, .inl (jn_iload_n 2)), (38, .inl (jn_icgt 69)), (41, .inl (jn_aload_n 0)), (42, .inl (jn_aload_n 1)), (43, .inl (jn_getf 0 0)), (46, .inl (jn_aload_n 1)), (47, .inl (jn_getf 0 1)), (50, .inl (jn_iload 4)), (52, .inr (.inl (9, 3, 4))), (55, .inl (jn_ifeq 63)), (58, .inl (jn_iload 4)), (60, .inl (jn_iconst 1)), (61, .inl jn_isub), (62, .inr (.inr 1)), (63, .inl (jn_iinc 4 1)), (66, .inl (jn_goto 35)), (69, .inl (jn_iload_n 2)), (70, .inr (.inr 1))]
noncomputable def jn_c8 : List (Nat × jn_E) := jn_c8_0 ++ (jn_c8_1)
def jn_mi8 : jn_MI := (RX1, cX1_findRank, 5, "findRank")
/-- DebtNet$Breaker.findRank(LDebtNet$Book;)I -/
noncomputable def jn_me8 : jn_Me := (jn_mi8, yX1_findRank, (some .int), jn_c8)
noncomputable def jn_c9_0 : List (Nat × jn_E) := [(0, .inl (jn_aload_n 0)), (1, .inl (jn_getf 1 1)), (4, .inl (jn_iload_n 3)), (5, .inr (.inl (43, 7, 2))), (8, .inl (jn_iconst 1)), (9, .inl (jn_istore 4)), (11, .inl (jn_iconst 0)), (12, .inl (jn_istore 5)), (14, .inl (jn_iload 5)), (16, .inl (jn_ldc 1000000)), (18, .inl (jn_icge 105)), (21, .inl (jn_iload 4)), (23, .inl (jn_ifeq 105)), (26, .inl (jn_iconst 0)), (27, .inl (jn_istore 6)), (29, .inl (jn_iload 6)), (31, .inl (jn_bipush 6)), (33, .inl (jn_icge 64)), (36, .inl (jn_aload_n 0)), (37, .inl (jn_getf 1 3)), (40, .inl (jn_iload 6)), (42, .inl (jn_aload_n 2)), (43, .inl (jn_iload 6)), (45, .inl jn_iaload)]
noncomputable def jn_c9_1 : List (Nat × jn_E) := [(46, .inl (jn_aload_n 0)), (47, .inl (jn_getf 1 1)), (50, .inl (jn_getf 5 0)), (53, .inl (jn_iload 6)), (55, .inl jn_iaload), (56, .inl jn_isub), (57, .inl jn_iastore), (58, .inl (jn_iinc 6 1)), (61, .inl (jn_goto 29)), (64, .inl (jn_aload_n 0)), (65, .inl (jn_getf 1 0)), (68, .inl (jn_aload_n 0)), (69, .inl (jn_getf 1 3)), (72, .inr (.inl (29, 5, 2))), (75, .inl (jn_aload_n 0)), (76, .inl (jn_getf 1 3)), (79, .inl (jn_iconst 0)), (80, .inl jn_iaload), (81, .inl (jn_ifge 86)), (84, .inl (jn_iconst 1)), (85, .inr (.inr 2)), (86, .inl (jn_aload_n 0)), (87, .inl (jn_getf 1 1)), (90, .inl (jn_aload_n 1))]
noncomputable def jn_c9_2 : List (Nat × jn_E) := [(91, .inl (jn_getf 2 1)), (94, .inr (.inl (44, 7, 2))), (97, .inl (jn_istore 4)), (99, .inl (jn_iinc 5 1)), (102, .inl (jn_goto 14)), (105, .inl (jn_iconst 0)), (106, .inr (.inr 2))]
noncomputable def jn_c9 : List (Nat × jn_E) := jn_c9_0 ++ (jn_c9_1 ++ (jn_c9_2))
def jn_mi9 : jn_MI := (RX1, cX1_breaks, 7, "breaks")
/-- DebtNet$Breaker.breaks(LDebtNet$Net;[II)Z -/
noncomputable def jn_me9 : jn_Me := (jn_mi9, yX1_breaks, (some .boolean), jn_c9)
noncomputable def jn_c10_0 : List (Nat × jn_E) := [(0, .inl (jn_aload_n 0)), (1, .inl (jn_getf 1 2)), (4, .inl (jn_iload_n 2)), (5, .inl (jn_iconst 1)), (6, .inl jn_isub), (7, .inr (.inl (43, 7, 2))), (10, .inl (jn_iconst 1)), (11, .inl (jn_istore_n 3)), (12, .inl (jn_iconst 0)), (13, .inl (jn_istore 4)), (15, .inl (jn_iload 4)), (17, .inl (jn_ldc 1000000)), (19, .inl (jn_icge 92)), (22, .inl (jn_iload_n 3)), (23, .inl (jn_ifeq 92)), (26, .inl (jn_aload_n 0)), (27, .inl (jn_getf 1 2)), (30, .inl (jn_getf 5 0)), (33, .inl (jn_iconst 0)), (34, .inl jn_dup2), (35, .inl jn_iaload), (36, .inl (jn_iconst 1)), (37, .inl jn_iadd), (38, .inl jn_iastore)]
noncomputable def jn_c10_1 : List (Nat × jn_E) := [(39, .inl (jn_aload_n 0)), (40, .inl (jn_aload_n 1)), (41, .inl (jn_aload_n 0)), (42, .inl (jn_getf 1 2)), (45, .inl (jn_getf 5 0)), (48, .inl (jn_iconst 1)), (49, .inr (.inl (9, 3, 4))), (52, .inl (jn_istore 5)), (54, .inl (jn_aload_n 0)), (55, .inl (jn_getf 1 2)), (58, .inl (jn_getf 5 0)), (61, .inl (jn_iconst 0)), (62, .inl jn_dup2), (63, .inl jn_iaload), (64, .inl (jn_iconst 1)), (65, .inl jn_isub), (66, .inl jn_iastore), (67, .inl (jn_iload 5)), (69, .inl (jn_ifne 74)), (72, .inl (jn_iconst 1)), (73, .inr (.inr 2)), (74, .inl (jn_aload_n 0)), (75, .inl (jn_getf 1 2)), (78, .inl (jn_aload_n 1))]
noncomputable def jn_c10_2 : List (Nat × jn_E) := [(79, .inl (jn_getf 2 1)), (82, .inr (.inl (44, 7, 2))), (85, .inl (jn_istore_n 3)), (86, .inl (jn_iinc 4 1)), (89, .inl (jn_goto 15)), (92, .inl (jn_iconst 0)), (93, .inr (.inr 2))]
noncomputable def jn_c10 : List (Nat × jn_E) := jn_c10_0 ++ (jn_c10_1 ++ (jn_c10_2))
def jn_mi10 : jn_MI := (RX1, cX1_someReachesRankOne, 6, "someReachesRankOne")
/-- DebtNet$Breaker.someReachesRankOne(LDebtNet$Net;I)Z -/
noncomputable def jn_me10 : jn_Me := (jn_mi10, yX1_someReachesRankOne, (some .boolean), jn_c10)
noncomputable def jn_c11_0 : List (Nat × jn_E) := [(0, .inl (jn_aload_n 0)), (1, .inl jn_oinit), (4, .inl (jn_aload_n 0)), (5, .inl (jn_iload_n 1)), (6, .inl (jn_putF 2 0 0)), (9, .inl (jn_aload_n 0)), (10, .inl (jn_iload_n 2)), (11, .inl (jn_putF 2 1 0)), (14, .inl (jn_aload_n 0)), (15, .inl (jn_bipush 36)), (17, .inl jn_newI), (19, .inl (jn_putF 2 2 2)), (22, .inr (.inr 0))]
noncomputable def jn_c11 : List (Nat × jn_E) := jn_c11_0
def jn_mi11 : jn_MI := (RX2, cX2_init, 3, "<init>")
/-- DebtNet$Net.<init>(II)V -/
noncomputable def jn_me11 : jn_Me := (jn_mi11, yX2_init, none, jn_c11)
noncomputable def jn_c12_0 : List (Nat × jn_E) := [(0, .inl (jn_iload_n 1)), (1, .inl (jn_iflt 16)), (4, .inl (jn_iload_n 1)), (5, .inl (jn_aload_n 0)), (6, .inl (jn_getf 2 1)), (9, .inl (jn_icge 16)), (12, .inl (jn_iconst 1)), (13, .inl (jn_goto 17)), (16, .inl (jn_iconst 0)), (17, .inr (.inr 2))]
noncomputable def jn_c12 : List (Nat × jn_E) := jn_c12_0
def jn_mi12 : jn_MI := (RX2, cX2_has, 2, "has")
/-- DebtNet$Net.has(I)Z -/
noncomputable def jn_me12 : jn_Me := (jn_mi12, yX2_has, (some .boolean), jn_c12)
noncomputable def jn_c13_0 : List (Nat × jn_E) := [(0, .inl (jn_iconst 1)), (1, .inl (jn_aload_n 0)), (2, .inl (jn_getf 2 1)), (5, .inl jn_ishl), (6, .inl (jn_iconst 1)), (7, .inl jn_isub), (8, .inr (.inr 1))]
noncomputable def jn_c13 : List (Nat × jn_E) := jn_c13_0
def jn_mi13 : jn_MI := (RX2, cX2_everyPost, 1, "everyPost")
/-- DebtNet$Net.everyPost()I -/
noncomputable def jn_me13 : jn_Me := (jn_mi13, yX2_everyPost, (some .int), jn_c13)
noncomputable def jn_c14_0 : List (Nat × jn_E) := [(0, .inl (jn_aload_n 0)), (1, .inl (jn_getf 2 2)), (4, .inl (jn_iload_n 1)), (5, .inl (jn_bipush 6)), (7, .inl jn_imul), (8, .inl (jn_iload_n 2)), (9, .inl jn_iadd), (10, .inl jn_iaload), (11, .inr (.inr 1))]
noncomputable def jn_c14 : List (Nat × jn_E) := jn_c14_0
def jn_mi14 : jn_MI := (RX2, cX2_roadsBetween, 3, "roadsBetween")
/-- DebtNet$Net.roadsBetween(II)I -/
noncomputable def jn_me14 : jn_Me := (jn_mi14, yX2_roadsBetween, (some .int), jn_c14)
noncomputable def jn_c15_0 : List (Nat × jn_E) := [(0, .inl (jn_aload_n 0)), (1, .inl (jn_getf 2 2)), (4, .inl (jn_iload_n 1)), (5, .inl (jn_bipush 6)), (7, .inl jn_imul), (8, .inl (jn_iload_n 2)), (9, .inl jn_iadd), (10, .inl (jn_iload_n 3)), (11, .inl jn_iastore), (12, .inl (jn_aload_n 0)), (13, .inl (jn_getf 2 2)), (16, .inl (jn_iload_n 2)), (17, .inl (jn_bipush 6)), (19, .inl jn_imul), (20, .inl (jn_iload_n 1)), (21, .inl jn_iadd), (22, .inl (jn_iload_n 3)), (23, .inl jn_iastore), (24, .inr (.inr 0))]
noncomputable def jn_c15 : List (Nat × jn_E) := jn_c15_0
def jn_mi15 : jn_MI := (RX2, cX2_setRoads, 4, "setRoads")
/-- DebtNet$Net.setRoads(III)V -/
noncomputable def jn_me15 : jn_Me := (jn_mi15, yX2_setRoads, none, jn_c15)
noncomputable def jn_c16_0 : List (Nat × jn_E) := [(0, .inl (jn_iconst 0)), (1, .inl (jn_istore_n 2)), (2, .inl (jn_iconst 0)), (3, .inl (jn_istore_n 3)), (4, .inl (jn_iload_n 3)), (5, .inl (jn_aload_n 0)), (6, .inl (jn_getf 2 1)), (9, .inl (jn_icge 32)), (12, .inl (jn_iload_n 2)), (13, .inl (jn_aload_n 0)), (14, .inl (jn_getf 2 2)), (17, .inl (jn_iload_n 1)), (18, .inl (jn_bipush 6)), (20, .inl jn_imul), (21, .inl (jn_iload_n 3)), (22, .inl jn_iadd), (23, .inl jn_iaload), (24, .inl jn_iadd), (25, .inl (jn_istore_n 2)), (26, .inl (jn_iinc 3 1)), (29, .inl (jn_goto 4)), (32, .inl (jn_iload_n 2)), (33, .inr (.inr 1))]
noncomputable def jn_c16 : List (Nat × jn_E) := jn_c16_0
def jn_mi16 : jn_MI := (RX2, cX2_roadsOf, 4, "roadsOf")
/-- DebtNet$Net.roadsOf(I)I -/
noncomputable def jn_me16 : jn_Me := (jn_mi16, yX2_roadsOf, (some .int), jn_c16)
noncomputable def jn_c17_0 : List (Nat × jn_E) := [(0, .inl (jn_iconst 0)), (1, .inl (jn_istore_n 3)), (2, .inl (jn_iconst 0)), (3, .inl (jn_istore 4)), (5, .inl (jn_iload 4)), (7, .inl (jn_aload_n 0)), (8, .inl (jn_getf 2 1)), (11, .inl (jn_icge 44)), (14, .inl (jn_iload_n 2)), (15, .inl (jn_iload 4)), (17, .inl jn_ishr), (18, .inl (jn_iconst 1)), (19, .inl jn_iand), (20, .inl (jn_ifeq 38)), (23, .inl (jn_iload_n 3)), (24, .inl (jn_aload_n 0)), (25, .inl (jn_getf 2 2)), (28, .inl (jn_iload_n 1)), (29, .inl (jn_bipush 6)), (31, .inl jn_imul), (32, .inl (jn_iload 4)), (34, .inl jn_iadd), (35, .inl jn_iaload), (36, .inl jn_iadd)]
noncomputable def jn_c17_1 : List (Nat × jn_E) := [(37, .inl (jn_istore_n 3)), (38, .inl (jn_iinc 4 1)), (41, .inl (jn_goto 5)), (44, .inl (jn_iload_n 3)), (45, .inr (.inr 1))]
noncomputable def jn_c17 : List (Nat × jn_E) := jn_c17_0 ++ (jn_c17_1)
def jn_mi17 : jn_MI := (RX2, cX2_roadsInto, 5, "roadsInto")
/-- DebtNet$Net.roadsInto(II)I -/
noncomputable def jn_me17 : jn_Me := (jn_mi17, yX2_roadsInto, (some .int), jn_c17)
noncomputable def jn_c18_0 : List (Nat × jn_E) := [(0, .inl (jn_iconst 0)), (1, .inl (jn_istore_n 1)), (2, .inl (jn_iconst 0)), (3, .inl (jn_istore_n 2)), (4, .inl (jn_iload_n 2)), (5, .inl (jn_aload_n 0)), (6, .inl (jn_getf 2 1)), (9, .inl (jn_icge 26)), (12, .inl (jn_iload_n 1)), (13, .inl (jn_aload_n 0)), (14, .inl (jn_iload_n 2)), (15, .inr (.inl (16, 4, 2))), (18, .inl jn_iadd), (19, .inl (jn_istore_n 1)), (20, .inl (jn_iinc 2 1)), (23, .inl (jn_goto 4)), (26, .inl (jn_iload_n 1)), (27, .inl (jn_iconst 2)), (28, .inl jn_idiv), (29, .inr (.inr 1))]
noncomputable def jn_c18 : List (Nat × jn_E) := jn_c18_0
def jn_mi18 : jn_MI := (RX2, cX2_allRoads, 3, "allRoads")
/-- DebtNet$Net.allRoads()I -/
noncomputable def jn_me18 : jn_Me := (jn_mi18, yX2_allRoads, (some .int), jn_c18)
noncomputable def jn_c19_0 : List (Nat × jn_E) := [(0, .inl (jn_aload_n 0)), (1, .inr (.inl (18, 4, 1))), (4, .inl (jn_aload_n 0)), (5, .inl (jn_getf 2 1)), (8, .inl jn_isub), (9, .inl (jn_iconst 1)), (10, .inl jn_iadd), (11, .inr (.inr 1))]
noncomputable def jn_c19 : List (Nat × jn_E) := jn_c19_0
def jn_mi19 : jn_MI := (RX2, cX2_genus, 1, "genus")
/-- DebtNet$Net.genus()I -/
noncomputable def jn_me19 : jn_Me := (jn_mi19, yX2_genus, (some .int), jn_c19)
noncomputable def jn_c20_0 : List (Nat × jn_E) := [(0, .inl (jn_iconst 1)), (1, .inl (jn_istore_n 1)), (2, .inl (jn_iconst 1)), (3, .inl (jn_istore_n 2)), (4, .inl (jn_iload_n 2)), (5, .inl (jn_aload_n 0)), (6, .inl (jn_getf 2 1)), (9, .inl (jn_icge 49)), (12, .inl (jn_iconst 0)), (13, .inl (jn_istore_n 3)), (14, .inl (jn_iload_n 3)), (15, .inl (jn_aload_n 0)), (16, .inl (jn_getf 2 1)), (19, .inl (jn_icge 43)), (22, .inl (jn_aload_n 0)), (23, .inl (jn_iload_n 3)), (24, .inl (jn_iload_n 1)), (25, .inr (.inl (17, 4, 3))), (28, .inl (jn_ifle 37)), (31, .inl (jn_iload_n 1)), (32, .inl (jn_iconst 1)), (33, .inl (jn_iload_n 3)), (34, .inl jn_ishl), (35, .inl jn_ior)]
noncomputable def jn_c20_1 : List (Nat × jn_E) := [(36, .inl (jn_istore_n 1)), (37, .inl (jn_iinc 3 1)), (40, .inl (jn_goto 14)), (43, .inl (jn_iinc 2 1)), (46, .inl (jn_goto 4)), (49, .inl (jn_iload_n 1)), (50, .inl (jn_aload_n 0)), (51, .inr (.inl (13, 4, 1))), (54, .inl (jn_icne 61)), (57, .inl (jn_iconst 1)), (58, .inl (jn_goto 62)), (61, .inl (jn_iconst 0)), (62, .inr (.inr 2))]
noncomputable def jn_c20 : List (Nat × jn_E) := jn_c20_0 ++ (jn_c20_1)
def jn_mi20 : jn_MI := (RX2, cX2_isWhole, 4, "isWhole")
/-- DebtNet$Net.isWhole()Z -/
noncomputable def jn_me20 : jn_Me := (jn_mi20, yX2_isWhole, (some .boolean), jn_c20)
noncomputable def jn_c21_0 : List (Nat × jn_E) := [(0, .inl (jn_aload_n 0)), (1, .inr (.inl (20, 4, 1))), (4, .inl (jn_ifne 9)), (7, .inl (jn_iconst 3)), (8, .inr (.inr 1)), (9, .inl (jn_aload_n 0)), (10, .inr (.inl (19, 4, 1))), (13, .inl (jn_ifne 18)), (16, .inl (jn_iconst 0)), (17, .inr (.inr 1)), (18, .inl (jn_aload_n 0)), (19, .inr (.inl (22, 4, 1))), (22, .inl (jn_ifeq 27)), (25, .inl (jn_iconst 1)), (26, .inr (.inr 1)), (27, .inl (jn_aload_n 0)), (28, .inl (jn_getf 2 1)), (31, .inl (jn_iconst 2)), (32, .inl (jn_icne 39)), (35, .inl (jn_iconst 2)), (36, .inl (jn_goto 40)), (39, .inl (jn_iconst 3)), (40, .inr (.inr 1))]
noncomputable def jn_c21 : List (Nat × jn_E) := jn_c21_0
def jn_mi21 : jn_MI := (RX2, cX2_kind, 1, "kind")
/-- DebtNet$Net.kind()I -/
noncomputable def jn_me21 : jn_Me := (jn_mi21, yX2_kind, (some .int), jn_c21)
noncomputable def jn_c22_0 : List (Nat × jn_E) := [(0, .inl (jn_iconst 0)), (1, .inl (jn_istore_n 1)), (2, .inl (jn_iload_n 1)), (3, .inl (jn_aload_n 0)), (4, .inl (jn_getf 2 1)), (7, .inl (jn_icge 27)), (10, .inl (jn_aload_n 0)), (11, .inl (jn_iload_n 1)), (12, .inr (.inl (16, 4, 2))), (15, .inl (jn_iconst 2)), (16, .inl (jn_iceq 21)), (19, .inl (jn_iconst 0)), (20, .inr (.inr 2)), (21, .inl (jn_iinc 1 1)), (24, .inl (jn_goto 2)), (27, .inl (jn_iconst 1)), (28, .inr (.inr 2))]
noncomputable def jn_c22 : List (Nat × jn_E) := jn_c22_0
def jn_mi22 : jn_MI := (RX2, cX2_eachHasTwoRoads, 2, "eachHasTwoRoads")
/-- DebtNet$Net.eachHasTwoRoads()Z -/
noncomputable def jn_me22 : jn_Me := (jn_mi22, yX2_eachHasTwoRoads, (some .boolean), jn_c22)
noncomputable def jn_c23_0 : List (Nat × jn_E) := [(0, .inl (jn_iconst 0)), (1, .inl (jn_istore 4)), (3, .inl (jn_iload 4)), (5, .inl (jn_aload_n 0)), (6, .inl (jn_getf 2 1)), (9, .inl (jn_icge 34)), (12, .inl (jn_aload_n 1)), (13, .inl (jn_iload 4)), (15, .inl jn_dup2), (16, .inl jn_iaload), (17, .inl (jn_iload_n 3)), (18, .inl (jn_aload_n 0)), (19, .inl (jn_iload_n 2)), (20, .inl (jn_iload 4)), (22, .inr (.inl (14, 4, 3))), (25, .inl jn_imul), (26, .inl jn_iadd), (27, .inl jn_iastore), (28, .inl (jn_iinc 4 1)), (31, .inl (jn_goto 3)), (34, .inl (jn_aload_n 1)), (35, .inl (jn_iload_n 2)), (36, .inl jn_dup2), (37, .inl jn_iaload)]
noncomputable def jn_c23_1 : List (Nat × jn_E) := [(38, .inl (jn_iload_n 3)), (39, .inl (jn_aload_n 0)), (40, .inl (jn_iload_n 2)), (41, .inr (.inl (16, 4, 2))), (44, .inl jn_imul), (45, .inl jn_isub), (46, .inl jn_iastore), (47, .inr (.inr 0))]
noncomputable def jn_c23 : List (Nat × jn_E) := jn_c23_0 ++ (jn_c23_1)
def jn_mi23 : jn_MI := (RX2, cX2_moveGoods, 5, "moveGoods")
/-- DebtNet$Net.moveGoods([III)V -/
noncomputable def jn_me23 : jn_Me := (jn_mi23, yX2_moveGoods, none, jn_c23)
noncomputable def jn_c24_0 : List (Nat × jn_E) := [(0, .inl (jn_aload_n 0)), (1, .inl jn_oinit), (4, .inl (jn_aload_n 0)), (5, .inl (jn_new 2 3 [.int 0, .int 0, .null])), (8, .inl jn_dup), (9, .inl (jn_iconst 0)), (10, .inl (jn_iconst 1)), (11, .inr (.inl (11, 1, 3))), (14, .inl (jn_putf 3 1 2)), (17, .inl (jn_aload_n 0)), (18, .inl (jn_iconst 0)), (19, .inl (jn_putf 3 2 0)), (22, .inl (jn_aload_n 0)), (23, .inl (jn_lconst 1)), (24, .inl (jn_putf 3 3 1)), (27, .inl (jn_aload_n 0)), (28, .inl (jn_bipush 36)), (30, .inl jn_newI), (32, .inl (jn_putF 3 4 2)), (35, .inl (jn_aload_n 0)), (36, .inl (jn_bipush 6)), (38, .inl jn_newI), (40, .inl (jn_putF 3 5 2)), (43, .inl (jn_aload_n 0))]
noncomputable def jn_c24_1 : List (Nat × jn_E) := [(44, .inl (jn_aload_n 1)), (45, .inl (jn_putF 3 0 2)), (48, .inr (.inr 0))]
noncomputable def jn_c24 : List (Nat × jn_E) := jn_c24_0 ++ (jn_c24_1)
def jn_mi24 : jn_MI := (RX3, cX3_init, 2, "<init>")
/-- DebtNet$Reducer.<init>(LDebtNet$Table;)V -/
noncomputable def jn_me24 : jn_Me := (jn_mi24, yX3_init, none, jn_c24)
noncomputable def jn_c25_0 : List (Nat × jn_E) := [(0, .inl (jn_aload_n 0)), (1, .inl (jn_aload_n 1)), (2, .inl (jn_putf 3 1 2)), (5, .inl (jn_aload_n 0)), (6, .inl (jn_iload_n 2)), (7, .inl (jn_putf 3 2 0)), (10, .inl (jn_aload_n 1)), (11, .inr (.inl (13, 4, 1))), (14, .inl (jn_iconst 1)), (15, .inl (jn_iload_n 2)), (16, .inl jn_ishl), (17, .inl (jn_iconst (-1))), (18, .inl jn_ixor), (19, .inl jn_iand), (20, .inl (jn_istore_n 3)), (21, .inl (jn_aload_n 0)), (22, .inl (jn_aload_n 0)), (23, .inl (jn_getf 3 0)), (26, .inl (jn_aload_n 1)), (27, .inl (jn_iload_n 3)), (28, .inl (jn_iload_n 3)), (29, .inr (.inl (36, 6, 4))), (32, .inl (jn_putf 3 3 1)), (35, .inl (jn_iconst 0))]
noncomputable def jn_c25_1 : List (Nat × jn_E) := [(36, .inl (jn_istore 4)), (38, .inl (jn_iload 4)), (40, .inl (jn_aload_n 1)), (41, .inl (jn_getf 2 1)), (44, .inl (jn_icge 146)), (47, .inl (jn_iload 4)), (49, .inl (jn_istore 5)), (51, .inl (jn_iload 5)), (53, .inl (jn_aload_n 1)), (54, .inl (jn_getf 2 1)), (57, .inl (jn_icge 140)), (60, .inl (jn_iload 4)), (62, .inl (jn_iload_n 2)), (63, .inl (jn_iceq 72)), (66, .inl (jn_iload 5)), (68, .inl (jn_iload_n 2)), (69, .inl (jn_icne 76)), (72, .inl (jn_lconst 0)), (73, .inl (jn_goto 100)), (76, .inl (jn_aload_n 0)), (77, .inl (jn_getf 3 0)), (80, .inl (jn_aload_n 1)), (81, .inl (jn_iload_n 3)), (82, .inl (jn_iconst 1))]
noncomputable def jn_c25_2 : List (Nat × jn_E) := [(83, .inl (jn_iload 4)), (85, .inl jn_ishl), (86, .inl (jn_iconst (-1))), (87, .inl jn_ixor), (88, .inl jn_iand), (89, .inl (jn_iload_n 3)), (90, .inl (jn_iconst 1)), (91, .inl (jn_iload 5)), (93, .inl jn_ishl), (94, .inl (jn_iconst (-1))), (95, .inl jn_ixor), (96, .inl jn_iand), (97, .inr (.inl (36, 6, 4))), (100, .inl (jn_lstore 6)), (102, .inl (jn_aload_n 0)), (103, .inl (jn_getf 3 4)), (106, .inl (jn_iload 4)), (108, .inl (jn_bipush 6)), (110, .inl jn_imul), (111, .inl (jn_iload 5)), (113, .inl jn_iadd), (114, .inl (jn_lload 6)), (116, .inl jn_l2i), (117, .inl jn_iastore)]
noncomputable def jn_c25_3 : List (Nat × jn_E) := [(118, .inl (jn_aload_n 0)), (119, .inl (jn_getf 3 4)), (122, .inl (jn_iload 5)), (124, .inl (jn_bipush 6)), (126, .inl jn_imul), (127, .inl (jn_iload 4)), (129, .inl jn_iadd), (130, .inl (jn_lload 6)), (132, .inl jn_l2i), (133, .inl jn_iastore), (134, .inl (jn_iinc 5 1)), (137, .inl (jn_goto 51)), (140, .inl (jn_iinc 4 1)), (143, .inl (jn_goto 38)), (146, .inr (.inr 0))]
noncomputable def jn_c25 : List (Nat × jn_E) := jn_c25_0 ++ (jn_c25_1 ++ (jn_c25_2 ++ (jn_c25_3)))
def jn_mi25 : jn_MI := (RX3, cX3_prepare, 8, "prepare")
/-- DebtNet$Reducer.prepare(LDebtNet$Net;I)V -/
noncomputable def jn_me25 : jn_Me := (jn_mi25, yX3_prepare, none, jn_c25)
noncomputable def jn_c26_0 : List (Nat × jn_E) := [(0, .inl (jn_lconst 0)), (1, .inl (jn_lstore_n 3)), (2, .inl (jn_iconst 0)), (3, .inl (jn_istore 5)), (5, .inl (jn_iload 5)), (7, .inl (jn_aload_n 0)), (8, .inl (jn_getf 3 1)), (11, .inl (jn_getf 2 1)), (14, .inl (jn_icge 45)), (17, .inl (jn_lload_n 3)), (18, .inl (jn_aload_n 0)), (19, .inl (jn_getf 3 4)), (22, .inl (jn_iload_n 2)), (23, .inl (jn_bipush 6)), (25, .inl jn_imul), (26, .inl (jn_iload 5)), (28, .inl jn_iadd), (29, .inl jn_iaload), (30, .inl jn_i2l), (31, .inl (jn_aload_n 1)), (32, .inl (jn_iload 5)), (34, .inl jn_iaload), (35, .inl jn_i2l), (36, .inl jn_lmul)]
noncomputable def jn_c26_1 : List (Nat × jn_E) := [(37, .inl jn_ladd), (38, .inl (jn_lstore_n 3)), (39, .inl (jn_iinc 5 1)), (42, .inl (jn_goto 5)), (45, .inl (jn_lload_n 3)), (46, .inr (.inr 3))]
noncomputable def jn_c26 : List (Nat × jn_E) := jn_c26_0 ++ (jn_c26_1)
def jn_mi26 : jn_MI := (RX3, cX3_lendsTimesTrees, 6, "lendsTimesTrees")
/-- DebtNet$Reducer.lendsTimesTrees([II)J -/
noncomputable def jn_me26 : jn_Me := (jn_mi26, yX3_lendsTimesTrees, (some .long), jn_c26)
noncomputable def jn_c27_0 : List (Nat × jn_E) := [(0, .inl (jn_lconst 0)), (1, .inl (jn_lstore_n 2)), (2, .inl (jn_iconst 0)), (3, .inl (jn_istore 4)), (5, .inl (jn_iload 4)), (7, .inl (jn_aload_n 0)), (8, .inl (jn_getf 3 1)), (11, .inl (jn_getf 2 1)), (14, .inl (jn_icge 78)), (17, .inl (jn_aload_n 0)), (18, .inl (jn_aload_n 1)), (19, .inl (jn_iload 4)), (21, .inr (.inl (26, 5, 3))), (24, .inl (jn_lstore 5)), (26, .inl (jn_aload_n 0)), (27, .inl (jn_getf 3 3)), (30, .inl (jn_lconst 0)), (31, .inl jn_lcmp), (32, .inl (jn_ifeq 47)), (35, .inl (jn_lload 5)), (37, .inl (jn_aload_n 0)), (38, .inl (jn_getf 3 3)), (41, .inl jn_lrem), (42, .inl (jn_lconst 0))]
noncomputable def jn_c27_1 : List (Nat × jn_E) := [(43, .inl jn_lcmp), (44, .inl (jn_ifeq 49)), (47, .inl (jn_iconst 0)), (48, .inr (.inr 2)), (49, .inl (jn_aload_n 0)), (50, .inl (jn_getf 3 5)), (53, .inl (jn_iload 4)), (55, .inl (jn_lload 5)), (57, .inl (jn_aload_n 0)), (58, .inl (jn_getf 3 3)), (61, .inl jn_ldiv), (62, .inl jn_l2i), (63, .inl jn_iastore), (64, .inl (jn_lload_n 2)), (65, .inl (jn_aload_n 1)), (66, .inl (jn_iload 4)), (68, .inl jn_iaload), (69, .inl jn_i2l), (70, .inl jn_ladd), (71, .inl (jn_lstore_n 2)), (72, .inl (jn_iinc 4 1)), (75, .inl (jn_goto 5)), (78, .inl (jn_lload_n 2)), (79, .inl (jn_lconst 0))]
noncomputable def jn_c27_2 : List (Nat × jn_E) := [(80, .inl jn_lcmp), (81, .inl (jn_ifne 88)), (84, .inl (jn_iconst 1)), (85, .inl (jn_goto 89)), (88, .inl (jn_iconst 0)), (89, .inr (.inr 2))]
noncomputable def jn_c27 : List (Nat × jn_E) := jn_c27_0 ++ (jn_c27_1 ++ (jn_c27_2))
def jn_mi27 : jn_MI := (RX3, cX3_clears, 7, "clears")
/-- DebtNet$Reducer.clears([I)Z -/
noncomputable def jn_me27 : jn_Me := (jn_mi27, yX3_clears, (some .boolean), jn_c27)
noncomputable def jn_c28_0 : List (Nat × jn_E) := [(0, .inl (jn_lconst 1)), (1, .inl (jn_lstore_n 2)), (2, .inl (jn_iconst 0)), (3, .inl (jn_istore 4)), (5, .inl (jn_iload 4)), (7, .inl (jn_aload_n 0)), (8, .inl (jn_getf 3 1)), (11, .inl (jn_getf 2 1)), (14, .inl (jn_icge 86)), (17, .inl (jn_aload_n 0)), (18, .inl (jn_getf 3 3)), (21, .inl (jn_aload_n 0)), (22, .inl (jn_aload_n 1)), (23, .inl (jn_iload 4)), (25, .inr (.inl (26, 5, 3))), (28, .inr (.inl (32, 0, 2))), (31, .inl (jn_lstore 5)), (33, .inl (jn_lload 5)), (35, .inl (jn_lconst 0)), (36, .inl jn_lcmp), (37, .inl (jn_ifne 44)), (40, .inl (jn_lconst 1)), (41, .inl (jn_goto 51)), (44, .inl (jn_aload_n 0))]
noncomputable def jn_c28_1 : List (Nat × jn_E) := [(45, .inl (jn_getf 3 3)), (48, .inl (jn_lload 5)), (50, .inl jn_ldiv), (51, .inl (jn_lstore 7)), (53, .inl (jn_lload_n 2)), (54, .inl (jn_lload 7)), (56, .inr (.inl (32, 0, 2))), (59, .inl (jn_lstore 9)), (61, .inl (jn_lload 9)), (63, .inl (jn_lconst 0)), (64, .inl jn_lcmp), (65, .inl (jn_ifne 72)), (68, .inl (jn_lload_n 2)), (69, .inl (jn_goto 79)), (72, .inl (jn_lload_n 2)), (73, .inl (jn_lload 9)), (75, .inl jn_ldiv), (76, .inl (jn_lload 7)), (78, .inl jn_lmul), (79, .inl (jn_lstore_n 2)), (80, .inl (jn_iinc 4 1)), (83, .inl (jn_goto 5)), (86, .inl (jn_lload_n 2)), (87, .inr (.inr 3))]
noncomputable def jn_c28 : List (Nat × jn_E) := jn_c28_0 ++ (jn_c28_1)
def jn_mi28 : jn_MI := (RX3, cX3_leastTimes, 11, "leastTimes")
/-- DebtNet$Reducer.leastTimes([I)J -/
noncomputable def jn_me28 : jn_Me := (jn_mi28, yX3_leastTimes, (some .long), jn_c28)
noncomputable def jn_c29_0 : List (Nat × jn_E) := [(0, .inl (jn_iconst 0)), (1, .inl (jn_istore_n 2)), (2, .inl (jn_iload_n 2)), (3, .inl (jn_aload_n 0)), (4, .inl (jn_getf 3 1)), (7, .inl (jn_getf 2 1)), (10, .inl (jn_icge 48)), (13, .inl (jn_aload_n 0)), (14, .inl (jn_getf 3 3)), (17, .inl (jn_lconst 0)), (18, .inl jn_lcmp), (19, .inl (jn_ifeq 48)), (22, .inl (jn_aload_n 0)), (23, .inl (jn_getf 3 5)), (26, .inl (jn_iload_n 2)), (27, .inl (jn_aload_n 0)), (28, .inl (jn_aload_n 1)), (29, .inl (jn_iload_n 2)), (30, .inr (.inl (26, 5, 3))), (33, .inl (jn_aload_n 0)), (34, .inl (jn_getf 3 3)), (37, .inr (.inl (168, 0, 2))), (40, .inl jn_l2i), (41, .inl jn_iastore)]
noncomputable def jn_c29_1 : List (Nat × jn_E) := [(42, .inl (jn_iinc 2 1)), (45, .inl (jn_goto 2)), (48, .inl (jn_iconst 0)), (49, .inl (jn_istore_n 2)), (50, .inl (jn_iload_n 2)), (51, .inl (jn_aload_n 0)), (52, .inl (jn_getf 3 1)), (55, .inl (jn_getf 2 1)), (58, .inl (jn_icge 82)), (61, .inl (jn_aload_n 0)), (62, .inl (jn_getf 3 1)), (65, .inl (jn_aload_n 1)), (66, .inl (jn_iload_n 2)), (67, .inl (jn_aload_n 0)), (68, .inl (jn_getf 3 5)), (71, .inl (jn_iload_n 2)), (72, .inl jn_iaload), (73, .inr (.inl (23, 4, 4))), (76, .inl (jn_iinc 2 1)), (79, .inl (jn_goto 50)), (82, .inl (jn_iconst 1)), (83, .inl (jn_istore_n 2)), (84, .inl (jn_iconst 0)), (85, .inl (jn_istore_n 3))]
noncomputable def jn_c29_2 : List (Nat × jn_E) := [(86, .inl (jn_iload_n 3)), (87, .inl (jn_ldc 1000000)), (89, .inl (jn_icge 108)), (92, .inl (jn_iload_n 2)), (93, .inl (jn_ifeq 108)), (96, .inl (jn_aload_n 0)), (97, .inl (jn_aload_n 1)), (98, .inr (.inl (30, 5, 2))), (101, .inl (jn_istore_n 2)), (102, .inl (jn_iinc 3 1)), (105, .inl (jn_goto 86)), (108, .inr (.inr 0))]
noncomputable def jn_c29 : List (Nat × jn_E) := jn_c29_0 ++ (jn_c29_1 ++ (jn_c29_2))
def jn_mi29 : jn_MI := (RX3, cX3_settle, 4, "settle")
/-- DebtNet$Reducer.settle([I)V -/
noncomputable def jn_me29 : jn_Me := (jn_mi29, yX3_settle, none, jn_c29)
noncomputable def jn_c30_0 : List (Nat × jn_E) := [(0, .inl (jn_iconst 0)), (1, .inl (jn_istore_n 2)), (2, .inl (jn_iconst 0)), (3, .inl (jn_istore_n 3)), (4, .inl (jn_iload_n 3)), (5, .inl (jn_aload_n 0)), (6, .inl (jn_getf 3 1)), (9, .inl (jn_getf 2 1)), (12, .inl (jn_icge 69)), (15, .inl (jn_aload_n 0)), (16, .inl (jn_getf 3 1)), (19, .inl (jn_iload_n 3)), (20, .inr (.inl (16, 4, 2))), (23, .inl (jn_istore 4)), (25, .inl (jn_iload_n 3)), (26, .inl (jn_aload_n 0)), (27, .inl (jn_getf 3 2)), (30, .inl (jn_iceq 63)), (33, .inl (jn_aload_n 1)), (34, .inl (jn_iload_n 3)), (35, .inl jn_iaload), (36, .inl (jn_ifge 63)), (39, .inl (jn_iload 4)), (41, .inl (jn_ifle 63))]
noncomputable def jn_c30_1 : List (Nat × jn_E) := [(44, .inl (jn_aload_n 0)), (45, .inl (jn_getf 3 1)), (48, .inl (jn_aload_n 1)), (49, .inl (jn_iload_n 3)), (50, .inl (jn_aload_n 1)), (51, .inl (jn_iload_n 3)), (52, .inl jn_iaload), (53, .inl (jn_iload 4)), (55, .inr (.inl (167, 0, 2))), (58, .inr (.inl (23, 4, 4))), (61, .inl (jn_iconst 1)), (62, .inl (jn_istore_n 2)), (63, .inl (jn_iinc 3 1)), (66, .inl (jn_goto 4)), (69, .inl (jn_iload_n 2)), (70, .inr (.inr 2))]
noncomputable def jn_c30 : List (Nat × jn_E) := jn_c30_0 ++ (jn_c30_1)
def jn_mi30 : jn_MI := (RX3, cX3_borrowInDebt, 5, "borrowInDebt")
/-- DebtNet$Reducer.borrowInDebt([I)Z -/
noncomputable def jn_me30 : jn_Me := (jn_mi30, yX3_borrowInDebt, (some .boolean), jn_c30)
noncomputable def jn_c31_0 : List (Nat × jn_E) := [(0, .inl (jn_aload_n 0)), (1, .inl jn_oinit), (4, .inl (jn_aload_n 0)), (5, .inl (jn_bipush 36)), (7, .inl jn_newL), (9, .inl (jn_putF 4 0 2)), (12, .inr (.inr 0))]
noncomputable def jn_c31 : List (Nat × jn_E) := jn_c31_0
def jn_mi31 : jn_MI := (RX4, cX4_init, 1, "<init>")
/-- DebtNet$Table.<init>()V -/
noncomputable def jn_me31 : jn_Me := (jn_mi31, yX4_init, none, jn_c31)
noncomputable def jn_c32_0 : List (Nat × jn_E) := [(0, .inl (jn_lload_n 0)), (1, .inr (.inl (169, 0, 1))), (4, .inl (jn_lstore 4)), (6, .inl (jn_lload_n 2)), (7, .inr (.inl (169, 0, 1))), (10, .inl (jn_lstore 6)), (12, .inl (jn_iconst 0)), (13, .inl (jn_istore 8)), (15, .inl (jn_iload 8)), (17, .inl (jn_ldc 1000000)), (19, .inl (jn_icge 50)), (22, .inl (jn_lload 6)), (24, .inl (jn_lconst 0)), (25, .inl jn_lcmp), (26, .inl (jn_ifeq 50)), (29, .inl (jn_lload 4)), (31, .inl (jn_lload 6)), (33, .inl jn_lrem), (34, .inl (jn_lstore 9)), (36, .inl (jn_lload 6)), (38, .inl (jn_lstore 4)), (40, .inl (jn_lload 9)), (42, .inl (jn_lstore 6)), (44, .inl (jn_iinc 8 1))]
noncomputable def jn_c32_1 : List (Nat × jn_E) := [(47, .inl (jn_goto 15)), (50, .inl (jn_lload 4)), (52, .inr (.inr 3))]
noncomputable def jn_c32 : List (Nat × jn_E) := jn_c32_0 ++ (jn_c32_1)
def jn_mi32 : jn_MI := (RX4, cX4_greatestDivisor, 11, "greatestDivisor")
/-- DebtNet$Table.greatestDivisor(JJ)J -/
noncomputable def jn_me32 : jn_Me := (jn_mi32, yX4_greatestDivisor, (some .long), jn_c32)
noncomputable def jn_c33_0 : List (Nat × jn_E) := [(0, .inl (jn_aload_n 1)), (1, .inr (.inl (13, 4, 1))), (4, .inl (jn_bipush (-2))), (6, .inl jn_iand), (7, .inl (jn_istore_n 2)), (8, .inl (jn_aload_n 0)), (9, .inl (jn_aload_n 1)), (10, .inl (jn_iload_n 2)), (11, .inl (jn_iload_n 2)), (12, .inr (.inl (36, 6, 4))), (15, .inr (.inr 3))]
noncomputable def jn_c33 : List (Nat × jn_E) := jn_c33_0
def jn_mi33 : jn_MI := (RX4, cX4_countTrees, 3, "countTrees")
/-- DebtNet$Table.countTrees(LDebtNet$Net;)J -/
noncomputable def jn_me33 : jn_Me := (jn_mi33, yX4_countTrees, (some .long), jn_c33)
noncomputable def jn_c34_0 : List (Nat × jn_E) := [(0, .inl (jn_lconst 0)), (1, .inl (jn_lstore_n 3)), (2, .inl (jn_iconst 0)), (3, .inl (jn_istore 5)), (5, .inl (jn_iload 5)), (7, .inl (jn_aload_n 1)), (8, .inr (.inl (13, 4, 1))), (11, .inl (jn_icgt 44)), (14, .inl (jn_lload_n 3)), (15, .inl (jn_lconst 1)), (16, .inl jn_lcmp), (17, .inl (jn_ifeq 44)), (20, .inl (jn_iload 5)), (22, .inr (.inl (166, 0, 1))), (25, .inl (jn_iload_n 2)), (26, .inl (jn_icne 38)), (29, .inl (jn_aload_n 0)), (30, .inl (jn_aload_n 1)), (31, .inl (jn_iload 5)), (33, .inl (jn_lload_n 3)), (34, .inr (.inl (35, 6, 4))), (37, .inl (jn_lstore_n 3)), (38, .inl (jn_iinc 5 2)), (41, .inl (jn_goto 5))]
noncomputable def jn_c34_1 : List (Nat × jn_E) := [(44, .inl (jn_lload_n 3)), (45, .inr (.inr 3))]
noncomputable def jn_c34 : List (Nat × jn_E) := jn_c34_0 ++ (jn_c34_1)
def jn_mi34 : jn_MI := (RX4, cX4_commonDivisor, 6, "commonDivisor")
/-- DebtNet$Table.commonDivisor(LDebtNet$Net;I)J -/
noncomputable def jn_me34 : jn_Me := (jn_mi34, yX4_commonDivisor, (some .long), jn_c34)
noncomputable def jn_c35_0 : List (Nat × jn_E) := [(0, .inl (jn_iload_n 2)), (1, .inr (.inl (166, 0, 1))), (4, .inl (jn_istore 5)), (6, .inl (jn_lload_n 3)), (7, .inl (jn_lstore 6)), (9, .inl (jn_iload_n 2)), (10, .inl (jn_istore 8)), (12, .inl (jn_iload 8)), (14, .inl (jn_aload_n 1)), (15, .inr (.inl (13, 4, 1))), (18, .inl (jn_icgt 59)), (21, .inl (jn_lload 6)), (23, .inl (jn_lconst 1)), (24, .inl jn_lcmp), (25, .inl (jn_ifeq 59)), (28, .inl (jn_iload 8)), (30, .inr (.inl (166, 0, 1))), (33, .inl (jn_iload 5)), (35, .inl (jn_icne 53)), (38, .inl (jn_lload 6)), (40, .inl (jn_aload_n 0)), (41, .inl (jn_aload_n 1)), (42, .inl (jn_iload_n 2)), (43, .inl (jn_iload 8))]
noncomputable def jn_c35_1 : List (Nat × jn_E) := [(45, .inr (.inl (36, 6, 4))), (48, .inr (.inl (32, 0, 2))), (51, .inl (jn_lstore 6)), (53, .inl (jn_iinc 8 2)), (56, .inl (jn_goto 12)), (59, .inl (jn_lload 6)), (61, .inr (.inr 3))]
noncomputable def jn_c35 : List (Nat × jn_E) := jn_c35_0 ++ (jn_c35_1)
def jn_mi35 : jn_MI := (RX4, cX4_commonDivisorOfLines, 9, "commonDivisorOfLines")
/-- DebtNet$Table.commonDivisorOfLines(LDebtNet$Net;IJ)J -/
noncomputable def jn_me35 : jn_Me := (jn_mi35, yX4_commonDivisorOfLines, (some .long), jn_c35)
noncomputable def jn_c36_0 : List (Nat × jn_E) := [(0, .inl (jn_aload_n 0)), (1, .inl (jn_aload_n 1)), (2, .inl (jn_iload_n 2)), (3, .inl (jn_iload_n 3)), (4, .inr (.inl (37, 6, 4))), (7, .inl (jn_istore 4)), (9, .inl (jn_lconst 1)), (10, .inl (jn_lstore 5)), (12, .inl (jn_iconst 0)), (13, .inl (jn_istore 7)), (15, .inl (jn_iload 7)), (17, .inl (jn_iconst 1)), (18, .inl jn_iadd), (19, .inl (jn_iload 4)), (21, .inl (jn_icge 87)), (24, .inl (jn_aload_n 0)), (25, .inl (jn_iload 7)), (27, .inl (jn_iload 4)), (29, .inr (.inl (39, 6, 3))), (32, .inl (jn_istore 8)), (34, .inl (jn_iload 8)), (36, .inl (jn_ifge 41)), (39, .inl (jn_lconst 0)), (40, .inr (.inr 3))]
noncomputable def jn_c36_1 : List (Nat × jn_E) := [(41, .inl (jn_iload 8)), (43, .inl (jn_iload 7)), (45, .inl (jn_iceq 56)), (48, .inl (jn_aload_n 0)), (49, .inl (jn_iload 8)), (51, .inl (jn_iload 7)), (53, .inr (.inl (40, 6, 3))), (56, .inl (jn_aload_n 0)), (57, .inl (jn_iload 7)), (59, .inl (jn_iload 4)), (61, .inl (jn_lload 5)), (63, .inr (.inl (41, 6, 4))), (66, .inl (jn_aload_n 0)), (67, .inl (jn_getf 4 0)), (70, .inl (jn_iload 7)), (72, .inl (jn_bipush 6)), (74, .inl jn_imul), (75, .inl (jn_iload 7)), (77, .inl jn_iadd), (78, .inl jn_laload), (79, .inl (jn_lstore 5)), (81, .inl (jn_iinc 7 1)), (84, .inl (jn_goto 15)), (87, .inl (jn_iload 4))]
noncomputable def jn_c36_2 : List (Nat × jn_E) := [(89, .inl (jn_ifne 96)), (92, .inl (jn_lconst 1)), (93, .inl (jn_goto 116)), (96, .inl (jn_aload_n 0)), (97, .inl (jn_getf 4 0)), (100, .inl (jn_iload 4)), (102, .inl (jn_iconst 1)), (103, .inl jn_isub), (104, .inl (jn_bipush 6)), (106, .inl jn_imul), (107, .inl (jn_iload 4)), (109, .inl jn_iadd), (110, .inl (jn_iconst 1)), (111, .inl jn_isub), (112, .inl jn_laload), (113, .inr (.inl (169, 0, 1))), (116, .inr (.inr 3))]
noncomputable def jn_c36 : List (Nat × jn_E) := jn_c36_0 ++ (jn_c36_1 ++ (jn_c36_2))
def jn_mi36 : jn_MI := (RX4, cX4_determinant, 9, "determinant")
/-- DebtNet$Table.determinant(LDebtNet$Net;II)J -/
noncomputable def jn_me36 : jn_Me := (jn_mi36, yX4_determinant, (some .long), jn_c36)
noncomputable def jn_c37_0 : List (Nat × jn_E) := [(0, .inl (jn_iconst 0)), (1, .inl (jn_istore 4)), (3, .inl (jn_iconst 0)), (4, .inl (jn_istore 5)), (6, .inl (jn_iload 5)), (8, .inl (jn_aload_n 1)), (9, .inl (jn_getf 2 1)), (12, .inl (jn_icge 46)), (15, .inl (jn_iload_n 2)), (16, .inl (jn_iload 5)), (18, .inl jn_ishr), (19, .inl (jn_iconst 1)), (20, .inl jn_iand), (21, .inl (jn_ifeq 40)), (24, .inl (jn_aload_n 0)), (25, .inl (jn_aload_n 1)), (26, .inl (jn_iload 5)), (28, .inl (jn_iload_n 3)), (29, .inl (jn_iload 4)), (31, .inl (jn_bipush 6)), (33, .inl jn_imul), (34, .inr (.inl (38, 6, 5))), (37, .inl (jn_iinc 4 1)), (40, .inl (jn_iinc 5 1))]
noncomputable def jn_c37_1 : List (Nat × jn_E) := [(43, .inl (jn_goto 6)), (46, .inl (jn_iload 4)), (48, .inr (.inr 1))]
noncomputable def jn_c37 : List (Nat × jn_E) := jn_c37_0 ++ (jn_c37_1)
def jn_mi37 : jn_MI := (RX4, cX4_fill, 6, "fill")
/-- DebtNet$Table.fill(LDebtNet$Net;II)I -/
noncomputable def jn_me37 : jn_Me := (jn_mi37, yX4_fill, (some .int), jn_c37)
noncomputable def jn_c38_0 : List (Nat × jn_E) := [(0, .inl (jn_iload 4)), (2, .inl (jn_istore 5)), (4, .inl (jn_iconst 0)), (5, .inl (jn_istore 6)), (7, .inl (jn_iload 6)), (9, .inl (jn_aload_n 1)), (10, .inl (jn_getf 2 1)), (13, .inl (jn_icge 65)), (16, .inl (jn_iload_n 3)), (17, .inl (jn_iload 6)), (19, .inl jn_ishr), (20, .inl (jn_iconst 1)), (21, .inl jn_iand), (22, .inl (jn_ifeq 59)), (25, .inl (jn_aload_n 0)), (26, .inl (jn_getf 4 0)), (29, .inl (jn_iload 5)), (31, .inl (jn_iload_n 2)), (32, .inl (jn_iload 6)), (34, .inl (jn_icne 46)), (37, .inl (jn_aload_n 1)), (38, .inl (jn_iload_n 2)), (39, .inr (.inl (16, 4, 2))), (42, .inl jn_i2l)]
noncomputable def jn_c38_1 : List (Nat × jn_E) := [(43, .inl (jn_goto 55)), (46, .inl (jn_aload_n 1)), (47, .inl (jn_iload_n 2)), (48, .inl (jn_iload 6)), (50, .inr (.inl (14, 4, 3))), (53, .inl jn_ineg), (54, .inl jn_i2l), (55, .inl jn_lastore), (56, .inl (jn_iinc 5 1)), (59, .inl (jn_iinc 6 1)), (62, .inl (jn_goto 7)), (65, .inr (.inr 0))]
noncomputable def jn_c38 : List (Nat × jn_E) := jn_c38_0 ++ (jn_c38_1)
def jn_mi38 : jn_MI := (RX4, cX4_fillLine, 7, "fillLine")
/-- DebtNet$Table.fillLine(LDebtNet$Net;III)V -/
noncomputable def jn_me38 : jn_Me := (jn_mi38, yX4_fillLine, none, jn_c38)
noncomputable def jn_c39_0 : List (Nat × jn_E) := [(0, .inl (jn_iload_n 1)), (1, .inl (jn_istore_n 3)), (2, .inl (jn_iload_n 3)), (3, .inl (jn_iload_n 2)), (4, .inl (jn_icge 31)), (7, .inl (jn_aload_n 0)), (8, .inl (jn_getf 4 0)), (11, .inl (jn_iload_n 3)), (12, .inl (jn_bipush 6)), (14, .inl jn_imul), (15, .inl (jn_iload_n 1)), (16, .inl jn_iadd), (17, .inl jn_laload), (18, .inl (jn_lconst 0)), (19, .inl jn_lcmp), (20, .inl (jn_ifeq 25)), (23, .inl (jn_iload_n 3)), (24, .inr (.inr 1)), (25, .inl (jn_iinc 3 1)), (28, .inl (jn_goto 2)), (31, .inl (jn_iconst (-1))), (32, .inr (.inr 1))]
noncomputable def jn_c39 : List (Nat × jn_E) := jn_c39_0
def jn_mi39 : jn_MI := (RX4, cX4_pivotLine, 4, "pivotLine")
/-- DebtNet$Table.pivotLine(II)I -/
noncomputable def jn_me39 : jn_Me := (jn_mi39, yX4_pivotLine, (some .int), jn_c39)
noncomputable def jn_c40_0 : List (Nat × jn_E) := [(0, .inl (jn_iconst 0)), (1, .inl (jn_istore_n 3)), (2, .inl (jn_iload_n 3)), (3, .inl (jn_bipush 6)), (5, .inl (jn_icge 62)), (8, .inl (jn_aload_n 0)), (9, .inl (jn_getf 4 0)), (12, .inl (jn_iload_n 1)), (13, .inl (jn_bipush 6)), (15, .inl jn_imul), (16, .inl (jn_iload_n 3)), (17, .inl jn_iadd), (18, .inl jn_laload), (19, .inl (jn_lstore 4)), (21, .inl (jn_aload_n 0)), (22, .inl (jn_getf 4 0)), (25, .inl (jn_iload_n 1)), (26, .inl (jn_bipush 6)), (28, .inl jn_imul), (29, .inl (jn_iload_n 3)), (30, .inl jn_iadd), (31, .inl (jn_aload_n 0)), (32, .inl (jn_getf 4 0)), (35, .inl (jn_iload_n 2))]
noncomputable def jn_c40_1 : List (Nat × jn_E) := [(36, .inl (jn_bipush 6)), (38, .inl jn_imul), (39, .inl (jn_iload_n 3)), (40, .inl jn_iadd), (41, .inl jn_laload), (42, .inl jn_lastore), (43, .inl (jn_aload_n 0)), (44, .inl (jn_getf 4 0)), (47, .inl (jn_iload_n 2)), (48, .inl (jn_bipush 6)), (50, .inl jn_imul), (51, .inl (jn_iload_n 3)), (52, .inl jn_iadd), (53, .inl (jn_lload 4)), (55, .inl jn_lastore), (56, .inl (jn_iinc 3 1)), (59, .inl (jn_goto 2)), (62, .inr (.inr 0))]
noncomputable def jn_c40 : List (Nat × jn_E) := jn_c40_0 ++ (jn_c40_1)
def jn_mi40 : jn_MI := (RX4, cX4_swapLines, 6, "swapLines")
/-- DebtNet$Table.swapLines(II)V -/
noncomputable def jn_me40 : jn_Me := (jn_mi40, yX4_swapLines, none, jn_c40)
noncomputable def jn_c41_0 : List (Nat × jn_E) := [(0, .inl (jn_iload_n 1)), (1, .inl (jn_bipush 6)), (3, .inl jn_imul), (4, .inl (jn_istore 5)), (6, .inl (jn_iload_n 1)), (7, .inl (jn_iconst 1)), (8, .inl jn_iadd), (9, .inl (jn_istore 6)), (11, .inl (jn_iload 6)), (13, .inl (jn_iload_n 2)), (14, .inl (jn_icge 106)), (17, .inl (jn_lload_n 3)), (18, .inl (jn_lconst 0)), (19, .inl jn_lcmp), (20, .inl (jn_ifeq 106)), (23, .inl (jn_iload 6)), (25, .inl (jn_bipush 6)), (27, .inl jn_imul), (28, .inl (jn_istore 7)), (30, .inl (jn_iload_n 1)), (31, .inl (jn_iconst 1)), (32, .inl jn_iadd), (33, .inl (jn_istore 8)), (35, .inl (jn_iload 8))]
noncomputable def jn_c41_1 : List (Nat × jn_E) := [(37, .inl (jn_iload_n 2)), (38, .inl (jn_icge 100)), (41, .inl (jn_aload_n 0)), (42, .inl (jn_getf 4 0)), (45, .inl (jn_iload 7)), (47, .inl (jn_iload 8)), (49, .inl jn_iadd), (50, .inl (jn_aload_n 0)), (51, .inl (jn_getf 4 0)), (54, .inl (jn_iload 7)), (56, .inl (jn_iload 8)), (58, .inl jn_iadd), (59, .inl jn_laload), (60, .inl (jn_aload_n 0)), (61, .inl (jn_getf 4 0)), (64, .inl (jn_iload 5)), (66, .inl (jn_iload_n 1)), (67, .inl jn_iadd), (68, .inl jn_laload), (69, .inl jn_lmul), (70, .inl (jn_aload_n 0)), (71, .inl (jn_getf 4 0)), (74, .inl (jn_iload 7)), (76, .inl (jn_iload_n 1))]
noncomputable def jn_c41_2 : List (Nat × jn_E) := [(77, .inl jn_iadd), (78, .inl jn_laload), (79, .inl (jn_aload_n 0)), (80, .inl (jn_getf 4 0)), (83, .inl (jn_iload 5)), (85, .inl (jn_iload 8)), (87, .inl jn_iadd), (88, .inl jn_laload), (89, .inl jn_lmul), (90, .inl jn_lsub), (91, .inl (jn_lload_n 3)), (92, .inl jn_ldiv), (93, .inl jn_lastore), (94, .inl (jn_iinc 8 1)), (97, .inl (jn_goto 35)), (100, .inl (jn_iinc 6 1)), (103, .inl (jn_goto 11)), (106, .inr (.inr 0))]
noncomputable def jn_c41 : List (Nat × jn_E) := jn_c41_0 ++ (jn_c41_1 ++ (jn_c41_2))
def jn_mi41 : jn_MI := (RX4, cX4_clearBelow, 9, "clearBelow")
/-- DebtNet$Table.clearBelow(IIJ)V -/
noncomputable def jn_me41 : jn_Me := (jn_mi41, yX4_clearBelow, none, jn_c41)
noncomputable def jn_c42_0 : List (Nat × jn_E) := [(0, .inl (jn_aload_n 0)), (1, .inl jn_oinit), (4, .inl (jn_aload_n 0)), (5, .inl (jn_bipush 6)), (7, .inl jn_newI), (9, .inl (jn_putF 5 0 2)), (12, .inr (.inr 0))]
noncomputable def jn_c42 : List (Nat × jn_E) := jn_c42_0
def jn_mi42 : jn_MI := (RX5, cX5_init, 1, "<init>")
/-- DebtNet$Taking.<init>()V -/
noncomputable def jn_me42 : jn_Me := (jn_mi42, yX5_init, none, jn_c42)
noncomputable def jn_c43_0 : List (Nat × jn_E) := [(0, .inl (jn_iconst 1)), (1, .inl (jn_istore_n 2)), (2, .inl (jn_iload_n 2)), (3, .inl (jn_bipush 6)), (5, .inl (jn_icge 21)), (8, .inl (jn_aload_n 0)), (9, .inl (jn_getf 5 0)), (12, .inl (jn_iload_n 2)), (13, .inl (jn_iconst 0)), (14, .inl jn_iastore), (15, .inl (jn_iinc 2 1)), (18, .inl (jn_goto 2)), (21, .inl (jn_aload_n 0)), (22, .inl (jn_getf 5 0)), (25, .inl (jn_iconst 0)), (26, .inl (jn_iload_n 1)), (27, .inl jn_iastore), (28, .inr (.inr 0))]
noncomputable def jn_c43 : List (Nat × jn_E) := jn_c43_0
def jn_mi43 : jn_MI := (RX5, cX5_start, 3, "start")
/-- DebtNet$Taking.start(I)V -/
noncomputable def jn_me43 : jn_Me := (jn_mi43, yX5_start, none, jn_c43)
noncomputable def jn_c44_0 : List (Nat × jn_E) := [(0, .inl (jn_iload_n 1)), (1, .inl (jn_iconst 1)), (2, .inl jn_isub), (3, .inl (jn_istore_n 2)), (4, .inl (jn_iload_n 2)), (5, .inl (jn_iconst 1)), (6, .inl jn_isub), (7, .inl (jn_istore_n 3)), (8, .inl (jn_iload_n 3)), (9, .inl (jn_iflt 66)), (12, .inl (jn_aload_n 0)), (13, .inl (jn_getf 5 0)), (16, .inl (jn_iload_n 3)), (17, .inl jn_iaload), (18, .inl (jn_ifle 60)), (21, .inl (jn_aload_n 0)), (22, .inl (jn_getf 5 0)), (25, .inl (jn_iload_n 2)), (26, .inl jn_iaload), (27, .inl (jn_iconst 1)), (28, .inl jn_iadd), (29, .inl (jn_istore 4)), (31, .inl (jn_aload_n 0)), (32, .inl (jn_getf 5 0))]
noncomputable def jn_c44_1 : List (Nat × jn_E) := [(35, .inl (jn_iload_n 2)), (36, .inl (jn_iconst 0)), (37, .inl jn_iastore), (38, .inl (jn_aload_n 0)), (39, .inl (jn_getf 5 0)), (42, .inl (jn_iload_n 3)), (43, .inl jn_dup2), (44, .inl jn_iaload), (45, .inl (jn_iconst 1)), (46, .inl jn_isub), (47, .inl jn_iastore), (48, .inl (jn_aload_n 0)), (49, .inl (jn_getf 5 0)), (52, .inl (jn_iload_n 3)), (53, .inl (jn_iconst 1)), (54, .inl jn_iadd), (55, .inl (jn_iload 4)), (57, .inl jn_iastore), (58, .inl (jn_iconst 1)), (59, .inr (.inr 2)), (60, .inl (jn_iinc 3 (-1))), (63, .inl (jn_goto 8)), (66, .inl (jn_iconst 0)), (67, .inr (.inr 2))]
noncomputable def jn_c44 : List (Nat × jn_E) := jn_c44_0 ++ (jn_c44_1)
def jn_mi44 : jn_MI := (RX5, cX5_advance, 5, "advance")
/-- DebtNet$Taking.advance(I)Z -/
noncomputable def jn_me44 : jn_Me := (jn_mi44, yX5_advance, (some .boolean), jn_c44)
noncomputable def jn_c45_0 : List (Nat × jn_E) := [(0, .inl (jn_aload_n 0)), (1, .inl jn_oinit), (4, .inl (jn_aload_n 0)), (5, .inl (jn_iconst 4)), (6, .inl (jn_newA 3)), (9, .inl (jn_putF 6 0 2)), (12, .inl (jn_aload_n 0)), (13, .inl (jn_iconst 0)), (14, .inl (jn_putf 6 1 0)), (17, .inl (jn_aload_n 0)), (18, .inl (jn_bipush 10)), (20, .inl (jn_newA 4)), (23, .inl (jn_putF 6 2 2)), (26, .inl (jn_aload_n 0)), (27, .inl (jn_iconst 0)), (28, .inl (jn_putf 6 3 0)), (31, .inl (jn_aload_n 0)), (32, .inl (jn_bipush 6)), (34, .inl jn_newI), (36, .inl (jn_putF 6 4 2)), (39, .inl (jn_aload_n 0)), (40, .inl (jn_iconst (-1))), (41, .inl (jn_putf 6 5 0)), (44, .inl (jn_aload_n 0))]
noncomputable def jn_c45_1 : List (Nat × jn_E) := [(45, .inl (jn_bipush 8)), (47, .inl jn_newI), (49, .inl (jn_putF 6 6 2)), (52, .inl (jn_aload_n 0)), (53, .inl (jn_bipush 6)), (55, .inl jn_newI), (57, .inl (jn_putF 6 7 2)), (60, .inl (jn_aload_n 0)), (61, .inl (jn_new 4 1 [.null])), (64, .inl jn_dup), (65, .inr (.inl (31, 1, 1))), (68, .inl (jn_putF 6 8 2)), (71, .inl (jn_aload_n 0)), (72, .inl (jn_new 3 6 [.null, .null, .int 0, .long 0, .null, .null])), (75, .inl jn_dup), (76, .inl (jn_aload_n 0)), (77, .inl (jn_getf 6 8)), (80, .inr (.inl (24, 1, 2))), (83, .inl (jn_putF 6 9 2)), (86, .inl (jn_aload_n 0)), (87, .inl (jn_new 1 4 [.null, .null, .null, .null])), (90, .inl jn_dup), (91, .inl (jn_aload_n 0)), (92, .inl (jn_getf 6 9))]
noncomputable def jn_c45_2 : List (Nat × jn_E) := [(95, .inr (.inl (7, 1, 2))), (98, .inl (jn_putF 6 10 2)), (101, .inr (.inr 0))]
noncomputable def jn_c45 : List (Nat × jn_E) := jn_c45_0 ++ (jn_c45_1 ++ (jn_c45_2))
def jn_mi45 : jn_MI := (RX6, cX6_init, 1, "<init>")
/-- DebtNet.<init>()V -/
noncomputable def jn_me45 : jn_Me := (jn_mi45, yX6_init, none, jn_c45)
noncomputable def jn_c46_0 : List (Nat × jn_E) := [(0, .inl (jn_iload_n 1)), (1, .inl (jn_iconst 1)), (2, .inl (jn_iclt 11)), (5, .inl (jn_iload_n 1)), (6, .inl (jn_bipush 6)), (8, .inl (jn_icle 18)), (11, .inl (jn_aload_n 0)), (12, .inl (jn_bipush (-7))), (14, .inr (.inl (80, 8, 2))), (17, .inr (.inr 1)), (18, .inl (jn_aload_n 0)), (19, .inl (jn_getf 6 1)), (22, .inl (jn_iconst 4)), (23, .inl (jn_iclt 33)), (26, .inl (jn_aload_n 0)), (27, .inl (jn_bipush (-8))), (29, .inr (.inl (80, 8, 2))), (32, .inr (.inr 1)), (33, .inl (jn_aload_n 0)), (34, .inl (jn_getf 6 0)), (37, .inl (jn_aload_n 0)), (38, .inl (jn_getf 6 1)), (41, .inl (jn_new 2 3 [.int 0, .int 0, .null])), (44, .inl jn_dup)]
noncomputable def jn_c46_1 : List (Nat × jn_E) := [(45, .inl (jn_aload_n 0)), (46, .inl (jn_getf 6 1)), (49, .inl (jn_iload_n 1)), (50, .inr (.inl (11, 1, 3))), (53, .inl jn_aastore), (54, .inl (jn_aload_n 0)), (55, .inl jn_dup), (56, .inl (jn_getf 6 1)), (59, .inl (jn_iconst 1)), (60, .inl jn_iadd), (61, .inl (jn_putf 6 1 0)), (64, .inl (jn_aload_n 0)), (65, .inl (jn_getf 6 1)), (68, .inl (jn_iconst 1)), (69, .inl jn_isub), (70, .inr (.inr 1))]
noncomputable def jn_c46 : List (Nat × jn_E) := jn_c46_0 ++ (jn_c46_1)
def jn_mi46 : jn_MI := (RX6, cX6_net, 2, "net")
/-- DebtNet.net(I)I -/
noncomputable def jn_me46 : jn_Me := (jn_mi46, yX6_net, (some .int), jn_c46)
noncomputable def jn_c47_0 : List (Nat × jn_E) := [(0, .inl (jn_aload_n 0)), (1, .inl (jn_iload_n 1)), (2, .inr (.inl (82, 8, 2))), (5, .inl (jn_astore 5)), (7, .inl (jn_aload 5)), (9, .inl (jn_ifnull 30)), (12, .inl (jn_aload 5)), (14, .inl (jn_iload_n 2)), (15, .inr (.inl (12, 4, 2))), (18, .inl (jn_ifeq 30)), (21, .inl (jn_aload 5)), (23, .inl (jn_iload_n 3)), (24, .inr (.inl (12, 4, 2))), (27, .inl (jn_ifne 37)), (30, .inl (jn_aload_n 0)), (31, .inl (jn_bipush (-3))), (33, .inr (.inl (80, 8, 2))), (36, .inr (.inr 1)), (37, .inl (jn_iload 4)), (39, .inl (jn_iflt 62)), (42, .inl (jn_iload 4)), (44, .inl (jn_iconst 4)), (45, .inl (jn_icgt 62)), (48, .inl (jn_iload_n 2))]
noncomputable def jn_c47_1 : List (Nat × jn_E) := [(49, .inl (jn_iload_n 3)), (50, .inl (jn_iceq 62)), (53, .inl (jn_aload_n 0)), (54, .inl (jn_aload 5)), (56, .inr (.inl (84, 8, 2))), (59, .inl (jn_ifeq 69)), (62, .inl (jn_aload_n 0)), (63, .inl (jn_bipush (-7))), (65, .inr (.inl (80, 8, 2))), (68, .inr (.inr 1)), (69, .inl (jn_aload 5)), (71, .inl (jn_iload_n 2)), (72, .inl (jn_iload_n 3)), (73, .inr (.inl (14, 4, 3))), (76, .inl (jn_istore 6)), (78, .inl (jn_aload 5)), (80, .inl (jn_iload_n 2)), (81, .inl (jn_iload_n 3)), (82, .inl (jn_iload 4)), (84, .inr (.inl (15, 4, 4))), (87, .inl (jn_iload 6)), (89, .inr (.inr 1))]
noncomputable def jn_c47 : List (Nat × jn_E) := jn_c47_0 ++ (jn_c47_1)
def jn_mi47 : jn_MI := (RX6, cX6_road, 7, "road")
/-- DebtNet.road(IIII)I -/
noncomputable def jn_me47 : jn_Me := (jn_mi47, yX6_road, (some .int), jn_c47)
noncomputable def jn_c48_0 : List (Nat × jn_E) := [(0, .inl (jn_aload_n 0)), (1, .inl (jn_iload_n 1)), (2, .inr (.inl (82, 8, 2))), (5, .inl (jn_astore_n 3)), (6, .inl (jn_aload_n 3)), (7, .inl (jn_ifnonnull 17)), (10, .inl (jn_aload_n 0)), (11, .inl (jn_bipush (-3))), (13, .inr (.inl (80, 8, 2))), (16, .inr (.inr 1)), (17, .inl (jn_iload_n 2)), (18, .inl (jn_table 0 4 [52, 57, 62, 67, 72] 85)), (52, .inl (jn_aload_n 3)), (53, .inr (.inl (21, 4, 1))), (56, .inr (.inr 1)), (57, .inl (jn_aload_n 3)), (58, .inl (jn_getf 2 1)), (61, .inr (.inr 1)), (62, .inl (jn_aload_n 3)), (63, .inr (.inl (18, 4, 1))), (66, .inr (.inr 1)), (67, .inl (jn_aload_n 3)), (68, .inr (.inl (19, 4, 1))), (71, .inr (.inr 1))]
noncomputable def jn_c48_1 : List (Nat × jn_E) := [(72, .inl (jn_aload_n 3)), (73, .inr (.inl (20, 4, 1))), (76, .inl (jn_ifeq 83)), (79, .inl (jn_iconst 1)), (80, .inl (jn_goto 84)), (83, .inl (jn_iconst 0)), (84, .inr (.inr 1)), (85, .inl (jn_aload_n 0)), (86, .inl (jn_bipush (-7))), (88, .inr (.inl (80, 8, 2))), (91, .inr (.inr 1))]
noncomputable def jn_c48 : List (Nat × jn_E) := jn_c48_0 ++ (jn_c48_1)
def jn_mi48 : jn_MI := (RX6, cX6_look, 4, "look")
/-- DebtNet.look(II)I -/
noncomputable def jn_me48 : jn_Me := (jn_mi48, yX6_look, (some .int), jn_c48)
noncomputable def jn_c49_0 : List (Nat × jn_E) := [(0, .inl (jn_aload_n 0)), (1, .inl (jn_iload_n 1)), (2, .inr (.inl (82, 8, 2))), (5, .inl (jn_astore 4)), (7, .inl (jn_aload 4)), (9, .inl (jn_ifnull 35)), (12, .inl (jn_aload 4)), (14, .inl (jn_iload_n 2)), (15, .inr (.inl (12, 4, 2))), (18, .inl (jn_ifeq 35)), (21, .inl (jn_iload_n 3)), (22, .inl (jn_iconst (-1))), (23, .inl (jn_iceq 42)), (26, .inl (jn_aload 4)), (28, .inl (jn_iload_n 3)), (29, .inr (.inl (12, 4, 2))), (32, .inl (jn_ifne 42)), (35, .inl (jn_aload_n 0)), (36, .inl (jn_bipush (-3))), (38, .inr (.inl (80, 8, 2))), (41, .inr (.inr 1)), (42, .inl (jn_iload_n 3)), (43, .inl (jn_iconst (-1))), (44, .inl (jn_icne 56))]
noncomputable def jn_c49_1 : List (Nat × jn_E) := [(47, .inl (jn_aload 4)), (49, .inl (jn_iload_n 2)), (50, .inr (.inl (16, 4, 2))), (53, .inl (jn_goto 63)), (56, .inl (jn_aload 4)), (58, .inl (jn_iload_n 2)), (59, .inl (jn_iload_n 3)), (60, .inr (.inl (14, 4, 3))), (63, .inr (.inr 1))]
noncomputable def jn_c49 : List (Nat × jn_E) := jn_c49_0 ++ (jn_c49_1)
def jn_mi49 : jn_MI := (RX6, cX6_roads, 5, "roads")
/-- DebtNet.roads(III)I -/
noncomputable def jn_me49 : jn_Me := (jn_mi49, yX6_roads, (some .int), jn_c49)
noncomputable def jn_c50_0 : List (Nat × jn_E) := [(0, .inl (jn_aload_n 0)), (1, .inl (jn_iload_n 1)), (2, .inr (.inl (82, 8, 2))), (5, .inl (jn_astore_n 2)), (6, .inl (jn_aload_n 2)), (7, .inl (jn_ifnonnull 18)), (10, .inl (jn_aload_n 0)), (11, .inl (jn_bipush (-3))), (13, .inr (.inl (81, 8, 2))), (16, .inl jn_i2l), (17, .inr (.inr 3)), (18, .inl (jn_aload_n 2)), (19, .inr (.inl (20, 4, 1))), (22, .inl (jn_ifne 33)), (25, .inl (jn_aload_n 0)), (26, .inl (jn_bipush (-5))), (28, .inr (.inl (81, 8, 2))), (31, .inl jn_i2l), (32, .inr (.inr 3)), (33, .inl (jn_aload_n 0)), (34, .inl (jn_getf 6 8)), (37, .inl (jn_aload_n 2)), (38, .inr (.inl (33, 6, 2))), (41, .inr (.inr 3))]
noncomputable def jn_c50 : List (Nat × jn_E) := jn_c50_0
def jn_mi50 : jn_MI := (RX6, cX6_trees, 3, "trees")
/-- DebtNet.trees(I)J -/
noncomputable def jn_me50 : jn_Me := (jn_mi50, yX6_trees, (some .long), jn_c50)
noncomputable def jn_c51_0 : List (Nat × jn_E) := [(0, .inl (jn_aload_n 0)), (1, .inl (jn_iload_n 1)), (2, .inr (.inl (82, 8, 2))), (5, .inl (jn_astore_n 3)), (6, .inl (jn_aload_n 3)), (7, .inl (jn_ifnonnull 18)), (10, .inl (jn_aload_n 0)), (11, .inl (jn_bipush (-3))), (13, .inr (.inl (81, 8, 2))), (16, .inl jn_i2l), (17, .inr (.inr 3)), (18, .inl (jn_aload_n 3)), (19, .inr (.inl (20, 4, 1))), (22, .inl (jn_ifne 33)), (25, .inl (jn_aload_n 0)), (26, .inl (jn_bipush (-5))), (28, .inr (.inl (81, 8, 2))), (31, .inl jn_i2l), (32, .inr (.inr 3)), (33, .inl (jn_iload_n 2)), (34, .inl (jn_iflt 47)), (37, .inl (jn_iload_n 2)), (38, .inl (jn_aload_n 3)), (39, .inl (jn_getf 2 1))]
noncomputable def jn_c51_1 : List (Nat × jn_E) := [(42, .inl (jn_iconst 2)), (43, .inl jn_isub), (44, .inl (jn_icle 55)), (47, .inl (jn_aload_n 0)), (48, .inl (jn_bipush (-3))), (50, .inr (.inl (81, 8, 2))), (53, .inl jn_i2l), (54, .inr (.inr 3)), (55, .inl (jn_aload_n 0)), (56, .inl (jn_getf 6 8)), (59, .inl (jn_aload_n 3)), (60, .inl (jn_iload_n 2)), (61, .inr (.inl (34, 6, 3))), (64, .inl (jn_lstore 4)), (66, .inl (jn_lload 4)), (68, .inl (jn_lconst 0)), (69, .inl jn_lcmp), (70, .inl (jn_ifne 77)), (73, .inl (jn_lconst 0)), (74, .inl (jn_goto 91)), (77, .inl (jn_aload_n 0)), (78, .inl (jn_getf 6 8)), (81, .inl (jn_aload_n 3)), (82, .inl (jn_iload_n 2))]
noncomputable def jn_c51_2 : List (Nat × jn_E) := [(83, .inl (jn_iconst 1)), (84, .inl jn_iadd), (85, .inr (.inl (34, 6, 3))), (88, .inl (jn_lload 4)), (90, .inl jn_ldiv), (91, .inr (.inr 3))]
noncomputable def jn_c51 : List (Nat × jn_E) := jn_c51_0 ++ (jn_c51_1 ++ (jn_c51_2))
def jn_mi51 : jn_MI := (RX6, cX6_factor, 6, "factor")
/-- DebtNet.factor(II)J -/
noncomputable def jn_me51 : jn_Me := (jn_mi51, yX6_factor, (some .long), jn_c51)
noncomputable def jn_c52_0 : List (Nat × jn_E) := [(0, .inl (jn_aload_n 0)), (1, .inl (jn_iload_n 1)), (2, .inr (.inl (82, 8, 2))), (5, .inl (jn_astore 5)), (7, .inl (jn_aload 5)), (9, .inl (jn_ifnull 30)), (12, .inl (jn_aload 5)), (14, .inl (jn_iload_n 2)), (15, .inr (.inl (12, 4, 2))), (18, .inl (jn_ifeq 30)), (21, .inl (jn_aload 5)), (23, .inl (jn_iload_n 3)), (24, .inr (.inl (12, 4, 2))), (27, .inl (jn_ifne 38)), (30, .inl (jn_aload_n 0)), (31, .inl (jn_bipush (-3))), (33, .inr (.inl (81, 8, 2))), (36, .inl jn_i2l), (37, .inr (.inr 3)), (38, .inl (jn_aload 5)), (40, .inr (.inl (20, 4, 1))), (43, .inl (jn_ifne 54)), (46, .inl (jn_aload_n 0)), (47, .inl (jn_bipush (-5)))]
noncomputable def jn_c52_1 : List (Nat × jn_E) := [(49, .inr (.inl (81, 8, 2))), (52, .inl jn_i2l), (53, .inr (.inr 3)), (54, .inl (jn_iload_n 2)), (55, .inl (jn_iload_n 3)), (56, .inl (jn_icne 70)), (59, .inl (jn_iload 4)), (61, .inl (jn_ifeq 68)), (64, .inl (jn_lconst 1)), (65, .inl (jn_goto 69)), (68, .inl (jn_lconst 0)), (69, .inr (.inr 3)), (70, .inl (jn_aload 5)), (72, .inr (.inl (13, 4, 1))), (75, .inl (jn_iconst 1)), (76, .inl (jn_iload_n 2)), (77, .inl jn_ishl), (78, .inl (jn_iconst (-1))), (79, .inl jn_ixor), (80, .inl jn_iand), (81, .inl (jn_iconst 1)), (82, .inl (jn_iload_n 3)), (83, .inl jn_ishl), (84, .inl (jn_iconst (-1)))]
noncomputable def jn_c52_2 : List (Nat × jn_E) := [(85, .inl jn_ixor), (86, .inl jn_iand), (87, .inl (jn_istore 6)), (89, .inl (jn_aload_n 0)), (90, .inl (jn_getf 6 8)), (93, .inl (jn_aload 5)), (95, .inl (jn_iload 6)), (97, .inl (jn_iload 6)), (99, .inr (.inl (36, 6, 4))), (102, .inl (jn_lstore 7)), (104, .inl (jn_aload_n 0)), (105, .inl (jn_getf 6 8)), (108, .inl (jn_aload 5)), (110, .inr (.inl (33, 6, 2))), (113, .inl (jn_lstore 9)), (115, .inl (jn_lload 7)), (117, .inl (jn_lload 9)), (119, .inr (.inl (32, 0, 2))), (122, .inl (jn_lstore 11)), (124, .inl (jn_lload 11)), (126, .inl (jn_lconst 0)), (127, .inl jn_lcmp), (128, .inl (jn_ifne 133)), (131, .inl (jn_lconst 0))]
noncomputable def jn_c52_3 : List (Nat × jn_E) := [(132, .inr (.inr 3)), (133, .inl (jn_iload 4)), (135, .inl (jn_ifeq 146)), (138, .inl (jn_lload 9)), (140, .inl (jn_lload 11)), (142, .inl jn_ldiv), (143, .inl (jn_goto 151)), (146, .inl (jn_lload 7)), (148, .inl (jn_lload 11)), (150, .inl jn_ldiv), (151, .inr (.inr 3))]
noncomputable def jn_c52 : List (Nat × jn_E) := jn_c52_0 ++ (jn_c52_1 ++ (jn_c52_2 ++ (jn_c52_3)))
def jn_mi52 : jn_MI := (RX6, cX6_resist, 13, "resist")
/-- DebtNet.resist(IIIZ)J -/
noncomputable def jn_me52 : jn_Me := (jn_mi52, yX6_resist, (some .long), jn_c52)
noncomputable def jn_c53_0 : List (Nat × jn_E) := [(0, .inl (jn_aload_n 0)), (1, .inl (jn_iload_n 1)), (2, .inr (.inl (82, 8, 2))), (5, .inl (jn_astore_n 2)), (6, .inl (jn_aload_n 2)), (7, .inr (.inl (85, 0, 1))), (10, .inl (jn_istore_n 3)), (11, .inl (jn_aload_n 2)), (12, .inl (jn_ifnull 19)), (15, .inl (jn_iload_n 3)), (16, .inl (jn_ifeq 25)), (19, .inl (jn_aload_n 0)), (20, .inl (jn_iload_n 3)), (21, .inr (.inl (80, 8, 2))), (24, .inr (.inr 1)), (25, .inl (jn_aload_n 0)), (26, .inl (jn_getf 6 9)), (29, .inl (jn_aload_n 2)), (30, .inl (jn_iconst 0)), (31, .inr (.inl (25, 5, 3))), (34, .inl (jn_iconst 1)), (35, .inl (jn_istore 4)), (37, .inl (jn_iload 4)), (39, .inl (jn_aload_n 2))]
noncomputable def jn_c53_1 : List (Nat × jn_E) := [(40, .inl (jn_getf 2 1)), (43, .inl (jn_icge 68)), (46, .inl (jn_aload_n 0)), (47, .inl (jn_getf 6 10)), (50, .inl (jn_aload_n 2)), (51, .inl (jn_iload 4)), (53, .inr (.inl (10, 3, 3))), (56, .inl (jn_ifeq 62)), (59, .inl (jn_iload 4)), (61, .inr (.inr 1)), (62, .inl (jn_iinc 4 1)), (65, .inl (jn_goto 37)), (68, .inl (jn_aload_n 2)), (69, .inl (jn_getf 2 1)), (72, .inr (.inr 1))]
noncomputable def jn_c53 : List (Nat × jn_E) := jn_c53_0 ++ (jn_c53_1)
def jn_mi53 : jn_MI := (RX6, cX6_gonality, 5, "gonality")
/-- DebtNet.gonality(I)I -/
noncomputable def jn_me53 : jn_Me := (jn_mi53, yX6_gonality, (some .int), jn_c53)
noncomputable def jn_c54_0 : List (Nat × jn_E) := [(0, .inl (jn_aload_n 0)), (1, .inl (jn_iload_n 1)), (2, .inr (.inl (82, 8, 2))), (5, .inl (jn_astore_n 2)), (6, .inl (jn_aload_n 2)), (7, .inl (jn_ifnonnull 17)), (10, .inl (jn_aload_n 0)), (11, .inl (jn_bipush (-3))), (13, .inr (.inl (80, 8, 2))), (16, .inr (.inr 1)), (17, .inl (jn_aload_n 0)), (18, .inr (.inl (89, 8, 1))), (21, .inl (jn_aload_n 0)), (22, .inl (jn_aload_n 2)), (23, .inr (.inl (88, 8, 2))), (26, .inr (.inr 1))]
noncomputable def jn_c54 : List (Nat × jn_E) := jn_c54_0
def jn_mi54 : jn_MI := (RX6, cX6_book, 3, "book")
/-- DebtNet.book(I)I -/
noncomputable def jn_me54 : jn_Me := (jn_mi54, yX6_book, (some .int), jn_c54)
noncomputable def jn_c55_0 : List (Nat × jn_E) := [(0, .inl (jn_aload_n 0)), (1, .inl (jn_iload_n 1)), (2, .inr (.inl (83, 8, 2))), (5, .inl (jn_astore 4)), (7, .inl (jn_aload 4)), (9, .inl (jn_ifnull 24)), (12, .inl (jn_aload 4)), (14, .inl (jn_getf 0 0)), (17, .inl (jn_iload_n 2)), (18, .inr (.inl (12, 4, 2))), (21, .inl (jn_ifne 31)), (24, .inl (jn_aload_n 0)), (25, .inl (jn_bipush (-3))), (27, .inr (.inl (81, 8, 2))), (30, .inr (.inr 1)), (31, .inl (jn_iload_n 3)), (32, .inl (jn_sipush (-300))), (35, .inl (jn_iclt 45)), (38, .inl (jn_iload_n 3)), (39, .inl (jn_sipush 300)), (42, .inl (jn_icle 52)), (45, .inl (jn_aload_n 0)), (46, .inl (jn_bipush (-7))), (48, .inr (.inl (81, 8, 2)))]
noncomputable def jn_c55_1 : List (Nat × jn_E) := [(51, .inr (.inr 1)), (52, .inl (jn_aload 4)), (54, .inl (jn_getf 0 1)), (57, .inl (jn_iload_n 2)), (58, .inl jn_iaload), (59, .inl (jn_istore 5)), (61, .inl (jn_aload 4)), (63, .inl (jn_getf 0 1)), (66, .inl (jn_iload_n 2)), (67, .inl (jn_iload_n 3)), (68, .inl jn_iastore), (69, .inl (jn_iload 5)), (71, .inr (.inr 1))]
noncomputable def jn_c55 : List (Nat × jn_E) := jn_c55_0 ++ (jn_c55_1)
def jn_mi55 : jn_MI := (RX6, cX6_put, 6, "put")
/-- DebtNet.put(III)I -/
noncomputable def jn_me55 : jn_Me := (jn_mi55, yX6_put, (some .int), jn_c55)
noncomputable def jn_c56_0 : List (Nat × jn_E) := [(0, .inl (jn_aload_n 0)), (1, .inl (jn_iload_n 1)), (2, .inr (.inl (83, 8, 2))), (5, .inl (jn_astore_n 3)), (6, .inl (jn_aload_n 3)), (7, .inl (jn_ifnull 21)), (10, .inl (jn_aload_n 3)), (11, .inl (jn_getf 0 0)), (14, .inl (jn_iload_n 2)), (15, .inr (.inl (12, 4, 2))), (18, .inl (jn_ifne 28)), (21, .inl (jn_aload_n 0)), (22, .inl (jn_bipush (-3))), (24, .inr (.inl (81, 8, 2))), (27, .inr (.inr 1)), (28, .inl (jn_aload_n 3)), (29, .inl (jn_getf 0 1)), (32, .inl (jn_iload_n 2)), (33, .inl jn_iaload), (34, .inr (.inr 1))]
noncomputable def jn_c56 : List (Nat × jn_E) := jn_c56_0
def jn_mi56 : jn_MI := (RX6, cX6_at, 4, "at")
/-- DebtNet.at(II)I -/
noncomputable def jn_me56 : jn_Me := (jn_mi56, yX6_at, (some .int), jn_c56)
noncomputable def jn_c57_0 : List (Nat × jn_E) := [(0, .inl (jn_aload_n 0)), (1, .inl (jn_iload_n 1)), (2, .inr (.inl (83, 8, 2))), (5, .inl (jn_astore_n 2)), (6, .inl (jn_aload_n 2)), (7, .inl (jn_ifnonnull 17)), (10, .inl (jn_aload_n 0)), (11, .inl (jn_bipush (-3))), (13, .inr (.inl (81, 8, 2))), (16, .inr (.inr 1)), (17, .inl (jn_aload_n 2)), (18, .inr (.inl (1, 2, 1))), (21, .inr (.inr 1))]
noncomputable def jn_c57 : List (Nat × jn_E) := jn_c57_0
def jn_mi57 : jn_MI := (RX6, cX6_degree, 3, "degree")
/-- DebtNet.degree(I)I -/
noncomputable def jn_me57 : jn_Me := (jn_mi57, yX6_degree, (some .int), jn_c57)
noncomputable def jn_c58_0 : List (Nat × jn_E) := [(0, .inl (jn_aload_n 0)), (1, .inl (jn_iload_n 1)), (2, .inr (.inl (83, 8, 2))), (5, .inl (jn_astore_n 2)), (6, .inl (jn_aload_n 2)), (7, .inl (jn_ifnonnull 17)), (10, .inl (jn_aload_n 0)), (11, .inl (jn_bipush (-3))), (13, .inr (.inl (80, 8, 2))), (16, .inr (.inr 1)), (17, .inl (jn_aload_n 2)), (18, .inl (jn_iconst (-1))), (19, .inr (.inl (2, 2, 2))), (22, .inl (jn_ifeq 29)), (25, .inl (jn_iconst 0)), (26, .inl (jn_goto 30)), (29, .inl (jn_iconst 1)), (30, .inr (.inr 1))]
noncomputable def jn_c58 : List (Nat × jn_E) := jn_c58_0
def jn_mi58 : jn_MI := (RX6, cX6_good, 3, "good")
/-- DebtNet.good(I)I -/
noncomputable def jn_me58 : jn_Me := (jn_mi58, yX6_good, (some .int), jn_c58)
noncomputable def jn_c59_0 : List (Nat × jn_E) := [(0, .inl (jn_aload_n 0)), (1, .inl (jn_iload_n 1)), (2, .inr (.inl (83, 8, 2))), (5, .inl (jn_astore 4)), (7, .inl (jn_aload 4)), (9, .inl (jn_ifnull 24)), (12, .inl (jn_aload 4)), (14, .inl (jn_getf 0 0)), (17, .inl (jn_iload_n 2)), (18, .inr (.inl (12, 4, 2))), (21, .inl (jn_ifne 31)), (24, .inl (jn_aload_n 0)), (25, .inl (jn_bipush (-3))), (27, .inr (.inl (81, 8, 2))), (30, .inr (.inr 1)), (31, .inl (jn_iload_n 3)), (32, .inl (jn_bipush (-100))), (34, .inl (jn_iclt 43)), (37, .inl (jn_iload_n 3)), (38, .inl (jn_bipush 100)), (40, .inl (jn_icle 50)), (43, .inl (jn_aload_n 0)), (44, .inl (jn_bipush (-7))), (46, .inr (.inl (81, 8, 2)))]
noncomputable def jn_c59_1 : List (Nat × jn_E) := [(49, .inr (.inr 1)), (50, .inl (jn_aload 4)), (52, .inl (jn_aload_n 0)), (53, .inl (jn_getf 6 7)), (56, .inr (.inl (4, 2, 2))), (59, .inl (jn_aload 4)), (61, .inl (jn_getf 0 0)), (64, .inl (jn_aload_n 0)), (65, .inl (jn_getf 6 7)), (68, .inl (jn_iload_n 2)), (69, .inl (jn_iload_n 3)), (70, .inr (.inl (23, 4, 4))), (73, .inl (jn_aload_n 0)), (74, .inr (.inl (91, 8, 1))), (77, .inl (jn_ifne 87)), (80, .inl (jn_aload_n 0)), (81, .inl (jn_bipush (-8))), (83, .inr (.inl (81, 8, 2))), (86, .inr (.inr 1)), (87, .inl (jn_aload 4)), (89, .inl (jn_aload_n 0)), (90, .inl (jn_getf 6 7)), (93, .inr (.inl (5, 2, 2))), (96, .inl jn_pop)]
noncomputable def jn_c59_2 : List (Nat × jn_E) := [(97, .inl (jn_aload 4)), (99, .inl (jn_getf 0 1)), (102, .inl (jn_iload_n 2)), (103, .inl jn_iaload), (104, .inr (.inr 1))]
noncomputable def jn_c59 : List (Nat × jn_E) := jn_c59_0 ++ (jn_c59_1 ++ (jn_c59_2))
def jn_mi59 : jn_MI := (RX6, cX6_lend, 5, "lend")
/-- DebtNet.lend(III)I -/
noncomputable def jn_me59 : jn_Me := (jn_mi59, yX6_lend, (some .int), jn_c59)
noncomputable def jn_c60_0 : List (Nat × jn_E) := [(0, .inl (jn_aload_n 0)), (1, .inl (jn_iload_n 1)), (2, .inr (.inl (83, 8, 2))), (5, .inl (jn_astore_n 3)), (6, .inl (jn_aload_n 3)), (7, .inl (jn_ifnull 25)), (10, .inl (jn_iload_n 2)), (11, .inl (jn_iflt 25)), (14, .inl (jn_iload_n 2)), (15, .inl (jn_aload_n 3)), (16, .inl (jn_getf 0 0)), (19, .inr (.inl (13, 4, 1))), (22, .inl (jn_icle 32)), (25, .inl (jn_aload_n 0)), (26, .inl (jn_bipush (-3))), (28, .inr (.inl (80, 8, 2))), (31, .inr (.inr 1)), (32, .inl (jn_aload_n 3)), (33, .inl (jn_aload_n 0)), (34, .inl (jn_getf 6 7)), (37, .inr (.inl (4, 2, 2))), (40, .inl (jn_iconst 0)), (41, .inl (jn_istore 4)), (43, .inl (jn_iload 4))]
noncomputable def jn_c60_1 : List (Nat × jn_E) := [(45, .inl (jn_aload_n 3)), (46, .inl (jn_getf 0 0)), (49, .inl (jn_getf 2 1)), (52, .inl (jn_icge 84)), (55, .inl (jn_iload_n 2)), (56, .inl (jn_iload 4)), (58, .inl jn_ishr), (59, .inl (jn_iconst 1)), (60, .inl jn_iand), (61, .inl (jn_ifeq 78)), (64, .inl (jn_aload_n 3)), (65, .inl (jn_getf 0 0)), (68, .inl (jn_aload_n 0)), (69, .inl (jn_getf 6 7)), (72, .inl (jn_iload 4)), (74, .inl (jn_iconst 1)), (75, .inr (.inl (23, 4, 4))), (78, .inl (jn_iinc 4 1)), (81, .inl (jn_goto 43)), (84, .inl (jn_aload_n 0)), (85, .inr (.inl (91, 8, 1))), (88, .inl (jn_ifne 98)), (91, .inl (jn_aload_n 0)), (92, .inl (jn_bipush (-8)))]
noncomputable def jn_c60_2 : List (Nat × jn_E) := [(94, .inr (.inl (80, 8, 2))), (97, .inr (.inr 1)), (98, .inl (jn_aload_n 3)), (99, .inl (jn_aload_n 0)), (100, .inl (jn_getf 6 7)), (103, .inr (.inl (5, 2, 2))), (106, .inr (.inr 1))]
noncomputable def jn_c60 : List (Nat × jn_E) := jn_c60_0 ++ (jn_c60_1 ++ (jn_c60_2))
def jn_mi60 : jn_MI := (RX6, cX6_lendAll, 5, "lendAll")
/-- DebtNet.lendAll(II)I -/
noncomputable def jn_me60 : jn_Me := (jn_mi60, yX6_lendAll, (some .int), jn_c60)
noncomputable def jn_c61_0 : List (Nat × jn_E) := [(0, .inl (jn_aload_n 0)), (1, .inl (jn_iload_n 1)), (2, .inr (.inl (82, 8, 2))), (5, .inl (jn_astore_n 2)), (6, .inl (jn_aload_n 2)), (7, .inl (jn_ifnonnull 17)), (10, .inl (jn_aload_n 0)), (11, .inl (jn_bipush (-3))), (13, .inr (.inl (80, 8, 2))), (16, .inr (.inr 1)), (17, .inl (jn_aload_n 0)), (18, .inr (.inl (89, 8, 1))), (21, .inl (jn_iconst 0)), (22, .inl (jn_istore_n 3)), (23, .inl (jn_iload_n 3)), (24, .inl (jn_aload_n 2)), (25, .inl (jn_getf 2 1)), (28, .inl (jn_icge 50)), (31, .inl (jn_aload_n 0)), (32, .inl (jn_getf 6 7)), (35, .inl (jn_iload_n 3)), (36, .inl (jn_aload_n 2)), (37, .inl (jn_iload_n 3)), (38, .inr (.inl (16, 4, 2)))]
noncomputable def jn_c61_1 : List (Nat × jn_E) := [(41, .inl (jn_iconst 2)), (42, .inl jn_isub), (43, .inl jn_iastore), (44, .inl (jn_iinc 3 1)), (47, .inl (jn_goto 23)), (50, .inl (jn_aload_n 0)), (51, .inl (jn_aload_n 2)), (52, .inr (.inl (88, 8, 2))), (55, .inr (.inr 1))]
noncomputable def jn_c61 : List (Nat × jn_E) := jn_c61_0 ++ (jn_c61_1)
def jn_mi61 : jn_MI := (RX6, cX6_own, 4, "own")
/-- DebtNet.own(I)I -/
noncomputable def jn_me61 : jn_Me := (jn_mi61, yX6_own, (some .int), jn_c61)
noncomputable def jn_c62_0 : List (Nat × jn_E) := [(0, .inl (jn_aload_n 0)), (1, .inl (jn_iload_n 1)), (2, .inr (.inl (83, 8, 2))), (5, .inl (jn_astore 4)), (7, .inl (jn_aload_n 0)), (8, .inl (jn_iload_n 2)), (9, .inr (.inl (83, 8, 2))), (12, .inl (jn_astore 5)), (14, .inl (jn_aload 4)), (16, .inl (jn_ifnull 24)), (19, .inl (jn_aload 5)), (21, .inl (jn_ifnonnull 31)), (24, .inl (jn_aload_n 0)), (25, .inl (jn_bipush (-3))), (27, .inr (.inl (80, 8, 2))), (30, .inr (.inr 1)), (31, .inl (jn_aload 4)), (33, .inl (jn_getf 0 0)), (36, .inl (jn_getf 2 0)), (39, .inl (jn_aload 5)), (41, .inl (jn_getf 0 0)), (44, .inl (jn_getf 2 0)), (47, .inl (jn_iceq 57)), (50, .inl (jn_aload_n 0))]
noncomputable def jn_c62_1 : List (Nat × jn_E) := [(51, .inl (jn_bipush (-7))), (53, .inr (.inl (80, 8, 2))), (56, .inr (.inr 1)), (57, .inl (jn_aload_n 0)), (58, .inl (jn_aload 4)), (60, .inl (jn_aload 5)), (62, .inl (jn_iload_n 3)), (63, .inl (jn_ifeq 70)), (66, .inl (jn_iconst (-1))), (67, .inl (jn_goto 71)), (70, .inl (jn_iconst 1)), (71, .inr (.inl (90, 8, 4))), (74, .inl (jn_aload_n 0)), (75, .inr (.inl (91, 8, 1))), (78, .inl (jn_ifne 88)), (81, .inl (jn_aload_n 0)), (82, .inl (jn_bipush (-8))), (84, .inr (.inl (80, 8, 2))), (87, .inr (.inr 1)), (88, .inl (jn_aload_n 0)), (89, .inl (jn_aload 4)), (91, .inl (jn_getf 0 0)), (94, .inr (.inl (88, 8, 2))), (97, .inr (.inr 1))]
noncomputable def jn_c62 : List (Nat × jn_E) := jn_c62_0 ++ (jn_c62_1)
def jn_mi62 : jn_MI := (RX6, cX6_sum, 6, "sum")
/-- DebtNet.sum(IIZ)I -/
noncomputable def jn_me62 : jn_Me := (jn_mi62, yX6_sum, (some .int), jn_c62)
noncomputable def jn_c63_0 : List (Nat × jn_E) := [(0, .inl (jn_aload_n 0)), (1, .inl (jn_getf 6 3)), (4, .inl (jn_ifgt 14)), (7, .inl (jn_aload_n 0)), (8, .inl (jn_bipush (-2))), (10, .inr (.inl (80, 8, 2))), (13, .inr (.inr 1)), (14, .inl (jn_aload_n 0)), (15, .inl jn_dup), (16, .inl (jn_getf 6 3)), (19, .inl (jn_iconst 1)), (20, .inl jn_isub), (21, .inl (jn_putf 6 3 0)), (24, .inl (jn_aload_n 0)), (25, .inl (jn_getf 6 3)), (28, .inr (.inr 1))]
noncomputable def jn_c63 : List (Nat × jn_E) := jn_c63_0
def jn_mi63 : jn_MI := (RX6, cX6_drop, 1, "drop")
/-- DebtNet.drop()I -/
noncomputable def jn_me63 : jn_Me := (jn_mi63, yX6_drop, (some .int), jn_c63)
noncomputable def jn_c64_0 : List (Nat × jn_E) := [(0, .inl (jn_aload_n 0)), (1, .inl (jn_iload_n 1)), (2, .inr (.inl (83, 8, 2))), (5, .inl (jn_astore_n 3)), (6, .inl (jn_aload_n 3)), (7, .inl (jn_ifnull 21)), (10, .inl (jn_aload_n 3)), (11, .inl (jn_getf 0 0)), (14, .inl (jn_iload_n 2)), (15, .inr (.inl (12, 4, 2))), (18, .inl (jn_ifne 28)), (21, .inl (jn_aload_n 0)), (22, .inl (jn_bipush (-3))), (24, .inr (.inl (80, 8, 2))), (27, .inr (.inr 1)), (28, .inl (jn_aload_n 3)), (29, .inl (jn_iload_n 2)), (30, .inr (.inl (6, 2, 2))), (33, .inr (.inr 1))]
noncomputable def jn_c64 : List (Nat × jn_E) := jn_c64_0
def jn_mi64 : jn_MI := (RX6, cX6_burn, 4, "burn")
/-- DebtNet.burn(II)I -/
noncomputable def jn_me64 : jn_Me := (jn_mi64, yX6_burn, (some .int), jn_c64)
noncomputable def jn_c65_0 : List (Nat × jn_E) := [(0, .inl (jn_aload_n 0)), (1, .inl (jn_iload_n 1)), (2, .inr (.inl (83, 8, 2))), (5, .inl (jn_astore_n 3)), (6, .inl (jn_aload_n 3)), (7, .inl (jn_ifnull 21)), (10, .inl (jn_aload_n 3)), (11, .inl (jn_getf 0 0)), (14, .inl (jn_iload_n 2)), (15, .inr (.inl (12, 4, 2))), (18, .inl (jn_ifne 28)), (21, .inl (jn_aload_n 0)), (22, .inl (jn_bipush (-3))), (24, .inr (.inl (80, 8, 2))), (27, .inr (.inr 1)), (28, .inl (jn_aload_n 3)), (29, .inl (jn_getf 0 0)), (32, .inr (.inl (20, 4, 1))), (35, .inl (jn_ifne 45)), (38, .inl (jn_aload_n 0)), (39, .inl (jn_bipush (-5))), (41, .inr (.inl (80, 8, 2))), (44, .inr (.inr 1)), (45, .inl (jn_aload_n 3))]
noncomputable def jn_c65_1 : List (Nat × jn_E) := [(46, .inl (jn_aload_n 0)), (47, .inl (jn_getf 6 7)), (50, .inr (.inl (4, 2, 2))), (53, .inl (jn_aload_n 0)), (54, .inl (jn_getf 6 9)), (57, .inl (jn_aload_n 3)), (58, .inl (jn_getf 0 0)), (61, .inl (jn_iload_n 2)), (62, .inr (.inl (25, 5, 3))), (65, .inl (jn_aload_n 0)), (66, .inl (jn_getf 6 9)), (69, .inl (jn_aload_n 0)), (70, .inl (jn_getf 6 7)), (73, .inr (.inl (29, 5, 2))), (76, .inl (jn_aload_n 0)), (77, .inr (.inl (91, 8, 1))), (80, .inl (jn_ifne 90)), (83, .inl (jn_aload_n 0)), (84, .inl (jn_bipush (-8))), (86, .inr (.inl (80, 8, 2))), (89, .inr (.inr 1)), (90, .inl (jn_aload_n 3)), (91, .inl (jn_aload_n 0)), (92, .inl (jn_getf 6 7))]
noncomputable def jn_c65_2 : List (Nat × jn_E) := [(95, .inr (.inl (5, 2, 2))), (98, .inr (.inr 1))]
noncomputable def jn_c65 : List (Nat × jn_E) := jn_c65_0 ++ (jn_c65_1 ++ (jn_c65_2))
def jn_mi65 : jn_MI := (RX6, cX6_reduce, 4, "reduce")
/-- DebtNet.reduce(II)I -/
noncomputable def jn_me65 : jn_Me := (jn_mi65, yX6_reduce, (some .int), jn_c65)
noncomputable def jn_c66_0 : List (Nat × jn_E) := [(0, .inl (jn_aload_n 0)), (1, .inl (jn_iload_n 1)), (2, .inr (.inl (83, 8, 2))), (5, .inl (jn_astore_n 3)), (6, .inl (jn_aload_n 0)), (7, .inl (jn_iload_n 2)), (8, .inr (.inl (83, 8, 2))), (11, .inl (jn_astore 4)), (13, .inl (jn_aload_n 3)), (14, .inl (jn_aload 4)), (16, .inr (.inl (86, 0, 2))), (19, .inl (jn_istore 5)), (21, .inl (jn_aload_n 3)), (22, .inl (jn_ifnull 35)), (25, .inl (jn_aload 4)), (27, .inl (jn_ifnull 35)), (30, .inl (jn_iload 5)), (32, .inl (jn_ifeq 42)), (35, .inl (jn_aload_n 0)), (36, .inl (jn_iload 5)), (38, .inr (.inl (80, 8, 2))), (41, .inr (.inr 1)), (42, .inl (jn_aload_n 0)), (43, .inl (jn_aload_n 3))]
noncomputable def jn_c66_1 : List (Nat × jn_E) := [(44, .inl (jn_aload 4)), (46, .inr (.inl (87, 8, 3))), (49, .inl (jn_ifeq 56)), (52, .inl (jn_iconst 1)), (53, .inl (jn_goto 57)), (56, .inl (jn_iconst 0)), (57, .inr (.inr 1))]
noncomputable def jn_c66 : List (Nat × jn_E) := jn_c66_0 ++ (jn_c66_1)
def jn_mi66 : jn_MI := (RX6, cX6_like, 6, "like")
/-- DebtNet.like(II)I -/
noncomputable def jn_me66 : jn_Me := (jn_mi66, yX6_like, (some .int), jn_c66)
noncomputable def jn_c67_0 : List (Nat × jn_E) := [(0, .inl (jn_aload_n 0)), (1, .inl (jn_iload_n 1)), (2, .inr (.inl (83, 8, 2))), (5, .inl (jn_astore_n 3)), (6, .inl (jn_aload_n 0)), (7, .inl (jn_iload_n 2)), (8, .inr (.inl (83, 8, 2))), (11, .inl (jn_astore 4)), (13, .inl (jn_aload_n 3)), (14, .inl (jn_aload 4)), (16, .inr (.inl (86, 0, 2))), (19, .inl (jn_istore 5)), (21, .inl (jn_aload_n 3)), (22, .inl (jn_ifnull 35)), (25, .inl (jn_aload 4)), (27, .inl (jn_ifnull 35)), (30, .inl (jn_iload 5)), (32, .inl (jn_ifeq 42)), (35, .inl (jn_aload_n 0)), (36, .inl (jn_iload 5)), (38, .inr (.inl (80, 8, 2))), (41, .inr (.inr 1)), (42, .inl (jn_aload_n 0)), (43, .inl (jn_aload_n 3))]
noncomputable def jn_c67_1 : List (Nat × jn_E) := [(44, .inl (jn_aload 4)), (46, .inr (.inl (87, 8, 3))), (49, .inl (jn_ifne 54)), (52, .inl (jn_iconst (-1))), (53, .inr (.inr 1)), (54, .inl (jn_aload_n 3)), (55, .inl (jn_getf 0 0)), (58, .inl (jn_getf 2 1)), (61, .inl (jn_istore 6)), (63, .inl (jn_iconst 0)), (64, .inl (jn_istore 7)), (66, .inl (jn_iconst 0)), (67, .inl (jn_istore 8)), (69, .inl (jn_iload 8)), (71, .inl (jn_iload 6)), (73, .inl (jn_icge 99)), (76, .inl (jn_iload 7)), (78, .inl (jn_aload_n 0)), (79, .inl (jn_getf 6 9)), (82, .inl (jn_getf 3 5)), (85, .inl (jn_iload 8)), (87, .inl jn_iaload), (88, .inr (.inl (170, 0, 2))), (91, .inl (jn_istore 7))]
noncomputable def jn_c67_2 : List (Nat × jn_E) := [(93, .inl (jn_iinc 8 1)), (96, .inl (jn_goto 69)), (99, .inl (jn_iconst 0)), (100, .inl (jn_istore 8)), (102, .inl (jn_iload 8)), (104, .inl (jn_iload 6)), (106, .inl (jn_icge 135)), (109, .inl (jn_aload_n 0)), (110, .inl (jn_getf 6 4)), (113, .inl (jn_iload 8)), (115, .inl (jn_aload_n 0)), (116, .inl (jn_getf 6 9)), (119, .inl (jn_getf 3 5)), (122, .inl (jn_iload 8)), (124, .inl jn_iaload), (125, .inl (jn_iload 7)), (127, .inl jn_isub), (128, .inl jn_iastore), (129, .inl (jn_iinc 8 1)), (132, .inl (jn_goto 102)), (135, .inl (jn_aload_n 0)), (136, .inl (jn_iload 6)), (138, .inl (jn_putf 6 5 0)), (141, .inl (jn_iload 6))]
noncomputable def jn_c67_3 : List (Nat × jn_E) := [(143, .inr (.inr 1))]
noncomputable def jn_c67 : List (Nat × jn_E) := jn_c67_0 ++ (jn_c67_1 ++ (jn_c67_2 ++ (jn_c67_3)))
def jn_mi67 : jn_MI := (RX6, cX6_how, 9, "how")
/-- DebtNet.how(II)I -/
noncomputable def jn_me67 : jn_Me := (jn_mi67, yX6_how, (some .int), jn_c67)
noncomputable def jn_c68_0 : List (Nat × jn_E) := [(0, .inl (jn_aload_n 0)), (1, .inl (jn_iload_n 1)), (2, .inr (.inl (83, 8, 2))), (5, .inl (jn_astore_n 2)), (6, .inl (jn_aload_n 2)), (7, .inl (jn_ifnonnull 17)), (10, .inl (jn_aload_n 0)), (11, .inl (jn_bipush (-3))), (13, .inr (.inl (80, 8, 2))), (16, .inr (.inr 1)), (17, .inl (jn_aload_n 2)), (18, .inl (jn_getf 0 0)), (21, .inr (.inl (20, 4, 1))), (24, .inl (jn_ifne 34)), (27, .inl (jn_aload_n 0)), (28, .inl (jn_bipush (-5))), (30, .inr (.inl (80, 8, 2))), (33, .inr (.inr 1)), (34, .inl (jn_aload_n 2)), (35, .inl (jn_aload_n 0)), (36, .inl (jn_getf 6 7)), (39, .inr (.inl (4, 2, 2))), (42, .inl (jn_aload_n 0)), (43, .inl (jn_getf 6 9))]
noncomputable def jn_c68_1 : List (Nat × jn_E) := [(46, .inl (jn_aload_n 2)), (47, .inl (jn_getf 0 0)), (50, .inl (jn_iconst 0)), (51, .inr (.inl (25, 5, 3))), (54, .inl (jn_aload_n 0)), (55, .inl (jn_getf 6 9)), (58, .inl (jn_aload_n 0)), (59, .inl (jn_getf 6 7)), (62, .inr (.inl (29, 5, 2))), (65, .inl (jn_aload_n 0)), (66, .inl (jn_getf 6 7)), (69, .inl (jn_iconst 0)), (70, .inl jn_iaload), (71, .inl (jn_iflt 78)), (74, .inl (jn_iconst 1)), (75, .inl (jn_goto 79)), (78, .inl (jn_iconst 0)), (79, .inr (.inr 1))]
noncomputable def jn_c68 : List (Nat × jn_E) := jn_c68_0 ++ (jn_c68_1)
def jn_mi68 : jn_MI := (RX6, cX6_won, 3, "won")
/-- DebtNet.won(I)I -/
noncomputable def jn_me68 : jn_Me := (jn_mi68, yX6_won, (some .int), jn_c68)
noncomputable def jn_c69_0 : List (Nat × jn_E) := [(0, .inl (jn_aload_n 0)), (1, .inl (jn_iload_n 1)), (2, .inr (.inl (83, 8, 2))), (5, .inl (jn_astore_n 2)), (6, .inl (jn_aload_n 2)), (7, .inl (jn_ifnonnull 14)), (10, .inl jn_null), (11, .inl (jn_goto 18)), (14, .inl (jn_aload_n 2)), (15, .inl (jn_getf 0 0)), (18, .inr (.inl (85, 0, 1))), (21, .inl (jn_istore_n 3)), (22, .inl (jn_aload_n 2)), (23, .inl (jn_ifnull 30)), (26, .inl (jn_iload_n 3)), (27, .inl (jn_ifeq 36)), (30, .inl (jn_aload_n 0)), (31, .inl (jn_iload_n 3)), (32, .inr (.inl (80, 8, 2))), (35, .inr (.inr 1)), (36, .inl (jn_aload_n 0)), (37, .inl (jn_getf 6 9)), (40, .inl (jn_aload_n 2)), (41, .inl (jn_getf 0 0))]
noncomputable def jn_c69_1 : List (Nat × jn_E) := [(44, .inl (jn_iconst 0)), (45, .inr (.inl (25, 5, 3))), (48, .inl (jn_aload_n 0)), (49, .inl (jn_getf 6 10)), (52, .inl (jn_aload_n 2)), (53, .inr (.inl (8, 3, 2))), (56, .inr (.inr 1))]
noncomputable def jn_c69 : List (Nat × jn_E) := jn_c69_0 ++ (jn_c69_1)
def jn_mi69 : jn_MI := (RX6, cX6_rank, 4, "rank")
/-- DebtNet.rank(I)I -/
noncomputable def jn_me69 : jn_Me := (jn_mi69, yX6_rank, (some .int), jn_c69)
noncomputable def jn_c70_0 : List (Nat × jn_E) := [(0, .inl (jn_aload_n 0)), (1, .inl (jn_iload_n 1)), (2, .inr (.inl (83, 8, 2))), (5, .inl (jn_astore_n 2)), (6, .inl (jn_aload_n 2)), (7, .inl (jn_ifnonnull 14)), (10, .inl jn_null), (11, .inl (jn_goto 18)), (14, .inl (jn_aload_n 2)), (15, .inl (jn_getf 0 0)), (18, .inr (.inl (85, 0, 1))), (21, .inl (jn_istore_n 3)), (22, .inl (jn_aload_n 2)), (23, .inl (jn_ifnull 30)), (26, .inl (jn_iload_n 3)), (27, .inl (jn_ifeq 36)), (30, .inl (jn_aload_n 0)), (31, .inl (jn_iload_n 3)), (32, .inr (.inl (80, 8, 2))), (35, .inr (.inr 1)), (36, .inl (jn_aload_n 0)), (37, .inl (jn_getf 6 9)), (40, .inl (jn_aload_n 2)), (41, .inl (jn_getf 0 0))]
noncomputable def jn_c70_1 : List (Nat × jn_E) := [(44, .inl (jn_iconst 0)), (45, .inr (.inl (25, 5, 3))), (48, .inl (jn_aload_n 0)), (49, .inl (jn_getf 6 10)), (52, .inl (jn_aload_n 2)), (53, .inr (.inl (8, 3, 2))), (56, .inl (jn_iconst 1)), (57, .inl jn_iadd), (58, .inl (jn_istore 4)), (60, .inl (jn_iload 4)), (62, .inl (jn_bipush 21)), (64, .inl (jn_icle 74)), (67, .inl (jn_aload_n 0)), (68, .inl (jn_bipush (-8))), (70, .inr (.inl (80, 8, 2))), (73, .inr (.inr 1)), (74, .inl (jn_aload_n 0)), (75, .inl (jn_getf 6 10)), (78, .inl (jn_aload_n 2)), (79, .inl (jn_getf 0 0)), (82, .inl (jn_aload_n 2)), (83, .inl (jn_getf 0 1)), (86, .inl (jn_iload 4)), (88, .inr (.inl (9, 3, 4)))]
noncomputable def jn_c70_2 : List (Nat × jn_E) := [(91, .inl jn_pop), (92, .inl (jn_aload_n 0)), (93, .inl (jn_getf 6 10)), (96, .inl (jn_getf 1 1)), (99, .inl (jn_getf 5 0)), (102, .inl (jn_iconst 0)), (103, .inl (jn_aload_n 0)), (104, .inl (jn_getf 6 4)), (107, .inl (jn_iconst 0)), (108, .inl (jn_bipush 6)), (110, .inl jn_acopy), (113, .inl (jn_aload_n 0)), (114, .inl (jn_aload_n 2)), (115, .inl (jn_getf 0 0)), (118, .inl (jn_getf 2 1)), (121, .inl (jn_putf 6 5 0)), (124, .inl (jn_iload 4)), (126, .inr (.inr 1))]
noncomputable def jn_c70 : List (Nat × jn_E) := jn_c70_0 ++ (jn_c70_1 ++ (jn_c70_2))
def jn_mi70 : jn_MI := (RX6, cX6_why, 5, "why")
/-- DebtNet.why(I)I -/
noncomputable def jn_me70 : jn_Me := (jn_mi70, yX6_why, (some .int), jn_c70)
noncomputable def jn_c71_0 : List (Nat × jn_E) := [(0, .inl (jn_aload_n 0)), (1, .inl (jn_iload_n 1)), (2, .inr (.inl (83, 8, 2))), (5, .inl (jn_astore_n 2)), (6, .inl (jn_aload_n 2)), (7, .inl (jn_ifnonnull 18)), (10, .inl (jn_aload_n 0)), (11, .inl (jn_bipush (-3))), (13, .inr (.inl (81, 8, 2))), (16, .inl jn_i2l), (17, .inr (.inr 3)), (18, .inl (jn_aload_n 2)), (19, .inl (jn_getf 0 0)), (22, .inr (.inl (20, 4, 1))), (25, .inl (jn_ifne 36)), (28, .inl (jn_aload_n 0)), (29, .inl (jn_bipush (-5))), (31, .inr (.inl (81, 8, 2))), (34, .inl jn_i2l), (35, .inr (.inr 3)), (36, .inl (jn_aload_n 2)), (37, .inr (.inl (1, 2, 1))), (40, .inl (jn_ifeq 51)), (43, .inl (jn_aload_n 0))]
noncomputable def jn_c71_1 : List (Nat × jn_E) := [(44, .inl (jn_bipush (-7))), (46, .inr (.inl (81, 8, 2))), (49, .inl jn_i2l), (50, .inr (.inr 3)), (51, .inl (jn_aload_n 0)), (52, .inl (jn_getf 6 9)), (55, .inl (jn_aload_n 2)), (56, .inl (jn_getf 0 0)), (59, .inl (jn_iconst 0)), (60, .inr (.inl (25, 5, 3))), (63, .inl (jn_aload_n 0)), (64, .inl (jn_getf 6 9)), (67, .inl (jn_aload_n 2)), (68, .inl (jn_getf 0 1)), (71, .inr (.inl (28, 5, 2))), (74, .inr (.inr 3))]
noncomputable def jn_c71 : List (Nat × jn_E) := jn_c71_0 ++ (jn_c71_1)
def jn_mi71 : jn_MI := (RX6, cX6_order, 3, "order")
/-- DebtNet.order(I)J -/
noncomputable def jn_me71 : jn_Me := (jn_mi71, yX6_order, (some .long), jn_c71)
noncomputable def jn_c72_0 : List (Nat × jn_E) := [(0, .inl (jn_aload_n 0)), (1, .inl (jn_iload_n 1)), (2, .inr (.inl (83, 8, 2))), (5, .inl (jn_astore_n 3)), (6, .inl (jn_aload_n 3)), (7, .inl (jn_ifnull 21)), (10, .inl (jn_aload_n 3)), (11, .inl (jn_getf 0 0)), (14, .inl (jn_iload_n 2)), (15, .inr (.inl (12, 4, 2))), (18, .inl (jn_ifne 28)), (21, .inl (jn_aload_n 0)), (22, .inl (jn_bipush (-3))), (24, .inr (.inl (80, 8, 2))), (27, .inr (.inr 1)), (28, .inl (jn_aload_n 3)), (29, .inl (jn_getf 0 0)), (32, .inr (.inl (20, 4, 1))), (35, .inl (jn_ifne 45)), (38, .inl (jn_aload_n 0)), (39, .inl (jn_bipush (-5))), (41, .inr (.inl (80, 8, 2))), (44, .inr (.inr 1)), (45, .inl (jn_aload_n 3))]
noncomputable def jn_c72_1 : List (Nat × jn_E) := [(46, .inl (jn_iload_n 2)), (47, .inr (.inl (2, 2, 2))), (50, .inl (jn_ifeq 60)), (53, .inl (jn_aload_n 0)), (54, .inl (jn_bipush (-7))), (56, .inr (.inl (80, 8, 2))), (59, .inr (.inr 1)), (60, .inl (jn_aload_n 3)), (61, .inl (jn_aload_n 0)), (62, .inl (jn_getf 6 7)), (65, .inr (.inl (4, 2, 2))), (68, .inl (jn_aload_n 3)), (69, .inl (jn_getf 0 0)), (72, .inl (jn_aload_n 0)), (73, .inl (jn_getf 6 7)), (76, .inl (jn_iload_n 2)), (77, .inr (.inl (92, 0, 3))), (80, .inl (jn_istore 4)), (82, .inl (jn_iload 4)), (84, .inl (jn_ldc 100000)), (86, .inl (jn_icle 96)), (89, .inl (jn_aload_n 0)), (90, .inl (jn_bipush (-9))), (92, .inr (.inl (80, 8, 2)))]
noncomputable def jn_c72_2 : List (Nat × jn_E) := [(95, .inr (.inr 1)), (96, .inl (jn_aload_n 0)), (97, .inr (.inl (91, 8, 1))), (100, .inl (jn_ifne 110)), (103, .inl (jn_aload_n 0)), (104, .inl (jn_bipush (-8))), (106, .inr (.inl (80, 8, 2))), (109, .inr (.inr 1)), (110, .inl (jn_aload_n 3)), (111, .inl (jn_aload_n 0)), (112, .inl (jn_getf 6 7)), (115, .inr (.inl (5, 2, 2))), (118, .inl jn_pop), (119, .inl (jn_iload 4)), (121, .inr (.inr 1))]
noncomputable def jn_c72 : List (Nat × jn_E) := jn_c72_0 ++ (jn_c72_1 ++ (jn_c72_2))
def jn_mi72 : jn_MI := (RX6, cX6_fall, 5, "fall")
/-- DebtNet.fall(II)I -/
noncomputable def jn_me72 : jn_Me := (jn_mi72, yX6_fall, (some .int), jn_c72)
noncomputable def jn_c73_0 : List (Nat × jn_E) := [(0, .inl (jn_aload_n 0)), (1, .inl (jn_iload_n 1)), (2, .inr (.inl (83, 8, 2))), (5, .inl (jn_astore_n 3)), (6, .inl (jn_aload_n 0)), (7, .inl (jn_iload_n 2)), (8, .inr (.inl (83, 8, 2))), (11, .inl (jn_astore 4)), (13, .inl (jn_aload_n 3)), (14, .inl (jn_ifnull 22)), (17, .inl (jn_aload 4)), (19, .inl (jn_ifnonnull 29)), (22, .inl (jn_aload_n 0)), (23, .inl (jn_bipush (-3))), (25, .inr (.inl (80, 8, 2))), (28, .inr (.inr 1)), (29, .inl (jn_aload_n 3)), (30, .inl (jn_getf 0 0)), (33, .inl (jn_getf 2 0)), (36, .inl (jn_aload 4)), (38, .inl (jn_getf 0 0)), (41, .inl (jn_getf 2 0)), (44, .inl (jn_iceq 54)), (47, .inl (jn_aload_n 0))]
noncomputable def jn_c73_1 : List (Nat × jn_E) := [(48, .inl (jn_bipush (-7))), (50, .inr (.inl (80, 8, 2))), (53, .inr (.inr 1)), (54, .inl (jn_aload_n 3)), (55, .inl (jn_aload 4)), (57, .inl (jn_getf 0 1)), (60, .inr (.inl (3, 2, 2))), (63, .inl (jn_ifne 70)), (66, .inl (jn_iconst 1)), (67, .inl (jn_goto 71)), (70, .inl (jn_iconst 0)), (71, .inr (.inr 1))]
noncomputable def jn_c73 : List (Nat × jn_E) := jn_c73_0 ++ (jn_c73_1)
def jn_mi73 : jn_MI := (RX6, cX6_same, 5, "same")
/-- DebtNet.same(II)I -/
noncomputable def jn_me73 : jn_Me := (jn_mi73, yX6_same, (some .int), jn_c73)
noncomputable def jn_c74_0 : List (Nat × jn_E) := [(0, .inl (jn_iload_n 1)), (1, .inl (jn_ifeq 16)), (4, .inl (jn_iload_n 1)), (5, .inl (jn_iconst 1)), (6, .inl (jn_iceq 16)), (9, .inl (jn_aload_n 0)), (10, .inl (jn_bipush (-7))), (12, .inr (.inl (80, 8, 2))), (15, .inr (.inr 1)), (16, .inl (jn_iload_n 1)), (17, .inl (jn_ifne 27)), (20, .inl (jn_aload_n 0)), (21, .inl (jn_getf 6 1)), (24, .inl (jn_goto 31)), (27, .inl (jn_aload_n 0)), (28, .inl (jn_getf 6 3)), (31, .inr (.inr 1))]
noncomputable def jn_c74 : List (Nat × jn_E) := jn_c74_0
def jn_mi74 : jn_MI := (RX6, cX6_count, 2, "count")
/-- DebtNet.count(I)I -/
noncomputable def jn_me74 : jn_Me := (jn_mi74, yX6_count, (some .int), jn_c74)
noncomputable def jn_c75_0 : List (Nat × jn_E) := [(0, .inl (jn_aload_n 0)), (1, .inl (jn_iload_n 1)), (2, .inr (.inl (82, 8, 2))), (5, .inl (jn_astore_n 3)), (6, .inl (jn_aload_n 3)), (7, .inl (jn_ifnull 18)), (10, .inl (jn_aload_n 3)), (11, .inl (jn_iload_n 2)), (12, .inr (.inl (12, 4, 2))), (15, .inl (jn_ifne 25)), (18, .inl (jn_aload_n 0)), (19, .inl (jn_bipush (-3))), (21, .inr (.inl (80, 8, 2))), (24, .inr (.inr 1)), (25, .inl (jn_iconst 0)), (26, .inl (jn_istore 4)), (28, .inl (jn_iload 4)), (30, .inl (jn_aload_n 3)), (31, .inl (jn_getf 2 1)), (34, .inl (jn_icge 57)), (37, .inl (jn_aload_n 0)), (38, .inl (jn_getf 6 4)), (41, .inl (jn_iload 4)), (43, .inl (jn_aload_n 3))]
noncomputable def jn_c75_1 : List (Nat × jn_E) := [(44, .inl (jn_iload_n 2)), (45, .inl (jn_iload 4)), (47, .inr (.inl (14, 4, 3))), (50, .inl jn_iastore), (51, .inl (jn_iinc 4 1)), (54, .inl (jn_goto 28)), (57, .inl (jn_aload_n 0)), (58, .inl (jn_aload_n 3)), (59, .inl (jn_getf 2 1)), (62, .inl (jn_putf 6 5 0)), (65, .inl (jn_aload_n 3)), (66, .inl (jn_getf 2 1)), (69, .inr (.inr 1))]
noncomputable def jn_c75 : List (Nat × jn_E) := jn_c75_0 ++ (jn_c75_1)
def jn_mi75 : jn_MI := (RX6, cX6_lay, 5, "lay")
/-- DebtNet.lay(II)I -/
noncomputable def jn_me75 : jn_Me := (jn_mi75, yX6_lay, (some .int), jn_c75)
noncomputable def jn_c76_0 : List (Nat × jn_E) := [(0, .inl (jn_aload_n 0)), (1, .inl (jn_getf 6 5)), (4, .inl (jn_iconst (-1))), (5, .inl (jn_icne 12)), (8, .inl (jn_iconst 0)), (9, .inl (jn_goto 13)), (12, .inl (jn_iconst 1)), (13, .inl (jn_istore_n 1)), (14, .inl (jn_aload_n 0)), (15, .inl (jn_iconst (-1))), (16, .inl (jn_putf 6 5 0)), (19, .inl (jn_iload_n 1)), (20, .inr (.inr 1))]
noncomputable def jn_c76 : List (Nat × jn_E) := jn_c76_0
def jn_mi76 : jn_MI := (RX6, cX6_tear, 2, "tear")
/-- DebtNet.tear()I -/
noncomputable def jn_me76 : jn_Me := (jn_mi76, yX6_tear, (some .int), jn_c76)
noncomputable def jn_c77_0 : List (Nat × jn_E) := [(0, .inl (jn_aload_n 0)), (1, .inl (jn_getf 6 5)), (4, .inl (jn_iconst (-1))), (5, .inl (jn_icne 15)), (8, .inl (jn_aload_n 0)), (9, .inl (jn_bipush (-2))), (11, .inr (.inl (81, 8, 2))), (14, .inr (.inr 1)), (15, .inl (jn_iload_n 1)), (16, .inl (jn_iflt 27)), (19, .inl (jn_iload_n 1)), (20, .inl (jn_aload_n 0)), (21, .inl (jn_getf 6 5)), (24, .inl (jn_iclt 34)), (27, .inl (jn_aload_n 0)), (28, .inl (jn_bipush (-3))), (30, .inr (.inl (81, 8, 2))), (33, .inr (.inr 1)), (34, .inl (jn_aload_n 0)), (35, .inl (jn_getf 6 4)), (38, .inl (jn_iload_n 1)), (39, .inl jn_iaload), (40, .inr (.inr 1))]
noncomputable def jn_c77 : List (Nat × jn_E) := jn_c77_0
def jn_mi77 : jn_MI := (RX6, cX6_row, 2, "row")
/-- DebtNet.row(I)I -/
noncomputable def jn_me77 : jn_Me := (jn_mi77, yX6_row, (some .int), jn_c77)
noncomputable def jn_c78_0 : List (Nat × jn_E) := [(0, .inl (jn_aload_n 0)), (1, .inl (jn_getf 6 5)), (4, .inl (jn_iconst (-1))), (5, .inl (jn_icne 15)), (8, .inl (jn_aload_n 0)), (9, .inl (jn_bipush (-2))), (11, .inr (.inl (80, 8, 2))), (14, .inr (.inr 1)), (15, .inl (jn_iload_n 3)), (16, .inl (jn_ifge 26)), (19, .inl (jn_aload_n 0)), (20, .inl (jn_bipush (-4))), (22, .inr (.inl (80, 8, 2))), (25, .inr (.inr 1)), (26, .inl (jn_iload_n 1)), (27, .inl (jn_iflt 62)), (30, .inl (jn_iload_n 2)), (31, .inl (jn_iflt 62)), (34, .inl (jn_iload_n 3)), (35, .inl (jn_aload_n 0)), (36, .inl (jn_getf 6 5)), (39, .inl (jn_icgt 62)), (42, .inl (jn_iload_n 1)), (43, .inl (jn_aload_n 0))]
noncomputable def jn_c78_1 : List (Nat × jn_E) := [(44, .inl (jn_getf 6 5)), (47, .inl (jn_iload_n 3)), (48, .inl jn_isub), (49, .inl (jn_icgt 62)), (52, .inl (jn_iload_n 2)), (53, .inl (jn_aload_n 0)), (54, .inl (jn_getf 6 5)), (57, .inl (jn_iload_n 3)), (58, .inl jn_isub), (59, .inl (jn_icle 69)), (62, .inl (jn_aload_n 0)), (63, .inl (jn_bipush (-6))), (65, .inr (.inl (80, 8, 2))), (68, .inr (.inr 1)), (69, .inl (jn_aload_n 0)), (70, .inl (jn_getf 6 4)), (73, .inl (jn_iload_n 1)), (74, .inl (jn_aload_n 0)), (75, .inl (jn_getf 6 4)), (78, .inl (jn_iload_n 2)), (79, .inl (jn_iload_n 3)), (80, .inl jn_acopy), (83, .inl (jn_iload_n 3)), (84, .inr (.inr 1))]
noncomputable def jn_c78 : List (Nat × jn_E) := jn_c78_0 ++ (jn_c78_1)
def jn_mi78 : jn_MI := (RX6, cX6_copy, 4, "copy")
/-- DebtNet.copy(III)I -/
noncomputable def jn_me78 : jn_Me := (jn_mi78, yX6_copy, (some .int), jn_c78)
noncomputable def jn_c79_0 : List (Nat × jn_E) := [(0, .inl (jn_iload_n 1)), (1, .inl (jn_bipush (-2))), (3, .inl (jn_icgt 12)), (6, .inl (jn_iload_n 1)), (7, .inl (jn_bipush (-9))), (9, .inl (jn_icge 19)), (12, .inl (jn_aload_n 0)), (13, .inl (jn_bipush (-7))), (15, .inr (.inl (80, 8, 2))), (18, .inr (.inr 1)), (19, .inl (jn_aload_n 0)), (20, .inl (jn_getf 6 6)), (23, .inl (jn_bipush (-2))), (25, .inl (jn_iload_n 1)), (26, .inl jn_isub), (27, .inl jn_iaload), (28, .inr (.inr 1))]
noncomputable def jn_c79 : List (Nat × jn_E) := jn_c79_0
def jn_mi79 : jn_MI := (RX6, cX6_status, 2, "status")
/-- DebtNet.status(I)I -/
noncomputable def jn_me79 : jn_Me := (jn_mi79, yX6_status, (some .int), jn_c79)
noncomputable def jn_c80_0 : List (Nat × jn_E) := [(0, .inl (jn_iload_n 1)), (1, .inl (jn_bipush (-2))), (3, .inl (jn_icgt 25)), (6, .inl (jn_iload_n 1)), (7, .inl (jn_bipush (-9))), (9, .inl (jn_iclt 25)), (12, .inl (jn_aload_n 0)), (13, .inl (jn_getf 6 6)), (16, .inl (jn_bipush (-2))), (18, .inl (jn_iload_n 1)), (19, .inl jn_isub), (20, .inl jn_dup2), (21, .inl jn_iaload), (22, .inl (jn_iconst 1)), (23, .inl jn_iadd), (24, .inl jn_iastore), (25, .inl (jn_iload_n 1)), (26, .inr (.inr 1))]
noncomputable def jn_c80 : List (Nat × jn_E) := jn_c80_0
def jn_mi80 : jn_MI := (RX6, cX6_refuse, 2, "refuse")
/-- DebtNet.refuse(I)I -/
noncomputable def jn_me80 : jn_Me := (jn_mi80, yX6_refuse, (some .int), jn_c80)
noncomputable def jn_c81_0 : List (Nat × jn_E) := [(0, .inl (jn_aload_n 0)), (1, .inl (jn_iload_n 1)), (2, .inr (.inl (80, 8, 2))), (5, .inl jn_pop), (6, .inl (jn_iconst 0)), (7, .inr (.inr 1))]
noncomputable def jn_c81 : List (Nat × jn_E) := jn_c81_0
def jn_mi81 : jn_MI := (RX6, cX6_refuseTellingNought, 2, "refuseTellingNought")
/-- DebtNet.refuseTellingNought(I)I -/
noncomputable def jn_me81 : jn_Me := (jn_mi81, yX6_refuseTellingNought, (some .int), jn_c81)
noncomputable def jn_c82_0 : List (Nat × jn_E) := [(0, .inl (jn_iload_n 1)), (1, .inl (jn_iflt 21)), (4, .inl (jn_iload_n 1)), (5, .inl (jn_aload_n 0)), (6, .inl (jn_getf 6 1)), (9, .inl (jn_icge 21)), (12, .inl (jn_aload_n 0)), (13, .inl (jn_getf 6 0)), (16, .inl (jn_iload_n 1)), (17, .inl jn_aaload), (18, .inl (jn_goto 22)), (21, .inl jn_null), (22, .inr (.inr 4))]
noncomputable def jn_c82 : List (Nat × jn_E) := jn_c82_0
def jn_mi82 : jn_MI := (RX6, cX6_findNet, 2, "findNet")
/-- DebtNet.findNet(I)LDebtNet$Net; -/
noncomputable def jn_me82 : jn_Me := (jn_mi82, yX6_findNet, (some (.object "DebtNet$Net")), jn_c82)
noncomputable def jn_c83_0 : List (Nat × jn_E) := [(0, .inl (jn_iload_n 1)), (1, .inl (jn_iflt 21)), (4, .inl (jn_iload_n 1)), (5, .inl (jn_aload_n 0)), (6, .inl (jn_getf 6 3)), (9, .inl (jn_icge 21)), (12, .inl (jn_aload_n 0)), (13, .inl (jn_getf 6 2)), (16, .inl (jn_iload_n 1)), (17, .inl jn_aaload), (18, .inl (jn_goto 22)), (21, .inl jn_null), (22, .inr (.inr 4))]
noncomputable def jn_c83 : List (Nat × jn_E) := jn_c83_0
def jn_mi83 : jn_MI := (RX6, cX6_findBook, 2, "findBook")
/-- DebtNet.findBook(I)LDebtNet$Book; -/
noncomputable def jn_me83 : jn_Me := (jn_mi83, yX6_findBook, (some (.object "DebtNet$Book")), jn_c83)
noncomputable def jn_c84_0 : List (Nat × jn_E) := [(0, .inl (jn_iconst 0)), (1, .inl (jn_istore_n 2)), (2, .inl (jn_iload_n 2)), (3, .inl (jn_aload_n 0)), (4, .inl (jn_getf 6 3)), (7, .inl (jn_icge 42)), (10, .inl (jn_aload_n 0)), (11, .inl (jn_iload_n 2)), (12, .inr (.inl (83, 8, 2))), (15, .inl (jn_astore_n 3)), (16, .inl (jn_aload_n 3)), (17, .inl (jn_ifnull 36)), (20, .inl (jn_aload_n 3)), (21, .inl (jn_getf 0 0)), (24, .inl (jn_getf 2 0)), (27, .inl (jn_aload_n 1)), (28, .inl (jn_getf 2 0)), (31, .inl (jn_icne 36)), (34, .inl (jn_iconst 1)), (35, .inr (.inr 2)), (36, .inl (jn_iinc 2 1)), (39, .inl (jn_goto 2)), (42, .inl (jn_iconst 0)), (43, .inr (.inr 2))]
noncomputable def jn_c84 : List (Nat × jn_E) := jn_c84_0
def jn_mi84 : jn_MI := (RX6, cX6_hasBooks, 4, "hasBooks")
/-- DebtNet.hasBooks(LDebtNet$Net;)Z -/
noncomputable def jn_me84 : jn_Me := (jn_mi84, yX6_hasBooks, (some .boolean), jn_c84)
noncomputable def jn_c85_0 : List (Nat × jn_E) := [(0, .inl (jn_aload_n 0)), (1, .inl (jn_ifnonnull 7)), (4, .inl (jn_bipush (-3))), (6, .inr (.inr 1)), (7, .inl (jn_aload_n 0)), (8, .inr (.inl (20, 4, 1))), (11, .inl (jn_ifne 17)), (14, .inl (jn_bipush (-5))), (16, .inr (.inr 1)), (17, .inl (jn_aload_n 0)), (18, .inr (.inl (19, 4, 1))), (21, .inl (jn_iconst 4)), (22, .inl (jn_icle 30)), (25, .inl (jn_bipush (-7))), (27, .inl (jn_goto 31)), (30, .inl (jn_iconst 0)), (31, .inr (.inr 1))]
noncomputable def jn_c85 : List (Nat × jn_E) := jn_c85_0
def jn_mi85 : jn_MI := (RX6, cX6_whyNoRank, 1, "whyNoRank")
/-- DebtNet.whyNoRank(LDebtNet$Net;)I -/
noncomputable def jn_me85 : jn_Me := (jn_mi85, yX6_whyNoRank, (some .int), jn_c85)
noncomputable def jn_c86_0 : List (Nat × jn_E) := [(0, .inl (jn_aload_n 0)), (1, .inl (jn_ifnull 8)), (4, .inl (jn_aload_n 1)), (5, .inl (jn_ifnonnull 11)), (8, .inl (jn_bipush (-3))), (10, .inr (.inr 1)), (11, .inl (jn_aload_n 0)), (12, .inl (jn_getf 0 0)), (15, .inl (jn_getf 2 0)), (18, .inl (jn_aload_n 1)), (19, .inl (jn_getf 0 0)), (22, .inl (jn_getf 2 0)), (25, .inl (jn_iceq 31)), (28, .inl (jn_bipush (-7))), (30, .inr (.inr 1)), (31, .inl (jn_aload_n 0)), (32, .inl (jn_getf 0 0)), (35, .inr (.inl (20, 4, 1))), (38, .inl (jn_ifeq 45)), (41, .inl (jn_iconst 0)), (42, .inl (jn_goto 47)), (45, .inl (jn_bipush (-5))), (47, .inr (.inr 1))]
noncomputable def jn_c86 : List (Nat × jn_E) := jn_c86_0
def jn_mi86 : jn_MI := (RX6, cX6_whyNotLed, 2, "whyNotLed")
/-- DebtNet.whyNotLed(LDebtNet$Book;LDebtNet$Book;)I -/
noncomputable def jn_me86 : jn_Me := (jn_mi86, yX6_whyNotLed, (some .int), jn_c86)
noncomputable def jn_c87_0 : List (Nat × jn_E) := [(0, .inl (jn_aload_n 0)), (1, .inl (jn_aload_n 1)), (2, .inl (jn_aload_n 2)), (3, .inl (jn_iconst (-1))), (4, .inr (.inl (90, 8, 4))), (7, .inl (jn_aload_n 0)), (8, .inl (jn_getf 6 9)), (11, .inl (jn_aload_n 1)), (12, .inl (jn_getf 0 0)), (15, .inl (jn_iconst 0)), (16, .inr (.inl (25, 5, 3))), (19, .inl (jn_aload_n 0)), (20, .inl (jn_getf 6 9)), (23, .inl (jn_aload_n 0)), (24, .inl (jn_getf 6 7)), (27, .inr (.inl (27, 5, 2))), (30, .inr (.inr 2))]
noncomputable def jn_c87 : List (Nat × jn_E) := jn_c87_0
def jn_mi87 : jn_MI := (RX6, cX6_findWay, 3, "findWay")
/-- DebtNet.findWay(LDebtNet$Book;LDebtNet$Book;)Z -/
noncomputable def jn_me87 : jn_Me := (jn_mi87, yX6_findWay, (some .boolean), jn_c87)
noncomputable def jn_c88_0 : List (Nat × jn_E) := [(0, .inl (jn_aload_n 0)), (1, .inl (jn_getf 6 3)), (4, .inl (jn_bipush 10)), (6, .inl (jn_iclt 16)), (9, .inl (jn_aload_n 0)), (10, .inl (jn_bipush (-8))), (12, .inr (.inl (80, 8, 2))), (15, .inr (.inr 1)), (16, .inl (jn_new 0 2 [.null, .null])), (19, .inl jn_dup), (20, .inl (jn_aload_n 1)), (21, .inr (.inl (0, 1, 2))), (24, .inl (jn_astore_n 2)), (25, .inl (jn_aload_n 2)), (26, .inl (jn_aload_n 0)), (27, .inl (jn_getf 6 7)), (30, .inr (.inl (5, 2, 2))), (33, .inl jn_pop), (34, .inl (jn_aload_n 0)), (35, .inl (jn_getf 6 2)), (38, .inl (jn_aload_n 0)), (39, .inl (jn_getf 6 3)), (42, .inl (jn_aload_n 2)), (43, .inl jn_aastore)]
noncomputable def jn_c88_1 : List (Nat × jn_E) := [(44, .inl (jn_aload_n 0)), (45, .inl jn_dup), (46, .inl (jn_getf 6 3)), (49, .inl (jn_iconst 1)), (50, .inl jn_iadd), (51, .inl (jn_putf 6 3 0)), (54, .inl (jn_aload_n 0)), (55, .inl (jn_getf 6 3)), (58, .inl (jn_iconst 1)), (59, .inl jn_isub), (60, .inr (.inr 1))]
noncomputable def jn_c88 : List (Nat × jn_E) := jn_c88_0 ++ (jn_c88_1)
def jn_mi88 : jn_MI := (RX6, cX6_addBook, 3, "addBook")
/-- DebtNet.addBook(LDebtNet$Net;)I -/
noncomputable def jn_me88 : jn_Me := (jn_mi88, yX6_addBook, (some .int), jn_c88)
noncomputable def jn_c89_0 : List (Nat × jn_E) := [(0, .inl (jn_iconst 0)), (1, .inl (jn_istore_n 1)), (2, .inl (jn_iload_n 1)), (3, .inl (jn_bipush 6)), (5, .inl (jn_icge 21)), (8, .inl (jn_aload_n 0)), (9, .inl (jn_getf 6 7)), (12, .inl (jn_iload_n 1)), (13, .inl (jn_iconst 0)), (14, .inl jn_iastore), (15, .inl (jn_iinc 1 1)), (18, .inl (jn_goto 2)), (21, .inr (.inr 0))]
noncomputable def jn_c89 : List (Nat × jn_E) := jn_c89_0
def jn_mi89 : jn_MI := (RX6, cX6_clearDraft, 2, "clearDraft")
/-- DebtNet.clearDraft()V -/
noncomputable def jn_me89 : jn_Me := (jn_mi89, yX6_clearDraft, none, jn_c89)
noncomputable def jn_c90_0 : List (Nat × jn_E) := [(0, .inl (jn_iconst 0)), (1, .inl (jn_istore 4)), (3, .inl (jn_iload 4)), (5, .inl (jn_bipush 6)), (7, .inl (jn_icge 40)), (10, .inl (jn_aload_n 0)), (11, .inl (jn_getf 6 7)), (14, .inl (jn_iload 4)), (16, .inl (jn_aload_n 1)), (17, .inl (jn_getf 0 1)), (20, .inl (jn_iload 4)), (22, .inl jn_iaload), (23, .inl (jn_iload_n 3)), (24, .inl (jn_aload_n 2)), (25, .inl (jn_getf 0 1)), (28, .inl (jn_iload 4)), (30, .inl jn_iaload), (31, .inl jn_imul), (32, .inl jn_iadd), (33, .inl jn_iastore), (34, .inl (jn_iinc 4 1)), (37, .inl (jn_goto 3)), (40, .inr (.inr 0))]
noncomputable def jn_c90 : List (Nat × jn_E) := jn_c90_0
def jn_mi90 : jn_MI := (RX6, cX6_draftOfTwo, 5, "draftOfTwo")
/-- DebtNet.draftOfTwo(LDebtNet$Book;LDebtNet$Book;I)V -/
noncomputable def jn_me90 : jn_Me := (jn_mi90, yX6_draftOfTwo, none, jn_c90)
noncomputable def jn_c91_0 : List (Nat × jn_E) := [(0, .inl (jn_iconst 0)), (1, .inl (jn_istore_n 1)), (2, .inl (jn_iload_n 1)), (3, .inl (jn_bipush 6)), (5, .inl (jn_icge 39)), (8, .inl (jn_aload_n 0)), (9, .inl (jn_getf 6 7)), (12, .inl (jn_iload_n 1)), (13, .inl jn_iaload), (14, .inl (jn_ldcw (-100000))), (17, .inl (jn_iclt 31)), (20, .inl (jn_aload_n 0)), (21, .inl (jn_getf 6 7)), (24, .inl (jn_iload_n 1)), (25, .inl jn_iaload), (26, .inl (jn_ldc 100000)), (28, .inl (jn_icle 33)), (31, .inl (jn_iconst 0)), (32, .inr (.inr 2)), (33, .inl (jn_iinc 1 1)), (36, .inl (jn_goto 2)), (39, .inl (jn_iconst 1)), (40, .inr (.inr 2))]
noncomputable def jn_c91 : List (Nat × jn_E) := jn_c91_0
def jn_mi91 : jn_MI := (RX6, cX6_draftFits, 2, "draftFits")
/-- DebtNet.draftFits()Z -/
noncomputable def jn_me91 : jn_Me := (jn_mi91, yX6_draftFits, (some .boolean), jn_c91)
noncomputable def jn_c92_0 : List (Nat × jn_E) := [(0, .inl (jn_iconst 0)), (1, .inl (jn_istore_n 3)), (2, .inl (jn_iconst 1)), (3, .inl (jn_istore 4)), (5, .inl (jn_iconst 0)), (6, .inl (jn_istore 5)), (8, .inl (jn_iload 5)), (10, .inl (jn_ldc 100000)), (12, .inl (jn_icgt 107)), (15, .inl (jn_iload 4)), (17, .inl (jn_ifeq 107)), (20, .inl (jn_iload_n 3)), (21, .inl (jn_ldc 100000)), (23, .inl (jn_icgt 107)), (26, .inl (jn_iconst 0)), (27, .inl (jn_istore 4)), (29, .inl (jn_iconst 0)), (30, .inl (jn_istore 6)), (32, .inl (jn_iload 6)), (34, .inl (jn_aload_n 0)), (35, .inl (jn_getf 2 1)), (38, .inl (jn_icge 101)), (41, .inl (jn_aload_n 0)), (42, .inl (jn_iload 6))]
noncomputable def jn_c92_1 : List (Nat × jn_E) := [(44, .inr (.inl (16, 4, 2))), (47, .inl (jn_istore 7)), (49, .inl (jn_iload 6)), (51, .inl (jn_iload_n 2)), (52, .inl (jn_iceq 95)), (55, .inl (jn_iload 7)), (57, .inl (jn_ifle 95)), (60, .inl (jn_aload_n 1)), (61, .inl (jn_iload 6)), (63, .inl jn_iaload), (64, .inl (jn_iload 7)), (66, .inl (jn_iclt 95)), (69, .inl (jn_aload_n 1)), (70, .inl (jn_iload 6)), (72, .inl jn_iaload), (73, .inl (jn_iload 7)), (75, .inl jn_idiv), (76, .inl (jn_istore 8)), (78, .inl (jn_aload_n 0)), (79, .inl (jn_aload_n 1)), (80, .inl (jn_iload 6)), (82, .inl (jn_iload 8)), (84, .inr (.inl (23, 4, 4))), (87, .inl (jn_iload_n 3))]
noncomputable def jn_c92_2 : List (Nat × jn_E) := [(88, .inl (jn_iload 8)), (90, .inl jn_iadd), (91, .inl (jn_istore_n 3)), (92, .inl (jn_iconst 1)), (93, .inl (jn_istore 4)), (95, .inl (jn_iinc 6 1)), (98, .inl (jn_goto 32)), (101, .inl (jn_iinc 5 1)), (104, .inl (jn_goto 8)), (107, .inl (jn_iload_n 3)), (108, .inr (.inr 1))]
noncomputable def jn_c92 : List (Nat × jn_E) := jn_c92_0 ++ (jn_c92_1 ++ (jn_c92_2))
def jn_mi92 : jn_MI := (RX6, cX6_fallenLends, 9, "fallenLends")
/-- DebtNet.fallenLends(LDebtNet$Net;[II)I -/
noncomputable def jn_me92 : jn_Me := (jn_mi92, yX6_fallenLends, (some .int), jn_c92)
noncomputable def jn_c93_0 : List (Nat × jn_E) := [(0, .inl (jn_aload_n 0)), (1, .inl jn_oinit), (4, .inl (jn_aload_n 0)), (5, .inl (jn_iconst 4)), (6, .inl jn_newI), (8, .inl (jn_putF 7 0 2)), (11, .inl (jn_aload_n 0)), (12, .inl (jn_sipush 144)), (15, .inl jn_newI), (17, .inl (jn_putF 7 1 2)), (20, .inl (jn_aload_n 0)), (21, .inl (jn_bipush 10)), (23, .inl jn_newI), (25, .inl (jn_putF 7 4 2)), (28, .inl (jn_aload_n 0)), (29, .inl (jn_bipush 60)), (31, .inl jn_newI), (33, .inl (jn_putF 7 5 2)), (36, .inl (jn_aload_n 0)), (37, .inl (jn_bipush 10)), (39, .inl jn_newI), (41, .inl (jn_putF 7 6 2)), (44, .inl (jn_aload_n 0)), (45, .inl (jn_bipush 64))]
noncomputable def jn_c93_1 : List (Nat × jn_E) := [(47, .inl jn_newL), (49, .inl (jn_putF 7 7 2)), (52, .inl (jn_aload_n 0)), (53, .inl (jn_bipush 6)), (55, .inl jn_newL), (57, .inl (jn_putF 7 8 2)), (60, .inl (jn_aload_n 0)), (61, .inl (jn_bipush 6)), (63, .inl jn_newL), (65, .inl (jn_putF 7 9 2)), (68, .inl (jn_aload_n 0)), (69, .inl (jn_bipush 6)), (71, .inl jn_newL), (73, .inl (jn_putF 7 10 2)), (76, .inl (jn_aload_n 0)), (77, .inl (jn_sipush 864)), (80, .inl jn_newL), (82, .inl (jn_putF 7 11 2)), (85, .inl (jn_aload_n 0)), (86, .inl (jn_bipush 24)), (88, .inl jn_newL), (90, .inl (jn_putF 7 12 2)), (93, .inl (jn_aload_n 0)), (94, .inl (jn_bipush 24))]
noncomputable def jn_c93_2 : List (Nat × jn_E) := [(96, .inl jn_newZ), (98, .inl (jn_putF 7 13 2)), (101, .inl (jn_aload_n 0)), (102, .inl (jn_bipush 6)), (104, .inl jn_newL), (106, .inl (jn_putF 7 14 2)), (109, .inl (jn_aload_n 0)), (110, .inl (jn_bipush 6)), (112, .inl jn_newL), (114, .inl (jn_putF 7 15 2)), (117, .inl (jn_aload_n 0)), (118, .inl (jn_bipush 6)), (120, .inl jn_newI), (122, .inl (jn_putF 7 16 2)), (125, .inl (jn_aload_n 0)), (126, .inl (jn_bipush 6)), (128, .inl jn_newL), (130, .inl (jn_putF 7 17 2)), (133, .inl (jn_aload_n 0)), (134, .inl (jn_bipush 6)), (136, .inl jn_newI), (138, .inl (jn_putF 7 18 2)), (141, .inl (jn_aload_n 0)), (142, .inl (jn_bipush 6))]
noncomputable def jn_c93_3 : List (Nat × jn_E) := [(144, .inl jn_newI), (146, .inl (jn_putF 7 19 2)), (149, .inl (jn_aload_n 0)), (150, .inl (jn_bipush 6)), (152, .inl jn_newI), (154, .inl (jn_putF 7 20 2)), (157, .inl (jn_aload_n 0)), (158, .inl (jn_iconst (-1))), (159, .inl (jn_putf 7 21 0)), (162, .inr (.inr 0))]
noncomputable def jn_c93 : List (Nat × jn_E) := jn_c93_0 ++ (jn_c93_1 ++ (jn_c93_2 ++ (jn_c93_3)))
def jn_mi93 : jn_MI := (RX7, cX7_init, 1, "<init>")
/-- DebtNetModel.<init>()V -/
noncomputable def jn_me93 : jn_Me := (jn_mi93, yX7_init, none, jn_c93)
noncomputable def jn_c94_0 : List (Nat × jn_E) := [(0, .inl (jn_lload_n 0)), (1, .inl (jn_lload_n 2)), (2, .inl jn_lcmp), (3, .inl (jn_iflt 17)), (6, .inl (jn_lload_n 0)), (7, .inl (jn_lload 4)), (9, .inl jn_lcmp), (10, .inl (jn_ifgt 17)), (13, .inl (jn_iconst 1)), (14, .inl (jn_goto 18)), (17, .inl (jn_iconst 0)), (18, .inr (.inr 2))]
noncomputable def jn_c94 : List (Nat × jn_E) := jn_c94_0
def jn_mi94 : jn_MI := (RX7, cX7_isIn, 6, "isIn")
/-- DebtNetModel.isIn(JJJ)Z -/
noncomputable def jn_me94 : jn_Me := (jn_mi94, yX7_isIn, (some .boolean), jn_c94)
noncomputable def jn_c95_0 : List (Nat × jn_E) := [(0, .inl (jn_aload_n 0)), (1, .inl (jn_getf 7 6)), (4, .inl (jn_iload_n 1)), (5, .inl jn_ineg), (6, .inl jn_dup2), (7, .inl jn_iaload), (8, .inl (jn_iconst 1)), (9, .inl jn_iadd), (10, .inl jn_iastore), (11, .inl (jn_iload_n 1)), (12, .inr (.inr 1))]
noncomputable def jn_c95 : List (Nat × jn_E) := jn_c95_0
def jn_mi95 : jn_MI := (RX7, cX7_no, 2, "no")
/-- DebtNetModel.no(I)I -/
noncomputable def jn_me95 : jn_Me := (jn_mi95, yX7_no, (some .int), jn_c95)
noncomputable def jn_c96_0 : List (Nat × jn_E) := [(0, .inl (jn_aload_n 0)), (1, .inl (jn_iload_n 1)), (2, .inr (.inl (95, 9, 2))), (5, .inl (jn_istore_n 2)), (6, .inl (jn_iconst 0)), (7, .inr (.inr 1))]
noncomputable def jn_c96 : List (Nat × jn_E) := jn_c96_0
def jn_mi96 : jn_MI := (RX7, cX7_none, 3, "none")
/-- DebtNetModel.none(I)I -/
noncomputable def jn_me96 : jn_Me := (jn_mi96, yX7_none, (some .int), jn_c96)
noncomputable def jn_c97_0 : List (Nat × jn_E) := [(0, .inl (jn_iload_n 1)), (1, .inl (jn_iflt 16)), (4, .inl (jn_iload_n 1)), (5, .inl (jn_aload_n 0)), (6, .inl (jn_getf 7 2)), (9, .inl (jn_icge 16)), (12, .inl (jn_iconst 1)), (13, .inl (jn_goto 17)), (16, .inl (jn_iconst 0)), (17, .inr (.inr 2))]
noncomputable def jn_c97 : List (Nat × jn_E) := jn_c97_0
def jn_mi97 : jn_MI := (RX7, cX7_isNet, 2, "isNet")
/-- DebtNetModel.isNet(I)Z -/
noncomputable def jn_me97 : jn_Me := (jn_mi97, yX7_isNet, (some .boolean), jn_c97)
noncomputable def jn_c98_0 : List (Nat × jn_E) := [(0, .inl (jn_aload_n 0)), (1, .inl (jn_iload_n 1)), (2, .inr (.inl (97, 9, 2))), (5, .inl (jn_ifeq 26)), (8, .inl (jn_iload_n 2)), (9, .inl (jn_iflt 26)), (12, .inl (jn_iload_n 2)), (13, .inl (jn_aload_n 0)), (14, .inl (jn_getf 7 0)), (17, .inl (jn_iload_n 1)), (18, .inl jn_iaload), (19, .inl (jn_icge 26)), (22, .inl (jn_iconst 1)), (23, .inl (jn_goto 27)), (26, .inl (jn_iconst 0)), (27, .inr (.inr 2))]
noncomputable def jn_c98 : List (Nat × jn_E) := jn_c98_0
def jn_mi98 : jn_MI := (RX7, cX7_isPost, 3, "isPost")
/-- DebtNetModel.isPost(II)Z -/
noncomputable def jn_me98 : jn_Me := (jn_mi98, yX7_isPost, (some .boolean), jn_c98)
noncomputable def jn_c99_0 : List (Nat × jn_E) := [(0, .inl (jn_iload_n 1)), (1, .inl (jn_iflt 16)), (4, .inl (jn_iload_n 1)), (5, .inl (jn_aload_n 0)), (6, .inl (jn_getf 7 3)), (9, .inl (jn_icge 16)), (12, .inl (jn_iconst 1)), (13, .inl (jn_goto 17)), (16, .inl (jn_iconst 0)), (17, .inr (.inr 2))]
noncomputable def jn_c99 : List (Nat × jn_E) := jn_c99_0
def jn_mi99 : jn_MI := (RX7, cX7_isBook, 2, "isBook")
/-- DebtNetModel.isBook(I)Z -/
noncomputable def jn_me99 : jn_Me := (jn_mi99, yX7_isBook, (some .boolean), jn_c99)
noncomputable def jn_c100_0 : List (Nat × jn_E) := [(0, .inl (jn_bipush 36)), (2, .inl (jn_iload_n 0)), (3, .inl jn_imul), (4, .inl (jn_bipush 6)), (6, .inl (jn_iload_n 1)), (7, .inl jn_imul), (8, .inl jn_iadd), (9, .inl (jn_iload_n 2)), (10, .inl jn_iadd), (11, .inr (.inr 1))]
noncomputable def jn_c100 : List (Nat × jn_E) := jn_c100_0
def jn_mi100 : jn_MI := (RX7, cX7_cellOf, 3, "cellOf")
/-- DebtNetModel.cellOf(III)I -/
noncomputable def jn_me100 : jn_Me := (jn_mi100, yX7_cellOf, (some .int), jn_c100)
noncomputable def jn_c101_0 : List (Nat × jn_E) := [(0, .inl (jn_iload_n 1)), (1, .inl jn_i2l), (2, .inl (jn_lconst 1)), (3, .inl (jn_ldc2 6)), (6, .inr (.inl (94, 0, 3))), (9, .inl (jn_ifne 19)), (12, .inl (jn_aload_n 0)), (13, .inl (jn_bipush (-7))), (15, .inr (.inl (95, 9, 2))), (18, .inr (.inr 1)), (19, .inl (jn_aload_n 0)), (20, .inl (jn_getf 7 2)), (23, .inl (jn_iconst 4)), (24, .inl (jn_icne 34)), (27, .inl (jn_aload_n 0)), (28, .inl (jn_bipush (-8))), (30, .inr (.inl (95, 9, 2))), (33, .inr (.inr 1)), (34, .inl (jn_aload_n 0)), (35, .inl (jn_getf 7 0)), (38, .inl (jn_aload_n 0)), (39, .inl (jn_getf 7 2)), (42, .inl (jn_iload_n 1)), (43, .inl jn_iastore)]
noncomputable def jn_c101_1 : List (Nat × jn_E) := [(44, .inl (jn_aload_n 0)), (45, .inl jn_dup), (46, .inl (jn_getf 7 2)), (49, .inl (jn_iconst 1)), (50, .inl jn_iadd), (51, .inl (jn_putf 7 2 0)), (54, .inl (jn_aload_n 0)), (55, .inl (jn_getf 7 2)), (58, .inl (jn_iconst 1)), (59, .inl jn_isub), (60, .inr (.inr 1))]
noncomputable def jn_c101 : List (Nat × jn_E) := jn_c101_0 ++ (jn_c101_1)
def jn_mi101 : jn_MI := (RX7, cX7_net, 2, "net")
/-- DebtNetModel.net(I)I -/
noncomputable def jn_me101 : jn_Me := (jn_mi101, yX7_net, (some .int), jn_c101)
noncomputable def jn_c102_0 : List (Nat × jn_E) := [(0, .inl (jn_aload_n 0)), (1, .inl (jn_iload_n 1)), (2, .inl (jn_iload_n 2)), (3, .inr (.inl (98, 9, 3))), (6, .inl (jn_ifeq 18)), (9, .inl (jn_aload_n 0)), (10, .inl (jn_iload_n 1)), (11, .inl (jn_iload_n 3)), (12, .inr (.inl (98, 9, 3))), (15, .inl (jn_ifne 25)), (18, .inl (jn_aload_n 0)), (19, .inl (jn_bipush (-3))), (21, .inr (.inl (95, 9, 2))), (24, .inr (.inr 1)), (25, .inl (jn_iconst 0)), (26, .inl (jn_istore 5)), (28, .inl (jn_iconst 0)), (29, .inl (jn_istore 6)), (31, .inl (jn_iload 6)), (33, .inl (jn_aload_n 0)), (34, .inl (jn_getf 7 3)), (37, .inl (jn_icge 69)), (40, .inl (jn_iload 5)), (42, .inl (jn_ifne 56))]
noncomputable def jn_c102_1 : List (Nat × jn_E) := [(45, .inl (jn_aload_n 0)), (46, .inl (jn_getf 7 4)), (49, .inl (jn_iload 6)), (51, .inl jn_iaload), (52, .inl (jn_iload_n 1)), (53, .inl (jn_icne 60)), (56, .inl (jn_iconst 1)), (57, .inl (jn_goto 61)), (60, .inl (jn_iconst 0)), (61, .inl (jn_istore 5)), (63, .inl (jn_iinc 6 1)), (66, .inl (jn_goto 31)), (69, .inl (jn_iload 4)), (71, .inl jn_i2l), (72, .inl (jn_lconst 0)), (73, .inl (jn_ldc2 4)), (76, .inr (.inl (94, 0, 3))), (79, .inl (jn_ifeq 92)), (82, .inl (jn_iload_n 2)), (83, .inl (jn_iload_n 3)), (84, .inl (jn_iceq 92)), (87, .inl (jn_iload 5)), (89, .inl (jn_ifeq 99)), (92, .inl (jn_aload_n 0))]
noncomputable def jn_c102_2 : List (Nat × jn_E) := [(93, .inl (jn_bipush (-7))), (95, .inr (.inl (95, 9, 2))), (98, .inr (.inr 1)), (99, .inl (jn_aload_n 0)), (100, .inl (jn_getf 7 1)), (103, .inl (jn_iload_n 1)), (104, .inl (jn_iload_n 2)), (105, .inl (jn_iload_n 3)), (106, .inr (.inl (100, 0, 3))), (109, .inl jn_iaload), (110, .inl (jn_istore 6)), (112, .inl (jn_aload_n 0)), (113, .inl (jn_getf 7 1)), (116, .inl (jn_iload_n 1)), (117, .inl (jn_iload_n 2)), (118, .inl (jn_iload_n 3)), (119, .inr (.inl (100, 0, 3))), (122, .inl (jn_iload 4)), (124, .inl jn_iastore), (125, .inl (jn_aload_n 0)), (126, .inl (jn_getf 7 1)), (129, .inl (jn_iload_n 1)), (130, .inl (jn_iload_n 3)), (131, .inl (jn_iload_n 2))]
noncomputable def jn_c102_3 : List (Nat × jn_E) := [(132, .inr (.inl (100, 0, 3))), (135, .inl (jn_iload 4)), (137, .inl jn_iastore), (138, .inl (jn_iconst 0)), (139, .inl (jn_istore 7)), (141, .inl (jn_iload 7)), (143, .inl (jn_bipush 6)), (145, .inl (jn_icge 167)), (148, .inl (jn_aload_n 0)), (149, .inl (jn_getf 7 13)), (152, .inl (jn_bipush 6)), (154, .inl (jn_iload_n 1)), (155, .inl jn_imul), (156, .inl (jn_iload 7)), (158, .inl jn_iadd), (159, .inl (jn_iconst 0)), (160, .inl jn_zastore), (161, .inl (jn_iinc 7 1)), (164, .inl (jn_goto 141)), (167, .inl (jn_iload 6)), (169, .inr (.inr 1))]
noncomputable def jn_c102 : List (Nat × jn_E) := jn_c102_0 ++ (jn_c102_1 ++ (jn_c102_2 ++ (jn_c102_3)))
def jn_mi102 : jn_MI := (RX7, cX7_road, 8, "road")
/-- DebtNetModel.road(IIII)I -/
noncomputable def jn_me102 : jn_Me := (jn_mi102, yX7_road, (some .int), jn_c102)
noncomputable def jn_c103_0 : List (Nat × jn_E) := [(0, .inl (jn_iconst 0)), (1, .inl (jn_istore_n 3)), (2, .inl (jn_iconst 0)), (3, .inl (jn_istore 4)), (5, .inl (jn_iload 4)), (7, .inl (jn_aload_n 0)), (8, .inl (jn_getf 7 0)), (11, .inl (jn_iload_n 1)), (12, .inl jn_iaload), (13, .inl (jn_icge 37)), (16, .inl (jn_iload_n 3)), (17, .inl (jn_aload_n 0)), (18, .inl (jn_getf 7 1)), (21, .inl (jn_iload_n 1)), (22, .inl (jn_iload_n 2)), (23, .inl (jn_iload 4)), (25, .inr (.inl (100, 0, 3))), (28, .inl jn_iaload), (29, .inl jn_iadd), (30, .inl (jn_istore_n 3)), (31, .inl (jn_iinc 4 1)), (34, .inl (jn_goto 5)), (37, .inl (jn_iload_n 3)), (38, .inr (.inr 1))]
noncomputable def jn_c103 : List (Nat × jn_E) := jn_c103_0
def jn_mi103 : jn_MI := (RX7, cX7_roadsOf, 5, "roadsOf")
/-- DebtNetModel.roadsOf(II)I -/
noncomputable def jn_me103 : jn_Me := (jn_mi103, yX7_roadsOf, (some .int), jn_c103)
noncomputable def jn_c104_0 : List (Nat × jn_E) := [(0, .inl (jn_iconst 0)), (1, .inl (jn_istore_n 2)), (2, .inl (jn_iconst 0)), (3, .inl (jn_istore_n 3)), (4, .inl (jn_iload_n 3)), (5, .inl (jn_aload_n 0)), (6, .inl (jn_getf 7 0)), (9, .inl (jn_iload_n 1)), (10, .inl jn_iaload), (11, .inl (jn_icge 29)), (14, .inl (jn_iload_n 2)), (15, .inl (jn_aload_n 0)), (16, .inl (jn_iload_n 1)), (17, .inl (jn_iload_n 3)), (18, .inr (.inl (103, 9, 3))), (21, .inl jn_iadd), (22, .inl (jn_istore_n 2)), (23, .inl (jn_iinc 3 1)), (26, .inl (jn_goto 4)), (29, .inl (jn_iload_n 2)), (30, .inl (jn_iconst 2)), (31, .inl jn_idiv), (32, .inr (.inr 1))]
noncomputable def jn_c104 : List (Nat × jn_E) := jn_c104_0
def jn_mi104 : jn_MI := (RX7, cX7_roadsIn, 4, "roadsIn")
/-- DebtNetModel.roadsIn(I)I -/
noncomputable def jn_me104 : jn_Me := (jn_mi104, yX7_roadsIn, (some .int), jn_c104)
noncomputable def jn_c105_0 : List (Nat × jn_E) := [(0, .inl (jn_aload_n 0)), (1, .inl (jn_iload_n 1)), (2, .inr (.inl (104, 9, 2))), (5, .inl (jn_aload_n 0)), (6, .inl (jn_getf 7 0)), (9, .inl (jn_iload_n 1)), (10, .inl jn_iaload), (11, .inl jn_isub), (12, .inl (jn_iconst 1)), (13, .inl jn_iadd), (14, .inr (.inr 1))]
noncomputable def jn_c105 : List (Nat × jn_E) := jn_c105_0
def jn_mi105 : jn_MI := (RX7, cX7_genus, 2, "genus")
/-- DebtNetModel.genus(I)I -/
noncomputable def jn_me105 : jn_Me := (jn_mi105, yX7_genus, (some .int), jn_c105)
noncomputable def jn_c106_0 : List (Nat × jn_E) := [(0, .inl (jn_iconst 1)), (1, .inl (jn_istore_n 2)), (2, .inl (jn_iconst 0)), (3, .inl (jn_istore_n 3)), (4, .inl (jn_iload_n 3)), (5, .inl (jn_bipush 6)), (7, .inl (jn_icge 89)), (10, .inl (jn_iconst 0)), (11, .inl (jn_istore 4)), (13, .inl (jn_iload 4)), (15, .inl (jn_aload_n 0)), (16, .inl (jn_getf 7 0)), (19, .inl (jn_iload_n 1)), (20, .inl jn_iaload), (21, .inl (jn_icge 83)), (24, .inl (jn_iconst 0)), (25, .inl (jn_istore 5)), (27, .inl (jn_iload 5)), (29, .inl (jn_aload_n 0)), (30, .inl (jn_getf 7 0)), (33, .inl (jn_iload_n 1)), (34, .inl jn_iaload), (35, .inl (jn_icge 77)), (38, .inl (jn_iload_n 2))]
noncomputable def jn_c106_1 : List (Nat × jn_E) := [(39, .inl (jn_iload 4)), (41, .inl jn_ishr), (42, .inl (jn_iconst 1)), (43, .inl jn_iand), (44, .inl (jn_iconst 1)), (45, .inl (jn_icne 71)), (48, .inl (jn_aload_n 0)), (49, .inl (jn_getf 7 1)), (52, .inl (jn_iload_n 1)), (53, .inl (jn_iload 4)), (55, .inl (jn_iload 5)), (57, .inr (.inl (100, 0, 3))), (60, .inl jn_iaload), (61, .inl (jn_ifle 71)), (64, .inl (jn_iload_n 2)), (65, .inl (jn_iconst 1)), (66, .inl (jn_iload 5)), (68, .inl jn_ishl), (69, .inl jn_ior), (70, .inl (jn_istore_n 2)), (71, .inl (jn_iinc 5 1)), (74, .inl (jn_goto 27)), (77, .inl (jn_iinc 4 1)), (80, .inl (jn_goto 13))]
noncomputable def jn_c106_2 : List (Nat × jn_E) := [(83, .inl (jn_iinc 3 1)), (86, .inl (jn_goto 4)), (89, .inl (jn_iload_n 2)), (90, .inl (jn_iconst 1)), (91, .inl (jn_aload_n 0)), (92, .inl (jn_getf 7 0)), (95, .inl (jn_iload_n 1)), (96, .inl jn_iaload), (97, .inl jn_ishl), (98, .inl (jn_iconst 1)), (99, .inl jn_isub), (100, .inl (jn_icne 107)), (103, .inl (jn_iconst 1)), (104, .inl (jn_goto 108)), (107, .inl (jn_iconst 0)), (108, .inr (.inr 2))]
noncomputable def jn_c106 : List (Nat × jn_E) := jn_c106_0 ++ (jn_c106_1 ++ (jn_c106_2))
def jn_mi106 : jn_MI := (RX7, cX7_isWhole, 6, "isWhole")
/-- DebtNetModel.isWhole(I)Z -/
noncomputable def jn_me106 : jn_Me := (jn_mi106, yX7_isWhole, (some .boolean), jn_c106)
noncomputable def jn_c107_0 : List (Nat × jn_E) := [(0, .inl (jn_aload_n 0)), (1, .inl (jn_iload_n 1)), (2, .inr (.inl (106, 9, 2))), (5, .inl (jn_ifne 10)), (8, .inl (jn_iconst 3)), (9, .inr (.inr 1)), (10, .inl (jn_aload_n 0)), (11, .inl (jn_iload_n 1)), (12, .inr (.inl (105, 9, 2))), (15, .inl (jn_ifne 20)), (18, .inl (jn_iconst 0)), (19, .inr (.inr 1)), (20, .inl (jn_iconst 1)), (21, .inl (jn_istore_n 2)), (22, .inl (jn_iconst 0)), (23, .inl (jn_istore_n 3)), (24, .inl (jn_iload_n 3)), (25, .inl (jn_aload_n 0)), (26, .inl (jn_getf 7 0)), (29, .inl (jn_iload_n 1)), (30, .inl jn_iaload), (31, .inl (jn_icge 60)), (34, .inl (jn_iload_n 2)), (35, .inl (jn_ifeq 52))]
noncomputable def jn_c107_1 : List (Nat × jn_E) := [(38, .inl (jn_aload_n 0)), (39, .inl (jn_iload_n 1)), (40, .inl (jn_iload_n 3)), (41, .inr (.inl (103, 9, 3))), (44, .inl (jn_iconst 2)), (45, .inl (jn_icne 52)), (48, .inl (jn_iconst 1)), (49, .inl (jn_goto 53)), (52, .inl (jn_iconst 0)), (53, .inl (jn_istore_n 2)), (54, .inl (jn_iinc 3 1)), (57, .inl (jn_goto 24)), (60, .inl (jn_iload_n 2)), (61, .inl (jn_ifeq 68)), (64, .inl (jn_iconst 1)), (65, .inl (jn_goto 83)), (68, .inl (jn_aload_n 0)), (69, .inl (jn_getf 7 0)), (72, .inl (jn_iload_n 1)), (73, .inl jn_iaload), (74, .inl (jn_iconst 2)), (75, .inl (jn_icne 82)), (78, .inl (jn_iconst 2)), (79, .inl (jn_goto 83))]
noncomputable def jn_c107_2 : List (Nat × jn_E) := [(82, .inl (jn_iconst 3)), (83, .inr (.inr 1))]
noncomputable def jn_c107 : List (Nat × jn_E) := jn_c107_0 ++ (jn_c107_1 ++ (jn_c107_2))
def jn_mi107 : jn_MI := (RX7, cX7_kindOf, 4, "kindOf")
/-- DebtNetModel.kindOf(I)I -/
noncomputable def jn_me107 : jn_Me := (jn_mi107, yX7_kindOf, (some .int), jn_c107)
noncomputable def jn_c108_0 : List (Nat × jn_E) := [(0, .inl (jn_aload_n 0)), (1, .inl (jn_iload_n 1)), (2, .inr (.inl (97, 9, 2))), (5, .inl (jn_ifne 15)), (8, .inl (jn_aload_n 0)), (9, .inl (jn_bipush (-3))), (11, .inr (.inl (95, 9, 2))), (14, .inr (.inr 1)), (15, .inl (jn_iload_n 2)), (16, .inl (jn_table 0 4 [52, 58, 65, 71, 77] 91)), (52, .inl (jn_aload_n 0)), (53, .inl (jn_iload_n 1)), (54, .inr (.inl (107, 9, 2))), (57, .inr (.inr 1)), (58, .inl (jn_aload_n 0)), (59, .inl (jn_getf 7 0)), (62, .inl (jn_iload_n 1)), (63, .inl jn_iaload), (64, .inr (.inr 1)), (65, .inl (jn_aload_n 0)), (66, .inl (jn_iload_n 1)), (67, .inr (.inl (104, 9, 2))), (70, .inr (.inr 1)), (71, .inl (jn_aload_n 0))]
noncomputable def jn_c108_1 : List (Nat × jn_E) := [(72, .inl (jn_iload_n 1)), (73, .inr (.inl (105, 9, 2))), (76, .inr (.inr 1)), (77, .inl (jn_aload_n 0)), (78, .inl (jn_iload_n 1)), (79, .inr (.inl (106, 9, 2))), (82, .inl (jn_ifeq 89)), (85, .inl (jn_iconst 1)), (86, .inl (jn_goto 90)), (89, .inl (jn_iconst 0)), (90, .inr (.inr 1)), (91, .inl (jn_aload_n 0)), (92, .inl (jn_bipush (-7))), (94, .inr (.inl (95, 9, 2))), (97, .inr (.inr 1))]
noncomputable def jn_c108 : List (Nat × jn_E) := jn_c108_0 ++ (jn_c108_1)
def jn_mi108 : jn_MI := (RX7, cX7_look, 3, "look")
/-- DebtNetModel.look(II)I -/
noncomputable def jn_me108 : jn_Me := (jn_mi108, yX7_look, (some .int), jn_c108)
noncomputable def jn_c109_0 : List (Nat × jn_E) := [(0, .inl (jn_aload_n 0)), (1, .inl (jn_iload_n 1)), (2, .inl (jn_iload_n 2)), (3, .inr (.inl (98, 9, 3))), (6, .inl (jn_ifeq 23)), (9, .inl (jn_iload_n 3)), (10, .inl (jn_iconst (-1))), (11, .inl (jn_iceq 30)), (14, .inl (jn_aload_n 0)), (15, .inl (jn_iload_n 1)), (16, .inl (jn_iload_n 3)), (17, .inr (.inl (98, 9, 3))), (20, .inl (jn_ifne 30)), (23, .inl (jn_aload_n 0)), (24, .inl (jn_bipush (-3))), (26, .inr (.inl (95, 9, 2))), (29, .inr (.inr 1)), (30, .inl (jn_iload_n 3)), (31, .inl (jn_iconst (-1))), (32, .inl (jn_icne 44)), (35, .inl (jn_aload_n 0)), (36, .inl (jn_iload_n 1)), (37, .inl (jn_iload_n 2)), (38, .inr (.inl (103, 9, 3)))]
noncomputable def jn_c109_1 : List (Nat × jn_E) := [(41, .inl (jn_goto 55)), (44, .inl (jn_aload_n 0)), (45, .inl (jn_getf 7 1)), (48, .inl (jn_iload_n 1)), (49, .inl (jn_iload_n 2)), (50, .inl (jn_iload_n 3)), (51, .inr (.inl (100, 0, 3))), (54, .inl jn_iaload), (55, .inr (.inr 1))]
noncomputable def jn_c109 : List (Nat × jn_E) := jn_c109_0 ++ (jn_c109_1)
def jn_mi109 : jn_MI := (RX7, cX7_roads, 4, "roads")
/-- DebtNetModel.roads(III)I -/
noncomputable def jn_me109 : jn_Me := (jn_mi109, yX7_roads, (some .int), jn_c109)
noncomputable def jn_c110_0 : List (Nat × jn_E) := [(0, .inl (jn_iload_n 2)), (1, .inl (jn_iload_n 3)), (2, .inl (jn_icne 15)), (5, .inl (jn_aload_n 0)), (6, .inl (jn_iload_n 1)), (7, .inl (jn_iload_n 2)), (8, .inr (.inl (103, 9, 3))), (11, .inl jn_i2l), (12, .inl (jn_goto 28)), (15, .inl (jn_aload_n 0)), (16, .inl (jn_getf 7 1)), (19, .inl (jn_iload_n 1)), (20, .inl (jn_iload_n 2)), (21, .inl (jn_iload_n 3)), (22, .inr (.inl (100, 0, 3))), (25, .inl jn_iaload), (26, .inl jn_ineg), (27, .inl jn_i2l), (28, .inr (.inr 3))]
noncomputable def jn_c110 : List (Nat × jn_E) := jn_c110_0
def jn_mi110 : jn_MI := (RX7, cX7_cell, 4, "cell")
/-- DebtNetModel.cell(III)J -/
noncomputable def jn_me110 : jn_Me := (jn_mi110, yX7_cell, (some .long), jn_c110)
noncomputable def jn_c111_0 : List (Nat × jn_E) := [(0, .inl (jn_iconst 0)), (1, .inl (jn_istore_n 1)), (2, .inl (jn_iconst 0)), (3, .inl (jn_istore_n 2)), (4, .inl (jn_iload_n 2)), (5, .inl (jn_bipush 6)), (7, .inl (jn_icge 24)), (10, .inl (jn_iload_n 1)), (11, .inl (jn_iload_n 0)), (12, .inl (jn_iload_n 2)), (13, .inl jn_ishr), (14, .inl (jn_iconst 1)), (15, .inl jn_iand), (16, .inl jn_iadd), (17, .inl (jn_istore_n 1)), (18, .inl (jn_iinc 2 1)), (21, .inl (jn_goto 4)), (24, .inl (jn_iload_n 1)), (25, .inr (.inr 1))]
noncomputable def jn_c111 : List (Nat × jn_E) := jn_c111_0
def jn_mi111 : jn_MI := (RX7, cX7_many, 3, "many")
/-- DebtNetModel.many(I)I -/
noncomputable def jn_me111 : jn_Me := (jn_mi111, yX7_many, (some .int), jn_c111)
noncomputable def jn_c112_0 : List (Nat × jn_E) := [(0, .inl (jn_iconst 0)), (1, .inl (jn_istore 4)), (3, .inl (jn_iload 4)), (5, .inl (jn_bipush 64)), (7, .inl (jn_icge 33)), (10, .inl (jn_aload_n 0)), (11, .inl (jn_getf 7 7)), (14, .inl (jn_iload 4)), (16, .inl (jn_iload 4)), (18, .inl (jn_ifne 25)), (21, .inl (jn_lconst 1)), (22, .inl (jn_goto 26)), (25, .inl (jn_lconst 0)), (26, .inl jn_lastore), (27, .inl (jn_iinc 4 1)), (30, .inl (jn_goto 3)), (33, .inl (jn_iconst 0)), (34, .inl (jn_istore 4)), (36, .inl (jn_iconst 0)), (37, .inl (jn_istore 5)), (39, .inl (jn_iload 5)), (41, .inl (jn_bipush 6)), (43, .inl (jn_icge 213)), (46, .inl (jn_iload_n 2))]
noncomputable def jn_c112_1 : List (Nat × jn_E) := [(47, .inl (jn_iload 5)), (49, .inl jn_ishr), (50, .inl (jn_iconst 1)), (51, .inl jn_iand), (52, .inl (jn_ifne 58)), (55, .inl (jn_goto 207)), (58, .inl (jn_bipush 63)), (60, .inl (jn_istore 6)), (62, .inl (jn_iload 6)), (64, .inl (jn_iflt 204)), (67, .inl (jn_iload 6)), (69, .inr (.inl (111, 0, 1))), (72, .inl (jn_iload 4)), (74, .inl (jn_icne 198)), (77, .inl (jn_aload_n 0)), (78, .inl (jn_getf 7 7)), (81, .inl (jn_iload 6)), (83, .inl jn_laload), (84, .inl (jn_lconst 0)), (85, .inl jn_lcmp), (86, .inl (jn_ifeq 198)), (89, .inl (jn_iload 6)), (91, .inl (jn_iload_n 3)), (92, .inl (jn_iconst (-1)))]
noncomputable def jn_c112_2 : List (Nat × jn_E) := [(93, .inl jn_ixor), (94, .inl jn_iand), (95, .inl (jn_ifeq 101)), (98, .inl (jn_goto 198)), (101, .inl (jn_iconst 0)), (102, .inl (jn_istore 7)), (104, .inl (jn_iload 7)), (106, .inl (jn_bipush 6)), (108, .inl (jn_icge 198)), (111, .inl (jn_iload_n 3)), (112, .inl (jn_iload 7)), (114, .inl jn_ishr), (115, .inl (jn_iconst 1)), (116, .inl jn_iand), (117, .inl (jn_ifeq 192)), (120, .inl (jn_iload 6)), (122, .inl (jn_iload 7)), (124, .inl jn_ishr), (125, .inl (jn_iconst 1)), (126, .inl jn_iand), (127, .inl (jn_iconst 1)), (128, .inl (jn_icne 134)), (131, .inl (jn_goto 192)), (134, .inl (jn_aload_n 0))]
noncomputable def jn_c112_3 : List (Nat × jn_E) := [(135, .inl (jn_getf 7 7)), (138, .inl (jn_iload 6)), (140, .inl jn_laload), (141, .inl (jn_aload_n 0)), (142, .inl (jn_iload_n 1)), (143, .inl (jn_iload 5)), (145, .inl (jn_iload 7)), (147, .inr (.inl (110, 9, 4))), (150, .inl jn_lmul), (151, .inl (jn_lstore 8)), (153, .inl (jn_aload_n 0)), (154, .inl (jn_getf 7 7)), (157, .inl (jn_iload 6)), (159, .inl (jn_iconst 1)), (160, .inl (jn_iload 7)), (162, .inl jn_ishl), (163, .inl jn_ior), (164, .inl jn_dup2), (165, .inl jn_laload), (166, .inl (jn_iload 6)), (168, .inl (jn_iload 7)), (170, .inl (jn_iconst 1)), (171, .inl jn_iadd), (172, .inl jn_ishr)]
noncomputable def jn_c112_4 : List (Nat × jn_E) := [(173, .inr (.inl (111, 0, 1))), (176, .inl (jn_iconst 2)), (177, .inl jn_irem), (178, .inl (jn_iconst 1)), (179, .inl (jn_icne 188)), (182, .inl (jn_lload 8)), (184, .inl jn_lneg), (185, .inl (jn_goto 190)), (188, .inl (jn_lload 8)), (190, .inl jn_ladd), (191, .inl jn_lastore), (192, .inl (jn_iinc 7 1)), (195, .inl (jn_goto 104)), (198, .inl (jn_iinc 6 (-1))), (201, .inl (jn_goto 62)), (204, .inl (jn_iinc 4 1)), (207, .inl (jn_iinc 5 1)), (210, .inl (jn_goto 39)), (213, .inl (jn_aload_n 0)), (214, .inl (jn_getf 7 7)), (217, .inl (jn_iload_n 3)), (218, .inl jn_laload), (219, .inr (.inr 3))]
noncomputable def jn_c112 : List (Nat × jn_E) := jn_c112_0 ++ (jn_c112_1 ++ (jn_c112_2 ++ (jn_c112_3 ++ (jn_c112_4))))
def jn_mi112 : jn_MI := (RX7, cX7_minor, 10, "minor")
/-- DebtNetModel.minor(III)J -/
noncomputable def jn_me112 : jn_Me := (jn_mi112, yX7_minor, (some .long), jn_c112)
noncomputable def jn_c113_0 : List (Nat × jn_E) := [(0, .inl (jn_iconst 1)), (1, .inl (jn_aload_n 0)), (2, .inl (jn_getf 7 0)), (5, .inl (jn_iload_n 1)), (6, .inl jn_iaload), (7, .inl jn_ishl), (8, .inl (jn_iconst 1)), (9, .inl jn_isub), (10, .inl (jn_iconst 1)), (11, .inl (jn_iload_n 2)), (12, .inl jn_ishl), (13, .inl (jn_iconst (-1))), (14, .inl jn_ixor), (15, .inl jn_iand), (16, .inr (.inr 1))]
noncomputable def jn_c113 : List (Nat × jn_E) := jn_c113_0
def jn_mi113 : jn_MI := (RX7, cX7_allBut, 3, "allBut")
/-- DebtNetModel.allBut(II)I -/
noncomputable def jn_me113 : jn_Me := (jn_mi113, yX7_allBut, (some .int), jn_c113)
noncomputable def jn_c114_0 : List (Nat × jn_E) := [(0, .inl (jn_aload_n 0)), (1, .inl (jn_iload_n 1)), (2, .inl (jn_aload_n 0)), (3, .inl (jn_iload_n 1)), (4, .inl (jn_iconst 0)), (5, .inr (.inl (113, 9, 3))), (8, .inl (jn_aload_n 0)), (9, .inl (jn_iload_n 1)), (10, .inl (jn_iconst 0)), (11, .inr (.inl (113, 9, 3))), (14, .inr (.inl (112, 9, 4))), (17, .inr (.inr 3))]
noncomputable def jn_c114 : List (Nat × jn_E) := jn_c114_0
def jn_mi114 : jn_MI := (RX7, cX7_treesOf, 2, "treesOf")
/-- DebtNetModel.treesOf(I)J -/
noncomputable def jn_me114 : jn_Me := (jn_mi114, yX7_treesOf, (some .long), jn_c114)
noncomputable def jn_c115_0 : List (Nat × jn_E) := [(0, .inl (jn_aload_n 0)), (1, .inl (jn_iload_n 1)), (2, .inr (.inl (97, 9, 2))), (5, .inl (jn_ifne 16)), (8, .inl (jn_aload_n 0)), (9, .inl (jn_bipush (-3))), (11, .inr (.inl (96, 9, 2))), (14, .inl jn_i2l), (15, .inr (.inr 3)), (16, .inl (jn_aload_n 0)), (17, .inl (jn_iload_n 1)), (18, .inr (.inl (106, 9, 2))), (21, .inl (jn_ifeq 32)), (24, .inl (jn_aload_n 0)), (25, .inl (jn_iload_n 1)), (26, .inr (.inl (114, 9, 2))), (29, .inl (jn_goto 39)), (32, .inl (jn_aload_n 0)), (33, .inl (jn_bipush (-5))), (35, .inr (.inl (96, 9, 2))), (38, .inl jn_i2l), (39, .inr (.inr 3))]
noncomputable def jn_c115 : List (Nat × jn_E) := jn_c115_0
def jn_mi115 : jn_MI := (RX7, cX7_trees, 2, "trees")
/-- DebtNetModel.trees(I)J -/
noncomputable def jn_me115 : jn_Me := (jn_mi115, yX7_trees, (some .long), jn_c115)
noncomputable def jn_c116_0 : List (Nat × jn_E) := [(0, .inl (jn_lload_n 0)), (1, .inl (jn_lconst 0)), (2, .inl jn_lcmp), (3, .inl (jn_ifge 11)), (6, .inl (jn_lload_n 0)), (7, .inl jn_lneg), (8, .inl (jn_goto 12)), (11, .inl (jn_lload_n 0)), (12, .inl (jn_lstore 4)), (14, .inl (jn_lload_n 2)), (15, .inl (jn_lconst 0)), (16, .inl jn_lcmp), (17, .inl (jn_ifge 25)), (20, .inl (jn_lload_n 2)), (21, .inl jn_lneg), (22, .inl (jn_goto 26)), (25, .inl (jn_lload_n 2)), (26, .inl (jn_lstore 6)), (28, .inl (jn_lload 6)), (30, .inl (jn_lconst 0)), (31, .inl jn_lcmp), (32, .inl (jn_ifeq 53)), (35, .inl (jn_lload 4)), (37, .inl (jn_lload 6))]
noncomputable def jn_c116_1 : List (Nat × jn_E) := [(39, .inl jn_lrem), (40, .inl (jn_lstore 8)), (42, .inl (jn_lload 6)), (44, .inl (jn_lstore 4)), (46, .inl (jn_lload 8)), (48, .inl (jn_lstore 6)), (50, .inl (jn_goto 28)), (53, .inl (jn_lload 4)), (55, .inr (.inr 3))]
noncomputable def jn_c116 : List (Nat × jn_E) := jn_c116_0 ++ (jn_c116_1)
def jn_mi116 : jn_MI := (RX7, cX7_divisor, 10, "divisor")
/-- DebtNetModel.divisor(JJ)J -/
noncomputable def jn_me116 : jn_Me := (jn_mi116, yX7_divisor, (some .long), jn_c116)
noncomputable def jn_c117_0 : List (Nat × jn_E) := [(0, .inl (jn_lconst 0)), (1, .inl (jn_lstore_n 3)), (2, .inl (jn_iconst 0)), (3, .inl (jn_istore 5)), (5, .inl (jn_iload 5)), (7, .inl (jn_bipush 64)), (9, .inl (jn_icge 94)), (12, .inl (jn_iconst 0)), (13, .inl (jn_istore 6)), (15, .inl (jn_iload 6)), (17, .inl (jn_bipush 64)), (19, .inl (jn_icge 88)), (22, .inl (jn_iload 5)), (24, .inl (jn_iload 6)), (26, .inl jn_ior), (27, .inl (jn_iconst 1)), (28, .inl (jn_aload_n 0)), (29, .inl (jn_getf 7 0)), (32, .inl (jn_iload_n 1)), (33, .inl jn_iaload), (34, .inl jn_ishl), (35, .inl (jn_icge 42)), (38, .inl (jn_iconst 1)), (39, .inl (jn_goto 43))]
noncomputable def jn_c117_1 : List (Nat × jn_E) := [(42, .inl (jn_iconst 0)), (43, .inl (jn_istore 7)), (45, .inl (jn_iload 7)), (47, .inl (jn_ifeq 82)), (50, .inl (jn_iload 5)), (52, .inr (.inl (111, 0, 1))), (55, .inl (jn_iload_n 2)), (56, .inl (jn_icne 82)), (59, .inl (jn_iload 6)), (61, .inr (.inl (111, 0, 1))), (64, .inl (jn_iload_n 2)), (65, .inl (jn_icne 82)), (68, .inl (jn_lload_n 3)), (69, .inl (jn_aload_n 0)), (70, .inl (jn_iload_n 1)), (71, .inl (jn_iload 5)), (73, .inl (jn_iload 6)), (75, .inr (.inl (112, 9, 4))), (78, .inr (.inl (116, 0, 2))), (81, .inl (jn_lstore_n 3)), (82, .inl (jn_iinc 6 2)), (85, .inl (jn_goto 15)), (88, .inl (jn_iinc 5 2)), (91, .inl (jn_goto 5))]
noncomputable def jn_c117_2 : List (Nat × jn_E) := [(94, .inl (jn_lload_n 3)), (95, .inr (.inr 3))]
noncomputable def jn_c117 : List (Nat × jn_E) := jn_c117_0 ++ (jn_c117_1 ++ (jn_c117_2))
def jn_mi117 : jn_MI := (RX7, cX7_common, 8, "common")
/-- DebtNetModel.common(II)J -/
noncomputable def jn_me117 : jn_Me := (jn_mi117, yX7_common, (some .long), jn_c117)
noncomputable def jn_c118_0 : List (Nat × jn_E) := [(0, .inl (jn_aload_n 0)), (1, .inl (jn_iload_n 1)), (2, .inr (.inl (97, 9, 2))), (5, .inl (jn_ifne 16)), (8, .inl (jn_aload_n 0)), (9, .inl (jn_bipush (-3))), (11, .inr (.inl (96, 9, 2))), (14, .inl jn_i2l), (15, .inr (.inr 3)), (16, .inl (jn_aload_n 0)), (17, .inl (jn_iload_n 1)), (18, .inr (.inl (106, 9, 2))), (21, .inl (jn_ifne 32)), (24, .inl (jn_aload_n 0)), (25, .inl (jn_bipush (-5))), (27, .inr (.inl (96, 9, 2))), (30, .inl jn_i2l), (31, .inr (.inr 3)), (32, .inl (jn_iload_n 2)), (33, .inl jn_i2l), (34, .inl (jn_lconst 0)), (35, .inl (jn_aload_n 0)), (36, .inl (jn_getf 7 0)), (39, .inl (jn_iload_n 1))]
noncomputable def jn_c118_1 : List (Nat × jn_E) := [(40, .inl jn_iaload), (41, .inl (jn_iconst 2)), (42, .inl jn_isub), (43, .inl jn_i2l), (44, .inr (.inl (94, 0, 3))), (47, .inl (jn_ifne 58)), (50, .inl (jn_aload_n 0)), (51, .inl (jn_bipush (-3))), (53, .inr (.inl (96, 9, 2))), (56, .inl jn_i2l), (57, .inr (.inr 3)), (58, .inl (jn_aload_n 0)), (59, .inl (jn_iload_n 1)), (60, .inl (jn_iload_n 2)), (61, .inl (jn_iconst 1)), (62, .inl jn_iadd), (63, .inr (.inl (117, 9, 3))), (66, .inl (jn_aload_n 0)), (67, .inl (jn_iload_n 1)), (68, .inl (jn_iload_n 2)), (69, .inr (.inl (117, 9, 3))), (72, .inl jn_ldiv), (73, .inr (.inr 3))]
noncomputable def jn_c118 : List (Nat × jn_E) := jn_c118_0 ++ (jn_c118_1)
def jn_mi118 : jn_MI := (RX7, cX7_factor, 3, "factor")
/-- DebtNetModel.factor(II)J -/
noncomputable def jn_me118 : jn_Me := (jn_mi118, yX7_factor, (some .long), jn_c118)
noncomputable def jn_c119_0 : List (Nat × jn_E) := [(0, .inl (jn_aload_n 0)), (1, .inl (jn_iload_n 1)), (2, .inl (jn_iload_n 2)), (3, .inr (.inl (98, 9, 3))), (6, .inl (jn_ifeq 18)), (9, .inl (jn_aload_n 0)), (10, .inl (jn_iload_n 1)), (11, .inl (jn_iload_n 3)), (12, .inr (.inl (98, 9, 3))), (15, .inl (jn_ifne 26)), (18, .inl (jn_aload_n 0)), (19, .inl (jn_bipush (-3))), (21, .inr (.inl (96, 9, 2))), (24, .inl jn_i2l), (25, .inr (.inr 3)), (26, .inl (jn_aload_n 0)), (27, .inl (jn_iload_n 1)), (28, .inr (.inl (106, 9, 2))), (31, .inl (jn_ifne 42)), (34, .inl (jn_aload_n 0)), (35, .inl (jn_bipush (-5))), (37, .inr (.inl (96, 9, 2))), (40, .inl jn_i2l), (41, .inr (.inr 3))]
noncomputable def jn_c119_1 : List (Nat × jn_E) := [(42, .inl (jn_iload_n 2)), (43, .inl (jn_iload_n 3)), (44, .inl (jn_icne 58)), (47, .inl (jn_iload 4)), (49, .inl (jn_ifeq 56)), (52, .inl (jn_lconst 1)), (53, .inl (jn_goto 57)), (56, .inl (jn_lconst 0)), (57, .inr (.inr 3)), (58, .inl (jn_aload_n 0)), (59, .inl (jn_iload_n 1)), (60, .inl (jn_iload_n 2)), (61, .inr (.inl (113, 9, 3))), (64, .inl (jn_iconst 1)), (65, .inl (jn_iload_n 3)), (66, .inl jn_ishl), (67, .inl (jn_iconst (-1))), (68, .inl jn_ixor), (69, .inl jn_iand), (70, .inl (jn_istore 5)), (72, .inl (jn_aload_n 0)), (73, .inl (jn_iload_n 1)), (74, .inl (jn_iload 5)), (76, .inl (jn_iload 5))]
noncomputable def jn_c119_2 : List (Nat × jn_E) := [(78, .inr (.inl (112, 9, 4))), (81, .inl (jn_lstore 6)), (83, .inl (jn_aload_n 0)), (84, .inl (jn_iload_n 1)), (85, .inr (.inl (114, 9, 2))), (88, .inl (jn_lstore 8)), (90, .inl (jn_lload 6)), (92, .inl (jn_lload 8)), (94, .inr (.inl (116, 0, 2))), (97, .inl (jn_lstore 10)), (99, .inl (jn_iload 4)), (101, .inl (jn_ifeq 112)), (104, .inl (jn_lload 8)), (106, .inl (jn_lload 10)), (108, .inl jn_ldiv), (109, .inl (jn_goto 117)), (112, .inl (jn_lload 6)), (114, .inl (jn_lload 10)), (116, .inl jn_ldiv), (117, .inr (.inr 3))]
noncomputable def jn_c119 : List (Nat × jn_E) := jn_c119_0 ++ (jn_c119_1 ++ (jn_c119_2))
def jn_mi119 : jn_MI := (RX7, cX7_resist, 12, "resist")
/-- DebtNetModel.resist(IIIZ)J -/
noncomputable def jn_me119 : jn_Me := (jn_mi119, yX7_resist, (some .long), jn_c119)
noncomputable def jn_c120_0 : List (Nat × jn_E) := [(0, .inl (jn_aload_n 0)), (1, .inl (jn_iload_n 1)), (2, .inr (.inl (97, 9, 2))), (5, .inl (jn_ifne 15)), (8, .inl (jn_aload_n 0)), (9, .inl (jn_bipush (-3))), (11, .inr (.inl (95, 9, 2))), (14, .inr (.inr 1)), (15, .inl (jn_aload_n 0)), (16, .inl (jn_getf 7 3)), (19, .inl (jn_bipush 10)), (21, .inl (jn_icne 31)), (24, .inl (jn_aload_n 0)), (25, .inl (jn_bipush (-8))), (27, .inr (.inl (95, 9, 2))), (30, .inr (.inr 1)), (31, .inl (jn_aload_n 0)), (32, .inl (jn_getf 7 4)), (35, .inl (jn_aload_n 0)), (36, .inl (jn_getf 7 3)), (39, .inl (jn_iload_n 1)), (40, .inl jn_iastore), (41, .inl (jn_iconst 0)), (42, .inl (jn_istore_n 2))]
noncomputable def jn_c120_1 : List (Nat × jn_E) := [(43, .inl (jn_iload_n 2)), (44, .inl (jn_bipush 6)), (46, .inl (jn_icge 70)), (49, .inl (jn_aload_n 0)), (50, .inl (jn_getf 7 5)), (53, .inl (jn_bipush 6)), (55, .inl (jn_aload_n 0)), (56, .inl (jn_getf 7 3)), (59, .inl jn_imul), (60, .inl (jn_iload_n 2)), (61, .inl jn_iadd), (62, .inl (jn_iconst 0)), (63, .inl jn_iastore), (64, .inl (jn_iinc 2 1)), (67, .inl (jn_goto 43)), (70, .inl (jn_aload_n 0)), (71, .inl jn_dup), (72, .inl (jn_getf 7 3)), (75, .inl (jn_iconst 1)), (76, .inl jn_iadd), (77, .inl (jn_putf 7 3 0)), (80, .inl (jn_aload_n 0)), (81, .inl (jn_getf 7 3)), (84, .inl (jn_iconst 1))]
noncomputable def jn_c120_2 : List (Nat × jn_E) := [(85, .inl jn_isub), (86, .inr (.inr 1))]
noncomputable def jn_c120 : List (Nat × jn_E) := jn_c120_0 ++ (jn_c120_1 ++ (jn_c120_2))
def jn_mi120 : jn_MI := (RX7, cX7_book, 3, "book")
/-- DebtNetModel.book(I)I -/
noncomputable def jn_me120 : jn_Me := (jn_mi120, yX7_book, (some .int), jn_c120)
noncomputable def jn_c121_0 : List (Nat × jn_E) := [(0, .inl (jn_aload_n 0)), (1, .inl (jn_iload_n 1)), (2, .inr (.inl (99, 9, 2))), (5, .inl (jn_ifeq 26)), (8, .inl (jn_aload_n 0)), (9, .inl (jn_aload_n 0)), (10, .inl (jn_getf 7 4)), (13, .inl (jn_iload_n 1)), (14, .inl jn_iaload), (15, .inl (jn_iload_n 2)), (16, .inr (.inl (98, 9, 3))), (19, .inl (jn_ifeq 26)), (22, .inl (jn_iconst 1)), (23, .inl (jn_goto 27)), (26, .inl (jn_iconst 0)), (27, .inr (.inr 2))]
noncomputable def jn_c121 : List (Nat × jn_E) := jn_c121_0
def jn_mi121 : jn_MI := (RX7, cX7_isPlace, 3, "isPlace")
/-- DebtNetModel.isPlace(II)Z -/
noncomputable def jn_me121 : jn_Me := (jn_mi121, yX7_isPlace, (some .boolean), jn_c121)
noncomputable def jn_c122_0 : List (Nat × jn_E) := [(0, .inl (jn_aload_n 0)), (1, .inl (jn_iload_n 1)), (2, .inl (jn_iload_n 2)), (3, .inr (.inl (121, 9, 3))), (6, .inl (jn_ifne 16)), (9, .inl (jn_aload_n 0)), (10, .inl (jn_bipush (-3))), (12, .inr (.inl (96, 9, 2))), (15, .inr (.inr 1)), (16, .inl (jn_iload_n 3)), (17, .inl jn_i2l), (18, .inl (jn_ldc2 (-300))), (21, .inl (jn_ldc2 300)), (24, .inr (.inl (94, 0, 3))), (27, .inl (jn_ifne 37)), (30, .inl (jn_aload_n 0)), (31, .inl (jn_bipush (-7))), (33, .inr (.inl (96, 9, 2))), (36, .inr (.inr 1)), (37, .inl (jn_aload_n 0)), (38, .inl (jn_getf 7 5)), (41, .inl (jn_bipush 6)), (43, .inl (jn_iload_n 1)), (44, .inl jn_imul)]
noncomputable def jn_c122_1 : List (Nat × jn_E) := [(45, .inl (jn_iload_n 2)), (46, .inl jn_iadd), (47, .inl jn_iaload), (48, .inl (jn_istore 4)), (50, .inl (jn_aload_n 0)), (51, .inl (jn_getf 7 5)), (54, .inl (jn_bipush 6)), (56, .inl (jn_iload_n 1)), (57, .inl jn_imul), (58, .inl (jn_iload_n 2)), (59, .inl jn_iadd), (60, .inl (jn_iload_n 3)), (61, .inl jn_iastore), (62, .inl (jn_iload 4)), (64, .inr (.inr 1))]
noncomputable def jn_c122 : List (Nat × jn_E) := jn_c122_0 ++ (jn_c122_1)
def jn_mi122 : jn_MI := (RX7, cX7_put, 5, "put")
/-- DebtNetModel.put(III)I -/
noncomputable def jn_me122 : jn_Me := (jn_mi122, yX7_put, (some .int), jn_c122)
noncomputable def jn_c123_0 : List (Nat × jn_E) := [(0, .inl (jn_aload_n 0)), (1, .inl (jn_iload_n 1)), (2, .inl (jn_iload_n 2)), (3, .inr (.inl (121, 9, 3))), (6, .inl (jn_ifeq 23)), (9, .inl (jn_aload_n 0)), (10, .inl (jn_getf 7 5)), (13, .inl (jn_bipush 6)), (15, .inl (jn_iload_n 1)), (16, .inl jn_imul), (17, .inl (jn_iload_n 2)), (18, .inl jn_iadd), (19, .inl jn_iaload), (20, .inl (jn_goto 29)), (23, .inl (jn_aload_n 0)), (24, .inl (jn_bipush (-3))), (26, .inr (.inl (96, 9, 2))), (29, .inr (.inr 1))]
noncomputable def jn_c123 : List (Nat × jn_E) := jn_c123_0
def jn_mi123 : jn_MI := (RX7, cX7_at, 3, "at")
/-- DebtNetModel.at(II)I -/
noncomputable def jn_me123 : jn_Me := (jn_mi123, yX7_at, (some .int), jn_c123)
noncomputable def jn_c124_0 : List (Nat × jn_E) := [(0, .inl (jn_iconst 0)), (1, .inl (jn_istore_n 2)), (2, .inl (jn_iconst 0)), (3, .inl (jn_istore_n 3)), (4, .inl (jn_iload_n 3)), (5, .inl (jn_bipush 6)), (7, .inl (jn_icge 30)), (10, .inl (jn_iload_n 2)), (11, .inl (jn_aload_n 0)), (12, .inl (jn_getf 7 5)), (15, .inl (jn_bipush 6)), (17, .inl (jn_iload_n 1)), (18, .inl jn_imul), (19, .inl (jn_iload_n 3)), (20, .inl jn_iadd), (21, .inl jn_iaload), (22, .inl jn_iadd), (23, .inl (jn_istore_n 2)), (24, .inl (jn_iinc 3 1)), (27, .inl (jn_goto 4)), (30, .inl (jn_iload_n 2)), (31, .inr (.inr 1))]
noncomputable def jn_c124 : List (Nat × jn_E) := jn_c124_0
def jn_mi124 : jn_MI := (RX7, cX7_degreeOf, 4, "degreeOf")
/-- DebtNetModel.degreeOf(I)I -/
noncomputable def jn_me124 : jn_Me := (jn_mi124, yX7_degreeOf, (some .int), jn_c124)
noncomputable def jn_c125_0 : List (Nat × jn_E) := [(0, .inl (jn_aload_n 0)), (1, .inl (jn_iload_n 1)), (2, .inr (.inl (99, 9, 2))), (5, .inl (jn_ifeq 16)), (8, .inl (jn_aload_n 0)), (9, .inl (jn_iload_n 1)), (10, .inr (.inl (124, 9, 2))), (13, .inl (jn_goto 22)), (16, .inl (jn_aload_n 0)), (17, .inl (jn_bipush (-3))), (19, .inr (.inl (96, 9, 2))), (22, .inr (.inr 1))]
noncomputable def jn_c125 : List (Nat × jn_E) := jn_c125_0
def jn_mi125 : jn_MI := (RX7, cX7_degree, 2, "degree")
/-- DebtNetModel.degree(I)I -/
noncomputable def jn_me125 : jn_Me := (jn_mi125, yX7_degree, (some .int), jn_c125)
noncomputable def jn_c126_0 : List (Nat × jn_E) := [(0, .inl (jn_aload_n 0)), (1, .inl (jn_iload_n 1)), (2, .inr (.inl (99, 9, 2))), (5, .inl (jn_ifne 15)), (8, .inl (jn_aload_n 0)), (9, .inl (jn_bipush (-3))), (11, .inr (.inl (95, 9, 2))), (14, .inr (.inr 1)), (15, .inl (jn_iconst 1)), (16, .inl (jn_istore_n 2)), (17, .inl (jn_iconst 0)), (18, .inl (jn_istore_n 3)), (19, .inl (jn_iload_n 3)), (20, .inl (jn_bipush 6)), (22, .inl (jn_icge 55)), (25, .inl (jn_iload_n 2)), (26, .inl (jn_ifeq 47)), (29, .inl (jn_aload_n 0)), (30, .inl (jn_getf 7 5)), (33, .inl (jn_bipush 6)), (35, .inl (jn_iload_n 1)), (36, .inl jn_imul), (37, .inl (jn_iload_n 3)), (38, .inl jn_iadd)]
noncomputable def jn_c126_1 : List (Nat × jn_E) := [(39, .inl jn_iaload), (40, .inl (jn_iflt 47)), (43, .inl (jn_iconst 1)), (44, .inl (jn_goto 48)), (47, .inl (jn_iconst 0)), (48, .inl (jn_istore_n 2)), (49, .inl (jn_iinc 3 1)), (52, .inl (jn_goto 19)), (55, .inl (jn_iload_n 2)), (56, .inl (jn_ifeq 63)), (59, .inl (jn_iconst 1)), (60, .inl (jn_goto 64)), (63, .inl (jn_iconst 0)), (64, .inr (.inr 1))]
noncomputable def jn_c126 : List (Nat × jn_E) := jn_c126_0 ++ (jn_c126_1)
def jn_mi126 : jn_MI := (RX7, cX7_good, 4, "good")
/-- DebtNetModel.good(I)I -/
noncomputable def jn_me126 : jn_Me := (jn_mi126, yX7_good, (some .int), jn_c126)
noncomputable def jn_c127_0 : List (Nat × jn_E) := [(0, .inl (jn_iconst 0)), (1, .inl (jn_istore_n 2)), (2, .inl (jn_iload_n 2)), (3, .inl (jn_bipush 6)), (5, .inl (jn_icge 32)), (8, .inl (jn_aload_n 0)), (9, .inl (jn_getf 7 8)), (12, .inl (jn_iload_n 2)), (13, .inl (jn_aload_n 0)), (14, .inl (jn_getf 7 5)), (17, .inl (jn_bipush 6)), (19, .inl (jn_iload_n 1)), (20, .inl jn_imul), (21, .inl (jn_iload_n 2)), (22, .inl jn_iadd), (23, .inl jn_iaload), (24, .inl jn_i2l), (25, .inl jn_lastore), (26, .inl (jn_iinc 2 1)), (29, .inl (jn_goto 2)), (32, .inr (.inr 0))]
noncomputable def jn_c127 : List (Nat × jn_E) := jn_c127_0
def jn_mi127 : jn_MI := (RX7, cX7_takes, 3, "takes")
/-- DebtNetModel.takes(I)V -/
noncomputable def jn_me127 : jn_Me := (jn_mi127, yX7_takes, none, jn_c127)
noncomputable def jn_c128_0 : List (Nat × jn_E) := [(0, .inl (jn_iconst 0)), (1, .inl (jn_istore 5)), (3, .inl (jn_iload 5)), (5, .inl (jn_aload_n 0)), (6, .inl (jn_getf 7 0)), (9, .inl (jn_iload_n 1)), (10, .inl jn_iaload), (11, .inl (jn_icge 64)), (14, .inl (jn_aload_n 0)), (15, .inl (jn_getf 7 8)), (18, .inl (jn_iload 5)), (20, .inl jn_dup2), (21, .inl jn_laload), (22, .inl (jn_iload 5)), (24, .inl (jn_iload_n 2)), (25, .inl (jn_icne 41)), (28, .inl (jn_lload_n 3)), (29, .inl jn_lneg), (30, .inl (jn_aload_n 0)), (31, .inl (jn_iload_n 1)), (32, .inl (jn_iload_n 2)), (33, .inr (.inl (103, 9, 3))), (36, .inl jn_i2l), (37, .inl jn_lmul)]
noncomputable def jn_c128_1 : List (Nat × jn_E) := [(38, .inl (jn_goto 56)), (41, .inl (jn_lload_n 3)), (42, .inl (jn_aload_n 0)), (43, .inl (jn_getf 7 1)), (46, .inl (jn_iload_n 1)), (47, .inl (jn_iload_n 2)), (48, .inl (jn_iload 5)), (50, .inr (.inl (100, 0, 3))), (53, .inl jn_iaload), (54, .inl jn_i2l), (55, .inl jn_lmul), (56, .inl jn_ladd), (57, .inl jn_lastore), (58, .inl (jn_iinc 5 1)), (61, .inl (jn_goto 3)), (64, .inr (.inr 0))]
noncomputable def jn_c128 : List (Nat × jn_E) := jn_c128_0 ++ (jn_c128_1)
def jn_mi128 : jn_MI := (RX7, cX7_lends, 6, "lends")
/-- DebtNetModel.lends(IIJ)V -/
noncomputable def jn_me128 : jn_Me := (jn_mi128, yX7_lends, none, jn_c128)
noncomputable def jn_c129_0 : List (Nat × jn_E) := [(0, .inl (jn_iconst 0)), (1, .inl (jn_istore_n 2)), (2, .inl (jn_iload_n 2)), (3, .inl (jn_bipush 6)), (5, .inl (jn_icge 34)), (8, .inl (jn_aload_n 0)), (9, .inl (jn_getf 7 8)), (12, .inl (jn_iload_n 2)), (13, .inl jn_laload), (14, .inl (jn_ldc2 (-100000))), (17, .inl (jn_ldc2 100000)), (20, .inr (.inl (94, 0, 3))), (23, .inl (jn_ifne 28)), (26, .inl (jn_iconst (-1))), (27, .inr (.inr 1)), (28, .inl (jn_iinc 2 1)), (31, .inl (jn_goto 2)), (34, .inl (jn_iconst 0)), (35, .inl (jn_istore_n 2)), (36, .inl (jn_iconst 0)), (37, .inl (jn_istore_n 3)), (38, .inl (jn_iload_n 3)), (39, .inl (jn_bipush 6)), (41, .inl (jn_icge 98))]
noncomputable def jn_c129_1 : List (Nat × jn_E) := [(44, .inl (jn_iload_n 2)), (45, .inl (jn_aload_n 0)), (46, .inl (jn_getf 7 5)), (49, .inl (jn_bipush 6)), (51, .inl (jn_iload_n 1)), (52, .inl jn_imul), (53, .inl (jn_iload_n 3)), (54, .inl jn_iadd), (55, .inl jn_iaload), (56, .inl jn_i2l), (57, .inl (jn_aload_n 0)), (58, .inl (jn_getf 7 8)), (61, .inl (jn_iload_n 3)), (62, .inl jn_laload), (63, .inl jn_lcmp), (64, .inl (jn_ifeq 71)), (67, .inl (jn_iconst 1)), (68, .inl (jn_goto 72)), (71, .inl (jn_iconst 0)), (72, .inl jn_iadd), (73, .inl (jn_istore_n 2)), (74, .inl (jn_aload_n 0)), (75, .inl (jn_getf 7 5)), (78, .inl (jn_bipush 6))]
noncomputable def jn_c129_2 : List (Nat × jn_E) := [(80, .inl (jn_iload_n 1)), (81, .inl jn_imul), (82, .inl (jn_iload_n 3)), (83, .inl jn_iadd), (84, .inl (jn_aload_n 0)), (85, .inl (jn_getf 7 8)), (88, .inl (jn_iload_n 3)), (89, .inl jn_laload), (90, .inl jn_l2i), (91, .inl jn_iastore), (92, .inl (jn_iinc 3 1)), (95, .inl (jn_goto 38)), (98, .inl (jn_iload_n 2)), (99, .inr (.inr 1))]
noncomputable def jn_c129 : List (Nat × jn_E) := jn_c129_0 ++ (jn_c129_1 ++ (jn_c129_2))
def jn_mi129 : jn_MI := (RX7, cX7_settles, 4, "settles")
/-- DebtNetModel.settles(I)I -/
noncomputable def jn_me129 : jn_Me := (jn_mi129, yX7_settles, (some .int), jn_c129)
noncomputable def jn_c130_0 : List (Nat × jn_E) := [(0, .inl (jn_aload_n 0)), (1, .inl (jn_iload_n 1)), (2, .inl (jn_iload_n 2)), (3, .inr (.inl (121, 9, 3))), (6, .inl (jn_ifne 16)), (9, .inl (jn_aload_n 0)), (10, .inl (jn_bipush (-3))), (12, .inr (.inl (96, 9, 2))), (15, .inr (.inr 1)), (16, .inl (jn_iload_n 3)), (17, .inl jn_i2l), (18, .inl (jn_ldc2 (-100))), (21, .inl (jn_ldc2 100)), (24, .inr (.inl (94, 0, 3))), (27, .inl (jn_ifne 37)), (30, .inl (jn_aload_n 0)), (31, .inl (jn_bipush (-7))), (33, .inr (.inl (96, 9, 2))), (36, .inr (.inr 1)), (37, .inl (jn_aload_n 0)), (38, .inl (jn_iload_n 1)), (39, .inr (.inl (127, 9, 2))), (42, .inl (jn_aload_n 0)), (43, .inl (jn_aload_n 0))]
noncomputable def jn_c130_1 : List (Nat × jn_E) := [(44, .inl (jn_getf 7 4)), (47, .inl (jn_iload_n 1)), (48, .inl jn_iaload), (49, .inl (jn_iload_n 2)), (50, .inl (jn_iload_n 3)), (51, .inl jn_i2l), (52, .inr (.inl (128, 9, 4))), (55, .inl (jn_aload_n 0)), (56, .inl (jn_iload_n 1)), (57, .inr (.inl (129, 9, 2))), (60, .inl (jn_ifge 72)), (63, .inl (jn_aload_n 0)), (64, .inl (jn_bipush (-8))), (66, .inr (.inl (96, 9, 2))), (69, .inl (jn_goto 83)), (72, .inl (jn_aload_n 0)), (73, .inl (jn_getf 7 5)), (76, .inl (jn_bipush 6)), (78, .inl (jn_iload_n 1)), (79, .inl jn_imul), (80, .inl (jn_iload_n 2)), (81, .inl jn_iadd), (82, .inl jn_iaload), (83, .inr (.inr 1))]
noncomputable def jn_c130 : List (Nat × jn_E) := jn_c130_0 ++ (jn_c130_1)
def jn_mi130 : jn_MI := (RX7, cX7_lend, 4, "lend")
/-- DebtNetModel.lend(III)I -/
noncomputable def jn_me130 : jn_Me := (jn_mi130, yX7_lend, (some .int), jn_c130)
noncomputable def jn_c131_0 : List (Nat × jn_E) := [(0, .inl (jn_aload_n 0)), (1, .inl (jn_iload_n 1)), (2, .inr (.inl (99, 9, 2))), (5, .inl (jn_ifeq 29)), (8, .inl (jn_iload_n 2)), (9, .inl (jn_iflt 29)), (12, .inl (jn_iload_n 2)), (13, .inl (jn_iconst 1)), (14, .inl (jn_aload_n 0)), (15, .inl (jn_getf 7 0)), (18, .inl (jn_aload_n 0)), (19, .inl (jn_getf 7 4)), (22, .inl (jn_iload_n 1)), (23, .inl jn_iaload), (24, .inl jn_iaload), (25, .inl jn_ishl), (26, .inl (jn_iclt 36)), (29, .inl (jn_aload_n 0)), (30, .inl (jn_bipush (-3))), (32, .inr (.inl (95, 9, 2))), (35, .inr (.inr 1)), (36, .inl (jn_aload_n 0)), (37, .inl (jn_iload_n 1)), (38, .inr (.inl (127, 9, 2)))]
noncomputable def jn_c131_1 : List (Nat × jn_E) := [(41, .inl (jn_iconst 0)), (42, .inl (jn_istore_n 3)), (43, .inl (jn_iload_n 3)), (44, .inl (jn_bipush 6)), (46, .inl (jn_icge 76)), (49, .inl (jn_iload_n 2)), (50, .inl (jn_iload_n 3)), (51, .inl jn_ishr), (52, .inl (jn_iconst 1)), (53, .inl jn_iand), (54, .inl (jn_iconst 1)), (55, .inl (jn_icne 70)), (58, .inl (jn_aload_n 0)), (59, .inl (jn_aload_n 0)), (60, .inl (jn_getf 7 4)), (63, .inl (jn_iload_n 1)), (64, .inl jn_iaload), (65, .inl (jn_iload_n 3)), (66, .inl (jn_lconst 1)), (67, .inr (.inl (128, 9, 4))), (70, .inl (jn_iinc 3 1)), (73, .inl (jn_goto 43)), (76, .inl (jn_aload_n 0)), (77, .inl (jn_iload_n 1))]
noncomputable def jn_c131_2 : List (Nat × jn_E) := [(78, .inr (.inl (129, 9, 2))), (81, .inl (jn_istore_n 3)), (82, .inl (jn_iload_n 3)), (83, .inl (jn_ifge 95)), (86, .inl (jn_aload_n 0)), (87, .inl (jn_bipush (-8))), (89, .inr (.inl (95, 9, 2))), (92, .inl (jn_goto 96)), (95, .inl (jn_iload_n 3)), (96, .inr (.inr 1))]
noncomputable def jn_c131 : List (Nat × jn_E) := jn_c131_0 ++ (jn_c131_1 ++ (jn_c131_2))
def jn_mi131 : jn_MI := (RX7, cX7_lendAll, 4, "lendAll")
/-- DebtNetModel.lendAll(II)I -/
noncomputable def jn_me131 : jn_Me := (jn_mi131, yX7_lendAll, (some .int), jn_c131)
noncomputable def jn_c132_0 : List (Nat × jn_E) := [(0, .inl (jn_iconst 0)), (1, .inl (jn_istore_n 2)), (2, .inl (jn_iload_n 2)), (3, .inl (jn_bipush 6)), (5, .inl (jn_icge 39)), (8, .inl (jn_aload_n 0)), (9, .inl (jn_getf 7 8)), (12, .inl (jn_iload_n 2)), (13, .inl jn_laload), (14, .inl (jn_ldc2 (-100000))), (17, .inl (jn_ldc2 100000)), (20, .inr (.inl (94, 0, 3))), (23, .inl (jn_ifne 33)), (26, .inl (jn_aload_n 0)), (27, .inl (jn_bipush (-8))), (29, .inr (.inl (95, 9, 2))), (32, .inr (.inr 1)), (33, .inl (jn_iinc 2 1)), (36, .inl (jn_goto 2)), (39, .inl (jn_aload_n 0)), (40, .inl (jn_iload_n 1)), (41, .inr (.inl (120, 9, 2))), (44, .inl (jn_istore_n 2)), (45, .inl (jn_iconst 0))]
noncomputable def jn_c132_1 : List (Nat × jn_E) := [(46, .inl (jn_istore_n 3)), (47, .inl (jn_iload_n 3)), (48, .inl (jn_bipush 6)), (50, .inl (jn_icge 81)), (53, .inl (jn_iload_n 2)), (54, .inl (jn_iflt 81)), (57, .inl (jn_aload_n 0)), (58, .inl (jn_getf 7 5)), (61, .inl (jn_bipush 6)), (63, .inl (jn_iload_n 2)), (64, .inl jn_imul), (65, .inl (jn_iload_n 3)), (66, .inl jn_iadd), (67, .inl (jn_aload_n 0)), (68, .inl (jn_getf 7 8)), (71, .inl (jn_iload_n 3)), (72, .inl jn_laload), (73, .inl jn_l2i), (74, .inl jn_iastore), (75, .inl (jn_iinc 3 1)), (78, .inl (jn_goto 47)), (81, .inl (jn_iload_n 2)), (82, .inr (.inr 1))]
noncomputable def jn_c132 : List (Nat × jn_E) := jn_c132_0 ++ (jn_c132_1)
def jn_mi132 : jn_MI := (RX7, cX7_comes, 4, "comes")
/-- DebtNetModel.comes(I)I -/
noncomputable def jn_me132 : jn_Me := (jn_mi132, yX7_comes, (some .int), jn_c132)
noncomputable def jn_c133_0 : List (Nat × jn_E) := [(0, .inl (jn_aload_n 0)), (1, .inl (jn_iload_n 1)), (2, .inr (.inl (97, 9, 2))), (5, .inl (jn_ifne 15)), (8, .inl (jn_aload_n 0)), (9, .inl (jn_bipush (-3))), (11, .inr (.inl (95, 9, 2))), (14, .inr (.inr 1)), (15, .inl (jn_iconst 0)), (16, .inl (jn_istore_n 2)), (17, .inl (jn_iload_n 2)), (18, .inl (jn_bipush 6)), (20, .inl (jn_icge 58)), (23, .inl (jn_aload_n 0)), (24, .inl (jn_getf 7 8)), (27, .inl (jn_iload_n 2)), (28, .inl (jn_iload_n 2)), (29, .inl (jn_aload_n 0)), (30, .inl (jn_getf 7 0)), (33, .inl (jn_iload_n 1)), (34, .inl jn_iaload), (35, .inl (jn_icge 50)), (38, .inl (jn_aload_n 0)), (39, .inl (jn_iload_n 1))]
noncomputable def jn_c133_1 : List (Nat × jn_E) := [(40, .inl (jn_iload_n 2)), (41, .inr (.inl (103, 9, 3))), (44, .inl (jn_iconst 2)), (45, .inl jn_isub), (46, .inl jn_i2l), (47, .inl (jn_goto 51)), (50, .inl (jn_lconst 0)), (51, .inl jn_lastore), (52, .inl (jn_iinc 2 1)), (55, .inl (jn_goto 17)), (58, .inl (jn_aload_n 0)), (59, .inl (jn_iload_n 1)), (60, .inr (.inl (132, 9, 2))), (63, .inr (.inr 1))]
noncomputable def jn_c133 : List (Nat × jn_E) := jn_c133_0 ++ (jn_c133_1)
def jn_mi133 : jn_MI := (RX7, cX7_own, 3, "own")
/-- DebtNetModel.own(I)I -/
noncomputable def jn_me133 : jn_Me := (jn_mi133, yX7_own, (some .int), jn_c133)
noncomputable def jn_c134_0 : List (Nat × jn_E) := [(0, .inl (jn_aload_n 0)), (1, .inl (jn_iload_n 1)), (2, .inr (.inl (99, 9, 2))), (5, .inl (jn_ifeq 16)), (8, .inl (jn_aload_n 0)), (9, .inl (jn_iload_n 2)), (10, .inr (.inl (99, 9, 2))), (13, .inl (jn_ifne 23)), (16, .inl (jn_aload_n 0)), (17, .inl (jn_bipush (-3))), (19, .inr (.inl (95, 9, 2))), (22, .inr (.inr 1)), (23, .inl (jn_aload_n 0)), (24, .inl (jn_getf 7 4)), (27, .inl (jn_iload_n 1)), (28, .inl jn_iaload), (29, .inl (jn_aload_n 0)), (30, .inl (jn_getf 7 4)), (33, .inl (jn_iload_n 2)), (34, .inl jn_iaload), (35, .inl (jn_iceq 45)), (38, .inl (jn_aload_n 0)), (39, .inl (jn_bipush (-7))), (41, .inr (.inl (95, 9, 2)))]
noncomputable def jn_c134_1 : List (Nat × jn_E) := [(44, .inr (.inr 1)), (45, .inl (jn_iconst 0)), (46, .inl (jn_istore 4)), (48, .inl (jn_iload 4)), (50, .inl (jn_bipush 6)), (52, .inl (jn_icge 107)), (55, .inl (jn_aload_n 0)), (56, .inl (jn_getf 7 8)), (59, .inl (jn_iload 4)), (61, .inl (jn_aload_n 0)), (62, .inl (jn_getf 7 5)), (65, .inl (jn_bipush 6)), (67, .inl (jn_iload_n 1)), (68, .inl jn_imul), (69, .inl (jn_iload 4)), (71, .inl jn_iadd), (72, .inl jn_iaload), (73, .inl jn_i2l), (74, .inl (jn_iload_n 3)), (75, .inl (jn_ifeq 84)), (78, .inl (jn_ldc2 (-1))), (81, .inl (jn_goto 85)), (84, .inl (jn_lconst 1)), (85, .inl (jn_aload_n 0))]
noncomputable def jn_c134_2 : List (Nat × jn_E) := [(86, .inl (jn_getf 7 5)), (89, .inl (jn_bipush 6)), (91, .inl (jn_iload_n 2)), (92, .inl jn_imul), (93, .inl (jn_iload 4)), (95, .inl jn_iadd), (96, .inl jn_iaload), (97, .inl jn_i2l), (98, .inl jn_lmul), (99, .inl jn_ladd), (100, .inl jn_lastore), (101, .inl (jn_iinc 4 1)), (104, .inl (jn_goto 48)), (107, .inl (jn_aload_n 0)), (108, .inl (jn_aload_n 0)), (109, .inl (jn_getf 7 4)), (112, .inl (jn_iload_n 1)), (113, .inl jn_iaload), (114, .inr (.inl (132, 9, 2))), (117, .inr (.inr 1))]
noncomputable def jn_c134 : List (Nat × jn_E) := jn_c134_0 ++ (jn_c134_1 ++ (jn_c134_2))
def jn_mi134 : jn_MI := (RX7, cX7_sum, 5, "sum")
/-- DebtNetModel.sum(IIZ)I -/
noncomputable def jn_me134 : jn_Me := (jn_mi134, yX7_sum, (some .int), jn_c134)
noncomputable def jn_c135_0 : List (Nat × jn_E) := [(0, .inl (jn_aload_n 0)), (1, .inl (jn_getf 7 3)), (4, .inl (jn_ifne 14)), (7, .inl (jn_aload_n 0)), (8, .inl (jn_bipush (-2))), (10, .inr (.inl (95, 9, 2))), (13, .inr (.inr 1)), (14, .inl (jn_aload_n 0)), (15, .inl jn_dup), (16, .inl (jn_getf 7 3)), (19, .inl (jn_iconst 1)), (20, .inl jn_isub), (21, .inl (jn_putf 7 3 0)), (24, .inl (jn_aload_n 0)), (25, .inl (jn_getf 7 3)), (28, .inr (.inr 1))]
noncomputable def jn_c135 : List (Nat × jn_E) := jn_c135_0
def jn_mi135 : jn_MI := (RX7, cX7_drop, 1, "drop")
/-- DebtNetModel.drop()I -/
noncomputable def jn_me135 : jn_Me := (jn_mi135, yX7_drop, (some .int), jn_c135)
noncomputable def jn_c136_0 : List (Nat × jn_E) := [(0, .inl (jn_aload_n 0)), (1, .inl (jn_iload_n 1)), (2, .inl (jn_iload_n 2)), (3, .inr (.inl (121, 9, 3))), (6, .inl (jn_ifne 16)), (9, .inl (jn_aload_n 0)), (10, .inl (jn_bipush (-3))), (12, .inr (.inl (95, 9, 2))), (15, .inr (.inr 1)), (16, .inl (jn_aload_n 0)), (17, .inl (jn_getf 7 4)), (20, .inl (jn_iload_n 1)), (21, .inl jn_iaload), (22, .inl (jn_istore_n 3)), (23, .inl (jn_iconst 1)), (24, .inl (jn_iload_n 2)), (25, .inl jn_ishl), (26, .inl (jn_istore 4)), (28, .inl (jn_iconst 0)), (29, .inl (jn_istore 5)), (31, .inl (jn_iload 5)), (33, .inl (jn_bipush 6)), (35, .inl (jn_icge 146)), (38, .inl (jn_iconst 0))]
noncomputable def jn_c136_1 : List (Nat × jn_E) := [(39, .inl (jn_istore 6)), (41, .inl (jn_iload 6)), (43, .inl (jn_aload_n 0)), (44, .inl (jn_getf 7 0)), (47, .inl (jn_iload_n 3)), (48, .inl jn_iaload), (49, .inl (jn_icge 140)), (52, .inl (jn_iconst 0)), (53, .inl (jn_istore 7)), (55, .inl (jn_iconst 0)), (56, .inl (jn_istore 8)), (58, .inl (jn_iload 8)), (60, .inl (jn_aload_n 0)), (61, .inl (jn_getf 7 0)), (64, .inl (jn_iload_n 3)), (65, .inl jn_iaload), (66, .inl (jn_icge 108)), (69, .inl (jn_iload 7)), (71, .inl (jn_iload 4)), (73, .inl (jn_iload 8)), (75, .inl jn_ishr), (76, .inl (jn_iconst 1)), (77, .inl jn_iand), (78, .inl (jn_iconst 1))]
noncomputable def jn_c136_2 : List (Nat × jn_E) := [(79, .inl (jn_icne 98)), (82, .inl (jn_aload_n 0)), (83, .inl (jn_getf 7 1)), (86, .inl (jn_iload_n 3)), (87, .inl (jn_iload 6)), (89, .inl (jn_iload 8)), (91, .inr (.inl (100, 0, 3))), (94, .inl jn_iaload), (95, .inl (jn_goto 99)), (98, .inl (jn_iconst 0)), (99, .inl jn_iadd), (100, .inl (jn_istore 7)), (102, .inl (jn_iinc 8 1)), (105, .inl (jn_goto 58)), (108, .inl (jn_iload 7)), (110, .inl (jn_aload_n 0)), (111, .inl (jn_getf 7 5)), (114, .inl (jn_bipush 6)), (116, .inl (jn_iload_n 1)), (117, .inl jn_imul), (118, .inl (jn_iload 6)), (120, .inl jn_iadd), (121, .inl jn_iaload), (122, .inl (jn_icle 134))]
noncomputable def jn_c136_3 : List (Nat × jn_E) := [(125, .inl (jn_iload 4)), (127, .inl (jn_iconst 1)), (128, .inl (jn_iload 6)), (130, .inl jn_ishl), (131, .inl jn_ior), (132, .inl (jn_istore 4)), (134, .inl (jn_iinc 6 1)), (137, .inl (jn_goto 41)), (140, .inl (jn_iinc 5 1)), (143, .inl (jn_goto 31)), (146, .inl (jn_iload 4)), (148, .inr (.inr 1))]
noncomputable def jn_c136 : List (Nat × jn_E) := jn_c136_0 ++ (jn_c136_1 ++ (jn_c136_2 ++ (jn_c136_3)))
def jn_mi136 : jn_MI := (RX7, cX7_burn, 9, "burn")
/-- DebtNetModel.burn(II)I -/
noncomputable def jn_me136 : jn_Me := (jn_mi136, yX7_burn, (some .int), jn_c136)
noncomputable def jn_c137_0 : List (Nat × jn_E) := [(0, .inl (jn_aload_n 0)), (1, .inl (jn_getf 7 0)), (4, .inl (jn_iload_n 1)), (5, .inl jn_iaload), (6, .inl (jn_istore_n 3)), (7, .inl (jn_aload_n 0)), (8, .inl (jn_iload_n 1)), (9, .inl (jn_iload_n 2)), (10, .inr (.inl (138, 9, 3))), (13, .inl (jn_aload_n 0)), (14, .inl (jn_getf 7 12)), (17, .inl (jn_bipush 6)), (19, .inl (jn_iload_n 1)), (20, .inl jn_imul), (21, .inl (jn_iload_n 2)), (22, .inl jn_iadd), (23, .inl jn_laload), (24, .inl (jn_lstore 4)), (26, .inl (jn_iconst 0)), (27, .inl (jn_istore 6)), (29, .inl (jn_iload 6)), (31, .inl (jn_bipush 6)), (33, .inl (jn_icge 50)), (36, .inl (jn_aload_n 0))]
noncomputable def jn_c137_1 : List (Nat × jn_E) := [(37, .inl (jn_getf 7 9)), (40, .inl (jn_iload 6)), (42, .inl (jn_lconst 0)), (43, .inl jn_lastore), (44, .inl (jn_iinc 6 1)), (47, .inl (jn_goto 29)), (50, .inl (jn_iconst 0)), (51, .inl (jn_istore 6)), (53, .inl (jn_iload 6)), (55, .inl (jn_iload_n 3)), (56, .inl (jn_icge 90)), (59, .inl (jn_aload_n 0)), (60, .inl (jn_getf 7 10)), (63, .inl (jn_iload 6)), (65, .inl (jn_iload 6)), (67, .inl (jn_iload_n 2)), (68, .inl (jn_icne 75)), (71, .inl (jn_lconst 0)), (72, .inl (jn_goto 83)), (75, .inl (jn_aload_n 0)), (76, .inl (jn_iload_n 1)), (77, .inl (jn_iload_n 2)), (78, .inl (jn_iload 6)), (80, .inr (.inl (139, 9, 4)))]
noncomputable def jn_c137_2 : List (Nat × jn_E) := [(83, .inl jn_lastore), (84, .inl (jn_iinc 6 1)), (87, .inl (jn_goto 53)), (90, .inl (jn_iconst 0)), (91, .inl (jn_istore 6)), (93, .inl (jn_iload 6)), (95, .inl (jn_iload_n 3)), (96, .inl (jn_icge 157)), (99, .inl (jn_iload 6)), (101, .inl (jn_iload_n 2)), (102, .inl (jn_icne 108)), (105, .inl (jn_goto 151)), (108, .inl (jn_aload_n 0)), (109, .inl (jn_getf 7 10)), (112, .inl (jn_iload 6)), (114, .inl jn_laload), (115, .inl (jn_lload 4)), (117, .inl jn_ldiv), (118, .inl (jn_lstore 7)), (120, .inl (jn_lload 7)), (122, .inl (jn_lload 4)), (124, .inl jn_lmul), (125, .inl (jn_aload_n 0)), (126, .inl (jn_getf 7 10))]
noncomputable def jn_c137_3 : List (Nat × jn_E) := [(129, .inl (jn_iload 6)), (131, .inl jn_laload), (132, .inl jn_lcmp), (133, .inl (jn_ifle 142)), (136, .inl (jn_lload 7)), (138, .inl (jn_lconst 1)), (139, .inl jn_lsub), (140, .inl (jn_lstore 7)), (142, .inl (jn_aload_n 0)), (143, .inl (jn_getf 7 9)), (146, .inl (jn_iload 6)), (148, .inl (jn_lload 7)), (150, .inl jn_lastore), (151, .inl (jn_iinc 6 1)), (154, .inl (jn_goto 93)), (157, .inl (jn_iconst 0)), (158, .inl (jn_istore 6)), (160, .inl (jn_iload 6)), (162, .inl (jn_iload_n 3)), (163, .inl (jn_icge 186)), (166, .inl (jn_aload_n 0)), (167, .inl (jn_iload_n 1)), (168, .inl (jn_iload 6)), (170, .inl (jn_aload_n 0))]
noncomputable def jn_c137_4 : List (Nat × jn_E) := [(171, .inl (jn_getf 7 9)), (174, .inl (jn_iload 6)), (176, .inl jn_laload), (177, .inr (.inl (128, 9, 4))), (180, .inl (jn_iinc 6 1)), (183, .inl (jn_goto 160)), (186, .inl (jn_iconst 1)), (187, .inl (jn_istore 6)), (189, .inl (jn_iload 6)), (191, .inl (jn_ifeq 290)), (194, .inl (jn_iconst 0)), (195, .inl (jn_istore 6)), (197, .inl (jn_iconst 0)), (198, .inl (jn_istore 7)), (200, .inl (jn_iload 7)), (202, .inl (jn_iload_n 3)), (203, .inl (jn_icge 287)), (206, .inl (jn_iload 7)), (208, .inl (jn_iload_n 2)), (209, .inl (jn_iceq 281)), (212, .inl (jn_aload_n 0)), (213, .inl (jn_getf 7 8)), (216, .inl (jn_iload 7)), (218, .inl jn_laload)]
noncomputable def jn_c137_5 : List (Nat × jn_E) := [(219, .inl (jn_lconst 0)), (220, .inl jn_lcmp), (221, .inl (jn_iflt 227)), (224, .inl (jn_goto 281)), (227, .inl (jn_aload_n 0)), (228, .inl (jn_iload_n 1)), (229, .inl (jn_iload 7)), (231, .inr (.inl (103, 9, 3))), (234, .inl (jn_istore 8)), (236, .inl (jn_aload_n 0)), (237, .inl (jn_getf 7 8)), (240, .inl (jn_iload 7)), (242, .inl jn_laload), (243, .inl jn_lneg), (244, .inl (jn_iload 8)), (246, .inl jn_i2l), (247, .inl jn_ladd), (248, .inl (jn_lconst 1)), (249, .inl jn_lsub), (250, .inl (jn_iload 8)), (252, .inl jn_i2l), (253, .inl jn_ldiv), (254, .inl (jn_lstore 9)), (256, .inl (jn_aload_n 0))]
noncomputable def jn_c137_6 : List (Nat × jn_E) := [(257, .inl (jn_iload_n 1)), (258, .inl (jn_iload 7)), (260, .inl (jn_lload 9)), (262, .inl jn_lneg), (263, .inr (.inl (128, 9, 4))), (266, .inl (jn_aload_n 0)), (267, .inl (jn_getf 7 9)), (270, .inl (jn_iload 7)), (272, .inl jn_dup2), (273, .inl jn_laload), (274, .inl (jn_lload 9)), (276, .inl jn_lsub), (277, .inl jn_lastore), (278, .inl (jn_iconst 1)), (279, .inl (jn_istore 6)), (281, .inl (jn_iinc 7 1)), (284, .inl (jn_goto 200)), (287, .inl (jn_goto 189)), (290, .inr (.inr 0))]
noncomputable def jn_c137 : List (Nat × jn_E) := jn_c137_0 ++ (jn_c137_1 ++ (jn_c137_2 ++ (jn_c137_3 ++ (jn_c137_4 ++ (jn_c137_5 ++ (jn_c137_6))))))
def jn_mi137 : jn_MI := (RX7, cX7_reduces, 11, "reduces")
/-- DebtNetModel.reduces(II)V -/
noncomputable def jn_me137 : jn_Me := (jn_mi137, yX7_reduces, none, jn_c137)
noncomputable def jn_c138_0 : List (Nat × jn_E) := [(0, .inl (jn_aload_n 0)), (1, .inl (jn_getf 7 13)), (4, .inl (jn_bipush 6)), (6, .inl (jn_iload_n 1)), (7, .inl jn_imul), (8, .inl (jn_iload_n 2)), (9, .inl jn_iadd), (10, .inl jn_zaload), (11, .inl (jn_ifeq 15)), (14, .inr (.inr 0)), (15, .inl (jn_aload_n 0)), (16, .inl (jn_getf 7 13)), (19, .inl (jn_bipush 6)), (21, .inl (jn_iload_n 1)), (22, .inl jn_imul), (23, .inl (jn_iload_n 2)), (24, .inl jn_iadd), (25, .inl (jn_iconst 1)), (26, .inl jn_zastore), (27, .inl (jn_aload_n 0)), (28, .inl (jn_iload_n 1)), (29, .inl (jn_iload_n 2)), (30, .inr (.inl (113, 9, 3))), (33, .inl (jn_istore_n 3))]
noncomputable def jn_c138_1 : List (Nat × jn_E) := [(34, .inl (jn_aload_n 0)), (35, .inl (jn_getf 7 12)), (38, .inl (jn_bipush 6)), (40, .inl (jn_iload_n 1)), (41, .inl jn_imul), (42, .inl (jn_iload_n 2)), (43, .inl jn_iadd), (44, .inl (jn_aload_n 0)), (45, .inl (jn_iload_n 1)), (46, .inl (jn_iload_n 3)), (47, .inl (jn_iload_n 3)), (48, .inr (.inl (112, 9, 4))), (51, .inl jn_lastore), (52, .inl (jn_iconst 0)), (53, .inl (jn_istore 4)), (55, .inl (jn_iload 4)), (57, .inl (jn_aload_n 0)), (58, .inl (jn_getf 7 0)), (61, .inl (jn_iload_n 1)), (62, .inl jn_iaload), (63, .inl (jn_icge 194)), (66, .inl (jn_iconst 0)), (67, .inl (jn_istore 5)), (69, .inl (jn_iload 5))]
noncomputable def jn_c138_2 : List (Nat × jn_E) := [(71, .inl (jn_aload_n 0)), (72, .inl (jn_getf 7 0)), (75, .inl (jn_iload_n 1)), (76, .inl jn_iaload), (77, .inl (jn_icge 188)), (80, .inl (jn_iload 4)), (82, .inl (jn_iload_n 2)), (83, .inl (jn_iceq 182)), (86, .inl (jn_iload 5)), (88, .inl (jn_iload_n 2)), (89, .inl (jn_icne 95)), (92, .inl (jn_goto 182)), (95, .inl (jn_aload_n 0)), (96, .inl (jn_iload_n 1)), (97, .inl (jn_iload_n 3)), (98, .inl (jn_iconst 1)), (99, .inl (jn_iload 5)), (101, .inl jn_ishl), (102, .inl (jn_iconst (-1))), (103, .inl jn_ixor), (104, .inl jn_iand), (105, .inl (jn_iload_n 3)), (106, .inl (jn_iconst 1)), (107, .inl (jn_iload 4))]
noncomputable def jn_c138_3 : List (Nat × jn_E) := [(109, .inl jn_ishl), (110, .inl (jn_iconst (-1))), (111, .inl jn_ixor), (112, .inl jn_iand), (113, .inr (.inl (112, 9, 4))), (116, .inl (jn_lstore 6)), (118, .inl (jn_iload_n 3)), (119, .inl (jn_iconst 1)), (120, .inl (jn_iload 4)), (122, .inl jn_ishl), (123, .inl (jn_iconst 1)), (124, .inl jn_isub), (125, .inl jn_iand), (126, .inr (.inl (111, 0, 1))), (129, .inl (jn_iload_n 3)), (130, .inl (jn_iconst 1)), (131, .inl (jn_iload 5)), (133, .inl jn_ishl), (134, .inl (jn_iconst 1)), (135, .inl jn_isub), (136, .inl jn_iand), (137, .inr (.inl (111, 0, 1))), (140, .inl jn_iadd), (141, .inl (jn_istore 8))]
noncomputable def jn_c138_4 : List (Nat × jn_E) := [(143, .inl (jn_aload_n 0)), (144, .inl (jn_getf 7 11)), (147, .inl (jn_bipush 36)), (149, .inl (jn_bipush 6)), (151, .inl (jn_iload_n 1)), (152, .inl jn_imul), (153, .inl (jn_iload_n 2)), (154, .inl jn_iadd), (155, .inl jn_imul), (156, .inl (jn_bipush 6)), (158, .inl (jn_iload 4)), (160, .inl jn_imul), (161, .inl jn_iadd), (162, .inl (jn_iload 5)), (164, .inl jn_iadd), (165, .inl (jn_iload 8)), (167, .inl (jn_iconst 2)), (168, .inl jn_irem), (169, .inl (jn_iconst 1)), (170, .inl (jn_icne 179)), (173, .inl (jn_lload 6)), (175, .inl jn_lneg), (176, .inl (jn_goto 181)), (179, .inl (jn_lload 6))]
noncomputable def jn_c138_5 : List (Nat × jn_E) := [(181, .inl jn_lastore), (182, .inl (jn_iinc 5 1)), (185, .inl (jn_goto 69)), (188, .inl (jn_iinc 4 1)), (191, .inl (jn_goto 55)), (194, .inr (.inr 0))]
noncomputable def jn_c138 : List (Nat × jn_E) := jn_c138_0 ++ (jn_c138_1 ++ (jn_c138_2 ++ (jn_c138_3 ++ (jn_c138_4 ++ (jn_c138_5)))))
def jn_mi138 : jn_MI := (RX7, cX7_finds, 9, "finds")
/-- DebtNetModel.finds(II)V -/
noncomputable def jn_me138 : jn_Me := (jn_mi138, yX7_finds, none, jn_c138)
noncomputable def jn_c139_0 : List (Nat × jn_E) := [(0, .inl (jn_lconst 0)), (1, .inl (jn_lstore 4)), (3, .inl (jn_iconst 0)), (4, .inl (jn_istore 6)), (6, .inl (jn_iload 6)), (8, .inl (jn_aload_n 0)), (9, .inl (jn_getf 7 0)), (12, .inl (jn_iload_n 1)), (13, .inl jn_iaload), (14, .inl (jn_icge 64)), (17, .inl (jn_iload 6)), (19, .inl (jn_iload_n 2)), (20, .inl (jn_iceq 58)), (23, .inl (jn_lload 4)), (25, .inl (jn_aload_n 0)), (26, .inl (jn_getf 7 11)), (29, .inl (jn_bipush 36)), (31, .inl (jn_bipush 6)), (33, .inl (jn_iload_n 1)), (34, .inl jn_imul), (35, .inl (jn_iload_n 2)), (36, .inl jn_iadd), (37, .inl jn_imul), (38, .inl (jn_bipush 6))]
noncomputable def jn_c139_1 : List (Nat × jn_E) := [(40, .inl (jn_iload_n 3)), (41, .inl jn_imul), (42, .inl jn_iadd), (43, .inl (jn_iload 6)), (45, .inl jn_iadd), (46, .inl jn_laload), (47, .inl (jn_aload_n 0)), (48, .inl (jn_getf 7 8)), (51, .inl (jn_iload 6)), (53, .inl jn_laload), (54, .inl jn_lmul), (55, .inl jn_ladd), (56, .inl (jn_lstore 4)), (58, .inl (jn_iinc 6 1)), (61, .inl (jn_goto 6)), (64, .inl (jn_lload 4)), (66, .inr (.inr 3))]
noncomputable def jn_c139 : List (Nat × jn_E) := jn_c139_0 ++ (jn_c139_1)
def jn_mi139 : jn_MI := (RX7, cX7_shared, 7, "shared")
/-- DebtNetModel.shared(III)J -/
noncomputable def jn_me139 : jn_Me := (jn_mi139, yX7_shared, (some .long), jn_c139)
noncomputable def jn_c140_0 : List (Nat × jn_E) := [(0, .inl (jn_aload_n 0)), (1, .inl (jn_iload_n 1)), (2, .inl (jn_iload_n 2)), (3, .inr (.inl (121, 9, 3))), (6, .inl (jn_ifne 16)), (9, .inl (jn_aload_n 0)), (10, .inl (jn_bipush (-3))), (12, .inr (.inl (95, 9, 2))), (15, .inr (.inr 1)), (16, .inl (jn_aload_n 0)), (17, .inl (jn_aload_n 0)), (18, .inl (jn_getf 7 4)), (21, .inl (jn_iload_n 1)), (22, .inl jn_iaload), (23, .inr (.inl (106, 9, 2))), (26, .inl (jn_ifne 36)), (29, .inl (jn_aload_n 0)), (30, .inl (jn_bipush (-5))), (32, .inr (.inl (95, 9, 2))), (35, .inr (.inr 1)), (36, .inl (jn_aload_n 0)), (37, .inl (jn_iload_n 1)), (38, .inr (.inl (127, 9, 2))), (41, .inl (jn_aload_n 0))]
noncomputable def jn_c140_1 : List (Nat × jn_E) := [(42, .inl (jn_aload_n 0)), (43, .inl (jn_getf 7 4)), (46, .inl (jn_iload_n 1)), (47, .inl jn_iaload), (48, .inl (jn_iload_n 2)), (49, .inr (.inl (137, 9, 3))), (52, .inl (jn_aload_n 0)), (53, .inl (jn_iload_n 1)), (54, .inr (.inl (129, 9, 2))), (57, .inl (jn_istore_n 3)), (58, .inl (jn_iload_n 3)), (59, .inl (jn_ifge 71)), (62, .inl (jn_aload_n 0)), (63, .inl (jn_bipush (-8))), (65, .inr (.inl (95, 9, 2))), (68, .inl (jn_goto 72)), (71, .inl (jn_iload_n 3)), (72, .inr (.inr 1))]
noncomputable def jn_c140 : List (Nat × jn_E) := jn_c140_0 ++ (jn_c140_1)
def jn_mi140 : jn_MI := (RX7, cX7_reduce, 4, "reduce")
/-- DebtNetModel.reduce(II)I -/
noncomputable def jn_me140 : jn_Me := (jn_mi140, yX7_reduce, (some .int), jn_c140)
noncomputable def jn_c141_0 : List (Nat × jn_E) := [(0, .inl (jn_aload_n 0)), (1, .inl (jn_iload_n 1)), (2, .inr (.inl (127, 9, 2))), (5, .inl (jn_aload_n 0)), (6, .inl (jn_aload_n 0)), (7, .inl (jn_getf 7 4)), (10, .inl (jn_iload_n 1)), (11, .inl jn_iaload), (12, .inl (jn_iconst 0)), (13, .inr (.inl (137, 9, 3))), (16, .inl (jn_iconst 0)), (17, .inl (jn_istore_n 3)), (18, .inl (jn_iload_n 3)), (19, .inl (jn_bipush 6)), (21, .inl (jn_icge 54)), (24, .inl (jn_aload_n 0)), (25, .inl (jn_getf 7 14)), (28, .inl (jn_iload_n 3)), (29, .inl (jn_aload_n 0)), (30, .inl (jn_getf 7 8)), (33, .inl (jn_iload_n 3)), (34, .inl jn_laload), (35, .inl jn_lastore), (36, .inl (jn_aload_n 0))]
noncomputable def jn_c141_1 : List (Nat × jn_E) := [(37, .inl (jn_getf 7 15)), (40, .inl (jn_iload_n 3)), (41, .inl (jn_aload_n 0)), (42, .inl (jn_getf 7 9)), (45, .inl (jn_iload_n 3)), (46, .inl jn_laload), (47, .inl jn_lastore), (48, .inl (jn_iinc 3 1)), (51, .inl (jn_goto 18)), (54, .inl (jn_aload_n 0)), (55, .inl (jn_iload_n 2)), (56, .inr (.inl (127, 9, 2))), (59, .inl (jn_aload_n 0)), (60, .inl (jn_aload_n 0)), (61, .inl (jn_getf 7 4)), (64, .inl (jn_iload_n 1)), (65, .inl jn_iaload), (66, .inl (jn_iconst 0)), (67, .inr (.inl (137, 9, 3))), (70, .inl (jn_iconst 1)), (71, .inl (jn_istore_n 3)), (72, .inl (jn_iconst 0)), (73, .inl (jn_istore 4)), (75, .inl (jn_iload 4))]
noncomputable def jn_c141_2 : List (Nat × jn_E) := [(77, .inl (jn_bipush 6)), (79, .inl (jn_icge 116)), (82, .inl (jn_iload_n 3)), (83, .inl (jn_ifeq 108)), (86, .inl (jn_aload_n 0)), (87, .inl (jn_getf 7 14)), (90, .inl (jn_iload 4)), (92, .inl jn_laload), (93, .inl (jn_aload_n 0)), (94, .inl (jn_getf 7 8)), (97, .inl (jn_iload 4)), (99, .inl jn_laload), (100, .inl jn_lcmp), (101, .inl (jn_ifne 108)), (104, .inl (jn_iconst 1)), (105, .inl (jn_goto 109)), (108, .inl (jn_iconst 0)), (109, .inl (jn_istore_n 3)), (110, .inl (jn_iinc 4 1)), (113, .inl (jn_goto 75)), (116, .inl (jn_iload_n 3)), (117, .inr (.inr 2))]
noncomputable def jn_c141 : List (Nat × jn_E) := jn_c141_0 ++ (jn_c141_1 ++ (jn_c141_2))
def jn_mi141 : jn_MI := (RX7, cX7_areLike, 5, "areLike")
/-- DebtNetModel.areLike(II)Z -/
noncomputable def jn_me141 : jn_Me := (jn_mi141, yX7_areLike, (some .boolean), jn_c141)
noncomputable def jn_c142_0 : List (Nat × jn_E) := [(0, .inl (jn_aload_n 0)), (1, .inl (jn_iload_n 1)), (2, .inr (.inl (99, 9, 2))), (5, .inl (jn_ifeq 16)), (8, .inl (jn_aload_n 0)), (9, .inl (jn_iload_n 2)), (10, .inr (.inl (99, 9, 2))), (13, .inl (jn_ifne 19)), (16, .inl (jn_bipush (-3))), (18, .inr (.inr 1)), (19, .inl (jn_aload_n 0)), (20, .inl (jn_getf 7 4)), (23, .inl (jn_iload_n 1)), (24, .inl jn_iaload), (25, .inl (jn_aload_n 0)), (26, .inl (jn_getf 7 4)), (29, .inl (jn_iload_n 2)), (30, .inl jn_iaload), (31, .inl (jn_iceq 37)), (34, .inl (jn_bipush (-7))), (36, .inr (.inr 1)), (37, .inl (jn_aload_n 0)), (38, .inl (jn_aload_n 0)), (39, .inl (jn_getf 7 4))]
noncomputable def jn_c142_1 : List (Nat × jn_E) := [(42, .inl (jn_iload_n 1)), (43, .inl jn_iaload), (44, .inr (.inl (106, 9, 2))), (47, .inl (jn_ifeq 54)), (50, .inl (jn_iconst 0)), (51, .inl (jn_goto 56)), (54, .inl (jn_bipush (-5))), (56, .inr (.inr 1))]
noncomputable def jn_c142 : List (Nat × jn_E) := jn_c142_0 ++ (jn_c142_1)
def jn_mi142 : jn_MI := (RX7, cX7_whyNot, 3, "whyNot")
/-- DebtNetModel.whyNot(II)I -/
noncomputable def jn_me142 : jn_Me := (jn_mi142, yX7_whyNot, (some .int), jn_c142)
noncomputable def jn_c143_0 : List (Nat × jn_E) := [(0, .inl (jn_aload_n 0)), (1, .inl (jn_iload_n 1)), (2, .inl (jn_iload_n 2)), (3, .inr (.inl (142, 9, 3))), (6, .inl (jn_istore_n 3)), (7, .inl (jn_iload_n 3)), (8, .inl (jn_ifeq 17)), (11, .inl (jn_aload_n 0)), (12, .inl (jn_iload_n 3)), (13, .inr (.inl (95, 9, 2))), (16, .inr (.inr 1)), (17, .inl (jn_aload_n 0)), (18, .inl (jn_iload_n 1)), (19, .inl (jn_iload_n 2)), (20, .inr (.inl (141, 9, 3))), (23, .inl (jn_ifeq 30)), (26, .inl (jn_iconst 1)), (27, .inl (jn_goto 31)), (30, .inl (jn_iconst 0)), (31, .inr (.inr 1))]
noncomputable def jn_c143 : List (Nat × jn_E) := jn_c143_0
def jn_mi143 : jn_MI := (RX7, cX7_like, 4, "like")
/-- DebtNetModel.like(II)I -/
noncomputable def jn_me143 : jn_Me := (jn_mi143, yX7_like, (some .int), jn_c143)
noncomputable def jn_c144_0 : List (Nat × jn_E) := [(0, .inl (jn_aload_n 0)), (1, .inl (jn_iload_n 1)), (2, .inl (jn_iload_n 2)), (3, .inr (.inl (142, 9, 3))), (6, .inl (jn_istore_n 3)), (7, .inl (jn_iload_n 3)), (8, .inl (jn_ifeq 17)), (11, .inl (jn_aload_n 0)), (12, .inl (jn_iload_n 3)), (13, .inr (.inl (95, 9, 2))), (16, .inr (.inr 1)), (17, .inl (jn_aload_n 0)), (18, .inl (jn_iload_n 1)), (19, .inl (jn_iload_n 2)), (20, .inr (.inl (141, 9, 3))), (23, .inl (jn_ifne 28)), (26, .inl (jn_iconst (-1))), (27, .inr (.inr 1)), (28, .inl (jn_aload_n 0)), (29, .inl (jn_getf 7 0)), (32, .inl (jn_aload_n 0)), (33, .inl (jn_getf 7 4)), (36, .inl (jn_iload_n 1)), (37, .inl jn_iaload)]
noncomputable def jn_c144_1 : List (Nat × jn_E) := [(38, .inl jn_iaload), (39, .inl (jn_istore 4)), (41, .inl (jn_aload_n 0)), (42, .inl (jn_getf 7 15)), (45, .inl (jn_iconst 0)), (46, .inl jn_laload), (47, .inl (jn_aload_n 0)), (48, .inl (jn_getf 7 9)), (51, .inl (jn_iconst 0)), (52, .inl jn_laload), (53, .inl jn_lsub), (54, .inl (jn_lstore 5)), (56, .inl (jn_iconst 1)), (57, .inl (jn_istore 7)), (59, .inl (jn_iload 7)), (61, .inl (jn_iload 4)), (63, .inl (jn_icge 115)), (66, .inl (jn_aload_n 0)), (67, .inl (jn_getf 7 15)), (70, .inl (jn_iload 7)), (72, .inl jn_laload), (73, .inl (jn_aload_n 0)), (74, .inl (jn_getf 7 9)), (77, .inl (jn_iload 7))]
noncomputable def jn_c144_2 : List (Nat × jn_E) := [(79, .inl jn_laload), (80, .inl jn_lsub), (81, .inl (jn_lload 5)), (83, .inl jn_lcmp), (84, .inl (jn_ifge 105)), (87, .inl (jn_aload_n 0)), (88, .inl (jn_getf 7 15)), (91, .inl (jn_iload 7)), (93, .inl jn_laload), (94, .inl (jn_aload_n 0)), (95, .inl (jn_getf 7 9)), (98, .inl (jn_iload 7)), (100, .inl jn_laload), (101, .inl jn_lsub), (102, .inl (jn_goto 107)), (105, .inl (jn_lload 5)), (107, .inl (jn_lstore 5)), (109, .inl (jn_iinc 7 1)), (112, .inl (jn_goto 59)), (115, .inl (jn_aload_n 0)), (116, .inl (jn_iload 4)), (118, .inl (jn_putf 7 21 0)), (121, .inl (jn_iconst 0)), (122, .inl (jn_istore 7))]
noncomputable def jn_c144_3 : List (Nat × jn_E) := [(124, .inl (jn_iload 7)), (126, .inl (jn_iload 4)), (128, .inl (jn_icge 163)), (131, .inl (jn_aload_n 0)), (132, .inl (jn_getf 7 19)), (135, .inl (jn_iload 7)), (137, .inl (jn_aload_n 0)), (138, .inl (jn_getf 7 15)), (141, .inl (jn_iload 7)), (143, .inl jn_laload), (144, .inl (jn_aload_n 0)), (145, .inl (jn_getf 7 9)), (148, .inl (jn_iload 7)), (150, .inl jn_laload), (151, .inl jn_lsub), (152, .inl (jn_lload 5)), (154, .inl jn_lsub), (155, .inl jn_l2i), (156, .inl jn_iastore), (157, .inl (jn_iinc 7 1)), (160, .inl (jn_goto 124)), (163, .inl (jn_iload 4)), (165, .inr (.inr 1))]
noncomputable def jn_c144 : List (Nat × jn_E) := jn_c144_0 ++ (jn_c144_1 ++ (jn_c144_2 ++ (jn_c144_3)))
def jn_mi144 : jn_MI := (RX7, cX7_how, 8, "how")
/-- DebtNetModel.how(II)I -/
noncomputable def jn_me144 : jn_Me := (jn_mi144, yX7_how, (some .int), jn_c144)
noncomputable def jn_c145_0 : List (Nat × jn_E) := [(0, .inl (jn_aload_n 0)), (1, .inl (jn_iload_n 1)), (2, .inl (jn_iconst 0)), (3, .inr (.inl (137, 9, 3))), (6, .inl (jn_aload_n 0)), (7, .inl (jn_getf 7 8)), (10, .inl (jn_iconst 0)), (11, .inl jn_laload), (12, .inl (jn_lconst 0)), (13, .inl jn_lcmp), (14, .inl (jn_iflt 21)), (17, .inl (jn_iconst 1)), (18, .inl (jn_goto 22)), (21, .inl (jn_iconst 0)), (22, .inr (.inr 2))]
noncomputable def jn_c145 : List (Nat × jn_E) := jn_c145_0
def jn_mi145 : jn_MI := (RX7, cX7_isWon, 2, "isWon")
/-- DebtNetModel.isWon(I)Z -/
noncomputable def jn_me145 : jn_Me := (jn_mi145, yX7_isWon, (some .boolean), jn_c145)
noncomputable def jn_c146_0 : List (Nat × jn_E) := [(0, .inl (jn_aload_n 0)), (1, .inl (jn_iload_n 1)), (2, .inr (.inl (99, 9, 2))), (5, .inl (jn_ifne 15)), (8, .inl (jn_aload_n 0)), (9, .inl (jn_bipush (-3))), (11, .inr (.inl (95, 9, 2))), (14, .inr (.inr 1)), (15, .inl (jn_aload_n 0)), (16, .inl (jn_aload_n 0)), (17, .inl (jn_getf 7 4)), (20, .inl (jn_iload_n 1)), (21, .inl jn_iaload), (22, .inr (.inl (106, 9, 2))), (25, .inl (jn_ifne 35)), (28, .inl (jn_aload_n 0)), (29, .inl (jn_bipush (-5))), (31, .inr (.inl (95, 9, 2))), (34, .inr (.inr 1)), (35, .inl (jn_aload_n 0)), (36, .inl (jn_iload_n 1)), (37, .inr (.inl (127, 9, 2))), (40, .inl (jn_aload_n 0)), (41, .inl (jn_aload_n 0))]
noncomputable def jn_c146_1 : List (Nat × jn_E) := [(42, .inl (jn_getf 7 4)), (45, .inl (jn_iload_n 1)), (46, .inl jn_iaload), (47, .inr (.inl (145, 9, 2))), (50, .inl (jn_ifeq 57)), (53, .inl (jn_iconst 1)), (54, .inl (jn_goto 58)), (57, .inl (jn_iconst 0)), (58, .inr (.inr 1))]
noncomputable def jn_c146 : List (Nat × jn_E) := jn_c146_0 ++ (jn_c146_1)
def jn_mi146 : jn_MI := (RX7, cX7_won, 2, "won")
/-- DebtNetModel.won(I)I -/
noncomputable def jn_me146 : jn_Me := (jn_mi146, yX7_won, (some .int), jn_c146)
noncomputable def jn_c147_0 : List (Nat × jn_E) := [(0, .inl (jn_iconst 0)), (1, .inl (jn_istore_n 2)), (2, .inl (jn_iload_n 2)), (3, .inl (jn_bipush 6)), (5, .inl (jn_icge 29)), (8, .inl (jn_aload_n 0)), (9, .inl (jn_getf 7 16)), (12, .inl (jn_iload_n 2)), (13, .inl (jn_iload_n 2)), (14, .inl (jn_ifne 21)), (17, .inl (jn_iload_n 1)), (18, .inl (jn_goto 22)), (21, .inl (jn_iconst 0)), (22, .inl jn_iastore), (23, .inl (jn_iinc 2 1)), (26, .inl (jn_goto 2)), (29, .inr (.inr 0))]
noncomputable def jn_c147 : List (Nat × jn_E) := jn_c147_0
def jn_mi147 : jn_MI := (RX7, cX7_firstGoods, 3, "firstGoods")
/-- DebtNetModel.firstGoods(I)V -/
noncomputable def jn_me147 : jn_Me := (jn_mi147, yX7_firstGoods, none, jn_c147)
noncomputable def jn_c148_0 : List (Nat × jn_E) := [(0, .inl (jn_iload_n 1)), (1, .inl (jn_iconst 2)), (2, .inl jn_isub), (3, .inl (jn_istore_n 2)), (4, .inl (jn_iload_n 2)), (5, .inl (jn_iflt 23)), (8, .inl (jn_aload_n 0)), (9, .inl (jn_getf 7 16)), (12, .inl (jn_iload_n 2)), (13, .inl jn_iaload), (14, .inl (jn_ifne 23)), (17, .inl (jn_iinc 2 (-1))), (20, .inl (jn_goto 4)), (23, .inl (jn_iload_n 2)), (24, .inl (jn_ifge 29)), (27, .inl (jn_iconst 0)), (28, .inr (.inr 2)), (29, .inl (jn_iconst 1)), (30, .inl (jn_istore_n 3)), (31, .inl (jn_iload_n 2)), (32, .inl (jn_iconst 1)), (33, .inl jn_iadd), (34, .inl (jn_istore 4)), (36, .inl (jn_iload 4))]
noncomputable def jn_c148_1 : List (Nat × jn_E) := [(38, .inl (jn_iload_n 1)), (39, .inl (jn_icge 66)), (42, .inl (jn_iload_n 3)), (43, .inl (jn_aload_n 0)), (44, .inl (jn_getf 7 16)), (47, .inl (jn_iload 4)), (49, .inl jn_iaload), (50, .inl jn_iadd), (51, .inl (jn_istore_n 3)), (52, .inl (jn_aload_n 0)), (53, .inl (jn_getf 7 16)), (56, .inl (jn_iload 4)), (58, .inl (jn_iconst 0)), (59, .inl jn_iastore), (60, .inl (jn_iinc 4 1)), (63, .inl (jn_goto 36)), (66, .inl (jn_aload_n 0)), (67, .inl (jn_getf 7 16)), (70, .inl (jn_iload_n 2)), (71, .inl jn_dup2), (72, .inl jn_iaload), (73, .inl (jn_iconst 1)), (74, .inl jn_isub), (75, .inl jn_iastore)]
noncomputable def jn_c148_2 : List (Nat × jn_E) := [(76, .inl (jn_aload_n 0)), (77, .inl (jn_getf 7 16)), (80, .inl (jn_iload_n 2)), (81, .inl (jn_iconst 1)), (82, .inl jn_iadd), (83, .inl (jn_iload_n 3)), (84, .inl jn_iastore), (85, .inl (jn_iconst 1)), (86, .inr (.inr 2))]
noncomputable def jn_c148 : List (Nat × jn_E) := jn_c148_0 ++ (jn_c148_1 ++ (jn_c148_2))
def jn_mi148 : jn_MI := (RX7, cX7_nextGoods, 5, "nextGoods")
/-- DebtNetModel.nextGoods(I)Z -/
noncomputable def jn_me148 : jn_Me := (jn_mi148, yX7_nextGoods, (some .boolean), jn_c148)
noncomputable def jn_c149_0 : List (Nat × jn_E) := [(0, .inl (jn_aload_n 0)), (1, .inl (jn_iload_n 2)), (2, .inr (.inl (147, 9, 2))), (5, .inl (jn_iconst 1)), (6, .inl (jn_istore_n 3)), (7, .inl (jn_iload_n 3)), (8, .inl (jn_ifeq 74)), (11, .inl (jn_iconst 0)), (12, .inl (jn_istore 4)), (14, .inl (jn_iload 4)), (16, .inl (jn_bipush 6)), (18, .inl (jn_icge 50)), (21, .inl (jn_aload_n 0)), (22, .inl (jn_getf 7 8)), (25, .inl (jn_iload 4)), (27, .inl (jn_aload_n 0)), (28, .inl (jn_getf 7 17)), (31, .inl (jn_iload 4)), (33, .inl jn_laload), (34, .inl (jn_aload_n 0)), (35, .inl (jn_getf 7 16)), (38, .inl (jn_iload 4)), (40, .inl jn_iaload), (41, .inl jn_i2l)]
noncomputable def jn_c149_1 : List (Nat × jn_E) := [(42, .inl jn_lsub), (43, .inl jn_lastore), (44, .inl (jn_iinc 4 1)), (47, .inl (jn_goto 14)), (50, .inl (jn_aload_n 0)), (51, .inl (jn_iload_n 1)), (52, .inr (.inl (145, 9, 2))), (55, .inl (jn_ifne 60)), (58, .inl (jn_iconst 0)), (59, .inr (.inr 2)), (60, .inl (jn_aload_n 0)), (61, .inl (jn_aload_n 0)), (62, .inl (jn_getf 7 0)), (65, .inl (jn_iload_n 1)), (66, .inl jn_iaload), (67, .inr (.inl (148, 9, 2))), (70, .inl (jn_istore_n 3)), (71, .inl (jn_goto 7)), (74, .inl (jn_iconst 1)), (75, .inr (.inr 2))]
noncomputable def jn_c149 : List (Nat × jn_E) := jn_c149_0 ++ (jn_c149_1)
def jn_mi149 : jn_MI := (RX7, cX7_holds, 5, "holds")
/-- DebtNetModel.holds(II)Z -/
noncomputable def jn_me149 : jn_Me := (jn_mi149, yX7_holds, (some .boolean), jn_c149)
noncomputable def jn_c150_0 : List (Nat × jn_E) := [(0, .inl (jn_lconst 0)), (1, .inl (jn_lstore_n 2)), (2, .inl (jn_iconst 0)), (3, .inl (jn_istore 4)), (5, .inl (jn_iload 4)), (7, .inl (jn_bipush 6)), (9, .inl (jn_icge 28)), (12, .inl (jn_lload_n 2)), (13, .inl (jn_aload_n 0)), (14, .inl (jn_getf 7 17)), (17, .inl (jn_iload 4)), (19, .inl jn_laload), (20, .inl jn_ladd), (21, .inl (jn_lstore_n 2)), (22, .inl (jn_iinc 4 1)), (25, .inl (jn_goto 5)), (28, .inl (jn_lload_n 2)), (29, .inl (jn_ldc2 2)), (32, .inl (jn_aload_n 0)), (33, .inl (jn_iload_n 1)), (34, .inr (.inl (105, 9, 2))), (37, .inl jn_i2l), (38, .inl jn_lmul), (39, .inl (jn_ldc2 2))]
noncomputable def jn_c150_1 : List (Nat × jn_E) := [(42, .inl jn_lsub), (43, .inl jn_lcmp), (44, .inl (jn_ifle 66)), (47, .inl (jn_lload_n 2)), (48, .inl (jn_lconst 0)), (49, .inl jn_lcmp), (50, .inl (jn_ifge 57)), (53, .inl (jn_iconst (-1))), (54, .inl (jn_goto 65)), (57, .inl (jn_lload_n 2)), (58, .inl jn_l2i), (59, .inl (jn_aload_n 0)), (60, .inl (jn_iload_n 1)), (61, .inr (.inl (105, 9, 2))), (64, .inl jn_isub), (65, .inr (.inr 1)), (66, .inl (jn_iconst (-1))), (67, .inl (jn_istore 4)), (69, .inl (jn_iload 4)), (71, .inl jn_i2l), (72, .inl (jn_lload_n 2)), (73, .inl jn_lcmp), (74, .inl (jn_ifge 95)), (77, .inl (jn_aload_n 0))]
noncomputable def jn_c150_2 : List (Nat × jn_E) := [(78, .inl (jn_iload_n 1)), (79, .inl (jn_iload 4)), (81, .inl (jn_iconst 1)), (82, .inl jn_iadd), (83, .inr (.inl (149, 9, 3))), (86, .inl (jn_ifeq 95)), (89, .inl (jn_iinc 4 1)), (92, .inl (jn_goto 69)), (95, .inl (jn_iload 4)), (97, .inr (.inr 1))]
noncomputable def jn_c150 : List (Nat × jn_E) := jn_c150_0 ++ (jn_c150_1 ++ (jn_c150_2))
def jn_mi150 : jn_MI := (RX7, cX7_rankOf, 5, "rankOf")
/-- DebtNetModel.rankOf(I)I -/
noncomputable def jn_me150 : jn_Me := (jn_mi150, yX7_rankOf, (some .int), jn_c150)
noncomputable def jn_c151_0 : List (Nat × jn_E) := [(0, .inl (jn_iconst 0)), (1, .inl (jn_istore_n 2)), (2, .inl (jn_iload_n 2)), (3, .inl (jn_bipush 6)), (5, .inl (jn_icge 32)), (8, .inl (jn_aload_n 0)), (9, .inl (jn_getf 7 17)), (12, .inl (jn_iload_n 2)), (13, .inl (jn_aload_n 0)), (14, .inl (jn_getf 7 5)), (17, .inl (jn_bipush 6)), (19, .inl (jn_iload_n 1)), (20, .inl jn_imul), (21, .inl (jn_iload_n 2)), (22, .inl jn_iadd), (23, .inl jn_iaload), (24, .inl jn_i2l), (25, .inl jn_lastore), (26, .inl (jn_iinc 2 1)), (29, .inl (jn_goto 2)), (32, .inr (.inr 0))]
noncomputable def jn_c151 : List (Nat × jn_E) := jn_c151_0
def jn_mi151 : jn_MI := (RX7, cX7_bases, 3, "bases")
/-- DebtNetModel.bases(I)V -/
noncomputable def jn_me151 : jn_Me := (jn_mi151, yX7_bases, none, jn_c151)
noncomputable def jn_c152_0 : List (Nat × jn_E) := [(0, .inl (jn_aload_n 0)), (1, .inl (jn_iload_n 1)), (2, .inr (.inl (106, 9, 2))), (5, .inl (jn_ifne 13)), (8, .inl (jn_bipush (-5))), (10, .inl (jn_goto 28)), (13, .inl (jn_aload_n 0)), (14, .inl (jn_iload_n 1)), (15, .inr (.inl (105, 9, 2))), (18, .inl (jn_iconst 4)), (19, .inl (jn_icle 27)), (22, .inl (jn_bipush (-7))), (24, .inl (jn_goto 28)), (27, .inl (jn_iconst 0)), (28, .inr (.inr 1))]
noncomputable def jn_c152 : List (Nat × jn_E) := jn_c152_0
def jn_mi152 : jn_MI := (RX7, cX7_whyRank, 2, "whyRank")
/-- DebtNetModel.whyRank(I)I -/
noncomputable def jn_me152 : jn_Me := (jn_mi152, yX7_whyRank, (some .int), jn_c152)
noncomputable def jn_c153_0 : List (Nat × jn_E) := [(0, .inl (jn_aload_n 0)), (1, .inl (jn_iload_n 1)), (2, .inr (.inl (99, 9, 2))), (5, .inl (jn_ifne 15)), (8, .inl (jn_aload_n 0)), (9, .inl (jn_bipush (-3))), (11, .inr (.inl (95, 9, 2))), (14, .inr (.inr 1)), (15, .inl (jn_aload_n 0)), (16, .inl (jn_aload_n 0)), (17, .inl (jn_getf 7 4)), (20, .inl (jn_iload_n 1)), (21, .inl jn_iaload), (22, .inr (.inl (152, 9, 2))), (25, .inl (jn_istore_n 2)), (26, .inl (jn_iload_n 2)), (27, .inl (jn_ifeq 36)), (30, .inl (jn_aload_n 0)), (31, .inl (jn_iload_n 2)), (32, .inr (.inl (95, 9, 2))), (35, .inr (.inr 1)), (36, .inl (jn_aload_n 0)), (37, .inl (jn_iload_n 1)), (38, .inr (.inl (151, 9, 2)))]
noncomputable def jn_c153_1 : List (Nat × jn_E) := [(41, .inl (jn_aload_n 0)), (42, .inl (jn_aload_n 0)), (43, .inl (jn_getf 7 4)), (46, .inl (jn_iload_n 1)), (47, .inl jn_iaload), (48, .inr (.inl (150, 9, 2))), (51, .inr (.inr 1))]
noncomputable def jn_c153 : List (Nat × jn_E) := jn_c153_0 ++ (jn_c153_1)
def jn_mi153 : jn_MI := (RX7, cX7_rank, 3, "rank")
/-- DebtNetModel.rank(I)I -/
noncomputable def jn_me153 : jn_Me := (jn_mi153, yX7_rank, (some .int), jn_c153)
noncomputable def jn_c154_0 : List (Nat × jn_E) := [(0, .inl (jn_aload_n 0)), (1, .inl (jn_iload_n 1)), (2, .inr (.inl (99, 9, 2))), (5, .inl (jn_ifne 15)), (8, .inl (jn_aload_n 0)), (9, .inl (jn_bipush (-3))), (11, .inr (.inl (95, 9, 2))), (14, .inr (.inr 1)), (15, .inl (jn_aload_n 0)), (16, .inl (jn_getf 7 4)), (19, .inl (jn_iload_n 1)), (20, .inl jn_iaload), (21, .inl (jn_istore_n 2)), (22, .inl (jn_aload_n 0)), (23, .inl (jn_iload_n 2)), (24, .inr (.inl (152, 9, 2))), (27, .inl (jn_istore_n 3)), (28, .inl (jn_iload_n 3)), (29, .inl (jn_ifeq 38)), (32, .inl (jn_aload_n 0)), (33, .inl (jn_iload_n 3)), (34, .inr (.inl (95, 9, 2))), (37, .inr (.inr 1)), (38, .inl (jn_aload_n 0))]
noncomputable def jn_c154_1 : List (Nat × jn_E) := [(39, .inl (jn_iload_n 1)), (40, .inr (.inl (151, 9, 2))), (43, .inl (jn_aload_n 0)), (44, .inl (jn_iload_n 2)), (45, .inr (.inl (150, 9, 2))), (48, .inl (jn_istore 4)), (50, .inl (jn_iload 4)), (52, .inl (jn_bipush 20)), (54, .inl (jn_icle 64)), (57, .inl (jn_aload_n 0)), (58, .inl (jn_bipush (-8))), (60, .inr (.inl (95, 9, 2))), (63, .inr (.inr 1)), (64, .inl (jn_aload_n 0)), (65, .inl (jn_iload_n 2)), (66, .inl (jn_iload 4)), (68, .inl (jn_iconst 1)), (69, .inl jn_iadd), (70, .inr (.inl (149, 9, 3))), (73, .inl (jn_istore 5)), (75, .inl (jn_aload_n 0)), (76, .inl (jn_aload_n 0)), (77, .inl (jn_getf 7 0)), (80, .inl (jn_iload_n 2))]
noncomputable def jn_c154_2 : List (Nat × jn_E) := [(81, .inl jn_iaload), (82, .inl (jn_putf 7 21 0)), (85, .inl (jn_iconst 0)), (86, .inl (jn_istore 6)), (88, .inl (jn_iload 6)), (90, .inl (jn_aload_n 0)), (91, .inl (jn_getf 7 21)), (94, .inl (jn_icge 117)), (97, .inl (jn_aload_n 0)), (98, .inl (jn_getf 7 19)), (101, .inl (jn_iload 6)), (103, .inl (jn_aload_n 0)), (104, .inl (jn_getf 7 16)), (107, .inl (jn_iload 6)), (109, .inl jn_iaload), (110, .inl jn_iastore), (111, .inl (jn_iinc 6 1)), (114, .inl (jn_goto 88)), (117, .inl (jn_iload 4)), (119, .inl (jn_iconst 1)), (120, .inl jn_iadd), (121, .inr (.inr 1))]
noncomputable def jn_c154 : List (Nat × jn_E) := jn_c154_0 ++ (jn_c154_1 ++ (jn_c154_2))
def jn_mi154 : jn_MI := (RX7, cX7_why, 7, "why")
/-- DebtNetModel.why(I)I -/
noncomputable def jn_me154 : jn_Me := (jn_mi154, yX7_why, (some .int), jn_c154)
noncomputable def jn_c155_0 : List (Nat × jn_E) := [(0, .inl (jn_aload_n 0)), (1, .inl (jn_iload_n 2)), (2, .inr (.inl (147, 9, 2))), (5, .inl (jn_iconst 1)), (6, .inl (jn_istore_n 3)), (7, .inl (jn_iload_n 3)), (8, .inl (jn_ifeq 111)), (11, .inl (jn_iconst 0)), (12, .inl (jn_istore 4)), (14, .inl (jn_iload 4)), (16, .inl (jn_bipush 6)), (18, .inl (jn_icge 56)), (21, .inl (jn_aload_n 0)), (22, .inl (jn_getf 7 18)), (25, .inl (jn_iload 4)), (27, .inl (jn_aload_n 0)), (28, .inl (jn_getf 7 16)), (31, .inl (jn_iload 4)), (33, .inl jn_iaload), (34, .inl jn_iastore), (35, .inl (jn_aload_n 0)), (36, .inl (jn_getf 7 17)), (39, .inl (jn_iload 4)), (41, .inl (jn_aload_n 0))]
noncomputable def jn_c155_1 : List (Nat × jn_E) := [(42, .inl (jn_getf 7 16)), (45, .inl (jn_iload 4)), (47, .inl jn_iaload), (48, .inl jn_i2l), (49, .inl jn_lastore), (50, .inl (jn_iinc 4 1)), (53, .inl (jn_goto 14)), (56, .inl (jn_aload_n 0)), (57, .inl (jn_iload_n 1)), (58, .inl (jn_iconst 1)), (59, .inr (.inl (149, 9, 3))), (62, .inl (jn_ifeq 67)), (65, .inl (jn_iconst 1)), (66, .inr (.inr 2)), (67, .inl (jn_iconst 0)), (68, .inl (jn_istore 4)), (70, .inl (jn_iload 4)), (72, .inl (jn_bipush 6)), (74, .inl (jn_icge 97)), (77, .inl (jn_aload_n 0)), (78, .inl (jn_getf 7 16)), (81, .inl (jn_iload 4)), (83, .inl (jn_aload_n 0)), (84, .inl (jn_getf 7 18))]
noncomputable def jn_c155_2 : List (Nat × jn_E) := [(87, .inl (jn_iload 4)), (89, .inl jn_iaload), (90, .inl jn_iastore), (91, .inl (jn_iinc 4 1)), (94, .inl (jn_goto 70)), (97, .inl (jn_aload_n 0)), (98, .inl (jn_aload_n 0)), (99, .inl (jn_getf 7 0)), (102, .inl (jn_iload_n 1)), (103, .inl jn_iaload), (104, .inr (.inl (148, 9, 2))), (107, .inl (jn_istore_n 3)), (108, .inl (jn_goto 7)), (111, .inl (jn_iconst 0)), (112, .inr (.inr 2))]
noncomputable def jn_c155 : List (Nat × jn_E) := jn_c155_0 ++ (jn_c155_1 ++ (jn_c155_2))
def jn_mi155 : jn_MI := (RX7, cX7_isPassed, 5, "isPassed")
/-- DebtNetModel.isPassed(II)Z -/
noncomputable def jn_me155 : jn_Me := (jn_mi155, yX7_isPassed, (some .boolean), jn_c155)
noncomputable def jn_c156_0 : List (Nat × jn_E) := [(0, .inl (jn_aload_n 0)), (1, .inl (jn_iload_n 1)), (2, .inr (.inl (97, 9, 2))), (5, .inl (jn_ifne 15)), (8, .inl (jn_aload_n 0)), (9, .inl (jn_bipush (-3))), (11, .inr (.inl (95, 9, 2))), (14, .inr (.inr 1)), (15, .inl (jn_aload_n 0)), (16, .inl (jn_iload_n 1)), (17, .inr (.inl (152, 9, 2))), (20, .inl (jn_istore_n 2)), (21, .inl (jn_iload_n 2)), (22, .inl (jn_ifeq 31)), (25, .inl (jn_aload_n 0)), (26, .inl (jn_iload_n 2)), (27, .inr (.inl (95, 9, 2))), (30, .inr (.inr 1)), (31, .inl (jn_iconst 1)), (32, .inl (jn_istore_n 3)), (33, .inl (jn_aload_n 0)), (34, .inl (jn_iload_n 1)), (35, .inl (jn_iload_n 3)), (36, .inr (.inl (155, 9, 3)))]
noncomputable def jn_c156_1 : List (Nat × jn_E) := [(39, .inl (jn_ifne 48)), (42, .inl (jn_iinc 3 1)), (45, .inl (jn_goto 33)), (48, .inl (jn_iload_n 3)), (49, .inr (.inr 1))]
noncomputable def jn_c156 : List (Nat × jn_E) := jn_c156_0 ++ (jn_c156_1)
def jn_mi156 : jn_MI := (RX7, cX7_gonality, 4, "gonality")
/-- DebtNetModel.gonality(I)I -/
noncomputable def jn_me156 : jn_Me := (jn_mi156, yX7_gonality, (some .int), jn_c156)
noncomputable def jn_c157_0 : List (Nat × jn_E) := [(0, .inl (jn_aload_n 0)), (1, .inl (jn_iload_n 1)), (2, .inr (.inl (99, 9, 2))), (5, .inl (jn_ifne 16)), (8, .inl (jn_aload_n 0)), (9, .inl (jn_bipush (-3))), (11, .inr (.inl (96, 9, 2))), (14, .inl jn_i2l), (15, .inr (.inr 3)), (16, .inl (jn_aload_n 0)), (17, .inl (jn_getf 7 4)), (20, .inl (jn_iload_n 1)), (21, .inl jn_iaload), (22, .inl (jn_istore_n 2)), (23, .inl (jn_aload_n 0)), (24, .inl (jn_iload_n 2)), (25, .inr (.inl (106, 9, 2))), (28, .inl (jn_ifne 39)), (31, .inl (jn_aload_n 0)), (32, .inl (jn_bipush (-5))), (34, .inr (.inl (96, 9, 2))), (37, .inl jn_i2l), (38, .inr (.inr 3)), (39, .inl (jn_aload_n 0))]
noncomputable def jn_c157_1 : List (Nat × jn_E) := [(40, .inl (jn_iload_n 1)), (41, .inr (.inl (124, 9, 2))), (44, .inl (jn_ifeq 55)), (47, .inl (jn_aload_n 0)), (48, .inl (jn_bipush (-7))), (50, .inr (.inl (96, 9, 2))), (53, .inl jn_i2l), (54, .inr (.inr 3)), (55, .inl (jn_aload_n 0)), (56, .inl (jn_iload_n 1)), (57, .inr (.inl (127, 9, 2))), (60, .inl (jn_aload_n 0)), (61, .inl (jn_iload_n 2)), (62, .inl (jn_iconst 0)), (63, .inr (.inl (138, 9, 3))), (66, .inl (jn_aload_n 0)), (67, .inl (jn_getf 7 12)), (70, .inl (jn_bipush 6)), (72, .inl (jn_iload_n 2)), (73, .inl jn_imul), (74, .inl jn_laload), (75, .inl (jn_lstore_n 3)), (76, .inl (jn_lload_n 3)), (77, .inl (jn_lstore 5))]
noncomputable def jn_c157_2 : List (Nat × jn_E) := [(79, .inl (jn_iconst 1)), (80, .inl (jn_istore 7)), (82, .inl (jn_iload 7)), (84, .inl (jn_aload_n 0)), (85, .inl (jn_getf 7 0)), (88, .inl (jn_iload_n 2)), (89, .inl jn_iaload), (90, .inl (jn_icge 114)), (93, .inl (jn_lload 5)), (95, .inl (jn_aload_n 0)), (96, .inl (jn_iload_n 2)), (97, .inl (jn_iconst 0)), (98, .inl (jn_iload 7)), (100, .inr (.inl (139, 9, 4))), (103, .inr (.inl (116, 0, 2))), (106, .inl (jn_lstore 5)), (108, .inl (jn_iinc 7 1)), (111, .inl (jn_goto 82)), (114, .inl (jn_lload_n 3)), (115, .inl (jn_lload 5)), (117, .inl jn_ldiv), (118, .inr (.inr 3))]
noncomputable def jn_c157 : List (Nat × jn_E) := jn_c157_0 ++ (jn_c157_1 ++ (jn_c157_2))
def jn_mi157 : jn_MI := (RX7, cX7_order, 8, "order")
/-- DebtNetModel.order(I)J -/
noncomputable def jn_me157 : jn_Me := (jn_mi157, yX7_order, (some .long), jn_c157)
noncomputable def jn_c158_0 : List (Nat × jn_E) := [(0, .inl (jn_aload_n 0)), (1, .inl (jn_iload_n 1)), (2, .inl (jn_iload_n 2)), (3, .inr (.inl (121, 9, 3))), (6, .inl (jn_ifne 16)), (9, .inl (jn_aload_n 0)), (10, .inl (jn_bipush (-3))), (12, .inr (.inl (95, 9, 2))), (15, .inr (.inr 1)), (16, .inl (jn_aload_n 0)), (17, .inl (jn_getf 7 4)), (20, .inl (jn_iload_n 1)), (21, .inl jn_iaload), (22, .inl (jn_istore_n 3)), (23, .inl (jn_aload_n 0)), (24, .inl (jn_iload_n 3)), (25, .inr (.inl (106, 9, 2))), (28, .inl (jn_ifne 38)), (31, .inl (jn_aload_n 0)), (32, .inl (jn_bipush (-5))), (34, .inr (.inl (95, 9, 2))), (37, .inr (.inr 1)), (38, .inl (jn_iconst 0)), (39, .inl (jn_istore 4))]
noncomputable def jn_c158_1 : List (Nat × jn_E) := [(41, .inl (jn_iload 4)), (43, .inl (jn_aload_n 0)), (44, .inl (jn_getf 7 0)), (47, .inl (jn_iload_n 3)), (48, .inl jn_iaload), (49, .inl (jn_icge 86)), (52, .inl (jn_iload 4)), (54, .inl (jn_iload_n 2)), (55, .inl (jn_iceq 80)), (58, .inl (jn_aload_n 0)), (59, .inl (jn_getf 7 5)), (62, .inl (jn_bipush 6)), (64, .inl (jn_iload_n 1)), (65, .inl jn_imul), (66, .inl (jn_iload 4)), (68, .inl jn_iadd), (69, .inl jn_iaload), (70, .inl (jn_ifge 80)), (73, .inl (jn_aload_n 0)), (74, .inl (jn_bipush (-7))), (76, .inr (.inl (95, 9, 2))), (79, .inr (.inr 1)), (80, .inl (jn_iinc 4 1)), (83, .inl (jn_goto 41))]
noncomputable def jn_c158_2 : List (Nat × jn_E) := [(86, .inl (jn_aload_n 0)), (87, .inl (jn_iload_n 1)), (88, .inr (.inl (127, 9, 2))), (91, .inl (jn_lconst 0)), (92, .inl (jn_lstore 4)), (94, .inl (jn_iconst 1)), (95, .inl (jn_istore 6)), (97, .inl (jn_iload 6)), (99, .inl (jn_ifeq 210)), (102, .inl (jn_iconst 0)), (103, .inl (jn_istore 6)), (105, .inl (jn_iconst 0)), (106, .inl (jn_istore 7)), (108, .inl (jn_iload 7)), (110, .inl (jn_aload_n 0)), (111, .inl (jn_getf 7 0)), (114, .inl (jn_iload_n 3)), (115, .inl jn_iaload), (116, .inl (jn_icge 194)), (119, .inl (jn_aload_n 0)), (120, .inl (jn_iload_n 3)), (121, .inl (jn_iload 7)), (123, .inr (.inl (103, 9, 3))), (126, .inl (jn_istore 8))]
noncomputable def jn_c158_3 : List (Nat × jn_E) := [(128, .inl (jn_iload 7)), (130, .inl (jn_iload_n 2)), (131, .inl (jn_iceq 188)), (134, .inl (jn_iload 8)), (136, .inl (jn_ifeq 188)), (139, .inl (jn_aload_n 0)), (140, .inl (jn_getf 7 8)), (143, .inl (jn_iload 7)), (145, .inl jn_laload), (146, .inl (jn_iload 8)), (148, .inl jn_i2l), (149, .inl jn_lcmp), (150, .inl (jn_ifge 156)), (153, .inl (jn_goto 188)), (156, .inl (jn_aload_n 0)), (157, .inl (jn_getf 7 8)), (160, .inl (jn_iload 7)), (162, .inl jn_laload), (163, .inl (jn_iload 8)), (165, .inl jn_i2l), (166, .inl jn_ldiv), (167, .inl (jn_lstore 9)), (169, .inl (jn_aload_n 0)), (170, .inl (jn_iload_n 3))]
noncomputable def jn_c158_4 : List (Nat × jn_E) := [(171, .inl (jn_iload 7)), (173, .inl (jn_lload 9)), (175, .inr (.inl (128, 9, 4))), (178, .inl (jn_lload 4)), (180, .inl (jn_lload 9)), (182, .inl jn_ladd), (183, .inl (jn_lstore 4)), (185, .inl (jn_iconst 1)), (186, .inl (jn_istore 6)), (188, .inl (jn_iinc 7 1)), (191, .inl (jn_goto 108)), (194, .inl (jn_lload 4)), (196, .inl (jn_ldc2 100000)), (199, .inl jn_lcmp), (200, .inl (jn_ifle 97)), (203, .inl (jn_aload_n 0)), (204, .inl (jn_bipush (-9))), (206, .inr (.inl (95, 9, 2))), (209, .inr (.inr 1)), (210, .inl (jn_aload_n 0)), (211, .inl (jn_iload_n 1)), (212, .inr (.inl (129, 9, 2))), (215, .inl (jn_ifge 227)), (218, .inl (jn_aload_n 0))]
noncomputable def jn_c158_5 : List (Nat × jn_E) := [(219, .inl (jn_bipush (-8))), (221, .inr (.inl (95, 9, 2))), (224, .inl (jn_goto 230)), (227, .inl (jn_lload 4)), (229, .inl jn_l2i), (230, .inr (.inr 1))]
noncomputable def jn_c158 : List (Nat × jn_E) := jn_c158_0 ++ (jn_c158_1 ++ (jn_c158_2 ++ (jn_c158_3 ++ (jn_c158_4 ++ (jn_c158_5)))))
def jn_mi158 : jn_MI := (RX7, cX7_fall, 11, "fall")
/-- DebtNetModel.fall(II)I -/
noncomputable def jn_me158 : jn_Me := (jn_mi158, yX7_fall, (some .int), jn_c158)
noncomputable def jn_c159_0 : List (Nat × jn_E) := [(0, .inl (jn_aload_n 0)), (1, .inl (jn_iload_n 1)), (2, .inr (.inl (99, 9, 2))), (5, .inl (jn_ifeq 16)), (8, .inl (jn_aload_n 0)), (9, .inl (jn_iload_n 2)), (10, .inr (.inl (99, 9, 2))), (13, .inl (jn_ifne 23)), (16, .inl (jn_aload_n 0)), (17, .inl (jn_bipush (-3))), (19, .inr (.inl (95, 9, 2))), (22, .inr (.inr 1)), (23, .inl (jn_aload_n 0)), (24, .inl (jn_getf 7 4)), (27, .inl (jn_iload_n 1)), (28, .inl jn_iaload), (29, .inl (jn_aload_n 0)), (30, .inl (jn_getf 7 4)), (33, .inl (jn_iload_n 2)), (34, .inl jn_iaload), (35, .inl (jn_iceq 45)), (38, .inl (jn_aload_n 0)), (39, .inl (jn_bipush (-7))), (41, .inr (.inl (95, 9, 2)))]
noncomputable def jn_c159_1 : List (Nat × jn_E) := [(44, .inr (.inr 1)), (45, .inl (jn_iconst 1)), (46, .inl (jn_istore_n 3)), (47, .inl (jn_iconst 0)), (48, .inl (jn_istore 4)), (50, .inl (jn_iload 4)), (52, .inl (jn_bipush 6)), (54, .inl (jn_icge 100)), (57, .inl (jn_iload_n 3)), (58, .inl (jn_ifeq 92)), (61, .inl (jn_aload_n 0)), (62, .inl (jn_getf 7 5)), (65, .inl (jn_bipush 6)), (67, .inl (jn_iload_n 1)), (68, .inl jn_imul), (69, .inl (jn_iload 4)), (71, .inl jn_iadd), (72, .inl jn_iaload), (73, .inl (jn_aload_n 0)), (74, .inl (jn_getf 7 5)), (77, .inl (jn_bipush 6)), (79, .inl (jn_iload_n 2)), (80, .inl jn_imul), (81, .inl (jn_iload 4))]
noncomputable def jn_c159_2 : List (Nat × jn_E) := [(83, .inl jn_iadd), (84, .inl jn_iaload), (85, .inl (jn_icne 92)), (88, .inl (jn_iconst 1)), (89, .inl (jn_goto 93)), (92, .inl (jn_iconst 0)), (93, .inl (jn_istore_n 3)), (94, .inl (jn_iinc 4 1)), (97, .inl (jn_goto 50)), (100, .inl (jn_iload_n 3)), (101, .inl (jn_ifeq 108)), (104, .inl (jn_iconst 1)), (105, .inl (jn_goto 109)), (108, .inl (jn_iconst 0)), (109, .inr (.inr 1))]
noncomputable def jn_c159 : List (Nat × jn_E) := jn_c159_0 ++ (jn_c159_1 ++ (jn_c159_2))
def jn_mi159 : jn_MI := (RX7, cX7_same, 5, "same")
/-- DebtNetModel.same(II)I -/
noncomputable def jn_me159 : jn_Me := (jn_mi159, yX7_same, (some .int), jn_c159)
noncomputable def jn_c160_0 : List (Nat × jn_E) := [(0, .inl (jn_iload_n 1)), (1, .inl (jn_ifne 11)), (4, .inl (jn_aload_n 0)), (5, .inl (jn_getf 7 2)), (8, .inl (jn_goto 29)), (11, .inl (jn_iload_n 1)), (12, .inl (jn_iconst 1)), (13, .inl (jn_icne 23)), (16, .inl (jn_aload_n 0)), (17, .inl (jn_getf 7 3)), (20, .inl (jn_goto 29)), (23, .inl (jn_aload_n 0)), (24, .inl (jn_bipush (-7))), (26, .inr (.inl (95, 9, 2))), (29, .inr (.inr 1))]
noncomputable def jn_c160 : List (Nat × jn_E) := jn_c160_0
def jn_mi160 : jn_MI := (RX7, cX7_count, 2, "count")
/-- DebtNetModel.count(I)I -/
noncomputable def jn_me160 : jn_Me := (jn_mi160, yX7_count, (some .int), jn_c160)
noncomputable def jn_c161_0 : List (Nat × jn_E) := [(0, .inl (jn_aload_n 0)), (1, .inl (jn_iload_n 1)), (2, .inl (jn_iload_n 2)), (3, .inr (.inl (98, 9, 3))), (6, .inl (jn_ifne 16)), (9, .inl (jn_aload_n 0)), (10, .inl (jn_bipush (-3))), (12, .inr (.inl (95, 9, 2))), (15, .inr (.inr 1)), (16, .inl (jn_aload_n 0)), (17, .inl (jn_aload_n 0)), (18, .inl (jn_getf 7 0)), (21, .inl (jn_iload_n 1)), (22, .inl jn_iaload), (23, .inl (jn_putf 7 21 0)), (26, .inl (jn_iconst 0)), (27, .inl (jn_istore_n 3)), (28, .inl (jn_iload_n 3)), (29, .inl (jn_aload_n 0)), (30, .inl (jn_getf 7 21)), (33, .inl (jn_icge 59)), (36, .inl (jn_aload_n 0)), (37, .inl (jn_getf 7 19)), (40, .inl (jn_iload_n 3))]
noncomputable def jn_c161_1 : List (Nat × jn_E) := [(41, .inl (jn_aload_n 0)), (42, .inl (jn_getf 7 1)), (45, .inl (jn_iload_n 1)), (46, .inl (jn_iload_n 2)), (47, .inl (jn_iload_n 3)), (48, .inr (.inl (100, 0, 3))), (51, .inl jn_iaload), (52, .inl jn_iastore), (53, .inl (jn_iinc 3 1)), (56, .inl (jn_goto 28)), (59, .inl (jn_aload_n 0)), (60, .inl (jn_getf 7 21)), (63, .inr (.inr 1))]
noncomputable def jn_c161 : List (Nat × jn_E) := jn_c161_0 ++ (jn_c161_1)
def jn_mi161 : jn_MI := (RX7, cX7_lay, 4, "lay")
/-- DebtNetModel.lay(II)I -/
noncomputable def jn_me161 : jn_Me := (jn_mi161, yX7_lay, (some .int), jn_c161)
noncomputable def jn_c162_0 : List (Nat × jn_E) := [(0, .inl (jn_aload_n 0)), (1, .inl (jn_getf 7 21)), (4, .inl (jn_iflt 11)), (7, .inl (jn_iconst 1)), (8, .inl (jn_goto 12)), (11, .inl (jn_iconst 0)), (12, .inl (jn_istore_n 1)), (13, .inl (jn_aload_n 0)), (14, .inl (jn_iconst (-1))), (15, .inl (jn_putf 7 21 0)), (18, .inl (jn_iload_n 1)), (19, .inr (.inr 1))]
noncomputable def jn_c162 : List (Nat × jn_E) := jn_c162_0
def jn_mi162 : jn_MI := (RX7, cX7_tear, 2, "tear")
/-- DebtNetModel.tear()I -/
noncomputable def jn_me162 : jn_Me := (jn_mi162, yX7_tear, (some .int), jn_c162)
noncomputable def jn_c163_0 : List (Nat × jn_E) := [(0, .inl (jn_aload_n 0)), (1, .inl (jn_getf 7 21)), (4, .inl (jn_ifge 14)), (7, .inl (jn_aload_n 0)), (8, .inl (jn_bipush (-2))), (10, .inr (.inl (96, 9, 2))), (13, .inr (.inr 1)), (14, .inl (jn_iload_n 1)), (15, .inl jn_i2l), (16, .inl (jn_lconst 0)), (17, .inl (jn_aload_n 0)), (18, .inl (jn_getf 7 21)), (21, .inl (jn_iconst 1)), (22, .inl jn_isub), (23, .inl jn_i2l), (24, .inr (.inl (94, 0, 3))), (27, .inl (jn_ifeq 39)), (30, .inl (jn_aload_n 0)), (31, .inl (jn_getf 7 19)), (34, .inl (jn_iload_n 1)), (35, .inl jn_iaload), (36, .inl (jn_goto 45)), (39, .inl (jn_aload_n 0)), (40, .inl (jn_bipush (-3)))]
noncomputable def jn_c163_1 : List (Nat × jn_E) := [(42, .inr (.inl (96, 9, 2))), (45, .inr (.inr 1))]
noncomputable def jn_c163 : List (Nat × jn_E) := jn_c163_0 ++ (jn_c163_1)
def jn_mi163 : jn_MI := (RX7, cX7_row, 2, "row")
/-- DebtNetModel.row(I)I -/
noncomputable def jn_me163 : jn_Me := (jn_mi163, yX7_row, (some .int), jn_c163)
noncomputable def jn_c164_0 : List (Nat × jn_E) := [(0, .inl (jn_aload_n 0)), (1, .inl (jn_getf 7 21)), (4, .inl (jn_ifge 14)), (7, .inl (jn_aload_n 0)), (8, .inl (jn_bipush (-2))), (10, .inr (.inl (95, 9, 2))), (13, .inr (.inr 1)), (14, .inl (jn_iload_n 3)), (15, .inl (jn_ifge 25)), (18, .inl (jn_aload_n 0)), (19, .inl (jn_bipush (-4))), (21, .inr (.inl (95, 9, 2))), (24, .inr (.inr 1)), (25, .inl (jn_iload_n 1)), (26, .inl (jn_iflt 61)), (29, .inl (jn_iload_n 2)), (30, .inl (jn_iflt 61)), (33, .inl (jn_iload_n 1)), (34, .inl jn_i2l), (35, .inl (jn_iload_n 3)), (36, .inl jn_i2l), (37, .inl jn_ladd), (38, .inl (jn_aload_n 0)), (39, .inl (jn_getf 7 21))]
noncomputable def jn_c164_1 : List (Nat × jn_E) := [(42, .inl jn_i2l), (43, .inl jn_lcmp), (44, .inl (jn_ifgt 61)), (47, .inl (jn_iload_n 2)), (48, .inl jn_i2l), (49, .inl (jn_iload_n 3)), (50, .inl jn_i2l), (51, .inl jn_ladd), (52, .inl (jn_aload_n 0)), (53, .inl (jn_getf 7 21)), (56, .inl jn_i2l), (57, .inl jn_lcmp), (58, .inl (jn_ifle 68)), (61, .inl (jn_aload_n 0)), (62, .inl (jn_bipush (-6))), (64, .inr (.inl (95, 9, 2))), (67, .inr (.inr 1)), (68, .inl (jn_iconst 0)), (69, .inl (jn_istore 4)), (71, .inl (jn_iload 4)), (73, .inl (jn_iload_n 3)), (74, .inl (jn_icge 99)), (77, .inl (jn_aload_n 0)), (78, .inl (jn_getf 7 20))]
noncomputable def jn_c164_2 : List (Nat × jn_E) := [(81, .inl (jn_iload 4)), (83, .inl (jn_aload_n 0)), (84, .inl (jn_getf 7 19)), (87, .inl (jn_iload_n 1)), (88, .inl (jn_iload 4)), (90, .inl jn_iadd), (91, .inl jn_iaload), (92, .inl jn_iastore), (93, .inl (jn_iinc 4 1)), (96, .inl (jn_goto 71)), (99, .inl (jn_iconst 0)), (100, .inl (jn_istore 4)), (102, .inl (jn_iload 4)), (104, .inl (jn_iload_n 3)), (105, .inl (jn_icge 130)), (108, .inl (jn_aload_n 0)), (109, .inl (jn_getf 7 19)), (112, .inl (jn_iload_n 2)), (113, .inl (jn_iload 4)), (115, .inl jn_iadd), (116, .inl (jn_aload_n 0)), (117, .inl (jn_getf 7 20)), (120, .inl (jn_iload 4)), (122, .inl jn_iaload)]
noncomputable def jn_c164_3 : List (Nat × jn_E) := [(123, .inl jn_iastore), (124, .inl (jn_iinc 4 1)), (127, .inl (jn_goto 102)), (130, .inl (jn_iload_n 3)), (131, .inr (.inr 1))]
noncomputable def jn_c164 : List (Nat × jn_E) := jn_c164_0 ++ (jn_c164_1 ++ (jn_c164_2 ++ (jn_c164_3)))
def jn_mi164 : jn_MI := (RX7, cX7_copy, 5, "copy")
/-- DebtNetModel.copy(III)I -/
noncomputable def jn_me164 : jn_Me := (jn_mi164, yX7_copy, (some .int), jn_c164)
noncomputable def jn_c165_0 : List (Nat × jn_E) := [(0, .inl (jn_iload_n 1)), (1, .inl jn_i2l), (2, .inl (jn_ldc2 (-9))), (5, .inl (jn_ldc2 (-2))), (8, .inr (.inl (94, 0, 3))), (11, .inl (jn_ifeq 24)), (14, .inl (jn_aload_n 0)), (15, .inl (jn_getf 7 6)), (18, .inl (jn_iload_n 1)), (19, .inl jn_ineg), (20, .inl jn_iaload), (21, .inl (jn_goto 30)), (24, .inl (jn_aload_n 0)), (25, .inl (jn_bipush (-7))), (27, .inr (.inl (95, 9, 2))), (30, .inr (.inr 1))]
noncomputable def jn_c165 : List (Nat × jn_E) := jn_c165_0
def jn_mi165 : jn_MI := (RX7, cX7_status, 2, "status")
/-- DebtNetModel.status(I)I -/
noncomputable def jn_me165 : jn_Me := (jn_mi165, yX7_status, (some .int), jn_c165)
noncomputable def jn_c166_0 : List (Nat × jn_E) := [(0, .inl (jn_iload_n 0)), (1, .inl (jn_iload_n 0)), (2, .inl (jn_iconst 1)), (3, .inl jn_iushr), (4, .inl (jn_ldcw 1431655765)), (7, .inl jn_iand), (8, .inl jn_isub), (9, .inl (jn_istore_n 0)), (10, .inl (jn_iload_n 0)), (11, .inl (jn_ldcw 858993459)), (14, .inl jn_iand), (15, .inl (jn_iload_n 0)), (16, .inl (jn_iconst 2)), (17, .inl jn_iushr), (18, .inl (jn_ldcw 858993459)), (21, .inl jn_iand), (22, .inl jn_iadd), (23, .inl (jn_istore_n 0)), (24, .inl (jn_iload_n 0)), (25, .inl (jn_iload_n 0)), (26, .inl (jn_iconst 4)), (27, .inl jn_iushr), (28, .inl jn_iadd), (29, .inl (jn_ldcw 252645135))]
noncomputable def jn_c166_1 : List (Nat × jn_E) := [(32, .inl jn_iand), (33, .inl (jn_istore_n 0)), (34, .inl (jn_iload_n 0)), (35, .inl (jn_iload_n 0)), (36, .inl (jn_bipush 8)), (38, .inl jn_iushr), (39, .inl jn_iadd), (40, .inl (jn_istore_n 0)), (41, .inl (jn_iload_n 0)), (42, .inl (jn_iload_n 0)), (43, .inl (jn_bipush 16)), (45, .inl jn_iushr), (46, .inl jn_iadd), (47, .inl (jn_istore_n 0)), (48, .inl (jn_iload_n 0)), (49, .inl (jn_bipush 63)), (51, .inl jn_iand), (52, .inr (.inr 1))]
noncomputable def jn_c166 : List (Nat × jn_E) := jn_c166_0 ++ (jn_c166_1)
def jn_mi166 : jn_MI := (RJ6, cJ6_bitCount_0f7a4, 1, "bitCount")
/-- java/lang/Integer.bitCount(I)I -/
noncomputable def jn_me166 : jn_Me := (jn_mi166, yJ6_bitCount_0f7a4, (some .int), jn_c166)
noncomputable def jn_c167_0 : List (Nat × jn_E) := [(0, .inl (jn_iload_n 0)), (1, .inl (jn_iload_n 1)), (2, .inl jn_idiv), (3, .inl (jn_istore_n 2)), (4, .inl (jn_iload_n 0)), (5, .inl (jn_iload_n 1)), (6, .inl jn_ixor), (7, .inl (jn_ifge 21)), (10, .inl (jn_iload_n 2)), (11, .inl (jn_iload_n 1)), (12, .inl jn_imul), (13, .inl (jn_iload_n 0)), (14, .inl (jn_iceq 21)), (17, .inl (jn_iload_n 2)), (18, .inl (jn_iconst 1)), (19, .inl jn_isub), (20, .inr (.inr 1)), (21, .inl (jn_iload_n 2)), (22, .inr (.inr 1))]
noncomputable def jn_c167 : List (Nat × jn_E) := jn_c167_0
def jn_mi167 : jn_MI := (RJ9, cJ9_floorDiv_7cf53, 3, "floorDiv")
/-- java/lang/Math.floorDiv(II)I -/
noncomputable def jn_me167 : jn_Me := (jn_mi167, yJ9_floorDiv_7cf53, (some .int), jn_c167)
noncomputable def jn_c168_0 : List (Nat × jn_E) := [(0, .inl (jn_lload_n 0)), (1, .inl (jn_lload_n 2)), (2, .inl jn_ldiv), (3, .inl (jn_lstore 4)), (5, .inl (jn_lload_n 0)), (6, .inl (jn_lload_n 2)), (7, .inl jn_lxor), (8, .inl (jn_lconst 0)), (9, .inl jn_lcmp), (10, .inl (jn_ifge 27)), (13, .inl (jn_lload 4)), (15, .inl (jn_lload_n 2)), (16, .inl jn_lmul), (17, .inl (jn_lload_n 0)), (18, .inl jn_lcmp), (19, .inl (jn_ifeq 27)), (22, .inl (jn_lload 4)), (24, .inl (jn_lconst 1)), (25, .inl jn_lsub), (26, .inr (.inr 3)), (27, .inl (jn_lload 4)), (29, .inr (.inr 3))]
noncomputable def jn_c168 : List (Nat × jn_E) := jn_c168_0
def jn_mi168 : jn_MI := (RJ9, cJ9_floorDiv_f86c9, 6, "floorDiv")
/-- java/lang/Math.floorDiv(JJ)J -/
noncomputable def jn_me168 : jn_Me := (jn_mi168, yJ9_floorDiv_f86c9, (some .long), jn_c168)
noncomputable def jn_c169_0 : List (Nat × jn_E) := [(0, .inl (jn_lload_n 0)), (1, .inl (jn_lconst 0)), (2, .inl jn_lcmp), (3, .inl (jn_ifge 11)), (6, .inl (jn_lload_n 0)), (7, .inl jn_lneg), (8, .inl (jn_goto 12)), (11, .inl (jn_lload_n 0)), (12, .inr (.inr 3))]
noncomputable def jn_c169 : List (Nat × jn_E) := jn_c169_0
def jn_mi169 : jn_MI := (RJ9, cJ9_abs_067f4, 2, "abs")
/-- java/lang/Math.abs(J)J -/
noncomputable def jn_me169 : jn_Me := (jn_mi169, yJ9_abs_067f4, (some .long), jn_c169)
noncomputable def jn_c170_0 : List (Nat × jn_E) := [(0, .inl (jn_iload_n 0)), (1, .inl (jn_iload_n 1)), (2, .inl (jn_icgt 9)), (5, .inl (jn_iload_n 0)), (6, .inl (jn_goto 10)), (9, .inl (jn_iload_n 1)), (10, .inr (.inr 1))]
noncomputable def jn_c170 : List (Nat × jn_E) := jn_c170_0
def jn_mi170 : jn_MI := (RJ9, cJ9_min_7cf53, 2, "min")
/-- java/lang/Math.min(II)I -/
noncomputable def jn_me170 : jn_Me := (jn_mi170, yJ9_min_7cf53, (some .int), jn_c170)
noncomputable def jn_c171_0 : List (Nat × jn_E) := [(0, .inl (jn_new 6 11 [.null, .int 0, .null, .int 0, .null, .int 0, .null, .null, .null, .null, .null])), (3, .inl jn_dup), (4, .inr (.inl (45, 1, 1))), (7, .inl (jn_astore_n 1)), (8, .inl (jn_new 7 22 [.null, .null, .int 0, .int 0, .null, .null, .null, .null, .null, .null, .null, .null, .null, .null, .null, .null, .null, .null, .null, .null, .null, .int 0])), (11, .inl jn_dup), (12, .inr (.inl (93, 1, 1))), (15, .inl (jn_astore_n 2)), (16, .inl (jn_iconst 0)), (17, .inl (jn_istore_n 3)), (18, .inl (jn_iload_n 3)), (19, .inl (jn_aload_n 0)), (20, .inl jn_slen), (21, .inl (jn_iconst 5)), (22, .inl jn_isub), (23, .inl (jn_icgt 1258)), (26, .inl (jn_aload_n 0)), (27, .inl (jn_iload_n 3)), (28, .inl jn_iaload), (29, .inl (jn_bipush 63)), (31, .inl jn_iand), (32, .inl (jn_table 0 33 [184, 207, 260, 293, 336, 360, 394, 464, 487, 510, 553, 586, 609, 632, 675, 708, 731, 790, 803, 836, 869, 902, 935, 958, 981, 1004, 1028, 1061, 1094, 1117, 1150, 1163, 1186, 1229] 1252)), (184, .inl (jn_aload_n 1)), (185, .inl (jn_aload_n 0))]
noncomputable def jn_c171_1 : List (Nat × jn_E) := [(186, .inl (jn_iload_n 3)), (187, .inl (jn_iconst 1)), (188, .inl jn_iadd), (189, .inl jn_iaload), (190, .inr (.inl (46, 8, 2))), (193, .inl (jn_aload_n 2)), (194, .inl (jn_aload_n 0)), (195, .inl (jn_iload_n 3)), (196, .inl (jn_iconst 1)), (197, .inl jn_iadd), (198, .inl jn_iaload), (199, .inr (.inl (101, 9, 2))), (202, .inl (jn_iceq 1252)), (205, .inl (jn_iconst 0)), (206, .inr (.inr 2)), (207, .inl (jn_aload_n 1)), (208, .inl (jn_aload_n 0)), (209, .inl (jn_iload_n 3)), (210, .inl (jn_iconst 1)), (211, .inl jn_iadd), (212, .inl jn_iaload), (213, .inl (jn_aload_n 0)), (214, .inl (jn_iload_n 3)), (215, .inl (jn_iconst 2))]
noncomputable def jn_c171_2 : List (Nat × jn_E) := [(216, .inl jn_iadd), (217, .inl jn_iaload), (218, .inl (jn_aload_n 0)), (219, .inl (jn_iload_n 3)), (220, .inl (jn_iconst 3)), (221, .inl jn_iadd), (222, .inl jn_iaload), (223, .inl (jn_aload_n 0)), (224, .inl (jn_iload_n 3)), (225, .inl (jn_iconst 4)), (226, .inl jn_iadd), (227, .inl jn_iaload), (228, .inr (.inl (47, 8, 5))), (231, .inl (jn_aload_n 2)), (232, .inl (jn_aload_n 0)), (233, .inl (jn_iload_n 3)), (234, .inl (jn_iconst 1)), (235, .inl jn_iadd), (236, .inl jn_iaload), (237, .inl (jn_aload_n 0)), (238, .inl (jn_iload_n 3)), (239, .inl (jn_iconst 2)), (240, .inl jn_iadd), (241, .inl jn_iaload)]
noncomputable def jn_c171_3 : List (Nat × jn_E) := [(242, .inl (jn_aload_n 0)), (243, .inl (jn_iload_n 3)), (244, .inl (jn_iconst 3)), (245, .inl jn_iadd), (246, .inl jn_iaload), (247, .inl (jn_aload_n 0)), (248, .inl (jn_iload_n 3)), (249, .inl (jn_iconst 4)), (250, .inl jn_iadd), (251, .inl jn_iaload), (252, .inr (.inl (102, 9, 5))), (255, .inl (jn_iceq 1252)), (258, .inl (jn_iconst 0)), (259, .inr (.inr 2)), (260, .inl (jn_aload_n 1)), (261, .inl (jn_aload_n 0)), (262, .inl (jn_iload_n 3)), (263, .inl (jn_iconst 1)), (264, .inl jn_iadd), (265, .inl jn_iaload), (266, .inl (jn_aload_n 0)), (267, .inl (jn_iload_n 3)), (268, .inl (jn_iconst 2)), (269, .inl jn_iadd)]
noncomputable def jn_c171_4 : List (Nat × jn_E) := [(270, .inl jn_iaload), (271, .inr (.inl (48, 8, 3))), (274, .inl (jn_aload_n 2)), (275, .inl (jn_aload_n 0)), (276, .inl (jn_iload_n 3)), (277, .inl (jn_iconst 1)), (278, .inl jn_iadd), (279, .inl jn_iaload), (280, .inl (jn_aload_n 0)), (281, .inl (jn_iload_n 3)), (282, .inl (jn_iconst 2)), (283, .inl jn_iadd), (284, .inl jn_iaload), (285, .inr (.inl (108, 9, 3))), (288, .inl (jn_iceq 1252)), (291, .inl (jn_iconst 0)), (292, .inr (.inr 2)), (293, .inl (jn_aload_n 1)), (294, .inl (jn_aload_n 0)), (295, .inl (jn_iload_n 3)), (296, .inl (jn_iconst 1)), (297, .inl jn_iadd), (298, .inl jn_iaload), (299, .inl (jn_aload_n 0))]
noncomputable def jn_c171_5 : List (Nat × jn_E) := [(300, .inl (jn_iload_n 3)), (301, .inl (jn_iconst 2)), (302, .inl jn_iadd), (303, .inl jn_iaload), (304, .inl (jn_aload_n 0)), (305, .inl (jn_iload_n 3)), (306, .inl (jn_iconst 3)), (307, .inl jn_iadd), (308, .inl jn_iaload), (309, .inr (.inl (49, 8, 4))), (312, .inl (jn_aload_n 2)), (313, .inl (jn_aload_n 0)), (314, .inl (jn_iload_n 3)), (315, .inl (jn_iconst 1)), (316, .inl jn_iadd), (317, .inl jn_iaload), (318, .inl (jn_aload_n 0)), (319, .inl (jn_iload_n 3)), (320, .inl (jn_iconst 2)), (321, .inl jn_iadd), (322, .inl jn_iaload), (323, .inl (jn_aload_n 0)), (324, .inl (jn_iload_n 3)), (325, .inl (jn_iconst 3))]
noncomputable def jn_c171_6 : List (Nat × jn_E) := [(326, .inl jn_iadd), (327, .inl jn_iaload), (328, .inr (.inl (109, 9, 4))), (331, .inl (jn_iceq 1252)), (334, .inl (jn_iconst 0)), (335, .inr (.inr 2)), (336, .inl (jn_aload_n 1)), (337, .inl (jn_aload_n 0)), (338, .inl (jn_iload_n 3)), (339, .inl (jn_iconst 1)), (340, .inl jn_iadd), (341, .inl jn_iaload), (342, .inr (.inl (50, 8, 2))), (345, .inl (jn_aload_n 2)), (346, .inl (jn_aload_n 0)), (347, .inl (jn_iload_n 3)), (348, .inl (jn_iconst 1)), (349, .inl jn_iadd), (350, .inl jn_iaload), (351, .inr (.inl (115, 9, 2))), (354, .inl jn_lcmp), (355, .inl (jn_ifeq 1252)), (358, .inl (jn_iconst 0)), (359, .inr (.inr 2))]
noncomputable def jn_c171_7 : List (Nat × jn_E) := [(360, .inl (jn_aload_n 1)), (361, .inl (jn_aload_n 0)), (362, .inl (jn_iload_n 3)), (363, .inl (jn_iconst 1)), (364, .inl jn_iadd), (365, .inl jn_iaload), (366, .inl (jn_aload_n 0)), (367, .inl (jn_iload_n 3)), (368, .inl (jn_iconst 2)), (369, .inl jn_iadd), (370, .inl jn_iaload), (371, .inr (.inl (51, 8, 3))), (374, .inl (jn_aload_n 2)), (375, .inl (jn_aload_n 0)), (376, .inl (jn_iload_n 3)), (377, .inl (jn_iconst 1)), (378, .inl jn_iadd), (379, .inl jn_iaload), (380, .inl (jn_aload_n 0)), (381, .inl (jn_iload_n 3)), (382, .inl (jn_iconst 2)), (383, .inl jn_iadd), (384, .inl jn_iaload), (385, .inr (.inl (118, 9, 3)))]
noncomputable def jn_c171_8 : List (Nat × jn_E) := [(388, .inl jn_lcmp), (389, .inl (jn_ifeq 1252)), (392, .inl (jn_iconst 0)), (393, .inr (.inr 2)), (394, .inl (jn_aload_n 1)), (395, .inl (jn_aload_n 0)), (396, .inl (jn_iload_n 3)), (397, .inl (jn_iconst 1)), (398, .inl jn_iadd), (399, .inl jn_iaload), (400, .inl (jn_aload_n 0)), (401, .inl (jn_iload_n 3)), (402, .inl (jn_iconst 2)), (403, .inl jn_iadd), (404, .inl jn_iaload), (405, .inl (jn_aload_n 0)), (406, .inl (jn_iload_n 3)), (407, .inl (jn_iconst 3)), (408, .inl jn_iadd), (409, .inl jn_iaload), (410, .inl (jn_aload_n 0)), (411, .inl (jn_iload_n 3)), (412, .inl (jn_iconst 4)), (413, .inl jn_iadd)]
noncomputable def jn_c171_9 : List (Nat × jn_E) := [(414, .inl jn_iaload), (415, .inl (jn_ifeq 422)), (418, .inl (jn_iconst 1)), (419, .inl (jn_goto 423)), (422, .inl (jn_iconst 0)), (423, .inr (.inl (52, 8, 5))), (426, .inl (jn_aload_n 2)), (427, .inl (jn_aload_n 0)), (428, .inl (jn_iload_n 3)), (429, .inl (jn_iconst 1)), (430, .inl jn_iadd), (431, .inl jn_iaload), (432, .inl (jn_aload_n 0)), (433, .inl (jn_iload_n 3)), (434, .inl (jn_iconst 2)), (435, .inl jn_iadd), (436, .inl jn_iaload), (437, .inl (jn_aload_n 0)), (438, .inl (jn_iload_n 3)), (439, .inl (jn_iconst 3)), (440, .inl jn_iadd), (441, .inl jn_iaload), (442, .inl (jn_aload_n 0)), (443, .inl (jn_iload_n 3))]
noncomputable def jn_c171_10 : List (Nat × jn_E) := [(444, .inl (jn_iconst 4)), (445, .inl jn_iadd), (446, .inl jn_iaload), (447, .inl (jn_ifeq 454)), (450, .inl (jn_iconst 1)), (451, .inl (jn_goto 455)), (454, .inl (jn_iconst 0)), (455, .inr (.inl (119, 9, 5))), (458, .inl jn_lcmp), (459, .inl (jn_ifeq 1252)), (462, .inl (jn_iconst 0)), (463, .inr (.inr 2)), (464, .inl (jn_aload_n 1)), (465, .inl (jn_aload_n 0)), (466, .inl (jn_iload_n 3)), (467, .inl (jn_iconst 1)), (468, .inl jn_iadd), (469, .inl jn_iaload), (470, .inr (.inl (53, 8, 2))), (473, .inl (jn_aload_n 2)), (474, .inl (jn_aload_n 0)), (475, .inl (jn_iload_n 3)), (476, .inl (jn_iconst 1)), (477, .inl jn_iadd)]
noncomputable def jn_c171_11 : List (Nat × jn_E) := [(478, .inl jn_iaload), (479, .inr (.inl (156, 9, 2))), (482, .inl (jn_iceq 1252)), (485, .inl (jn_iconst 0)), (486, .inr (.inr 2)), (487, .inl (jn_aload_n 1)), (488, .inl (jn_aload_n 0)), (489, .inl (jn_iload_n 3)), (490, .inl (jn_iconst 1)), (491, .inl jn_iadd), (492, .inl jn_iaload), (493, .inr (.inl (54, 8, 2))), (496, .inl (jn_aload_n 2)), (497, .inl (jn_aload_n 0)), (498, .inl (jn_iload_n 3)), (499, .inl (jn_iconst 1)), (500, .inl jn_iadd), (501, .inl jn_iaload), (502, .inr (.inl (120, 9, 2))), (505, .inl (jn_iceq 1252)), (508, .inl (jn_iconst 0)), (509, .inr (.inr 2)), (510, .inl (jn_aload_n 1)), (511, .inl (jn_aload_n 0))]
noncomputable def jn_c171_12 : List (Nat × jn_E) := [(512, .inl (jn_iload_n 3)), (513, .inl (jn_iconst 1)), (514, .inl jn_iadd), (515, .inl jn_iaload), (516, .inl (jn_aload_n 0)), (517, .inl (jn_iload_n 3)), (518, .inl (jn_iconst 2)), (519, .inl jn_iadd), (520, .inl jn_iaload), (521, .inl (jn_aload_n 0)), (522, .inl (jn_iload_n 3)), (523, .inl (jn_iconst 3)), (524, .inl jn_iadd), (525, .inl jn_iaload), (526, .inr (.inl (55, 8, 4))), (529, .inl (jn_aload_n 2)), (530, .inl (jn_aload_n 0)), (531, .inl (jn_iload_n 3)), (532, .inl (jn_iconst 1)), (533, .inl jn_iadd), (534, .inl jn_iaload), (535, .inl (jn_aload_n 0)), (536, .inl (jn_iload_n 3)), (537, .inl (jn_iconst 2))]
noncomputable def jn_c171_13 : List (Nat × jn_E) := [(538, .inl jn_iadd), (539, .inl jn_iaload), (540, .inl (jn_aload_n 0)), (541, .inl (jn_iload_n 3)), (542, .inl (jn_iconst 3)), (543, .inl jn_iadd), (544, .inl jn_iaload), (545, .inr (.inl (122, 9, 4))), (548, .inl (jn_iceq 1252)), (551, .inl (jn_iconst 0)), (552, .inr (.inr 2)), (553, .inl (jn_aload_n 1)), (554, .inl (jn_aload_n 0)), (555, .inl (jn_iload_n 3)), (556, .inl (jn_iconst 1)), (557, .inl jn_iadd), (558, .inl jn_iaload), (559, .inl (jn_aload_n 0)), (560, .inl (jn_iload_n 3)), (561, .inl (jn_iconst 2)), (562, .inl jn_iadd), (563, .inl jn_iaload), (564, .inr (.inl (56, 8, 3))), (567, .inl (jn_aload_n 2))]
noncomputable def jn_c171_14 : List (Nat × jn_E) := [(568, .inl (jn_aload_n 0)), (569, .inl (jn_iload_n 3)), (570, .inl (jn_iconst 1)), (571, .inl jn_iadd), (572, .inl jn_iaload), (573, .inl (jn_aload_n 0)), (574, .inl (jn_iload_n 3)), (575, .inl (jn_iconst 2)), (576, .inl jn_iadd), (577, .inl jn_iaload), (578, .inr (.inl (123, 9, 3))), (581, .inl (jn_iceq 1252)), (584, .inl (jn_iconst 0)), (585, .inr (.inr 2)), (586, .inl (jn_aload_n 1)), (587, .inl (jn_aload_n 0)), (588, .inl (jn_iload_n 3)), (589, .inl (jn_iconst 1)), (590, .inl jn_iadd), (591, .inl jn_iaload), (592, .inr (.inl (57, 8, 2))), (595, .inl (jn_aload_n 2)), (596, .inl (jn_aload_n 0)), (597, .inl (jn_iload_n 3))]
noncomputable def jn_c171_15 : List (Nat × jn_E) := [(598, .inl (jn_iconst 1)), (599, .inl jn_iadd), (600, .inl jn_iaload), (601, .inr (.inl (125, 9, 2))), (604, .inl (jn_iceq 1252)), (607, .inl (jn_iconst 0)), (608, .inr (.inr 2)), (609, .inl (jn_aload_n 1)), (610, .inl (jn_aload_n 0)), (611, .inl (jn_iload_n 3)), (612, .inl (jn_iconst 1)), (613, .inl jn_iadd), (614, .inl jn_iaload), (615, .inr (.inl (58, 8, 2))), (618, .inl (jn_aload_n 2)), (619, .inl (jn_aload_n 0)), (620, .inl (jn_iload_n 3)), (621, .inl (jn_iconst 1)), (622, .inl jn_iadd), (623, .inl jn_iaload), (624, .inr (.inl (126, 9, 2))), (627, .inl (jn_iceq 1252)), (630, .inl (jn_iconst 0)), (631, .inr (.inr 2))]
noncomputable def jn_c171_16 : List (Nat × jn_E) := [(632, .inl (jn_aload_n 1)), (633, .inl (jn_aload_n 0)), (634, .inl (jn_iload_n 3)), (635, .inl (jn_iconst 1)), (636, .inl jn_iadd), (637, .inl jn_iaload), (638, .inl (jn_aload_n 0)), (639, .inl (jn_iload_n 3)), (640, .inl (jn_iconst 2)), (641, .inl jn_iadd), (642, .inl jn_iaload), (643, .inl (jn_aload_n 0)), (644, .inl (jn_iload_n 3)), (645, .inl (jn_iconst 3)), (646, .inl jn_iadd), (647, .inl jn_iaload), (648, .inr (.inl (59, 8, 4))), (651, .inl (jn_aload_n 2)), (652, .inl (jn_aload_n 0)), (653, .inl (jn_iload_n 3)), (654, .inl (jn_iconst 1)), (655, .inl jn_iadd), (656, .inl jn_iaload), (657, .inl (jn_aload_n 0))]
noncomputable def jn_c171_17 : List (Nat × jn_E) := [(658, .inl (jn_iload_n 3)), (659, .inl (jn_iconst 2)), (660, .inl jn_iadd), (661, .inl jn_iaload), (662, .inl (jn_aload_n 0)), (663, .inl (jn_iload_n 3)), (664, .inl (jn_iconst 3)), (665, .inl jn_iadd), (666, .inl jn_iaload), (667, .inr (.inl (130, 9, 4))), (670, .inl (jn_iceq 1252)), (673, .inl (jn_iconst 0)), (674, .inr (.inr 2)), (675, .inl (jn_aload_n 1)), (676, .inl (jn_aload_n 0)), (677, .inl (jn_iload_n 3)), (678, .inl (jn_iconst 1)), (679, .inl jn_iadd), (680, .inl jn_iaload), (681, .inl (jn_aload_n 0)), (682, .inl (jn_iload_n 3)), (683, .inl (jn_iconst 2)), (684, .inl jn_iadd), (685, .inl jn_iaload)]
noncomputable def jn_c171_18 : List (Nat × jn_E) := [(686, .inr (.inl (60, 8, 3))), (689, .inl (jn_aload_n 2)), (690, .inl (jn_aload_n 0)), (691, .inl (jn_iload_n 3)), (692, .inl (jn_iconst 1)), (693, .inl jn_iadd), (694, .inl jn_iaload), (695, .inl (jn_aload_n 0)), (696, .inl (jn_iload_n 3)), (697, .inl (jn_iconst 2)), (698, .inl jn_iadd), (699, .inl jn_iaload), (700, .inr (.inl (131, 9, 3))), (703, .inl (jn_iceq 1252)), (706, .inl (jn_iconst 0)), (707, .inr (.inr 2)), (708, .inl (jn_aload_n 1)), (709, .inl (jn_aload_n 0)), (710, .inl (jn_iload_n 3)), (711, .inl (jn_iconst 1)), (712, .inl jn_iadd), (713, .inl jn_iaload), (714, .inr (.inl (61, 8, 2))), (717, .inl (jn_aload_n 2))]
noncomputable def jn_c171_19 : List (Nat × jn_E) := [(718, .inl (jn_aload_n 0)), (719, .inl (jn_iload_n 3)), (720, .inl (jn_iconst 1)), (721, .inl jn_iadd), (722, .inl jn_iaload), (723, .inr (.inl (133, 9, 2))), (726, .inl (jn_iceq 1252)), (729, .inl (jn_iconst 0)), (730, .inr (.inr 2)), (731, .inl (jn_aload_n 1)), (732, .inl (jn_aload_n 0)), (733, .inl (jn_iload_n 3)), (734, .inl (jn_iconst 1)), (735, .inl jn_iadd), (736, .inl jn_iaload), (737, .inl (jn_aload_n 0)), (738, .inl (jn_iload_n 3)), (739, .inl (jn_iconst 2)), (740, .inl jn_iadd), (741, .inl jn_iaload), (742, .inl (jn_aload_n 0)), (743, .inl (jn_iload_n 3)), (744, .inl (jn_iconst 3)), (745, .inl jn_iadd)]
noncomputable def jn_c171_20 : List (Nat × jn_E) := [(746, .inl jn_iaload), (747, .inl (jn_ifeq 754)), (750, .inl (jn_iconst 1)), (751, .inl (jn_goto 755)), (754, .inl (jn_iconst 0)), (755, .inr (.inl (62, 8, 4))), (758, .inl (jn_aload_n 2)), (759, .inl (jn_aload_n 0)), (760, .inl (jn_iload_n 3)), (761, .inl (jn_iconst 1)), (762, .inl jn_iadd), (763, .inl jn_iaload), (764, .inl (jn_aload_n 0)), (765, .inl (jn_iload_n 3)), (766, .inl (jn_iconst 2)), (767, .inl jn_iadd), (768, .inl jn_iaload), (769, .inl (jn_aload_n 0)), (770, .inl (jn_iload_n 3)), (771, .inl (jn_iconst 3)), (772, .inl jn_iadd), (773, .inl jn_iaload), (774, .inl (jn_ifeq 781)), (777, .inl (jn_iconst 1))]
noncomputable def jn_c171_21 : List (Nat × jn_E) := [(778, .inl (jn_goto 782)), (781, .inl (jn_iconst 0)), (782, .inr (.inl (134, 9, 4))), (785, .inl (jn_iceq 1252)), (788, .inl (jn_iconst 0)), (789, .inr (.inr 2)), (790, .inl (jn_aload_n 1)), (791, .inr (.inl (63, 8, 1))), (794, .inl (jn_aload_n 2)), (795, .inr (.inl (135, 9, 1))), (798, .inl (jn_iceq 1252)), (801, .inl (jn_iconst 0)), (802, .inr (.inr 2)), (803, .inl (jn_aload_n 1)), (804, .inl (jn_aload_n 0)), (805, .inl (jn_iload_n 3)), (806, .inl (jn_iconst 1)), (807, .inl jn_iadd), (808, .inl jn_iaload), (809, .inl (jn_aload_n 0)), (810, .inl (jn_iload_n 3)), (811, .inl (jn_iconst 2)), (812, .inl jn_iadd), (813, .inl jn_iaload)]
noncomputable def jn_c171_22 : List (Nat × jn_E) := [(814, .inr (.inl (64, 8, 3))), (817, .inl (jn_aload_n 2)), (818, .inl (jn_aload_n 0)), (819, .inl (jn_iload_n 3)), (820, .inl (jn_iconst 1)), (821, .inl jn_iadd), (822, .inl jn_iaload), (823, .inl (jn_aload_n 0)), (824, .inl (jn_iload_n 3)), (825, .inl (jn_iconst 2)), (826, .inl jn_iadd), (827, .inl jn_iaload), (828, .inr (.inl (136, 9, 3))), (831, .inl (jn_iceq 1252)), (834, .inl (jn_iconst 0)), (835, .inr (.inr 2)), (836, .inl (jn_aload_n 1)), (837, .inl (jn_aload_n 0)), (838, .inl (jn_iload_n 3)), (839, .inl (jn_iconst 1)), (840, .inl jn_iadd), (841, .inl jn_iaload), (842, .inl (jn_aload_n 0)), (843, .inl (jn_iload_n 3))]
noncomputable def jn_c171_23 : List (Nat × jn_E) := [(844, .inl (jn_iconst 2)), (845, .inl jn_iadd), (846, .inl jn_iaload), (847, .inr (.inl (65, 8, 3))), (850, .inl (jn_aload_n 2)), (851, .inl (jn_aload_n 0)), (852, .inl (jn_iload_n 3)), (853, .inl (jn_iconst 1)), (854, .inl jn_iadd), (855, .inl jn_iaload), (856, .inl (jn_aload_n 0)), (857, .inl (jn_iload_n 3)), (858, .inl (jn_iconst 2)), (859, .inl jn_iadd), (860, .inl jn_iaload), (861, .inr (.inl (140, 9, 3))), (864, .inl (jn_iceq 1252)), (867, .inl (jn_iconst 0)), (868, .inr (.inr 2)), (869, .inl (jn_aload_n 1)), (870, .inl (jn_aload_n 0)), (871, .inl (jn_iload_n 3)), (872, .inl (jn_iconst 1)), (873, .inl jn_iadd)]
noncomputable def jn_c171_24 : List (Nat × jn_E) := [(874, .inl jn_iaload), (875, .inl (jn_aload_n 0)), (876, .inl (jn_iload_n 3)), (877, .inl (jn_iconst 2)), (878, .inl jn_iadd), (879, .inl jn_iaload), (880, .inr (.inl (66, 8, 3))), (883, .inl (jn_aload_n 2)), (884, .inl (jn_aload_n 0)), (885, .inl (jn_iload_n 3)), (886, .inl (jn_iconst 1)), (887, .inl jn_iadd), (888, .inl jn_iaload), (889, .inl (jn_aload_n 0)), (890, .inl (jn_iload_n 3)), (891, .inl (jn_iconst 2)), (892, .inl jn_iadd), (893, .inl jn_iaload), (894, .inr (.inl (143, 9, 3))), (897, .inl (jn_iceq 1252)), (900, .inl (jn_iconst 0)), (901, .inr (.inr 2)), (902, .inl (jn_aload_n 1)), (903, .inl (jn_aload_n 0))]
noncomputable def jn_c171_25 : List (Nat × jn_E) := [(904, .inl (jn_iload_n 3)), (905, .inl (jn_iconst 1)), (906, .inl jn_iadd), (907, .inl jn_iaload), (908, .inl (jn_aload_n 0)), (909, .inl (jn_iload_n 3)), (910, .inl (jn_iconst 2)), (911, .inl jn_iadd), (912, .inl jn_iaload), (913, .inr (.inl (67, 8, 3))), (916, .inl (jn_aload_n 2)), (917, .inl (jn_aload_n 0)), (918, .inl (jn_iload_n 3)), (919, .inl (jn_iconst 1)), (920, .inl jn_iadd), (921, .inl jn_iaload), (922, .inl (jn_aload_n 0)), (923, .inl (jn_iload_n 3)), (924, .inl (jn_iconst 2)), (925, .inl jn_iadd), (926, .inl jn_iaload), (927, .inr (.inl (144, 9, 3))), (930, .inl (jn_iceq 1252)), (933, .inl (jn_iconst 0))]
noncomputable def jn_c171_26 : List (Nat × jn_E) := [(934, .inr (.inr 2)), (935, .inl (jn_aload_n 1)), (936, .inl (jn_aload_n 0)), (937, .inl (jn_iload_n 3)), (938, .inl (jn_iconst 1)), (939, .inl jn_iadd), (940, .inl jn_iaload), (941, .inr (.inl (68, 8, 2))), (944, .inl (jn_aload_n 2)), (945, .inl (jn_aload_n 0)), (946, .inl (jn_iload_n 3)), (947, .inl (jn_iconst 1)), (948, .inl jn_iadd), (949, .inl jn_iaload), (950, .inr (.inl (146, 9, 2))), (953, .inl (jn_iceq 1252)), (956, .inl (jn_iconst 0)), (957, .inr (.inr 2)), (958, .inl (jn_aload_n 1)), (959, .inl (jn_aload_n 0)), (960, .inl (jn_iload_n 3)), (961, .inl (jn_iconst 1)), (962, .inl jn_iadd), (963, .inl jn_iaload)]
noncomputable def jn_c171_27 : List (Nat × jn_E) := [(964, .inr (.inl (69, 8, 2))), (967, .inl (jn_aload_n 2)), (968, .inl (jn_aload_n 0)), (969, .inl (jn_iload_n 3)), (970, .inl (jn_iconst 1)), (971, .inl jn_iadd), (972, .inl jn_iaload), (973, .inr (.inl (153, 9, 2))), (976, .inl (jn_iceq 1252)), (979, .inl (jn_iconst 0)), (980, .inr (.inr 2)), (981, .inl (jn_aload_n 1)), (982, .inl (jn_aload_n 0)), (983, .inl (jn_iload_n 3)), (984, .inl (jn_iconst 1)), (985, .inl jn_iadd), (986, .inl jn_iaload), (987, .inr (.inl (70, 8, 2))), (990, .inl (jn_aload_n 2)), (991, .inl (jn_aload_n 0)), (992, .inl (jn_iload_n 3)), (993, .inl (jn_iconst 1)), (994, .inl jn_iadd), (995, .inl jn_iaload)]
noncomputable def jn_c171_28 : List (Nat × jn_E) := [(996, .inr (.inl (154, 9, 2))), (999, .inl (jn_iceq 1252)), (1002, .inl (jn_iconst 0)), (1003, .inr (.inr 2)), (1004, .inl (jn_aload_n 1)), (1005, .inl (jn_aload_n 0)), (1006, .inl (jn_iload_n 3)), (1007, .inl (jn_iconst 1)), (1008, .inl jn_iadd), (1009, .inl jn_iaload), (1010, .inr (.inl (71, 8, 2))), (1013, .inl (jn_aload_n 2)), (1014, .inl (jn_aload_n 0)), (1015, .inl (jn_iload_n 3)), (1016, .inl (jn_iconst 1)), (1017, .inl jn_iadd), (1018, .inl jn_iaload), (1019, .inr (.inl (157, 9, 2))), (1022, .inl jn_lcmp), (1023, .inl (jn_ifeq 1252)), (1026, .inl (jn_iconst 0)), (1027, .inr (.inr 2)), (1028, .inl (jn_aload_n 1)), (1029, .inl (jn_aload_n 0))]
noncomputable def jn_c171_29 : List (Nat × jn_E) := [(1030, .inl (jn_iload_n 3)), (1031, .inl (jn_iconst 1)), (1032, .inl jn_iadd), (1033, .inl jn_iaload), (1034, .inl (jn_aload_n 0)), (1035, .inl (jn_iload_n 3)), (1036, .inl (jn_iconst 2)), (1037, .inl jn_iadd), (1038, .inl jn_iaload), (1039, .inr (.inl (72, 8, 3))), (1042, .inl (jn_aload_n 2)), (1043, .inl (jn_aload_n 0)), (1044, .inl (jn_iload_n 3)), (1045, .inl (jn_iconst 1)), (1046, .inl jn_iadd), (1047, .inl jn_iaload), (1048, .inl (jn_aload_n 0)), (1049, .inl (jn_iload_n 3)), (1050, .inl (jn_iconst 2)), (1051, .inl jn_iadd), (1052, .inl jn_iaload), (1053, .inr (.inl (158, 9, 3))), (1056, .inl (jn_iceq 1252)), (1059, .inl (jn_iconst 0))]
noncomputable def jn_c171_30 : List (Nat × jn_E) := [(1060, .inr (.inr 2)), (1061, .inl (jn_aload_n 1)), (1062, .inl (jn_aload_n 0)), (1063, .inl (jn_iload_n 3)), (1064, .inl (jn_iconst 1)), (1065, .inl jn_iadd), (1066, .inl jn_iaload), (1067, .inl (jn_aload_n 0)), (1068, .inl (jn_iload_n 3)), (1069, .inl (jn_iconst 2)), (1070, .inl jn_iadd), (1071, .inl jn_iaload), (1072, .inr (.inl (73, 8, 3))), (1075, .inl (jn_aload_n 2)), (1076, .inl (jn_aload_n 0)), (1077, .inl (jn_iload_n 3)), (1078, .inl (jn_iconst 1)), (1079, .inl jn_iadd), (1080, .inl jn_iaload), (1081, .inl (jn_aload_n 0)), (1082, .inl (jn_iload_n 3)), (1083, .inl (jn_iconst 2)), (1084, .inl jn_iadd), (1085, .inl jn_iaload)]
noncomputable def jn_c171_31 : List (Nat × jn_E) := [(1086, .inr (.inl (159, 9, 3))), (1089, .inl (jn_iceq 1252)), (1092, .inl (jn_iconst 0)), (1093, .inr (.inr 2)), (1094, .inl (jn_aload_n 1)), (1095, .inl (jn_aload_n 0)), (1096, .inl (jn_iload_n 3)), (1097, .inl (jn_iconst 1)), (1098, .inl jn_iadd), (1099, .inl jn_iaload), (1100, .inr (.inl (74, 8, 2))), (1103, .inl (jn_aload_n 2)), (1104, .inl (jn_aload_n 0)), (1105, .inl (jn_iload_n 3)), (1106, .inl (jn_iconst 1)), (1107, .inl jn_iadd), (1108, .inl jn_iaload), (1109, .inr (.inl (160, 9, 2))), (1112, .inl (jn_iceq 1252)), (1115, .inl (jn_iconst 0)), (1116, .inr (.inr 2)), (1117, .inl (jn_aload_n 1)), (1118, .inl (jn_aload_n 0)), (1119, .inl (jn_iload_n 3))]
noncomputable def jn_c171_32 : List (Nat × jn_E) := [(1120, .inl (jn_iconst 1)), (1121, .inl jn_iadd), (1122, .inl jn_iaload), (1123, .inl (jn_aload_n 0)), (1124, .inl (jn_iload_n 3)), (1125, .inl (jn_iconst 2)), (1126, .inl jn_iadd), (1127, .inl jn_iaload), (1128, .inr (.inl (75, 8, 3))), (1131, .inl (jn_aload_n 2)), (1132, .inl (jn_aload_n 0)), (1133, .inl (jn_iload_n 3)), (1134, .inl (jn_iconst 1)), (1135, .inl jn_iadd), (1136, .inl jn_iaload), (1137, .inl (jn_aload_n 0)), (1138, .inl (jn_iload_n 3)), (1139, .inl (jn_iconst 2)), (1140, .inl jn_iadd), (1141, .inl jn_iaload), (1142, .inr (.inl (161, 9, 3))), (1145, .inl (jn_iceq 1252)), (1148, .inl (jn_iconst 0)), (1149, .inr (.inr 2))]
noncomputable def jn_c171_33 : List (Nat × jn_E) := [(1150, .inl (jn_aload_n 1)), (1151, .inr (.inl (76, 8, 1))), (1154, .inl (jn_aload_n 2)), (1155, .inr (.inl (162, 9, 1))), (1158, .inl (jn_iceq 1252)), (1161, .inl (jn_iconst 0)), (1162, .inr (.inr 2)), (1163, .inl (jn_aload_n 1)), (1164, .inl (jn_aload_n 0)), (1165, .inl (jn_iload_n 3)), (1166, .inl (jn_iconst 1)), (1167, .inl jn_iadd), (1168, .inl jn_iaload), (1169, .inr (.inl (77, 8, 2))), (1172, .inl (jn_aload_n 2)), (1173, .inl (jn_aload_n 0)), (1174, .inl (jn_iload_n 3)), (1175, .inl (jn_iconst 1)), (1176, .inl jn_iadd), (1177, .inl jn_iaload), (1178, .inr (.inl (163, 9, 2))), (1181, .inl (jn_iceq 1252)), (1184, .inl (jn_iconst 0)), (1185, .inr (.inr 2))]
noncomputable def jn_c171_34 : List (Nat × jn_E) := [(1186, .inl (jn_aload_n 1)), (1187, .inl (jn_aload_n 0)), (1188, .inl (jn_iload_n 3)), (1189, .inl (jn_iconst 1)), (1190, .inl jn_iadd), (1191, .inl jn_iaload), (1192, .inl (jn_aload_n 0)), (1193, .inl (jn_iload_n 3)), (1194, .inl (jn_iconst 2)), (1195, .inl jn_iadd), (1196, .inl jn_iaload), (1197, .inl (jn_aload_n 0)), (1198, .inl (jn_iload_n 3)), (1199, .inl (jn_iconst 3)), (1200, .inl jn_iadd), (1201, .inl jn_iaload), (1202, .inr (.inl (78, 8, 4))), (1205, .inl (jn_aload_n 2)), (1206, .inl (jn_aload_n 0)), (1207, .inl (jn_iload_n 3)), (1208, .inl (jn_iconst 1)), (1209, .inl jn_iadd), (1210, .inl jn_iaload), (1211, .inl (jn_aload_n 0))]
noncomputable def jn_c171_35 : List (Nat × jn_E) := [(1212, .inl (jn_iload_n 3)), (1213, .inl (jn_iconst 2)), (1214, .inl jn_iadd), (1215, .inl jn_iaload), (1216, .inl (jn_aload_n 0)), (1217, .inl (jn_iload_n 3)), (1218, .inl (jn_iconst 3)), (1219, .inl jn_iadd), (1220, .inl jn_iaload), (1221, .inr (.inl (164, 9, 4))), (1224, .inl (jn_iceq 1252)), (1227, .inl (jn_iconst 0)), (1228, .inr (.inr 2)), (1229, .inl (jn_aload_n 1)), (1230, .inl (jn_aload_n 0)), (1231, .inl (jn_iload_n 3)), (1232, .inl (jn_iconst 1)), (1233, .inl jn_iadd), (1234, .inl jn_iaload), (1235, .inr (.inl (79, 8, 2))), (1238, .inl (jn_aload_n 2)), (1239, .inl (jn_aload_n 0)), (1240, .inl (jn_iload_n 3)), (1241, .inl (jn_iconst 1))]
noncomputable def jn_c171_36 : List (Nat × jn_E) := [(1242, .inl jn_iadd), (1243, .inl jn_iaload), (1244, .inr (.inl (165, 9, 2))), (1247, .inl (jn_iceq 1252)), (1250, .inl (jn_iconst 0)), (1251, .inr (.inr 2)), (1252, .inl (jn_iinc 3 5)), (1255, .inl (jn_goto 18)), (1258, .inl (jn_iconst 1)), (1259, .inr (.inr 2))]
noncomputable def jn_c171 : List (Nat × jn_E) := jn_c171_0 ++ (jn_c171_1 ++ (jn_c171_2 ++ (jn_c171_3 ++ (jn_c171_4 ++ (jn_c171_5 ++ (jn_c171_6 ++ (jn_c171_7 ++ (jn_c171_8 ++ (jn_c171_9 ++ (jn_c171_10 ++ (jn_c171_11 ++ (jn_c171_12 ++ (jn_c171_13 ++ (jn_c171_14 ++ (jn_c171_15 ++ (jn_c171_16 ++ (jn_c171_17 ++ (jn_c171_18 ++ (jn_c171_19 ++ (jn_c171_20 ++ (jn_c171_21 ++ (jn_c171_22 ++ (jn_c171_23 ++ (jn_c171_24 ++ (jn_c171_25 ++ (jn_c171_26 ++ (jn_c171_27 ++ (jn_c171_28 ++ (jn_c171_29 ++ (jn_c171_30 ++ (jn_c171_31 ++ (jn_c171_32 ++ (jn_c171_33 ++ (jn_c171_34 ++ (jn_c171_35 ++ (jn_c171_36))))))))))))))))))))))))))))))))))))
def jn_mi171 : jn_MI := (RL, cL_law, 4, "law")
/-- DebtNetLaw.law([I)Z -/
noncomputable def jn_me171 : jn_Me := (jn_mi171, yL_law, ret, jn_c171)
noncomputable def jn_t0 : List jn_Me := [jn_me0, jn_me1, jn_me2, jn_me3, jn_me4, jn_me5, jn_me6, jn_me7, jn_me8, jn_me9, jn_me10, jn_me11, jn_me12, jn_me13, jn_me14, jn_me15]
noncomputable def jn_t1 : List jn_Me := [jn_me16, jn_me17, jn_me18, jn_me19, jn_me20, jn_me21, jn_me22, jn_me23, jn_me24, jn_me25, jn_me26, jn_me27, jn_me28, jn_me29, jn_me30, jn_me31]
noncomputable def jn_t2 : List jn_Me := [jn_me32, jn_me33, jn_me34, jn_me35, jn_me36, jn_me37, jn_me38, jn_me39, jn_me40, jn_me41, jn_me42, jn_me43, jn_me44, jn_me45, jn_me46, jn_me47]
noncomputable def jn_t3 : List jn_Me := [jn_me48, jn_me49, jn_me50, jn_me51, jn_me52, jn_me53, jn_me54, jn_me55, jn_me56, jn_me57, jn_me58, jn_me59, jn_me60, jn_me61, jn_me62, jn_me63]
noncomputable def jn_t4 : List jn_Me := [jn_me64, jn_me65, jn_me66, jn_me67, jn_me68, jn_me69, jn_me70, jn_me71, jn_me72, jn_me73, jn_me74, jn_me75, jn_me76, jn_me77, jn_me78, jn_me79]
noncomputable def jn_t5 : List jn_Me := [jn_me80, jn_me81, jn_me82, jn_me83, jn_me84, jn_me85, jn_me86, jn_me87, jn_me88, jn_me89, jn_me90, jn_me91, jn_me92, jn_me93, jn_me94, jn_me95]
noncomputable def jn_t6 : List jn_Me := [jn_me96, jn_me97, jn_me98, jn_me99, jn_me100, jn_me101, jn_me102, jn_me103, jn_me104, jn_me105, jn_me106, jn_me107, jn_me108, jn_me109, jn_me110, jn_me111]
noncomputable def jn_t7 : List jn_Me := [jn_me112, jn_me113, jn_me114, jn_me115, jn_me116, jn_me117, jn_me118, jn_me119, jn_me120, jn_me121, jn_me122, jn_me123, jn_me124, jn_me125, jn_me126, jn_me127]
noncomputable def jn_t8 : List jn_Me := [jn_me128, jn_me129, jn_me130, jn_me131, jn_me132, jn_me133, jn_me134, jn_me135, jn_me136, jn_me137, jn_me138, jn_me139, jn_me140, jn_me141, jn_me142, jn_me143]
noncomputable def jn_t9 : List jn_Me := [jn_me144, jn_me145, jn_me146, jn_me147, jn_me148, jn_me149, jn_me150, jn_me151, jn_me152, jn_me153, jn_me154, jn_me155, jn_me156, jn_me157, jn_me158, jn_me159]
noncomputable def jn_t10 : List jn_Me := [jn_me160, jn_me161, jn_me162, jn_me163, jn_me164, jn_me165, jn_me166, jn_me167, jn_me168, jn_me169, jn_me170, jn_me171]
noncomputable def jn_tt : List (List jn_Me) := [jn_t0, jn_t1, jn_t2, jn_t3, jn_t4, jn_t5, jn_t6, jn_t7, jn_t8, jn_t9, jn_t10]
noncomputable def jn_G0 (mi : Nat) : jn_Me := ((jn_tt.getD (mi / 16) []).getD (mi % 16) jn_me0)
theorem jn_G0_0 : jn_G0 0 = jn_me0 := rfl
theorem jn_G0_1 : jn_G0 1 = jn_me1 := rfl
theorem jn_G0_2 : jn_G0 2 = jn_me2 := rfl
theorem jn_G0_3 : jn_G0 3 = jn_me3 := rfl
theorem jn_G0_4 : jn_G0 4 = jn_me4 := rfl
theorem jn_G0_5 : jn_G0 5 = jn_me5 := rfl
theorem jn_G0_6 : jn_G0 6 = jn_me6 := rfl
theorem jn_G0_7 : jn_G0 7 = jn_me7 := rfl
theorem jn_G0_8 : jn_G0 8 = jn_me8 := rfl
theorem jn_G0_9 : jn_G0 9 = jn_me9 := rfl
theorem jn_G0_10 : jn_G0 10 = jn_me10 := rfl
theorem jn_G0_11 : jn_G0 11 = jn_me11 := rfl
theorem jn_G0_12 : jn_G0 12 = jn_me12 := rfl
theorem jn_G0_13 : jn_G0 13 = jn_me13 := rfl
theorem jn_G0_14 : jn_G0 14 = jn_me14 := rfl
theorem jn_G0_15 : jn_G0 15 = jn_me15 := rfl
theorem jn_G0_16 : jn_G0 16 = jn_me16 := rfl
theorem jn_G0_17 : jn_G0 17 = jn_me17 := rfl
theorem jn_G0_18 : jn_G0 18 = jn_me18 := rfl
theorem jn_G0_19 : jn_G0 19 = jn_me19 := rfl
theorem jn_G0_20 : jn_G0 20 = jn_me20 := rfl
theorem jn_G0_21 : jn_G0 21 = jn_me21 := rfl
theorem jn_G0_22 : jn_G0 22 = jn_me22 := rfl
theorem jn_G0_23 : jn_G0 23 = jn_me23 := rfl
theorem jn_G0_24 : jn_G0 24 = jn_me24 := rfl
theorem jn_G0_25 : jn_G0 25 = jn_me25 := rfl
theorem jn_G0_26 : jn_G0 26 = jn_me26 := rfl
theorem jn_G0_27 : jn_G0 27 = jn_me27 := rfl
theorem jn_G0_28 : jn_G0 28 = jn_me28 := rfl
theorem jn_G0_29 : jn_G0 29 = jn_me29 := rfl
theorem jn_G0_30 : jn_G0 30 = jn_me30 := rfl
theorem jn_G0_31 : jn_G0 31 = jn_me31 := rfl
theorem jn_G0_32 : jn_G0 32 = jn_me32 := rfl
theorem jn_G0_33 : jn_G0 33 = jn_me33 := rfl
theorem jn_G0_34 : jn_G0 34 = jn_me34 := rfl
theorem jn_G0_35 : jn_G0 35 = jn_me35 := rfl
theorem jn_G0_36 : jn_G0 36 = jn_me36 := rfl
theorem jn_G0_37 : jn_G0 37 = jn_me37 := rfl
theorem jn_G0_38 : jn_G0 38 = jn_me38 := rfl
theorem jn_G0_39 : jn_G0 39 = jn_me39 := rfl
theorem jn_G0_40 : jn_G0 40 = jn_me40 := rfl
theorem jn_G0_41 : jn_G0 41 = jn_me41 := rfl
theorem jn_G0_42 : jn_G0 42 = jn_me42 := rfl
theorem jn_G0_43 : jn_G0 43 = jn_me43 := rfl
theorem jn_G0_44 : jn_G0 44 = jn_me44 := rfl
theorem jn_G0_45 : jn_G0 45 = jn_me45 := rfl
theorem jn_G0_46 : jn_G0 46 = jn_me46 := rfl
theorem jn_G0_47 : jn_G0 47 = jn_me47 := rfl
theorem jn_G0_48 : jn_G0 48 = jn_me48 := rfl
theorem jn_G0_49 : jn_G0 49 = jn_me49 := rfl
theorem jn_G0_50 : jn_G0 50 = jn_me50 := rfl
theorem jn_G0_51 : jn_G0 51 = jn_me51 := rfl
theorem jn_G0_52 : jn_G0 52 = jn_me52 := rfl
theorem jn_G0_53 : jn_G0 53 = jn_me53 := rfl
theorem jn_G0_54 : jn_G0 54 = jn_me54 := rfl
theorem jn_G0_55 : jn_G0 55 = jn_me55 := rfl
theorem jn_G0_56 : jn_G0 56 = jn_me56 := rfl
theorem jn_G0_57 : jn_G0 57 = jn_me57 := rfl
theorem jn_G0_58 : jn_G0 58 = jn_me58 := rfl
theorem jn_G0_59 : jn_G0 59 = jn_me59 := rfl
theorem jn_G0_60 : jn_G0 60 = jn_me60 := rfl
theorem jn_G0_61 : jn_G0 61 = jn_me61 := rfl
theorem jn_G0_62 : jn_G0 62 = jn_me62 := rfl
theorem jn_G0_63 : jn_G0 63 = jn_me63 := rfl
theorem jn_G0_64 : jn_G0 64 = jn_me64 := rfl
theorem jn_G0_65 : jn_G0 65 = jn_me65 := rfl
theorem jn_G0_66 : jn_G0 66 = jn_me66 := rfl
theorem jn_G0_67 : jn_G0 67 = jn_me67 := rfl
theorem jn_G0_68 : jn_G0 68 = jn_me68 := rfl
theorem jn_G0_69 : jn_G0 69 = jn_me69 := rfl
theorem jn_G0_70 : jn_G0 70 = jn_me70 := rfl
theorem jn_G0_71 : jn_G0 71 = jn_me71 := rfl
theorem jn_G0_72 : jn_G0 72 = jn_me72 := rfl
theorem jn_G0_73 : jn_G0 73 = jn_me73 := rfl
theorem jn_G0_74 : jn_G0 74 = jn_me74 := rfl
theorem jn_G0_75 : jn_G0 75 = jn_me75 := rfl
theorem jn_G0_76 : jn_G0 76 = jn_me76 := rfl
theorem jn_G0_77 : jn_G0 77 = jn_me77 := rfl
theorem jn_G0_78 : jn_G0 78 = jn_me78 := rfl
theorem jn_G0_79 : jn_G0 79 = jn_me79 := rfl
theorem jn_G0_80 : jn_G0 80 = jn_me80 := rfl
theorem jn_G0_81 : jn_G0 81 = jn_me81 := rfl
theorem jn_G0_82 : jn_G0 82 = jn_me82 := rfl
theorem jn_G0_83 : jn_G0 83 = jn_me83 := rfl
theorem jn_G0_84 : jn_G0 84 = jn_me84 := rfl
theorem jn_G0_85 : jn_G0 85 = jn_me85 := rfl
theorem jn_G0_86 : jn_G0 86 = jn_me86 := rfl
theorem jn_G0_87 : jn_G0 87 = jn_me87 := rfl
theorem jn_G0_88 : jn_G0 88 = jn_me88 := rfl
theorem jn_G0_89 : jn_G0 89 = jn_me89 := rfl
theorem jn_G0_90 : jn_G0 90 = jn_me90 := rfl
theorem jn_G0_91 : jn_G0 91 = jn_me91 := rfl
theorem jn_G0_92 : jn_G0 92 = jn_me92 := rfl
theorem jn_G0_93 : jn_G0 93 = jn_me93 := rfl
theorem jn_G0_94 : jn_G0 94 = jn_me94 := rfl
theorem jn_G0_95 : jn_G0 95 = jn_me95 := rfl
theorem jn_G0_96 : jn_G0 96 = jn_me96 := rfl
theorem jn_G0_97 : jn_G0 97 = jn_me97 := rfl
theorem jn_G0_98 : jn_G0 98 = jn_me98 := rfl
theorem jn_G0_99 : jn_G0 99 = jn_me99 := rfl
theorem jn_G0_100 : jn_G0 100 = jn_me100 := rfl
theorem jn_G0_101 : jn_G0 101 = jn_me101 := rfl
theorem jn_G0_102 : jn_G0 102 = jn_me102 := rfl
theorem jn_G0_103 : jn_G0 103 = jn_me103 := rfl
theorem jn_G0_104 : jn_G0 104 = jn_me104 := rfl
theorem jn_G0_105 : jn_G0 105 = jn_me105 := rfl
theorem jn_G0_106 : jn_G0 106 = jn_me106 := rfl
theorem jn_G0_107 : jn_G0 107 = jn_me107 := rfl
theorem jn_G0_108 : jn_G0 108 = jn_me108 := rfl
theorem jn_G0_109 : jn_G0 109 = jn_me109 := rfl
theorem jn_G0_110 : jn_G0 110 = jn_me110 := rfl
theorem jn_G0_111 : jn_G0 111 = jn_me111 := rfl
theorem jn_G0_112 : jn_G0 112 = jn_me112 := rfl
theorem jn_G0_113 : jn_G0 113 = jn_me113 := rfl
theorem jn_G0_114 : jn_G0 114 = jn_me114 := rfl
theorem jn_G0_115 : jn_G0 115 = jn_me115 := rfl
theorem jn_G0_116 : jn_G0 116 = jn_me116 := rfl
theorem jn_G0_117 : jn_G0 117 = jn_me117 := rfl
theorem jn_G0_118 : jn_G0 118 = jn_me118 := rfl
theorem jn_G0_119 : jn_G0 119 = jn_me119 := rfl
theorem jn_G0_120 : jn_G0 120 = jn_me120 := rfl
theorem jn_G0_121 : jn_G0 121 = jn_me121 := rfl
theorem jn_G0_122 : jn_G0 122 = jn_me122 := rfl
theorem jn_G0_123 : jn_G0 123 = jn_me123 := rfl
theorem jn_G0_124 : jn_G0 124 = jn_me124 := rfl
theorem jn_G0_125 : jn_G0 125 = jn_me125 := rfl
theorem jn_G0_126 : jn_G0 126 = jn_me126 := rfl
theorem jn_G0_127 : jn_G0 127 = jn_me127 := rfl
theorem jn_G0_128 : jn_G0 128 = jn_me128 := rfl
theorem jn_G0_129 : jn_G0 129 = jn_me129 := rfl
theorem jn_G0_130 : jn_G0 130 = jn_me130 := rfl
theorem jn_G0_131 : jn_G0 131 = jn_me131 := rfl
theorem jn_G0_132 : jn_G0 132 = jn_me132 := rfl
theorem jn_G0_133 : jn_G0 133 = jn_me133 := rfl
theorem jn_G0_134 : jn_G0 134 = jn_me134 := rfl
theorem jn_G0_135 : jn_G0 135 = jn_me135 := rfl
theorem jn_G0_136 : jn_G0 136 = jn_me136 := rfl
theorem jn_G0_137 : jn_G0 137 = jn_me137 := rfl
theorem jn_G0_138 : jn_G0 138 = jn_me138 := rfl
theorem jn_G0_139 : jn_G0 139 = jn_me139 := rfl
theorem jn_G0_140 : jn_G0 140 = jn_me140 := rfl
theorem jn_G0_141 : jn_G0 141 = jn_me141 := rfl
theorem jn_G0_142 : jn_G0 142 = jn_me142 := rfl
theorem jn_G0_143 : jn_G0 143 = jn_me143 := rfl
theorem jn_G0_144 : jn_G0 144 = jn_me144 := rfl
theorem jn_G0_145 : jn_G0 145 = jn_me145 := rfl
theorem jn_G0_146 : jn_G0 146 = jn_me146 := rfl
theorem jn_G0_147 : jn_G0 147 = jn_me147 := rfl
theorem jn_G0_148 : jn_G0 148 = jn_me148 := rfl
theorem jn_G0_149 : jn_G0 149 = jn_me149 := rfl
theorem jn_G0_150 : jn_G0 150 = jn_me150 := rfl
theorem jn_G0_151 : jn_G0 151 = jn_me151 := rfl
theorem jn_G0_152 : jn_G0 152 = jn_me152 := rfl
theorem jn_G0_153 : jn_G0 153 = jn_me153 := rfl
theorem jn_G0_154 : jn_G0 154 = jn_me154 := rfl
theorem jn_G0_155 : jn_G0 155 = jn_me155 := rfl
theorem jn_G0_156 : jn_G0 156 = jn_me156 := rfl
theorem jn_G0_157 : jn_G0 157 = jn_me157 := rfl
theorem jn_G0_158 : jn_G0 158 = jn_me158 := rfl
theorem jn_G0_159 : jn_G0 159 = jn_me159 := rfl
theorem jn_G0_160 : jn_G0 160 = jn_me160 := rfl
theorem jn_G0_161 : jn_G0 161 = jn_me161 := rfl
theorem jn_G0_162 : jn_G0 162 = jn_me162 := rfl
theorem jn_G0_163 : jn_G0 163 = jn_me163 := rfl
theorem jn_G0_164 : jn_G0 164 = jn_me164 := rfl
theorem jn_G0_165 : jn_G0 165 = jn_me165 := rfl
theorem jn_G0_166 : jn_G0 166 = jn_me166 := rfl
theorem jn_G0_167 : jn_G0 167 = jn_me167 := rfl
theorem jn_G0_168 : jn_G0 168 = jn_me168 := rfl
theorem jn_G0_169 : jn_G0 169 = jn_me169 := rfl
theorem jn_G0_170 : jn_G0 170 = jn_me170 := rfl
theorem jn_G0_171 : jn_G0 171 = jn_me171 := rfl
theorem jn_u0 : ∀ w ∈ u_ws RX0 TX0 2, w ∈ jn_tb := by decide +kernel
theorem jn_u1 : ∀ w ∈ u_ws RX1 TX1 4, w ∈ jn_tb := by decide +kernel
theorem jn_u2 : ∀ w ∈ u_ws RX2 TX2 3, w ∈ jn_tb := by decide +kernel
theorem jn_u3 : ∀ w ∈ u_ws RX3 TX3 6, w ∈ jn_tb := by decide +kernel
theorem jn_u4 : ∀ w ∈ u_ws RX4 TX4 1, w ∈ jn_tb := by decide +kernel
theorem jn_u5 : ∀ w ∈ u_ws RX5 TX5 1, w ∈ jn_tb := by decide +kernel
theorem jn_u6 : ∀ w ∈ u_ws RX6 TX6 11, w ∈ jn_tb := by decide +kernel
theorem jn_u7 : ∀ w ∈ u_ws RX7 TX7 22, w ∈ jn_tb := by decide +kernel
def jn_GEm (G : Nat → jn_Me) (me : jn_Me) (pc : Nat) : jn_E → Prop
  | .inl f => jn_G me.1 pc f ∧ jn_mo f
  | .inr (.inl (cm, κ, na)) => jn_GC me.1 pc (G cm) κ na
  | .inr (.inr k) => decode me.1.2.1 pc = .ok (jn_ri k, 1) ∧ jn_rt k me.2.2.1
theorem jn_gc_of {G : Nat → jn_Me} {cm : Nat} {me : jn_Me} (h : G cm = me) {mi : jn_MI} {pc κ na : Nat} (hg : jn_GC mi pc me κ na) : jn_GC mi pc (G cm) κ na := by rw [h]; exact hg
theorem jn_cons {P : Nat × jn_E → Prop} {x : Nat × jn_E} {l : List (Nat × jn_E)} (h : P x) (k : ∀ q ∈ l, P q) : ∀ q ∈ x :: l, P q := List.forall_mem_cons.mpr ⟨h, k⟩
theorem jn_nil {P : Nat × jn_E → Prop} : ∀ q ∈ ([] : List (Nat × jn_E)), P q := fun _ h => absurd h List.not_mem_nil
theorem jn_appd {P : Nat × jn_E → Prop} {l k : List (Nat × jn_E)} (h : ∀ q ∈ l, P q) (h2 : ∀ q ∈ k, P q) : ∀ q ∈ l ++ k, P q := List.forall_mem_append.mpr ⟨h, h2⟩
theorem jn_find_mem : ∀ {l : List (Nat × jn_E)} {pc : Nat} {e : jn_E}, jn_find l pc = some e → (pc, e) ∈ l
  | [], _, _, h => by simp [jn_find] at h
  | (q, e0) :: l, pc, e, h => by
    unfold jn_find at h
    split at h
    · rename_i hq
      cases h
      subst hq
      exact List.mem_cons_self
    · exact List.mem_cons_of_mem _ (jn_find_mem h)
theorem jn_GM_of {G : Nat → jn_Me} {mi : Nat} {me : jn_Me} (h : G mi = me) (h1 : me.1.1 = me.2.1.cls) (h2 : me.1.2.2.2 = me.2.1.name) (h3 : plainFor me.2.1 = true) (h4 : me.1.2.2.1 ≤ 23) (h5 : ∀ q ∈ me.2.2.2, jn_GEm G me q.1 q.2) : jn_GM G mi := by
  unfold jn_GM
  rw [h]
  refine ⟨h1, h2, h3, h4, fun pc e hf => ?_⟩
  have h6 := h5 _ (jn_find_mem hf)
  unfold jn_GE
  rw [h]
  exact h6
