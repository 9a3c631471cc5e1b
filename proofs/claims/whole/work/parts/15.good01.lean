theorem jn_o32_0 : ∀ q ∈ jn_c32_0, jn_GEm jn_G0 jn_me32 q.1 q.2 :=
  jn_cons (⟨jn_lload_n_ok (i := 0) (k := 0) (by decide +kernel) rfl, jn_lload_n_mo 0⟩ : jn_GEm jn_G0 jn_me32 0 (.inl (jn_lload_n 0))) <|
  jn_cons (jn_gc_of jn_G0_169 (jn_callS (i := 15) (na := 1) (by decide +kernel) (jn_in 325 (by decide +kernel) rfl) (jn_in 323 (by decide +kernel) rfl) (jn_in 324 (by decide +kernel) rfl) (jn_in 61 (by decide +kernel) rfl) ⟨by decide, by decide, by decide +kernel⟩) : jn_GEm jn_G0 jn_me32 1 (.inr (.inl (169, 0, 1)))) <|
  jn_cons (⟨jn_lstore_ok (i := 4) (by decide +kernel), jn_lstore_mo 4⟩ : jn_GEm jn_G0 jn_me32 4 (.inl (jn_lstore 4))) <|
  jn_cons (⟨jn_lload_n_ok (i := 2) (k := 2) (by decide +kernel) rfl, jn_lload_n_mo 2⟩ : jn_GEm jn_G0 jn_me32 6 (.inl (jn_lload_n 2))) <|
  jn_cons (jn_gc_of jn_G0_169 (jn_callS (i := 15) (na := 1) (by decide +kernel) (jn_in 325 (by decide +kernel) rfl) (jn_in 323 (by decide +kernel) rfl) (jn_in 324 (by decide +kernel) rfl) (jn_in 61 (by decide +kernel) rfl) ⟨by decide, by decide, by decide +kernel⟩) : jn_GEm jn_G0 jn_me32 7 (.inr (.inl (169, 0, 1)))) <|
  jn_cons (⟨jn_lstore_ok (i := 6) (by decide +kernel), jn_lstore_mo 6⟩ : jn_GEm jn_G0 jn_me32 10 (.inl (jn_lstore 6))) <|
  jn_cons (⟨jn_iconst_ok (by decide +kernel), jn_iconst_mo 0⟩ : jn_GEm jn_G0 jn_me32 12 (.inl (jn_iconst 0))) <|
  jn_cons (⟨jn_istore_ok (i := 8) (by decide +kernel), jn_istore_mo 8⟩ : jn_GEm jn_G0 jn_me32 13 (.inl (jn_istore 8))) <|
  jn_cons (⟨jn_iload_ok (i := 8) (by decide +kernel), jn_iload_mo 8⟩ : jn_GEm jn_G0 jn_me32 15 (.inl (jn_iload 8))) <|
  jn_cons (⟨jn_ldc_ok (i := 21) (v := 1000000) (by decide +kernel) (jn_in 347 (by decide +kernel) rfl), jn_ldc_mo 1000000⟩ : jn_GEm jn_G0 jn_me32 17 (.inl (jn_ldc 1000000))) <|
  jn_cons (⟨jn_icge_ok (t := 50) (off := 31) (by decide +kernel) (by decide), jn_icge_mo 50⟩ : jn_GEm jn_G0 jn_me32 19 (.inl (jn_icge 50))) <|
  jn_cons (⟨jn_lload_ok (i := 6) (by decide +kernel), jn_lload_mo 6⟩ : jn_GEm jn_G0 jn_me32 22 (.inl (jn_lload 6))) <|
  jn_cons (⟨jn_lconst_ok (n := 0) (v := 0) (by decide +kernel) (by decide), jn_lconst_mo 0⟩ : jn_GEm jn_G0 jn_me32 24 (.inl (jn_lconst 0))) <|
  jn_cons (⟨jn_lcmp_ok (by decide +kernel), jn_lcmp_mo⟩ : jn_GEm jn_G0 jn_me32 25 (.inl jn_lcmp)) <|
  jn_cons (⟨jn_ifeq_ok (t := 50) (off := 24) (by decide +kernel) (by decide), jn_ifeq_mo 50⟩ : jn_GEm jn_G0 jn_me32 26 (.inl (jn_ifeq 50))) <|
  jn_cons (⟨jn_lload_ok (i := 4) (by decide +kernel), jn_lload_mo 4⟩ : jn_GEm jn_G0 jn_me32 29 (.inl (jn_lload 4))) <|
  jn_cons (⟨jn_lload_ok (i := 6) (by decide +kernel), jn_lload_mo 6⟩ : jn_GEm jn_G0 jn_me32 31 (.inl (jn_lload 6))) <|
  jn_cons (⟨jn_lrem_ok (by decide +kernel), jn_lrem_mo⟩ : jn_GEm jn_G0 jn_me32 33 (.inl jn_lrem)) <|
  jn_cons (⟨jn_lstore_ok (i := 9) (by decide +kernel), jn_lstore_mo 9⟩ : jn_GEm jn_G0 jn_me32 34 (.inl (jn_lstore 9))) <|
  jn_cons (⟨jn_lload_ok (i := 6) (by decide +kernel), jn_lload_mo 6⟩ : jn_GEm jn_G0 jn_me32 36 (.inl (jn_lload 6))) <|
  jn_cons (⟨jn_lstore_ok (i := 4) (by decide +kernel), jn_lstore_mo 4⟩ : jn_GEm jn_G0 jn_me32 38 (.inl (jn_lstore 4))) <|
  jn_cons (⟨jn_lload_ok (i := 9) (by decide +kernel), jn_lload_mo 9⟩ : jn_GEm jn_G0 jn_me32 40 (.inl (jn_lload 9))) <|
  jn_cons (⟨jn_lstore_ok (i := 6) (by decide +kernel), jn_lstore_mo 6⟩ : jn_GEm jn_G0 jn_me32 42 (.inl (jn_lstore 6))) <|
  jn_cons (⟨jn_iinc_ok (i := 8) (n := 1) (by decide +kernel), jn_iinc_mo 8 1⟩ : jn_GEm jn_G0 jn_me32 44 (.inl (jn_iinc 8 1))) <| jn_nil
theorem jn_o32_1 : ∀ q ∈ jn_c32_1, jn_GEm jn_G0 jn_me32 q.1 q.2 :=
  jn_cons (⟨jn_goto_ok (t := 15) (off := -32) (by decide +kernel) (by decide), jn_goto_mo 15⟩ : jn_GEm jn_G0 jn_me32 47 (.inl (jn_goto 15))) <|
  jn_cons (⟨jn_lload_ok (i := 4) (by decide +kernel), jn_lload_mo 4⟩ : jn_GEm jn_G0 jn_me32 50 (.inl (jn_lload 4))) <|
  jn_cons (⟨(by decide +kernel), rfl⟩ : jn_GEm jn_G0 jn_me32 52 (.inr (.inr 3))) <| jn_nil
theorem jn_ok32 : jn_GM jn_G0 32 := jn_GM_of jn_G0_32 rfl rfl (by decide +kernel) (by decide) (jn_appd jn_o32_0 (jn_o32_1))
theorem jn_o33_0 : ∀ q ∈ jn_c33_0, jn_GEm jn_G0 jn_me33 q.1 q.2 :=
  jn_cons (⟨jn_aload_n_ok (i := 1) (k := 1) (by decide +kernel) rfl, jn_aload_n_mo 1⟩ : jn_GEm jn_G0 jn_me33 0 (.inl (jn_aload_n 1))) <|
  jn_cons (jn_gc_of jn_G0_13 (jn_callV (i := 22) (na := 0) (ci := 2) (q := (RX2, TX2, 3)) (by decide +kernel) rfl (jn_in 259 (by decide +kernel) rfl) (jn_in 296 (by decide +kernel) rfl) (jn_in 257 (by decide +kernel) rfl) (jn_in 258 (by decide +kernel) rfl) (jn_in 57 (by decide +kernel) rfl) ⟨by decide, by decide, by decide +kernel⟩) : jn_GEm jn_G0 jn_me33 1 (.inr (.inl (13, 4, 1)))) <|
  jn_cons (⟨jn_bipush_ok (n := (-2)) (v := (-2)) (by decide +kernel) (by decide), jn_bipush_mo (-2)⟩ : jn_GEm jn_G0 jn_me33 4 (.inl (jn_bipush (-2)))) <|
  jn_cons (⟨jn_iand_ok (by decide +kernel), jn_iand_mo⟩ : jn_GEm jn_G0 jn_me33 6 (.inl jn_iand)) <|
  jn_cons (⟨jn_istore_n_ok (i := 2) (k := 2) (by decide +kernel) rfl, jn_istore_n_mo 2⟩ : jn_GEm jn_G0 jn_me33 7 (.inl (jn_istore_n 2))) <|
  jn_cons (⟨jn_aload_n_ok (i := 0) (k := 0) (by decide +kernel) rfl, jn_aload_n_mo 0⟩ : jn_GEm jn_G0 jn_me33 8 (.inl (jn_aload_n 0))) <|
  jn_cons (⟨jn_aload_n_ok (i := 1) (k := 1) (by decide +kernel) rfl, jn_aload_n_mo 1⟩ : jn_GEm jn_G0 jn_me33 9 (.inl (jn_aload_n 1))) <|
  jn_cons (⟨jn_iload_n_ok (i := 2) (k := 2) (by decide +kernel) rfl, jn_iload_n_mo 2⟩ : jn_GEm jn_G0 jn_me33 10 (.inl (jn_iload_n 2))) <|
  jn_cons (⟨jn_iload_n_ok (i := 2) (k := 2) (by decide +kernel) rfl, jn_iload_n_mo 2⟩ : jn_GEm jn_G0 jn_me33 11 (.inl (jn_iload_n 2))) <|
  jn_cons (jn_gc_of jn_G0_36 (jn_callV (i := 28) (na := 3) (ci := 4) (q := (RX4, TX4, 1)) (by decide +kernel) rfl (jn_in 300 (by decide +kernel) rfl) (jn_in 297 (by decide +kernel) rfl) (jn_in 298 (by decide +kernel) rfl) (jn_in 299 (by decide +kernel) rfl) (jn_in 55 (by decide +kernel) rfl) ⟨by decide, by decide, by decide +kernel⟩) : jn_GEm jn_G0 jn_me33 12 (.inr (.inl (36, 6, 4)))) <|
  jn_cons (⟨(by decide +kernel), rfl⟩ : jn_GEm jn_G0 jn_me33 15 (.inr (.inr 3))) <| jn_nil
theorem jn_ok33 : jn_GM jn_G0 33 := jn_GM_of jn_G0_33 rfl rfl (by decide +kernel) (by decide) (jn_o33_0)
theorem jn_o34_0 : ∀ q ∈ jn_c34_0, jn_GEm jn_G0 jn_me34 q.1 q.2 :=
  jn_cons (⟨jn_lconst_ok (n := 0) (v := 0) (by decide +kernel) (by decide), jn_lconst_mo 0⟩ : jn_GEm jn_G0 jn_me34 0 (.inl (jn_lconst 0))) <|
  jn_cons (⟨jn_lstore_n_ok (i := 3) (k := 3) (by decide +kernel) rfl, jn_lstore_n_mo 3⟩ : jn_GEm jn_G0 jn_me34 1 (.inl (jn_lstore_n 3))) <|
  jn_cons (⟨jn_iconst_ok (by decide +kernel), jn_iconst_mo 0⟩ : jn_GEm jn_G0 jn_me34 2 (.inl (jn_iconst 0))) <|
  jn_cons (⟨jn_istore_ok (i := 5) (by decide +kernel), jn_istore_mo 5⟩ : jn_GEm jn_G0 jn_me34 3 (.inl (jn_istore 5))) <|
  jn_cons (⟨jn_iload_ok (i := 5) (by decide +kernel), jn_iload_mo 5⟩ : jn_GEm jn_G0 jn_me34 5 (.inl (jn_iload 5))) <|
  jn_cons (⟨jn_aload_n_ok (i := 1) (k := 1) (by decide +kernel) rfl, jn_aload_n_mo 1⟩ : jn_GEm jn_G0 jn_me34 7 (.inl (jn_aload_n 1))) <|
  jn_cons (jn_gc_of jn_G0_13 (jn_callV (i := 22) (na := 0) (ci := 2) (q := (RX2, TX2, 3)) (by decide +kernel) rfl (jn_in 259 (by decide +kernel) rfl) (jn_in 296 (by decide +kernel) rfl) (jn_in 257 (by decide +kernel) rfl) (jn_in 258 (by decide +kernel) rfl) (jn_in 57 (by decide +kernel) rfl) ⟨by decide, by decide, by decide +kernel⟩) : jn_GEm jn_G0 jn_me34 8 (.inr (.inl (13, 4, 1)))) <|
  jn_cons (⟨jn_icgt_ok (t := 44) (off := 33) (by decide +kernel) (by decide), jn_icgt_mo 44⟩ : jn_GEm jn_G0 jn_me34 11 (.inl (jn_icgt 44))) <|
  jn_cons (⟨jn_lload_n_ok (i := 3) (k := 3) (by decide +kernel) rfl, jn_lload_n_mo 3⟩ : jn_GEm jn_G0 jn_me34 14 (.inl (jn_lload_n 3))) <|
  jn_cons (⟨jn_lconst_ok (n := 1) (v := 1) (by decide +kernel) (by decide), jn_lconst_mo 1⟩ : jn_GEm jn_G0 jn_me34 15 (.inl (jn_lconst 1))) <|
  jn_cons (⟨jn_lcmp_ok (by decide +kernel), jn_lcmp_mo⟩ : jn_GEm jn_G0 jn_me34 16 (.inl jn_lcmp)) <|
  jn_cons (⟨jn_ifeq_ok (t := 44) (off := 27) (by decide +kernel) (by decide), jn_ifeq_mo 44⟩ : jn_GEm jn_G0 jn_me34 17 (.inl (jn_ifeq 44))) <|
  jn_cons (⟨jn_iload_ok (i := 5) (by decide +kernel), jn_iload_mo 5⟩ : jn_GEm jn_G0 jn_me34 20 (.inl (jn_iload 5))) <|
  jn_cons (jn_gc_of jn_G0_166 (jn_callS (i := 32) (na := 1) (by decide +kernel) (jn_in 336 (by decide +kernel) rfl) (jn_in 334 (by decide +kernel) rfl) (jn_in 335 (by decide +kernel) rfl) (jn_in 62 (by decide +kernel) rfl) ⟨by decide, by decide, by decide +kernel⟩) : jn_GEm jn_G0 jn_me34 22 (.inr (.inl (166, 0, 1)))) <|
  jn_cons (⟨jn_iload_n_ok (i := 2) (k := 2) (by decide +kernel) rfl, jn_iload_n_mo 2⟩ : jn_GEm jn_G0 jn_me34 25 (.inl (jn_iload_n 2))) <|
  jn_cons (⟨jn_icne_ok (t := 38) (off := 12) (by decide +kernel) (by decide), jn_icne_mo 38⟩ : jn_GEm jn_G0 jn_me34 26 (.inl (jn_icne 38))) <|
  jn_cons (⟨jn_aload_n_ok (i := 0) (k := 0) (by decide +kernel) rfl, jn_aload_n_mo 0⟩ : jn_GEm jn_G0 jn_me34 29 (.inl (jn_aload_n 0))) <|
  jn_cons (⟨jn_aload_n_ok (i := 1) (k := 1) (by decide +kernel) rfl, jn_aload_n_mo 1⟩ : jn_GEm jn_G0 jn_me34 30 (.inl (jn_aload_n 1))) <|
  jn_cons (⟨jn_iload_ok (i := 5) (by decide +kernel), jn_iload_mo 5⟩ : jn_GEm jn_G0 jn_me34 31 (.inl (jn_iload 5))) <|
  jn_cons (⟨jn_lload_n_ok (i := 3) (k := 3) (by decide +kernel) rfl, jn_lload_n_mo 3⟩ : jn_GEm jn_G0 jn_me34 33 (.inl (jn_lload_n 3))) <|
  jn_cons (jn_gc_of jn_G0_35 (jn_callV (i := 38) (na := 3) (ci := 4) (q := (RX4, TX4, 1)) (by decide +kernel) rfl (jn_in 343 (by decide +kernel) rfl) (jn_in 340 (by decide +kernel) rfl) (jn_in 342 (by decide +kernel) rfl) (jn_in 11 (by decide +kernel) rfl) (jn_in 55 (by decide +kernel) rfl) ⟨by decide, by decide, by decide +kernel⟩) : jn_GEm jn_G0 jn_me34 34 (.inr (.inl (35, 6, 4)))) <|
  jn_cons (⟨jn_lstore_n_ok (i := 3) (k := 3) (by decide +kernel) rfl, jn_lstore_n_mo 3⟩ : jn_GEm jn_G0 jn_me34 37 (.inl (jn_lstore_n 3))) <|
  jn_cons (⟨jn_iinc_ok (i := 5) (n := 2) (by decide +kernel), jn_iinc_mo 5 2⟩ : jn_GEm jn_G0 jn_me34 38 (.inl (jn_iinc 5 2))) <|
  jn_cons (⟨jn_goto_ok (t := 5) (off := -36) (by decide +kernel) (by decide), jn_goto_mo 5⟩ : jn_GEm jn_G0 jn_me34 41 (.inl (jn_goto 5))) <| jn_nil
theorem jn_o34_1 : ∀ q ∈ jn_c34_1, jn_GEm jn_G0 jn_me34 q.1 q.2 :=
  jn_cons (⟨jn_lload_n_ok (i := 3) (k := 3) (by decide +kernel) rfl, jn_lload_n_mo 3⟩ : jn_GEm jn_G0 jn_me34 44 (.inl (jn_lload_n 3))) <|
  jn_cons (⟨(by decide +kernel), rfl⟩ : jn_GEm jn_G0 jn_me34 45 (.inr (.inr 3))) <| jn_nil
theorem jn_ok34 : jn_GM jn_G0 34 := jn_GM_of jn_G0_34 rfl rfl (by decide +kernel) (by decide) (jn_appd jn_o34_0 (jn_o34_1))
theorem jn_o35_0 : ∀ q ∈ jn_c35_0, jn_GEm jn_G0 jn_me35 q.1 q.2 :=
  jn_cons (⟨jn_iload_n_ok (i := 2) (k := 2) (by decide +kernel) rfl, jn_iload_n_mo 2⟩ : jn_GEm jn_G0 jn_me35 0 (.inl (jn_iload_n 2))) <|
  jn_cons (jn_gc_of jn_G0_166 (jn_callS (i := 32) (na := 1) (by decide +kernel) (jn_in 336 (by decide +kernel) rfl) (jn_in 334 (by decide +kernel) rfl) (jn_in 335 (by decide +kernel) rfl) (jn_in 62 (by decide +kernel) rfl) ⟨by decide, by decide, by decide +kernel⟩) : jn_GEm jn_G0 jn_me35 1 (.inr (.inl (166, 0, 1)))) <|
  jn_cons (⟨jn_istore_ok (i := 5) (by decide +kernel), jn_istore_mo 5⟩ : jn_GEm jn_G0 jn_me35 4 (.inl (jn_istore 5))) <|
  jn_cons (⟨jn_lload_n_ok (i := 3) (k := 3) (by decide +kernel) rfl, jn_lload_n_mo 3⟩ : jn_GEm jn_G0 jn_me35 6 (.inl (jn_lload_n 3))) <|
  jn_cons (⟨jn_lstore_ok (i := 6) (by decide +kernel), jn_lstore_mo 6⟩ : jn_GEm jn_G0 jn_me35 7 (.inl (jn_lstore 6))) <|
  jn_cons (⟨jn_iload_n_ok (i := 2) (k := 2) (by decide +kernel) rfl, jn_iload_n_mo 2⟩ : jn_GEm jn_G0 jn_me35 9 (.inl (jn_iload_n 2))) <|
  jn_cons (⟨jn_istore_ok (i := 8) (by decide +kernel), jn_istore_mo 8⟩ : jn_GEm jn_G0 jn_me35 10 (.inl (jn_istore 8))) <|
  jn_cons (⟨jn_iload_ok (i := 8) (by decide +kernel), jn_iload_mo 8⟩ : jn_GEm jn_G0 jn_me35 12 (.inl (jn_iload 8))) <|
  jn_cons (⟨jn_aload_n_ok (i := 1) (k := 1) (by decide +kernel) rfl, jn_aload_n_mo 1⟩ : jn_GEm jn_G0 jn_me35 14 (.inl (jn_aload_n 1))) <|
  jn_cons (jn_gc_of jn_G0_13 (jn_callV (i := 22) (na := 0) (ci := 2) (q := (RX2, TX2, 3)) (by decide +kernel) rfl (jn_in 259 (by decide +kernel) rfl) (jn_in 296 (by decide +kernel) rfl) (jn_in 257 (by decide +kernel) rfl) (jn_in 258 (by decide +kernel) rfl) (jn_in 57 (by decide +kernel) rfl) ⟨by decide, by decide, by decide +kernel⟩) : jn_GEm jn_G0 jn_me35 15 (.inr (.inl (13, 4, 1)))) <|
  jn_cons (⟨jn_icgt_ok (t := 59) (off := 41) (by decide +kernel) (by decide), jn_icgt_mo 59⟩ : jn_GEm jn_G0 jn_me35 18 (.inl (jn_icgt 59))) <|
  jn_cons (⟨jn_lload_ok (i := 6) (by decide +kernel), jn_lload_mo 6⟩ : jn_GEm jn_G0 jn_me35 21 (.inl (jn_lload 6))) <|
  jn_cons (⟨jn_lconst_ok (n := 1) (v := 1) (by decide +kernel) (by decide), jn_lconst_mo 1⟩ : jn_GEm jn_G0 jn_me35 23 (.inl (jn_lconst 1))) <|
  jn_cons (⟨jn_lcmp_ok (by decide +kernel), jn_lcmp_mo⟩ : jn_GEm jn_G0 jn_me35 24 (.inl jn_lcmp)) <|
  jn_cons (⟨jn_ifeq_ok (t := 59) (off := 34) (by decide +kernel) (by decide), jn_ifeq_mo 59⟩ : jn_GEm jn_G0 jn_me35 25 (.inl (jn_ifeq 59))) <|
  jn_cons (⟨jn_iload_ok (i := 8) (by decide +kernel), jn_iload_mo 8⟩ : jn_GEm jn_G0 jn_me35 28 (.inl (jn_iload 8))) <|
  jn_cons (jn_gc_of jn_G0_166 (jn_callS (i := 32) (na := 1) (by decide +kernel) (jn_in 336 (by decide +kernel) rfl) (jn_in 334 (by decide +kernel) rfl) (jn_in 335 (by decide +kernel) rfl) (jn_in 62 (by decide +kernel) rfl) ⟨by decide, by decide, by decide +kernel⟩) : jn_GEm jn_G0 jn_me35 30 (.inr (.inl (166, 0, 1)))) <|
  jn_cons (⟨jn_iload_ok (i := 5) (by decide +kernel), jn_iload_mo 5⟩ : jn_GEm jn_G0 jn_me35 33 (.inl (jn_iload 5))) <|
  jn_cons (⟨jn_icne_ok (t := 53) (off := 18) (by decide +kernel) (by decide), jn_icne_mo 53⟩ : jn_GEm jn_G0 jn_me35 35 (.inl (jn_icne 53))) <|
  jn_cons (⟨jn_lload_ok (i := 6) (by decide +kernel), jn_lload_mo 6⟩ : jn_GEm jn_G0 jn_me35 38 (.inl (jn_lload 6))) <|
  jn_cons (⟨jn_aload_n_ok (i := 0) (k := 0) (by decide +kernel) rfl, jn_aload_n_mo 0⟩ : jn_GEm jn_G0 jn_me35 40 (.inl (jn_aload_n 0))) <|
  jn_cons (⟨jn_aload_n_ok (i := 1) (k := 1) (by decide +kernel) rfl, jn_aload_n_mo 1⟩ : jn_GEm jn_G0 jn_me35 41 (.inl (jn_aload_n 1))) <|
  jn_cons (⟨jn_iload_n_ok (i := 2) (k := 2) (by decide +kernel) rfl, jn_iload_n_mo 2⟩ : jn_GEm jn_G0 jn_me35 42 (.inl (jn_iload_n 2))) <|
  jn_cons (⟨jn_iload_ok (i := 8) (by decide +kernel), jn_iload_mo 8⟩ : jn_GEm jn_G0 jn_me35 43 (.inl (jn_iload 8))) <| jn_nil
theorem jn_o35_1 : ∀ q ∈ jn_c35_1, jn_GEm jn_G0 jn_me35 q.1 q.2 :=
  jn_cons (jn_gc_of jn_G0_36 (jn_callV (i := 28) (na := 3) (ci := 4) (q := (RX4, TX4, 1)) (by decide +kernel) rfl (jn_in 300 (by decide +kernel) rfl) (jn_in 297 (by decide +kernel) rfl) (jn_in 298 (by decide +kernel) rfl) (jn_in 299 (by decide +kernel) rfl) (jn_in 55 (by decide +kernel) rfl) ⟨by decide, by decide, by decide +kernel⟩) : jn_GEm jn_G0 jn_me35 45 (.inr (.inl (36, 6, 4)))) <|
  jn_cons (jn_gc_of jn_G0_32 (jn_callS (i := 42) (na := 2) (by decide +kernel) (jn_in 346 (by decide +kernel) rfl) (jn_in 344 (by decide +kernel) rfl) (jn_in 345 (by decide +kernel) rfl) (jn_in 55 (by decide +kernel) rfl) ⟨by decide, by decide, by decide +kernel⟩) : jn_GEm jn_G0 jn_me35 48 (.inr (.inl (32, 0, 2)))) <|
  jn_cons (⟨jn_lstore_ok (i := 6) (by decide +kernel), jn_lstore_mo 6⟩ : jn_GEm jn_G0 jn_me35 51 (.inl (jn_lstore 6))) <|
  jn_cons (⟨jn_iinc_ok (i := 8) (n := 2) (by decide +kernel), jn_iinc_mo 8 2⟩ : jn_GEm jn_G0 jn_me35 53 (.inl (jn_iinc 8 2))) <|
  jn_cons (⟨jn_goto_ok (t := 12) (off := -44) (by decide +kernel) (by decide), jn_goto_mo 12⟩ : jn_GEm jn_G0 jn_me35 56 (.inl (jn_goto 12))) <|
  jn_cons (⟨jn_lload_ok (i := 6) (by decide +kernel), jn_lload_mo 6⟩ : jn_GEm jn_G0 jn_me35 59 (.inl (jn_lload 6))) <|
  jn_cons (⟨(by decide +kernel), rfl⟩ : jn_GEm jn_G0 jn_me35 61 (.inr (.inr 3))) <| jn_nil
theorem jn_ok35 : jn_GM jn_G0 35 := jn_GM_of jn_G0_35 rfl rfl (by decide +kernel) (by decide) (jn_appd jn_o35_0 (jn_o35_1))
theorem jn_o36_0 : ∀ q ∈ jn_c36_0, jn_GEm jn_G0 jn_me36 q.1 q.2 :=
  jn_cons (⟨jn_aload_n_ok (i := 0) (k := 0) (by decide +kernel) rfl, jn_aload_n_mo 0⟩ : jn_GEm jn_G0 jn_me36 0 (.inl (jn_aload_n 0))) <|
  jn_cons (⟨jn_aload_n_ok (i := 1) (k := 1) (by decide +kernel) rfl, jn_aload_n_mo 1⟩ : jn_GEm jn_G0 jn_me36 1 (.inl (jn_aload_n 1))) <|
  jn_cons (⟨jn_iload_n_ok (i := 2) (k := 2) (by decide +kernel) rfl, jn_iload_n_mo 2⟩ : jn_GEm jn_G0 jn_me36 2 (.inl (jn_iload_n 2))) <|
  jn_cons (⟨jn_iload_n_ok (i := 3) (k := 3) (by decide +kernel) rfl, jn_iload_n_mo 3⟩ : jn_GEm jn_G0 jn_me36 3 (.inl (jn_iload_n 3))) <|
  jn_cons (jn_gc_of jn_G0_37 (jn_callV (i := 46) (na := 3) (ci := 4) (q := (RX4, TX4, 1)) (by decide +kernel) rfl (jn_in 304 (by decide +kernel) rfl) (jn_in 301 (by decide +kernel) rfl) (jn_in 303 (by decide +kernel) rfl) (jn_in 6 (by decide +kernel) rfl) (jn_in 55 (by decide +kernel) rfl) ⟨by decide, by decide, by decide +kernel⟩) : jn_GEm jn_G0 jn_me36 4 (.inr (.inl (37, 6, 4)))) <|
  jn_cons (⟨jn_istore_ok (i := 4) (by decide +kernel), jn_istore_mo 4⟩ : jn_GEm jn_G0 jn_me36 7 (.inl (jn_istore 4))) <|
  jn_cons (⟨jn_lconst_ok (n := 1) (v := 1) (by decide +kernel) (by decide), jn_lconst_mo 1⟩ : jn_GEm jn_G0 jn_me36 9 (.inl (jn_lconst 1))) <|
  jn_cons (⟨jn_lstore_ok (i := 5) (by decide +kernel), jn_lstore_mo 5⟩ : jn_GEm jn_G0 jn_me36 10 (.inl (jn_lstore 5))) <|
  jn_cons (⟨jn_iconst_ok (by decide +kernel), jn_iconst_mo 0⟩ : jn_GEm jn_G0 jn_me36 12 (.inl (jn_iconst 0))) <|
  jn_cons (⟨jn_istore_ok (i := 7) (by decide +kernel), jn_istore_mo 7⟩ : jn_GEm jn_G0 jn_me36 13 (.inl (jn_istore 7))) <|
  jn_cons (⟨jn_iload_ok (i := 7) (by decide +kernel), jn_iload_mo 7⟩ : jn_GEm jn_G0 jn_me36 15 (.inl (jn_iload 7))) <|
  jn_cons (⟨jn_iconst_ok (by decide +kernel), jn_iconst_mo 1⟩ : jn_GEm jn_G0 jn_me36 17 (.inl (jn_iconst 1))) <|
  jn_cons (⟨jn_iadd_ok (by decide +kernel), jn_iadd_mo⟩ : jn_GEm jn_G0 jn_me36 18 (.inl jn_iadd)) <|
  jn_cons (⟨jn_iload_ok (i := 4) (by decide +kernel), jn_iload_mo 4⟩ : jn_GEm jn_G0 jn_me36 19 (.inl (jn_iload 4))) <|
  jn_cons (⟨jn_icge_ok (t := 87) (off := 66) (by decide +kernel) (by decide), jn_icge_mo 87⟩ : jn_GEm jn_G0 jn_me36 21 (.inl (jn_icge 87))) <|
  jn_cons (⟨jn_aload_n_ok (i := 0) (k := 0) (by decide +kernel) rfl, jn_aload_n_mo 0⟩ : jn_GEm jn_G0 jn_me36 24 (.inl (jn_aload_n 0))) <|
  jn_cons (⟨jn_iload_ok (i := 7) (by decide +kernel), jn_iload_mo 7⟩ : jn_GEm jn_G0 jn_me36 25 (.inl (jn_iload 7))) <|
  jn_cons (⟨jn_iload_ok (i := 4) (by decide +kernel), jn_iload_mo 4⟩ : jn_GEm jn_G0 jn_me36 27 (.inl (jn_iload 4))) <|
  jn_cons (jn_gc_of jn_G0_39 (jn_callV (i := 50) (na := 2) (ci := 4) (q := (RX4, TX4, 1)) (by decide +kernel) rfl (jn_in 314 (by decide +kernel) rfl) (jn_in 311 (by decide +kernel) rfl) (jn_in 313 (by decide +kernel) rfl) (jn_in 8 (by decide +kernel) rfl) (jn_in 55 (by decide +kernel) rfl) ⟨by decide, by decide, by decide +kernel⟩) : jn_GEm jn_G0 jn_me36 29 (.inr (.inl (39, 6, 3)))) <|
  jn_cons (⟨jn_istore_ok (i := 8) (by decide +kernel), jn_istore_mo 8⟩ : jn_GEm jn_G0 jn_me36 32 (.inl (jn_istore 8))) <|
  jn_cons (⟨jn_iload_ok (i := 8) (by decide +kernel), jn_iload_mo 8⟩ : jn_GEm jn_G0 jn_me36 34 (.inl (jn_iload 8))) <|
  jn_cons (⟨jn_ifge_ok (t := 41) (off := 5) (by decide +kernel) (by decide), jn_ifge_mo 41⟩ : jn_GEm jn_G0 jn_me36 36 (.inl (jn_ifge 41))) <|
  jn_cons (⟨jn_lconst_ok (n := 0) (v := 0) (by decide +kernel) (by decide), jn_lconst_mo 0⟩ : jn_GEm jn_G0 jn_me36 39 (.inl (jn_lconst 0))) <|
  jn_cons (⟨(by decide +kernel), rfl⟩ : jn_GEm jn_G0 jn_me36 40 (.inr (.inr 3))) <| jn_nil
theorem jn_o36_1 : ∀ q ∈ jn_c36_1, jn_GEm jn_G0 jn_me36 q.1 q.2 :=
  jn_cons (⟨jn_iload_ok (i := 8) (by decide +kernel), jn_iload_mo 8⟩ : jn_GEm jn_G0 jn_me36 41 (.inl (jn_iload 8))) <|
  jn_cons (⟨jn_iload_ok (i := 7) (by decide +kernel), jn_iload_mo 7⟩ : jn_GEm jn_G0 jn_me36 43 (.inl (jn_iload 7))) <|
  jn_cons (⟨jn_iceq_ok (t := 56) (off := 11) (by decide +kernel) (by decide), jn_iceq_mo 56⟩ : jn_GEm jn_G0 jn_me36 45 (.inl (jn_iceq 56))) <|
  jn_cons (⟨jn_aload_n_ok (i := 0) (k := 0) (by decide +kernel) rfl, jn_aload_n_mo 0⟩ : jn_GEm jn_G0 jn_me36 48 (.inl (jn_aload_n 0))) <|
  jn_cons (⟨jn_iload_ok (i := 8) (by decide +kernel), jn_iload_mo 8⟩ : jn_GEm jn_G0 jn_me36 49 (.inl (jn_iload 8))) <|
  jn_cons (⟨jn_iload_ok (i := 7) (by decide +kernel), jn_iload_mo 7⟩ : jn_GEm jn_G0 jn_me36 51 (.inl (jn_iload 7))) <|
  jn_cons (jn_gc_of jn_G0_40 (jn_callV (i := 54) (na := 2) (ci := 4) (q := (RX4, TX4, 1)) (by decide +kernel) rfl (jn_in 318 (by decide +kernel) rfl) (jn_in 315 (by decide +kernel) rfl) (jn_in 317 (by decide +kernel) rfl) (jn_in 9 (by decide +kernel) rfl) (jn_in 55 (by decide +kernel) rfl) ⟨by decide, by decide, by decide +kernel⟩) : jn_GEm jn_G0 jn_me36 53 (.inr (.inl (40, 6, 3)))) <|
  jn_cons (⟨jn_aload_n_ok (i := 0) (k := 0) (by decide +kernel) rfl, jn_aload_n_mo 0⟩ : jn_GEm jn_G0 jn_me36 56 (.inl (jn_aload_n 0))) <|
  jn_cons (⟨jn_iload_ok (i := 7) (by decide +kernel), jn_iload_mo 7⟩ : jn_GEm jn_G0 jn_me36 57 (.inl (jn_iload 7))) <|
  jn_cons (⟨jn_iload_ok (i := 4) (by decide +kernel), jn_iload_mo 4⟩ : jn_GEm jn_G0 jn_me36 59 (.inl (jn_iload 4))) <|
  jn_cons (⟨jn_lload_ok (i := 5) (by decide +kernel), jn_lload_mo 5⟩ : jn_GEm jn_G0 jn_me36 61 (.inl (jn_lload 5))) <|
  jn_cons (jn_gc_of jn_G0_41 (jn_callV (i := 58) (na := 3) (ci := 4) (q := (RX4, TX4, 1)) (by decide +kernel) rfl (jn_in 322 (by decide +kernel) rfl) (jn_in 319 (by decide +kernel) rfl) (jn_in 321 (by decide +kernel) rfl) (jn_in 10 (by decide +kernel) rfl) (jn_in 55 (by decide +kernel) rfl) ⟨by decide, by decide, by decide +kernel⟩) : jn_GEm jn_G0 jn_me36 63 (.inr (.inl (41, 6, 4)))) <|
  jn_cons (⟨jn_aload_n_ok (i := 0) (k := 0) (by decide +kernel) rfl, jn_aload_n_mo 0⟩ : jn_GEm jn_G0 jn_me36 66 (.inl (jn_aload_n 0))) <|
  jn_cons (⟨jn_getf_ok (ci := 4) (k := 0) (i := 9) (N := 1) (C := RX4) (T := TX4) (by decide +kernel) rfl (by decide) jn_u4 (jn_in 83 (by decide +kernel) rfl), jn_getf_mo 4 0⟩ : jn_GEm jn_G0 jn_me36 67 (.inl (jn_getf 4 0))) <|
  jn_cons (⟨jn_iload_ok (i := 7) (by decide +kernel), jn_iload_mo 7⟩ : jn_GEm jn_G0 jn_me36 70 (.inl (jn_iload 7))) <|
  jn_cons (⟨jn_bipush_ok (n := 6) (v := 6) (by decide +kernel) (by decide), jn_bipush_mo 6⟩ : jn_GEm jn_G0 jn_me36 72 (.inl (jn_bipush 6))) <|
  jn_cons (⟨jn_imul_ok (by decide +kernel), jn_imul_mo⟩ : jn_GEm jn_G0 jn_me36 74 (.inl jn_imul)) <|
  jn_cons (⟨jn_iload_ok (i := 7) (by decide +kernel), jn_iload_mo 7⟩ : jn_GEm jn_G0 jn_me36 75 (.inl (jn_iload 7))) <|
  jn_cons (⟨jn_iadd_ok (by decide +kernel), jn_iadd_mo⟩ : jn_GEm jn_G0 jn_me36 77 (.inl jn_iadd)) <|
  jn_cons (⟨jn_laload_ok (by decide +kernel), jn_laload_mo⟩ : jn_GEm jn_G0 jn_me36 78 (.inl jn_laload)) <|
  jn_cons (⟨jn_lstore_ok (i := 5) (by decide +kernel), jn_lstore_mo 5⟩ : jn_GEm jn_G0 jn_me36 79 (.inl (jn_lstore 5))) <|
  jn_cons (⟨jn_iinc_ok (i := 7) (n := 1) (by decide +kernel), jn_iinc_mo 7 1⟩ : jn_GEm jn_G0 jn_me36 81 (.inl (jn_iinc 7 1))) <|
  jn_cons (⟨jn_goto_ok (t := 15) (off := -69) (by decide +kernel) (by decide), jn_goto_mo 15⟩ : jn_GEm jn_G0 jn_me36 84 (.inl (jn_goto 15))) <|
  jn_cons (⟨jn_iload_ok (i := 4) (by decide +kernel), jn_iload_mo 4⟩ : jn_GEm jn_G0 jn_me36 87 (.inl (jn_iload 4))) <| jn_nil
theorem jn_o36_2 : ∀ q ∈ jn_c36_2, jn_GEm jn_G0 jn_me36 q.1 q.2 :=
  jn_cons (⟨jn_ifne_ok (t := 96) (off := 7) (by decide +kernel) (by decide), jn_ifne_mo 96⟩ : jn_GEm jn_G0 jn_me36 89 (.inl (jn_ifne 96))) <|
  jn_cons (⟨jn_lconst_ok (n := 1) (v := 1) (by decide +kernel) (by decide), jn_lconst_mo 1⟩ : jn_GEm jn_G0 jn_me36 92 (.inl (jn_lconst 1))) <|
  jn_cons (⟨jn_goto_ok (t := 116) (off := 23) (by decide +kernel) (by decide), jn_goto_mo 116⟩ : jn_GEm jn_G0 jn_me36 93 (.inl (jn_goto 116))) <|
  jn_cons (⟨jn_aload_n_ok (i := 0) (k := 0) (by decide +kernel) rfl, jn_aload_n_mo 0⟩ : jn_GEm jn_G0 jn_me36 96 (.inl (jn_aload_n 0))) <|
  jn_cons (⟨jn_getf_ok (ci := 4) (k := 0) (i := 9) (N := 1) (C := RX4) (T := TX4) (by decide +kernel) rfl (by decide) jn_u4 (jn_in 83 (by decide +kernel) rfl), jn_getf_mo 4 0⟩ : jn_GEm jn_G0 jn_me36 97 (.inl (jn_getf 4 0))) <|
  jn_cons (⟨jn_iload_ok (i := 4) (by decide +kernel), jn_iload_mo 4⟩ : jn_GEm jn_G0 jn_me36 100 (.inl (jn_iload 4))) <|
  jn_cons (⟨jn_iconst_ok (by decide +kernel), jn_iconst_mo 1⟩ : jn_GEm jn_G0 jn_me36 102 (.inl (jn_iconst 1))) <|
  jn_cons (⟨jn_isub_ok (by decide +kernel), jn_isub_mo⟩ : jn_GEm jn_G0 jn_me36 103 (.inl jn_isub)) <|
  jn_cons (⟨jn_bipush_ok (n := 6) (v := 6) (by decide +kernel) (by decide), jn_bipush_mo 6⟩ : jn_GEm jn_G0 jn_me36 104 (.inl (jn_bipush 6))) <|
  jn_cons (⟨jn_imul_ok (by decide +kernel), jn_imul_mo⟩ : jn_GEm jn_G0 jn_me36 106 (.inl jn_imul)) <|
  jn_cons (⟨jn_iload_ok (i := 4) (by decide +kernel), jn_iload_mo 4⟩ : jn_GEm jn_G0 jn_me36 107 (.inl (jn_iload 4))) <|
  jn_cons (⟨jn_iadd_ok (by decide +kernel), jn_iadd_mo⟩ : jn_GEm jn_G0 jn_me36 109 (.inl jn_iadd)) <|
  jn_cons (⟨jn_iconst_ok (by decide +kernel), jn_iconst_mo 1⟩ : jn_GEm jn_G0 jn_me36 110 (.inl (jn_iconst 1))) <|
  jn_cons (⟨jn_isub_ok (by decide +kernel), jn_isub_mo⟩ : jn_GEm jn_G0 jn_me36 111 (.inl jn_isub)) <|
  jn_cons (⟨jn_laload_ok (by decide +kernel), jn_laload_mo⟩ : jn_GEm jn_G0 jn_me36 112 (.inl jn_laload)) <|
  jn_cons (jn_gc_of jn_G0_169 (jn_callS (i := 15) (na := 1) (by decide +kernel) (jn_in 325 (by decide +kernel) rfl) (jn_in 323 (by decide +kernel) rfl) (jn_in 324 (by decide +kernel) rfl) (jn_in 61 (by decide +kernel) rfl) ⟨by decide, by decide, by decide +kernel⟩) : jn_GEm jn_G0 jn_me36 113 (.inr (.inl (169, 0, 1)))) <|
  jn_cons (⟨(by decide +kernel), rfl⟩ : jn_GEm jn_G0 jn_me36 116 (.inr (.inr 3))) <| jn_nil
theorem jn_ok36 : jn_GM jn_G0 36 := jn_GM_of jn_G0_36 rfl rfl (by decide +kernel) (by decide) (jn_appd jn_o36_0 (jn_appd jn_o36_1 (jn_o36_2)))
theorem jn_o37_0 : ∀ q ∈ jn_c37_0, jn_GEm jn_G0 jn_me37 q.1 q.2 :=
  jn_cons (⟨jn_iconst_ok (by decide +kernel), jn_iconst_mo 0⟩ : jn_GEm jn_G0 jn_me37 0 (.inl (jn_iconst 0))) <|
  jn_cons (⟨jn_istore_ok (i := 4) (by decide +kernel), jn_istore_mo 4⟩ : jn_GEm jn_G0 jn_me37 1 (.inl (jn_istore 4))) <|
  jn_cons (⟨jn_iconst_ok (by decide +kernel), jn_iconst_mo 0⟩ : jn_GEm jn_G0 jn_me37 3 (.inl (jn_iconst 0))) <|
  jn_cons (⟨jn_istore_ok (i := 5) (by decide +kernel), jn_istore_mo 5⟩ : jn_GEm jn_G0 jn_me37 4 (.inl (jn_istore 5))) <|
  jn_cons (⟨jn_iload_ok (i := 5) (by decide +kernel), jn_iload_mo 5⟩ : jn_GEm jn_G0 jn_me37 6 (.inl (jn_iload 5))) <|
  jn_cons (⟨jn_aload_n_ok (i := 1) (k := 1) (by decide +kernel) rfl, jn_aload_n_mo 1⟩ : jn_GEm jn_G0 jn_me37 8 (.inl (jn_aload_n 1))) <|
  jn_cons (⟨jn_getf_ok (ci := 2) (k := 1) (i := 62) (N := 3) (C := RX2) (T := TX2) (by decide +kernel) rfl (by decide) jn_u2 (jn_in 107 (by decide +kernel) rfl), jn_getf_mo 2 1⟩ : jn_GEm jn_G0 jn_me37 9 (.inl (jn_getf 2 1))) <|
  jn_cons (⟨jn_icge_ok (t := 46) (off := 34) (by decide +kernel) (by decide), jn_icge_mo 46⟩ : jn_GEm jn_G0 jn_me37 12 (.inl (jn_icge 46))) <|
  jn_cons (⟨jn_iload_n_ok (i := 2) (k := 2) (by decide +kernel) rfl, jn_iload_n_mo 2⟩ : jn_GEm jn_G0 jn_me37 15 (.inl (jn_iload_n 2))) <|
  jn_cons (⟨jn_iload_ok (i := 5) (by decide +kernel), jn_iload_mo 5⟩ : jn_GEm jn_G0 jn_me37 16 (.inl (jn_iload 5))) <|
  jn_cons (⟨jn_ishr_ok (by decide +kernel), jn_ishr_mo⟩ : jn_GEm jn_G0 jn_me37 18 (.inl jn_ishr)) <|
  jn_cons (⟨jn_iconst_ok (by decide +kernel), jn_iconst_mo 1⟩ : jn_GEm jn_G0 jn_me37 19 (.inl (jn_iconst 1))) <|
  jn_cons (⟨jn_iand_ok (by decide +kernel), jn_iand_mo⟩ : jn_GEm jn_G0 jn_me37 20 (.inl jn_iand)) <|
  jn_cons (⟨jn_ifeq_ok (t := 40) (off := 19) (by decide +kernel) (by decide), jn_ifeq_mo 40⟩ : jn_GEm jn_G0 jn_me37 21 (.inl (jn_ifeq 40))) <|
  jn_cons (⟨jn_aload_n_ok (i := 0) (k := 0) (by decide +kernel) rfl, jn_aload_n_mo 0⟩ : jn_GEm jn_G0 jn_me37 24 (.inl (jn_aload_n 0))) <|
  jn_cons (⟨jn_aload_n_ok (i := 1) (k := 1) (by decide +kernel) rfl, jn_aload_n_mo 1⟩ : jn_GEm jn_G0 jn_me37 25 (.inl (jn_aload_n 1))) <|
  jn_cons (⟨jn_iload_ok (i := 5) (by decide +kernel), jn_iload_mo 5⟩ : jn_GEm jn_G0 jn_me37 26 (.inl (jn_iload 5))) <|
  jn_cons (⟨jn_iload_n_ok (i := 3) (k := 3) (by decide +kernel) rfl, jn_iload_n_mo 3⟩ : jn_GEm jn_G0 jn_me37 28 (.inl (jn_iload_n 3))) <|
  jn_cons (⟨jn_iload_ok (i := 4) (by decide +kernel), jn_iload_mo 4⟩ : jn_GEm jn_G0 jn_me37 29 (.inl (jn_iload 4))) <|
  jn_cons (⟨jn_bipush_ok (n := 6) (v := 6) (by decide +kernel) (by decide), jn_bipush_mo 6⟩ : jn_GEm jn_G0 jn_me37 31 (.inl (jn_bipush 6))) <|
  jn_cons (⟨jn_imul_ok (by decide +kernel), jn_imul_mo⟩ : jn_GEm jn_G0 jn_me37 33 (.inl jn_imul)) <|
  jn_cons (jn_gc_of jn_G0_38 (jn_callV (i := 66) (na := 4) (ci := 4) (q := (RX4, TX4, 1)) (by decide +kernel) rfl (jn_in 308 (by decide +kernel) rfl) (jn_in 305 (by decide +kernel) rfl) (jn_in 307 (by decide +kernel) rfl) (jn_in 7 (by decide +kernel) rfl) (jn_in 55 (by decide +kernel) rfl) ⟨by decide, by decide, by decide +kernel⟩) : jn_GEm jn_G0 jn_me37 34 (.inr (.inl (38, 6, 5)))) <|
  jn_cons (⟨jn_iinc_ok (i := 4) (n := 1) (by decide +kernel), jn_iinc_mo 4 1⟩ : jn_GEm jn_G0 jn_me37 37 (.inl (jn_iinc 4 1))) <|
  jn_cons (⟨jn_iinc_ok (i := 5) (n := 1) (by decide +kernel), jn_iinc_mo 5 1⟩ : jn_GEm jn_G0 jn_me37 40 (.inl (jn_iinc 5 1))) <| jn_nil
theorem jn_o37_1 : ∀ q ∈ jn_c37_1, jn_GEm jn_G0 jn_me37 q.1 q.2 :=
  jn_cons (⟨jn_goto_ok (t := 6) (off := -37) (by decide +kernel) (by decide), jn_goto_mo 6⟩ : jn_GEm jn_G0 jn_me37 43 (.inl (jn_goto 6))) <|
  jn_cons (⟨jn_iload_ok (i := 4) (by decide +kernel), jn_iload_mo 4⟩ : jn_GEm jn_G0 jn_me37 46 (.inl (jn_iload 4))) <|
  jn_cons (⟨(by decide +kernel), rfl⟩ : jn_GEm jn_G0 jn_me37 48 (.inr (.inr 1))) <| jn_nil
theorem jn_ok37 : jn_GM jn_G0 37 := jn_GM_of jn_G0_37 rfl rfl (by decide +kernel) (by decide) (jn_appd jn_o37_0 (jn_o37_1))
theorem jn_o38_0 : ∀ q ∈ jn_c38_0, jn_GEm jn_G0 jn_me38 q.1 q.2 :=
  jn_cons (⟨jn_iload_ok (i := 4) (by decide +kernel), jn_iload_mo 4⟩ : jn_GEm jn_G0 jn_me38 0 (.inl (jn_iload 4))) <|
  jn_cons (⟨jn_istore_ok (i := 5) (by decide +kernel), jn_istore_mo 5⟩ : jn_GEm jn_G0 jn_me38 2 (.inl (jn_istore 5))) <|
  jn_cons (⟨jn_iconst_ok (by decide +kernel), jn_iconst_mo 0⟩ : jn_GEm jn_G0 jn_me38 4 (.inl (jn_iconst 0))) <|
  jn_cons (⟨jn_istore_ok (i := 6) (by decide +kernel), jn_istore_mo 6⟩ : jn_GEm jn_G0 jn_me38 5 (.inl (jn_istore 6))) <|
  jn_cons (⟨jn_iload_ok (i := 6) (by decide +kernel), jn_iload_mo 6⟩ : jn_GEm jn_G0 jn_me38 7 (.inl (jn_iload 6))) <|
  jn_cons (⟨jn_aload_n_ok (i := 1) (k := 1) (by decide +kernel) rfl, jn_aload_n_mo 1⟩ : jn_GEm jn_G0 jn_me38 9 (.inl (jn_aload_n 1))) <|
  jn_cons (⟨jn_getf_ok (ci := 2) (k := 1) (i := 62) (N := 3) (C := RX2) (T := TX2) (by decide +kernel) rfl (by decide) jn_u2 (jn_in 107 (by decide +kernel) rfl), jn_getf_mo 2 1⟩ : jn_GEm jn_G0 jn_me38 10 (.inl (jn_getf 2 1))) <|
  jn_cons (⟨jn_icge_ok (t := 65) (off := 52) (by decide +kernel) (by decide), jn_icge_mo 65⟩ : jn_GEm jn_G0 jn_me38 13 (.inl (jn_icge 65))) <|
  jn_cons (⟨jn_iload_n_ok (i := 3) (k := 3) (by decide +kernel) rfl, jn_iload_n_mo 3⟩ : jn_GEm jn_G0 jn_me38 16 (.inl (jn_iload_n 3))) <|
  jn_cons (⟨jn_iload_ok (i := 6) (by decide +kernel), jn_iload_mo 6⟩ : jn_GEm jn_G0 jn_me38 17 (.inl (jn_iload 6))) <|
  jn_cons (⟨jn_ishr_ok (by decide +kernel), jn_ishr_mo⟩ : jn_GEm jn_G0 jn_me38 19 (.inl jn_ishr)) <|
  jn_cons (⟨jn_iconst_ok (by decide +kernel), jn_iconst_mo 1⟩ : jn_GEm jn_G0 jn_me38 20 (.inl (jn_iconst 1))) <|
  jn_cons (⟨jn_iand_ok (by decide +kernel), jn_iand_mo⟩ : jn_GEm jn_G0 jn_me38 21 (.inl jn_iand)) <|
  jn_cons (⟨jn_ifeq_ok (t := 59) (off := 37) (by decide +kernel) (by decide), jn_ifeq_mo 59⟩ : jn_GEm jn_G0 jn_me38 22 (.inl (jn_ifeq 59))) <|
  jn_cons (⟨jn_aload_n_ok (i := 0) (k := 0) (by decide +kernel) rfl, jn_aload_n_mo 0⟩ : jn_GEm jn_G0 jn_me38 25 (.inl (jn_aload_n 0))) <|
  jn_cons (⟨jn_getf_ok (ci := 4) (k := 0) (i := 9) (N := 1) (C := RX4) (T := TX4) (by decide +kernel) rfl (by decide) jn_u4 (jn_in 83 (by decide +kernel) rfl), jn_getf_mo 4 0⟩ : jn_GEm jn_G0 jn_me38 26 (.inl (jn_getf 4 0))) <|
  jn_cons (⟨jn_iload_ok (i := 5) (by decide +kernel), jn_iload_mo 5⟩ : jn_GEm jn_G0 jn_me38 29 (.inl (jn_iload 5))) <|
  jn_cons (⟨jn_iload_n_ok (i := 2) (k := 2) (by decide +kernel) rfl, jn_iload_n_mo 2⟩ : jn_GEm jn_G0 jn_me38 31 (.inl (jn_iload_n 2))) <|
  jn_cons (⟨jn_iload_ok (i := 6) (by decide +kernel), jn_iload_mo 6⟩ : jn_GEm jn_G0 jn_me38 32 (.inl (jn_iload 6))) <|
  jn_cons (⟨jn_icne_ok (t := 46) (off := 12) (by decide +kernel) (by decide), jn_icne_mo 46⟩ : jn_GEm jn_G0 jn_me38 34 (.inl (jn_icne 46))) <|
  jn_cons (⟨jn_aload_n_ok (i := 1) (k := 1) (by decide +kernel) rfl, jn_aload_n_mo 1⟩ : jn_GEm jn_G0 jn_me38 37 (.inl (jn_aload_n 1))) <|
  jn_cons (⟨jn_iload_n_ok (i := 2) (k := 2) (by decide +kernel) rfl, jn_iload_n_mo 2⟩ : jn_GEm jn_G0 jn_me38 38 (.inl (jn_iload_n 2))) <|
  jn_cons (jn_gc_of jn_G0_16 (jn_callV (i := 70) (na := 1) (ci := 2) (q := (RX2, TX2, 3)) (by decide +kernel) rfl (jn_in 271 (by decide +kernel) rfl) (jn_in 309 (by decide +kernel) rfl) (jn_in 269 (by decide +kernel) rfl) (jn_in 270 (by decide +kernel) rfl) (jn_in 57 (by decide +kernel) rfl) ⟨by decide, by decide, by decide +kernel⟩) : jn_GEm jn_G0 jn_me38 39 (.inr (.inl (16, 4, 2)))) <|
  jn_cons (⟨jn_i2l_ok (by decide +kernel), jn_i2l_mo⟩ : jn_GEm jn_G0 jn_me38 42 (.inl jn_i2l)) <| jn_nil
theorem jn_o38_1 : ∀ q ∈ jn_c38_1, jn_GEm jn_G0 jn_me38 q.1 q.2 :=
  jn_cons (⟨jn_goto_ok (t := 55) (off := 12) (by decide +kernel) (by decide), jn_goto_mo 55⟩ : jn_GEm jn_G0 jn_me38 43 (.inl (jn_goto 55))) <|
  jn_cons (⟨jn_aload_n_ok (i := 1) (k := 1) (by decide +kernel) rfl, jn_aload_n_mo 1⟩ : jn_GEm jn_G0 jn_me38 46 (.inl (jn_aload_n 1))) <|
  jn_cons (⟨jn_iload_n_ok (i := 2) (k := 2) (by decide +kernel) rfl, jn_iload_n_mo 2⟩ : jn_GEm jn_G0 jn_me38 47 (.inl (jn_iload_n 2))) <|
  jn_cons (⟨jn_iload_ok (i := 6) (by decide +kernel), jn_iload_mo 6⟩ : jn_GEm jn_G0 jn_me38 48 (.inl (jn_iload 6))) <|
  jn_cons (jn_gc_of jn_G0_14 (jn_callV (i := 73) (na := 2) (ci := 2) (q := (RX2, TX2, 3)) (by decide +kernel) rfl (jn_in 235 (by decide +kernel) rfl) (jn_in 310 (by decide +kernel) rfl) (jn_in 233 (by decide +kernel) rfl) (jn_in 234 (by decide +kernel) rfl) (jn_in 57 (by decide +kernel) rfl) ⟨by decide, by decide, by decide +kernel⟩) : jn_GEm jn_G0 jn_me38 50 (.inr (.inl (14, 4, 3)))) <|
  jn_cons (⟨jn_ineg_ok (by decide +kernel), jn_ineg_mo⟩ : jn_GEm jn_G0 jn_me38 53 (.inl jn_ineg)) <|
  jn_cons (⟨jn_i2l_ok (by decide +kernel), jn_i2l_mo⟩ : jn_GEm jn_G0 jn_me38 54 (.inl jn_i2l)) <|
  jn_cons (⟨jn_lastore_ok (by decide +kernel), jn_lastore_mo⟩ : jn_GEm jn_G0 jn_me38 55 (.inl jn_lastore)) <|
  jn_cons (⟨jn_iinc_ok (i := 5) (n := 1) (by decide +kernel), jn_iinc_mo 5 1⟩ : jn_GEm jn_G0 jn_me38 56 (.inl (jn_iinc 5 1))) <|
  jn_cons (⟨jn_iinc_ok (i := 6) (n := 1) (by decide +kernel), jn_iinc_mo 6 1⟩ : jn_GEm jn_G0 jn_me38 59 (.inl (jn_iinc 6 1))) <|
  jn_cons (⟨jn_goto_ok (t := 7) (off := -55) (by decide +kernel) (by decide), jn_goto_mo 7⟩ : jn_GEm jn_G0 jn_me38 62 (.inl (jn_goto 7))) <|
  jn_cons (⟨(by decide +kernel), rfl⟩ : jn_GEm jn_G0 jn_me38 65 (.inr (.inr 0))) <| jn_nil
theorem jn_ok38 : jn_GM jn_G0 38 := jn_GM_of jn_G0_38 rfl rfl (by decide +kernel) (by decide) (jn_appd jn_o38_0 (jn_o38_1))
theorem jn_o39_0 : ∀ q ∈ jn_c39_0, jn_GEm jn_G0 jn_me39 q.1 q.2 :=
  jn_cons (⟨jn_iload_n_ok (i := 1) (k := 1) (by decide +kernel) rfl, jn_iload_n_mo 1⟩ : jn_GEm jn_G0 jn_me39 0 (.inl (jn_iload_n 1))) <|
  jn_cons (⟨jn_istore_n_ok (i := 3) (k := 3) (by decide +kernel) rfl, jn_istore_n_mo 3⟩ : jn_GEm jn_G0 jn_me39 1 (.inl (jn_istore_n 3))) <|
  jn_cons (⟨jn_iload_n_ok (i := 3) (k := 3) (by decide +kernel) rfl, jn_iload_n_mo 3⟩ : jn_GEm jn_G0 jn_me39 2 (.inl (jn_iload_n 3))) <|
  jn_cons (⟨jn_iload_n_ok (i := 2) (k := 2) (by decide +kernel) rfl, jn_iload_n_mo 2⟩ : jn_GEm jn_G0 jn_me39 3 (.inl (jn_iload_n 2))) <|
  jn_cons (⟨jn_icge_ok (t := 31) (off := 27) (by decide +kernel) (by decide), jn_icge_mo 31⟩ : jn_GEm jn_G0 jn_me39 4 (.inl (jn_icge 31))) <|
  jn_cons (⟨jn_aload_n_ok (i := 0) (k := 0) (by decide +kernel) rfl, jn_aload_n_mo 0⟩ : jn_GEm jn_G0 jn_me39 7 (.inl (jn_aload_n 0))) <|
  jn_cons (⟨jn_getf_ok (ci := 4) (k := 0) (i := 9) (N := 1) (C := RX4) (T := TX4) (by decide +kernel) rfl (by decide) jn_u4 (jn_in 83 (by decide +kernel) rfl), jn_getf_mo 4 0⟩ : jn_GEm jn_G0 jn_me39 8 (.inl (jn_getf 4 0))) <|
  jn_cons (⟨jn_iload_n_ok (i := 3) (k := 3) (by decide +kernel) rfl, jn_iload_n_mo 3⟩ : jn_GEm jn_G0 jn_me39 11 (.inl (jn_iload_n 3))) <|
  jn_cons (⟨jn_bipush_ok (n := 6) (v := 6) (by decide +kernel) (by decide), jn_bipush_mo 6⟩ : jn_GEm jn_G0 jn_me39 12 (.inl (jn_bipush 6))) <|
  jn_cons (⟨jn_imul_ok (by decide +kernel), jn_imul_mo⟩ : jn_GEm jn_G0 jn_me39 14 (.inl jn_imul)) <|
  jn_cons (⟨jn_iload_n_ok (i := 1) (k := 1) (by decide +kernel) rfl, jn_iload_n_mo 1⟩ : jn_GEm jn_G0 jn_me39 15 (.inl (jn_iload_n 1))) <|
  jn_cons (⟨jn_iadd_ok (by decide +kernel), jn_iadd_mo⟩ : jn_GEm jn_G0 jn_me39 16 (.inl jn_iadd)) <|
  jn_cons (⟨jn_laload_ok (by decide +kernel), jn_laload_mo⟩ : jn_GEm jn_G0 jn_me39 17 (.inl jn_laload)) <|
  jn_cons (⟨jn_lconst_ok (n := 0) (v := 0) (by decide +kernel) (by decide), jn_lconst_mo 0⟩ : jn_GEm jn_G0 jn_me39 18 (.inl (jn_lconst 0))) <|
  jn_cons (⟨jn_lcmp_ok (by decide +kernel), jn_lcmp_mo⟩ : jn_GEm jn_G0 jn_me39 19 (.inl jn_lcmp)) <|
  jn_cons (⟨jn_ifeq_ok (t := 25) (off := 5) (by decide +kernel) (by decide), jn_ifeq_mo 25⟩ : jn_GEm jn_G0 jn_me39 20 (.inl (jn_ifeq 25))) <|
  jn_cons (⟨jn_iload_n_ok (i := 3) (k := 3) (by decide +kernel) rfl, jn_iload_n_mo 3⟩ : jn_GEm jn_G0 jn_me39 23 (.inl (jn_iload_n 3))) <|
  jn_cons (⟨(by decide +kernel), rfl⟩ : jn_GEm jn_G0 jn_me39 24 (.inr (.inr 1))) <|
  jn_cons (⟨jn_iinc_ok (i := 3) (n := 1) (by decide +kernel), jn_iinc_mo 3 1⟩ : jn_GEm jn_G0 jn_me39 25 (.inl (jn_iinc 3 1))) <|
  jn_cons (⟨jn_goto_ok (t := 2) (off := -26) (by decide +kernel) (by decide), jn_goto_mo 2⟩ : jn_GEm jn_G0 jn_me39 28 (.inl (jn_goto 2))) <|
  jn_cons (⟨jn_iconst_ok (by decide +kernel), jn_iconst_mo (-1)⟩ : jn_GEm jn_G0 jn_me39 31 (.inl (jn_iconst (-1)))) <|
  jn_cons (⟨(by decide +kernel), rfl⟩ : jn_GEm jn_G0 jn_me39 32 (.inr (.inr 1))) <| jn_nil
theorem jn_ok39 : jn_GM jn_G0 39 := jn_GM_of jn_G0_39 rfl rfl (by decide +kernel) (by decide) (jn_o39_0)
theorem jn_o40_0 : ∀ q ∈ jn_c40_0, jn_GEm jn_G0 jn_me40 q.1 q.2 :=
  jn_cons (⟨jn_iconst_ok (by decide +kernel), jn_iconst_mo 0⟩ : jn_GEm jn_G0 jn_me40 0 (.inl (jn_iconst 0))) <|
  jn_cons (⟨jn_istore_n_ok (i := 3) (k := 3) (by decide +kernel) rfl, jn_istore_n_mo 3⟩ : jn_GEm jn_G0 jn_me40 1 (.inl (jn_istore_n 3))) <|
  jn_cons (⟨jn_iload_n_ok (i := 3) (k := 3) (by decide +kernel) rfl, jn_iload_n_mo 3⟩ : jn_GEm jn_G0 jn_me40 2 (.inl (jn_iload_n 3))) <|
  jn_cons (⟨jn_bipush_ok (n := 6) (v := 6) (by decide +kernel) (by decide), jn_bipush_mo 6⟩ : jn_GEm jn_G0 jn_me40 3 (.inl (jn_bipush 6))) <|
  jn_cons (⟨jn_icge_ok (t := 62) (off := 57) (by decide +kernel) (by decide), jn_icge_mo 62⟩ : jn_GEm jn_G0 jn_me40 5 (.inl (jn_icge 62))) <|
  jn_cons (⟨jn_aload_n_ok (i := 0) (k := 0) (by decide +kernel) rfl, jn_aload_n_mo 0⟩ : jn_GEm jn_G0 jn_me40 8 (.inl (jn_aload_n 0))) <|
  jn_cons (⟨jn_getf_ok (ci := 4) (k := 0) (i := 9) (N := 1) (C := RX4) (T := TX4) (by decide +kernel) rfl (by decide) jn_u4 (jn_in 83 (by decide +kernel) rfl), jn_getf_mo 4 0⟩ : jn_GEm jn_G0 jn_me40 9 (.inl (jn_getf 4 0))) <|
  jn_cons (⟨jn_iload_n_ok (i := 1) (k := 1) (by decide +kernel) rfl, jn_iload_n_mo 1⟩ : jn_GEm jn_G0 jn_me40 12 (.inl (jn_iload_n 1))) <|
  jn_cons (⟨jn_bipush_ok (n := 6) (v := 6) (by decide +kernel) (by decide), jn_bipush_mo 6⟩ : jn_GEm jn_G0 jn_me40 13 (.inl (jn_bipush 6))) <|
  jn_cons (⟨jn_imul_ok (by decide +kernel), jn_imul_mo⟩ : jn_GEm jn_G0 jn_me40 15 (.inl jn_imul)) <|
  jn_cons (⟨jn_iload_n_ok (i := 3) (k := 3) (by decide +kernel) rfl, jn_iload_n_mo 3⟩ : jn_GEm jn_G0 jn_me40 16 (.inl (jn_iload_n 3))) <|
  jn_cons (⟨jn_iadd_ok (by decide +kernel), jn_iadd_mo⟩ : jn_GEm jn_G0 jn_me40 17 (.inl jn_iadd)) <|
  jn_cons (⟨jn_laload_ok (by decide +kernel), jn_laload_mo⟩ : jn_GEm jn_G0 jn_me40 18 (.inl jn_laload)) <|
  jn_cons (⟨jn_lstore_ok (i := 4) (by decide +kernel), jn_lstore_mo 4⟩ : jn_GEm jn_G0 jn_me40 19 (.inl (jn_lstore 4))) <|
  jn_cons (⟨jn_aload_n_ok (i := 0) (k := 0) (by decide +kernel) rfl, jn_aload_n_mo 0⟩ : jn_GEm jn_G0 jn_me40 21 (.inl (jn_aload_n 0))) <|
  jn_cons (⟨jn_getf_ok (ci := 4) (k := 0) (i := 9) (N := 1) (C := RX4) (T := TX4) (by decide +kernel) rfl (by decide) jn_u4 (jn_in 83 (by decide +kernel) rfl), jn_getf_mo 4 0⟩ : jn_GEm jn_G0 jn_me40 22 (.inl (jn_getf 4 0))) <|
  jn_cons (⟨jn_iload_n_ok (i := 1) (k := 1) (by decide +kernel) rfl, jn_iload_n_mo 1⟩ : jn_GEm jn_G0 jn_me40 25 (.inl (jn_iload_n 1))) <|
  jn_cons (⟨jn_bipush_ok (n := 6) (v := 6) (by decide +kernel) (by decide), jn_bipush_mo 6⟩ : jn_GEm jn_G0 jn_me40 26 (.inl (jn_bipush 6))) <|
  jn_cons (⟨jn_imul_ok (by decide +kernel), jn_imul_mo⟩ : jn_GEm jn_G0 jn_me40 28 (.inl jn_imul)) <|
  jn_cons (⟨jn_iload_n_ok (i := 3) (k := 3) (by decide +kernel) rfl, jn_iload_n_mo 3⟩ : jn_GEm jn_G0 jn_me40 29 (.inl (jn_iload_n 3))) <|
  jn_cons (⟨jn_iadd_ok (by decide +kernel), jn_iadd_mo⟩ : jn_GEm jn_G0 jn_me40 30 (.inl jn_iadd)) <|
  jn_cons (⟨jn_aload_n_ok (i := 0) (k := 0) (by decide +kernel) rfl, jn_aload_n_mo 0⟩ : jn_GEm jn_G0 jn_me40 31 (.inl (jn_aload_n 0))) <|
  jn_cons (⟨jn_getf_ok (ci := 4) (k := 0) (i := 9) (N := 1) (C := RX4) (T := TX4) (by decide +kernel) rfl (by decide) jn_u4 (jn_in 83 (by decide +kernel) rfl), jn_getf_mo 4 0⟩ : jn_GEm jn_G0 jn_me40 32 (.inl (jn_getf 4 0))) <|
  jn_cons (⟨jn_iload_n_ok (i := 2) (k := 2) (by decide +kernel) rfl, jn_iload_n_mo 2⟩ : jn_GEm jn_G0 jn_me40 35 (.inl (jn_iload_n 2))) <| jn_nil
theorem jn_o40_1 : ∀ q ∈ jn_c40_1, jn_GEm jn_G0 jn_me40 q.1 q.2 :=
  jn_cons (⟨jn_bipush_ok (n := 6) (v := 6) (by decide +kernel) (by decide), jn_bipush_mo 6⟩ : jn_GEm jn_G0 jn_me40 36 (.inl (jn_bipush 6))) <|
  jn_cons (⟨jn_imul_ok (by decide +kernel), jn_imul_mo⟩ : jn_GEm jn_G0 jn_me40 38 (.inl jn_imul)) <|
  jn_cons (⟨jn_iload_n_ok (i := 3) (k := 3) (by decide +kernel) rfl, jn_iload_n_mo 3⟩ : jn_GEm jn_G0 jn_me40 39 (.inl (jn_iload_n 3))) <|
  jn_cons (⟨jn_iadd_ok (by decide +kernel), jn_iadd_mo⟩ : jn_GEm jn_G0 jn_me40 40 (.inl jn_iadd)) <|
  jn_cons (⟨jn_laload_ok (by decide +kernel), jn_laload_mo⟩ : jn_GEm jn_G0 jn_me40 41 (.inl jn_laload)) <|
  jn_cons (⟨jn_lastore_ok (by decide +kernel), jn_lastore_mo⟩ : jn_GEm jn_G0 jn_me40 42 (.inl jn_lastore)) <|
  jn_cons (⟨jn_aload_n_ok (i := 0) (k := 0) (by decide +kernel) rfl, jn_aload_n_mo 0⟩ : jn_GEm jn_G0 jn_me40 43 (.inl (jn_aload_n 0))) <|
  jn_cons (⟨jn_getf_ok (ci := 4) (k := 0) (i := 9) (N := 1) (C := RX4) (T := TX4) (by decide +kernel) rfl (by decide) jn_u4 (jn_in 83 (by decide +kernel) rfl), jn_getf_mo 4 0⟩ : jn_GEm jn_G0 jn_me40 44 (.inl (jn_getf 4 0))) <|
  jn_cons (⟨jn_iload_n_ok (i := 2) (k := 2) (by decide +kernel) rfl, jn_iload_n_mo 2⟩ : jn_GEm jn_G0 jn_me40 47 (.inl (jn_iload_n 2))) <|
  jn_cons (⟨jn_bipush_ok (n := 6) (v := 6) (by decide +kernel) (by decide), jn_bipush_mo 6⟩ : jn_GEm jn_G0 jn_me40 48 (.inl (jn_bipush 6))) <|
  jn_cons (⟨jn_imul_ok (by decide +kernel), jn_imul_mo⟩ : jn_GEm jn_G0 jn_me40 50 (.inl jn_imul)) <|
  jn_cons (⟨jn_iload_n_ok (i := 3) (k := 3) (by decide +kernel) rfl, jn_iload_n_mo 3⟩ : jn_GEm jn_G0 jn_me40 51 (.inl (jn_iload_n 3))) <|
  jn_cons (⟨jn_iadd_ok (by decide +kernel), jn_iadd_mo⟩ : jn_GEm jn_G0 jn_me40 52 (.inl jn_iadd)) <|
  jn_cons (⟨jn_lload_ok (i := 4) (by decide +kernel), jn_lload_mo 4⟩ : jn_GEm jn_G0 jn_me40 53 (.inl (jn_lload 4))) <|
  jn_cons (⟨jn_lastore_ok (by decide +kernel), jn_lastore_mo⟩ : jn_GEm jn_G0 jn_me40 55 (.inl jn_lastore)) <|
  jn_cons (⟨jn_iinc_ok (i := 3) (n := 1) (by decide +kernel), jn_iinc_mo 3 1⟩ : jn_GEm jn_G0 jn_me40 56 (.inl (jn_iinc 3 1))) <|
  jn_cons (⟨jn_goto_ok (t := 2) (off := -57) (by decide +kernel) (by decide), jn_goto_mo 2⟩ : jn_GEm jn_G0 jn_me40 59 (.inl (jn_goto 2))) <|
  jn_cons (⟨(by decide +kernel), rfl⟩ : jn_GEm jn_G0 jn_me40 62 (.inr (.inr 0))) <| jn_nil
theorem jn_ok40 : jn_GM jn_G0 40 := jn_GM_of jn_G0_40 rfl rfl (by decide +kernel) (by decide) (jn_appd jn_o40_0 (jn_o40_1))
theorem jn_o41_0 : ∀ q ∈ jn_c41_0, jn_GEm jn_G0 jn_me41 q.1 q.2 :=
  jn_cons (⟨jn_iload_n_ok (i := 1) (k := 1) (by decide +kernel) rfl, jn_iload_n_mo 1⟩ : jn_GEm jn_G0 jn_me41 0 (.inl (jn_iload_n 1))) <|
  jn_cons (⟨jn_bipush_ok (n := 6) (v := 6) (by decide +kernel) (by decide), jn_bipush_mo 6⟩ : jn_GEm jn_G0 jn_me41 1 (.inl (jn_bipush 6))) <|
  jn_cons (⟨jn_imul_ok (by decide +kernel), jn_imul_mo⟩ : jn_GEm jn_G0 jn_me41 3 (.inl jn_imul)) <|
  jn_cons (⟨jn_istore_ok (i := 5) (by decide +kernel), jn_istore_mo 5⟩ : jn_GEm jn_G0 jn_me41 4 (.inl (jn_istore 5))) <|
  jn_cons (⟨jn_iload_n_ok (i := 1) (k := 1) (by decide +kernel) rfl, jn_iload_n_mo 1⟩ : jn_GEm jn_G0 jn_me41 6 (.inl (jn_iload_n 1))) <|
  jn_cons (⟨jn_iconst_ok (by decide +kernel), jn_iconst_mo 1⟩ : jn_GEm jn_G0 jn_me41 7 (.inl (jn_iconst 1))) <|
  jn_cons (⟨jn_iadd_ok (by decide +kernel), jn_iadd_mo⟩ : jn_GEm jn_G0 jn_me41 8 (.inl jn_iadd)) <|
  jn_cons (⟨jn_istore_ok (i := 6) (by decide +kernel), jn_istore_mo 6⟩ : jn_GEm jn_G0 jn_me41 9 (.inl (jn_istore 6))) <|
  jn_cons (⟨jn_iload_ok (i := 6) (by decide +kernel), jn_iload_mo 6⟩ : jn_GEm jn_G0 jn_me41 11 (.inl (jn_iload 6))) <|
  jn_cons (⟨jn_iload_n_ok (i := 2) (k := 2) (by decide +kernel) rfl, jn_iload_n_mo 2⟩ : jn_GEm jn_G0 jn_me41 13 (.inl (jn_iload_n 2))) <|
  jn_cons (⟨jn_icge_ok (t := 106) (off := 92) (by decide +kernel) (by decide), jn_icge_mo 106⟩ : jn_GEm jn_G0 jn_me41 14 (.inl (jn_icge 106))) <|
  jn_cons (⟨jn_lload_n_ok (i := 3) (k := 3) (by decide +kernel) rfl, jn_lload_n_mo 3⟩ : jn_GEm jn_G0 jn_me41 17 (.inl (jn_lload_n 3))) <|
  jn_cons (⟨jn_lconst_ok (n := 0) (v := 0) (by decide +kernel) (by decide), jn_lconst_mo 0⟩ : jn_GEm jn_G0 jn_me41 18 (.inl (jn_lconst 0))) <|
  jn_cons (⟨jn_lcmp_ok (by decide +kernel), jn_lcmp_mo⟩ : jn_GEm jn_G0 jn_me41 19 (.inl jn_lcmp)) <|
  jn_cons (⟨jn_ifeq_ok (t := 106) (off := 86) (by decide +kernel) (by decide), jn_ifeq_mo 106⟩ : jn_GEm jn_G0 jn_me41 20 (.inl (jn_ifeq 106))) <|
  jn_cons (⟨jn_iload_ok (i := 6) (by decide +kernel), jn_iload_mo 6⟩ : jn_GEm jn_G0 jn_me41 23 (.inl (jn_iload 6))) <|
  jn_cons (⟨jn_bipush_ok (n := 6) (v := 6) (by decide +kernel) (by decide), jn_bipush_mo 6⟩ : jn_GEm jn_G0 jn_me41 25 (.inl (jn_bipush 6))) <|
  jn_cons (⟨jn_imul_ok (by decide +kernel), jn_imul_mo⟩ : jn_GEm jn_G0 jn_me41 27 (.inl jn_imul)) <|
  jn_cons (⟨jn_istore_ok (i := 7) (by decide +kernel), jn_istore_mo 7⟩ : jn_GEm jn_G0 jn_me41 28 (.inl (jn_istore 7))) <|
  jn_cons (⟨jn_iload_n_ok (i := 1) (k := 1) (by decide +kernel) rfl, jn_iload_n_mo 1⟩ : jn_GEm jn_G0 jn_me41 30 (.inl (jn_iload_n 1))) <|
  jn_cons (⟨jn_iconst_ok (by decide +kernel), jn_iconst_mo 1⟩ : jn_GEm jn_G0 jn_me41 31 (.inl (jn_iconst 1))) <|
  jn_cons (⟨jn_iadd_ok (by decide +kernel), jn_iadd_mo⟩ : jn_GEm jn_G0 jn_me41 32 (.inl jn_iadd)) <|
  jn_cons (⟨jn_istore_ok (i := 8) (by decide +kernel), jn_istore_mo 8⟩ : jn_GEm jn_G0 jn_me41 33 (.inl (jn_istore 8))) <|
  jn_cons (⟨jn_iload_ok (i := 8) (by decide +kernel), jn_iload_mo 8⟩ : jn_GEm jn_G0 jn_me41 35 (.inl (jn_iload 8))) <| jn_nil
theorem jn_o41_1 : ∀ q ∈ jn_c41_1, jn_GEm jn_G0 jn_me41 q.1 q.2 :=
  jn_cons (⟨jn_iload_n_ok (i := 2) (k := 2) (by decide +kernel) rfl, jn_iload_n_mo 2⟩ : jn_GEm jn_G0 jn_me41 37 (.inl (jn_iload_n 2))) <|
  jn_cons (⟨jn_icge_ok (t := 100) (off := 62) (by decide +kernel) (by decide), jn_icge_mo 100⟩ : jn_GEm jn_G0 jn_me41 38 (.inl (jn_icge 100))) <|
  jn_cons (⟨jn_aload_n_ok (i := 0) (k := 0) (by decide +kernel) rfl, jn_aload_n_mo 0⟩ : jn_GEm jn_G0 jn_me41 41 (.inl (jn_aload_n 0))) <|
  jn_cons (⟨jn_getf_ok (ci := 4) (k := 0) (i := 9) (N := 1) (C := RX4) (T := TX4) (by decide +kernel) rfl (by decide) jn_u4 (jn_in 83 (by decide +kernel) rfl), jn_getf_mo 4 0⟩ : jn_GEm jn_G0 jn_me41 42 (.inl (jn_getf 4 0))) <|
  jn_cons (⟨jn_iload_ok (i := 7) (by decide +kernel), jn_iload_mo 7⟩ : jn_GEm jn_G0 jn_me41 45 (.inl (jn_iload 7))) <|
  jn_cons (⟨jn_iload_ok (i := 8) (by decide +kernel), jn_iload_mo 8⟩ : jn_GEm jn_G0 jn_me41 47 (.inl (jn_iload 8))) <|
  jn_cons (⟨jn_iadd_ok (by decide +kernel), jn_iadd_mo⟩ : jn_GEm jn_G0 jn_me41 49 (.inl jn_iadd)) <|
  jn_cons (⟨jn_aload_n_ok (i := 0) (k := 0) (by decide +kernel) rfl, jn_aload_n_mo 0⟩ : jn_GEm jn_G0 jn_me41 50 (.inl (jn_aload_n 0))) <|
  jn_cons (⟨jn_getf_ok (ci := 4) (k := 0) (i := 9) (N := 1) (C := RX4) (T := TX4) (by decide +kernel) rfl (by decide) jn_u4 (jn_in 83 (by decide +kernel) rfl), jn_getf_mo 4 0⟩ : jn_GEm jn_G0 jn_me41 51 (.inl (jn_getf 4 0))) <|
  jn_cons (⟨jn_iload_ok (i := 7) (by decide +kernel), jn_iload_mo 7⟩ : jn_GEm jn_G0 jn_me41 54 (.inl (jn_iload 7))) <|
  jn_cons (⟨jn_iload_ok (i := 8) (by decide +kernel), jn_iload_mo 8⟩ : jn_GEm jn_G0 jn_me41 56 (.inl (jn_iload 8))) <|
  jn_cons (⟨jn_iadd_ok (by decide +kernel), jn_iadd_mo⟩ : jn_GEm jn_G0 jn_me41 58 (.inl jn_iadd)) <|
  jn_cons (⟨jn_laload_ok (by decide +kernel), jn_laload_mo⟩ : jn_GEm jn_G0 jn_me41 59 (.inl jn_laload)) <|
  jn_cons (⟨jn_aload_n_ok (i := 0) (k := 0) (by decide +kernel) rfl, jn_aload_n_mo 0⟩ : jn_GEm jn_G0 jn_me41 60 (.inl (jn_aload_n 0))) <|
  jn_cons (⟨jn_getf_ok (ci := 4) (k := 0) (i := 9) (N := 1) (C := RX4) (T := TX4) (by decide +kernel) rfl (by decide) jn_u4 (jn_in 83 (by decide +kernel) rfl), jn_getf_mo 4 0⟩ : jn_GEm jn_G0 jn_me41 61 (.inl (jn_getf 4 0))) <|
  jn_cons (⟨jn_iload_ok (i := 5) (by decide +kernel), jn_iload_mo 5⟩ : jn_GEm jn_G0 jn_me41 64 (.inl (jn_iload 5))) <|
  jn_cons (⟨jn_iload_n_ok (i := 1) (k := 1) (by decide +kernel) rfl, jn_iload_n_mo 1⟩ : jn_GEm jn_G0 jn_me41 66 (.inl (jn_iload_n 1))) <|
  jn_cons (⟨jn_iadd_ok (by decide +kernel), jn_iadd_mo⟩ : jn_GEm jn_G0 jn_me41 67 (.inl jn_iadd)) <|
  jn_cons (⟨jn_laload_ok (by decide +kernel), jn_laload_mo⟩ : jn_GEm jn_G0 jn_me41 68 (.inl jn_laload)) <|
  jn_cons (⟨jn_lmul_ok (by decide +kernel), jn_lmul_mo⟩ : jn_GEm jn_G0 jn_me41 69 (.inl jn_lmul)) <|
  jn_cons (⟨jn_aload_n_ok (i := 0) (k := 0) (by decide +kernel) rfl, jn_aload_n_mo 0⟩ : jn_GEm jn_G0 jn_me41 70 (.inl (jn_aload_n 0))) <|
  jn_cons (⟨jn_getf_ok (ci := 4) (k := 0) (i := 9) (N := 1) (C := RX4) (T := TX4) (by decide +kernel) rfl (by decide) jn_u4 (jn_in 83 (by decide +kernel) rfl), jn_getf_mo 4 0⟩ : jn_GEm jn_G0 jn_me41 71 (.inl (jn_getf 4 0))) <|
  jn_cons (⟨jn_iload_ok (i := 7) (by decide +kernel), jn_iload_mo 7⟩ : jn_GEm jn_G0 jn_me41 74 (.inl (jn_iload 7))) <|
  jn_cons (⟨jn_iload_n_ok (i := 1) (k := 1) (by decide +kernel) rfl, jn_iload_n_mo 1⟩ : jn_GEm jn_G0 jn_me41 76 (.inl (jn_iload_n 1))) <| jn_nil
theorem jn_o41_2 : ∀ q ∈ jn_c41_2, jn_GEm jn_G0 jn_me41 q.1 q.2 :=
  jn_cons (⟨jn_iadd_ok (by decide +kernel), jn_iadd_mo⟩ : jn_GEm jn_G0 jn_me41 77 (.inl jn_iadd)) <|
  jn_cons (⟨jn_laload_ok (by decide +kernel), jn_laload_mo⟩ : jn_GEm jn_G0 jn_me41 78 (.inl jn_laload)) <|
  jn_cons (⟨jn_aload_n_ok (i := 0) (k := 0) (by decide +kernel) rfl, jn_aload_n_mo 0⟩ : jn_GEm jn_G0 jn_me41 79 (.inl (jn_aload_n 0))) <|
  jn_cons (⟨jn_getf_ok (ci := 4) (k := 0) (i := 9) (N := 1) (C := RX4) (T := TX4) (by decide +kernel) rfl (by decide) jn_u4 (jn_in 83 (by decide +kernel) rfl), jn_getf_mo 4 0⟩ : jn_GEm jn_G0 jn_me41 80 (.inl (jn_getf 4 0))) <|
  jn_cons (⟨jn_iload_ok (i := 5) (by decide +kernel), jn_iload_mo 5⟩ : jn_GEm jn_G0 jn_me41 83 (.inl (jn_iload 5))) <|
  jn_cons (⟨jn_iload_ok (i := 8) (by decide +kernel), jn_iload_mo 8⟩ : jn_GEm jn_G0 jn_me41 85 (.inl (jn_iload 8))) <|
  jn_cons (⟨jn_iadd_ok (by decide +kernel), jn_iadd_mo⟩ : jn_GEm jn_G0 jn_me41 87 (.inl jn_iadd)) <|
  jn_cons (⟨jn_laload_ok (by decide +kernel), jn_laload_mo⟩ : jn_GEm jn_G0 jn_me41 88 (.inl jn_laload)) <|
  jn_cons (⟨jn_lmul_ok (by decide +kernel), jn_lmul_mo⟩ : jn_GEm jn_G0 jn_me41 89 (.inl jn_lmul)) <|
  jn_cons (⟨jn_lsub_ok (by decide +kernel), jn_lsub_mo⟩ : jn_GEm jn_G0 jn_me41 90 (.inl jn_lsub)) <|
  jn_cons (⟨jn_lload_n_ok (i := 3) (k := 3) (by decide +kernel) rfl, jn_lload_n_mo 3⟩ : jn_GEm jn_G0 jn_me41 91 (.inl (jn_lload_n 3))) <|
  jn_cons (⟨jn_ldiv_ok (by decide +kernel), jn_ldiv_mo⟩ : jn_GEm jn_G0 jn_me41 92 (.inl jn_ldiv)) <|
  jn_cons (⟨jn_lastore_ok (by decide +kernel), jn_lastore_mo⟩ : jn_GEm jn_G0 jn_me41 93 (.inl jn_lastore)) <|
  jn_cons (⟨jn_iinc_ok (i := 8) (n := 1) (by decide +kernel), jn_iinc_mo 8 1⟩ : jn_GEm jn_G0 jn_me41 94 (.inl (jn_iinc 8 1))) <|
  jn_cons (⟨jn_goto_ok (t := 35) (off := -62) (by decide +kernel) (by decide), jn_goto_mo 35⟩ : jn_GEm jn_G0 jn_me41 97 (.inl (jn_goto 35))) <|
  jn_cons (⟨jn_iinc_ok (i := 6) (n := 1) (by decide +kernel), jn_iinc_mo 6 1⟩ : jn_GEm jn_G0 jn_me41 100 (.inl (jn_iinc 6 1))) <|
  jn_cons (⟨jn_goto_ok (t := 11) (off := -92) (by decide +kernel) (by decide), jn_goto_mo 11⟩ : jn_GEm jn_G0 jn_me41 103 (.inl (jn_goto 11))) <|
  jn_cons (⟨(by decide +kernel), rfl⟩ : jn_GEm jn_G0 jn_me41 106 (.inr (.inr 0))) <| jn_nil
theorem jn_ok41 : jn_GM jn_G0 41 := jn_GM_of jn_G0_41 rfl rfl (by decide +kernel) (by decide) (jn_appd jn_o41_0 (jn_appd jn_o41_1 (jn_o41_2)))
theorem jn_o42_0 : ∀ q ∈ jn_c42_0, jn_GEm jn_G0 jn_me42 q.1 q.2 :=
  jn_cons (⟨jn_aload_n_ok (i := 0) (k := 0) (by decide +kernel) rfl, jn_aload_n_mo 0⟩ : jn_GEm jn_G0 jn_me42 0 (.inl (jn_aload_n 0))) <|
  jn_cons (⟨jn_oinit_ok (i := 3) (by decide +kernel) (jn_in 148 (by decide +kernel) rfl) (jn_in 71 (by decide +kernel) rfl) (jn_in 72 (by decide +kernel) rfl), jn_oinit_mo⟩ : jn_GEm jn_G0 jn_me42 1 (.inl jn_oinit)) <|
  jn_cons (⟨jn_aload_n_ok (i := 0) (k := 0) (by decide +kernel) rfl, jn_aload_n_mo 0⟩ : jn_GEm jn_G0 jn_me42 4 (.inl (jn_aload_n 0))) <|
  jn_cons (⟨jn_bipush_ok (n := 6) (v := 6) (by decide +kernel) (by decide), jn_bipush_mo 6⟩ : jn_GEm jn_G0 jn_me42 5 (.inl (jn_bipush 6))) <|
  jn_cons (⟨jn_newI_ok (by decide +kernel) (jn_in 87 (by decide +kernel) rfl), jn_newI_mo⟩ : jn_GEm jn_G0 jn_me42 7 (.inl jn_newI)) <|
  jn_cons (⟨jn_putF_ok (ci := 5) (k := 0) (κ := 2) (i := 9) (N := 1) (C := RX5) (T := TX5) (ty0 := tyX5) (ty := .array .int) (by decide +kernel) rfl (by decide) jn_u5 (jn_in 149 (by decide +kernel) rfl) tyX5_ok nmX5 rfl (by decide +kernel) (jn_po_arr _) rfl rfl, jn_putF_mo 5 0 2⟩ : jn_GEm jn_G0 jn_me42 9 (.inl (jn_putF 5 0 2))) <|
  jn_cons (⟨(by decide +kernel), rfl⟩ : jn_GEm jn_G0 jn_me42 12 (.inr (.inr 0))) <| jn_nil
theorem jn_ok42 : jn_GM jn_G0 42 := jn_GM_of jn_G0_42 rfl rfl (by decide +kernel) (by decide) (jn_o42_0)
theorem jn_o43_0 : ∀ q ∈ jn_c43_0, jn_GEm jn_G0 jn_me43 q.1 q.2 :=
  jn_cons (⟨jn_iconst_ok (by decide +kernel), jn_iconst_mo 1⟩ : jn_GEm jn_G0 jn_me43 0 (.inl (jn_iconst 1))) <|
  jn_cons (⟨jn_istore_n_ok (i := 2) (k := 2) (by decide +kernel) rfl, jn_istore_n_mo 2⟩ : jn_GEm jn_G0 jn_me43 1 (.inl (jn_istore_n 2))) <|
  jn_cons (⟨jn_iload_n_ok (i := 2) (k := 2) (by decide +kernel) rfl, jn_iload_n_mo 2⟩ : jn_GEm jn_G0 jn_me43 2 (.inl (jn_iload_n 2))) <|
  jn_cons (⟨jn_bipush_ok (n := 6) (v := 6) (by decide +kernel) (by decide), jn_bipush_mo 6⟩ : jn_GEm jn_G0 jn_me43 3 (.inl (jn_bipush 6))) <|
  jn_cons (⟨jn_icge_ok (t := 21) (off := 16) (by decide +kernel) (by decide), jn_icge_mo 21⟩ : jn_GEm jn_G0 jn_me43 5 (.inl (jn_icge 21))) <|
  jn_cons (⟨jn_aload_n_ok (i := 0) (k := 0) (by decide +kernel) rfl, jn_aload_n_mo 0⟩ : jn_GEm jn_G0 jn_me43 8 (.inl (jn_aload_n 0))) <|
  jn_cons (⟨jn_getf_ok (ci := 5) (k := 0) (i := 9) (N := 1) (C := RX5) (T := TX5) (by decide +kernel) rfl (by decide) jn_u5 (jn_in 149 (by decide +kernel) rfl), jn_getf_mo 5 0⟩ : jn_GEm jn_G0 jn_me43 9 (.inl (jn_getf 5 0))) <|
  jn_cons (⟨jn_iload_n_ok (i := 2) (k := 2) (by decide +kernel) rfl, jn_iload_n_mo 2⟩ : jn_GEm jn_G0 jn_me43 12 (.inl (jn_iload_n 2))) <|
  jn_cons (⟨jn_iconst_ok (by decide +kernel), jn_iconst_mo 0⟩ : jn_GEm jn_G0 jn_me43 13 (.inl (jn_iconst 0))) <|
  jn_cons (⟨jn_iastore_ok (by decide +kernel), jn_iastore_mo⟩ : jn_GEm jn_G0 jn_me43 14 (.inl jn_iastore)) <|
  jn_cons (⟨jn_iinc_ok (i := 2) (n := 1) (by decide +kernel), jn_iinc_mo 2 1⟩ : jn_GEm jn_G0 jn_me43 15 (.inl (jn_iinc 2 1))) <|
  jn_cons (⟨jn_goto_ok (t := 2) (off := -16) (by decide +kernel) (by decide), jn_goto_mo 2⟩ : jn_GEm jn_G0 jn_me43 18 (.inl (jn_goto 2))) <|
  jn_cons (⟨jn_aload_n_ok (i := 0) (k := 0) (by decide +kernel) rfl, jn_aload_n_mo 0⟩ : jn_GEm jn_G0 jn_me43 21 (.inl (jn_aload_n 0))) <|
  jn_cons (⟨jn_getf_ok (ci := 5) (k := 0) (i := 9) (N := 1) (C := RX5) (T := TX5) (by decide +kernel) rfl (by decide) jn_u5 (jn_in 149 (by decide +kernel) rfl), jn_getf_mo 5 0⟩ : jn_GEm jn_G0 jn_me43 22 (.inl (jn_getf 5 0))) <|
  jn_cons (⟨jn_iconst_ok (by decide +kernel), jn_iconst_mo 0⟩ : jn_GEm jn_G0 jn_me43 25 (.inl (jn_iconst 0))) <|
  jn_cons (⟨jn_iload_n_ok (i := 1) (k := 1) (by decide +kernel) rfl, jn_iload_n_mo 1⟩ : jn_GEm jn_G0 jn_me43 26 (.inl (jn_iload_n 1))) <|
  jn_cons (⟨jn_iastore_ok (by decide +kernel), jn_iastore_mo⟩ : jn_GEm jn_G0 jn_me43 27 (.inl jn_iastore)) <|
  jn_cons (⟨(by decide +kernel), rfl⟩ : jn_GEm jn_G0 jn_me43 28 (.inr (.inr 0))) <| jn_nil
theorem jn_ok43 : jn_GM jn_G0 43 := jn_GM_of jn_G0_43 rfl rfl (by decide +kernel) (by decide) (jn_o43_0)
theorem jn_o44_0 : ∀ q ∈ jn_c44_0, jn_GEm jn_G0 jn_me44 q.1 q.2 :=
  jn_cons (⟨jn_iload_n_ok (i := 1) (k := 1) (by decide +kernel) rfl, jn_iload_n_mo 1⟩ : jn_GEm jn_G0 jn_me44 0 (.inl (jn_iload_n 1))) <|
  jn_cons (⟨jn_iconst_ok (by decide +kernel), jn_iconst_mo 1⟩ : jn_GEm jn_G0 jn_me44 1 (.inl (jn_iconst 1))) <|
  jn_cons (⟨jn_isub_ok (by decide +kernel), jn_isub_mo⟩ : jn_GEm jn_G0 jn_me44 2 (.inl jn_isub)) <|
  jn_cons (⟨jn_istore_n_ok (i := 2) (k := 2) (by decide +kernel) rfl, jn_istore_n_mo 2⟩ : jn_GEm jn_G0 jn_me44 3 (.inl (jn_istore_n 2))) <|
  jn_cons (⟨jn_iload_n_ok (i := 2) (k := 2) (by decide +kernel) rfl, jn_iload_n_mo 2⟩ : jn_GEm jn_G0 jn_me44 4 (.inl (jn_iload_n 2))) <|
  jn_cons (⟨jn_iconst_ok (by decide +kernel), jn_iconst_mo 1⟩ : jn_GEm jn_G0 jn_me44 5 (.inl (jn_iconst 1))) <|
  jn_cons (⟨jn_isub_ok (by decide +kernel), jn_isub_mo⟩ : jn_GEm jn_G0 jn_me44 6 (.inl jn_isub)) <|
  jn_cons (⟨jn_istore_n_ok (i := 3) (k := 3) (by decide +kernel) rfl, jn_istore_n_mo 3⟩ : jn_GEm jn_G0 jn_me44 7 (.inl (jn_istore_n 3))) <|
  jn_cons (⟨jn_iload_n_ok (i := 3) (k := 3) (by decide +kernel) rfl, jn_iload_n_mo 3⟩ : jn_GEm jn_G0 jn_me44 8 (.inl (jn_iload_n 3))) <|
  jn_cons (⟨jn_iflt_ok (t := 66) (off := 57) (by decide +kernel) (by decide), jn_iflt_mo 66⟩ : jn_GEm jn_G0 jn_me44 9 (.inl (jn_iflt 66))) <|
  jn_cons (⟨jn_aload_n_ok (i := 0) (k := 0) (by decide +kernel) rfl, jn_aload_n_mo 0⟩ : jn_GEm jn_G0 jn_me44 12 (.inl (jn_aload_n 0))) <|
  jn_cons (⟨jn_getf_ok (ci := 5) (k := 0) (i := 9) (N := 1) (C := RX5) (T := TX5) (by decide +kernel) rfl (by decide) jn_u5 (jn_in 149 (by decide +kernel) rfl), jn_getf_mo 5 0⟩ : jn_GEm jn_G0 jn_me44 13 (.inl (jn_getf 5 0))) <|
  jn_cons (⟨jn_iload_n_ok (i := 3) (k := 3) (by decide +kernel) rfl, jn_iload_n_mo 3⟩ : jn_GEm jn_G0 jn_me44 16 (.inl (jn_iload_n 3))) <|
  jn_cons (⟨jn_iaload_ok (by decide +kernel), jn_iaload_mo⟩ : jn_GEm jn_G0 jn_me44 17 (.inl jn_iaload)) <|
  jn_cons (⟨jn_ifle_ok (t := 60) (off := 42) (by decide +kernel) (by decide), jn_ifle_mo 60⟩ : jn_GEm jn_G0 jn_me44 18 (.inl (jn_ifle 60))) <|
  jn_cons (⟨jn_aload_n_ok (i := 0) (k := 0) (by decide +kernel) rfl, jn_aload_n_mo 0⟩ : jn_GEm jn_G0 jn_me44 21 (.inl (jn_aload_n 0))) <|
  jn_cons (⟨jn_getf_ok (ci := 5) (k := 0) (i := 9) (N := 1) (C := RX5) (T := TX5) (by decide +kernel) rfl (by decide) jn_u5 (jn_in 149 (by decide +kernel) rfl), jn_getf_mo 5 0⟩ : jn_GEm jn_G0 jn_me44 22 (.inl (jn_getf 5 0))) <|
  jn_cons (⟨jn_iload_n_ok (i := 2) (k := 2) (by decide +kernel) rfl, jn_iload_n_mo 2⟩ : jn_GEm jn_G0 jn_me44 25 (.inl (jn_iload_n 2))) <|
  jn_cons (⟨jn_iaload_ok (by decide +kernel), jn_iaload_mo⟩ : jn_GEm jn_G0 jn_me44 26 (.inl jn_iaload)) <|
  jn_cons (⟨jn_iconst_ok (by decide +kernel), jn_iconst_mo 1⟩ : jn_GEm jn_G0 jn_me44 27 (.inl (jn_iconst 1))) <|
  jn_cons (⟨jn_iadd_ok (by decide +kernel), jn_iadd_mo⟩ : jn_GEm jn_G0 jn_me44 28 (.inl jn_iadd)) <|
  jn_cons (⟨jn_istore_ok (i := 4) (by decide +kernel), jn_istore_mo 4⟩ : jn_GEm jn_G0 jn_me44 29 (.inl (jn_istore 4))) <|
  jn_cons (⟨jn_aload_n_ok (i := 0) (k := 0) (by decide +kernel) rfl, jn_aload_n_mo 0⟩ : jn_GEm jn_G0 jn_me44 31 (.inl (jn_aload_n 0))) <|
  jn_cons (⟨jn_getf_ok (ci := 5) (k := 0) (i := 9) (N := 1) (C := RX5) (T := TX5) (by decide +kernel) rfl (by decide) jn_u5 (jn_in 149 (by decide +kernel) rfl), jn_getf_mo 5 0⟩ : jn_GEm jn_G0 jn_me44 32 (.inl (jn_getf 5 0))) <| jn_nil
theorem jn_o44_1 : ∀ q ∈ jn_c44_1, jn_GEm jn_G0 jn_me44 q.1 q.2 :=
  jn_cons (⟨jn_iload_n_ok (i := 2) (k := 2) (by decide +kernel) rfl, jn_iload_n_mo 2⟩ : jn_GEm jn_G0 jn_me44 35 (.inl (jn_iload_n 2))) <|
  jn_cons (⟨jn_iconst_ok (by decide +kernel), jn_iconst_mo 0⟩ : jn_GEm jn_G0 jn_me44 36 (.inl (jn_iconst 0))) <|
  jn_cons (⟨jn_iastore_ok (by decide +kernel), jn_iastore_mo⟩ : jn_GEm jn_G0 jn_me44 37 (.inl jn_iastore)) <|
  jn_cons (⟨jn_aload_n_ok (i := 0) (k := 0) (by decide +kernel) rfl, jn_aload_n_mo 0⟩ : jn_GEm jn_G0 jn_me44 38 (.inl (jn_aload_n 0))) <|
  jn_cons (⟨jn_getf_ok (ci := 5) (k := 0) (i := 9) (N := 1) (C := RX5) (T := TX5) (by decide +kernel) rfl (by decide) jn_u5 (jn_in 149 (by decide +kernel) rfl), jn_getf_mo 5 0⟩ : jn_GEm jn_G0 jn_me44 39 (.inl (jn_getf 5 0))) <|
  jn_cons (⟨jn_iload_n_ok (i := 3) (k := 3) (by decide +kernel) rfl, jn_iload_n_mo 3⟩ : jn_GEm jn_G0 jn_me44 42 (.inl (jn_iload_n 3))) <|
  jn_cons (⟨jn_dup2_ok (by decide +kernel), jn_dup2_mo⟩ : jn_GEm jn_G0 jn_me44 43 (.inl jn_dup2)) <|
  jn_cons (⟨jn_iaload_ok (by decide +kernel), jn_iaload_mo⟩ : jn_GEm jn_G0 jn_me44 44 (.inl jn_iaload)) <|
  jn_cons (⟨jn_iconst_ok (by decide +kernel), jn_iconst_mo 1⟩ : jn_GEm jn_G0 jn_me44 45 (.inl (jn_iconst 1))) <|
  jn_cons (⟨jn_isub_ok (by decide +kernel), jn_isub_mo⟩ : jn_GEm jn_G0 jn_me44 46 (.inl jn_isub)) <|
  jn_cons (⟨jn_iastore_ok (by decide +kernel), jn_iastore_mo⟩ : jn_GEm jn_G0 jn_me44 47 (.inl jn_iastore)) <|
  jn_cons (⟨jn_aload_n_ok (i := 0) (k := 0) (by decide +kernel) rfl, jn_aload_n_mo 0⟩ : jn_GEm jn_G0 jn_me44 48 (.inl (jn_aload_n 0))) <|
  jn_cons (⟨jn_getf_ok (ci := 5) (k := 0) (i := 9) (N := 1) (C := RX5) (T := TX5) (by decide +kernel) rfl (by decide) jn_u5 (jn_in 149 (by decide +kernel) rfl), jn_getf_mo 5 0⟩ : jn_GEm jn_G0 jn_me44 49 (.inl (jn_getf 5 0))) <|
  jn_cons (⟨jn_iload_n_ok (i := 3) (k := 3) (by decide +kernel) rfl, jn_iload_n_mo 3⟩ : jn_GEm jn_G0 jn_me44 52 (.inl (jn_iload_n 3))) <|
  jn_cons (⟨jn_iconst_ok (by decide +kernel), jn_iconst_mo 1⟩ : jn_GEm jn_G0 jn_me44 53 (.inl (jn_iconst 1))) <|
  jn_cons (⟨jn_iadd_ok (by decide +kernel), jn_iadd_mo⟩ : jn_GEm jn_G0 jn_me44 54 (.inl jn_iadd)) <|
  jn_cons (⟨jn_iload_ok (i := 4) (by decide +kernel), jn_iload_mo 4⟩ : jn_GEm jn_G0 jn_me44 55 (.inl (jn_iload 4))) <|
  jn_cons (⟨jn_iastore_ok (by decide +kernel), jn_iastore_mo⟩ : jn_GEm jn_G0 jn_me44 57 (.inl jn_iastore)) <|
  jn_cons (⟨jn_iconst_ok (by decide +kernel), jn_iconst_mo 1⟩ : jn_GEm jn_G0 jn_me44 58 (.inl (jn_iconst 1))) <|
  jn_cons (⟨(by decide +kernel), rfl⟩ : jn_GEm jn_G0 jn_me44 59 (.inr (.inr 2))) <|
  jn_cons (⟨jn_iinc_ok (i := 3) (n := -1) (by decide +kernel), jn_iinc_mo 3 (-1)⟩ : jn_GEm jn_G0 jn_me44 60 (.inl (jn_iinc 3 (-1)))) <|
  jn_cons (⟨jn_goto_ok (t := 8) (off := -55) (by decide +kernel) (by decide), jn_goto_mo 8⟩ : jn_GEm jn_G0 jn_me44 63 (.inl (jn_goto 8))) <|
  jn_cons (⟨jn_iconst_ok (by decide +kernel), jn_iconst_mo 0⟩ : jn_GEm jn_G0 jn_me44 66 (.inl (jn_iconst 0))) <|
  jn_cons (⟨(by decide +kernel), rfl⟩ : jn_GEm jn_G0 jn_me44 67 (.inr (.inr 2))) <| jn_nil
theorem jn_ok44 : jn_GM jn_G0 44 := jn_GM_of jn_G0_44 rfl rfl (by decide +kernel) (by decide) (jn_appd jn_o44_0 (jn_o44_1))
theorem jn_o45_0 : ∀ q ∈ jn_c45_0, jn_GEm jn_G0 jn_me45 q.1 q.2 :=
  jn_cons (⟨jn_aload_n_ok (i := 0) (k := 0) (by decide +kernel) rfl, jn_aload_n_mo 0⟩ : jn_GEm jn_G0 jn_me45 0 (.inl (jn_aload_n 0))) <|
  jn_cons (⟨jn_oinit_ok (i := 1) (by decide +kernel) (jn_in 70 (by decide +kernel) rfl) (jn_in 71 (by decide +kernel) rfl) (jn_in 72 (by decide +kernel) rfl), jn_oinit_mo⟩ : jn_GEm jn_G0 jn_me45 1 (.inl jn_oinit)) <|
  jn_cons (⟨jn_aload_n_ok (i := 0) (k := 0) (by decide +kernel) rfl, jn_aload_n_mo 0⟩ : jn_GEm jn_G0 jn_me45 4 (.inl (jn_aload_n 0))) <|
  jn_cons (⟨jn_iconst_ok (by decide +kernel), jn_iconst_mo 4⟩ : jn_GEm jn_G0 jn_me45 5 (.inl (jn_iconst 4))) <|
  jn_cons (⟨jn_newA_ok (t := 3) (i := 9) (C := "DebtNet$Net") (by decide +kernel) (fun _ => rfl) (jn_in 73 (by decide +kernel) rfl) (jn_in 74 (by decide +kernel) rfl), jn_newA_mo 3⟩ : jn_GEm jn_G0 jn_me45 6 (.inl (jn_newA 3))) <|
  jn_cons (⟨jn_putF_ok (ci := 6) (k := 0) (κ := 2) (i := 11) (N := 11) (C := RX6) (T := TX6) (ty0 := tyX6) (ty := .array (.object "DebtNet$Net")) (by decide +kernel) rfl (by decide) jn_u6 (jn_in 169 (by decide +kernel) rfl) tyX6_ok nmX6 rfl (by decide +kernel) (jn_po_arr _) rfl rfl, jn_putF_mo 6 0 2⟩ : jn_GEm jn_G0 jn_me45 9 (.inl (jn_putF 6 0 2))) <|
  jn_cons (⟨jn_aload_n_ok (i := 0) (k := 0) (by decide +kernel) rfl, jn_aload_n_mo 0⟩ : jn_GEm jn_G0 jn_me45 12 (.inl (jn_aload_n 0))) <|
  jn_cons (⟨jn_iconst_ok (by decide +kernel), jn_iconst_mo 0⟩ : jn_GEm jn_G0 jn_me45 13 (.inl (jn_iconst 0))) <|
  jn_cons (⟨jn_putf_ok (ci := 6) (k := 1) (κ := 0) (i := 15) (N := 11) (C := RX6) (T := TX6) (ty0 := tyX6) (ty := .int) (by decide +kernel) rfl (by decide) jn_u6 (jn_in 170 (by decide +kernel) rfl) tyX6_ok nmX6 rfl (by decide +kernel) jn_po_int, jn_putf_mo 6 1 0⟩ : jn_GEm jn_G0 jn_me45 14 (.inl (jn_putf 6 1 0))) <|
  jn_cons (⟨jn_aload_n_ok (i := 0) (k := 0) (by decide +kernel) rfl, jn_aload_n_mo 0⟩ : jn_GEm jn_G0 jn_me45 17 (.inl (jn_aload_n 0))) <|
  jn_cons (⟨jn_bipush_ok (n := 10) (v := 10) (by decide +kernel) (by decide), jn_bipush_mo 10⟩ : jn_GEm jn_G0 jn_me45 18 (.inl (jn_bipush 10))) <|
  jn_cons (⟨jn_newA_ok (t := 4) (i := 19) (C := "DebtNet$Book") (by decide +kernel) (fun _ => rfl) (jn_in 75 (by decide +kernel) rfl) (jn_in 76 (by decide +kernel) rfl), jn_newA_mo 4⟩ : jn_GEm jn_G0 jn_me45 20 (.inl (jn_newA 4))) <|
  jn_cons (⟨jn_putF_ok (ci := 6) (k := 2) (κ := 2) (i := 21) (N := 11) (C := RX6) (T := TX6) (ty0 := tyX6) (ty := .array (.object "DebtNet$Book")) (by decide +kernel) rfl (by decide) jn_u6 (jn_in 171 (by decide +kernel) rfl) tyX6_ok nmX6 rfl (by decide +kernel) (jn_po_arr _) rfl rfl, jn_putF_mo 6 2 2⟩ : jn_GEm jn_G0 jn_me45 23 (.inl (jn_putF 6 2 2))) <|
  jn_cons (⟨jn_aload_n_ok (i := 0) (k := 0) (by decide +kernel) rfl, jn_aload_n_mo 0⟩ : jn_GEm jn_G0 jn_me45 26 (.inl (jn_aload_n 0))) <|
  jn_cons (⟨jn_iconst_ok (by decide +kernel), jn_iconst_mo 0⟩ : jn_GEm jn_G0 jn_me45 27 (.inl (jn_iconst 0))) <|
  jn_cons (⟨jn_putf_ok (ci := 6) (k := 3) (κ := 0) (i := 25) (N := 11) (C := RX6) (T := TX6) (ty0 := tyX6) (ty := .int) (by decide +kernel) rfl (by decide) jn_u6 (jn_in 172 (by decide +kernel) rfl) tyX6_ok nmX6 rfl (by decide +kernel) jn_po_int, jn_putf_mo 6 3 0⟩ : jn_GEm jn_G0 jn_me45 28 (.inl (jn_putf 6 3 0))) <|
  jn_cons (⟨jn_aload_n_ok (i := 0) (k := 0) (by decide +kernel) rfl, jn_aload_n_mo 0⟩ : jn_GEm jn_G0 jn_me45 31 (.inl (jn_aload_n 0))) <|
  jn_cons (⟨jn_bipush_ok (n := 6) (v := 6) (by decide +kernel) (by decide), jn_bipush_mo 6⟩ : jn_GEm jn_G0 jn_me45 32 (.inl (jn_bipush 6))) <|
  jn_cons (⟨jn_newI_ok (by decide +kernel) (jn_in 87 (by decide +kernel) rfl), jn_newI_mo⟩ : jn_GEm jn_G0 jn_me45 34 (.inl jn_newI)) <|
  jn_cons (⟨jn_putF_ok (ci := 6) (k := 4) (κ := 2) (i := 28) (N := 11) (C := RX6) (T := TX6) (ty0 := tyX6) (ty := .array .int) (by decide +kernel) rfl (by decide) jn_u6 (jn_in 173 (by decide +kernel) rfl) tyX6_ok nmX6 rfl (by decide +kernel) (jn_po_arr _) rfl rfl, jn_putF_mo 6 4 2⟩ : jn_GEm jn_G0 jn_me45 36 (.inl (jn_putF 6 4 2))) <|
  jn_cons (⟨jn_aload_n_ok (i := 0) (k := 0) (by decide +kernel) rfl, jn_aload_n_mo 0⟩ : jn_GEm jn_G0 jn_me45 39 (.inl (jn_aload_n 0))) <|
  jn_cons (⟨jn_iconst_ok (by decide +kernel), jn_iconst_mo (-1)⟩ : jn_GEm jn_G0 jn_me45 40 (.inl (jn_iconst (-1)))) <|
  jn_cons (⟨jn_putf_ok (ci := 6) (k := 5) (κ := 0) (i := 32) (N := 11) (C := RX6) (T := TX6) (ty0 := tyX6) (ty := .int) (by decide +kernel) rfl (by decide) jn_u6 (jn_in 174 (by decide +kernel) rfl) tyX6_ok nmX6 rfl (by decide +kernel) jn_po_int, jn_putf_mo 6 5 0⟩ : jn_GEm jn_G0 jn_me45 41 (.inl (jn_putf 6 5 0))) <|
  jn_cons (⟨jn_aload_n_ok (i := 0) (k := 0) (by decide +kernel) rfl, jn_aload_n_mo 0⟩ : jn_GEm jn_G0 jn_me45 44 (.inl (jn_aload_n 0))) <| jn_nil
theorem jn_o45_1 : ∀ q ∈ jn_c45_1, jn_GEm jn_G0 jn_me45 q.1 q.2 :=
  jn_cons (⟨jn_bipush_ok (n := 8) (v := 8) (by decide +kernel) (by decide), jn_bipush_mo 8⟩ : jn_GEm jn_G0 jn_me45 45 (.inl (jn_bipush 8))) <|
  jn_cons (⟨jn_newI_ok (by decide +kernel) (jn_in 87 (by decide +kernel) rfl), jn_newI_mo⟩ : jn_GEm jn_G0 jn_me45 47 (.inl jn_newI)) <|
  jn_cons (⟨jn_putF_ok (ci := 6) (k := 6) (κ := 2) (i := 35) (N := 11) (C := RX6) (T := TX6) (ty0 := tyX6) (ty := .array .int) (by decide +kernel) rfl (by decide) jn_u6 (jn_in 175 (by decide +kernel) rfl) tyX6_ok nmX6 rfl (by decide +kernel) (jn_po_arr _) rfl rfl, jn_putF_mo 6 6 2⟩ : jn_GEm jn_G0 jn_me45 49 (.inl (jn_putF 6 6 2))) <|
  jn_cons (⟨jn_aload_n_ok (i := 0) (k := 0) (by decide +kernel) rfl, jn_aload_n_mo 0⟩ : jn_GEm jn_G0 jn_me45 52 (.inl (jn_aload_n 0))) <|
  jn_cons (⟨jn_bipush_ok (n := 6) (v := 6) (by decide +kernel) (by decide), jn_bipush_mo 6⟩ : jn_GEm jn_G0 jn_me45 53 (.inl (jn_bipush 6))) <|
  jn_cons (⟨jn_newI_ok (by decide +kernel) (jn_in 87 (by decide +kernel) rfl), jn_newI_mo⟩ : jn_GEm jn_G0 jn_me45 55 (.inl jn_newI)) <|
  jn_cons (⟨jn_putF_ok (ci := 6) (k := 7) (κ := 2) (i := 38) (N := 11) (C := RX6) (T := TX6) (ty0 := tyX6) (ty := .array .int) (by decide +kernel) rfl (by decide) jn_u6 (jn_in 176 (by decide +kernel) rfl) tyX6_ok nmX6 rfl (by decide +kernel) (jn_po_arr _) rfl rfl, jn_putF_mo 6 7 2⟩ : jn_GEm jn_G0 jn_me45 57 (.inl (jn_putF 6 7 2))) <|
  jn_cons (⟨jn_aload_n_ok (i := 0) (k := 0) (by decide +kernel) rfl, jn_aload_n_mo 0⟩ : jn_GEm jn_G0 jn_me45 60 (.inl (jn_aload_n 0))) <|
  jn_cons (⟨jn_new_ok (ci := 4) (i := 41) (N := 1) (fs := [.null]) (C := RX4) (T := TX4) (ty0 := tyX4) (by decide +kernel) rfl jn_u4 tyX4_ok (jn_in 77 (by decide +kernel) rfl) (jn_in 78 (by decide +kernel) rfl) (jn_in 55 (by decide +kernel) rfl) (by decide +kernel), jn_new_mo 4 1 [.null]⟩ : jn_GEm jn_G0 jn_me45 61 (.inl (jn_new 4 1 [.null]))) <|
  jn_cons (⟨jn_dup_ok (by decide +kernel), jn_dup_mo⟩ : jn_GEm jn_G0 jn_me45 64 (.inl jn_dup)) <|
  jn_cons (jn_gc_of jn_G0_31 (jn_callN (i := 43) (na := 0) (host := "DebtNet") (by decide +kernel) rfl (jn_in 81 (by decide +kernel) rfl) (jn_in 79 (by decide +kernel) rfl) (jn_in 80 (by decide +kernel) rfl) (jn_in 55 (by decide +kernel) rfl) rfl ⟨by decide, by decide, by decide +kernel⟩) : jn_GEm jn_G0 jn_me45 65 (.inr (.inl (31, 1, 1)))) <|
  jn_cons (⟨jn_putF_ok (ci := 6) (k := 8) (κ := 2) (i := 44) (N := 11) (C := RX6) (T := TX6) (ty0 := tyX6) (ty := .object "DebtNet$Table") (by decide +kernel) rfl (by decide) jn_u6 (jn_in 177 (by decide +kernel) rfl) tyX6_ok nmX6 rfl (by decide +kernel) (jn_po_obj _) rfl rfl, jn_putF_mo 6 8 2⟩ : jn_GEm jn_G0 jn_me45 68 (.inl (jn_putF 6 8 2))) <|
  jn_cons (⟨jn_aload_n_ok (i := 0) (k := 0) (by decide +kernel) rfl, jn_aload_n_mo 0⟩ : jn_GEm jn_G0 jn_me45 71 (.inl (jn_aload_n 0))) <|
  jn_cons (⟨jn_new_ok (ci := 3) (i := 48) (N := 6) (fs := [.null, .null, .int 0, .long 0, .null, .null]) (C := RX3) (T := TX3) (ty0 := tyX3) (by decide +kernel) rfl jn_u3 tyX3_ok (jn_in 89 (by decide +kernel) rfl) (jn_in 90 (by decide +kernel) rfl) (jn_in 56 (by decide +kernel) rfl) (by decide +kernel), jn_new_mo 3 6 [.null, .null, .int 0, .long 0, .null, .null]⟩ : jn_GEm jn_G0 jn_me45 72 (.inl (jn_new 3 6 [.null, .null, .int 0, .long 0, .null, .null]))) <|
  jn_cons (⟨jn_dup_ok (by decide +kernel), jn_dup_mo⟩ : jn_GEm jn_G0 jn_me45 75 (.inl jn_dup)) <|
  jn_cons (⟨jn_aload_n_ok (i := 0) (k := 0) (by decide +kernel) rfl, jn_aload_n_mo 0⟩ : jn_GEm jn_G0 jn_me45 76 (.inl (jn_aload_n 0))) <|
  jn_cons (⟨jn_getf_ok (ci := 6) (k := 8) (i := 44) (N := 11) (C := RX6) (T := TX6) (by decide +kernel) rfl (by decide) jn_u6 (jn_in 177 (by decide +kernel) rfl), jn_getf_mo 6 8⟩ : jn_GEm jn_G0 jn_me45 77 (.inl (jn_getf 6 8))) <|
  jn_cons (jn_gc_of jn_G0_24 (jn_callI (i := 50) (na := 1) (by decide +kernel) rfl (jn_in 93 (by decide +kernel) rfl) (jn_in 91 (by decide +kernel) rfl) (jn_in 92 (by decide +kernel) rfl) (jn_in 56 (by decide +kernel) rfl) rfl ⟨by decide, by decide, by decide +kernel⟩) : jn_GEm jn_G0 jn_me45 80 (.inr (.inl (24, 1, 2)))) <|
  jn_cons (⟨jn_putF_ok (ci := 6) (k := 9) (κ := 2) (i := 53) (N := 11) (C := RX6) (T := TX6) (ty0 := tyX6) (ty := .object "DebtNet$Reducer") (by decide +kernel) rfl (by decide) jn_u6 (jn_in 178 (by decide +kernel) rfl) tyX6_ok nmX6 rfl (by decide +kernel) (jn_po_obj _) rfl rfl, jn_putF_mo 6 9 2⟩ : jn_GEm jn_G0 jn_me45 83 (.inl (jn_putF 6 9 2))) <|
  jn_cons (⟨jn_aload_n_ok (i := 0) (k := 0) (by decide +kernel) rfl, jn_aload_n_mo 0⟩ : jn_GEm jn_G0 jn_me45 86 (.inl (jn_aload_n 0))) <|
  jn_cons (⟨jn_new_ok (ci := 1) (i := 57) (N := 4) (fs := [.null, .null, .null, .null]) (C := RX1) (T := TX1) (ty0 := tyX1) (by decide +kernel) rfl jn_u1 tyX1_ok (jn_in 137 (by decide +kernel) rfl) (jn_in 138 (by decide +kernel) rfl) (jn_in 58 (by decide +kernel) rfl) (by decide +kernel), jn_new_mo 1 4 [.null, .null, .null, .null]⟩ : jn_GEm jn_G0 jn_me45 87 (.inl (jn_new 1 4 [.null, .null, .null, .null]))) <|
  jn_cons (⟨jn_dup_ok (by decide +kernel), jn_dup_mo⟩ : jn_GEm jn_G0 jn_me45 90 (.inl jn_dup)) <|
  jn_cons (⟨jn_aload_n_ok (i := 0) (k := 0) (by decide +kernel) rfl, jn_aload_n_mo 0⟩ : jn_GEm jn_G0 jn_me45 91 (.inl (jn_aload_n 0))) <|
  jn_cons (⟨jn_getf_ok (ci := 6) (k := 9) (i := 53) (N := 11) (C := RX6) (T := TX6) (by decide +kernel) rfl (by decide) jn_u6 (jn_in 178 (by decide +kernel) rfl), jn_getf_mo 6 9⟩ : jn_GEm jn_G0 jn_me45 92 (.inl (jn_getf 6 9))) <| jn_nil
theorem jn_o45_2 : ∀ q ∈ jn_c45_2, jn_GEm jn_G0 jn_me45 q.1 q.2 :=
  jn_cons (jn_gc_of jn_G0_7 (jn_callI (i := 59) (na := 1) (by decide +kernel) rfl (jn_in 141 (by decide +kernel) rfl) (jn_in 139 (by decide +kernel) rfl) (jn_in 140 (by decide +kernel) rfl) (jn_in 58 (by decide +kernel) rfl) rfl ⟨by decide, by decide, by decide +kernel⟩) : jn_GEm jn_G0 jn_me45 95 (.inr (.inl (7, 1, 2)))) <|
  jn_cons (⟨jn_putF_ok (ci := 6) (k := 10) (κ := 2) (i := 62) (N := 11) (C := RX6) (T := TX6) (ty0 := tyX6) (ty := .object "DebtNet$Breaker") (by decide +kernel) rfl (by decide) jn_u6 (jn_in 179 (by decide +kernel) rfl) tyX6_ok nmX6 rfl (by decide +kernel) (jn_po_obj _) rfl rfl, jn_putF_mo 6 10 2⟩ : jn_GEm jn_G0 jn_me45 98 (.inl (jn_putF 6 10 2))) <|
  jn_cons (⟨(by decide +kernel), rfl⟩ : jn_GEm jn_G0 jn_me45 101 (.inr (.inr 0))) <| jn_nil
theorem jn_ok45 : jn_GM jn_G0 45 := jn_GM_of jn_G0_45 rfl rfl (by decide +kernel) (by decide) (jn_appd jn_o45_0 (jn_appd jn_o45_1 (jn_o45_2)))
theorem jn_o46_0 : ∀ q ∈ jn_c46_0, jn_GEm jn_G0 jn_me46 q.1 q.2 :=
  jn_cons (⟨jn_iload_n_ok (i := 1) (k := 1) (by decide +kernel) rfl, jn_iload_n_mo 1⟩ : jn_GEm jn_G0 jn_me46 0 (.inl (jn_iload_n 1))) <|
  jn_cons (⟨jn_iconst_ok (by decide +kernel), jn_iconst_mo 1⟩ : jn_GEm jn_G0 jn_me46 1 (.inl (jn_iconst 1))) <|
  jn_cons (⟨jn_iclt_ok (t := 11) (off := 9) (by decide +kernel) (by decide), jn_iclt_mo 11⟩ : jn_GEm jn_G0 jn_me46 2 (.inl (jn_iclt 11))) <|
  jn_cons (⟨jn_iload_n_ok (i := 1) (k := 1) (by decide +kernel) rfl, jn_iload_n_mo 1⟩ : jn_GEm jn_G0 jn_me46 5 (.inl (jn_iload_n 1))) <|
  jn_cons (⟨jn_bipush_ok (n := 6) (v := 6) (by decide +kernel) (by decide), jn_bipush_mo 6⟩ : jn_GEm jn_G0 jn_me46 6 (.inl (jn_bipush 6))) <|
  jn_cons (⟨jn_icle_ok (t := 18) (off := 10) (by decide +kernel) (by decide), jn_icle_mo 18⟩ : jn_GEm jn_G0 jn_me46 8 (.inl (jn_icle 18))) <|
  jn_cons (⟨jn_aload_n_ok (i := 0) (k := 0) (by decide +kernel) rfl, jn_aload_n_mo 0⟩ : jn_GEm jn_G0 jn_me46 11 (.inl (jn_aload_n 0))) <|
  jn_cons (⟨jn_bipush_ok (n := (-7)) (v := (-7)) (by decide +kernel) (by decide), jn_bipush_mo (-7)⟩ : jn_GEm jn_G0 jn_me46 12 (.inl (jn_bipush (-7)))) <|
  jn_cons (jn_gc_of jn_G0_80 (jn_callV (i := 66) (na := 1) (ci := 6) (q := (RX6, TX6, 11)) (by decide +kernel) rfl (jn_in 210 (by decide +kernel) rfl) (jn_in 207 (by decide +kernel) rfl) (jn_in 209 (by decide +kernel) rfl) (jn_in 0 (by decide +kernel) rfl) (jn_in 54 (by decide +kernel) rfl) ⟨by decide, by decide, by decide +kernel⟩) : jn_GEm jn_G0 jn_me46 14 (.inr (.inl (80, 8, 2)))) <|
  jn_cons (⟨(by decide +kernel), rfl⟩ : jn_GEm jn_G0 jn_me46 17 (.inr (.inr 1))) <|
  jn_cons (⟨jn_aload_n_ok (i := 0) (k := 0) (by decide +kernel) rfl, jn_aload_n_mo 0⟩ : jn_GEm jn_G0 jn_me46 18 (.inl (jn_aload_n 0))) <|
  jn_cons (⟨jn_getf_ok (ci := 6) (k := 1) (i := 15) (N := 11) (C := RX6) (T := TX6) (by decide +kernel) rfl (by decide) jn_u6 (jn_in 170 (by decide +kernel) rfl), jn_getf_mo 6 1⟩ : jn_GEm jn_G0 jn_me46 19 (.inl (jn_getf 6 1))) <|
  jn_cons (⟨jn_iconst_ok (by decide +kernel), jn_iconst_mo 4⟩ : jn_GEm jn_G0 jn_me46 22 (.inl (jn_iconst 4))) <|
  jn_cons (⟨jn_iclt_ok (t := 33) (off := 10) (by decide +kernel) (by decide), jn_iclt_mo 33⟩ : jn_GEm jn_G0 jn_me46 23 (.inl (jn_iclt 33))) <|
  jn_cons (⟨jn_aload_n_ok (i := 0) (k := 0) (by decide +kernel) rfl, jn_aload_n_mo 0⟩ : jn_GEm jn_G0 jn_me46 26 (.inl (jn_aload_n 0))) <|
  jn_cons (⟨jn_bipush_ok (n := (-8)) (v := (-8)) (by decide +kernel) (by decide), jn_bipush_mo (-8)⟩ : jn_GEm jn_G0 jn_me46 27 (.inl (jn_bipush (-8)))) <|
  jn_cons (jn_gc_of jn_G0_80 (jn_callV (i := 66) (na := 1) (ci := 6) (q := (RX6, TX6, 11)) (by decide +kernel) rfl (jn_in 210 (by decide +kernel) rfl) (jn_in 207 (by decide +kernel) rfl) (jn_in 209 (by decide +kernel) rfl) (jn_in 0 (by decide +kernel) rfl) (jn_in 54 (by decide +kernel) rfl) ⟨by decide, by decide, by decide +kernel⟩) : jn_GEm jn_G0 jn_me46 29 (.inr (.inl (80, 8, 2)))) <|
  jn_cons (⟨(by decide +kernel), rfl⟩ : jn_GEm jn_G0 jn_me46 32 (.inr (.inr 1))) <|
  jn_cons (⟨jn_aload_n_ok (i := 0) (k := 0) (by decide +kernel) rfl, jn_aload_n_mo 0⟩ : jn_GEm jn_G0 jn_me46 33 (.inl (jn_aload_n 0))) <|
  jn_cons (⟨jn_getf_ok (ci := 6) (k := 0) (i := 11) (N := 11) (C := RX6) (T := TX6) (by decide +kernel) rfl (by decide) jn_u6 (jn_in 169 (by decide +kernel) rfl), jn_getf_mo 6 0⟩ : jn_GEm jn_G0 jn_me46 34 (.inl (jn_getf 6 0))) <|
  jn_cons (⟨jn_aload_n_ok (i := 0) (k := 0) (by decide +kernel) rfl, jn_aload_n_mo 0⟩ : jn_GEm jn_G0 jn_me46 37 (.inl (jn_aload_n 0))) <|
  jn_cons (⟨jn_getf_ok (ci := 6) (k := 1) (i := 15) (N := 11) (C := RX6) (T := TX6) (by decide +kernel) rfl (by decide) jn_u6 (jn_in 170 (by decide +kernel) rfl), jn_getf_mo 6 1⟩ : jn_GEm jn_G0 jn_me46 38 (.inl (jn_getf 6 1))) <|
  jn_cons (⟨jn_new_ok (ci := 2) (i := 9) (N := 3) (fs := [.int 0, .int 0, .null]) (C := RX2) (T := TX2) (ty0 := tyX2) (by decide +kernel) rfl jn_u2 tyX2_ok (jn_in 73 (by decide +kernel) rfl) (jn_in 96 (by decide +kernel) rfl) (jn_in 57 (by decide +kernel) rfl) (by decide +kernel), jn_new_mo 2 3 [.int 0, .int 0, .null]⟩ : jn_GEm jn_G0 jn_me46 41 (.inl (jn_new 2 3 [.int 0, .int 0, .null]))) <|
  jn_cons (⟨jn_dup_ok (by decide +kernel), jn_dup_mo⟩ : jn_GEm jn_G0 jn_me46 44 (.inl jn_dup)) <| jn_nil
theorem jn_o46_1 : ∀ q ∈ jn_c46_1, jn_GEm jn_G0 jn_me46 q.1 q.2 :=
  jn_cons (⟨jn_aload_n_ok (i := 0) (k := 0) (by decide +kernel) rfl, jn_aload_n_mo 0⟩ : jn_GEm jn_G0 jn_me46 45 (.inl (jn_aload_n 0))) <|
  jn_cons (⟨jn_getf_ok (ci := 6) (k := 1) (i := 15) (N := 11) (C := RX6) (T := TX6) (by decide +kernel) rfl (by decide) jn_u6 (jn_in 170 (by decide +kernel) rfl), jn_getf_mo 6 1⟩ : jn_GEm jn_G0 jn_me46 46 (.inl (jn_getf 6 1))) <|
  jn_cons (⟨jn_iload_n_ok (i := 1) (k := 1) (by decide +kernel) rfl, jn_iload_n_mo 1⟩ : jn_GEm jn_G0 jn_me46 49 (.inl (jn_iload_n 1))) <|
  jn_cons (jn_gc_of jn_G0_11 (jn_callI (i := 70) (na := 2) (by decide +kernel) rfl (jn_in 99 (by decide +kernel) rfl) (jn_in 211 (by decide +kernel) rfl) (jn_in 98 (by decide +kernel) rfl) (jn_in 57 (by decide +kernel) rfl) rfl ⟨by decide, by decide, by decide +kernel⟩) : jn_GEm jn_G0 jn_me46 50 (.inr (.inl (11, 1, 3)))) <|
  jn_cons (⟨jn_aastore_ok (by decide +kernel), jn_aastore_mo⟩ : jn_GEm jn_G0 jn_me46 53 (.inl jn_aastore)) <|
  jn_cons (⟨jn_aload_n_ok (i := 0) (k := 0) (by decide +kernel) rfl, jn_aload_n_mo 0⟩ : jn_GEm jn_G0 jn_me46 54 (.inl (jn_aload_n 0))) <|
  jn_cons (⟨jn_dup_ok (by decide +kernel), jn_dup_mo⟩ : jn_GEm jn_G0 jn_me46 55 (.inl jn_dup)) <|
  jn_cons (⟨jn_getf_ok (ci := 6) (k := 1) (i := 15) (N := 11) (C := RX6) (T := TX6) (by decide +kernel) rfl (by decide) jn_u6 (jn_in 170 (by decide +kernel) rfl), jn_getf_mo 6 1⟩ : jn_GEm jn_G0 jn_me46 56 (.inl (jn_getf 6 1))) <|
  jn_cons (⟨jn_iconst_ok (by decide +kernel), jn_iconst_mo 1⟩ : jn_GEm jn_G0 jn_me46 59 (.inl (jn_iconst 1))) <|
  jn_cons (⟨jn_iadd_ok (by decide +kernel), jn_iadd_mo⟩ : jn_GEm jn_G0 jn_me46 60 (.inl jn_iadd)) <|
  jn_cons (⟨jn_putf_ok (ci := 6) (k := 1) (κ := 0) (i := 15) (N := 11) (C := RX6) (T := TX6) (ty0 := tyX6) (ty := .int) (by decide +kernel) rfl (by decide) jn_u6 (jn_in 170 (by decide +kernel) rfl) tyX6_ok nmX6 rfl (by decide +kernel) jn_po_int, jn_putf_mo 6 1 0⟩ : jn_GEm jn_G0 jn_me46 61 (.inl (jn_putf 6 1 0))) <|
  jn_cons (⟨jn_aload_n_ok (i := 0) (k := 0) (by decide +kernel) rfl, jn_aload_n_mo 0⟩ : jn_GEm jn_G0 jn_me46 64 (.inl (jn_aload_n 0))) <|
  jn_cons (⟨jn_getf_ok (ci := 6) (k := 1) (i := 15) (N := 11) (C := RX6) (T := TX6) (by decide +kernel) rfl (by decide) jn_u6 (jn_in 170 (by decide +kernel) rfl), jn_getf_mo 6 1⟩ : jn_GEm jn_G0 jn_me46 65 (.inl (jn_getf 6 1))) <|
  jn_cons (⟨jn_iconst_ok (by decide +kernel), jn_iconst_mo 1⟩ : jn_GEm jn_G0 jn_me46 68 (.inl (jn_iconst 1))) <|
  jn_cons (⟨jn_isub_ok (by decide +kernel), jn_isub_mo⟩ : jn_GEm jn_G0 jn_me46 69 (.inl jn_isub)) <|
  jn_cons (⟨(by decide +kernel), rfl⟩ : jn_GEm jn_G0 jn_me46 70 (.inr (.inr 1))) <| jn_nil
theorem jn_ok46 : jn_GM jn_G0 46 := jn_GM_of jn_G0_46 rfl rfl (by decide +kernel) (by decide) (jn_appd jn_o46_0 (jn_o46_1))
theorem jn_o47_0 : ∀ q ∈ jn_c47_0, jn_GEm jn_G0 jn_me47 q.1 q.2 :=
  jn_cons (⟨jn_aload_n_ok (i := 0) (k := 0) (by decide +kernel) rfl, jn_aload_n_mo 0⟩ : jn_GEm jn_G0 jn_me47 0 (.inl (jn_aload_n 0))) <|
  jn_cons (⟨jn_iload_n_ok (i := 1) (k := 1) (by decide +kernel) rfl, jn_iload_n_mo 1⟩ : jn_GEm jn_G0 jn_me47 1 (.inl (jn_iload_n 1))) <|
  jn_cons (jn_gc_of jn_G0_82 (jn_callV (i := 73) (na := 1) (ci := 6) (q := (RX6, TX6, 11)) (by decide +kernel) rfl (jn_in 219 (by decide +kernel) rfl) (jn_in 216 (by decide +kernel) rfl) (jn_in 218 (by decide +kernel) rfl) (jn_in 1 (by decide +kernel) rfl) (jn_in 54 (by decide +kernel) rfl) ⟨by decide, by decide, by decide +kernel⟩) : jn_GEm jn_G0 jn_me47 2 (.inr (.inl (82, 8, 2)))) <|
  jn_cons (⟨jn_astore_ok (i := 5) (by decide +kernel), jn_astore_mo 5⟩ : jn_GEm jn_G0 jn_me47 5 (.inl (jn_astore 5))) <|
  jn_cons (⟨jn_aload_ok (i := 5) (by decide +kernel), jn_aload_mo 5⟩ : jn_GEm jn_G0 jn_me47 7 (.inl (jn_aload 5))) <|
  jn_cons (⟨jn_ifnull_ok (t := 30) (off := 21) (by decide +kernel) (by decide), jn_ifnull_mo 30⟩ : jn_GEm jn_G0 jn_me47 9 (.inl (jn_ifnull 30))) <|
  jn_cons (⟨jn_aload_ok (i := 5) (by decide +kernel), jn_aload_mo 5⟩ : jn_GEm jn_G0 jn_me47 12 (.inl (jn_aload 5))) <|
  jn_cons (⟨jn_iload_n_ok (i := 2) (k := 2) (by decide +kernel) rfl, jn_iload_n_mo 2⟩ : jn_GEm jn_G0 jn_me47 14 (.inl (jn_iload_n 2))) <|
  jn_cons (jn_gc_of jn_G0_12 (jn_callV (i := 77) (na := 1) (ci := 2) (q := (RX2, TX2, 3)) (by decide +kernel) rfl (jn_in 223 (by decide +kernel) rfl) (jn_in 220 (by decide +kernel) rfl) (jn_in 221 (by decide +kernel) rfl) (jn_in 222 (by decide +kernel) rfl) (jn_in 57 (by decide +kernel) rfl) ⟨by decide, by decide, by decide +kernel⟩) : jn_GEm jn_G0 jn_me47 15 (.inr (.inl (12, 4, 2)))) <|
  jn_cons (⟨jn_ifeq_ok (t := 30) (off := 12) (by decide +kernel) (by decide), jn_ifeq_mo 30⟩ : jn_GEm jn_G0 jn_me47 18 (.inl (jn_ifeq 30))) <|
  jn_cons (⟨jn_aload_ok (i := 5) (by decide +kernel), jn_aload_mo 5⟩ : jn_GEm jn_G0 jn_me47 21 (.inl (jn_aload 5))) <|
  jn_cons (⟨jn_iload_n_ok (i := 3) (k := 3) (by decide +kernel) rfl, jn_iload_n_mo 3⟩ : jn_GEm jn_G0 jn_me47 23 (.inl (jn_iload_n 3))) <|
  jn_cons (jn_gc_of jn_G0_12 (jn_callV (i := 77) (na := 1) (ci := 2) (q := (RX2, TX2, 3)) (by decide +kernel) rfl (jn_in 223 (by decide +kernel) rfl) (jn_in 220 (by decide +kernel) rfl) (jn_in 221 (by decide +kernel) rfl) (jn_in 222 (by decide +kernel) rfl) (jn_in 57 (by decide +kernel) rfl) ⟨by decide, by decide, by decide +kernel⟩) : jn_GEm jn_G0 jn_me47 24 (.inr (.inl (12, 4, 2)))) <|
  jn_cons (⟨jn_ifne_ok (t := 37) (off := 10) (by decide +kernel) (by decide), jn_ifne_mo 37⟩ : jn_GEm jn_G0 jn_me47 27 (.inl (jn_ifne 37))) <|
  jn_cons (⟨jn_aload_n_ok (i := 0) (k := 0) (by decide +kernel) rfl, jn_aload_n_mo 0⟩ : jn_GEm jn_G0 jn_me47 30 (.inl (jn_aload_n 0))) <|
  jn_cons (⟨jn_bipush_ok (n := (-3)) (v := (-3)) (by decide +kernel) (by decide), jn_bipush_mo (-3)⟩ : jn_GEm jn_G0 jn_me47 31 (.inl (jn_bipush (-3)))) <|
  jn_cons (jn_gc_of jn_G0_80 (jn_callV (i := 66) (na := 1) (ci := 6) (q := (RX6, TX6, 11)) (by decide +kernel) rfl (jn_in 210 (by decide +kernel) rfl) (jn_in 207 (by decide +kernel) rfl) (jn_in 209 (by decide +kernel) rfl) (jn_in 0 (by decide +kernel) rfl) (jn_in 54 (by decide +kernel) rfl) ⟨by decide, by decide, by decide +kernel⟩) : jn_GEm jn_G0 jn_me47 33 (.inr (.inl (80, 8, 2)))) <|
  jn_cons (⟨(by decide +kernel), rfl⟩ : jn_GEm jn_G0 jn_me47 36 (.inr (.inr 1))) <|
  jn_cons (⟨jn_iload_ok (i := 4) (by decide +kernel), jn_iload_mo 4⟩ : jn_GEm jn_G0 jn_me47 37 (.inl (jn_iload 4))) <|
  jn_cons (⟨jn_iflt_ok (t := 62) (off := 23) (by decide +kernel) (by decide), jn_iflt_mo 62⟩ : jn_GEm jn_G0 jn_me47 39 (.inl (jn_iflt 62))) <|
  jn_cons (⟨jn_iload_ok (i := 4) (by decide +kernel), jn_iload_mo 4⟩ : jn_GEm jn_G0 jn_me47 42 (.inl (jn_iload 4))) <|
  jn_cons (⟨jn_iconst_ok (by decide +kernel), jn_iconst_mo 4⟩ : jn_GEm jn_G0 jn_me47 44 (.inl (jn_iconst 4))) <|
  jn_cons (⟨jn_icgt_ok (t := 62) (off := 17) (by decide +kernel) (by decide), jn_icgt_mo 62⟩ : jn_GEm jn_G0 jn_me47 45 (.inl (jn_icgt 62))) <|
  jn_cons (⟨jn_iload_n_ok (i := 2) (k := 2) (by decide +kernel) rfl, jn_iload_n_mo 2⟩ : jn_GEm jn_G0 jn_me47 48 (.inl (jn_iload_n 2))) <| jn_nil
theorem jn_o47_1 : ∀ q ∈ jn_c47_1, jn_GEm jn_G0 jn_me47 q.1 q.2 :=
  jn_cons (⟨jn_iload_n_ok (i := 3) (k := 3) (by decide +kernel) rfl, jn_iload_n_mo 3⟩ : jn_GEm jn_G0 jn_me47 49 (.inl (jn_iload_n 3))) <|
  jn_cons (⟨jn_iceq_ok (t := 62) (off := 12) (by decide +kernel) (by decide), jn_iceq_mo 62⟩ : jn_GEm jn_G0 jn_me47 50 (.inl (jn_iceq 62))) <|
  jn_cons (⟨jn_aload_n_ok (i := 0) (k := 0) (by decide +kernel) rfl, jn_aload_n_mo 0⟩ : jn_GEm jn_G0 jn_me47 53 (.inl (jn_aload_n 0))) <|
  jn_cons (⟨jn_aload_ok (i := 5) (by decide +kernel), jn_aload_mo 5⟩ : jn_GEm jn_G0 jn_me47 54 (.inl (jn_aload 5))) <|
  jn_cons (jn_gc_of jn_G0_84 (jn_callV (i := 81) (na := 1) (ci := 6) (q := (RX6, TX6, 11)) (by decide +kernel) rfl (jn_in 227 (by decide +kernel) rfl) (jn_in 224 (by decide +kernel) rfl) (jn_in 226 (by decide +kernel) rfl) (jn_in 2 (by decide +kernel) rfl) (jn_in 54 (by decide +kernel) rfl) ⟨by decide, by decide, by decide +kernel⟩) : jn_GEm jn_G0 jn_me47 56 (.inr (.inl (84, 8, 2)))) <|
  jn_cons (⟨jn_ifeq_ok (t := 69) (off := 10) (by decide +kernel) (by decide), jn_ifeq_mo 69⟩ : jn_GEm jn_G0 jn_me47 59 (.inl (jn_ifeq 69))) <|
  jn_cons (⟨jn_aload_n_ok (i := 0) (k := 0) (by decide +kernel) rfl, jn_aload_n_mo 0⟩ : jn_GEm jn_G0 jn_me47 62 (.inl (jn_aload_n 0))) <|
  jn_cons (⟨jn_bipush_ok (n := (-7)) (v := (-7)) (by decide +kernel) (by decide), jn_bipush_mo (-7)⟩ : jn_GEm jn_G0 jn_me47 63 (.inl (jn_bipush (-7)))) <|
  jn_cons (jn_gc_of jn_G0_80 (jn_callV (i := 66) (na := 1) (ci := 6) (q := (RX6, TX6, 11)) (by decide +kernel) rfl (jn_in 210 (by decide +kernel) rfl) (jn_in 207 (by decide +kernel) rfl) (jn_in 209 (by decide +kernel) rfl) (jn_in 0 (by decide +kernel) rfl) (jn_in 54 (by decide +kernel) rfl) ⟨by decide, by decide, by decide +kernel⟩) : jn_GEm jn_G0 jn_me47 65 (.inr (.inl (80, 8, 2)))) <|
  jn_cons (⟨(by decide +kernel), rfl⟩ : jn_GEm jn_G0 jn_me47 68 (.inr (.inr 1))) <|
  jn_cons (⟨jn_aload_ok (i := 5) (by decide +kernel), jn_aload_mo 5⟩ : jn_GEm jn_G0 jn_me47 69 (.inl (jn_aload 5))) <|
  jn_cons (⟨jn_iload_n_ok (i := 2) (k := 2) (by decide +kernel) rfl, jn_iload_n_mo 2⟩ : jn_GEm jn_G0 jn_me47 71 (.inl (jn_iload_n 2))) <|
  jn_cons (⟨jn_iload_n_ok (i := 3) (k := 3) (by decide +kernel) rfl, jn_iload_n_mo 3⟩ : jn_GEm jn_G0 jn_me47 72 (.inl (jn_iload_n 3))) <|
  jn_cons (jn_gc_of jn_G0_14 (jn_callV (i := 85) (na := 2) (ci := 2) (q := (RX2, TX2, 3)) (by decide +kernel) rfl (jn_in 235 (by decide +kernel) rfl) (jn_in 232 (by decide +kernel) rfl) (jn_in 233 (by decide +kernel) rfl) (jn_in 234 (by decide +kernel) rfl) (jn_in 57 (by decide +kernel) rfl) ⟨by decide, by decide, by decide +kernel⟩) : jn_GEm jn_G0 jn_me47 73 (.inr (.inl (14, 4, 3)))) <|
  jn_cons (⟨jn_istore_ok (i := 6) (by decide +kernel), jn_istore_mo 6⟩ : jn_GEm jn_G0 jn_me47 76 (.inl (jn_istore 6))) <|
  jn_cons (⟨jn_aload_ok (i := 5) (by decide +kernel), jn_aload_mo 5⟩ : jn_GEm jn_G0 jn_me47 78 (.inl (jn_aload 5))) <|
  jn_cons (⟨jn_iload_n_ok (i := 2) (k := 2) (by decide +kernel) rfl, jn_iload_n_mo 2⟩ : jn_GEm jn_G0 jn_me47 80 (.inl (jn_iload_n 2))) <|
  jn_cons (⟨jn_iload_n_ok (i := 3) (k := 3) (by decide +kernel) rfl, jn_iload_n_mo 3⟩ : jn_GEm jn_G0 jn_me47 81 (.inl (jn_iload_n 3))) <|
  jn_cons (⟨jn_iload_ok (i := 4) (by decide +kernel), jn_iload_mo 4⟩ : jn_GEm jn_G0 jn_me47 82 (.inl (jn_iload 4))) <|
  jn_cons (jn_gc_of jn_G0_15 (jn_callV (i := 89) (na := 3) (ci := 2) (q := (RX2, TX2, 3)) (by decide +kernel) rfl (jn_in 239 (by decide +kernel) rfl) (jn_in 236 (by decide +kernel) rfl) (jn_in 237 (by decide +kernel) rfl) (jn_in 238 (by decide +kernel) rfl) (jn_in 57 (by decide +kernel) rfl) ⟨by decide, by decide, by decide +kernel⟩) : jn_GEm jn_G0 jn_me47 84 (.inr (.inl (15, 4, 4)))) <|
  jn_cons (⟨jn_iload_ok (i := 6) (by decide +kernel), jn_iload_mo 6⟩ : jn_GEm jn_G0 jn_me47 87 (.inl (jn_iload 6))) <|
  jn_cons (⟨(by decide +kernel), rfl⟩ : jn_GEm jn_G0 jn_me47 89 (.inr (.inr 1))) <| jn_nil
theorem jn_ok47 : jn_GM jn_G0 47 := jn_GM_of jn_G0_47 rfl rfl (by decide +kernel) (by decide) (jn_appd jn_o47_0 (jn_o47_1))
theorem jn_o48_0 : ∀ q ∈ jn_c48_0, jn_GEm jn_G0 jn_me48 q.1 q.2 :=
  jn_cons (⟨jn_aload_n_ok (i := 0) (k := 0) (by decide +kernel) rfl, jn_aload_n_mo 0⟩ : jn_GEm jn_G0 jn_me48 0 (.inl (jn_aload_n 0))) <|
  jn_cons (⟨jn_iload_n_ok (i := 1) (k := 1) (by decide +kernel) rfl, jn_iload_n_mo 1⟩ : jn_GEm jn_G0 jn_me48 1 (.inl (jn_iload_n 1))) <|
  jn_cons (jn_gc_of jn_G0_82 (jn_callV (i := 73) (na := 1) (ci := 6) (q := (RX6, TX6, 11)) (by decide +kernel) rfl (jn_in 219 (by decide +kernel) rfl) (jn_in 216 (by decide +kernel) rfl) (jn_in 218 (by decide +kernel) rfl) (jn_in 1 (by decide +kernel) rfl) (jn_in 54 (by decide +kernel) rfl) ⟨by decide, by decide, by decide +kernel⟩) : jn_GEm jn_G0 jn_me48 2 (.inr (.inl (82, 8, 2)))) <|
  jn_cons (⟨jn_astore_n_ok (i := 3) (k := 3) (by decide +kernel) rfl, jn_astore_n_mo 3⟩ : jn_GEm jn_G0 jn_me48 5 (.inl (jn_astore_n 3))) <|
  jn_cons (⟨jn_aload_n_ok (i := 3) (k := 3) (by decide +kernel) rfl, jn_aload_n_mo 3⟩ : jn_GEm jn_G0 jn_me48 6 (.inl (jn_aload_n 3))) <|
  jn_cons (⟨jn_ifnonnull_ok (t := 17) (off := 10) (by decide +kernel) (by decide), jn_ifnonnull_mo 17⟩ : jn_GEm jn_G0 jn_me48 7 (.inl (jn_ifnonnull 17))) <|
  jn_cons (⟨jn_aload_n_ok (i := 0) (k := 0) (by decide +kernel) rfl, jn_aload_n_mo 0⟩ : jn_GEm jn_G0 jn_me48 10 (.inl (jn_aload_n 0))) <|
  jn_cons (⟨jn_bipush_ok (n := (-3)) (v := (-3)) (by decide +kernel) (by decide), jn_bipush_mo (-3)⟩ : jn_GEm jn_G0 jn_me48 11 (.inl (jn_bipush (-3)))) <|
  jn_cons (jn_gc_of jn_G0_80 (jn_callV (i := 66) (na := 1) (ci := 6) (q := (RX6, TX6, 11)) (by decide +kernel) rfl (jn_in 210 (by decide +kernel) rfl) (jn_in 207 (by decide +kernel) rfl) (jn_in 209 (by decide +kernel) rfl) (jn_in 0 (by decide +kernel) rfl) (jn_in 54 (by decide +kernel) rfl) ⟨by decide, by decide, by decide +kernel⟩) : jn_GEm jn_G0 jn_me48 13 (.inr (.inl (80, 8, 2)))) <|
  jn_cons (⟨(by decide +kernel), rfl⟩ : jn_GEm jn_G0 jn_me48 16 (.inr (.inr 1))) <|
  jn_cons (⟨jn_iload_n_ok (i := 2) (k := 2) (by decide +kernel) rfl, jn_iload_n_mo 2⟩ : jn_GEm jn_G0 jn_me48 17 (.inl (jn_iload_n 2))) <|
  jn_cons (⟨jn_table_ok (dflt := 67) (lo := 0) (hi := 4) (offs := #[34, 39, 44, 49, 54]) (len := 34) (by decide +kernel) (by decide) (by decide), jn_table_mo 0 4 [52, 57, 62, 67, 72] 85⟩ : jn_GEm jn_G0 jn_me48 18 (.inl (jn_table 0 4 [52, 57, 62, 67, 72] 85))) <|
  jn_cons (⟨jn_aload_n_ok (i := 3) (k := 3) (by decide +kernel) rfl, jn_aload_n_mo 3⟩ : jn_GEm jn_G0 jn_me48 52 (.inl (jn_aload_n 3))) <|
  jn_cons (jn_gc_of jn_G0_21 (jn_callV (i := 93) (na := 0) (ci := 2) (q := (RX2, TX2, 3)) (by decide +kernel) rfl (jn_in 247 (by decide +kernel) rfl) (jn_in 244 (by decide +kernel) rfl) (jn_in 245 (by decide +kernel) rfl) (jn_in 246 (by decide +kernel) rfl) (jn_in 57 (by decide +kernel) rfl) ⟨by decide, by decide, by decide +kernel⟩) : jn_GEm jn_G0 jn_me48 53 (.inr (.inl (21, 4, 1)))) <|
  jn_cons (⟨(by decide +kernel), rfl⟩ : jn_GEm jn_G0 jn_me48 56 (.inr (.inr 1))) <|
  jn_cons (⟨jn_aload_n_ok (i := 3) (k := 3) (by decide +kernel) rfl, jn_aload_n_mo 3⟩ : jn_GEm jn_G0 jn_me48 57 (.inl (jn_aload_n 3))) <|
  jn_cons (⟨jn_getf_ok (ci := 2) (k := 1) (i := 97) (N := 3) (C := RX2) (T := TX2) (by decide +kernel) rfl (by decide) jn_u2 (jn_in 106 (by decide +kernel) rfl), jn_getf_mo 2 1⟩ : jn_GEm jn_G0 jn_me48 58 (.inl (jn_getf 2 1))) <|
  jn_cons (⟨(by decide +kernel), rfl⟩ : jn_GEm jn_G0 jn_me48 61 (.inr (.inr 1))) <|
  jn_cons (⟨jn_aload_n_ok (i := 3) (k := 3) (by decide +kernel) rfl, jn_aload_n_mo 3⟩ : jn_GEm jn_G0 jn_me48 62 (.inl (jn_aload_n 3))) <|
  jn_cons (jn_gc_of jn_G0_18 (jn_callV (i := 100) (na := 0) (ci := 2) (q := (RX2, TX2, 3)) (by decide +kernel) rfl (jn_in 267 (by decide +kernel) rfl) (jn_in 276 (by decide +kernel) rfl) (jn_in 265 (by decide +kernel) rfl) (jn_in 266 (by decide +kernel) rfl) (jn_in 57 (by decide +kernel) rfl) ⟨by decide, by decide, by decide +kernel⟩) : jn_GEm jn_G0 jn_me48 63 (.inr (.inl (18, 4, 1)))) <|
  jn_cons (⟨(by decide +kernel), rfl⟩ : jn_GEm jn_G0 jn_me48 66 (.inr (.inr 1))) <|
  jn_cons (⟨jn_aload_n_ok (i := 3) (k := 3) (by decide +kernel) rfl, jn_aload_n_mo 3⟩ : jn_GEm jn_G0 jn_me48 67 (.inl (jn_aload_n 3))) <|
  jn_cons (jn_gc_of jn_G0_19 (jn_callV (i := 103) (na := 0) (ci := 2) (q := (RX2, TX2, 3)) (by decide +kernel) rfl (jn_in 263 (by decide +kernel) rfl) (jn_in 277 (by decide +kernel) rfl) (jn_in 261 (by decide +kernel) rfl) (jn_in 262 (by decide +kernel) rfl) (jn_in 57 (by decide +kernel) rfl) ⟨by decide, by decide, by decide +kernel⟩) : jn_GEm jn_G0 jn_me48 68 (.inr (.inl (19, 4, 1)))) <|
  jn_cons (⟨(by decide +kernel), rfl⟩ : jn_GEm jn_G0 jn_me48 71 (.inr (.inr 1))) <| jn_nil
theorem jn_o48_1 : ∀ q ∈ jn_c48_1, jn_GEm jn_G0 jn_me48 q.1 q.2 :=
  jn_cons (⟨jn_aload_n_ok (i := 3) (k := 3) (by decide +kernel) rfl, jn_aload_n_mo 3⟩ : jn_GEm jn_G0 jn_me48 72 (.inl (jn_aload_n 3))) <|
  jn_cons (jn_gc_of jn_G0_20 (jn_callV (i := 106) (na := 0) (ci := 2) (q := (RX2, TX2, 3)) (by decide +kernel) rfl (jn_in 251 (by decide +kernel) rfl) (jn_in 278 (by decide +kernel) rfl) (jn_in 249 (by decide +kernel) rfl) (jn_in 250 (by decide +kernel) rfl) (jn_in 57 (by decide +kernel) rfl) ⟨by decide, by decide, by decide +kernel⟩) : jn_GEm jn_G0 jn_me48 73 (.inr (.inl (20, 4, 1)))) <|
  jn_cons (⟨jn_ifeq_ok (t := 83) (off := 7) (by decide +kernel) (by decide), jn_ifeq_mo 83⟩ : jn_GEm jn_G0 jn_me48 76 (.inl (jn_ifeq 83))) <|
  jn_cons (⟨jn_iconst_ok (by decide +kernel), jn_iconst_mo 1⟩ : jn_GEm jn_G0 jn_me48 79 (.inl (jn_iconst 1))) <|
  jn_cons (⟨jn_goto_ok (t := 84) (off := 4) (by decide +kernel) (by decide), jn_goto_mo 84⟩ : jn_GEm jn_G0 jn_me48 80 (.inl (jn_goto 84))) <|
  jn_cons (⟨jn_iconst_ok (by decide +kernel), jn_iconst_mo 0⟩ : jn_GEm jn_G0 jn_me48 83 (.inl (jn_iconst 0))) <|
  jn_cons (⟨(by decide +kernel), rfl⟩ : jn_GEm jn_G0 jn_me48 84 (.inr (.inr 1))) <|
  jn_cons (⟨jn_aload_n_ok (i := 0) (k := 0) (by decide +kernel) rfl, jn_aload_n_mo 0⟩ : jn_GEm jn_G0 jn_me48 85 (.inl (jn_aload_n 0))) <|
  jn_cons (⟨jn_bipush_ok (n := (-7)) (v := (-7)) (by decide +kernel) (by decide), jn_bipush_mo (-7)⟩ : jn_GEm jn_G0 jn_me48 86 (.inl (jn_bipush (-7)))) <|
  jn_cons (jn_gc_of jn_G0_80 (jn_callV (i := 66) (na := 1) (ci := 6) (q := (RX6, TX6, 11)) (by decide +kernel) rfl (jn_in 210 (by decide +kernel) rfl) (jn_in 207 (by decide +kernel) rfl) (jn_in 209 (by decide +kernel) rfl) (jn_in 0 (by decide +kernel) rfl) (jn_in 54 (by decide +kernel) rfl) ⟨by decide, by decide, by decide +kernel⟩) : jn_GEm jn_G0 jn_me48 88 (.inr (.inl (80, 8, 2)))) <|
  jn_cons (⟨(by decide +kernel), rfl⟩ : jn_GEm jn_G0 jn_me48 91 (.inr (.inr 1))) <| jn_nil
theorem jn_ok48 : jn_GM jn_G0 48 := jn_GM_of jn_G0_48 rfl rfl (by decide +kernel) (by decide) (jn_appd jn_o48_0 (jn_o48_1))
theorem jn_o49_0 : ∀ q ∈ jn_c49_0, jn_GEm jn_G0 jn_me49 q.1 q.2 :=
  jn_cons (⟨jn_aload_n_ok (i := 0) (k := 0) (by decide +kernel) rfl, jn_aload_n_mo 0⟩ : jn_GEm jn_G0 jn_me49 0 (.inl (jn_aload_n 0))) <|
  jn_cons (⟨jn_iload_n_ok (i := 1) (k := 1) (by decide +kernel) rfl, jn_iload_n_mo 1⟩ : jn_GEm jn_G0 jn_me49 1 (.inl (jn_iload_n 1))) <|
  jn_cons (jn_gc_of jn_G0_82 (jn_callV (i := 73) (na := 1) (ci := 6) (q := (RX6, TX6, 11)) (by decide +kernel) rfl (jn_in 219 (by decide +kernel) rfl) (jn_in 216 (by decide +kernel) rfl) (jn_in 218 (by decide +kernel) rfl) (jn_in 1 (by decide +kernel) rfl) (jn_in 54 (by decide +kernel) rfl) ⟨by decide, by decide, by decide +kernel⟩) : jn_GEm jn_G0 jn_me49 2 (.inr (.inl (82, 8, 2)))) <|
  jn_cons (⟨jn_astore_ok (i := 4) (by decide +kernel), jn_astore_mo 4⟩ : jn_GEm jn_G0 jn_me49 5 (.inl (jn_astore 4))) <|
  jn_cons (⟨jn_aload_ok (i := 4) (by decide +kernel), jn_aload_mo 4⟩ : jn_GEm jn_G0 jn_me49 7 (.inl (jn_aload 4))) <|
  jn_cons (⟨jn_ifnull_ok (t := 35) (off := 26) (by decide +kernel) (by decide), jn_ifnull_mo 35⟩ : jn_GEm jn_G0 jn_me49 9 (.inl (jn_ifnull 35))) <|
  jn_cons (⟨jn_aload_ok (i := 4) (by decide +kernel), jn_aload_mo 4⟩ : jn_GEm jn_G0 jn_me49 12 (.inl (jn_aload 4))) <|
  jn_cons (⟨jn_iload_n_ok (i := 2) (k := 2) (by decide +kernel) rfl, jn_iload_n_mo 2⟩ : jn_GEm jn_G0 jn_me49 14 (.inl (jn_iload_n 2))) <|
  jn_cons (jn_gc_of jn_G0_12 (jn_callV (i := 77) (na := 1) (ci := 2) (q := (RX2, TX2, 3)) (by decide +kernel) rfl (jn_in 223 (by decide +kernel) rfl) (jn_in 220 (by decide +kernel) rfl) (jn_in 221 (by decide +kernel) rfl) (jn_in 222 (by decide +kernel) rfl) (jn_in 57 (by decide +kernel) rfl) ⟨by decide, by decide, by decide +kernel⟩) : jn_GEm jn_G0 jn_me49 15 (.inr (.inl (12, 4, 2)))) <|
  jn_cons (⟨jn_ifeq_ok (t := 35) (off := 17) (by decide +kernel) (by decide), jn_ifeq_mo 35⟩ : jn_GEm jn_G0 jn_me49 18 (.inl (jn_ifeq 35))) <|
  jn_cons (⟨jn_iload_n_ok (i := 3) (k := 3) (by decide +kernel) rfl, jn_iload_n_mo 3⟩ : jn_GEm jn_G0 jn_me49 21 (.inl (jn_iload_n 3))) <|
  jn_cons (⟨jn_iconst_ok (by decide +kernel), jn_iconst_mo (-1)⟩ : jn_GEm jn_G0 jn_me49 22 (.inl (jn_iconst (-1)))) <|
  jn_cons (⟨jn_iceq_ok (t := 42) (off := 19) (by decide +kernel) (by decide), jn_iceq_mo 42⟩ : jn_GEm jn_G0 jn_me49 23 (.inl (jn_iceq 42))) <|
  jn_cons (⟨jn_aload_ok (i := 4) (by decide +kernel), jn_aload_mo 4⟩ : jn_GEm jn_G0 jn_me49 26 (.inl (jn_aload 4))) <|
  jn_cons (⟨jn_iload_n_ok (i := 3) (k := 3) (by decide +kernel) rfl, jn_iload_n_mo 3⟩ : jn_GEm jn_G0 jn_me49 28 (.inl (jn_iload_n 3))) <|
  jn_cons (jn_gc_of jn_G0_12 (jn_callV (i := 77) (na := 1) (ci := 2) (q := (RX2, TX2, 3)) (by decide +kernel) rfl (jn_in 223 (by decide +kernel) rfl) (jn_in 220 (by decide +kernel) rfl) (jn_in 221 (by decide +kernel) rfl) (jn_in 222 (by decide +kernel) rfl) (jn_in 57 (by decide +kernel) rfl) ⟨by decide, by decide, by decide +kernel⟩) : jn_GEm jn_G0 jn_me49 29 (.inr (.inl (12, 4, 2)))) <|
  jn_cons (⟨jn_ifne_ok (t := 42) (off := 10) (by decide +kernel) (by decide), jn_ifne_mo 42⟩ : jn_GEm jn_G0 jn_me49 32 (.inl (jn_ifne 42))) <|
  jn_cons (⟨jn_aload_n_ok (i := 0) (k := 0) (by decide +kernel) rfl, jn_aload_n_mo 0⟩ : jn_GEm jn_G0 jn_me49 35 (.inl (jn_aload_n 0))) <|
  jn_cons (⟨jn_bipush_ok (n := (-3)) (v := (-3)) (by decide +kernel) (by decide), jn_bipush_mo (-3)⟩ : jn_GEm jn_G0 jn_me49 36 (.inl (jn_bipush (-3)))) <|
  jn_cons (jn_gc_of jn_G0_80 (jn_callV (i := 66) (na := 1) (ci := 6) (q := (RX6, TX6, 11)) (by decide +kernel) rfl (jn_in 210 (by decide +kernel) rfl) (jn_in 207 (by decide +kernel) rfl) (jn_in 209 (by decide +kernel) rfl) (jn_in 0 (by decide +kernel) rfl) (jn_in 54 (by decide +kernel) rfl) ⟨by decide, by decide, by decide +kernel⟩) : jn_GEm jn_G0 jn_me49 38 (.inr (.inl (80, 8, 2)))) <|
  jn_cons (⟨(by decide +kernel), rfl⟩ : jn_GEm jn_G0 jn_me49 41 (.inr (.inr 1))) <|
  jn_cons (⟨jn_iload_n_ok (i := 3) (k := 3) (by decide +kernel) rfl, jn_iload_n_mo 3⟩ : jn_GEm jn_G0 jn_me49 42 (.inl (jn_iload_n 3))) <|
  jn_cons (⟨jn_iconst_ok (by decide +kernel), jn_iconst_mo (-1)⟩ : jn_GEm jn_G0 jn_me49 43 (.inl (jn_iconst (-1)))) <|
  jn_cons (⟨jn_icne_ok (t := 56) (off := 12) (by decide +kernel) (by decide), jn_icne_mo 56⟩ : jn_GEm jn_G0 jn_me49 44 (.inl (jn_icne 56))) <| jn_nil
theorem jn_o49_1 : ∀ q ∈ jn_c49_1, jn_GEm jn_G0 jn_me49 q.1 q.2 :=
  jn_cons (⟨jn_aload_ok (i := 4) (by decide +kernel), jn_aload_mo 4⟩ : jn_GEm jn_G0 jn_me49 47 (.inl (jn_aload 4))) <|
  jn_cons (⟨jn_iload_n_ok (i := 2) (k := 2) (by decide +kernel) rfl, jn_iload_n_mo 2⟩ : jn_GEm jn_G0 jn_me49 49 (.inl (jn_iload_n 2))) <|
  jn_cons (jn_gc_of jn_G0_16 (jn_callV (i := 110) (na := 1) (ci := 2) (q := (RX2, TX2, 3)) (by decide +kernel) rfl (jn_in 271 (by decide +kernel) rfl) (jn_in 283 (by decide +kernel) rfl) (jn_in 269 (by decide +kernel) rfl) (jn_in 270 (by decide +kernel) rfl) (jn_in 57 (by decide +kernel) rfl) ⟨by decide, by decide, by decide +kernel⟩) : jn_GEm jn_G0 jn_me49 50 (.inr (.inl (16, 4, 2)))) <|
  jn_cons (⟨jn_goto_ok (t := 63) (off := 10) (by decide +kernel) (by decide), jn_goto_mo 63⟩ : jn_GEm jn_G0 jn_me49 53 (.inl (jn_goto 63))) <|
  jn_cons (⟨jn_aload_ok (i := 4) (by decide +kernel), jn_aload_mo 4⟩ : jn_GEm jn_G0 jn_me49 56 (.inl (jn_aload 4))) <|
  jn_cons (⟨jn_iload_n_ok (i := 2) (k := 2) (by decide +kernel) rfl, jn_iload_n_mo 2⟩ : jn_GEm jn_G0 jn_me49 58 (.inl (jn_iload_n 2))) <|
  jn_cons (⟨jn_iload_n_ok (i := 3) (k := 3) (by decide +kernel) rfl, jn_iload_n_mo 3⟩ : jn_GEm jn_G0 jn_me49 59 (.inl (jn_iload_n 3))) <|
  jn_cons (jn_gc_of jn_G0_14 (jn_callV (i := 85) (na := 2) (ci := 2) (q := (RX2, TX2, 3)) (by decide +kernel) rfl (jn_in 235 (by decide +kernel) rfl) (jn_in 232 (by decide +kernel) rfl) (jn_in 233 (by decide +kernel) rfl) (jn_in 234 (by decide +kernel) rfl) (jn_in 57 (by decide +kernel) rfl) ⟨by decide, by decide, by decide +kernel⟩) : jn_GEm jn_G0 jn_me49 60 (.inr (.inl (14, 4, 3)))) <|
  jn_cons (⟨(by decide +kernel), rfl⟩ : jn_GEm jn_G0 jn_me49 63 (.inr (.inr 1))) <| jn_nil
theorem jn_ok49 : jn_GM jn_G0 49 := jn_GM_of jn_G0_49 rfl rfl (by decide +kernel) (by decide) (jn_appd jn_o49_0 (jn_o49_1))
theorem jn_o50_0 : ∀ q ∈ jn_c50_0, jn_GEm jn_G0 jn_me50 q.1 q.2 :=
  jn_cons (⟨jn_aload_n_ok (i := 0) (k := 0) (by decide +kernel) rfl, jn_aload_n_mo 0⟩ : jn_GEm jn_G0 jn_me50 0 (.inl (jn_aload_n 0))) <|
  jn_cons (⟨jn_iload_n_ok (i := 1) (k := 1) (by decide +kernel) rfl, jn_iload_n_mo 1⟩ : jn_GEm jn_G0 jn_me50 1 (.inl (jn_iload_n 1))) <|
  jn_cons (jn_gc_of jn_G0_82 (jn_callV (i := 73) (na := 1) (ci := 6) (q := (RX6, TX6, 11)) (by decide +kernel) rfl (jn_in 219 (by decide +kernel) rfl) (jn_in 216 (by decide +kernel) rfl) (jn_in 218 (by decide +kernel) rfl) (jn_in 1 (by decide +kernel) rfl) (jn_in 54 (by decide +kernel) rfl) ⟨by decide, by decide, by decide +kernel⟩) : jn_GEm jn_G0 jn_me50 2 (.inr (.inl (82, 8, 2)))) <|
  jn_cons (⟨jn_astore_n_ok (i := 2) (k := 2) (by decide +kernel) rfl, jn_astore_n_mo 2⟩ : jn_GEm jn_G0 jn_me50 5 (.inl (jn_astore_n 2))) <|
  jn_cons (⟨jn_aload_n_ok (i := 2) (k := 2) (by decide +kernel) rfl, jn_aload_n_mo 2⟩ : jn_GEm jn_G0 jn_me50 6 (.inl (jn_aload_n 2))) <|
  jn_cons (⟨jn_ifnonnull_ok (t := 18) (off := 11) (by decide +kernel) (by decide), jn_ifnonnull_mo 18⟩ : jn_GEm jn_G0 jn_me50 7 (.inl (jn_ifnonnull 18))) <|
  jn_cons (⟨jn_aload_n_ok (i := 0) (k := 0) (by decide +kernel) rfl, jn_aload_n_mo 0⟩ : jn_GEm jn_G0 jn_me50 10 (.inl (jn_aload_n 0))) <|
  jn_cons (⟨jn_bipush_ok (n := (-3)) (v := (-3)) (by decide +kernel) (by decide), jn_bipush_mo (-3)⟩ : jn_GEm jn_G0 jn_me50 11 (.inl (jn_bipush (-3)))) <|
  jn_cons (jn_gc_of jn_G0_81 (jn_callV (i := 113) (na := 1) (ci := 6) (q := (RX6, TX6, 11)) (by decide +kernel) rfl (jn_in 291 (by decide +kernel) rfl) (jn_in 288 (by decide +kernel) rfl) (jn_in 290 (by decide +kernel) rfl) (jn_in 5 (by decide +kernel) rfl) (jn_in 54 (by decide +kernel) rfl) ⟨by decide, by decide, by decide +kernel⟩) : jn_GEm jn_G0 jn_me50 13 (.inr (.inl (81, 8, 2)))) <|
  jn_cons (⟨jn_i2l_ok (by decide +kernel), jn_i2l_mo⟩ : jn_GEm jn_G0 jn_me50 16 (.inl jn_i2l)) <|
  jn_cons (⟨(by decide +kernel), rfl⟩ : jn_GEm jn_G0 jn_me50 17 (.inr (.inr 3))) <|
  jn_cons (⟨jn_aload_n_ok (i := 2) (k := 2) (by decide +kernel) rfl, jn_aload_n_mo 2⟩ : jn_GEm jn_G0 jn_me50 18 (.inl (jn_aload_n 2))) <|
  jn_cons (jn_gc_of jn_G0_20 (jn_callV (i := 106) (na := 0) (ci := 2) (q := (RX2, TX2, 3)) (by decide +kernel) rfl (jn_in 251 (by decide +kernel) rfl) (jn_in 278 (by decide +kernel) rfl) (jn_in 249 (by decide +kernel) rfl) (jn_in 250 (by decide +kernel) rfl) (jn_in 57 (by decide +kernel) rfl) ⟨by decide, by decide, by decide +kernel⟩) : jn_GEm jn_G0 jn_me50 19 (.inr (.inl (20, 4, 1)))) <|
  jn_cons (⟨jn_ifne_ok (t := 33) (off := 11) (by decide +kernel) (by decide), jn_ifne_mo 33⟩ : jn_GEm jn_G0 jn_me50 22 (.inl (jn_ifne 33))) <|
  jn_cons (⟨jn_aload_n_ok (i := 0) (k := 0) (by decide +kernel) rfl, jn_aload_n_mo 0⟩ : jn_GEm jn_G0 jn_me50 25 (.inl (jn_aload_n 0))) <|
  jn_cons (⟨jn_bipush_ok (n := (-5)) (v := (-5)) (by decide +kernel) (by decide), jn_bipush_mo (-5)⟩ : jn_GEm jn_G0 jn_me50 26 (.inl (jn_bipush (-5)))) <|
  jn_cons (jn_gc_of jn_G0_81 (jn_callV (i := 113) (na := 1) (ci := 6) (q := (RX6, TX6, 11)) (by decide +kernel) rfl (jn_in 291 (by decide +kernel) rfl) (jn_in 288 (by decide +kernel) rfl) (jn_in 290 (by decide +kernel) rfl) (jn_in 5 (by decide +kernel) rfl) (jn_in 54 (by decide +kernel) rfl) ⟨by decide, by decide, by decide +kernel⟩) : jn_GEm jn_G0 jn_me50 28 (.inr (.inl (81, 8, 2)))) <|
  jn_cons (⟨jn_i2l_ok (by decide +kernel), jn_i2l_mo⟩ : jn_GEm jn_G0 jn_me50 31 (.inl jn_i2l)) <|
  jn_cons (⟨(by decide +kernel), rfl⟩ : jn_GEm jn_G0 jn_me50 32 (.inr (.inr 3))) <|
  jn_cons (⟨jn_aload_n_ok (i := 0) (k := 0) (by decide +kernel) rfl, jn_aload_n_mo 0⟩ : jn_GEm jn_G0 jn_me50 33 (.inl (jn_aload_n 0))) <|
  jn_cons (⟨jn_getf_ok (ci := 6) (k := 8) (i := 44) (N := 11) (C := RX6) (T := TX6) (by decide +kernel) rfl (by decide) jn_u6 (jn_in 177 (by decide +kernel) rfl), jn_getf_mo 6 8⟩ : jn_GEm jn_G0 jn_me50 34 (.inl (jn_getf 6 8))) <|
  jn_cons (⟨jn_aload_n_ok (i := 2) (k := 2) (by decide +kernel) rfl, jn_aload_n_mo 2⟩ : jn_GEm jn_G0 jn_me50 37 (.inl (jn_aload_n 2))) <|
  jn_cons (jn_gc_of jn_G0_33 (jn_callV (i := 116) (na := 1) (ci := 4) (q := (RX4, TX4, 1)) (by decide +kernel) rfl (jn_in 295 (by decide +kernel) rfl) (jn_in 292 (by decide +kernel) rfl) (jn_in 293 (by decide +kernel) rfl) (jn_in 294 (by decide +kernel) rfl) (jn_in 55 (by decide +kernel) rfl) ⟨by decide, by decide, by decide +kernel⟩) : jn_GEm jn_G0 jn_me50 38 (.inr (.inl (33, 6, 2)))) <|
  jn_cons (⟨(by decide +kernel), rfl⟩ : jn_GEm jn_G0 jn_me50 41 (.inr (.inr 3))) <| jn_nil
theorem jn_ok50 : jn_GM jn_G0 50 := jn_GM_of jn_G0_50 rfl rfl (by decide +kernel) (by decide) (jn_o50_0)
theorem jn_o51_0 : ∀ q ∈ jn_c51_0, jn_GEm jn_G0 jn_me51 q.1 q.2 :=
  jn_cons (⟨jn_aload_n_ok (i := 0) (k := 0) (by decide +kernel) rfl, jn_aload_n_mo 0⟩ : jn_GEm jn_G0 jn_me51 0 (.inl (jn_aload_n 0))) <|
  jn_cons (⟨jn_iload_n_ok (i := 1) (k := 1) (by decide +kernel) rfl, jn_iload_n_mo 1⟩ : jn_GEm jn_G0 jn_me51 1 (.inl (jn_iload_n 1))) <|
  jn_cons (jn_gc_of jn_G0_82 (jn_callV (i := 73) (na := 1) (ci := 6) (q := (RX6, TX6, 11)) (by decide +kernel) rfl (jn_in 219 (by decide +kernel) rfl) (jn_in 216 (by decide +kernel) rfl) (jn_in 218 (by decide +kernel) rfl) (jn_in 1 (by decide +kernel) rfl) (jn_in 54 (by decide +kernel) rfl) ⟨by decide, by decide, by decide +kernel⟩) : jn_GEm jn_G0 jn_me51 2 (.inr (.inl (82, 8, 2)))) <|
  jn_cons (⟨jn_astore_n_ok (i := 3) (k := 3) (by decide +kernel) rfl, jn_astore_n_mo 3⟩ : jn_GEm jn_G0 jn_me51 5 (.inl (jn_astore_n 3))) <|
  jn_cons (⟨jn_aload_n_ok (i := 3) (k := 3) (by decide +kernel) rfl, jn_aload_n_mo 3⟩ : jn_GEm jn_G0 jn_me51 6 (.inl (jn_aload_n 3))) <|
  jn_cons (⟨jn_ifnonnull_ok (t := 18) (off := 11) (by decide +kernel) (by decide), jn_ifnonnull_mo 18⟩ : jn_GEm jn_G0 jn_me51 7 (.inl (jn_ifnonnull 18))) <|
  jn_cons (⟨jn_aload_n_ok (i := 0) (k := 0) (by decide +kernel) rfl, jn_aload_n_mo 0⟩ : jn_GEm jn_G0 jn_me51 10 (.inl (jn_aload_n 0))) <|
  jn_cons (⟨jn_bipush_ok (n := (-3)) (v := (-3)) (by decide +kernel) (by decide), jn_bipush_mo (-3)⟩ : jn_GEm jn_G0 jn_me51 11 (.inl (jn_bipush (-3)))) <|
  jn_cons (jn_gc_of jn_G0_81 (jn_callV (i := 113) (na := 1) (ci := 6) (q := (RX6, TX6, 11)) (by decide +kernel) rfl (jn_in 291 (by decide +kernel) rfl) (jn_in 288 (by decide +kernel) rfl) (jn_in 290 (by decide +kernel) rfl) (jn_in 5 (by decide +kernel) rfl) (jn_in 54 (by decide +kernel) rfl) ⟨by decide, by decide, by decide +kernel⟩) : jn_GEm jn_G0 jn_me51 13 (.inr (.inl (81, 8, 2)))) <|
  jn_cons (⟨jn_i2l_ok (by decide +kernel), jn_i2l_mo⟩ : jn_GEm jn_G0 jn_me51 16 (.inl jn_i2l)) <|
  jn_cons (⟨(by decide +kernel), rfl⟩ : jn_GEm jn_G0 jn_me51 17 (.inr (.inr 3))) <|
  jn_cons (⟨jn_aload_n_ok (i := 3) (k := 3) (by decide +kernel) rfl, jn_aload_n_mo 3⟩ : jn_GEm jn_G0 jn_me51 18 (.inl (jn_aload_n 3))) <|
  jn_cons (jn_gc_of jn_G0_20 (jn_callV (i := 106) (na := 0) (ci := 2) (q := (RX2, TX2, 3)) (by decide +kernel) rfl (jn_in 251 (by decide +kernel) rfl) (jn_in 278 (by decide +kernel) rfl) (jn_in 249 (by decide +kernel) rfl) (jn_in 250 (by decide +kernel) rfl) (jn_in 57 (by decide +kernel) rfl) ⟨by decide, by decide, by decide +kernel⟩) : jn_GEm jn_G0 jn_me51 19 (.inr (.inl (20, 4, 1)))) <|
  jn_cons (⟨jn_ifne_ok (t := 33) (off := 11) (by decide +kernel) (by decide), jn_ifne_mo 33⟩ : jn_GEm jn_G0 jn_me51 22 (.inl (jn_ifne 33))) <|
  jn_cons (⟨jn_aload_n_ok (i := 0) (k := 0) (by decide +kernel) rfl, jn_aload_n_mo 0⟩ : jn_GEm jn_G0 jn_me51 25 (.inl (jn_aload_n 0))) <|
  jn_cons (⟨jn_bipush_ok (n := (-5)) (v := (-5)) (by decide +kernel) (by decide), jn_bipush_mo (-5)⟩ : jn_GEm jn_G0 jn_me51 26 (.inl (jn_bipush (-5)))) <|
  jn_cons (jn_gc_of jn_G0_81 (jn_callV (i := 113) (na := 1) (ci := 6) (q := (RX6, TX6, 11)) (by decide +kernel) rfl (jn_in 291 (by decide +kernel) rfl) (jn_in 288 (by decide +kernel) rfl) (jn_in 290 (by decide +kernel) rfl) (jn_in 5 (by decide +kernel) rfl) (jn_in 54 (by decide +kernel) rfl) ⟨by decide, by decide, by decide +kernel⟩) : jn_GEm jn_G0 jn_me51 28 (.inr (.inl (81, 8, 2)))) <|
  jn_cons (⟨jn_i2l_ok (by decide +kernel), jn_i2l_mo⟩ : jn_GEm jn_G0 jn_me51 31 (.inl jn_i2l)) <|
  jn_cons (⟨(by decide +kernel), rfl⟩ : jn_GEm jn_G0 jn_me51 32 (.inr (.inr 3))) <|
  jn_cons (⟨jn_iload_n_ok (i := 2) (k := 2) (by decide +kernel) rfl, jn_iload_n_mo 2⟩ : jn_GEm jn_G0 jn_me51 33 (.inl (jn_iload_n 2))) <|
  jn_cons (⟨jn_iflt_ok (t := 47) (off := 13) (by decide +kernel) (by decide), jn_iflt_mo 47⟩ : jn_GEm jn_G0 jn_me51 34 (.inl (jn_iflt 47))) <|
  jn_cons (⟨jn_iload_n_ok (i := 2) (k := 2) (by decide +kernel) rfl, jn_iload_n_mo 2⟩ : jn_GEm jn_G0 jn_me51 37 (.inl (jn_iload_n 2))) <|
  jn_cons (⟨jn_aload_n_ok (i := 3) (k := 3) (by decide +kernel) rfl, jn_aload_n_mo 3⟩ : jn_GEm jn_G0 jn_me51 38 (.inl (jn_aload_n 3))) <|
  jn_cons (⟨jn_getf_ok (ci := 2) (k := 1) (i := 97) (N := 3) (C := RX2) (T := TX2) (by decide +kernel) rfl (by decide) jn_u2 (jn_in 106 (by decide +kernel) rfl), jn_getf_mo 2 1⟩ : jn_GEm jn_G0 jn_me51 39 (.inl (jn_getf 2 1))) <| jn_nil
theorem jn_o51_1 : ∀ q ∈ jn_c51_1, jn_GEm jn_G0 jn_me51 q.1 q.2 :=
  jn_cons (⟨jn_iconst_ok (by decide +kernel), jn_iconst_mo 2⟩ : jn_GEm jn_G0 jn_me51 42 (.inl (jn_iconst 2))) <|
  jn_cons (⟨jn_isub_ok (by decide +kernel), jn_isub_mo⟩ : jn_GEm jn_G0 jn_me51 43 (.inl jn_isub)) <|
  jn_cons (⟨jn_icle_ok (t := 55) (off := 11) (by decide +kernel) (by decide), jn_icle_mo 55⟩ : jn_GEm jn_G0 jn_me51 44 (.inl (jn_icle 55))) <|
  jn_cons (⟨jn_aload_n_ok (i := 0) (k := 0) (by decide +kernel) rfl, jn_aload_n_mo 0⟩ : jn_GEm jn_G0 jn_me51 47 (.inl (jn_aload_n 0))) <|
  jn_cons (⟨jn_bipush_ok (n := (-3)) (v := (-3)) (by decide +kernel) (by decide), jn_bipush_mo (-3)⟩ : jn_GEm jn_G0 jn_me51 48 (.inl (jn_bipush (-3)))) <|
  jn_cons (jn_gc_of jn_G0_81 (jn_callV (i := 113) (na := 1) (ci := 6) (q := (RX6, TX6, 11)) (by decide +kernel) rfl (jn_in 291 (by decide +kernel) rfl) (jn_in 288 (by decide +kernel) rfl) (jn_in 290 (by decide +kernel) rfl) (jn_in 5 (by decide +kernel) rfl) (jn_in 54 (by decide +kernel) rfl) ⟨by decide, by decide, by decide +kernel⟩) : jn_GEm jn_G0 jn_me51 50 (.inr (.inl (81, 8, 2)))) <|
  jn_cons (⟨jn_i2l_ok (by decide +kernel), jn_i2l_mo⟩ : jn_GEm jn_G0 jn_me51 53 (.inl jn_i2l)) <|
  jn_cons (⟨(by decide +kernel), rfl⟩ : jn_GEm jn_G0 jn_me51 54 (.inr (.inr 3))) <|
  jn_cons (⟨jn_aload_n_ok (i := 0) (k := 0) (by decide +kernel) rfl, jn_aload_n_mo 0⟩ : jn_GEm jn_G0 jn_me51 55 (.inl (jn_aload_n 0))) <|
  jn_cons (⟨jn_getf_ok (ci := 6) (k := 8) (i := 44) (N := 11) (C := RX6) (T := TX6) (by decide +kernel) rfl (by decide) jn_u6 (jn_in 177 (by decide +kernel) rfl), jn_getf_mo 6 8⟩ : jn_GEm jn_G0 jn_me51 56 (.inl (jn_getf 6 8))) <|
  jn_cons (⟨jn_aload_n_ok (i := 3) (k := 3) (by decide +kernel) rfl, jn_aload_n_mo 3⟩ : jn_GEm jn_G0 jn_me51 59 (.inl (jn_aload_n 3))) <|
  jn_cons (⟨jn_iload_n_ok (i := 2) (k := 2) (by decide +kernel) rfl, jn_iload_n_mo 2⟩ : jn_GEm jn_G0 jn_me51 60 (.inl (jn_iload_n 2))) <|
  jn_cons (jn_gc_of jn_G0_34 (jn_callV (i := 120) (na := 2) (ci := 4) (q := (RX4, TX4, 1)) (by decide +kernel) rfl (jn_in 333 (by decide +kernel) rfl) (jn_in 330 (by decide +kernel) rfl) (jn_in 331 (by decide +kernel) rfl) (jn_in 332 (by decide +kernel) rfl) (jn_in 55 (by decide +kernel) rfl) ⟨by decide, by decide, by decide +kernel⟩) : jn_GEm jn_G0 jn_me51 61 (.inr (.inl (34, 6, 3)))) <|
  jn_cons (⟨jn_lstore_ok (i := 4) (by decide +kernel), jn_lstore_mo 4⟩ : jn_GEm jn_G0 jn_me51 64 (.inl (jn_lstore 4))) <|
  jn_cons (⟨jn_lload_ok (i := 4) (by decide +kernel), jn_lload_mo 4⟩ : jn_GEm jn_G0 jn_me51 66 (.inl (jn_lload 4))) <|
  jn_cons (⟨jn_lconst_ok (n := 0) (v := 0) (by decide +kernel) (by decide), jn_lconst_mo 0⟩ : jn_GEm jn_G0 jn_me51 68 (.inl (jn_lconst 0))) <|
  jn_cons (⟨jn_lcmp_ok (by decide +kernel), jn_lcmp_mo⟩ : jn_GEm jn_G0 jn_me51 69 (.inl jn_lcmp)) <|
  jn_cons (⟨jn_ifne_ok (t := 77) (off := 7) (by decide +kernel) (by decide), jn_ifne_mo 77⟩ : jn_GEm jn_G0 jn_me51 70 (.inl (jn_ifne 77))) <|
  jn_cons (⟨jn_lconst_ok (n := 0) (v := 0) (by decide +kernel) (by decide), jn_lconst_mo 0⟩ : jn_GEm jn_G0 jn_me51 73 (.inl (jn_lconst 0))) <|
  jn_cons (⟨jn_goto_ok (t := 91) (off := 17) (by decide +kernel) (by decide), jn_goto_mo 91⟩ : jn_GEm jn_G0 jn_me51 74 (.inl (jn_goto 91))) <|
  jn_cons (⟨jn_aload_n_ok (i := 0) (k := 0) (by decide +kernel) rfl, jn_aload_n_mo 0⟩ : jn_GEm jn_G0 jn_me51 77 (.inl (jn_aload_n 0))) <|
  jn_cons (⟨jn_getf_ok (ci := 6) (k := 8) (i := 44) (N := 11) (C := RX6) (T := TX6) (by decide +kernel) rfl (by decide) jn_u6 (jn_in 177 (by decide +kernel) rfl), jn_getf_mo 6 8⟩ : jn_GEm jn_G0 jn_me51 78 (.inl (jn_getf 6 8))) <|
  jn_cons (⟨jn_aload_n_ok (i := 3) (k := 3) (by decide +kernel) rfl, jn_aload_n_mo 3⟩ : jn_GEm jn_G0 jn_me51 81 (.inl (jn_aload_n 3))) <|
  jn_cons (⟨jn_iload_n_ok (i := 2) (k := 2) (by decide +kernel) rfl, jn_iload_n_mo 2⟩ : jn_GEm jn_G0 jn_me51 82 (.inl (jn_iload_n 2))) <| jn_nil
theorem jn_o51_2 : ∀ q ∈ jn_c51_2, jn_GEm jn_G0 jn_me51 q.1 q.2 :=
  jn_cons (⟨jn_iconst_ok (by decide +kernel), jn_iconst_mo 1⟩ : jn_GEm jn_G0 jn_me51 83 (.inl (jn_iconst 1))) <|
  jn_cons (⟨jn_iadd_ok (by decide +kernel), jn_iadd_mo⟩ : jn_GEm jn_G0 jn_me51 84 (.inl jn_iadd)) <|
  jn_cons (jn_gc_of jn_G0_34 (jn_callV (i := 120) (na := 2) (ci := 4) (q := (RX4, TX4, 1)) (by decide +kernel) rfl (jn_in 333 (by decide +kernel) rfl) (jn_in 330 (by decide +kernel) rfl) (jn_in 331 (by decide +kernel) rfl) (jn_in 332 (by decide +kernel) rfl) (jn_in 55 (by decide +kernel) rfl) ⟨by decide, by decide, by decide +kernel⟩) : jn_GEm jn_G0 jn_me51 85 (.inr (.inl (34, 6, 3)))) <|
  jn_cons (⟨jn_lload_ok (i := 4) (by decide +kernel), jn_lload_mo 4⟩ : jn_GEm jn_G0 jn_me51 88 (.inl (jn_lload 4))) <|
  jn_cons (⟨jn_ldiv_ok (by decide +kernel), jn_ldiv_mo⟩ : jn_GEm jn_G0 jn_me51 90 (.inl jn_ldiv)) <|
  jn_cons (⟨(by decide +kernel), rfl⟩ : jn_GEm jn_G0 jn_me51 91 (.inr (.inr 3))) <| jn_nil
theorem jn_ok51 : jn_GM jn_G0 51 := jn_GM_of jn_G0_51 rfl rfl (by decide +kernel) (by decide) (jn_appd jn_o51_0 (jn_appd jn_o51_1 (jn_o51_2)))
theorem jn_o52_0 : ∀ q ∈ jn_c52_0, jn_GEm jn_G0 jn_me52 q.1 q.2 :=
  jn_cons (⟨jn_aload_n_ok (i := 0) (k := 0) (by decide +kernel) rfl, jn_aload_n_mo 0⟩ : jn_GEm jn_G0 jn_me52 0 (.inl (jn_aload_n 0))) <|
  jn_cons (⟨jn_iload_n_ok (i := 1) (k := 1) (by decide +kernel) rfl, jn_iload_n_mo 1⟩ : jn_GEm jn_G0 jn_me52 1 (.inl (jn_iload_n 1))) <|
  jn_cons (jn_gc_of jn_G0_82 (jn_callV (i := 73) (na := 1) (ci := 6) (q := (RX6, TX6, 11)) (by decide +kernel) rfl (jn_in 219 (by decide +kernel) rfl) (jn_in 216 (by decide +kernel) rfl) (jn_in 218 (by decide +kernel) rfl) (jn_in 1 (by decide +kernel) rfl) (jn_in 54 (by decide +kernel) rfl) ⟨by decide, by decide, by decide +kernel⟩) : jn_GEm jn_G0 jn_me52 2 (.inr (.inl (82, 8, 2)))) <|
  jn_cons (⟨jn_astore_ok (i := 5) (by decide +kernel), jn_astore_mo 5⟩ : jn_GEm jn_G0 jn_me52 5 (.inl (jn_astore 5))) <|
  jn_cons (⟨jn_aload_ok (i := 5) (by decide +kernel), jn_aload_mo 5⟩ : jn_GEm jn_G0 jn_me52 7 (.inl (jn_aload 5))) <|
  jn_cons (⟨jn_ifnull_ok (t := 30) (off := 21) (by decide +kernel) (by decide), jn_ifnull_mo 30⟩ : jn_GEm jn_G0 jn_me52 9 (.inl (jn_ifnull 30))) <|
  jn_cons (⟨jn_aload_ok (i := 5) (by decide +kernel), jn_aload_mo 5⟩ : jn_GEm jn_G0 jn_me52 12 (.inl (jn_aload 5))) <|
  jn_cons (⟨jn_iload_n_ok (i := 2) (k := 2) (by decide +kernel) rfl, jn_iload_n_mo 2⟩ : jn_GEm jn_G0 jn_me52 14 (.inl (jn_iload_n 2))) <|
  jn_cons (jn_gc_of jn_G0_12 (jn_callV (i := 77) (na := 1) (ci := 2) (q := (RX2, TX2, 3)) (by decide +kernel) rfl (jn_in 223 (by decide +kernel) rfl) (jn_in 220 (by decide +kernel) rfl) (jn_in 221 (by decide +kernel) rfl) (jn_in 222 (by decide +kernel) rfl) (jn_in 57 (by decide +kernel) rfl) ⟨by decide, by decide, by decide +kernel⟩) : jn_GEm jn_G0 jn_me52 15 (.inr (.inl (12, 4, 2)))) <|
  jn_cons (⟨jn_ifeq_ok (t := 30) (off := 12) (by decide +kernel) (by decide), jn_ifeq_mo 30⟩ : jn_GEm jn_G0 jn_me52 18 (.inl (jn_ifeq 30))) <|
  jn_cons (⟨jn_aload_ok (i := 5) (by decide +kernel), jn_aload_mo 5⟩ : jn_GEm jn_G0 jn_me52 21 (.inl (jn_aload 5))) <|
  jn_cons (⟨jn_iload_n_ok (i := 3) (k := 3) (by decide +kernel) rfl, jn_iload_n_mo 3⟩ : jn_GEm jn_G0 jn_me52 23 (.inl (jn_iload_n 3))) <|
  jn_cons (jn_gc_of jn_G0_12 (jn_callV (i := 77) (na := 1) (ci := 2) (q := (RX2, TX2, 3)) (by decide +kernel) rfl (jn_in 223 (by decide +kernel) rfl) (jn_in 220 (by decide +kernel) rfl) (jn_in 221 (by decide +kernel) rfl) (jn_in 222 (by decide +kernel) rfl) (jn_in 57 (by decide +kernel) rfl) ⟨by decide, by decide, by decide +kernel⟩) : jn_GEm jn_G0 jn_me52 24 (.inr (.inl (12, 4, 2)))) <|
  jn_cons (⟨jn_ifne_ok (t := 38) (off := 11) (by decide +kernel) (by decide), jn_ifne_mo 38⟩ : jn_GEm jn_G0 jn_me52 27 (.inl (jn_ifne 38))) <|
  jn_cons (⟨jn_aload_n_ok (i := 0) (k := 0) (by decide +kernel) rfl, jn_aload_n_mo 0⟩ : jn_GEm jn_G0 jn_me52 30 (.inl (jn_aload_n 0))) <|
  jn_cons (⟨jn_bipush_ok (n := (-3)) (v := (-3)) (by decide +kernel) (by decide), jn_bipush_mo (-3)⟩ : jn_GEm jn_G0 jn_me52 31 (.inl (jn_bipush (-3)))) <|
  jn_cons (jn_gc_of jn_G0_81 (jn_callV (i := 113) (na := 1) (ci := 6) (q := (RX6, TX6, 11)) (by decide +kernel) rfl (jn_in 291 (by decide +kernel) rfl) (jn_in 288 (by decide +kernel) rfl) (jn_in 290 (by decide +kernel) rfl) (jn_in 5 (by decide +kernel) rfl) (jn_in 54 (by decide +kernel) rfl) ⟨by decide, by decide, by decide +kernel⟩) : jn_GEm jn_G0 jn_me52 33 (.inr (.inl (81, 8, 2)))) <|
  jn_cons (⟨jn_i2l_ok (by decide +kernel), jn_i2l_mo⟩ : jn_GEm jn_G0 jn_me52 36 (.inl jn_i2l)) <|
  jn_cons (⟨(by decide +kernel), rfl⟩ : jn_GEm jn_G0 jn_me52 37 (.inr (.inr 3))) <|
  jn_cons (⟨jn_aload_ok (i := 5) (by decide +kernel), jn_aload_mo 5⟩ : jn_GEm jn_G0 jn_me52 38 (.inl (jn_aload 5))) <|
  jn_cons (jn_gc_of jn_G0_20 (jn_callV (i := 106) (na := 0) (ci := 2) (q := (RX2, TX2, 3)) (by decide +kernel) rfl (jn_in 251 (by decide +kernel) rfl) (jn_in 278 (by decide +kernel) rfl) (jn_in 249 (by decide +kernel) rfl) (jn_in 250 (by decide +kernel) rfl) (jn_in 57 (by decide +kernel) rfl) ⟨by decide, by decide, by decide +kernel⟩) : jn_GEm jn_G0 jn_me52 40 (.inr (.inl (20, 4, 1)))) <|
  jn_cons (⟨jn_ifne_ok (t := 54) (off := 11) (by decide +kernel) (by decide), jn_ifne_mo 54⟩ : jn_GEm jn_G0 jn_me52 43 (.inl (jn_ifne 54))) <|
  jn_cons (⟨jn_aload_n_ok (i := 0) (k := 0) (by decide +kernel) rfl, jn_aload_n_mo 0⟩ : jn_GEm jn_G0 jn_me52 46 (.inl (jn_aload_n 0))) <|
  jn_cons (⟨jn_bipush_ok (n := (-5)) (v := (-5)) (by decide +kernel) (by decide), jn_bipush_mo (-5)⟩ : jn_GEm jn_G0 jn_me52 47 (.inl (jn_bipush (-5)))) <| jn_nil
theorem jn_o52_1 : ∀ q ∈ jn_c52_1, jn_GEm jn_G0 jn_me52 q.1 q.2 :=
  jn_cons (jn_gc_of jn_G0_81 (jn_callV (i := 113) (na := 1) (ci := 6) (q := (RX6, TX6, 11)) (by decide +kernel) rfl (jn_in 291 (by decide +kernel) rfl) (jn_in 288 (by decide +kernel) rfl) (jn_in 290 (by decide +kernel) rfl) (jn_in 5 (by decide +kernel) rfl) (jn_in 54 (by decide +kernel) rfl) ⟨by decide, by decide, by decide +kernel⟩) : jn_GEm jn_G0 jn_me52 49 (.inr (.inl (81, 8, 2)))) <|
  jn_cons (⟨jn_i2l_ok (by decide +kernel), jn_i2l_mo⟩ : jn_GEm jn_G0 jn_me52 52 (.inl jn_i2l)) <|
  jn_cons (⟨(by decide +kernel), rfl⟩ : jn_GEm jn_G0 jn_me52 53 (.inr (.inr 3))) <|
  jn_cons (⟨jn_iload_n_ok (i := 2) (k := 2) (by decide +kernel) rfl, jn_iload_n_mo 2⟩ : jn_GEm jn_G0 jn_me52 54 (.inl (jn_iload_n 2))) <|
  jn_cons (⟨jn_iload_n_ok (i := 3) (k := 3) (by decide +kernel) rfl, jn_iload_n_mo 3⟩ : jn_GEm jn_G0 jn_me52 55 (.inl (jn_iload_n 3))) <|
  jn_cons (⟨jn_icne_ok (t := 70) (off := 14) (by decide +kernel) (by decide), jn_icne_mo 70⟩ : jn_GEm jn_G0 jn_me52 56 (.inl (jn_icne 70))) <|
  jn_cons (⟨jn_iload_ok (i := 4) (by decide +kernel), jn_iload_mo 4⟩ : jn_GEm jn_G0 jn_me52 59 (.inl (jn_iload 4))) <|
  jn_cons (⟨jn_ifeq_ok (t := 68) (off := 7) (by decide +kernel) (by decide), jn_ifeq_mo 68⟩ : jn_GEm jn_G0 jn_me52 61 (.inl (jn_ifeq 68))) <|
  jn_cons (⟨jn_lconst_ok (n := 1) (v := 1) (by decide +kernel) (by decide), jn_lconst_mo 1⟩ : jn_GEm jn_G0 jn_me52 64 (.inl (jn_lconst 1))) <|
  jn_cons (⟨jn_goto_ok (t := 69) (off := 4) (by decide +kernel) (by decide), jn_goto_mo 69⟩ : jn_GEm jn_G0 jn_me52 65 (.inl (jn_goto 69))) <|
  jn_cons (⟨jn_lconst_ok (n := 0) (v := 0) (by decide +kernel) (by decide), jn_lconst_mo 0⟩ : jn_GEm jn_G0 jn_me52 68 (.inl (jn_lconst 0))) <|
  jn_cons (⟨(by decide +kernel), rfl⟩ : jn_GEm jn_G0 jn_me52 69 (.inr (.inr 3))) <|
  jn_cons (⟨jn_aload_ok (i := 5) (by decide +kernel), jn_aload_mo 5⟩ : jn_GEm jn_G0 jn_me52 70 (.inl (jn_aload 5))) <|
  jn_cons (jn_gc_of jn_G0_13 (jn_callV (i := 124) (na := 0) (ci := 2) (q := (RX2, TX2, 3)) (by decide +kernel) rfl (jn_in 259 (by decide +kernel) rfl) (jn_in 352 (by decide +kernel) rfl) (jn_in 257 (by decide +kernel) rfl) (jn_in 258 (by decide +kernel) rfl) (jn_in 57 (by decide +kernel) rfl) ⟨by decide, by decide, by decide +kernel⟩) : jn_GEm jn_G0 jn_me52 72 (.inr (.inl (13, 4, 1)))) <|
  jn_cons (⟨jn_iconst_ok (by decide +kernel), jn_iconst_mo 1⟩ : jn_GEm jn_G0 jn_me52 75 (.inl (jn_iconst 1))) <|
  jn_cons (⟨jn_iload_n_ok (i := 2) (k := 2) (by decide +kernel) rfl, jn_iload_n_mo 2⟩ : jn_GEm jn_G0 jn_me52 76 (.inl (jn_iload_n 2))) <|
  jn_cons (⟨jn_ishl_ok (by decide +kernel), jn_ishl_mo⟩ : jn_GEm jn_G0 jn_me52 77 (.inl jn_ishl)) <|
  jn_cons (⟨jn_iconst_ok (by decide +kernel), jn_iconst_mo (-1)⟩ : jn_GEm jn_G0 jn_me52 78 (.inl (jn_iconst (-1)))) <|
  jn_cons (⟨jn_ixor_ok (by decide +kernel), jn_ixor_mo⟩ : jn_GEm jn_G0 jn_me52 79 (.inl jn_ixor)) <|
  jn_cons (⟨jn_iand_ok (by decide +kernel), jn_iand_mo⟩ : jn_GEm jn_G0 jn_me52 80 (.inl jn_iand)) <|
  jn_cons (⟨jn_iconst_ok (by decide +kernel), jn_iconst_mo 1⟩ : jn_GEm jn_G0 jn_me52 81 (.inl (jn_iconst 1))) <|
  jn_cons (⟨jn_iload_n_ok (i := 3) (k := 3) (by decide +kernel) rfl, jn_iload_n_mo 3⟩ : jn_GEm jn_G0 jn_me52 82 (.inl (jn_iload_n 3))) <|
  jn_cons (⟨jn_ishl_ok (by decide +kernel), jn_ishl_mo⟩ : jn_GEm jn_G0 jn_me52 83 (.inl jn_ishl)) <|
  jn_cons (⟨jn_iconst_ok (by decide +kernel), jn_iconst_mo (-1)⟩ : jn_GEm jn_G0 jn_me52 84 (.inl (jn_iconst (-1)))) <| jn_nil
theorem jn_o52_2 : ∀ q ∈ jn_c52_2, jn_GEm jn_G0 jn_me52 q.1 q.2 :=
  jn_cons (⟨jn_ixor_ok (by decide +kernel), jn_ixor_mo⟩ : jn_GEm jn_G0 jn_me52 85 (.inl jn_ixor)) <|
  jn_cons (⟨jn_iand_ok (by decide +kernel), jn_iand_mo⟩ : jn_GEm jn_G0 jn_me52 86 (.inl jn_iand)) <|
  jn_cons (⟨jn_istore_ok (i := 6) (by decide +kernel), jn_istore_mo 6⟩ : jn_GEm jn_G0 jn_me52 87 (.inl (jn_istore 6))) <|
  jn_cons (⟨jn_aload_n_ok (i := 0) (k := 0) (by decide +kernel) rfl, jn_aload_n_mo 0⟩ : jn_GEm jn_G0 jn_me52 89 (.inl (jn_aload_n 0))) <|
  jn_cons (⟨jn_getf_ok (ci := 6) (k := 8) (i := 44) (N := 11) (C := RX6) (T := TX6) (by decide +kernel) rfl (by decide) jn_u6 (jn_in 177 (by decide +kernel) rfl), jn_getf_mo 6 8⟩ : jn_GEm jn_G0 jn_me52 90 (.inl (jn_getf 6 8))) <|
  jn_cons (⟨jn_aload_ok (i := 5) (by decide +kernel), jn_aload_mo 5⟩ : jn_GEm jn_G0 jn_me52 93 (.inl (jn_aload 5))) <|
  jn_cons (⟨jn_iload_ok (i := 6) (by decide +kernel), jn_iload_mo 6⟩ : jn_GEm jn_G0 jn_me52 95 (.inl (jn_iload 6))) <|
  jn_cons (⟨jn_iload_ok (i := 6) (by decide +kernel), jn_iload_mo 6⟩ : jn_GEm jn_G0 jn_me52 97 (.inl (jn_iload 6))) <|
  jn_cons (jn_gc_of jn_G0_36 (jn_callV (i := 127) (na := 3) (ci := 4) (q := (RX4, TX4, 1)) (by decide +kernel) rfl (jn_in 300 (by decide +kernel) rfl) (jn_in 353 (by decide +kernel) rfl) (jn_in 298 (by decide +kernel) rfl) (jn_in 299 (by decide +kernel) rfl) (jn_in 55 (by decide +kernel) rfl) ⟨by decide, by decide, by decide +kernel⟩) : jn_GEm jn_G0 jn_me52 99 (.inr (.inl (36, 6, 4)))) <|
  jn_cons (⟨jn_lstore_ok (i := 7) (by decide +kernel), jn_lstore_mo 7⟩ : jn_GEm jn_G0 jn_me52 102 (.inl (jn_lstore 7))) <|
  jn_cons (⟨jn_aload_n_ok (i := 0) (k := 0) (by decide +kernel) rfl, jn_aload_n_mo 0⟩ : jn_GEm jn_G0 jn_me52 104 (.inl (jn_aload_n 0))) <|
  jn_cons (⟨jn_getf_ok (ci := 6) (k := 8) (i := 44) (N := 11) (C := RX6) (T := TX6) (by decide +kernel) rfl (by decide) jn_u6 (jn_in 177 (by decide +kernel) rfl), jn_getf_mo 6 8⟩ : jn_GEm jn_G0 jn_me52 105 (.inl (jn_getf 6 8))) <|
  jn_cons (⟨jn_aload_ok (i := 5) (by decide +kernel), jn_aload_mo 5⟩ : jn_GEm jn_G0 jn_me52 108 (.inl (jn_aload 5))) <|
  jn_cons (jn_gc_of jn_G0_33 (jn_callV (i := 116) (na := 1) (ci := 4) (q := (RX4, TX4, 1)) (by decide +kernel) rfl (jn_in 295 (by decide +kernel) rfl) (jn_in 292 (by decide +kernel) rfl) (jn_in 293 (by decide +kernel) rfl) (jn_in 294 (by decide +kernel) rfl) (jn_in 55 (by decide +kernel) rfl) ⟨by decide, by decide, by decide +kernel⟩) : jn_GEm jn_G0 jn_me52 110 (.inr (.inl (33, 6, 2)))) <|
  jn_cons (⟨jn_lstore_ok (i := 9) (by decide +kernel), jn_lstore_mo 9⟩ : jn_GEm jn_G0 jn_me52 113 (.inl (jn_lstore 9))) <|
  jn_cons (⟨jn_lload_ok (i := 7) (by decide +kernel), jn_lload_mo 7⟩ : jn_GEm jn_G0 jn_me52 115 (.inl (jn_lload 7))) <|
  jn_cons (⟨jn_lload_ok (i := 9) (by decide +kernel), jn_lload_mo 9⟩ : jn_GEm jn_G0 jn_me52 117 (.inl (jn_lload 9))) <|
  jn_cons (jn_gc_of jn_G0_32 (jn_callS (i := 131) (na := 2) (by decide +kernel) (jn_in 346 (by decide +kernel) rfl) (jn_in 354 (by decide +kernel) rfl) (jn_in 345 (by decide +kernel) rfl) (jn_in 55 (by decide +kernel) rfl) ⟨by decide, by decide, by decide +kernel⟩) : jn_GEm jn_G0 jn_me52 119 (.inr (.inl (32, 0, 2)))) <|
  jn_cons (⟨jn_lstore_ok (i := 11) (by decide +kernel), jn_lstore_mo 11⟩ : jn_GEm jn_G0 jn_me52 122 (.inl (jn_lstore 11))) <|
  jn_cons (⟨jn_lload_ok (i := 11) (by decide +kernel), jn_lload_mo 11⟩ : jn_GEm jn_G0 jn_me52 124 (.inl (jn_lload 11))) <|
  jn_cons (⟨jn_lconst_ok (n := 0) (v := 0) (by decide +kernel) (by decide), jn_lconst_mo 0⟩ : jn_GEm jn_G0 jn_me52 126 (.inl (jn_lconst 0))) <|
  jn_cons (⟨jn_lcmp_ok (by decide +kernel), jn_lcmp_mo⟩ : jn_GEm jn_G0 jn_me52 127 (.inl jn_lcmp)) <|
  jn_cons (⟨jn_ifne_ok (t := 133) (off := 5) (by decide +kernel) (by decide), jn_ifne_mo 133⟩ : jn_GEm jn_G0 jn_me52 128 (.inl (jn_ifne 133))) <|
  jn_cons (⟨jn_lconst_ok (n := 0) (v := 0) (by decide +kernel) (by decide), jn_lconst_mo 0⟩ : jn_GEm jn_G0 jn_me52 131 (.inl (jn_lconst 0))) <| jn_nil
theorem jn_o52_3 : ∀ q ∈ jn_c52_3, jn_GEm jn_G0 jn_me52 q.1 q.2 :=
  jn_cons (⟨(by decide +kernel), rfl⟩ : jn_GEm jn_G0 jn_me52 132 (.inr (.inr 3))) <|
  jn_cons (⟨jn_iload_ok (i := 4) (by decide +kernel), jn_iload_mo 4⟩ : jn_GEm jn_G0 jn_me52 133 (.inl (jn_iload 4))) <|
  jn_cons (⟨jn_ifeq_ok (t := 146) (off := 11) (by decide +kernel) (by decide), jn_ifeq_mo 146⟩ : jn_GEm jn_G0 jn_me52 135 (.inl (jn_ifeq 146))) <|
  jn_cons (⟨jn_lload_ok (i := 9) (by decide +kernel), jn_lload_mo 9⟩ : jn_GEm jn_G0 jn_me52 138 (.inl (jn_lload 9))) <|
  jn_cons (⟨jn_lload_ok (i := 11) (by decide +kernel), jn_lload_mo 11⟩ : jn_GEm jn_G0 jn_me52 140 (.inl (jn_lload 11))) <|
  jn_cons (⟨jn_ldiv_ok (by decide +kernel), jn_ldiv_mo⟩ : jn_GEm jn_G0 jn_me52 142 (.inl jn_ldiv)) <|
  jn_cons (⟨jn_goto_ok (t := 151) (off := 8) (by decide +kernel) (by decide), jn_goto_mo 151⟩ : jn_GEm jn_G0 jn_me52 143 (.inl (jn_goto 151))) <|
  jn_cons (⟨jn_lload_ok (i := 7) (by decide +kernel), jn_lload_mo 7⟩ : jn_GEm jn_G0 jn_me52 146 (.inl (jn_lload 7))) <|
  jn_cons (⟨jn_lload_ok (i := 11) (by decide +kernel), jn_lload_mo 11⟩ : jn_GEm jn_G0 jn_me52 148 (.inl (jn_lload 11))) <|
  jn_cons (⟨jn_ldiv_ok (by decide +kernel), jn_ldiv_mo⟩ : jn_GEm jn_G0 jn_me52 150 (.inl jn_ldiv)) <|
  jn_cons (⟨(by decide +kernel), rfl⟩ : jn_GEm jn_G0 jn_me52 151 (.inr (.inr 3))) <| jn_nil
theorem jn_ok52 : jn_GM jn_G0 52 := jn_GM_of jn_G0_52 rfl rfl (by decide +kernel) (by decide) (jn_appd jn_o52_0 (jn_appd jn_o52_1 (jn_appd jn_o52_2 (jn_o52_3))))
theorem jn_o53_0 : ∀ q ∈ jn_c53_0, jn_GEm jn_G0 jn_me53 q.1 q.2 :=
  jn_cons (⟨jn_aload_n_ok (i := 0) (k := 0) (by decide +kernel) rfl, jn_aload_n_mo 0⟩ : jn_GEm jn_G0 jn_me53 0 (.inl (jn_aload_n 0))) <|
  jn_cons (⟨jn_iload_n_ok (i := 1) (k := 1) (by decide +kernel) rfl, jn_iload_n_mo 1⟩ : jn_GEm jn_G0 jn_me53 1 (.inl (jn_iload_n 1))) <|
  jn_cons (jn_gc_of jn_G0_82 (jn_callV (i := 73) (na := 1) (ci := 6) (q := (RX6, TX6, 11)) (by decide +kernel) rfl (jn_in 219 (by decide +kernel) rfl) (jn_in 216 (by decide +kernel) rfl) (jn_in 218 (by decide +kernel) rfl) (jn_in 1 (by decide +kernel) rfl) (jn_in 54 (by decide +kernel) rfl) ⟨by decide, by decide, by decide +kernel⟩) : jn_GEm jn_G0 jn_me53 2 (.inr (.inl (82, 8, 2)))) <|
  jn_cons (⟨jn_astore_n_ok (i := 2) (k := 2) (by decide +kernel) rfl, jn_astore_n_mo 2⟩ : jn_GEm jn_G0 jn_me53 5 (.inl (jn_astore_n 2))) <|
  jn_cons (⟨jn_aload_n_ok (i := 2) (k := 2) (by decide +kernel) rfl, jn_aload_n_mo 2⟩ : jn_GEm jn_G0 jn_me53 6 (.inl (jn_aload_n 2))) <|
  jn_cons (jn_gc_of jn_G0_85 (jn_callS (i := 135) (na := 1) (by decide +kernel) (jn_in 361 (by decide +kernel) rfl) (jn_in 359 (by decide +kernel) rfl) (jn_in 360 (by decide +kernel) rfl) (jn_in 54 (by decide +kernel) rfl) ⟨by decide, by decide, by decide +kernel⟩) : jn_GEm jn_G0 jn_me53 7 (.inr (.inl (85, 0, 1)))) <|
  jn_cons (⟨jn_istore_n_ok (i := 3) (k := 3) (by decide +kernel) rfl, jn_istore_n_mo 3⟩ : jn_GEm jn_G0 jn_me53 10 (.inl (jn_istore_n 3))) <|
  jn_cons (⟨jn_aload_n_ok (i := 2) (k := 2) (by decide +kernel) rfl, jn_aload_n_mo 2⟩ : jn_GEm jn_G0 jn_me53 11 (.inl (jn_aload_n 2))) <|
  jn_cons (⟨jn_ifnull_ok (t := 19) (off := 7) (by decide +kernel) (by decide), jn_ifnull_mo 19⟩ : jn_GEm jn_G0 jn_me53 12 (.inl (jn_ifnull 19))) <|
  jn_cons (⟨jn_iload_n_ok (i := 3) (k := 3) (by decide +kernel) rfl, jn_iload_n_mo 3⟩ : jn_GEm jn_G0 jn_me53 15 (.inl (jn_iload_n 3))) <|
  jn_cons (⟨jn_ifeq_ok (t := 25) (off := 9) (by decide +kernel) (by decide), jn_ifeq_mo 25⟩ : jn_GEm jn_G0 jn_me53 16 (.inl (jn_ifeq 25))) <|
  jn_cons (⟨jn_aload_n_ok (i := 0) (k := 0) (by decide +kernel) rfl, jn_aload_n_mo 0⟩ : jn_GEm jn_G0 jn_me53 19 (.inl (jn_aload_n 0))) <|
  jn_cons (⟨jn_iload_n_ok (i := 3) (k := 3) (by decide +kernel) rfl, jn_iload_n_mo 3⟩ : jn_GEm jn_G0 jn_me53 20 (.inl (jn_iload_n 3))) <|
  jn_cons (jn_gc_of jn_G0_80 (jn_callV (i := 66) (na := 1) (ci := 6) (q := (RX6, TX6, 11)) (by decide +kernel) rfl (jn_in 210 (by decide +kernel) rfl) (jn_in 207 (by decide +kernel) rfl) (jn_in 209 (by decide +kernel) rfl) (jn_in 0 (by decide +kernel) rfl) (jn_in 54 (by decide +kernel) rfl) ⟨by decide, by decide, by decide +kernel⟩) : jn_GEm jn_G0 jn_me53 21 (.inr (.inl (80, 8, 2)))) <|
  jn_cons (⟨(by decide +kernel), rfl⟩ : jn_GEm jn_G0 jn_me53 24 (.inr (.inr 1))) <|
  jn_cons (⟨jn_aload_n_ok (i := 0) (k := 0) (by decide +kernel) rfl, jn_aload_n_mo 0⟩ : jn_GEm jn_G0 jn_me53 25 (.inl (jn_aload_n 0))) <|
  jn_cons (⟨jn_getf_ok (ci := 6) (k := 9) (i := 53) (N := 11) (C := RX6) (T := TX6) (by decide +kernel) rfl (by decide) jn_u6 (jn_in 178 (by decide +kernel) rfl), jn_getf_mo 6 9⟩ : jn_GEm jn_G0 jn_me53 26 (.inl (jn_getf 6 9))) <|
  jn_cons (⟨jn_aload_n_ok (i := 2) (k := 2) (by decide +kernel) rfl, jn_aload_n_mo 2⟩ : jn_GEm jn_G0 jn_me53 29 (.inl (jn_aload_n 2))) <|
  jn_cons (⟨jn_iconst_ok (by decide +kernel), jn_iconst_mo 0⟩ : jn_GEm jn_G0 jn_me53 30 (.inl (jn_iconst 0))) <|
  jn_cons (jn_gc_of jn_G0_25 (jn_callV (i := 139) (na := 2) (ci := 3) (q := (RX3, TX3, 6)) (by decide +kernel) rfl (jn_in 365 (by decide +kernel) rfl) (jn_in 362 (by decide +kernel) rfl) (jn_in 363 (by decide +kernel) rfl) (jn_in 364 (by decide +kernel) rfl) (jn_in 56 (by decide +kernel) rfl) ⟨by decide, by decide, by decide +kernel⟩) : jn_GEm jn_G0 jn_me53 31 (.inr (.inl (25, 5, 3)))) <|
  jn_cons (⟨jn_iconst_ok (by decide +kernel), jn_iconst_mo 1⟩ : jn_GEm jn_G0 jn_me53 34 (.inl (jn_iconst 1))) <|
  jn_cons (⟨jn_istore_ok (i := 4) (by decide +kernel), jn_istore_mo 4⟩ : jn_GEm jn_G0 jn_me53 35 (.inl (jn_istore 4))) <|
  jn_cons (⟨jn_iload_ok (i := 4) (by decide +kernel), jn_iload_mo 4⟩ : jn_GEm jn_G0 jn_me53 37 (.inl (jn_iload 4))) <|
  jn_cons (⟨jn_aload_n_ok (i := 2) (k := 2) (by decide +kernel) rfl, jn_aload_n_mo 2⟩ : jn_GEm jn_G0 jn_me53 39 (.inl (jn_aload_n 2))) <| jn_nil
theorem jn_o53_1 : ∀ q ∈ jn_c53_1, jn_GEm jn_G0 jn_me53 q.1 q.2 :=
  jn_cons (⟨jn_getf_ok (ci := 2) (k := 1) (i := 97) (N := 3) (C := RX2) (T := TX2) (by decide +kernel) rfl (by decide) jn_u2 (jn_in 106 (by decide +kernel) rfl), jn_getf_mo 2 1⟩ : jn_GEm jn_G0 jn_me53 40 (.inl (jn_getf 2 1))) <|
  jn_cons (⟨jn_icge_ok (t := 68) (off := 25) (by decide +kernel) (by decide), jn_icge_mo 68⟩ : jn_GEm jn_G0 jn_me53 43 (.inl (jn_icge 68))) <|
  jn_cons (⟨jn_aload_n_ok (i := 0) (k := 0) (by decide +kernel) rfl, jn_aload_n_mo 0⟩ : jn_GEm jn_G0 jn_me53 46 (.inl (jn_aload_n 0))) <|
  jn_cons (⟨jn_getf_ok (ci := 6) (k := 10) (i := 62) (N := 11) (C := RX6) (T := TX6) (by decide +kernel) rfl (by decide) jn_u6 (jn_in 179 (by decide +kernel) rfl), jn_getf_mo 6 10⟩ : jn_GEm jn_G0 jn_me53 47 (.inl (jn_getf 6 10))) <|
  jn_cons (⟨jn_aload_n_ok (i := 2) (k := 2) (by decide +kernel) rfl, jn_aload_n_mo 2⟩ : jn_GEm jn_G0 jn_me53 50 (.inl (jn_aload_n 2))) <|
  jn_cons (⟨jn_iload_ok (i := 4) (by decide +kernel), jn_iload_mo 4⟩ : jn_GEm jn_G0 jn_me53 51 (.inl (jn_iload 4))) <|
  jn_cons (jn_gc_of jn_G0_10 (jn_callV (i := 143) (na := 2) (ci := 1) (q := (RX1, TX1, 4)) (by decide +kernel) rfl (jn_in 371 (by decide +kernel) rfl) (jn_in 368 (by decide +kernel) rfl) (jn_in 369 (by decide +kernel) rfl) (jn_in 370 (by decide +kernel) rfl) (jn_in 58 (by decide +kernel) rfl) ⟨by decide, by decide, by decide +kernel⟩) : jn_GEm jn_G0 jn_me53 53 (.inr (.inl (10, 3, 3)))) <|
  jn_cons (⟨jn_ifeq_ok (t := 62) (off := 6) (by decide +kernel) (by decide), jn_ifeq_mo 62⟩ : jn_GEm jn_G0 jn_me53 56 (.inl (jn_ifeq 62))) <|
  jn_cons (⟨jn_iload_ok (i := 4) (by decide +kernel), jn_iload_mo 4⟩ : jn_GEm jn_G0 jn_me53 59 (.inl (jn_iload 4))) <|
  jn_cons (⟨(by decide +kernel), rfl⟩ : jn_GEm jn_G0 jn_me53 61 (.inr (.inr 1))) <|
  jn_cons (⟨jn_iinc_ok (i := 4) (n := 1) (by decide +kernel), jn_iinc_mo 4 1⟩ : jn_GEm jn_G0 jn_me53 62 (.inl (jn_iinc 4 1))) <|
  jn_cons (⟨jn_goto_ok (t := 37) (off := -28) (by decide +kernel) (by decide), jn_goto_mo 37⟩ : jn_GEm jn_G0 jn_me53 65 (.inl (jn_goto 37))) <|
  jn_cons (⟨jn_aload_n_ok (i := 2) (k := 2) (by decide +kernel) rfl, jn_aload_n_mo 2⟩ : jn_GEm jn_G0 jn_me53 68 (.inl (jn_aload_n 2))) <|
  jn_cons (⟨jn_getf_ok (ci := 2) (k := 1) (i := 97) (N := 3) (C := RX2) (T := TX2) (by decide +kernel) rfl (by decide) jn_u2 (jn_in 106 (by decide +kernel) rfl), jn_getf_mo 2 1⟩ : jn_GEm jn_G0 jn_me53 69 (.inl (jn_getf 2 1))) <|
  jn_cons (⟨(by decide +kernel), rfl⟩ : jn_GEm jn_G0 jn_me53 72 (.inr (.inr 1))) <| jn_nil
theorem jn_ok53 : jn_GM jn_G0 53 := jn_GM_of jn_G0_53 rfl rfl (by decide +kernel) (by decide) (jn_appd jn_o53_0 (jn_o53_1))
theorem jn_o54_0 : ∀ q ∈ jn_c54_0, jn_GEm jn_G0 jn_me54 q.1 q.2 :=
  jn_cons (⟨jn_aload_n_ok (i := 0) (k := 0) (by decide +kernel) rfl, jn_aload_n_mo 0⟩ : jn_GEm jn_G0 jn_me54 0 (.inl (jn_aload_n 0))) <|
  jn_cons (⟨jn_iload_n_ok (i := 1) (k := 1) (by decide +kernel) rfl, jn_iload_n_mo 1⟩ : jn_GEm jn_G0 jn_me54 1 (.inl (jn_iload_n 1))) <|
  jn_cons (jn_gc_of jn_G0_82 (jn_callV (i := 73) (na := 1) (ci := 6) (q := (RX6, TX6, 11)) (by decide +kernel) rfl (jn_in 219 (by decide +kernel) rfl) (jn_in 216 (by decide +kernel) rfl) (jn_in 218 (by decide +kernel) rfl) (jn_in 1 (by decide +kernel) rfl) (jn_in 54 (by decide +kernel) rfl) ⟨by decide, by decide, by decide +kernel⟩) : jn_GEm jn_G0 jn_me54 2 (.inr (.inl (82, 8, 2)))) <|
  jn_cons (⟨jn_astore_n_ok (i := 2) (k := 2) (by decide +kernel) rfl, jn_astore_n_mo 2⟩ : jn_GEm jn_G0 jn_me54 5 (.inl (jn_astore_n 2))) <|
  jn_cons (⟨jn_aload_n_ok (i := 2) (k := 2) (by decide +kernel) rfl, jn_aload_n_mo 2⟩ : jn_GEm jn_G0 jn_me54 6 (.inl (jn_aload_n 2))) <|
  jn_cons (⟨jn_ifnonnull_ok (t := 17) (off := 10) (by decide +kernel) (by decide), jn_ifnonnull_mo 17⟩ : jn_GEm jn_G0 jn_me54 7 (.inl (jn_ifnonnull 17))) <|
  jn_cons (⟨jn_aload_n_ok (i := 0) (k := 0) (by decide +kernel) rfl, jn_aload_n_mo 0⟩ : jn_GEm jn_G0 jn_me54 10 (.inl (jn_aload_n 0))) <|
  jn_cons (⟨jn_bipush_ok (n := (-3)) (v := (-3)) (by decide +kernel) (by decide), jn_bipush_mo (-3)⟩ : jn_GEm jn_G0 jn_me54 11 (.inl (jn_bipush (-3)))) <|
  jn_cons (jn_gc_of jn_G0_80 (jn_callV (i := 66) (na := 1) (ci := 6) (q := (RX6, TX6, 11)) (by decide +kernel) rfl (jn_in 210 (by decide +kernel) rfl) (jn_in 207 (by decide +kernel) rfl) (jn_in 209 (by decide +kernel) rfl) (jn_in 0 (by decide +kernel) rfl) (jn_in 54 (by decide +kernel) rfl) ⟨by decide, by decide, by decide +kernel⟩) : jn_GEm jn_G0 jn_me54 13 (.inr (.inl (80, 8, 2)))) <|
  jn_cons (⟨(by decide +kernel), rfl⟩ : jn_GEm jn_G0 jn_me54 16 (.inr (.inr 1))) <|
  jn_cons (⟨jn_aload_n_ok (i := 0) (k := 0) (by decide +kernel) rfl, jn_aload_n_mo 0⟩ : jn_GEm jn_G0 jn_me54 17 (.inl (jn_aload_n 0))) <|
  jn_cons (jn_gc_of jn_G0_89 (jn_callV (i := 147) (na := 0) (ci := 6) (q := (RX6, TX6, 11)) (by decide +kernel) rfl (jn_in 417 (by decide +kernel) rfl) (jn_in 414 (by decide +kernel) rfl) (jn_in 416 (by decide +kernel) rfl) (jn_in 14 (by decide +kernel) rfl) (jn_in 54 (by decide +kernel) rfl) ⟨by decide, by decide, by decide +kernel⟩) : jn_GEm jn_G0 jn_me54 18 (.inr (.inl (89, 8, 1)))) <|
  jn_cons (⟨jn_aload_n_ok (i := 0) (k := 0) (by decide +kernel) rfl, jn_aload_n_mo 0⟩ : jn_GEm jn_G0 jn_me54 21 (.inl (jn_aload_n 0))) <|
  jn_cons (⟨jn_aload_n_ok (i := 2) (k := 2) (by decide +kernel) rfl, jn_aload_n_mo 2⟩ : jn_GEm jn_G0 jn_me54 22 (.inl (jn_aload_n 2))) <|
  jn_cons (jn_gc_of jn_G0_88 (jn_callV (i := 150) (na := 1) (ci := 6) (q := (RX6, TX6, 11)) (by decide +kernel) rfl (jn_in 421 (by decide +kernel) rfl) (jn_in 418 (by decide +kernel) rfl) (jn_in 420 (by decide +kernel) rfl) (jn_in 15 (by decide +kernel) rfl) (jn_in 54 (by decide +kernel) rfl) ⟨by decide, by decide, by decide +kernel⟩) : jn_GEm jn_G0 jn_me54 23 (.inr (.inl (88, 8, 2)))) <|
  jn_cons (⟨(by decide +kernel), rfl⟩ : jn_GEm jn_G0 jn_me54 26 (.inr (.inr 1))) <| jn_nil
theorem jn_ok54 : jn_GM jn_G0 54 := jn_GM_of jn_G0_54 rfl rfl (by decide +kernel) (by decide) (jn_o54_0)
theorem jn_o55_0 : ∀ q ∈ jn_c55_0, jn_GEm jn_G0 jn_me55 q.1 q.2 :=
  jn_cons (⟨jn_aload_n_ok (i := 0) (k := 0) (by decide +kernel) rfl, jn_aload_n_mo 0⟩ : jn_GEm jn_G0 jn_me55 0 (.inl (jn_aload_n 0))) <|
  jn_cons (⟨jn_iload_n_ok (i := 1) (k := 1) (by decide +kernel) rfl, jn_iload_n_mo 1⟩ : jn_GEm jn_G0 jn_me55 1 (.inl (jn_iload_n 1))) <|
  jn_cons (jn_gc_of jn_G0_83 (jn_callV (i := 153) (na := 1) (ci := 6) (q := (RX6, TX6, 11)) (by decide +kernel) rfl (jn_in 231 (by decide +kernel) rfl) (jn_in 228 (by decide +kernel) rfl) (jn_in 230 (by decide +kernel) rfl) (jn_in 3 (by decide +kernel) rfl) (jn_in 54 (by decide +kernel) rfl) ⟨by decide, by decide, by decide +kernel⟩) : jn_GEm jn_G0 jn_me55 2 (.inr (.inl (83, 8, 2)))) <|
  jn_cons (⟨jn_astore_ok (i := 4) (by decide +kernel), jn_astore_mo 4⟩ : jn_GEm jn_G0 jn_me55 5 (.inl (jn_astore 4))) <|
  jn_cons (⟨jn_aload_ok (i := 4) (by decide +kernel), jn_aload_mo 4⟩ : jn_GEm jn_G0 jn_me55 7 (.inl (jn_aload 4))) <|
  jn_cons (⟨jn_ifnull_ok (t := 24) (off := 15) (by decide +kernel) (by decide), jn_ifnull_mo 24⟩ : jn_GEm jn_G0 jn_me55 9 (.inl (jn_ifnull 24))) <|
  jn_cons (⟨jn_aload_ok (i := 4) (by decide +kernel), jn_aload_mo 4⟩ : jn_GEm jn_G0 jn_me55 12 (.inl (jn_aload 4))) <|
  jn_cons (⟨jn_getf_ok (ci := 0) (k := 0) (i := 157) (N := 2) (C := RX0) (T := TX0) (by decide +kernel) rfl (by decide) jn_u0 (jn_in 429 (by decide +kernel) rfl), jn_getf_mo 0 0⟩ : jn_GEm jn_G0 jn_me55 14 (.inl (jn_getf 0 0))) <|
  jn_cons (⟨jn_iload_n_ok (i := 2) (k := 2) (by decide +kernel) rfl, jn_iload_n_mo 2⟩ : jn_GEm jn_G0 jn_me55 17 (.inl (jn_iload_n 2))) <|
  jn_cons (jn_gc_of jn_G0_12 (jn_callV (i := 77) (na := 1) (ci := 2) (q := (RX2, TX2, 3)) (by decide +kernel) rfl (jn_in 223 (by decide +kernel) rfl) (jn_in 220 (by decide +kernel) rfl) (jn_in 221 (by decide +kernel) rfl) (jn_in 222 (by decide +kernel) rfl) (jn_in 57 (by decide +kernel) rfl) ⟨by decide, by decide, by decide +kernel⟩) : jn_GEm jn_G0 jn_me55 18 (.inr (.inl (12, 4, 2)))) <|
  jn_cons (⟨jn_ifne_ok (t := 31) (off := 10) (by decide +kernel) (by decide), jn_ifne_mo 31⟩ : jn_GEm jn_G0 jn_me55 21 (.inl (jn_ifne 31))) <|
  jn_cons (⟨jn_aload_n_ok (i := 0) (k := 0) (by decide +kernel) rfl, jn_aload_n_mo 0⟩ : jn_GEm jn_G0 jn_me55 24 (.inl (jn_aload_n 0))) <|
  jn_cons (⟨jn_bipush_ok (n := (-3)) (v := (-3)) (by decide +kernel) (by decide), jn_bipush_mo (-3)⟩ : jn_GEm jn_G0 jn_me55 25 (.inl (jn_bipush (-3)))) <|
  jn_cons (jn_gc_of jn_G0_81 (jn_callV (i := 113) (na := 1) (ci := 6) (q := (RX6, TX6, 11)) (by decide +kernel) rfl (jn_in 291 (by decide +kernel) rfl) (jn_in 288 (by decide +kernel) rfl) (jn_in 290 (by decide +kernel) rfl) (jn_in 5 (by decide +kernel) rfl) (jn_in 54 (by decide +kernel) rfl) ⟨by decide, by decide, by decide +kernel⟩) : jn_GEm jn_G0 jn_me55 27 (.inr (.inl (81, 8, 2)))) <|
  jn_cons (⟨(by decide +kernel), rfl⟩ : jn_GEm jn_G0 jn_me55 30 (.inr (.inr 1))) <|
  jn_cons (⟨jn_iload_n_ok (i := 3) (k := 3) (by decide +kernel) rfl, jn_iload_n_mo 3⟩ : jn_GEm jn_G0 jn_me55 31 (.inl (jn_iload_n 3))) <|
  jn_cons (⟨jn_sipush_ok (n := (-300)) (v := (-300)) (by decide +kernel) (by decide), jn_sipush_mo (-300)⟩ : jn_GEm jn_G0 jn_me55 32 (.inl (jn_sipush (-300)))) <|
  jn_cons (⟨jn_iclt_ok (t := 45) (off := 10) (by decide +kernel) (by decide), jn_iclt_mo 45⟩ : jn_GEm jn_G0 jn_me55 35 (.inl (jn_iclt 45))) <|
  jn_cons (⟨jn_iload_n_ok (i := 3) (k := 3) (by decide +kernel) rfl, jn_iload_n_mo 3⟩ : jn_GEm jn_G0 jn_me55 38 (.inl (jn_iload_n 3))) <|
  jn_cons (⟨jn_sipush_ok (n := 300) (v := 300) (by decide +kernel) (by decide), jn_sipush_mo 300⟩ : jn_GEm jn_G0 jn_me55 39 (.inl (jn_sipush 300))) <|
  jn_cons (⟨jn_icle_ok (t := 52) (off := 10) (by decide +kernel) (by decide), jn_icle_mo 52⟩ : jn_GEm jn_G0 jn_me55 42 (.inl (jn_icle 52))) <|
  jn_cons (⟨jn_aload_n_ok (i := 0) (k := 0) (by decide +kernel) rfl, jn_aload_n_mo 0⟩ : jn_GEm jn_G0 jn_me55 45 (.inl (jn_aload_n 0))) <|
  jn_cons (⟨jn_bipush_ok (n := (-7)) (v := (-7)) (by decide +kernel) (by decide), jn_bipush_mo (-7)⟩ : jn_GEm jn_G0 jn_me55 46 (.inl (jn_bipush (-7)))) <|
  jn_cons (jn_gc_of jn_G0_81 (jn_callV (i := 113) (na := 1) (ci := 6) (q := (RX6, TX6, 11)) (by decide +kernel) rfl (jn_in 291 (by decide +kernel) rfl) (jn_in 288 (by decide +kernel) rfl) (jn_in 290 (by decide +kernel) rfl) (jn_in 5 (by decide +kernel) rfl) (jn_in 54 (by decide +kernel) rfl) ⟨by decide, by decide, by decide +kernel⟩) : jn_GEm jn_G0 jn_me55 48 (.inr (.inl (81, 8, 2)))) <| jn_nil
theorem jn_o55_1 : ∀ q ∈ jn_c55_1, jn_GEm jn_G0 jn_me55 q.1 q.2 :=
  jn_cons (⟨(by decide +kernel), rfl⟩ : jn_GEm jn_G0 jn_me55 51 (.inr (.inr 1))) <|
  jn_cons (⟨jn_aload_ok (i := 4) (by decide +kernel), jn_aload_mo 4⟩ : jn_GEm jn_G0 jn_me55 52 (.inl (jn_aload 4))) <|
  jn_cons (⟨jn_getf_ok (ci := 0) (k := 1) (i := 161) (N := 2) (C := RX0) (T := TX0) (by decide +kernel) rfl (by decide) jn_u0 (jn_in 432 (by decide +kernel) rfl), jn_getf_mo 0 1⟩ : jn_GEm jn_G0 jn_me55 54 (.inl (jn_getf 0 1))) <|
  jn_cons (⟨jn_iload_n_ok (i := 2) (k := 2) (by decide +kernel) rfl, jn_iload_n_mo 2⟩ : jn_GEm jn_G0 jn_me55 57 (.inl (jn_iload_n 2))) <|
  jn_cons (⟨jn_iaload_ok (by decide +kernel), jn_iaload_mo⟩ : jn_GEm jn_G0 jn_me55 58 (.inl jn_iaload)) <|
  jn_cons (⟨jn_istore_ok (i := 5) (by decide +kernel), jn_istore_mo 5⟩ : jn_GEm jn_G0 jn_me55 59 (.inl (jn_istore 5))) <|
  jn_cons (⟨jn_aload_ok (i := 4) (by decide +kernel), jn_aload_mo 4⟩ : jn_GEm jn_G0 jn_me55 61 (.inl (jn_aload 4))) <|
  jn_cons (⟨jn_getf_ok (ci := 0) (k := 1) (i := 161) (N := 2) (C := RX0) (T := TX0) (by decide +kernel) rfl (by decide) jn_u0 (jn_in 432 (by decide +kernel) rfl), jn_getf_mo 0 1⟩ : jn_GEm jn_G0 jn_me55 63 (.inl (jn_getf 0 1))) <|
  jn_cons (⟨jn_iload_n_ok (i := 2) (k := 2) (by decide +kernel) rfl, jn_iload_n_mo 2⟩ : jn_GEm jn_G0 jn_me55 66 (.inl (jn_iload_n 2))) <|
  jn_cons (⟨jn_iload_n_ok (i := 3) (k := 3) (by decide +kernel) rfl, jn_iload_n_mo 3⟩ : jn_GEm jn_G0 jn_me55 67 (.inl (jn_iload_n 3))) <|
  jn_cons (⟨jn_iastore_ok (by decide +kernel), jn_iastore_mo⟩ : jn_GEm jn_G0 jn_me55 68 (.inl jn_iastore)) <|
  jn_cons (⟨jn_iload_ok (i := 5) (by decide +kernel), jn_iload_mo 5⟩ : jn_GEm jn_G0 jn_me55 69 (.inl (jn_iload 5))) <|
  jn_cons (⟨(by decide +kernel), rfl⟩ : jn_GEm jn_G0 jn_me55 71 (.inr (.inr 1))) <| jn_nil
theorem jn_ok55 : jn_GM jn_G0 55 := jn_GM_of jn_G0_55 rfl rfl (by decide +kernel) (by decide) (jn_appd jn_o55_0 (jn_o55_1))
theorem jn_o56_0 : ∀ q ∈ jn_c56_0, jn_GEm jn_G0 jn_me56 q.1 q.2 :=
  jn_cons (⟨jn_aload_n_ok (i := 0) (k := 0) (by decide +kernel) rfl, jn_aload_n_mo 0⟩ : jn_GEm jn_G0 jn_me56 0 (.inl (jn_aload_n 0))) <|
  jn_cons (⟨jn_iload_n_ok (i := 1) (k := 1) (by decide +kernel) rfl, jn_iload_n_mo 1⟩ : jn_GEm jn_G0 jn_me56 1 (.inl (jn_iload_n 1))) <|
  jn_cons (jn_gc_of jn_G0_83 (jn_callV (i := 153) (na := 1) (ci := 6) (q := (RX6, TX6, 11)) (by decide +kernel) rfl (jn_in 231 (by decide +kernel) rfl) (jn_in 228 (by decide +kernel) rfl) (jn_in 230 (by decide +kernel) rfl) (jn_in 3 (by decide +kernel) rfl) (jn_in 54 (by decide +kernel) rfl) ⟨by decide, by decide, by decide +kernel⟩) : jn_GEm jn_G0 jn_me56 2 (.inr (.inl (83, 8, 2)))) <|
  jn_cons (⟨jn_astore_n_ok (i := 3) (k := 3) (by decide +kernel) rfl, jn_astore_n_mo 3⟩ : jn_GEm jn_G0 jn_me56 5 (.inl (jn_astore_n 3))) <|
  jn_cons (⟨jn_aload_n_ok (i := 3) (k := 3) (by decide +kernel) rfl, jn_aload_n_mo 3⟩ : jn_GEm jn_G0 jn_me56 6 (.inl (jn_aload_n 3))) <|
  jn_cons (⟨jn_ifnull_ok (t := 21) (off := 14) (by decide +kernel) (by decide), jn_ifnull_mo 21⟩ : jn_GEm jn_G0 jn_me56 7 (.inl (jn_ifnull 21))) <|
  jn_cons (⟨jn_aload_n_ok (i := 3) (k := 3) (by decide +kernel) rfl, jn_aload_n_mo 3⟩ : jn_GEm jn_G0 jn_me56 10 (.inl (jn_aload_n 3))) <|
  jn_cons (⟨jn_getf_ok (ci := 0) (k := 0) (i := 157) (N := 2) (C := RX0) (T := TX0) (by decide +kernel) rfl (by decide) jn_u0 (jn_in 429 (by decide +kernel) rfl), jn_getf_mo 0 0⟩ : jn_GEm jn_G0 jn_me56 11 (.inl (jn_getf 0 0))) <|
  jn_cons (⟨jn_iload_n_ok (i := 2) (k := 2) (by decide +kernel) rfl, jn_iload_n_mo 2⟩ : jn_GEm jn_G0 jn_me56 14 (.inl (jn_iload_n 2))) <|
  jn_cons (jn_gc_of jn_G0_12 (jn_callV (i := 77) (na := 1) (ci := 2) (q := (RX2, TX2, 3)) (by decide +kernel) rfl (jn_in 223 (by decide +kernel) rfl) (jn_in 220 (by decide +kernel) rfl) (jn_in 221 (by decide +kernel) rfl) (jn_in 222 (by decide +kernel) rfl) (jn_in 57 (by decide +kernel) rfl) ⟨by decide, by decide, by decide +kernel⟩) : jn_GEm jn_G0 jn_me56 15 (.inr (.inl (12, 4, 2)))) <|
  jn_cons (⟨jn_ifne_ok (t := 28) (off := 10) (by decide +kernel) (by decide), jn_ifne_mo 28⟩ : jn_GEm jn_G0 jn_me56 18 (.inl (jn_ifne 28))) <|
  jn_cons (⟨jn_aload_n_ok (i := 0) (k := 0) (by decide +kernel) rfl, jn_aload_n_mo 0⟩ : jn_GEm jn_G0 jn_me56 21 (.inl (jn_aload_n 0))) <|
  jn_cons (⟨jn_bipush_ok (n := (-3)) (v := (-3)) (by decide +kernel) (by decide), jn_bipush_mo (-3)⟩ : jn_GEm jn_G0 jn_me56 22 (.inl (jn_bipush (-3)))) <|
  jn_cons (jn_gc_of jn_G0_81 (jn_callV (i := 113) (na := 1) (ci := 6) (q := (RX6, TX6, 11)) (by decide +kernel) rfl (jn_in 291 (by decide +kernel) rfl) (jn_in 288 (by decide +kernel) rfl) (jn_in 290 (by decide +kernel) rfl) (jn_in 5 (by decide +kernel) rfl) (jn_in 54 (by decide +kernel) rfl) ⟨by decide, by decide, by decide +kernel⟩) : jn_GEm jn_G0 jn_me56 24 (.inr (.inl (81, 8, 2)))) <|
  jn_cons (⟨(by decide +kernel), rfl⟩ : jn_GEm jn_G0 jn_me56 27 (.inr (.inr 1))) <|
  jn_cons (⟨jn_aload_n_ok (i := 3) (k := 3) (by decide +kernel) rfl, jn_aload_n_mo 3⟩ : jn_GEm jn_G0 jn_me56 28 (.inl (jn_aload_n 3))) <|
  jn_cons (⟨jn_getf_ok (ci := 0) (k := 1) (i := 161) (N := 2) (C := RX0) (T := TX0) (by decide +kernel) rfl (by decide) jn_u0 (jn_in 432 (by decide +kernel) rfl), jn_getf_mo 0 1⟩ : jn_GEm jn_G0 jn_me56 29 (.inl (jn_getf 0 1))) <|
  jn_cons (⟨jn_iload_n_ok (i := 2) (k := 2) (by decide +kernel) rfl, jn_iload_n_mo 2⟩ : jn_GEm jn_G0 jn_me56 32 (.inl (jn_iload_n 2))) <|
  jn_cons (⟨jn_iaload_ok (by decide +kernel), jn_iaload_mo⟩ : jn_GEm jn_G0 jn_me56 33 (.inl jn_iaload)) <|
  jn_cons (⟨(by decide +kernel), rfl⟩ : jn_GEm jn_G0 jn_me56 34 (.inr (.inr 1))) <| jn_nil
theorem jn_ok56 : jn_GM jn_G0 56 := jn_GM_of jn_G0_56 rfl rfl (by decide +kernel) (by decide) (jn_o56_0)
