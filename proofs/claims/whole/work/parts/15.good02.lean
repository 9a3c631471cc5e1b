theorem jn_o57_0 : ∀ q ∈ jn_c57_0, jn_GEm jn_G0 jn_me57 q.1 q.2 :=
  jn_cons (⟨jn_aload_n_ok (i := 0) (k := 0) (by decide +kernel) rfl, jn_aload_n_mo 0⟩ : jn_GEm jn_G0 jn_me57 0 (.inl (jn_aload_n 0))) <|
  jn_cons (⟨jn_iload_n_ok (i := 1) (k := 1) (by decide +kernel) rfl, jn_iload_n_mo 1⟩ : jn_GEm jn_G0 jn_me57 1 (.inl (jn_iload_n 1))) <|
  jn_cons (jn_gc_of jn_G0_83 (jn_callV (i := 153) (na := 1) (ci := 6) (q := (RX6, TX6, 11)) (by decide +kernel) rfl (jn_in 231 (by decide +kernel) rfl) (jn_in 228 (by decide +kernel) rfl) (jn_in 230 (by decide +kernel) rfl) (jn_in 3 (by decide +kernel) rfl) (jn_in 54 (by decide +kernel) rfl) ⟨by decide, by decide, by decide +kernel⟩) : jn_GEm jn_G0 jn_me57 2 (.inr (.inl (83, 8, 2)))) <|
  jn_cons (⟨jn_astore_n_ok (i := 2) (k := 2) (by decide +kernel) rfl, jn_astore_n_mo 2⟩ : jn_GEm jn_G0 jn_me57 5 (.inl (jn_astore_n 2))) <|
  jn_cons (⟨jn_aload_n_ok (i := 2) (k := 2) (by decide +kernel) rfl, jn_aload_n_mo 2⟩ : jn_GEm jn_G0 jn_me57 6 (.inl (jn_aload_n 2))) <|
  jn_cons (⟨jn_ifnonnull_ok (t := 17) (off := 10) (by decide +kernel) (by decide), jn_ifnonnull_mo 17⟩ : jn_GEm jn_G0 jn_me57 7 (.inl (jn_ifnonnull 17))) <|
  jn_cons (⟨jn_aload_n_ok (i := 0) (k := 0) (by decide +kernel) rfl, jn_aload_n_mo 0⟩ : jn_GEm jn_G0 jn_me57 10 (.inl (jn_aload_n 0))) <|
  jn_cons (⟨jn_bipush_ok (n := (-3)) (v := (-3)) (by decide +kernel) (by decide), jn_bipush_mo (-3)⟩ : jn_GEm jn_G0 jn_me57 11 (.inl (jn_bipush (-3)))) <|
  jn_cons (jn_gc_of jn_G0_81 (jn_callV (i := 113) (na := 1) (ci := 6) (q := (RX6, TX6, 11)) (by decide +kernel) rfl (jn_in 291 (by decide +kernel) rfl) (jn_in 288 (by decide +kernel) rfl) (jn_in 290 (by decide +kernel) rfl) (jn_in 5 (by decide +kernel) rfl) (jn_in 54 (by decide +kernel) rfl) ⟨by decide, by decide, by decide +kernel⟩) : jn_GEm jn_G0 jn_me57 13 (.inr (.inl (81, 8, 2)))) <|
  jn_cons (⟨(by decide +kernel), rfl⟩ : jn_GEm jn_G0 jn_me57 16 (.inr (.inr 1))) <|
  jn_cons (⟨jn_aload_n_ok (i := 2) (k := 2) (by decide +kernel) rfl, jn_aload_n_mo 2⟩ : jn_GEm jn_G0 jn_me57 17 (.inl (jn_aload_n 2))) <|
  jn_cons (jn_gc_of jn_G0_1 (jn_callV (i := 164) (na := 0) (ci := 0) (q := (RX0, TX0, 2)) (by decide +kernel) rfl (jn_in 464 (by decide +kernel) rfl) (jn_in 461 (by decide +kernel) rfl) (jn_in 462 (by decide +kernel) rfl) (jn_in 463 (by decide +kernel) rfl) (jn_in 63 (by decide +kernel) rfl) ⟨by decide, by decide, by decide +kernel⟩) : jn_GEm jn_G0 jn_me57 18 (.inr (.inl (1, 2, 1)))) <|
  jn_cons (⟨(by decide +kernel), rfl⟩ : jn_GEm jn_G0 jn_me57 21 (.inr (.inr 1))) <| jn_nil
theorem jn_ok57 : jn_GM jn_G0 57 := jn_GM_of jn_G0_57 rfl rfl (by decide +kernel) (by decide) (jn_o57_0)
theorem jn_o58_0 : ∀ q ∈ jn_c58_0, jn_GEm jn_G0 jn_me58 q.1 q.2 :=
  jn_cons (⟨jn_aload_n_ok (i := 0) (k := 0) (by decide +kernel) rfl, jn_aload_n_mo 0⟩ : jn_GEm jn_G0 jn_me58 0 (.inl (jn_aload_n 0))) <|
  jn_cons (⟨jn_iload_n_ok (i := 1) (k := 1) (by decide +kernel) rfl, jn_iload_n_mo 1⟩ : jn_GEm jn_G0 jn_me58 1 (.inl (jn_iload_n 1))) <|
  jn_cons (jn_gc_of jn_G0_83 (jn_callV (i := 153) (na := 1) (ci := 6) (q := (RX6, TX6, 11)) (by decide +kernel) rfl (jn_in 231 (by decide +kernel) rfl) (jn_in 228 (by decide +kernel) rfl) (jn_in 230 (by decide +kernel) rfl) (jn_in 3 (by decide +kernel) rfl) (jn_in 54 (by decide +kernel) rfl) ⟨by decide, by decide, by decide +kernel⟩) : jn_GEm jn_G0 jn_me58 2 (.inr (.inl (83, 8, 2)))) <|
  jn_cons (⟨jn_astore_n_ok (i := 2) (k := 2) (by decide +kernel) rfl, jn_astore_n_mo 2⟩ : jn_GEm jn_G0 jn_me58 5 (.inl (jn_astore_n 2))) <|
  jn_cons (⟨jn_aload_n_ok (i := 2) (k := 2) (by decide +kernel) rfl, jn_aload_n_mo 2⟩ : jn_GEm jn_G0 jn_me58 6 (.inl (jn_aload_n 2))) <|
  jn_cons (⟨jn_ifnonnull_ok (t := 17) (off := 10) (by decide +kernel) (by decide), jn_ifnonnull_mo 17⟩ : jn_GEm jn_G0 jn_me58 7 (.inl (jn_ifnonnull 17))) <|
  jn_cons (⟨jn_aload_n_ok (i := 0) (k := 0) (by decide +kernel) rfl, jn_aload_n_mo 0⟩ : jn_GEm jn_G0 jn_me58 10 (.inl (jn_aload_n 0))) <|
  jn_cons (⟨jn_bipush_ok (n := (-3)) (v := (-3)) (by decide +kernel) (by decide), jn_bipush_mo (-3)⟩ : jn_GEm jn_G0 jn_me58 11 (.inl (jn_bipush (-3)))) <|
  jn_cons (jn_gc_of jn_G0_80 (jn_callV (i := 66) (na := 1) (ci := 6) (q := (RX6, TX6, 11)) (by decide +kernel) rfl (jn_in 210 (by decide +kernel) rfl) (jn_in 207 (by decide +kernel) rfl) (jn_in 209 (by decide +kernel) rfl) (jn_in 0 (by decide +kernel) rfl) (jn_in 54 (by decide +kernel) rfl) ⟨by decide, by decide, by decide +kernel⟩) : jn_GEm jn_G0 jn_me58 13 (.inr (.inl (80, 8, 2)))) <|
  jn_cons (⟨(by decide +kernel), rfl⟩ : jn_GEm jn_G0 jn_me58 16 (.inr (.inr 1))) <|
  jn_cons (⟨jn_aload_n_ok (i := 2) (k := 2) (by decide +kernel) rfl, jn_aload_n_mo 2⟩ : jn_GEm jn_G0 jn_me58 17 (.inl (jn_aload_n 2))) <|
  jn_cons (⟨jn_iconst_ok (by decide +kernel), jn_iconst_mo (-1)⟩ : jn_GEm jn_G0 jn_me58 18 (.inl (jn_iconst (-1)))) <|
  jn_cons (jn_gc_of jn_G0_2 (jn_callV (i := 167) (na := 1) (ci := 0) (q := (RX0, TX0, 2)) (by decide +kernel) rfl (jn_in 472 (by decide +kernel) rfl) (jn_in 469 (by decide +kernel) rfl) (jn_in 470 (by decide +kernel) rfl) (jn_in 471 (by decide +kernel) rfl) (jn_in 63 (by decide +kernel) rfl) ⟨by decide, by decide, by decide +kernel⟩) : jn_GEm jn_G0 jn_me58 19 (.inr (.inl (2, 2, 2)))) <|
  jn_cons (⟨jn_ifeq_ok (t := 29) (off := 7) (by decide +kernel) (by decide), jn_ifeq_mo 29⟩ : jn_GEm jn_G0 jn_me58 22 (.inl (jn_ifeq 29))) <|
  jn_cons (⟨jn_iconst_ok (by decide +kernel), jn_iconst_mo 0⟩ : jn_GEm jn_G0 jn_me58 25 (.inl (jn_iconst 0))) <|
  jn_cons (⟨jn_goto_ok (t := 30) (off := 4) (by decide +kernel) (by decide), jn_goto_mo 30⟩ : jn_GEm jn_G0 jn_me58 26 (.inl (jn_goto 30))) <|
  jn_cons (⟨jn_iconst_ok (by decide +kernel), jn_iconst_mo 1⟩ : jn_GEm jn_G0 jn_me58 29 (.inl (jn_iconst 1))) <|
  jn_cons (⟨(by decide +kernel), rfl⟩ : jn_GEm jn_G0 jn_me58 30 (.inr (.inr 1))) <| jn_nil
theorem jn_ok58 : jn_GM jn_G0 58 := jn_GM_of jn_G0_58 rfl rfl (by decide +kernel) (by decide) (jn_o58_0)
theorem jn_o59_0 : ∀ q ∈ jn_c59_0, jn_GEm jn_G0 jn_me59 q.1 q.2 :=
  jn_cons (⟨jn_aload_n_ok (i := 0) (k := 0) (by decide +kernel) rfl, jn_aload_n_mo 0⟩ : jn_GEm jn_G0 jn_me59 0 (.inl (jn_aload_n 0))) <|
  jn_cons (⟨jn_iload_n_ok (i := 1) (k := 1) (by decide +kernel) rfl, jn_iload_n_mo 1⟩ : jn_GEm jn_G0 jn_me59 1 (.inl (jn_iload_n 1))) <|
  jn_cons (jn_gc_of jn_G0_83 (jn_callV (i := 153) (na := 1) (ci := 6) (q := (RX6, TX6, 11)) (by decide +kernel) rfl (jn_in 231 (by decide +kernel) rfl) (jn_in 228 (by decide +kernel) rfl) (jn_in 230 (by decide +kernel) rfl) (jn_in 3 (by decide +kernel) rfl) (jn_in 54 (by decide +kernel) rfl) ⟨by decide, by decide, by decide +kernel⟩) : jn_GEm jn_G0 jn_me59 2 (.inr (.inl (83, 8, 2)))) <|
  jn_cons (⟨jn_astore_ok (i := 4) (by decide +kernel), jn_astore_mo 4⟩ : jn_GEm jn_G0 jn_me59 5 (.inl (jn_astore 4))) <|
  jn_cons (⟨jn_aload_ok (i := 4) (by decide +kernel), jn_aload_mo 4⟩ : jn_GEm jn_G0 jn_me59 7 (.inl (jn_aload 4))) <|
  jn_cons (⟨jn_ifnull_ok (t := 24) (off := 15) (by decide +kernel) (by decide), jn_ifnull_mo 24⟩ : jn_GEm jn_G0 jn_me59 9 (.inl (jn_ifnull 24))) <|
  jn_cons (⟨jn_aload_ok (i := 4) (by decide +kernel), jn_aload_mo 4⟩ : jn_GEm jn_G0 jn_me59 12 (.inl (jn_aload 4))) <|
  jn_cons (⟨jn_getf_ok (ci := 0) (k := 0) (i := 157) (N := 2) (C := RX0) (T := TX0) (by decide +kernel) rfl (by decide) jn_u0 (jn_in 429 (by decide +kernel) rfl), jn_getf_mo 0 0⟩ : jn_GEm jn_G0 jn_me59 14 (.inl (jn_getf 0 0))) <|
  jn_cons (⟨jn_iload_n_ok (i := 2) (k := 2) (by decide +kernel) rfl, jn_iload_n_mo 2⟩ : jn_GEm jn_G0 jn_me59 17 (.inl (jn_iload_n 2))) <|
  jn_cons (jn_gc_of jn_G0_12 (jn_callV (i := 77) (na := 1) (ci := 2) (q := (RX2, TX2, 3)) (by decide +kernel) rfl (jn_in 223 (by decide +kernel) rfl) (jn_in 220 (by decide +kernel) rfl) (jn_in 221 (by decide +kernel) rfl) (jn_in 222 (by decide +kernel) rfl) (jn_in 57 (by decide +kernel) rfl) ⟨by decide, by decide, by decide +kernel⟩) : jn_GEm jn_G0 jn_me59 18 (.inr (.inl (12, 4, 2)))) <|
  jn_cons (⟨jn_ifne_ok (t := 31) (off := 10) (by decide +kernel) (by decide), jn_ifne_mo 31⟩ : jn_GEm jn_G0 jn_me59 21 (.inl (jn_ifne 31))) <|
  jn_cons (⟨jn_aload_n_ok (i := 0) (k := 0) (by decide +kernel) rfl, jn_aload_n_mo 0⟩ : jn_GEm jn_G0 jn_me59 24 (.inl (jn_aload_n 0))) <|
  jn_cons (⟨jn_bipush_ok (n := (-3)) (v := (-3)) (by decide +kernel) (by decide), jn_bipush_mo (-3)⟩ : jn_GEm jn_G0 jn_me59 25 (.inl (jn_bipush (-3)))) <|
  jn_cons (jn_gc_of jn_G0_81 (jn_callV (i := 113) (na := 1) (ci := 6) (q := (RX6, TX6, 11)) (by decide +kernel) rfl (jn_in 291 (by decide +kernel) rfl) (jn_in 288 (by decide +kernel) rfl) (jn_in 290 (by decide +kernel) rfl) (jn_in 5 (by decide +kernel) rfl) (jn_in 54 (by decide +kernel) rfl) ⟨by decide, by decide, by decide +kernel⟩) : jn_GEm jn_G0 jn_me59 27 (.inr (.inl (81, 8, 2)))) <|
  jn_cons (⟨(by decide +kernel), rfl⟩ : jn_GEm jn_G0 jn_me59 30 (.inr (.inr 1))) <|
  jn_cons (⟨jn_iload_n_ok (i := 3) (k := 3) (by decide +kernel) rfl, jn_iload_n_mo 3⟩ : jn_GEm jn_G0 jn_me59 31 (.inl (jn_iload_n 3))) <|
  jn_cons (⟨jn_bipush_ok (n := (-100)) (v := (-100)) (by decide +kernel) (by decide), jn_bipush_mo (-100)⟩ : jn_GEm jn_G0 jn_me59 32 (.inl (jn_bipush (-100)))) <|
  jn_cons (⟨jn_iclt_ok (t := 43) (off := 9) (by decide +kernel) (by decide), jn_iclt_mo 43⟩ : jn_GEm jn_G0 jn_me59 34 (.inl (jn_iclt 43))) <|
  jn_cons (⟨jn_iload_n_ok (i := 3) (k := 3) (by decide +kernel) rfl, jn_iload_n_mo 3⟩ : jn_GEm jn_G0 jn_me59 37 (.inl (jn_iload_n 3))) <|
  jn_cons (⟨jn_bipush_ok (n := 100) (v := 100) (by decide +kernel) (by decide), jn_bipush_mo 100⟩ : jn_GEm jn_G0 jn_me59 38 (.inl (jn_bipush 100))) <|
  jn_cons (⟨jn_icle_ok (t := 50) (off := 10) (by decide +kernel) (by decide), jn_icle_mo 50⟩ : jn_GEm jn_G0 jn_me59 40 (.inl (jn_icle 50))) <|
  jn_cons (⟨jn_aload_n_ok (i := 0) (k := 0) (by decide +kernel) rfl, jn_aload_n_mo 0⟩ : jn_GEm jn_G0 jn_me59 43 (.inl (jn_aload_n 0))) <|
  jn_cons (⟨jn_bipush_ok (n := (-7)) (v := (-7)) (by decide +kernel) (by decide), jn_bipush_mo (-7)⟩ : jn_GEm jn_G0 jn_me59 44 (.inl (jn_bipush (-7)))) <|
  jn_cons (jn_gc_of jn_G0_81 (jn_callV (i := 113) (na := 1) (ci := 6) (q := (RX6, TX6, 11)) (by decide +kernel) rfl (jn_in 291 (by decide +kernel) rfl) (jn_in 288 (by decide +kernel) rfl) (jn_in 290 (by decide +kernel) rfl) (jn_in 5 (by decide +kernel) rfl) (jn_in 54 (by decide +kernel) rfl) ⟨by decide, by decide, by decide +kernel⟩) : jn_GEm jn_G0 jn_me59 46 (.inr (.inl (81, 8, 2)))) <| jn_nil
theorem jn_o59_1 : ∀ q ∈ jn_c59_1, jn_GEm jn_G0 jn_me59 q.1 q.2 :=
  jn_cons (⟨(by decide +kernel), rfl⟩ : jn_GEm jn_G0 jn_me59 49 (.inr (.inr 1))) <|
  jn_cons (⟨jn_aload_ok (i := 4) (by decide +kernel), jn_aload_mo 4⟩ : jn_GEm jn_G0 jn_me59 50 (.inl (jn_aload 4))) <|
  jn_cons (⟨jn_aload_n_ok (i := 0) (k := 0) (by decide +kernel) rfl, jn_aload_n_mo 0⟩ : jn_GEm jn_G0 jn_me59 52 (.inl (jn_aload_n 0))) <|
  jn_cons (⟨jn_getf_ok (ci := 6) (k := 7) (i := 38) (N := 11) (C := RX6) (T := TX6) (by decide +kernel) rfl (by decide) jn_u6 (jn_in 176 (by decide +kernel) rfl), jn_getf_mo 6 7⟩ : jn_GEm jn_G0 jn_me59 53 (.inl (jn_getf 6 7))) <|
  jn_cons (jn_gc_of jn_G0_4 (jn_callV (i := 170) (na := 1) (ci := 0) (q := (RX0, TX0, 2)) (by decide +kernel) rfl (jn_in 480 (by decide +kernel) rfl) (jn_in 477 (by decide +kernel) rfl) (jn_in 478 (by decide +kernel) rfl) (jn_in 479 (by decide +kernel) rfl) (jn_in 63 (by decide +kernel) rfl) ⟨by decide, by decide, by decide +kernel⟩) : jn_GEm jn_G0 jn_me59 56 (.inr (.inl (4, 2, 2)))) <|
  jn_cons (⟨jn_aload_ok (i := 4) (by decide +kernel), jn_aload_mo 4⟩ : jn_GEm jn_G0 jn_me59 59 (.inl (jn_aload 4))) <|
  jn_cons (⟨jn_getf_ok (ci := 0) (k := 0) (i := 157) (N := 2) (C := RX0) (T := TX0) (by decide +kernel) rfl (by decide) jn_u0 (jn_in 429 (by decide +kernel) rfl), jn_getf_mo 0 0⟩ : jn_GEm jn_G0 jn_me59 61 (.inl (jn_getf 0 0))) <|
  jn_cons (⟨jn_aload_n_ok (i := 0) (k := 0) (by decide +kernel) rfl, jn_aload_n_mo 0⟩ : jn_GEm jn_G0 jn_me59 64 (.inl (jn_aload_n 0))) <|
  jn_cons (⟨jn_getf_ok (ci := 6) (k := 7) (i := 38) (N := 11) (C := RX6) (T := TX6) (by decide +kernel) rfl (by decide) jn_u6 (jn_in 176 (by decide +kernel) rfl), jn_getf_mo 6 7⟩ : jn_GEm jn_G0 jn_me59 65 (.inl (jn_getf 6 7))) <|
  jn_cons (⟨jn_iload_n_ok (i := 2) (k := 2) (by decide +kernel) rfl, jn_iload_n_mo 2⟩ : jn_GEm jn_G0 jn_me59 68 (.inl (jn_iload_n 2))) <|
  jn_cons (⟨jn_iload_n_ok (i := 3) (k := 3) (by decide +kernel) rfl, jn_iload_n_mo 3⟩ : jn_GEm jn_G0 jn_me59 69 (.inl (jn_iload_n 3))) <|
  jn_cons (jn_gc_of jn_G0_23 (jn_callV (i := 174) (na := 3) (ci := 2) (q := (RX2, TX2, 3)) (by decide +kernel) rfl (jn_in 395 (by decide +kernel) rfl) (jn_in 481 (by decide +kernel) rfl) (jn_in 393 (by decide +kernel) rfl) (jn_in 394 (by decide +kernel) rfl) (jn_in 57 (by decide +kernel) rfl) ⟨by decide, by decide, by decide +kernel⟩) : jn_GEm jn_G0 jn_me59 70 (.inr (.inl (23, 4, 4)))) <|
  jn_cons (⟨jn_aload_n_ok (i := 0) (k := 0) (by decide +kernel) rfl, jn_aload_n_mo 0⟩ : jn_GEm jn_G0 jn_me59 73 (.inl (jn_aload_n 0))) <|
  jn_cons (jn_gc_of jn_G0_91 (jn_callV (i := 178) (na := 0) (ci := 6) (q := (RX6, TX6, 11)) (by decide +kernel) rfl (jn_in 485 (by decide +kernel) rfl) (jn_in 482 (by decide +kernel) rfl) (jn_in 484 (by decide +kernel) rfl) (jn_in 16 (by decide +kernel) rfl) (jn_in 54 (by decide +kernel) rfl) ⟨by decide, by decide, by decide +kernel⟩) : jn_GEm jn_G0 jn_me59 74 (.inr (.inl (91, 8, 1)))) <|
  jn_cons (⟨jn_ifne_ok (t := 87) (off := 10) (by decide +kernel) (by decide), jn_ifne_mo 87⟩ : jn_GEm jn_G0 jn_me59 77 (.inl (jn_ifne 87))) <|
  jn_cons (⟨jn_aload_n_ok (i := 0) (k := 0) (by decide +kernel) rfl, jn_aload_n_mo 0⟩ : jn_GEm jn_G0 jn_me59 80 (.inl (jn_aload_n 0))) <|
  jn_cons (⟨jn_bipush_ok (n := (-8)) (v := (-8)) (by decide +kernel) (by decide), jn_bipush_mo (-8)⟩ : jn_GEm jn_G0 jn_me59 81 (.inl (jn_bipush (-8)))) <|
  jn_cons (jn_gc_of jn_G0_81 (jn_callV (i := 113) (na := 1) (ci := 6) (q := (RX6, TX6, 11)) (by decide +kernel) rfl (jn_in 291 (by decide +kernel) rfl) (jn_in 288 (by decide +kernel) rfl) (jn_in 290 (by decide +kernel) rfl) (jn_in 5 (by decide +kernel) rfl) (jn_in 54 (by decide +kernel) rfl) ⟨by decide, by decide, by decide +kernel⟩) : jn_GEm jn_G0 jn_me59 83 (.inr (.inl (81, 8, 2)))) <|
  jn_cons (⟨(by decide +kernel), rfl⟩ : jn_GEm jn_G0 jn_me59 86 (.inr (.inr 1))) <|
  jn_cons (⟨jn_aload_ok (i := 4) (by decide +kernel), jn_aload_mo 4⟩ : jn_GEm jn_G0 jn_me59 87 (.inl (jn_aload 4))) <|
  jn_cons (⟨jn_aload_n_ok (i := 0) (k := 0) (by decide +kernel) rfl, jn_aload_n_mo 0⟩ : jn_GEm jn_G0 jn_me59 89 (.inl (jn_aload_n 0))) <|
  jn_cons (⟨jn_getf_ok (ci := 6) (k := 7) (i := 38) (N := 11) (C := RX6) (T := TX6) (by decide +kernel) rfl (by decide) jn_u6 (jn_in 176 (by decide +kernel) rfl), jn_getf_mo 6 7⟩ : jn_GEm jn_G0 jn_me59 90 (.inl (jn_getf 6 7))) <|
  jn_cons (jn_gc_of jn_G0_5 (jn_callV (i := 181) (na := 1) (ci := 0) (q := (RX0, TX0, 2)) (by decide +kernel) rfl (jn_in 441 (by decide +kernel) rfl) (jn_in 438 (by decide +kernel) rfl) (jn_in 439 (by decide +kernel) rfl) (jn_in 440 (by decide +kernel) rfl) (jn_in 63 (by decide +kernel) rfl) ⟨by decide, by decide, by decide +kernel⟩) : jn_GEm jn_G0 jn_me59 93 (.inr (.inl (5, 2, 2)))) <|
  jn_cons (⟨jn_pop_ok (by decide +kernel), jn_pop_mo⟩ : jn_GEm jn_G0 jn_me59 96 (.inl jn_pop)) <| jn_nil
theorem jn_o59_2 : ∀ q ∈ jn_c59_2, jn_GEm jn_G0 jn_me59 q.1 q.2 :=
  jn_cons (⟨jn_aload_ok (i := 4) (by decide +kernel), jn_aload_mo 4⟩ : jn_GEm jn_G0 jn_me59 97 (.inl (jn_aload 4))) <|
  jn_cons (⟨jn_getf_ok (ci := 0) (k := 1) (i := 161) (N := 2) (C := RX0) (T := TX0) (by decide +kernel) rfl (by decide) jn_u0 (jn_in 432 (by decide +kernel) rfl), jn_getf_mo 0 1⟩ : jn_GEm jn_G0 jn_me59 99 (.inl (jn_getf 0 1))) <|
  jn_cons (⟨jn_iload_n_ok (i := 2) (k := 2) (by decide +kernel) rfl, jn_iload_n_mo 2⟩ : jn_GEm jn_G0 jn_me59 102 (.inl (jn_iload_n 2))) <|
  jn_cons (⟨jn_iaload_ok (by decide +kernel), jn_iaload_mo⟩ : jn_GEm jn_G0 jn_me59 103 (.inl jn_iaload)) <|
  jn_cons (⟨(by decide +kernel), rfl⟩ : jn_GEm jn_G0 jn_me59 104 (.inr (.inr 1))) <| jn_nil
theorem jn_ok59 : jn_GM jn_G0 59 := jn_GM_of jn_G0_59 rfl rfl (by decide +kernel) (by decide) (jn_appd jn_o59_0 (jn_appd jn_o59_1 (jn_o59_2)))
theorem jn_o60_0 : ∀ q ∈ jn_c60_0, jn_GEm jn_G0 jn_me60 q.1 q.2 :=
  jn_cons (⟨jn_aload_n_ok (i := 0) (k := 0) (by decide +kernel) rfl, jn_aload_n_mo 0⟩ : jn_GEm jn_G0 jn_me60 0 (.inl (jn_aload_n 0))) <|
  jn_cons (⟨jn_iload_n_ok (i := 1) (k := 1) (by decide +kernel) rfl, jn_iload_n_mo 1⟩ : jn_GEm jn_G0 jn_me60 1 (.inl (jn_iload_n 1))) <|
  jn_cons (jn_gc_of jn_G0_83 (jn_callV (i := 153) (na := 1) (ci := 6) (q := (RX6, TX6, 11)) (by decide +kernel) rfl (jn_in 231 (by decide +kernel) rfl) (jn_in 228 (by decide +kernel) rfl) (jn_in 230 (by decide +kernel) rfl) (jn_in 3 (by decide +kernel) rfl) (jn_in 54 (by decide +kernel) rfl) ⟨by decide, by decide, by decide +kernel⟩) : jn_GEm jn_G0 jn_me60 2 (.inr (.inl (83, 8, 2)))) <|
  jn_cons (⟨jn_astore_n_ok (i := 3) (k := 3) (by decide +kernel) rfl, jn_astore_n_mo 3⟩ : jn_GEm jn_G0 jn_me60 5 (.inl (jn_astore_n 3))) <|
  jn_cons (⟨jn_aload_n_ok (i := 3) (k := 3) (by decide +kernel) rfl, jn_aload_n_mo 3⟩ : jn_GEm jn_G0 jn_me60 6 (.inl (jn_aload_n 3))) <|
  jn_cons (⟨jn_ifnull_ok (t := 25) (off := 18) (by decide +kernel) (by decide), jn_ifnull_mo 25⟩ : jn_GEm jn_G0 jn_me60 7 (.inl (jn_ifnull 25))) <|
  jn_cons (⟨jn_iload_n_ok (i := 2) (k := 2) (by decide +kernel) rfl, jn_iload_n_mo 2⟩ : jn_GEm jn_G0 jn_me60 10 (.inl (jn_iload_n 2))) <|
  jn_cons (⟨jn_iflt_ok (t := 25) (off := 14) (by decide +kernel) (by decide), jn_iflt_mo 25⟩ : jn_GEm jn_G0 jn_me60 11 (.inl (jn_iflt 25))) <|
  jn_cons (⟨jn_iload_n_ok (i := 2) (k := 2) (by decide +kernel) rfl, jn_iload_n_mo 2⟩ : jn_GEm jn_G0 jn_me60 14 (.inl (jn_iload_n 2))) <|
  jn_cons (⟨jn_aload_n_ok (i := 3) (k := 3) (by decide +kernel) rfl, jn_aload_n_mo 3⟩ : jn_GEm jn_G0 jn_me60 15 (.inl (jn_aload_n 3))) <|
  jn_cons (⟨jn_getf_ok (ci := 0) (k := 0) (i := 157) (N := 2) (C := RX0) (T := TX0) (by decide +kernel) rfl (by decide) jn_u0 (jn_in 429 (by decide +kernel) rfl), jn_getf_mo 0 0⟩ : jn_GEm jn_G0 jn_me60 16 (.inl (jn_getf 0 0))) <|
  jn_cons (jn_gc_of jn_G0_13 (jn_callV (i := 124) (na := 0) (ci := 2) (q := (RX2, TX2, 3)) (by decide +kernel) rfl (jn_in 259 (by decide +kernel) rfl) (jn_in 352 (by decide +kernel) rfl) (jn_in 257 (by decide +kernel) rfl) (jn_in 258 (by decide +kernel) rfl) (jn_in 57 (by decide +kernel) rfl) ⟨by decide, by decide, by decide +kernel⟩) : jn_GEm jn_G0 jn_me60 19 (.inr (.inl (13, 4, 1)))) <|
  jn_cons (⟨jn_icle_ok (t := 32) (off := 10) (by decide +kernel) (by decide), jn_icle_mo 32⟩ : jn_GEm jn_G0 jn_me60 22 (.inl (jn_icle 32))) <|
  jn_cons (⟨jn_aload_n_ok (i := 0) (k := 0) (by decide +kernel) rfl, jn_aload_n_mo 0⟩ : jn_GEm jn_G0 jn_me60 25 (.inl (jn_aload_n 0))) <|
  jn_cons (⟨jn_bipush_ok (n := (-3)) (v := (-3)) (by decide +kernel) (by decide), jn_bipush_mo (-3)⟩ : jn_GEm jn_G0 jn_me60 26 (.inl (jn_bipush (-3)))) <|
  jn_cons (jn_gc_of jn_G0_80 (jn_callV (i := 66) (na := 1) (ci := 6) (q := (RX6, TX6, 11)) (by decide +kernel) rfl (jn_in 210 (by decide +kernel) rfl) (jn_in 207 (by decide +kernel) rfl) (jn_in 209 (by decide +kernel) rfl) (jn_in 0 (by decide +kernel) rfl) (jn_in 54 (by decide +kernel) rfl) ⟨by decide, by decide, by decide +kernel⟩) : jn_GEm jn_G0 jn_me60 28 (.inr (.inl (80, 8, 2)))) <|
  jn_cons (⟨(by decide +kernel), rfl⟩ : jn_GEm jn_G0 jn_me60 31 (.inr (.inr 1))) <|
  jn_cons (⟨jn_aload_n_ok (i := 3) (k := 3) (by decide +kernel) rfl, jn_aload_n_mo 3⟩ : jn_GEm jn_G0 jn_me60 32 (.inl (jn_aload_n 3))) <|
  jn_cons (⟨jn_aload_n_ok (i := 0) (k := 0) (by decide +kernel) rfl, jn_aload_n_mo 0⟩ : jn_GEm jn_G0 jn_me60 33 (.inl (jn_aload_n 0))) <|
  jn_cons (⟨jn_getf_ok (ci := 6) (k := 7) (i := 38) (N := 11) (C := RX6) (T := TX6) (by decide +kernel) rfl (by decide) jn_u6 (jn_in 176 (by decide +kernel) rfl), jn_getf_mo 6 7⟩ : jn_GEm jn_G0 jn_me60 34 (.inl (jn_getf 6 7))) <|
  jn_cons (jn_gc_of jn_G0_4 (jn_callV (i := 170) (na := 1) (ci := 0) (q := (RX0, TX0, 2)) (by decide +kernel) rfl (jn_in 480 (by decide +kernel) rfl) (jn_in 477 (by decide +kernel) rfl) (jn_in 478 (by decide +kernel) rfl) (jn_in 479 (by decide +kernel) rfl) (jn_in 63 (by decide +kernel) rfl) ⟨by decide, by decide, by decide +kernel⟩) : jn_GEm jn_G0 jn_me60 37 (.inr (.inl (4, 2, 2)))) <|
  jn_cons (⟨jn_iconst_ok (by decide +kernel), jn_iconst_mo 0⟩ : jn_GEm jn_G0 jn_me60 40 (.inl (jn_iconst 0))) <|
  jn_cons (⟨jn_istore_ok (i := 4) (by decide +kernel), jn_istore_mo 4⟩ : jn_GEm jn_G0 jn_me60 41 (.inl (jn_istore 4))) <|
  jn_cons (⟨jn_iload_ok (i := 4) (by decide +kernel), jn_iload_mo 4⟩ : jn_GEm jn_G0 jn_me60 43 (.inl (jn_iload 4))) <| jn_nil
theorem jn_o60_1 : ∀ q ∈ jn_c60_1, jn_GEm jn_G0 jn_me60 q.1 q.2 :=
  jn_cons (⟨jn_aload_n_ok (i := 3) (k := 3) (by decide +kernel) rfl, jn_aload_n_mo 3⟩ : jn_GEm jn_G0 jn_me60 45 (.inl (jn_aload_n 3))) <|
  jn_cons (⟨jn_getf_ok (ci := 0) (k := 0) (i := 157) (N := 2) (C := RX0) (T := TX0) (by decide +kernel) rfl (by decide) jn_u0 (jn_in 429 (by decide +kernel) rfl), jn_getf_mo 0 0⟩ : jn_GEm jn_G0 jn_me60 46 (.inl (jn_getf 0 0))) <|
  jn_cons (⟨jn_getf_ok (ci := 2) (k := 1) (i := 97) (N := 3) (C := RX2) (T := TX2) (by decide +kernel) rfl (by decide) jn_u2 (jn_in 106 (by decide +kernel) rfl), jn_getf_mo 2 1⟩ : jn_GEm jn_G0 jn_me60 49 (.inl (jn_getf 2 1))) <|
  jn_cons (⟨jn_icge_ok (t := 84) (off := 32) (by decide +kernel) (by decide), jn_icge_mo 84⟩ : jn_GEm jn_G0 jn_me60 52 (.inl (jn_icge 84))) <|
  jn_cons (⟨jn_iload_n_ok (i := 2) (k := 2) (by decide +kernel) rfl, jn_iload_n_mo 2⟩ : jn_GEm jn_G0 jn_me60 55 (.inl (jn_iload_n 2))) <|
  jn_cons (⟨jn_iload_ok (i := 4) (by decide +kernel), jn_iload_mo 4⟩ : jn_GEm jn_G0 jn_me60 56 (.inl (jn_iload 4))) <|
  jn_cons (⟨jn_ishr_ok (by decide +kernel), jn_ishr_mo⟩ : jn_GEm jn_G0 jn_me60 58 (.inl jn_ishr)) <|
  jn_cons (⟨jn_iconst_ok (by decide +kernel), jn_iconst_mo 1⟩ : jn_GEm jn_G0 jn_me60 59 (.inl (jn_iconst 1))) <|
  jn_cons (⟨jn_iand_ok (by decide +kernel), jn_iand_mo⟩ : jn_GEm jn_G0 jn_me60 60 (.inl jn_iand)) <|
  jn_cons (⟨jn_ifeq_ok (t := 78) (off := 17) (by decide +kernel) (by decide), jn_ifeq_mo 78⟩ : jn_GEm jn_G0 jn_me60 61 (.inl (jn_ifeq 78))) <|
  jn_cons (⟨jn_aload_n_ok (i := 3) (k := 3) (by decide +kernel) rfl, jn_aload_n_mo 3⟩ : jn_GEm jn_G0 jn_me60 64 (.inl (jn_aload_n 3))) <|
  jn_cons (⟨jn_getf_ok (ci := 0) (k := 0) (i := 157) (N := 2) (C := RX0) (T := TX0) (by decide +kernel) rfl (by decide) jn_u0 (jn_in 429 (by decide +kernel) rfl), jn_getf_mo 0 0⟩ : jn_GEm jn_G0 jn_me60 65 (.inl (jn_getf 0 0))) <|
  jn_cons (⟨jn_aload_n_ok (i := 0) (k := 0) (by decide +kernel) rfl, jn_aload_n_mo 0⟩ : jn_GEm jn_G0 jn_me60 68 (.inl (jn_aload_n 0))) <|
  jn_cons (⟨jn_getf_ok (ci := 6) (k := 7) (i := 38) (N := 11) (C := RX6) (T := TX6) (by decide +kernel) rfl (by decide) jn_u6 (jn_in 176 (by decide +kernel) rfl), jn_getf_mo 6 7⟩ : jn_GEm jn_G0 jn_me60 69 (.inl (jn_getf 6 7))) <|
  jn_cons (⟨jn_iload_ok (i := 4) (by decide +kernel), jn_iload_mo 4⟩ : jn_GEm jn_G0 jn_me60 72 (.inl (jn_iload 4))) <|
  jn_cons (⟨jn_iconst_ok (by decide +kernel), jn_iconst_mo 1⟩ : jn_GEm jn_G0 jn_me60 74 (.inl (jn_iconst 1))) <|
  jn_cons (jn_gc_of jn_G0_23 (jn_callV (i := 174) (na := 3) (ci := 2) (q := (RX2, TX2, 3)) (by decide +kernel) rfl (jn_in 395 (by decide +kernel) rfl) (jn_in 481 (by decide +kernel) rfl) (jn_in 393 (by decide +kernel) rfl) (jn_in 394 (by decide +kernel) rfl) (jn_in 57 (by decide +kernel) rfl) ⟨by decide, by decide, by decide +kernel⟩) : jn_GEm jn_G0 jn_me60 75 (.inr (.inl (23, 4, 4)))) <|
  jn_cons (⟨jn_iinc_ok (i := 4) (n := 1) (by decide +kernel), jn_iinc_mo 4 1⟩ : jn_GEm jn_G0 jn_me60 78 (.inl (jn_iinc 4 1))) <|
  jn_cons (⟨jn_goto_ok (t := 43) (off := -38) (by decide +kernel) (by decide), jn_goto_mo 43⟩ : jn_GEm jn_G0 jn_me60 81 (.inl (jn_goto 43))) <|
  jn_cons (⟨jn_aload_n_ok (i := 0) (k := 0) (by decide +kernel) rfl, jn_aload_n_mo 0⟩ : jn_GEm jn_G0 jn_me60 84 (.inl (jn_aload_n 0))) <|
  jn_cons (jn_gc_of jn_G0_91 (jn_callV (i := 178) (na := 0) (ci := 6) (q := (RX6, TX6, 11)) (by decide +kernel) rfl (jn_in 485 (by decide +kernel) rfl) (jn_in 482 (by decide +kernel) rfl) (jn_in 484 (by decide +kernel) rfl) (jn_in 16 (by decide +kernel) rfl) (jn_in 54 (by decide +kernel) rfl) ⟨by decide, by decide, by decide +kernel⟩) : jn_GEm jn_G0 jn_me60 85 (.inr (.inl (91, 8, 1)))) <|
  jn_cons (⟨jn_ifne_ok (t := 98) (off := 10) (by decide +kernel) (by decide), jn_ifne_mo 98⟩ : jn_GEm jn_G0 jn_me60 88 (.inl (jn_ifne 98))) <|
  jn_cons (⟨jn_aload_n_ok (i := 0) (k := 0) (by decide +kernel) rfl, jn_aload_n_mo 0⟩ : jn_GEm jn_G0 jn_me60 91 (.inl (jn_aload_n 0))) <|
  jn_cons (⟨jn_bipush_ok (n := (-8)) (v := (-8)) (by decide +kernel) (by decide), jn_bipush_mo (-8)⟩ : jn_GEm jn_G0 jn_me60 92 (.inl (jn_bipush (-8)))) <| jn_nil
theorem jn_o60_2 : ∀ q ∈ jn_c60_2, jn_GEm jn_G0 jn_me60 q.1 q.2 :=
  jn_cons (jn_gc_of jn_G0_80 (jn_callV (i := 66) (na := 1) (ci := 6) (q := (RX6, TX6, 11)) (by decide +kernel) rfl (jn_in 210 (by decide +kernel) rfl) (jn_in 207 (by decide +kernel) rfl) (jn_in 209 (by decide +kernel) rfl) (jn_in 0 (by decide +kernel) rfl) (jn_in 54 (by decide +kernel) rfl) ⟨by decide, by decide, by decide +kernel⟩) : jn_GEm jn_G0 jn_me60 94 (.inr (.inl (80, 8, 2)))) <|
  jn_cons (⟨(by decide +kernel), rfl⟩ : jn_GEm jn_G0 jn_me60 97 (.inr (.inr 1))) <|
  jn_cons (⟨jn_aload_n_ok (i := 3) (k := 3) (by decide +kernel) rfl, jn_aload_n_mo 3⟩ : jn_GEm jn_G0 jn_me60 98 (.inl (jn_aload_n 3))) <|
  jn_cons (⟨jn_aload_n_ok (i := 0) (k := 0) (by decide +kernel) rfl, jn_aload_n_mo 0⟩ : jn_GEm jn_G0 jn_me60 99 (.inl (jn_aload_n 0))) <|
  jn_cons (⟨jn_getf_ok (ci := 6) (k := 7) (i := 38) (N := 11) (C := RX6) (T := TX6) (by decide +kernel) rfl (by decide) jn_u6 (jn_in 176 (by decide +kernel) rfl), jn_getf_mo 6 7⟩ : jn_GEm jn_G0 jn_me60 100 (.inl (jn_getf 6 7))) <|
  jn_cons (jn_gc_of jn_G0_5 (jn_callV (i := 181) (na := 1) (ci := 0) (q := (RX0, TX0, 2)) (by decide +kernel) rfl (jn_in 441 (by decide +kernel) rfl) (jn_in 438 (by decide +kernel) rfl) (jn_in 439 (by decide +kernel) rfl) (jn_in 440 (by decide +kernel) rfl) (jn_in 63 (by decide +kernel) rfl) ⟨by decide, by decide, by decide +kernel⟩) : jn_GEm jn_G0 jn_me60 103 (.inr (.inl (5, 2, 2)))) <|
  jn_cons (⟨(by decide +kernel), rfl⟩ : jn_GEm jn_G0 jn_me60 106 (.inr (.inr 1))) <| jn_nil
theorem jn_ok60 : jn_GM jn_G0 60 := jn_GM_of jn_G0_60 rfl rfl (by decide +kernel) (by decide) (jn_appd jn_o60_0 (jn_appd jn_o60_1 (jn_o60_2)))
theorem jn_o61_0 : ∀ q ∈ jn_c61_0, jn_GEm jn_G0 jn_me61 q.1 q.2 :=
  jn_cons (⟨jn_aload_n_ok (i := 0) (k := 0) (by decide +kernel) rfl, jn_aload_n_mo 0⟩ : jn_GEm jn_G0 jn_me61 0 (.inl (jn_aload_n 0))) <|
  jn_cons (⟨jn_iload_n_ok (i := 1) (k := 1) (by decide +kernel) rfl, jn_iload_n_mo 1⟩ : jn_GEm jn_G0 jn_me61 1 (.inl (jn_iload_n 1))) <|
  jn_cons (jn_gc_of jn_G0_82 (jn_callV (i := 73) (na := 1) (ci := 6) (q := (RX6, TX6, 11)) (by decide +kernel) rfl (jn_in 219 (by decide +kernel) rfl) (jn_in 216 (by decide +kernel) rfl) (jn_in 218 (by decide +kernel) rfl) (jn_in 1 (by decide +kernel) rfl) (jn_in 54 (by decide +kernel) rfl) ⟨by decide, by decide, by decide +kernel⟩) : jn_GEm jn_G0 jn_me61 2 (.inr (.inl (82, 8, 2)))) <|
  jn_cons (⟨jn_astore_n_ok (i := 2) (k := 2) (by decide +kernel) rfl, jn_astore_n_mo 2⟩ : jn_GEm jn_G0 jn_me61 5 (.inl (jn_astore_n 2))) <|
  jn_cons (⟨jn_aload_n_ok (i := 2) (k := 2) (by decide +kernel) rfl, jn_aload_n_mo 2⟩ : jn_GEm jn_G0 jn_me61 6 (.inl (jn_aload_n 2))) <|
  jn_cons (⟨jn_ifnonnull_ok (t := 17) (off := 10) (by decide +kernel) (by decide), jn_ifnonnull_mo 17⟩ : jn_GEm jn_G0 jn_me61 7 (.inl (jn_ifnonnull 17))) <|
  jn_cons (⟨jn_aload_n_ok (i := 0) (k := 0) (by decide +kernel) rfl, jn_aload_n_mo 0⟩ : jn_GEm jn_G0 jn_me61 10 (.inl (jn_aload_n 0))) <|
  jn_cons (⟨jn_bipush_ok (n := (-3)) (v := (-3)) (by decide +kernel) (by decide), jn_bipush_mo (-3)⟩ : jn_GEm jn_G0 jn_me61 11 (.inl (jn_bipush (-3)))) <|
  jn_cons (jn_gc_of jn_G0_80 (jn_callV (i := 66) (na := 1) (ci := 6) (q := (RX6, TX6, 11)) (by decide +kernel) rfl (jn_in 210 (by decide +kernel) rfl) (jn_in 207 (by decide +kernel) rfl) (jn_in 209 (by decide +kernel) rfl) (jn_in 0 (by decide +kernel) rfl) (jn_in 54 (by decide +kernel) rfl) ⟨by decide, by decide, by decide +kernel⟩) : jn_GEm jn_G0 jn_me61 13 (.inr (.inl (80, 8, 2)))) <|
  jn_cons (⟨(by decide +kernel), rfl⟩ : jn_GEm jn_G0 jn_me61 16 (.inr (.inr 1))) <|
  jn_cons (⟨jn_aload_n_ok (i := 0) (k := 0) (by decide +kernel) rfl, jn_aload_n_mo 0⟩ : jn_GEm jn_G0 jn_me61 17 (.inl (jn_aload_n 0))) <|
  jn_cons (jn_gc_of jn_G0_89 (jn_callV (i := 147) (na := 0) (ci := 6) (q := (RX6, TX6, 11)) (by decide +kernel) rfl (jn_in 417 (by decide +kernel) rfl) (jn_in 414 (by decide +kernel) rfl) (jn_in 416 (by decide +kernel) rfl) (jn_in 14 (by decide +kernel) rfl) (jn_in 54 (by decide +kernel) rfl) ⟨by decide, by decide, by decide +kernel⟩) : jn_GEm jn_G0 jn_me61 18 (.inr (.inl (89, 8, 1)))) <|
  jn_cons (⟨jn_iconst_ok (by decide +kernel), jn_iconst_mo 0⟩ : jn_GEm jn_G0 jn_me61 21 (.inl (jn_iconst 0))) <|
  jn_cons (⟨jn_istore_n_ok (i := 3) (k := 3) (by decide +kernel) rfl, jn_istore_n_mo 3⟩ : jn_GEm jn_G0 jn_me61 22 (.inl (jn_istore_n 3))) <|
  jn_cons (⟨jn_iload_n_ok (i := 3) (k := 3) (by decide +kernel) rfl, jn_iload_n_mo 3⟩ : jn_GEm jn_G0 jn_me61 23 (.inl (jn_iload_n 3))) <|
  jn_cons (⟨jn_aload_n_ok (i := 2) (k := 2) (by decide +kernel) rfl, jn_aload_n_mo 2⟩ : jn_GEm jn_G0 jn_me61 24 (.inl (jn_aload_n 2))) <|
  jn_cons (⟨jn_getf_ok (ci := 2) (k := 1) (i := 97) (N := 3) (C := RX2) (T := TX2) (by decide +kernel) rfl (by decide) jn_u2 (jn_in 106 (by decide +kernel) rfl), jn_getf_mo 2 1⟩ : jn_GEm jn_G0 jn_me61 25 (.inl (jn_getf 2 1))) <|
  jn_cons (⟨jn_icge_ok (t := 50) (off := 22) (by decide +kernel) (by decide), jn_icge_mo 50⟩ : jn_GEm jn_G0 jn_me61 28 (.inl (jn_icge 50))) <|
  jn_cons (⟨jn_aload_n_ok (i := 0) (k := 0) (by decide +kernel) rfl, jn_aload_n_mo 0⟩ : jn_GEm jn_G0 jn_me61 31 (.inl (jn_aload_n 0))) <|
  jn_cons (⟨jn_getf_ok (ci := 6) (k := 7) (i := 38) (N := 11) (C := RX6) (T := TX6) (by decide +kernel) rfl (by decide) jn_u6 (jn_in 176 (by decide +kernel) rfl), jn_getf_mo 6 7⟩ : jn_GEm jn_G0 jn_me61 32 (.inl (jn_getf 6 7))) <|
  jn_cons (⟨jn_iload_n_ok (i := 3) (k := 3) (by decide +kernel) rfl, jn_iload_n_mo 3⟩ : jn_GEm jn_G0 jn_me61 35 (.inl (jn_iload_n 3))) <|
  jn_cons (⟨jn_aload_n_ok (i := 2) (k := 2) (by decide +kernel) rfl, jn_aload_n_mo 2⟩ : jn_GEm jn_G0 jn_me61 36 (.inl (jn_aload_n 2))) <|
  jn_cons (⟨jn_iload_n_ok (i := 3) (k := 3) (by decide +kernel) rfl, jn_iload_n_mo 3⟩ : jn_GEm jn_G0 jn_me61 37 (.inl (jn_iload_n 3))) <|
  jn_cons (jn_gc_of jn_G0_16 (jn_callV (i := 110) (na := 1) (ci := 2) (q := (RX2, TX2, 3)) (by decide +kernel) rfl (jn_in 271 (by decide +kernel) rfl) (jn_in 283 (by decide +kernel) rfl) (jn_in 269 (by decide +kernel) rfl) (jn_in 270 (by decide +kernel) rfl) (jn_in 57 (by decide +kernel) rfl) ⟨by decide, by decide, by decide +kernel⟩) : jn_GEm jn_G0 jn_me61 38 (.inr (.inl (16, 4, 2)))) <| jn_nil
theorem jn_o61_1 : ∀ q ∈ jn_c61_1, jn_GEm jn_G0 jn_me61 q.1 q.2 :=
  jn_cons (⟨jn_iconst_ok (by decide +kernel), jn_iconst_mo 2⟩ : jn_GEm jn_G0 jn_me61 41 (.inl (jn_iconst 2))) <|
  jn_cons (⟨jn_isub_ok (by decide +kernel), jn_isub_mo⟩ : jn_GEm jn_G0 jn_me61 42 (.inl jn_isub)) <|
  jn_cons (⟨jn_iastore_ok (by decide +kernel), jn_iastore_mo⟩ : jn_GEm jn_G0 jn_me61 43 (.inl jn_iastore)) <|
  jn_cons (⟨jn_iinc_ok (i := 3) (n := 1) (by decide +kernel), jn_iinc_mo 3 1⟩ : jn_GEm jn_G0 jn_me61 44 (.inl (jn_iinc 3 1))) <|
  jn_cons (⟨jn_goto_ok (t := 23) (off := -24) (by decide +kernel) (by decide), jn_goto_mo 23⟩ : jn_GEm jn_G0 jn_me61 47 (.inl (jn_goto 23))) <|
  jn_cons (⟨jn_aload_n_ok (i := 0) (k := 0) (by decide +kernel) rfl, jn_aload_n_mo 0⟩ : jn_GEm jn_G0 jn_me61 50 (.inl (jn_aload_n 0))) <|
  jn_cons (⟨jn_aload_n_ok (i := 2) (k := 2) (by decide +kernel) rfl, jn_aload_n_mo 2⟩ : jn_GEm jn_G0 jn_me61 51 (.inl (jn_aload_n 2))) <|
  jn_cons (jn_gc_of jn_G0_88 (jn_callV (i := 150) (na := 1) (ci := 6) (q := (RX6, TX6, 11)) (by decide +kernel) rfl (jn_in 421 (by decide +kernel) rfl) (jn_in 418 (by decide +kernel) rfl) (jn_in 420 (by decide +kernel) rfl) (jn_in 15 (by decide +kernel) rfl) (jn_in 54 (by decide +kernel) rfl) ⟨by decide, by decide, by decide +kernel⟩) : jn_GEm jn_G0 jn_me61 52 (.inr (.inl (88, 8, 2)))) <|
  jn_cons (⟨(by decide +kernel), rfl⟩ : jn_GEm jn_G0 jn_me61 55 (.inr (.inr 1))) <| jn_nil
theorem jn_ok61 : jn_GM jn_G0 61 := jn_GM_of jn_G0_61 rfl rfl (by decide +kernel) (by decide) (jn_appd jn_o61_0 (jn_o61_1))
theorem jn_o62_0 : ∀ q ∈ jn_c62_0, jn_GEm jn_G0 jn_me62 q.1 q.2 :=
  jn_cons (⟨jn_aload_n_ok (i := 0) (k := 0) (by decide +kernel) rfl, jn_aload_n_mo 0⟩ : jn_GEm jn_G0 jn_me62 0 (.inl (jn_aload_n 0))) <|
  jn_cons (⟨jn_iload_n_ok (i := 1) (k := 1) (by decide +kernel) rfl, jn_iload_n_mo 1⟩ : jn_GEm jn_G0 jn_me62 1 (.inl (jn_iload_n 1))) <|
  jn_cons (jn_gc_of jn_G0_83 (jn_callV (i := 153) (na := 1) (ci := 6) (q := (RX6, TX6, 11)) (by decide +kernel) rfl (jn_in 231 (by decide +kernel) rfl) (jn_in 228 (by decide +kernel) rfl) (jn_in 230 (by decide +kernel) rfl) (jn_in 3 (by decide +kernel) rfl) (jn_in 54 (by decide +kernel) rfl) ⟨by decide, by decide, by decide +kernel⟩) : jn_GEm jn_G0 jn_me62 2 (.inr (.inl (83, 8, 2)))) <|
  jn_cons (⟨jn_astore_ok (i := 4) (by decide +kernel), jn_astore_mo 4⟩ : jn_GEm jn_G0 jn_me62 5 (.inl (jn_astore 4))) <|
  jn_cons (⟨jn_aload_n_ok (i := 0) (k := 0) (by decide +kernel) rfl, jn_aload_n_mo 0⟩ : jn_GEm jn_G0 jn_me62 7 (.inl (jn_aload_n 0))) <|
  jn_cons (⟨jn_iload_n_ok (i := 2) (k := 2) (by decide +kernel) rfl, jn_iload_n_mo 2⟩ : jn_GEm jn_G0 jn_me62 8 (.inl (jn_iload_n 2))) <|
  jn_cons (jn_gc_of jn_G0_83 (jn_callV (i := 153) (na := 1) (ci := 6) (q := (RX6, TX6, 11)) (by decide +kernel) rfl (jn_in 231 (by decide +kernel) rfl) (jn_in 228 (by decide +kernel) rfl) (jn_in 230 (by decide +kernel) rfl) (jn_in 3 (by decide +kernel) rfl) (jn_in 54 (by decide +kernel) rfl) ⟨by decide, by decide, by decide +kernel⟩) : jn_GEm jn_G0 jn_me62 9 (.inr (.inl (83, 8, 2)))) <|
  jn_cons (⟨jn_astore_ok (i := 5) (by decide +kernel), jn_astore_mo 5⟩ : jn_GEm jn_G0 jn_me62 12 (.inl (jn_astore 5))) <|
  jn_cons (⟨jn_aload_ok (i := 4) (by decide +kernel), jn_aload_mo 4⟩ : jn_GEm jn_G0 jn_me62 14 (.inl (jn_aload 4))) <|
  jn_cons (⟨jn_ifnull_ok (t := 24) (off := 8) (by decide +kernel) (by decide), jn_ifnull_mo 24⟩ : jn_GEm jn_G0 jn_me62 16 (.inl (jn_ifnull 24))) <|
  jn_cons (⟨jn_aload_ok (i := 5) (by decide +kernel), jn_aload_mo 5⟩ : jn_GEm jn_G0 jn_me62 19 (.inl (jn_aload 5))) <|
  jn_cons (⟨jn_ifnonnull_ok (t := 31) (off := 10) (by decide +kernel) (by decide), jn_ifnonnull_mo 31⟩ : jn_GEm jn_G0 jn_me62 21 (.inl (jn_ifnonnull 31))) <|
  jn_cons (⟨jn_aload_n_ok (i := 0) (k := 0) (by decide +kernel) rfl, jn_aload_n_mo 0⟩ : jn_GEm jn_G0 jn_me62 24 (.inl (jn_aload_n 0))) <|
  jn_cons (⟨jn_bipush_ok (n := (-3)) (v := (-3)) (by decide +kernel) (by decide), jn_bipush_mo (-3)⟩ : jn_GEm jn_G0 jn_me62 25 (.inl (jn_bipush (-3)))) <|
  jn_cons (jn_gc_of jn_G0_80 (jn_callV (i := 66) (na := 1) (ci := 6) (q := (RX6, TX6, 11)) (by decide +kernel) rfl (jn_in 210 (by decide +kernel) rfl) (jn_in 207 (by decide +kernel) rfl) (jn_in 209 (by decide +kernel) rfl) (jn_in 0 (by decide +kernel) rfl) (jn_in 54 (by decide +kernel) rfl) ⟨by decide, by decide, by decide +kernel⟩) : jn_GEm jn_G0 jn_me62 27 (.inr (.inl (80, 8, 2)))) <|
  jn_cons (⟨(by decide +kernel), rfl⟩ : jn_GEm jn_G0 jn_me62 30 (.inr (.inr 1))) <|
  jn_cons (⟨jn_aload_ok (i := 4) (by decide +kernel), jn_aload_mo 4⟩ : jn_GEm jn_G0 jn_me62 31 (.inl (jn_aload 4))) <|
  jn_cons (⟨jn_getf_ok (ci := 0) (k := 0) (i := 157) (N := 2) (C := RX0) (T := TX0) (by decide +kernel) rfl (by decide) jn_u0 (jn_in 429 (by decide +kernel) rfl), jn_getf_mo 0 0⟩ : jn_GEm jn_G0 jn_me62 33 (.inl (jn_getf 0 0))) <|
  jn_cons (⟨jn_getf_ok (ci := 2) (k := 0) (i := 185) (N := 3) (C := RX2) (T := TX2) (by decide +kernel) rfl (by decide) jn_u2 (jn_in 102 (by decide +kernel) rfl), jn_getf_mo 2 0⟩ : jn_GEm jn_G0 jn_me62 36 (.inl (jn_getf 2 0))) <|
  jn_cons (⟨jn_aload_ok (i := 5) (by decide +kernel), jn_aload_mo 5⟩ : jn_GEm jn_G0 jn_me62 39 (.inl (jn_aload 5))) <|
  jn_cons (⟨jn_getf_ok (ci := 0) (k := 0) (i := 157) (N := 2) (C := RX0) (T := TX0) (by decide +kernel) rfl (by decide) jn_u0 (jn_in 429 (by decide +kernel) rfl), jn_getf_mo 0 0⟩ : jn_GEm jn_G0 jn_me62 41 (.inl (jn_getf 0 0))) <|
  jn_cons (⟨jn_getf_ok (ci := 2) (k := 0) (i := 185) (N := 3) (C := RX2) (T := TX2) (by decide +kernel) rfl (by decide) jn_u2 (jn_in 102 (by decide +kernel) rfl), jn_getf_mo 2 0⟩ : jn_GEm jn_G0 jn_me62 44 (.inl (jn_getf 2 0))) <|
  jn_cons (⟨jn_iceq_ok (t := 57) (off := 10) (by decide +kernel) (by decide), jn_iceq_mo 57⟩ : jn_GEm jn_G0 jn_me62 47 (.inl (jn_iceq 57))) <|
  jn_cons (⟨jn_aload_n_ok (i := 0) (k := 0) (by decide +kernel) rfl, jn_aload_n_mo 0⟩ : jn_GEm jn_G0 jn_me62 50 (.inl (jn_aload_n 0))) <| jn_nil
theorem jn_o62_1 : ∀ q ∈ jn_c62_1, jn_GEm jn_G0 jn_me62 q.1 q.2 :=
  jn_cons (⟨jn_bipush_ok (n := (-7)) (v := (-7)) (by decide +kernel) (by decide), jn_bipush_mo (-7)⟩ : jn_GEm jn_G0 jn_me62 51 (.inl (jn_bipush (-7)))) <|
  jn_cons (jn_gc_of jn_G0_80 (jn_callV (i := 66) (na := 1) (ci := 6) (q := (RX6, TX6, 11)) (by decide +kernel) rfl (jn_in 210 (by decide +kernel) rfl) (jn_in 207 (by decide +kernel) rfl) (jn_in 209 (by decide +kernel) rfl) (jn_in 0 (by decide +kernel) rfl) (jn_in 54 (by decide +kernel) rfl) ⟨by decide, by decide, by decide +kernel⟩) : jn_GEm jn_G0 jn_me62 53 (.inr (.inl (80, 8, 2)))) <|
  jn_cons (⟨(by decide +kernel), rfl⟩ : jn_GEm jn_G0 jn_me62 56 (.inr (.inr 1))) <|
  jn_cons (⟨jn_aload_n_ok (i := 0) (k := 0) (by decide +kernel) rfl, jn_aload_n_mo 0⟩ : jn_GEm jn_G0 jn_me62 57 (.inl (jn_aload_n 0))) <|
  jn_cons (⟨jn_aload_ok (i := 4) (by decide +kernel), jn_aload_mo 4⟩ : jn_GEm jn_G0 jn_me62 58 (.inl (jn_aload 4))) <|
  jn_cons (⟨jn_aload_ok (i := 5) (by decide +kernel), jn_aload_mo 5⟩ : jn_GEm jn_G0 jn_me62 60 (.inl (jn_aload 5))) <|
  jn_cons (⟨jn_iload_n_ok (i := 3) (k := 3) (by decide +kernel) rfl, jn_iload_n_mo 3⟩ : jn_GEm jn_G0 jn_me62 62 (.inl (jn_iload_n 3))) <|
  jn_cons (⟨jn_ifeq_ok (t := 70) (off := 7) (by decide +kernel) (by decide), jn_ifeq_mo 70⟩ : jn_GEm jn_G0 jn_me62 63 (.inl (jn_ifeq 70))) <|
  jn_cons (⟨jn_iconst_ok (by decide +kernel), jn_iconst_mo (-1)⟩ : jn_GEm jn_G0 jn_me62 66 (.inl (jn_iconst (-1)))) <|
  jn_cons (⟨jn_goto_ok (t := 71) (off := 4) (by decide +kernel) (by decide), jn_goto_mo 71⟩ : jn_GEm jn_G0 jn_me62 67 (.inl (jn_goto 71))) <|
  jn_cons (⟨jn_iconst_ok (by decide +kernel), jn_iconst_mo 1⟩ : jn_GEm jn_G0 jn_me62 70 (.inl (jn_iconst 1))) <|
  jn_cons (jn_gc_of jn_G0_90 (jn_callV (i := 188) (na := 3) (ci := 6) (q := (RX6, TX6, 11)) (by decide +kernel) rfl (jn_in 503 (by decide +kernel) rfl) (jn_in 500 (by decide +kernel) rfl) (jn_in 502 (by decide +kernel) rfl) (jn_in 17 (by decide +kernel) rfl) (jn_in 54 (by decide +kernel) rfl) ⟨by decide, by decide, by decide +kernel⟩) : jn_GEm jn_G0 jn_me62 71 (.inr (.inl (90, 8, 4)))) <|
  jn_cons (⟨jn_aload_n_ok (i := 0) (k := 0) (by decide +kernel) rfl, jn_aload_n_mo 0⟩ : jn_GEm jn_G0 jn_me62 74 (.inl (jn_aload_n 0))) <|
  jn_cons (jn_gc_of jn_G0_91 (jn_callV (i := 178) (na := 0) (ci := 6) (q := (RX6, TX6, 11)) (by decide +kernel) rfl (jn_in 485 (by decide +kernel) rfl) (jn_in 482 (by decide +kernel) rfl) (jn_in 484 (by decide +kernel) rfl) (jn_in 16 (by decide +kernel) rfl) (jn_in 54 (by decide +kernel) rfl) ⟨by decide, by decide, by decide +kernel⟩) : jn_GEm jn_G0 jn_me62 75 (.inr (.inl (91, 8, 1)))) <|
  jn_cons (⟨jn_ifne_ok (t := 88) (off := 10) (by decide +kernel) (by decide), jn_ifne_mo 88⟩ : jn_GEm jn_G0 jn_me62 78 (.inl (jn_ifne 88))) <|
  jn_cons (⟨jn_aload_n_ok (i := 0) (k := 0) (by decide +kernel) rfl, jn_aload_n_mo 0⟩ : jn_GEm jn_G0 jn_me62 81 (.inl (jn_aload_n 0))) <|
  jn_cons (⟨jn_bipush_ok (n := (-8)) (v := (-8)) (by decide +kernel) (by decide), jn_bipush_mo (-8)⟩ : jn_GEm jn_G0 jn_me62 82 (.inl (jn_bipush (-8)))) <|
  jn_cons (jn_gc_of jn_G0_80 (jn_callV (i := 66) (na := 1) (ci := 6) (q := (RX6, TX6, 11)) (by decide +kernel) rfl (jn_in 210 (by decide +kernel) rfl) (jn_in 207 (by decide +kernel) rfl) (jn_in 209 (by decide +kernel) rfl) (jn_in 0 (by decide +kernel) rfl) (jn_in 54 (by decide +kernel) rfl) ⟨by decide, by decide, by decide +kernel⟩) : jn_GEm jn_G0 jn_me62 84 (.inr (.inl (80, 8, 2)))) <|
  jn_cons (⟨(by decide +kernel), rfl⟩ : jn_GEm jn_G0 jn_me62 87 (.inr (.inr 1))) <|
  jn_cons (⟨jn_aload_n_ok (i := 0) (k := 0) (by decide +kernel) rfl, jn_aload_n_mo 0⟩ : jn_GEm jn_G0 jn_me62 88 (.inl (jn_aload_n 0))) <|
  jn_cons (⟨jn_aload_ok (i := 4) (by decide +kernel), jn_aload_mo 4⟩ : jn_GEm jn_G0 jn_me62 89 (.inl (jn_aload 4))) <|
  jn_cons (⟨jn_getf_ok (ci := 0) (k := 0) (i := 157) (N := 2) (C := RX0) (T := TX0) (by decide +kernel) rfl (by decide) jn_u0 (jn_in 429 (by decide +kernel) rfl), jn_getf_mo 0 0⟩ : jn_GEm jn_G0 jn_me62 91 (.inl (jn_getf 0 0))) <|
  jn_cons (jn_gc_of jn_G0_88 (jn_callV (i := 150) (na := 1) (ci := 6) (q := (RX6, TX6, 11)) (by decide +kernel) rfl (jn_in 421 (by decide +kernel) rfl) (jn_in 418 (by decide +kernel) rfl) (jn_in 420 (by decide +kernel) rfl) (jn_in 15 (by decide +kernel) rfl) (jn_in 54 (by decide +kernel) rfl) ⟨by decide, by decide, by decide +kernel⟩) : jn_GEm jn_G0 jn_me62 94 (.inr (.inl (88, 8, 2)))) <|
  jn_cons (⟨(by decide +kernel), rfl⟩ : jn_GEm jn_G0 jn_me62 97 (.inr (.inr 1))) <| jn_nil
theorem jn_ok62 : jn_GM jn_G0 62 := jn_GM_of jn_G0_62 rfl rfl (by decide +kernel) (by decide) (jn_appd jn_o62_0 (jn_o62_1))
theorem jn_o63_0 : ∀ q ∈ jn_c63_0, jn_GEm jn_G0 jn_me63 q.1 q.2 :=
  jn_cons (⟨jn_aload_n_ok (i := 0) (k := 0) (by decide +kernel) rfl, jn_aload_n_mo 0⟩ : jn_GEm jn_G0 jn_me63 0 (.inl (jn_aload_n 0))) <|
  jn_cons (⟨jn_getf_ok (ci := 6) (k := 3) (i := 25) (N := 11) (C := RX6) (T := TX6) (by decide +kernel) rfl (by decide) jn_u6 (jn_in 172 (by decide +kernel) rfl), jn_getf_mo 6 3⟩ : jn_GEm jn_G0 jn_me63 1 (.inl (jn_getf 6 3))) <|
  jn_cons (⟨jn_ifgt_ok (t := 14) (off := 10) (by decide +kernel) (by decide), jn_ifgt_mo 14⟩ : jn_GEm jn_G0 jn_me63 4 (.inl (jn_ifgt 14))) <|
  jn_cons (⟨jn_aload_n_ok (i := 0) (k := 0) (by decide +kernel) rfl, jn_aload_n_mo 0⟩ : jn_GEm jn_G0 jn_me63 7 (.inl (jn_aload_n 0))) <|
  jn_cons (⟨jn_bipush_ok (n := (-2)) (v := (-2)) (by decide +kernel) (by decide), jn_bipush_mo (-2)⟩ : jn_GEm jn_G0 jn_me63 8 (.inl (jn_bipush (-2)))) <|
  jn_cons (jn_gc_of jn_G0_80 (jn_callV (i := 66) (na := 1) (ci := 6) (q := (RX6, TX6, 11)) (by decide +kernel) rfl (jn_in 210 (by decide +kernel) rfl) (jn_in 207 (by decide +kernel) rfl) (jn_in 209 (by decide +kernel) rfl) (jn_in 0 (by decide +kernel) rfl) (jn_in 54 (by decide +kernel) rfl) ⟨by decide, by decide, by decide +kernel⟩) : jn_GEm jn_G0 jn_me63 10 (.inr (.inl (80, 8, 2)))) <|
  jn_cons (⟨(by decide +kernel), rfl⟩ : jn_GEm jn_G0 jn_me63 13 (.inr (.inr 1))) <|
  jn_cons (⟨jn_aload_n_ok (i := 0) (k := 0) (by decide +kernel) rfl, jn_aload_n_mo 0⟩ : jn_GEm jn_G0 jn_me63 14 (.inl (jn_aload_n 0))) <|
  jn_cons (⟨jn_dup_ok (by decide +kernel), jn_dup_mo⟩ : jn_GEm jn_G0 jn_me63 15 (.inl jn_dup)) <|
  jn_cons (⟨jn_getf_ok (ci := 6) (k := 3) (i := 25) (N := 11) (C := RX6) (T := TX6) (by decide +kernel) rfl (by decide) jn_u6 (jn_in 172 (by decide +kernel) rfl), jn_getf_mo 6 3⟩ : jn_GEm jn_G0 jn_me63 16 (.inl (jn_getf 6 3))) <|
  jn_cons (⟨jn_iconst_ok (by decide +kernel), jn_iconst_mo 1⟩ : jn_GEm jn_G0 jn_me63 19 (.inl (jn_iconst 1))) <|
  jn_cons (⟨jn_isub_ok (by decide +kernel), jn_isub_mo⟩ : jn_GEm jn_G0 jn_me63 20 (.inl jn_isub)) <|
  jn_cons (⟨jn_putf_ok (ci := 6) (k := 3) (κ := 0) (i := 25) (N := 11) (C := RX6) (T := TX6) (ty0 := tyX6) (ty := .int) (by decide +kernel) rfl (by decide) jn_u6 (jn_in 172 (by decide +kernel) rfl) tyX6_ok nmX6 rfl (by decide +kernel) jn_po_int, jn_putf_mo 6 3 0⟩ : jn_GEm jn_G0 jn_me63 21 (.inl (jn_putf 6 3 0))) <|
  jn_cons (⟨jn_aload_n_ok (i := 0) (k := 0) (by decide +kernel) rfl, jn_aload_n_mo 0⟩ : jn_GEm jn_G0 jn_me63 24 (.inl (jn_aload_n 0))) <|
  jn_cons (⟨jn_getf_ok (ci := 6) (k := 3) (i := 25) (N := 11) (C := RX6) (T := TX6) (by decide +kernel) rfl (by decide) jn_u6 (jn_in 172 (by decide +kernel) rfl), jn_getf_mo 6 3⟩ : jn_GEm jn_G0 jn_me63 25 (.inl (jn_getf 6 3))) <|
  jn_cons (⟨(by decide +kernel), rfl⟩ : jn_GEm jn_G0 jn_me63 28 (.inr (.inr 1))) <| jn_nil
theorem jn_ok63 : jn_GM jn_G0 63 := jn_GM_of jn_G0_63 rfl rfl (by decide +kernel) (by decide) (jn_o63_0)
theorem jn_o64_0 : ∀ q ∈ jn_c64_0, jn_GEm jn_G0 jn_me64 q.1 q.2 :=
  jn_cons (⟨jn_aload_n_ok (i := 0) (k := 0) (by decide +kernel) rfl, jn_aload_n_mo 0⟩ : jn_GEm jn_G0 jn_me64 0 (.inl (jn_aload_n 0))) <|
  jn_cons (⟨jn_iload_n_ok (i := 1) (k := 1) (by decide +kernel) rfl, jn_iload_n_mo 1⟩ : jn_GEm jn_G0 jn_me64 1 (.inl (jn_iload_n 1))) <|
  jn_cons (jn_gc_of jn_G0_83 (jn_callV (i := 153) (na := 1) (ci := 6) (q := (RX6, TX6, 11)) (by decide +kernel) rfl (jn_in 231 (by decide +kernel) rfl) (jn_in 228 (by decide +kernel) rfl) (jn_in 230 (by decide +kernel) rfl) (jn_in 3 (by decide +kernel) rfl) (jn_in 54 (by decide +kernel) rfl) ⟨by decide, by decide, by decide +kernel⟩) : jn_GEm jn_G0 jn_me64 2 (.inr (.inl (83, 8, 2)))) <|
  jn_cons (⟨jn_astore_n_ok (i := 3) (k := 3) (by decide +kernel) rfl, jn_astore_n_mo 3⟩ : jn_GEm jn_G0 jn_me64 5 (.inl (jn_astore_n 3))) <|
  jn_cons (⟨jn_aload_n_ok (i := 3) (k := 3) (by decide +kernel) rfl, jn_aload_n_mo 3⟩ : jn_GEm jn_G0 jn_me64 6 (.inl (jn_aload_n 3))) <|
  jn_cons (⟨jn_ifnull_ok (t := 21) (off := 14) (by decide +kernel) (by decide), jn_ifnull_mo 21⟩ : jn_GEm jn_G0 jn_me64 7 (.inl (jn_ifnull 21))) <|
  jn_cons (⟨jn_aload_n_ok (i := 3) (k := 3) (by decide +kernel) rfl, jn_aload_n_mo 3⟩ : jn_GEm jn_G0 jn_me64 10 (.inl (jn_aload_n 3))) <|
  jn_cons (⟨jn_getf_ok (ci := 0) (k := 0) (i := 157) (N := 2) (C := RX0) (T := TX0) (by decide +kernel) rfl (by decide) jn_u0 (jn_in 429 (by decide +kernel) rfl), jn_getf_mo 0 0⟩ : jn_GEm jn_G0 jn_me64 11 (.inl (jn_getf 0 0))) <|
  jn_cons (⟨jn_iload_n_ok (i := 2) (k := 2) (by decide +kernel) rfl, jn_iload_n_mo 2⟩ : jn_GEm jn_G0 jn_me64 14 (.inl (jn_iload_n 2))) <|
  jn_cons (jn_gc_of jn_G0_12 (jn_callV (i := 77) (na := 1) (ci := 2) (q := (RX2, TX2, 3)) (by decide +kernel) rfl (jn_in 223 (by decide +kernel) rfl) (jn_in 220 (by decide +kernel) rfl) (jn_in 221 (by decide +kernel) rfl) (jn_in 222 (by decide +kernel) rfl) (jn_in 57 (by decide +kernel) rfl) ⟨by decide, by decide, by decide +kernel⟩) : jn_GEm jn_G0 jn_me64 15 (.inr (.inl (12, 4, 2)))) <|
  jn_cons (⟨jn_ifne_ok (t := 28) (off := 10) (by decide +kernel) (by decide), jn_ifne_mo 28⟩ : jn_GEm jn_G0 jn_me64 18 (.inl (jn_ifne 28))) <|
  jn_cons (⟨jn_aload_n_ok (i := 0) (k := 0) (by decide +kernel) rfl, jn_aload_n_mo 0⟩ : jn_GEm jn_G0 jn_me64 21 (.inl (jn_aload_n 0))) <|
  jn_cons (⟨jn_bipush_ok (n := (-3)) (v := (-3)) (by decide +kernel) (by decide), jn_bipush_mo (-3)⟩ : jn_GEm jn_G0 jn_me64 22 (.inl (jn_bipush (-3)))) <|
  jn_cons (jn_gc_of jn_G0_80 (jn_callV (i := 66) (na := 1) (ci := 6) (q := (RX6, TX6, 11)) (by decide +kernel) rfl (jn_in 210 (by decide +kernel) rfl) (jn_in 207 (by decide +kernel) rfl) (jn_in 209 (by decide +kernel) rfl) (jn_in 0 (by decide +kernel) rfl) (jn_in 54 (by decide +kernel) rfl) ⟨by decide, by decide, by decide +kernel⟩) : jn_GEm jn_G0 jn_me64 24 (.inr (.inl (80, 8, 2)))) <|
  jn_cons (⟨(by decide +kernel), rfl⟩ : jn_GEm jn_G0 jn_me64 27 (.inr (.inr 1))) <|
  jn_cons (⟨jn_aload_n_ok (i := 3) (k := 3) (by decide +kernel) rfl, jn_aload_n_mo 3⟩ : jn_GEm jn_G0 jn_me64 28 (.inl (jn_aload_n 3))) <|
  jn_cons (⟨jn_iload_n_ok (i := 2) (k := 2) (by decide +kernel) rfl, jn_iload_n_mo 2⟩ : jn_GEm jn_G0 jn_me64 29 (.inl (jn_iload_n 2))) <|
  jn_cons (jn_gc_of jn_G0_6 (jn_callV (i := 192) (na := 1) (ci := 0) (q := (RX0, TX0, 2)) (by decide +kernel) rfl (jn_in 515 (by decide +kernel) rfl) (jn_in 512 (by decide +kernel) rfl) (jn_in 513 (by decide +kernel) rfl) (jn_in 514 (by decide +kernel) rfl) (jn_in 63 (by decide +kernel) rfl) ⟨by decide, by decide, by decide +kernel⟩) : jn_GEm jn_G0 jn_me64 30 (.inr (.inl (6, 2, 2)))) <|
  jn_cons (⟨(by decide +kernel), rfl⟩ : jn_GEm jn_G0 jn_me64 33 (.inr (.inr 1))) <| jn_nil
theorem jn_ok64 : jn_GM jn_G0 64 := jn_GM_of jn_G0_64 rfl rfl (by decide +kernel) (by decide) (jn_o64_0)
theorem jn_o65_0 : ∀ q ∈ jn_c65_0, jn_GEm jn_G0 jn_me65 q.1 q.2 :=
  jn_cons (⟨jn_aload_n_ok (i := 0) (k := 0) (by decide +kernel) rfl, jn_aload_n_mo 0⟩ : jn_GEm jn_G0 jn_me65 0 (.inl (jn_aload_n 0))) <|
  jn_cons (⟨jn_iload_n_ok (i := 1) (k := 1) (by decide +kernel) rfl, jn_iload_n_mo 1⟩ : jn_GEm jn_G0 jn_me65 1 (.inl (jn_iload_n 1))) <|
  jn_cons (jn_gc_of jn_G0_83 (jn_callV (i := 153) (na := 1) (ci := 6) (q := (RX6, TX6, 11)) (by decide +kernel) rfl (jn_in 231 (by decide +kernel) rfl) (jn_in 228 (by decide +kernel) rfl) (jn_in 230 (by decide +kernel) rfl) (jn_in 3 (by decide +kernel) rfl) (jn_in 54 (by decide +kernel) rfl) ⟨by decide, by decide, by decide +kernel⟩) : jn_GEm jn_G0 jn_me65 2 (.inr (.inl (83, 8, 2)))) <|
  jn_cons (⟨jn_astore_n_ok (i := 3) (k := 3) (by decide +kernel) rfl, jn_astore_n_mo 3⟩ : jn_GEm jn_G0 jn_me65 5 (.inl (jn_astore_n 3))) <|
  jn_cons (⟨jn_aload_n_ok (i := 3) (k := 3) (by decide +kernel) rfl, jn_aload_n_mo 3⟩ : jn_GEm jn_G0 jn_me65 6 (.inl (jn_aload_n 3))) <|
  jn_cons (⟨jn_ifnull_ok (t := 21) (off := 14) (by decide +kernel) (by decide), jn_ifnull_mo 21⟩ : jn_GEm jn_G0 jn_me65 7 (.inl (jn_ifnull 21))) <|
  jn_cons (⟨jn_aload_n_ok (i := 3) (k := 3) (by decide +kernel) rfl, jn_aload_n_mo 3⟩ : jn_GEm jn_G0 jn_me65 10 (.inl (jn_aload_n 3))) <|
  jn_cons (⟨jn_getf_ok (ci := 0) (k := 0) (i := 157) (N := 2) (C := RX0) (T := TX0) (by decide +kernel) rfl (by decide) jn_u0 (jn_in 429 (by decide +kernel) rfl), jn_getf_mo 0 0⟩ : jn_GEm jn_G0 jn_me65 11 (.inl (jn_getf 0 0))) <|
  jn_cons (⟨jn_iload_n_ok (i := 2) (k := 2) (by decide +kernel) rfl, jn_iload_n_mo 2⟩ : jn_GEm jn_G0 jn_me65 14 (.inl (jn_iload_n 2))) <|
  jn_cons (jn_gc_of jn_G0_12 (jn_callV (i := 77) (na := 1) (ci := 2) (q := (RX2, TX2, 3)) (by decide +kernel) rfl (jn_in 223 (by decide +kernel) rfl) (jn_in 220 (by decide +kernel) rfl) (jn_in 221 (by decide +kernel) rfl) (jn_in 222 (by decide +kernel) rfl) (jn_in 57 (by decide +kernel) rfl) ⟨by decide, by decide, by decide +kernel⟩) : jn_GEm jn_G0 jn_me65 15 (.inr (.inl (12, 4, 2)))) <|
  jn_cons (⟨jn_ifne_ok (t := 28) (off := 10) (by decide +kernel) (by decide), jn_ifne_mo 28⟩ : jn_GEm jn_G0 jn_me65 18 (.inl (jn_ifne 28))) <|
  jn_cons (⟨jn_aload_n_ok (i := 0) (k := 0) (by decide +kernel) rfl, jn_aload_n_mo 0⟩ : jn_GEm jn_G0 jn_me65 21 (.inl (jn_aload_n 0))) <|
  jn_cons (⟨jn_bipush_ok (n := (-3)) (v := (-3)) (by decide +kernel) (by decide), jn_bipush_mo (-3)⟩ : jn_GEm jn_G0 jn_me65 22 (.inl (jn_bipush (-3)))) <|
  jn_cons (jn_gc_of jn_G0_80 (jn_callV (i := 66) (na := 1) (ci := 6) (q := (RX6, TX6, 11)) (by decide +kernel) rfl (jn_in 210 (by decide +kernel) rfl) (jn_in 207 (by decide +kernel) rfl) (jn_in 209 (by decide +kernel) rfl) (jn_in 0 (by decide +kernel) rfl) (jn_in 54 (by decide +kernel) rfl) ⟨by decide, by decide, by decide +kernel⟩) : jn_GEm jn_G0 jn_me65 24 (.inr (.inl (80, 8, 2)))) <|
  jn_cons (⟨(by decide +kernel), rfl⟩ : jn_GEm jn_G0 jn_me65 27 (.inr (.inr 1))) <|
  jn_cons (⟨jn_aload_n_ok (i := 3) (k := 3) (by decide +kernel) rfl, jn_aload_n_mo 3⟩ : jn_GEm jn_G0 jn_me65 28 (.inl (jn_aload_n 3))) <|
  jn_cons (⟨jn_getf_ok (ci := 0) (k := 0) (i := 157) (N := 2) (C := RX0) (T := TX0) (by decide +kernel) rfl (by decide) jn_u0 (jn_in 429 (by decide +kernel) rfl), jn_getf_mo 0 0⟩ : jn_GEm jn_G0 jn_me65 29 (.inl (jn_getf 0 0))) <|
  jn_cons (jn_gc_of jn_G0_20 (jn_callV (i := 106) (na := 0) (ci := 2) (q := (RX2, TX2, 3)) (by decide +kernel) rfl (jn_in 251 (by decide +kernel) rfl) (jn_in 278 (by decide +kernel) rfl) (jn_in 249 (by decide +kernel) rfl) (jn_in 250 (by decide +kernel) rfl) (jn_in 57 (by decide +kernel) rfl) ⟨by decide, by decide, by decide +kernel⟩) : jn_GEm jn_G0 jn_me65 32 (.inr (.inl (20, 4, 1)))) <|
  jn_cons (⟨jn_ifne_ok (t := 45) (off := 10) (by decide +kernel) (by decide), jn_ifne_mo 45⟩ : jn_GEm jn_G0 jn_me65 35 (.inl (jn_ifne 45))) <|
  jn_cons (⟨jn_aload_n_ok (i := 0) (k := 0) (by decide +kernel) rfl, jn_aload_n_mo 0⟩ : jn_GEm jn_G0 jn_me65 38 (.inl (jn_aload_n 0))) <|
  jn_cons (⟨jn_bipush_ok (n := (-5)) (v := (-5)) (by decide +kernel) (by decide), jn_bipush_mo (-5)⟩ : jn_GEm jn_G0 jn_me65 39 (.inl (jn_bipush (-5)))) <|
  jn_cons (jn_gc_of jn_G0_80 (jn_callV (i := 66) (na := 1) (ci := 6) (q := (RX6, TX6, 11)) (by decide +kernel) rfl (jn_in 210 (by decide +kernel) rfl) (jn_in 207 (by decide +kernel) rfl) (jn_in 209 (by decide +kernel) rfl) (jn_in 0 (by decide +kernel) rfl) (jn_in 54 (by decide +kernel) rfl) ⟨by decide, by decide, by decide +kernel⟩) : jn_GEm jn_G0 jn_me65 41 (.inr (.inl (80, 8, 2)))) <|
  jn_cons (⟨(by decide +kernel), rfl⟩ : jn_GEm jn_G0 jn_me65 44 (.inr (.inr 1))) <|
  jn_cons (⟨jn_aload_n_ok (i := 3) (k := 3) (by decide +kernel) rfl, jn_aload_n_mo 3⟩ : jn_GEm jn_G0 jn_me65 45 (.inl (jn_aload_n 3))) <| jn_nil
theorem jn_o65_1 : ∀ q ∈ jn_c65_1, jn_GEm jn_G0 jn_me65 q.1 q.2 :=
  jn_cons (⟨jn_aload_n_ok (i := 0) (k := 0) (by decide +kernel) rfl, jn_aload_n_mo 0⟩ : jn_GEm jn_G0 jn_me65 46 (.inl (jn_aload_n 0))) <|
  jn_cons (⟨jn_getf_ok (ci := 6) (k := 7) (i := 38) (N := 11) (C := RX6) (T := TX6) (by decide +kernel) rfl (by decide) jn_u6 (jn_in 176 (by decide +kernel) rfl), jn_getf_mo 6 7⟩ : jn_GEm jn_G0 jn_me65 47 (.inl (jn_getf 6 7))) <|
  jn_cons (jn_gc_of jn_G0_4 (jn_callV (i := 170) (na := 1) (ci := 0) (q := (RX0, TX0, 2)) (by decide +kernel) rfl (jn_in 480 (by decide +kernel) rfl) (jn_in 477 (by decide +kernel) rfl) (jn_in 478 (by decide +kernel) rfl) (jn_in 479 (by decide +kernel) rfl) (jn_in 63 (by decide +kernel) rfl) ⟨by decide, by decide, by decide +kernel⟩) : jn_GEm jn_G0 jn_me65 50 (.inr (.inl (4, 2, 2)))) <|
  jn_cons (⟨jn_aload_n_ok (i := 0) (k := 0) (by decide +kernel) rfl, jn_aload_n_mo 0⟩ : jn_GEm jn_G0 jn_me65 53 (.inl (jn_aload_n 0))) <|
  jn_cons (⟨jn_getf_ok (ci := 6) (k := 9) (i := 53) (N := 11) (C := RX6) (T := TX6) (by decide +kernel) rfl (by decide) jn_u6 (jn_in 178 (by decide +kernel) rfl), jn_getf_mo 6 9⟩ : jn_GEm jn_G0 jn_me65 54 (.inl (jn_getf 6 9))) <|
  jn_cons (⟨jn_aload_n_ok (i := 3) (k := 3) (by decide +kernel) rfl, jn_aload_n_mo 3⟩ : jn_GEm jn_G0 jn_me65 57 (.inl (jn_aload_n 3))) <|
  jn_cons (⟨jn_getf_ok (ci := 0) (k := 0) (i := 157) (N := 2) (C := RX0) (T := TX0) (by decide +kernel) rfl (by decide) jn_u0 (jn_in 429 (by decide +kernel) rfl), jn_getf_mo 0 0⟩ : jn_GEm jn_G0 jn_me65 58 (.inl (jn_getf 0 0))) <|
  jn_cons (⟨jn_iload_n_ok (i := 2) (k := 2) (by decide +kernel) rfl, jn_iload_n_mo 2⟩ : jn_GEm jn_G0 jn_me65 61 (.inl (jn_iload_n 2))) <|
  jn_cons (jn_gc_of jn_G0_25 (jn_callV (i := 139) (na := 2) (ci := 3) (q := (RX3, TX3, 6)) (by decide +kernel) rfl (jn_in 365 (by decide +kernel) rfl) (jn_in 362 (by decide +kernel) rfl) (jn_in 363 (by decide +kernel) rfl) (jn_in 364 (by decide +kernel) rfl) (jn_in 56 (by decide +kernel) rfl) ⟨by decide, by decide, by decide +kernel⟩) : jn_GEm jn_G0 jn_me65 62 (.inr (.inl (25, 5, 3)))) <|
  jn_cons (⟨jn_aload_n_ok (i := 0) (k := 0) (by decide +kernel) rfl, jn_aload_n_mo 0⟩ : jn_GEm jn_G0 jn_me65 65 (.inl (jn_aload_n 0))) <|
  jn_cons (⟨jn_getf_ok (ci := 6) (k := 9) (i := 53) (N := 11) (C := RX6) (T := TX6) (by decide +kernel) rfl (by decide) jn_u6 (jn_in 178 (by decide +kernel) rfl), jn_getf_mo 6 9⟩ : jn_GEm jn_G0 jn_me65 66 (.inl (jn_getf 6 9))) <|
  jn_cons (⟨jn_aload_n_ok (i := 0) (k := 0) (by decide +kernel) rfl, jn_aload_n_mo 0⟩ : jn_GEm jn_G0 jn_me65 69 (.inl (jn_aload_n 0))) <|
  jn_cons (⟨jn_getf_ok (ci := 6) (k := 7) (i := 38) (N := 11) (C := RX6) (T := TX6) (by decide +kernel) rfl (by decide) jn_u6 (jn_in 176 (by decide +kernel) rfl), jn_getf_mo 6 7⟩ : jn_GEm jn_G0 jn_me65 70 (.inl (jn_getf 6 7))) <|
  jn_cons (jn_gc_of jn_G0_29 (jn_callV (i := 195) (na := 1) (ci := 3) (q := (RX3, TX3, 6)) (by decide +kernel) rfl (jn_in 384 (by decide +kernel) rfl) (jn_in 521 (by decide +kernel) rfl) (jn_in 382 (by decide +kernel) rfl) (jn_in 383 (by decide +kernel) rfl) (jn_in 56 (by decide +kernel) rfl) ⟨by decide, by decide, by decide +kernel⟩) : jn_GEm jn_G0 jn_me65 73 (.inr (.inl (29, 5, 2)))) <|
  jn_cons (⟨jn_aload_n_ok (i := 0) (k := 0) (by decide +kernel) rfl, jn_aload_n_mo 0⟩ : jn_GEm jn_G0 jn_me65 76 (.inl (jn_aload_n 0))) <|
  jn_cons (jn_gc_of jn_G0_91 (jn_callV (i := 178) (na := 0) (ci := 6) (q := (RX6, TX6, 11)) (by decide +kernel) rfl (jn_in 485 (by decide +kernel) rfl) (jn_in 482 (by decide +kernel) rfl) (jn_in 484 (by decide +kernel) rfl) (jn_in 16 (by decide +kernel) rfl) (jn_in 54 (by decide +kernel) rfl) ⟨by decide, by decide, by decide +kernel⟩) : jn_GEm jn_G0 jn_me65 77 (.inr (.inl (91, 8, 1)))) <|
  jn_cons (⟨jn_ifne_ok (t := 90) (off := 10) (by decide +kernel) (by decide), jn_ifne_mo 90⟩ : jn_GEm jn_G0 jn_me65 80 (.inl (jn_ifne 90))) <|
  jn_cons (⟨jn_aload_n_ok (i := 0) (k := 0) (by decide +kernel) rfl, jn_aload_n_mo 0⟩ : jn_GEm jn_G0 jn_me65 83 (.inl (jn_aload_n 0))) <|
  jn_cons (⟨jn_bipush_ok (n := (-8)) (v := (-8)) (by decide +kernel) (by decide), jn_bipush_mo (-8)⟩ : jn_GEm jn_G0 jn_me65 84 (.inl (jn_bipush (-8)))) <|
  jn_cons (jn_gc_of jn_G0_80 (jn_callV (i := 66) (na := 1) (ci := 6) (q := (RX6, TX6, 11)) (by decide +kernel) rfl (jn_in 210 (by decide +kernel) rfl) (jn_in 207 (by decide +kernel) rfl) (jn_in 209 (by decide +kernel) rfl) (jn_in 0 (by decide +kernel) rfl) (jn_in 54 (by decide +kernel) rfl) ⟨by decide, by decide, by decide +kernel⟩) : jn_GEm jn_G0 jn_me65 86 (.inr (.inl (80, 8, 2)))) <|
  jn_cons (⟨(by decide +kernel), rfl⟩ : jn_GEm jn_G0 jn_me65 89 (.inr (.inr 1))) <|
  jn_cons (⟨jn_aload_n_ok (i := 3) (k := 3) (by decide +kernel) rfl, jn_aload_n_mo 3⟩ : jn_GEm jn_G0 jn_me65 90 (.inl (jn_aload_n 3))) <|
  jn_cons (⟨jn_aload_n_ok (i := 0) (k := 0) (by decide +kernel) rfl, jn_aload_n_mo 0⟩ : jn_GEm jn_G0 jn_me65 91 (.inl (jn_aload_n 0))) <|
  jn_cons (⟨jn_getf_ok (ci := 6) (k := 7) (i := 38) (N := 11) (C := RX6) (T := TX6) (by decide +kernel) rfl (by decide) jn_u6 (jn_in 176 (by decide +kernel) rfl), jn_getf_mo 6 7⟩ : jn_GEm jn_G0 jn_me65 92 (.inl (jn_getf 6 7))) <| jn_nil
theorem jn_o65_2 : ∀ q ∈ jn_c65_2, jn_GEm jn_G0 jn_me65 q.1 q.2 :=
  jn_cons (jn_gc_of jn_G0_5 (jn_callV (i := 181) (na := 1) (ci := 0) (q := (RX0, TX0, 2)) (by decide +kernel) rfl (jn_in 441 (by decide +kernel) rfl) (jn_in 438 (by decide +kernel) rfl) (jn_in 439 (by decide +kernel) rfl) (jn_in 440 (by decide +kernel) rfl) (jn_in 63 (by decide +kernel) rfl) ⟨by decide, by decide, by decide +kernel⟩) : jn_GEm jn_G0 jn_me65 95 (.inr (.inl (5, 2, 2)))) <|
  jn_cons (⟨(by decide +kernel), rfl⟩ : jn_GEm jn_G0 jn_me65 98 (.inr (.inr 1))) <| jn_nil
theorem jn_ok65 : jn_GM jn_G0 65 := jn_GM_of jn_G0_65 rfl rfl (by decide +kernel) (by decide) (jn_appd jn_o65_0 (jn_appd jn_o65_1 (jn_o65_2)))
theorem jn_o66_0 : ∀ q ∈ jn_c66_0, jn_GEm jn_G0 jn_me66 q.1 q.2 :=
  jn_cons (⟨jn_aload_n_ok (i := 0) (k := 0) (by decide +kernel) rfl, jn_aload_n_mo 0⟩ : jn_GEm jn_G0 jn_me66 0 (.inl (jn_aload_n 0))) <|
  jn_cons (⟨jn_iload_n_ok (i := 1) (k := 1) (by decide +kernel) rfl, jn_iload_n_mo 1⟩ : jn_GEm jn_G0 jn_me66 1 (.inl (jn_iload_n 1))) <|
  jn_cons (jn_gc_of jn_G0_83 (jn_callV (i := 153) (na := 1) (ci := 6) (q := (RX6, TX6, 11)) (by decide +kernel) rfl (jn_in 231 (by decide +kernel) rfl) (jn_in 228 (by decide +kernel) rfl) (jn_in 230 (by decide +kernel) rfl) (jn_in 3 (by decide +kernel) rfl) (jn_in 54 (by decide +kernel) rfl) ⟨by decide, by decide, by decide +kernel⟩) : jn_GEm jn_G0 jn_me66 2 (.inr (.inl (83, 8, 2)))) <|
  jn_cons (⟨jn_astore_n_ok (i := 3) (k := 3) (by decide +kernel) rfl, jn_astore_n_mo 3⟩ : jn_GEm jn_G0 jn_me66 5 (.inl (jn_astore_n 3))) <|
  jn_cons (⟨jn_aload_n_ok (i := 0) (k := 0) (by decide +kernel) rfl, jn_aload_n_mo 0⟩ : jn_GEm jn_G0 jn_me66 6 (.inl (jn_aload_n 0))) <|
  jn_cons (⟨jn_iload_n_ok (i := 2) (k := 2) (by decide +kernel) rfl, jn_iload_n_mo 2⟩ : jn_GEm jn_G0 jn_me66 7 (.inl (jn_iload_n 2))) <|
  jn_cons (jn_gc_of jn_G0_83 (jn_callV (i := 153) (na := 1) (ci := 6) (q := (RX6, TX6, 11)) (by decide +kernel) rfl (jn_in 231 (by decide +kernel) rfl) (jn_in 228 (by decide +kernel) rfl) (jn_in 230 (by decide +kernel) rfl) (jn_in 3 (by decide +kernel) rfl) (jn_in 54 (by decide +kernel) rfl) ⟨by decide, by decide, by decide +kernel⟩) : jn_GEm jn_G0 jn_me66 8 (.inr (.inl (83, 8, 2)))) <|
  jn_cons (⟨jn_astore_ok (i := 4) (by decide +kernel), jn_astore_mo 4⟩ : jn_GEm jn_G0 jn_me66 11 (.inl (jn_astore 4))) <|
  jn_cons (⟨jn_aload_n_ok (i := 3) (k := 3) (by decide +kernel) rfl, jn_aload_n_mo 3⟩ : jn_GEm jn_G0 jn_me66 13 (.inl (jn_aload_n 3))) <|
  jn_cons (⟨jn_aload_ok (i := 4) (by decide +kernel), jn_aload_mo 4⟩ : jn_GEm jn_G0 jn_me66 14 (.inl (jn_aload 4))) <|
  jn_cons (jn_gc_of jn_G0_86 (jn_callS (i := 198) (na := 2) (by decide +kernel) (jn_in 528 (by decide +kernel) rfl) (jn_in 526 (by decide +kernel) rfl) (jn_in 527 (by decide +kernel) rfl) (jn_in 54 (by decide +kernel) rfl) ⟨by decide, by decide, by decide +kernel⟩) : jn_GEm jn_G0 jn_me66 16 (.inr (.inl (86, 0, 2)))) <|
  jn_cons (⟨jn_istore_ok (i := 5) (by decide +kernel), jn_istore_mo 5⟩ : jn_GEm jn_G0 jn_me66 19 (.inl (jn_istore 5))) <|
  jn_cons (⟨jn_aload_n_ok (i := 3) (k := 3) (by decide +kernel) rfl, jn_aload_n_mo 3⟩ : jn_GEm jn_G0 jn_me66 21 (.inl (jn_aload_n 3))) <|
  jn_cons (⟨jn_ifnull_ok (t := 35) (off := 13) (by decide +kernel) (by decide), jn_ifnull_mo 35⟩ : jn_GEm jn_G0 jn_me66 22 (.inl (jn_ifnull 35))) <|
  jn_cons (⟨jn_aload_ok (i := 4) (by decide +kernel), jn_aload_mo 4⟩ : jn_GEm jn_G0 jn_me66 25 (.inl (jn_aload 4))) <|
  jn_cons (⟨jn_ifnull_ok (t := 35) (off := 8) (by decide +kernel) (by decide), jn_ifnull_mo 35⟩ : jn_GEm jn_G0 jn_me66 27 (.inl (jn_ifnull 35))) <|
  jn_cons (⟨jn_iload_ok (i := 5) (by decide +kernel), jn_iload_mo 5⟩ : jn_GEm jn_G0 jn_me66 30 (.inl (jn_iload 5))) <|
  jn_cons (⟨jn_ifeq_ok (t := 42) (off := 10) (by decide +kernel) (by decide), jn_ifeq_mo 42⟩ : jn_GEm jn_G0 jn_me66 32 (.inl (jn_ifeq 42))) <|
  jn_cons (⟨jn_aload_n_ok (i := 0) (k := 0) (by decide +kernel) rfl, jn_aload_n_mo 0⟩ : jn_GEm jn_G0 jn_me66 35 (.inl (jn_aload_n 0))) <|
  jn_cons (⟨jn_iload_ok (i := 5) (by decide +kernel), jn_iload_mo 5⟩ : jn_GEm jn_G0 jn_me66 36 (.inl (jn_iload 5))) <|
  jn_cons (jn_gc_of jn_G0_80 (jn_callV (i := 66) (na := 1) (ci := 6) (q := (RX6, TX6, 11)) (by decide +kernel) rfl (jn_in 210 (by decide +kernel) rfl) (jn_in 207 (by decide +kernel) rfl) (jn_in 209 (by decide +kernel) rfl) (jn_in 0 (by decide +kernel) rfl) (jn_in 54 (by decide +kernel) rfl) ⟨by decide, by decide, by decide +kernel⟩) : jn_GEm jn_G0 jn_me66 38 (.inr (.inl (80, 8, 2)))) <|
  jn_cons (⟨(by decide +kernel), rfl⟩ : jn_GEm jn_G0 jn_me66 41 (.inr (.inr 1))) <|
  jn_cons (⟨jn_aload_n_ok (i := 0) (k := 0) (by decide +kernel) rfl, jn_aload_n_mo 0⟩ : jn_GEm jn_G0 jn_me66 42 (.inl (jn_aload_n 0))) <|
  jn_cons (⟨jn_aload_n_ok (i := 3) (k := 3) (by decide +kernel) rfl, jn_aload_n_mo 3⟩ : jn_GEm jn_G0 jn_me66 43 (.inl (jn_aload_n 3))) <| jn_nil
theorem jn_o66_1 : ∀ q ∈ jn_c66_1, jn_GEm jn_G0 jn_me66 q.1 q.2 :=
  jn_cons (⟨jn_aload_ok (i := 4) (by decide +kernel), jn_aload_mo 4⟩ : jn_GEm jn_G0 jn_me66 44 (.inl (jn_aload 4))) <|
  jn_cons (jn_gc_of jn_G0_87 (jn_callV (i := 202) (na := 2) (ci := 6) (q := (RX6, TX6, 11)) (by decide +kernel) rfl (jn_in 532 (by decide +kernel) rfl) (jn_in 529 (by decide +kernel) rfl) (jn_in 531 (by decide +kernel) rfl) (jn_in 18 (by decide +kernel) rfl) (jn_in 54 (by decide +kernel) rfl) ⟨by decide, by decide, by decide +kernel⟩) : jn_GEm jn_G0 jn_me66 46 (.inr (.inl (87, 8, 3)))) <|
  jn_cons (⟨jn_ifeq_ok (t := 56) (off := 7) (by decide +kernel) (by decide), jn_ifeq_mo 56⟩ : jn_GEm jn_G0 jn_me66 49 (.inl (jn_ifeq 56))) <|
  jn_cons (⟨jn_iconst_ok (by decide +kernel), jn_iconst_mo 1⟩ : jn_GEm jn_G0 jn_me66 52 (.inl (jn_iconst 1))) <|
  jn_cons (⟨jn_goto_ok (t := 57) (off := 4) (by decide +kernel) (by decide), jn_goto_mo 57⟩ : jn_GEm jn_G0 jn_me66 53 (.inl (jn_goto 57))) <|
  jn_cons (⟨jn_iconst_ok (by decide +kernel), jn_iconst_mo 0⟩ : jn_GEm jn_G0 jn_me66 56 (.inl (jn_iconst 0))) <|
  jn_cons (⟨(by decide +kernel), rfl⟩ : jn_GEm jn_G0 jn_me66 57 (.inr (.inr 1))) <| jn_nil
theorem jn_ok66 : jn_GM jn_G0 66 := jn_GM_of jn_G0_66 rfl rfl (by decide +kernel) (by decide) (jn_appd jn_o66_0 (jn_o66_1))
theorem jn_o67_0 : ∀ q ∈ jn_c67_0, jn_GEm jn_G0 jn_me67 q.1 q.2 :=
  jn_cons (⟨jn_aload_n_ok (i := 0) (k := 0) (by decide +kernel) rfl, jn_aload_n_mo 0⟩ : jn_GEm jn_G0 jn_me67 0 (.inl (jn_aload_n 0))) <|
  jn_cons (⟨jn_iload_n_ok (i := 1) (k := 1) (by decide +kernel) rfl, jn_iload_n_mo 1⟩ : jn_GEm jn_G0 jn_me67 1 (.inl (jn_iload_n 1))) <|
  jn_cons (jn_gc_of jn_G0_83 (jn_callV (i := 153) (na := 1) (ci := 6) (q := (RX6, TX6, 11)) (by decide +kernel) rfl (jn_in 231 (by decide +kernel) rfl) (jn_in 228 (by decide +kernel) rfl) (jn_in 230 (by decide +kernel) rfl) (jn_in 3 (by decide +kernel) rfl) (jn_in 54 (by decide +kernel) rfl) ⟨by decide, by decide, by decide +kernel⟩) : jn_GEm jn_G0 jn_me67 2 (.inr (.inl (83, 8, 2)))) <|
  jn_cons (⟨jn_astore_n_ok (i := 3) (k := 3) (by decide +kernel) rfl, jn_astore_n_mo 3⟩ : jn_GEm jn_G0 jn_me67 5 (.inl (jn_astore_n 3))) <|
  jn_cons (⟨jn_aload_n_ok (i := 0) (k := 0) (by decide +kernel) rfl, jn_aload_n_mo 0⟩ : jn_GEm jn_G0 jn_me67 6 (.inl (jn_aload_n 0))) <|
  jn_cons (⟨jn_iload_n_ok (i := 2) (k := 2) (by decide +kernel) rfl, jn_iload_n_mo 2⟩ : jn_GEm jn_G0 jn_me67 7 (.inl (jn_iload_n 2))) <|
  jn_cons (jn_gc_of jn_G0_83 (jn_callV (i := 153) (na := 1) (ci := 6) (q := (RX6, TX6, 11)) (by decide +kernel) rfl (jn_in 231 (by decide +kernel) rfl) (jn_in 228 (by decide +kernel) rfl) (jn_in 230 (by decide +kernel) rfl) (jn_in 3 (by decide +kernel) rfl) (jn_in 54 (by decide +kernel) rfl) ⟨by decide, by decide, by decide +kernel⟩) : jn_GEm jn_G0 jn_me67 8 (.inr (.inl (83, 8, 2)))) <|
  jn_cons (⟨jn_astore_ok (i := 4) (by decide +kernel), jn_astore_mo 4⟩ : jn_GEm jn_G0 jn_me67 11 (.inl (jn_astore 4))) <|
  jn_cons (⟨jn_aload_n_ok (i := 3) (k := 3) (by decide +kernel) rfl, jn_aload_n_mo 3⟩ : jn_GEm jn_G0 jn_me67 13 (.inl (jn_aload_n 3))) <|
  jn_cons (⟨jn_aload_ok (i := 4) (by decide +kernel), jn_aload_mo 4⟩ : jn_GEm jn_G0 jn_me67 14 (.inl (jn_aload 4))) <|
  jn_cons (jn_gc_of jn_G0_86 (jn_callS (i := 198) (na := 2) (by decide +kernel) (jn_in 528 (by decide +kernel) rfl) (jn_in 526 (by decide +kernel) rfl) (jn_in 527 (by decide +kernel) rfl) (jn_in 54 (by decide +kernel) rfl) ⟨by decide, by decide, by decide +kernel⟩) : jn_GEm jn_G0 jn_me67 16 (.inr (.inl (86, 0, 2)))) <|
  jn_cons (⟨jn_istore_ok (i := 5) (by decide +kernel), jn_istore_mo 5⟩ : jn_GEm jn_G0 jn_me67 19 (.inl (jn_istore 5))) <|
  jn_cons (⟨jn_aload_n_ok (i := 3) (k := 3) (by decide +kernel) rfl, jn_aload_n_mo 3⟩ : jn_GEm jn_G0 jn_me67 21 (.inl (jn_aload_n 3))) <|
  jn_cons (⟨jn_ifnull_ok (t := 35) (off := 13) (by decide +kernel) (by decide), jn_ifnull_mo 35⟩ : jn_GEm jn_G0 jn_me67 22 (.inl (jn_ifnull 35))) <|
  jn_cons (⟨jn_aload_ok (i := 4) (by decide +kernel), jn_aload_mo 4⟩ : jn_GEm jn_G0 jn_me67 25 (.inl (jn_aload 4))) <|
  jn_cons (⟨jn_ifnull_ok (t := 35) (off := 8) (by decide +kernel) (by decide), jn_ifnull_mo 35⟩ : jn_GEm jn_G0 jn_me67 27 (.inl (jn_ifnull 35))) <|
  jn_cons (⟨jn_iload_ok (i := 5) (by decide +kernel), jn_iload_mo 5⟩ : jn_GEm jn_G0 jn_me67 30 (.inl (jn_iload 5))) <|
  jn_cons (⟨jn_ifeq_ok (t := 42) (off := 10) (by decide +kernel) (by decide), jn_ifeq_mo 42⟩ : jn_GEm jn_G0 jn_me67 32 (.inl (jn_ifeq 42))) <|
  jn_cons (⟨jn_aload_n_ok (i := 0) (k := 0) (by decide +kernel) rfl, jn_aload_n_mo 0⟩ : jn_GEm jn_G0 jn_me67 35 (.inl (jn_aload_n 0))) <|
  jn_cons (⟨jn_iload_ok (i := 5) (by decide +kernel), jn_iload_mo 5⟩ : jn_GEm jn_G0 jn_me67 36 (.inl (jn_iload 5))) <|
  jn_cons (jn_gc_of jn_G0_80 (jn_callV (i := 66) (na := 1) (ci := 6) (q := (RX6, TX6, 11)) (by decide +kernel) rfl (jn_in 210 (by decide +kernel) rfl) (jn_in 207 (by decide +kernel) rfl) (jn_in 209 (by decide +kernel) rfl) (jn_in 0 (by decide +kernel) rfl) (jn_in 54 (by decide +kernel) rfl) ⟨by decide, by decide, by decide +kernel⟩) : jn_GEm jn_G0 jn_me67 38 (.inr (.inl (80, 8, 2)))) <|
  jn_cons (⟨(by decide +kernel), rfl⟩ : jn_GEm jn_G0 jn_me67 41 (.inr (.inr 1))) <|
  jn_cons (⟨jn_aload_n_ok (i := 0) (k := 0) (by decide +kernel) rfl, jn_aload_n_mo 0⟩ : jn_GEm jn_G0 jn_me67 42 (.inl (jn_aload_n 0))) <|
  jn_cons (⟨jn_aload_n_ok (i := 3) (k := 3) (by decide +kernel) rfl, jn_aload_n_mo 3⟩ : jn_GEm jn_G0 jn_me67 43 (.inl (jn_aload_n 3))) <| jn_nil
theorem jn_o67_1 : ∀ q ∈ jn_c67_1, jn_GEm jn_G0 jn_me67 q.1 q.2 :=
  jn_cons (⟨jn_aload_ok (i := 4) (by decide +kernel), jn_aload_mo 4⟩ : jn_GEm jn_G0 jn_me67 44 (.inl (jn_aload 4))) <|
  jn_cons (jn_gc_of jn_G0_87 (jn_callV (i := 202) (na := 2) (ci := 6) (q := (RX6, TX6, 11)) (by decide +kernel) rfl (jn_in 532 (by decide +kernel) rfl) (jn_in 529 (by decide +kernel) rfl) (jn_in 531 (by decide +kernel) rfl) (jn_in 18 (by decide +kernel) rfl) (jn_in 54 (by decide +kernel) rfl) ⟨by decide, by decide, by decide +kernel⟩) : jn_GEm jn_G0 jn_me67 46 (.inr (.inl (87, 8, 3)))) <|
  jn_cons (⟨jn_ifne_ok (t := 54) (off := 5) (by decide +kernel) (by decide), jn_ifne_mo 54⟩ : jn_GEm jn_G0 jn_me67 49 (.inl (jn_ifne 54))) <|
  jn_cons (⟨jn_iconst_ok (by decide +kernel), jn_iconst_mo (-1)⟩ : jn_GEm jn_G0 jn_me67 52 (.inl (jn_iconst (-1)))) <|
  jn_cons (⟨(by decide +kernel), rfl⟩ : jn_GEm jn_G0 jn_me67 53 (.inr (.inr 1))) <|
  jn_cons (⟨jn_aload_n_ok (i := 3) (k := 3) (by decide +kernel) rfl, jn_aload_n_mo 3⟩ : jn_GEm jn_G0 jn_me67 54 (.inl (jn_aload_n 3))) <|
  jn_cons (⟨jn_getf_ok (ci := 0) (k := 0) (i := 157) (N := 2) (C := RX0) (T := TX0) (by decide +kernel) rfl (by decide) jn_u0 (jn_in 429 (by decide +kernel) rfl), jn_getf_mo 0 0⟩ : jn_GEm jn_G0 jn_me67 55 (.inl (jn_getf 0 0))) <|
  jn_cons (⟨jn_getf_ok (ci := 2) (k := 1) (i := 97) (N := 3) (C := RX2) (T := TX2) (by decide +kernel) rfl (by decide) jn_u2 (jn_in 106 (by decide +kernel) rfl), jn_getf_mo 2 1⟩ : jn_GEm jn_G0 jn_me67 58 (.inl (jn_getf 2 1))) <|
  jn_cons (⟨jn_istore_ok (i := 6) (by decide +kernel), jn_istore_mo 6⟩ : jn_GEm jn_G0 jn_me67 61 (.inl (jn_istore 6))) <|
  jn_cons (⟨jn_iconst_ok (by decide +kernel), jn_iconst_mo 0⟩ : jn_GEm jn_G0 jn_me67 63 (.inl (jn_iconst 0))) <|
  jn_cons (⟨jn_istore_ok (i := 7) (by decide +kernel), jn_istore_mo 7⟩ : jn_GEm jn_G0 jn_me67 64 (.inl (jn_istore 7))) <|
  jn_cons (⟨jn_iconst_ok (by decide +kernel), jn_iconst_mo 0⟩ : jn_GEm jn_G0 jn_me67 66 (.inl (jn_iconst 0))) <|
  jn_cons (⟨jn_istore_ok (i := 8) (by decide +kernel), jn_istore_mo 8⟩ : jn_GEm jn_G0 jn_me67 67 (.inl (jn_istore 8))) <|
  jn_cons (⟨jn_iload_ok (i := 8) (by decide +kernel), jn_iload_mo 8⟩ : jn_GEm jn_G0 jn_me67 69 (.inl (jn_iload 8))) <|
  jn_cons (⟨jn_iload_ok (i := 6) (by decide +kernel), jn_iload_mo 6⟩ : jn_GEm jn_G0 jn_me67 71 (.inl (jn_iload 6))) <|
  jn_cons (⟨jn_icge_ok (t := 99) (off := 26) (by decide +kernel) (by decide), jn_icge_mo 99⟩ : jn_GEm jn_G0 jn_me67 73 (.inl (jn_icge 99))) <|
  jn_cons (⟨jn_iload_ok (i := 7) (by decide +kernel), jn_iload_mo 7⟩ : jn_GEm jn_G0 jn_me67 76 (.inl (jn_iload 7))) <|
  jn_cons (⟨jn_aload_n_ok (i := 0) (k := 0) (by decide +kernel) rfl, jn_aload_n_mo 0⟩ : jn_GEm jn_G0 jn_me67 78 (.inl (jn_aload_n 0))) <|
  jn_cons (⟨jn_getf_ok (ci := 6) (k := 9) (i := 53) (N := 11) (C := RX6) (T := TX6) (by decide +kernel) rfl (by decide) jn_u6 (jn_in 178 (by decide +kernel) rfl), jn_getf_mo 6 9⟩ : jn_GEm jn_G0 jn_me67 79 (.inl (jn_getf 6 9))) <|
  jn_cons (⟨jn_getf_ok (ci := 3) (k := 5) (i := 206) (N := 6) (C := RX3) (T := TX3) (by decide +kernel) rfl (by decide) jn_u3 (jn_in 123 (by decide +kernel) rfl), jn_getf_mo 3 5⟩ : jn_GEm jn_G0 jn_me67 82 (.inl (jn_getf 3 5))) <|
  jn_cons (⟨jn_iload_ok (i := 8) (by decide +kernel), jn_iload_mo 8⟩ : jn_GEm jn_G0 jn_me67 85 (.inl (jn_iload 8))) <|
  jn_cons (⟨jn_iaload_ok (by decide +kernel), jn_iaload_mo⟩ : jn_GEm jn_G0 jn_me67 87 (.inl jn_iaload)) <|
  jn_cons (jn_gc_of jn_G0_170 (jn_callS (i := 209) (na := 2) (by decide +kernel) (jn_in 543 (by decide +kernel) rfl) (jn_in 541 (by decide +kernel) rfl) (jn_in 542 (by decide +kernel) rfl) (jn_in 61 (by decide +kernel) rfl) ⟨by decide, by decide, by decide +kernel⟩) : jn_GEm jn_G0 jn_me67 88 (.inr (.inl (170, 0, 2)))) <|
  jn_cons (⟨jn_istore_ok (i := 7) (by decide +kernel), jn_istore_mo 7⟩ : jn_GEm jn_G0 jn_me67 91 (.inl (jn_istore 7))) <| jn_nil
theorem jn_o67_2 : ∀ q ∈ jn_c67_2, jn_GEm jn_G0 jn_me67 q.1 q.2 :=
  jn_cons (⟨jn_iinc_ok (i := 8) (n := 1) (by decide +kernel), jn_iinc_mo 8 1⟩ : jn_GEm jn_G0 jn_me67 93 (.inl (jn_iinc 8 1))) <|
  jn_cons (⟨jn_goto_ok (t := 69) (off := -27) (by decide +kernel) (by decide), jn_goto_mo 69⟩ : jn_GEm jn_G0 jn_me67 96 (.inl (jn_goto 69))) <|
  jn_cons (⟨jn_iconst_ok (by decide +kernel), jn_iconst_mo 0⟩ : jn_GEm jn_G0 jn_me67 99 (.inl (jn_iconst 0))) <|
  jn_cons (⟨jn_istore_ok (i := 8) (by decide +kernel), jn_istore_mo 8⟩ : jn_GEm jn_G0 jn_me67 100 (.inl (jn_istore 8))) <|
  jn_cons (⟨jn_iload_ok (i := 8) (by decide +kernel), jn_iload_mo 8⟩ : jn_GEm jn_G0 jn_me67 102 (.inl (jn_iload 8))) <|
  jn_cons (⟨jn_iload_ok (i := 6) (by decide +kernel), jn_iload_mo 6⟩ : jn_GEm jn_G0 jn_me67 104 (.inl (jn_iload 6))) <|
  jn_cons (⟨jn_icge_ok (t := 135) (off := 29) (by decide +kernel) (by decide), jn_icge_mo 135⟩ : jn_GEm jn_G0 jn_me67 106 (.inl (jn_icge 135))) <|
  jn_cons (⟨jn_aload_n_ok (i := 0) (k := 0) (by decide +kernel) rfl, jn_aload_n_mo 0⟩ : jn_GEm jn_G0 jn_me67 109 (.inl (jn_aload_n 0))) <|
  jn_cons (⟨jn_getf_ok (ci := 6) (k := 4) (i := 28) (N := 11) (C := RX6) (T := TX6) (by decide +kernel) rfl (by decide) jn_u6 (jn_in 173 (by decide +kernel) rfl), jn_getf_mo 6 4⟩ : jn_GEm jn_G0 jn_me67 110 (.inl (jn_getf 6 4))) <|
  jn_cons (⟨jn_iload_ok (i := 8) (by decide +kernel), jn_iload_mo 8⟩ : jn_GEm jn_G0 jn_me67 113 (.inl (jn_iload 8))) <|
  jn_cons (⟨jn_aload_n_ok (i := 0) (k := 0) (by decide +kernel) rfl, jn_aload_n_mo 0⟩ : jn_GEm jn_G0 jn_me67 115 (.inl (jn_aload_n 0))) <|
  jn_cons (⟨jn_getf_ok (ci := 6) (k := 9) (i := 53) (N := 11) (C := RX6) (T := TX6) (by decide +kernel) rfl (by decide) jn_u6 (jn_in 178 (by decide +kernel) rfl), jn_getf_mo 6 9⟩ : jn_GEm jn_G0 jn_me67 116 (.inl (jn_getf 6 9))) <|
  jn_cons (⟨jn_getf_ok (ci := 3) (k := 5) (i := 206) (N := 6) (C := RX3) (T := TX3) (by decide +kernel) rfl (by decide) jn_u3 (jn_in 123 (by decide +kernel) rfl), jn_getf_mo 3 5⟩ : jn_GEm jn_G0 jn_me67 119 (.inl (jn_getf 3 5))) <|
  jn_cons (⟨jn_iload_ok (i := 8) (by decide +kernel), jn_iload_mo 8⟩ : jn_GEm jn_G0 jn_me67 122 (.inl (jn_iload 8))) <|
  jn_cons (⟨jn_iaload_ok (by decide +kernel), jn_iaload_mo⟩ : jn_GEm jn_G0 jn_me67 124 (.inl jn_iaload)) <|
  jn_cons (⟨jn_iload_ok (i := 7) (by decide +kernel), jn_iload_mo 7⟩ : jn_GEm jn_G0 jn_me67 125 (.inl (jn_iload 7))) <|
  jn_cons (⟨jn_isub_ok (by decide +kernel), jn_isub_mo⟩ : jn_GEm jn_G0 jn_me67 127 (.inl jn_isub)) <|
  jn_cons (⟨jn_iastore_ok (by decide +kernel), jn_iastore_mo⟩ : jn_GEm jn_G0 jn_me67 128 (.inl jn_iastore)) <|
  jn_cons (⟨jn_iinc_ok (i := 8) (n := 1) (by decide +kernel), jn_iinc_mo 8 1⟩ : jn_GEm jn_G0 jn_me67 129 (.inl (jn_iinc 8 1))) <|
  jn_cons (⟨jn_goto_ok (t := 102) (off := -30) (by decide +kernel) (by decide), jn_goto_mo 102⟩ : jn_GEm jn_G0 jn_me67 132 (.inl (jn_goto 102))) <|
  jn_cons (⟨jn_aload_n_ok (i := 0) (k := 0) (by decide +kernel) rfl, jn_aload_n_mo 0⟩ : jn_GEm jn_G0 jn_me67 135 (.inl (jn_aload_n 0))) <|
  jn_cons (⟨jn_iload_ok (i := 6) (by decide +kernel), jn_iload_mo 6⟩ : jn_GEm jn_G0 jn_me67 136 (.inl (jn_iload 6))) <|
  jn_cons (⟨jn_putf_ok (ci := 6) (k := 5) (κ := 0) (i := 32) (N := 11) (C := RX6) (T := TX6) (ty0 := tyX6) (ty := .int) (by decide +kernel) rfl (by decide) jn_u6 (jn_in 174 (by decide +kernel) rfl) tyX6_ok nmX6 rfl (by decide +kernel) jn_po_int, jn_putf_mo 6 5 0⟩ : jn_GEm jn_G0 jn_me67 138 (.inl (jn_putf 6 5 0))) <|
  jn_cons (⟨jn_iload_ok (i := 6) (by decide +kernel), jn_iload_mo 6⟩ : jn_GEm jn_G0 jn_me67 141 (.inl (jn_iload 6))) <| jn_nil
theorem jn_o67_3 : ∀ q ∈ jn_c67_3, jn_GEm jn_G0 jn_me67 q.1 q.2 :=
  jn_cons (⟨(by decide +kernel), rfl⟩ : jn_GEm jn_G0 jn_me67 143 (.inr (.inr 1))) <| jn_nil
theorem jn_ok67 : jn_GM jn_G0 67 := jn_GM_of jn_G0_67 rfl rfl (by decide +kernel) (by decide) (jn_appd jn_o67_0 (jn_appd jn_o67_1 (jn_appd jn_o67_2 (jn_o67_3))))
theorem jn_o68_0 : ∀ q ∈ jn_c68_0, jn_GEm jn_G0 jn_me68 q.1 q.2 :=
  jn_cons (⟨jn_aload_n_ok (i := 0) (k := 0) (by decide +kernel) rfl, jn_aload_n_mo 0⟩ : jn_GEm jn_G0 jn_me68 0 (.inl (jn_aload_n 0))) <|
  jn_cons (⟨jn_iload_n_ok (i := 1) (k := 1) (by decide +kernel) rfl, jn_iload_n_mo 1⟩ : jn_GEm jn_G0 jn_me68 1 (.inl (jn_iload_n 1))) <|
  jn_cons (jn_gc_of jn_G0_83 (jn_callV (i := 153) (na := 1) (ci := 6) (q := (RX6, TX6, 11)) (by decide +kernel) rfl (jn_in 231 (by decide +kernel) rfl) (jn_in 228 (by decide +kernel) rfl) (jn_in 230 (by decide +kernel) rfl) (jn_in 3 (by decide +kernel) rfl) (jn_in 54 (by decide +kernel) rfl) ⟨by decide, by decide, by decide +kernel⟩) : jn_GEm jn_G0 jn_me68 2 (.inr (.inl (83, 8, 2)))) <|
  jn_cons (⟨jn_astore_n_ok (i := 2) (k := 2) (by decide +kernel) rfl, jn_astore_n_mo 2⟩ : jn_GEm jn_G0 jn_me68 5 (.inl (jn_astore_n 2))) <|
  jn_cons (⟨jn_aload_n_ok (i := 2) (k := 2) (by decide +kernel) rfl, jn_aload_n_mo 2⟩ : jn_GEm jn_G0 jn_me68 6 (.inl (jn_aload_n 2))) <|
  jn_cons (⟨jn_ifnonnull_ok (t := 17) (off := 10) (by decide +kernel) (by decide), jn_ifnonnull_mo 17⟩ : jn_GEm jn_G0 jn_me68 7 (.inl (jn_ifnonnull 17))) <|
  jn_cons (⟨jn_aload_n_ok (i := 0) (k := 0) (by decide +kernel) rfl, jn_aload_n_mo 0⟩ : jn_GEm jn_G0 jn_me68 10 (.inl (jn_aload_n 0))) <|
  jn_cons (⟨jn_bipush_ok (n := (-3)) (v := (-3)) (by decide +kernel) (by decide), jn_bipush_mo (-3)⟩ : jn_GEm jn_G0 jn_me68 11 (.inl (jn_bipush (-3)))) <|
  jn_cons (jn_gc_of jn_G0_80 (jn_callV (i := 66) (na := 1) (ci := 6) (q := (RX6, TX6, 11)) (by decide +kernel) rfl (jn_in 210 (by decide +kernel) rfl) (jn_in 207 (by decide +kernel) rfl) (jn_in 209 (by decide +kernel) rfl) (jn_in 0 (by decide +kernel) rfl) (jn_in 54 (by decide +kernel) rfl) ⟨by decide, by decide, by decide +kernel⟩) : jn_GEm jn_G0 jn_me68 13 (.inr (.inl (80, 8, 2)))) <|
  jn_cons (⟨(by decide +kernel), rfl⟩ : jn_GEm jn_G0 jn_me68 16 (.inr (.inr 1))) <|
  jn_cons (⟨jn_aload_n_ok (i := 2) (k := 2) (by decide +kernel) rfl, jn_aload_n_mo 2⟩ : jn_GEm jn_G0 jn_me68 17 (.inl (jn_aload_n 2))) <|
  jn_cons (⟨jn_getf_ok (ci := 0) (k := 0) (i := 157) (N := 2) (C := RX0) (T := TX0) (by decide +kernel) rfl (by decide) jn_u0 (jn_in 429 (by decide +kernel) rfl), jn_getf_mo 0 0⟩ : jn_GEm jn_G0 jn_me68 18 (.inl (jn_getf 0 0))) <|
  jn_cons (jn_gc_of jn_G0_20 (jn_callV (i := 106) (na := 0) (ci := 2) (q := (RX2, TX2, 3)) (by decide +kernel) rfl (jn_in 251 (by decide +kernel) rfl) (jn_in 278 (by decide +kernel) rfl) (jn_in 249 (by decide +kernel) rfl) (jn_in 250 (by decide +kernel) rfl) (jn_in 57 (by decide +kernel) rfl) ⟨by decide, by decide, by decide +kernel⟩) : jn_GEm jn_G0 jn_me68 21 (.inr (.inl (20, 4, 1)))) <|
  jn_cons (⟨jn_ifne_ok (t := 34) (off := 10) (by decide +kernel) (by decide), jn_ifne_mo 34⟩ : jn_GEm jn_G0 jn_me68 24 (.inl (jn_ifne 34))) <|
  jn_cons (⟨jn_aload_n_ok (i := 0) (k := 0) (by decide +kernel) rfl, jn_aload_n_mo 0⟩ : jn_GEm jn_G0 jn_me68 27 (.inl (jn_aload_n 0))) <|
  jn_cons (⟨jn_bipush_ok (n := (-5)) (v := (-5)) (by decide +kernel) (by decide), jn_bipush_mo (-5)⟩ : jn_GEm jn_G0 jn_me68 28 (.inl (jn_bipush (-5)))) <|
  jn_cons (jn_gc_of jn_G0_80 (jn_callV (i := 66) (na := 1) (ci := 6) (q := (RX6, TX6, 11)) (by decide +kernel) rfl (jn_in 210 (by decide +kernel) rfl) (jn_in 207 (by decide +kernel) rfl) (jn_in 209 (by decide +kernel) rfl) (jn_in 0 (by decide +kernel) rfl) (jn_in 54 (by decide +kernel) rfl) ⟨by decide, by decide, by decide +kernel⟩) : jn_GEm jn_G0 jn_me68 30 (.inr (.inl (80, 8, 2)))) <|
  jn_cons (⟨(by decide +kernel), rfl⟩ : jn_GEm jn_G0 jn_me68 33 (.inr (.inr 1))) <|
  jn_cons (⟨jn_aload_n_ok (i := 2) (k := 2) (by decide +kernel) rfl, jn_aload_n_mo 2⟩ : jn_GEm jn_G0 jn_me68 34 (.inl (jn_aload_n 2))) <|
  jn_cons (⟨jn_aload_n_ok (i := 0) (k := 0) (by decide +kernel) rfl, jn_aload_n_mo 0⟩ : jn_GEm jn_G0 jn_me68 35 (.inl (jn_aload_n 0))) <|
  jn_cons (⟨jn_getf_ok (ci := 6) (k := 7) (i := 38) (N := 11) (C := RX6) (T := TX6) (by decide +kernel) rfl (by decide) jn_u6 (jn_in 176 (by decide +kernel) rfl), jn_getf_mo 6 7⟩ : jn_GEm jn_G0 jn_me68 36 (.inl (jn_getf 6 7))) <|
  jn_cons (jn_gc_of jn_G0_4 (jn_callV (i := 170) (na := 1) (ci := 0) (q := (RX0, TX0, 2)) (by decide +kernel) rfl (jn_in 480 (by decide +kernel) rfl) (jn_in 477 (by decide +kernel) rfl) (jn_in 478 (by decide +kernel) rfl) (jn_in 479 (by decide +kernel) rfl) (jn_in 63 (by decide +kernel) rfl) ⟨by decide, by decide, by decide +kernel⟩) : jn_GEm jn_G0 jn_me68 39 (.inr (.inl (4, 2, 2)))) <|
  jn_cons (⟨jn_aload_n_ok (i := 0) (k := 0) (by decide +kernel) rfl, jn_aload_n_mo 0⟩ : jn_GEm jn_G0 jn_me68 42 (.inl (jn_aload_n 0))) <|
  jn_cons (⟨jn_getf_ok (ci := 6) (k := 9) (i := 53) (N := 11) (C := RX6) (T := TX6) (by decide +kernel) rfl (by decide) jn_u6 (jn_in 178 (by decide +kernel) rfl), jn_getf_mo 6 9⟩ : jn_GEm jn_G0 jn_me68 43 (.inl (jn_getf 6 9))) <| jn_nil
theorem jn_o68_1 : ∀ q ∈ jn_c68_1, jn_GEm jn_G0 jn_me68 q.1 q.2 :=
  jn_cons (⟨jn_aload_n_ok (i := 2) (k := 2) (by decide +kernel) rfl, jn_aload_n_mo 2⟩ : jn_GEm jn_G0 jn_me68 46 (.inl (jn_aload_n 2))) <|
  jn_cons (⟨jn_getf_ok (ci := 0) (k := 0) (i := 157) (N := 2) (C := RX0) (T := TX0) (by decide +kernel) rfl (by decide) jn_u0 (jn_in 429 (by decide +kernel) rfl), jn_getf_mo 0 0⟩ : jn_GEm jn_G0 jn_me68 47 (.inl (jn_getf 0 0))) <|
  jn_cons (⟨jn_iconst_ok (by decide +kernel), jn_iconst_mo 0⟩ : jn_GEm jn_G0 jn_me68 50 (.inl (jn_iconst 0))) <|
  jn_cons (jn_gc_of jn_G0_25 (jn_callV (i := 139) (na := 2) (ci := 3) (q := (RX3, TX3, 6)) (by decide +kernel) rfl (jn_in 365 (by decide +kernel) rfl) (jn_in 362 (by decide +kernel) rfl) (jn_in 363 (by decide +kernel) rfl) (jn_in 364 (by decide +kernel) rfl) (jn_in 56 (by decide +kernel) rfl) ⟨by decide, by decide, by decide +kernel⟩) : jn_GEm jn_G0 jn_me68 51 (.inr (.inl (25, 5, 3)))) <|
  jn_cons (⟨jn_aload_n_ok (i := 0) (k := 0) (by decide +kernel) rfl, jn_aload_n_mo 0⟩ : jn_GEm jn_G0 jn_me68 54 (.inl (jn_aload_n 0))) <|
  jn_cons (⟨jn_getf_ok (ci := 6) (k := 9) (i := 53) (N := 11) (C := RX6) (T := TX6) (by decide +kernel) rfl (by decide) jn_u6 (jn_in 178 (by decide +kernel) rfl), jn_getf_mo 6 9⟩ : jn_GEm jn_G0 jn_me68 55 (.inl (jn_getf 6 9))) <|
  jn_cons (⟨jn_aload_n_ok (i := 0) (k := 0) (by decide +kernel) rfl, jn_aload_n_mo 0⟩ : jn_GEm jn_G0 jn_me68 58 (.inl (jn_aload_n 0))) <|
  jn_cons (⟨jn_getf_ok (ci := 6) (k := 7) (i := 38) (N := 11) (C := RX6) (T := TX6) (by decide +kernel) rfl (by decide) jn_u6 (jn_in 176 (by decide +kernel) rfl), jn_getf_mo 6 7⟩ : jn_GEm jn_G0 jn_me68 59 (.inl (jn_getf 6 7))) <|
  jn_cons (jn_gc_of jn_G0_29 (jn_callV (i := 195) (na := 1) (ci := 3) (q := (RX3, TX3, 6)) (by decide +kernel) rfl (jn_in 384 (by decide +kernel) rfl) (jn_in 521 (by decide +kernel) rfl) (jn_in 382 (by decide +kernel) rfl) (jn_in 383 (by decide +kernel) rfl) (jn_in 56 (by decide +kernel) rfl) ⟨by decide, by decide, by decide +kernel⟩) : jn_GEm jn_G0 jn_me68 62 (.inr (.inl (29, 5, 2)))) <|
  jn_cons (⟨jn_aload_n_ok (i := 0) (k := 0) (by decide +kernel) rfl, jn_aload_n_mo 0⟩ : jn_GEm jn_G0 jn_me68 65 (.inl (jn_aload_n 0))) <|
  jn_cons (⟨jn_getf_ok (ci := 6) (k := 7) (i := 38) (N := 11) (C := RX6) (T := TX6) (by decide +kernel) rfl (by decide) jn_u6 (jn_in 176 (by decide +kernel) rfl), jn_getf_mo 6 7⟩ : jn_GEm jn_G0 jn_me68 66 (.inl (jn_getf 6 7))) <|
  jn_cons (⟨jn_iconst_ok (by decide +kernel), jn_iconst_mo 0⟩ : jn_GEm jn_G0 jn_me68 69 (.inl (jn_iconst 0))) <|
  jn_cons (⟨jn_iaload_ok (by decide +kernel), jn_iaload_mo⟩ : jn_GEm jn_G0 jn_me68 70 (.inl jn_iaload)) <|
  jn_cons (⟨jn_iflt_ok (t := 78) (off := 7) (by decide +kernel) (by decide), jn_iflt_mo 78⟩ : jn_GEm jn_G0 jn_me68 71 (.inl (jn_iflt 78))) <|
  jn_cons (⟨jn_iconst_ok (by decide +kernel), jn_iconst_mo 1⟩ : jn_GEm jn_G0 jn_me68 74 (.inl (jn_iconst 1))) <|
  jn_cons (⟨jn_goto_ok (t := 79) (off := 4) (by decide +kernel) (by decide), jn_goto_mo 79⟩ : jn_GEm jn_G0 jn_me68 75 (.inl (jn_goto 79))) <|
  jn_cons (⟨jn_iconst_ok (by decide +kernel), jn_iconst_mo 0⟩ : jn_GEm jn_G0 jn_me68 78 (.inl (jn_iconst 0))) <|
  jn_cons (⟨(by decide +kernel), rfl⟩ : jn_GEm jn_G0 jn_me68 79 (.inr (.inr 1))) <| jn_nil
theorem jn_ok68 : jn_GM jn_G0 68 := jn_GM_of jn_G0_68 rfl rfl (by decide +kernel) (by decide) (jn_appd jn_o68_0 (jn_o68_1))
theorem jn_o69_0 : ∀ q ∈ jn_c69_0, jn_GEm jn_G0 jn_me69 q.1 q.2 :=
  jn_cons (⟨jn_aload_n_ok (i := 0) (k := 0) (by decide +kernel) rfl, jn_aload_n_mo 0⟩ : jn_GEm jn_G0 jn_me69 0 (.inl (jn_aload_n 0))) <|
  jn_cons (⟨jn_iload_n_ok (i := 1) (k := 1) (by decide +kernel) rfl, jn_iload_n_mo 1⟩ : jn_GEm jn_G0 jn_me69 1 (.inl (jn_iload_n 1))) <|
  jn_cons (jn_gc_of jn_G0_83 (jn_callV (i := 153) (na := 1) (ci := 6) (q := (RX6, TX6, 11)) (by decide +kernel) rfl (jn_in 231 (by decide +kernel) rfl) (jn_in 228 (by decide +kernel) rfl) (jn_in 230 (by decide +kernel) rfl) (jn_in 3 (by decide +kernel) rfl) (jn_in 54 (by decide +kernel) rfl) ⟨by decide, by decide, by decide +kernel⟩) : jn_GEm jn_G0 jn_me69 2 (.inr (.inl (83, 8, 2)))) <|
  jn_cons (⟨jn_astore_n_ok (i := 2) (k := 2) (by decide +kernel) rfl, jn_astore_n_mo 2⟩ : jn_GEm jn_G0 jn_me69 5 (.inl (jn_astore_n 2))) <|
  jn_cons (⟨jn_aload_n_ok (i := 2) (k := 2) (by decide +kernel) rfl, jn_aload_n_mo 2⟩ : jn_GEm jn_G0 jn_me69 6 (.inl (jn_aload_n 2))) <|
  jn_cons (⟨jn_ifnonnull_ok (t := 14) (off := 7) (by decide +kernel) (by decide), jn_ifnonnull_mo 14⟩ : jn_GEm jn_G0 jn_me69 7 (.inl (jn_ifnonnull 14))) <|
  jn_cons (⟨jn_null_ok (by decide +kernel), jn_null_mo⟩ : jn_GEm jn_G0 jn_me69 10 (.inl jn_null)) <|
  jn_cons (⟨jn_goto_ok (t := 18) (off := 7) (by decide +kernel) (by decide), jn_goto_mo 18⟩ : jn_GEm jn_G0 jn_me69 11 (.inl (jn_goto 18))) <|
  jn_cons (⟨jn_aload_n_ok (i := 2) (k := 2) (by decide +kernel) rfl, jn_aload_n_mo 2⟩ : jn_GEm jn_G0 jn_me69 14 (.inl (jn_aload_n 2))) <|
  jn_cons (⟨jn_getf_ok (ci := 0) (k := 0) (i := 157) (N := 2) (C := RX0) (T := TX0) (by decide +kernel) rfl (by decide) jn_u0 (jn_in 429 (by decide +kernel) rfl), jn_getf_mo 0 0⟩ : jn_GEm jn_G0 jn_me69 15 (.inl (jn_getf 0 0))) <|
  jn_cons (jn_gc_of jn_G0_85 (jn_callS (i := 135) (na := 1) (by decide +kernel) (jn_in 361 (by decide +kernel) rfl) (jn_in 359 (by decide +kernel) rfl) (jn_in 360 (by decide +kernel) rfl) (jn_in 54 (by decide +kernel) rfl) ⟨by decide, by decide, by decide +kernel⟩) : jn_GEm jn_G0 jn_me69 18 (.inr (.inl (85, 0, 1)))) <|
  jn_cons (⟨jn_istore_n_ok (i := 3) (k := 3) (by decide +kernel) rfl, jn_istore_n_mo 3⟩ : jn_GEm jn_G0 jn_me69 21 (.inl (jn_istore_n 3))) <|
  jn_cons (⟨jn_aload_n_ok (i := 2) (k := 2) (by decide +kernel) rfl, jn_aload_n_mo 2⟩ : jn_GEm jn_G0 jn_me69 22 (.inl (jn_aload_n 2))) <|
  jn_cons (⟨jn_ifnull_ok (t := 30) (off := 7) (by decide +kernel) (by decide), jn_ifnull_mo 30⟩ : jn_GEm jn_G0 jn_me69 23 (.inl (jn_ifnull 30))) <|
  jn_cons (⟨jn_iload_n_ok (i := 3) (k := 3) (by decide +kernel) rfl, jn_iload_n_mo 3⟩ : jn_GEm jn_G0 jn_me69 26 (.inl (jn_iload_n 3))) <|
  jn_cons (⟨jn_ifeq_ok (t := 36) (off := 9) (by decide +kernel) (by decide), jn_ifeq_mo 36⟩ : jn_GEm jn_G0 jn_me69 27 (.inl (jn_ifeq 36))) <|
  jn_cons (⟨jn_aload_n_ok (i := 0) (k := 0) (by decide +kernel) rfl, jn_aload_n_mo 0⟩ : jn_GEm jn_G0 jn_me69 30 (.inl (jn_aload_n 0))) <|
  jn_cons (⟨jn_iload_n_ok (i := 3) (k := 3) (by decide +kernel) rfl, jn_iload_n_mo 3⟩ : jn_GEm jn_G0 jn_me69 31 (.inl (jn_iload_n 3))) <|
  jn_cons (jn_gc_of jn_G0_80 (jn_callV (i := 66) (na := 1) (ci := 6) (q := (RX6, TX6, 11)) (by decide +kernel) rfl (jn_in 210 (by decide +kernel) rfl) (jn_in 207 (by decide +kernel) rfl) (jn_in 209 (by decide +kernel) rfl) (jn_in 0 (by decide +kernel) rfl) (jn_in 54 (by decide +kernel) rfl) ⟨by decide, by decide, by decide +kernel⟩) : jn_GEm jn_G0 jn_me69 32 (.inr (.inl (80, 8, 2)))) <|
  jn_cons (⟨(by decide +kernel), rfl⟩ : jn_GEm jn_G0 jn_me69 35 (.inr (.inr 1))) <|
  jn_cons (⟨jn_aload_n_ok (i := 0) (k := 0) (by decide +kernel) rfl, jn_aload_n_mo 0⟩ : jn_GEm jn_G0 jn_me69 36 (.inl (jn_aload_n 0))) <|
  jn_cons (⟨jn_getf_ok (ci := 6) (k := 9) (i := 53) (N := 11) (C := RX6) (T := TX6) (by decide +kernel) rfl (by decide) jn_u6 (jn_in 178 (by decide +kernel) rfl), jn_getf_mo 6 9⟩ : jn_GEm jn_G0 jn_me69 37 (.inl (jn_getf 6 9))) <|
  jn_cons (⟨jn_aload_n_ok (i := 2) (k := 2) (by decide +kernel) rfl, jn_aload_n_mo 2⟩ : jn_GEm jn_G0 jn_me69 40 (.inl (jn_aload_n 2))) <|
  jn_cons (⟨jn_getf_ok (ci := 0) (k := 0) (i := 157) (N := 2) (C := RX0) (T := TX0) (by decide +kernel) rfl (by decide) jn_u0 (jn_in 429 (by decide +kernel) rfl), jn_getf_mo 0 0⟩ : jn_GEm jn_G0 jn_me69 41 (.inl (jn_getf 0 0))) <| jn_nil
theorem jn_o69_1 : ∀ q ∈ jn_c69_1, jn_GEm jn_G0 jn_me69 q.1 q.2 :=
  jn_cons (⟨jn_iconst_ok (by decide +kernel), jn_iconst_mo 0⟩ : jn_GEm jn_G0 jn_me69 44 (.inl (jn_iconst 0))) <|
  jn_cons (jn_gc_of jn_G0_25 (jn_callV (i := 139) (na := 2) (ci := 3) (q := (RX3, TX3, 6)) (by decide +kernel) rfl (jn_in 365 (by decide +kernel) rfl) (jn_in 362 (by decide +kernel) rfl) (jn_in 363 (by decide +kernel) rfl) (jn_in 364 (by decide +kernel) rfl) (jn_in 56 (by decide +kernel) rfl) ⟨by decide, by decide, by decide +kernel⟩) : jn_GEm jn_G0 jn_me69 45 (.inr (.inl (25, 5, 3)))) <|
  jn_cons (⟨jn_aload_n_ok (i := 0) (k := 0) (by decide +kernel) rfl, jn_aload_n_mo 0⟩ : jn_GEm jn_G0 jn_me69 48 (.inl (jn_aload_n 0))) <|
  jn_cons (⟨jn_getf_ok (ci := 6) (k := 10) (i := 62) (N := 11) (C := RX6) (T := TX6) (by decide +kernel) rfl (by decide) jn_u6 (jn_in 179 (by decide +kernel) rfl), jn_getf_mo 6 10⟩ : jn_GEm jn_G0 jn_me69 49 (.inl (jn_getf 6 10))) <|
  jn_cons (⟨jn_aload_n_ok (i := 2) (k := 2) (by decide +kernel) rfl, jn_aload_n_mo 2⟩ : jn_GEm jn_G0 jn_me69 52 (.inl (jn_aload_n 2))) <|
  jn_cons (jn_gc_of jn_G0_8 (jn_callV (i := 214) (na := 1) (ci := 1) (q := (RX1, TX1, 4)) (by decide +kernel) rfl (jn_in 555 (by decide +kernel) rfl) (jn_in 552 (by decide +kernel) rfl) (jn_in 553 (by decide +kernel) rfl) (jn_in 554 (by decide +kernel) rfl) (jn_in 58 (by decide +kernel) rfl) ⟨by decide, by decide, by decide +kernel⟩) : jn_GEm jn_G0 jn_me69 53 (.inr (.inl (8, 3, 2)))) <|
  jn_cons (⟨(by decide +kernel), rfl⟩ : jn_GEm jn_G0 jn_me69 56 (.inr (.inr 1))) <| jn_nil
theorem jn_ok69 : jn_GM jn_G0 69 := jn_GM_of jn_G0_69 rfl rfl (by decide +kernel) (by decide) (jn_appd jn_o69_0 (jn_o69_1))
theorem jn_o70_0 : ∀ q ∈ jn_c70_0, jn_GEm jn_G0 jn_me70 q.1 q.2 :=
  jn_cons (⟨jn_aload_n_ok (i := 0) (k := 0) (by decide +kernel) rfl, jn_aload_n_mo 0⟩ : jn_GEm jn_G0 jn_me70 0 (.inl (jn_aload_n 0))) <|
  jn_cons (⟨jn_iload_n_ok (i := 1) (k := 1) (by decide +kernel) rfl, jn_iload_n_mo 1⟩ : jn_GEm jn_G0 jn_me70 1 (.inl (jn_iload_n 1))) <|
  jn_cons (jn_gc_of jn_G0_83 (jn_callV (i := 153) (na := 1) (ci := 6) (q := (RX6, TX6, 11)) (by decide +kernel) rfl (jn_in 231 (by decide +kernel) rfl) (jn_in 228 (by decide +kernel) rfl) (jn_in 230 (by decide +kernel) rfl) (jn_in 3 (by decide +kernel) rfl) (jn_in 54 (by decide +kernel) rfl) ⟨by decide, by decide, by decide +kernel⟩) : jn_GEm jn_G0 jn_me70 2 (.inr (.inl (83, 8, 2)))) <|
  jn_cons (⟨jn_astore_n_ok (i := 2) (k := 2) (by decide +kernel) rfl, jn_astore_n_mo 2⟩ : jn_GEm jn_G0 jn_me70 5 (.inl (jn_astore_n 2))) <|
  jn_cons (⟨jn_aload_n_ok (i := 2) (k := 2) (by decide +kernel) rfl, jn_aload_n_mo 2⟩ : jn_GEm jn_G0 jn_me70 6 (.inl (jn_aload_n 2))) <|
  jn_cons (⟨jn_ifnonnull_ok (t := 14) (off := 7) (by decide +kernel) (by decide), jn_ifnonnull_mo 14⟩ : jn_GEm jn_G0 jn_me70 7 (.inl (jn_ifnonnull 14))) <|
  jn_cons (⟨jn_null_ok (by decide +kernel), jn_null_mo⟩ : jn_GEm jn_G0 jn_me70 10 (.inl jn_null)) <|
  jn_cons (⟨jn_goto_ok (t := 18) (off := 7) (by decide +kernel) (by decide), jn_goto_mo 18⟩ : jn_GEm jn_G0 jn_me70 11 (.inl (jn_goto 18))) <|
  jn_cons (⟨jn_aload_n_ok (i := 2) (k := 2) (by decide +kernel) rfl, jn_aload_n_mo 2⟩ : jn_GEm jn_G0 jn_me70 14 (.inl (jn_aload_n 2))) <|
  jn_cons (⟨jn_getf_ok (ci := 0) (k := 0) (i := 157) (N := 2) (C := RX0) (T := TX0) (by decide +kernel) rfl (by decide) jn_u0 (jn_in 429 (by decide +kernel) rfl), jn_getf_mo 0 0⟩ : jn_GEm jn_G0 jn_me70 15 (.inl (jn_getf 0 0))) <|
  jn_cons (jn_gc_of jn_G0_85 (jn_callS (i := 135) (na := 1) (by decide +kernel) (jn_in 361 (by decide +kernel) rfl) (jn_in 359 (by decide +kernel) rfl) (jn_in 360 (by decide +kernel) rfl) (jn_in 54 (by decide +kernel) rfl) ⟨by decide, by decide, by decide +kernel⟩) : jn_GEm jn_G0 jn_me70 18 (.inr (.inl (85, 0, 1)))) <|
  jn_cons (⟨jn_istore_n_ok (i := 3) (k := 3) (by decide +kernel) rfl, jn_istore_n_mo 3⟩ : jn_GEm jn_G0 jn_me70 21 (.inl (jn_istore_n 3))) <|
  jn_cons (⟨jn_aload_n_ok (i := 2) (k := 2) (by decide +kernel) rfl, jn_aload_n_mo 2⟩ : jn_GEm jn_G0 jn_me70 22 (.inl (jn_aload_n 2))) <|
  jn_cons (⟨jn_ifnull_ok (t := 30) (off := 7) (by decide +kernel) (by decide), jn_ifnull_mo 30⟩ : jn_GEm jn_G0 jn_me70 23 (.inl (jn_ifnull 30))) <|
  jn_cons (⟨jn_iload_n_ok (i := 3) (k := 3) (by decide +kernel) rfl, jn_iload_n_mo 3⟩ : jn_GEm jn_G0 jn_me70 26 (.inl (jn_iload_n 3))) <|
  jn_cons (⟨jn_ifeq_ok (t := 36) (off := 9) (by decide +kernel) (by decide), jn_ifeq_mo 36⟩ : jn_GEm jn_G0 jn_me70 27 (.inl (jn_ifeq 36))) <|
  jn_cons (⟨jn_aload_n_ok (i := 0) (k := 0) (by decide +kernel) rfl, jn_aload_n_mo 0⟩ : jn_GEm jn_G0 jn_me70 30 (.inl (jn_aload_n 0))) <|
  jn_cons (⟨jn_iload_n_ok (i := 3) (k := 3) (by decide +kernel) rfl, jn_iload_n_mo 3⟩ : jn_GEm jn_G0 jn_me70 31 (.inl (jn_iload_n 3))) <|
  jn_cons (jn_gc_of jn_G0_80 (jn_callV (i := 66) (na := 1) (ci := 6) (q := (RX6, TX6, 11)) (by decide +kernel) rfl (jn_in 210 (by decide +kernel) rfl) (jn_in 207 (by decide +kernel) rfl) (jn_in 209 (by decide +kernel) rfl) (jn_in 0 (by decide +kernel) rfl) (jn_in 54 (by decide +kernel) rfl) ⟨by decide, by decide, by decide +kernel⟩) : jn_GEm jn_G0 jn_me70 32 (.inr (.inl (80, 8, 2)))) <|
  jn_cons (⟨(by decide +kernel), rfl⟩ : jn_GEm jn_G0 jn_me70 35 (.inr (.inr 1))) <|
  jn_cons (⟨jn_aload_n_ok (i := 0) (k := 0) (by decide +kernel) rfl, jn_aload_n_mo 0⟩ : jn_GEm jn_G0 jn_me70 36 (.inl (jn_aload_n 0))) <|
  jn_cons (⟨jn_getf_ok (ci := 6) (k := 9) (i := 53) (N := 11) (C := RX6) (T := TX6) (by decide +kernel) rfl (by decide) jn_u6 (jn_in 178 (by decide +kernel) rfl), jn_getf_mo 6 9⟩ : jn_GEm jn_G0 jn_me70 37 (.inl (jn_getf 6 9))) <|
  jn_cons (⟨jn_aload_n_ok (i := 2) (k := 2) (by decide +kernel) rfl, jn_aload_n_mo 2⟩ : jn_GEm jn_G0 jn_me70 40 (.inl (jn_aload_n 2))) <|
  jn_cons (⟨jn_getf_ok (ci := 0) (k := 0) (i := 157) (N := 2) (C := RX0) (T := TX0) (by decide +kernel) rfl (by decide) jn_u0 (jn_in 429 (by decide +kernel) rfl), jn_getf_mo 0 0⟩ : jn_GEm jn_G0 jn_me70 41 (.inl (jn_getf 0 0))) <| jn_nil
theorem jn_o70_1 : ∀ q ∈ jn_c70_1, jn_GEm jn_G0 jn_me70 q.1 q.2 :=
  jn_cons (⟨jn_iconst_ok (by decide +kernel), jn_iconst_mo 0⟩ : jn_GEm jn_G0 jn_me70 44 (.inl (jn_iconst 0))) <|
  jn_cons (jn_gc_of jn_G0_25 (jn_callV (i := 139) (na := 2) (ci := 3) (q := (RX3, TX3, 6)) (by decide +kernel) rfl (jn_in 365 (by decide +kernel) rfl) (jn_in 362 (by decide +kernel) rfl) (jn_in 363 (by decide +kernel) rfl) (jn_in 364 (by decide +kernel) rfl) (jn_in 56 (by decide +kernel) rfl) ⟨by decide, by decide, by decide +kernel⟩) : jn_GEm jn_G0 jn_me70 45 (.inr (.inl (25, 5, 3)))) <|
  jn_cons (⟨jn_aload_n_ok (i := 0) (k := 0) (by decide +kernel) rfl, jn_aload_n_mo 0⟩ : jn_GEm jn_G0 jn_me70 48 (.inl (jn_aload_n 0))) <|
  jn_cons (⟨jn_getf_ok (ci := 6) (k := 10) (i := 62) (N := 11) (C := RX6) (T := TX6) (by decide +kernel) rfl (by decide) jn_u6 (jn_in 179 (by decide +kernel) rfl), jn_getf_mo 6 10⟩ : jn_GEm jn_G0 jn_me70 49 (.inl (jn_getf 6 10))) <|
  jn_cons (⟨jn_aload_n_ok (i := 2) (k := 2) (by decide +kernel) rfl, jn_aload_n_mo 2⟩ : jn_GEm jn_G0 jn_me70 52 (.inl (jn_aload_n 2))) <|
  jn_cons (jn_gc_of jn_G0_8 (jn_callV (i := 214) (na := 1) (ci := 1) (q := (RX1, TX1, 4)) (by decide +kernel) rfl (jn_in 555 (by decide +kernel) rfl) (jn_in 552 (by decide +kernel) rfl) (jn_in 553 (by decide +kernel) rfl) (jn_in 554 (by decide +kernel) rfl) (jn_in 58 (by decide +kernel) rfl) ⟨by decide, by decide, by decide +kernel⟩) : jn_GEm jn_G0 jn_me70 53 (.inr (.inl (8, 3, 2)))) <|
  jn_cons (⟨jn_iconst_ok (by decide +kernel), jn_iconst_mo 1⟩ : jn_GEm jn_G0 jn_me70 56 (.inl (jn_iconst 1))) <|
  jn_cons (⟨jn_iadd_ok (by decide +kernel), jn_iadd_mo⟩ : jn_GEm jn_G0 jn_me70 57 (.inl jn_iadd)) <|
  jn_cons (⟨jn_istore_ok (i := 4) (by decide +kernel), jn_istore_mo 4⟩ : jn_GEm jn_G0 jn_me70 58 (.inl (jn_istore 4))) <|
  jn_cons (⟨jn_iload_ok (i := 4) (by decide +kernel), jn_iload_mo 4⟩ : jn_GEm jn_G0 jn_me70 60 (.inl (jn_iload 4))) <|
  jn_cons (⟨jn_bipush_ok (n := 21) (v := 21) (by decide +kernel) (by decide), jn_bipush_mo 21⟩ : jn_GEm jn_G0 jn_me70 62 (.inl (jn_bipush 21))) <|
  jn_cons (⟨jn_icle_ok (t := 74) (off := 10) (by decide +kernel) (by decide), jn_icle_mo 74⟩ : jn_GEm jn_G0 jn_me70 64 (.inl (jn_icle 74))) <|
  jn_cons (⟨jn_aload_n_ok (i := 0) (k := 0) (by decide +kernel) rfl, jn_aload_n_mo 0⟩ : jn_GEm jn_G0 jn_me70 67 (.inl (jn_aload_n 0))) <|
  jn_cons (⟨jn_bipush_ok (n := (-8)) (v := (-8)) (by decide +kernel) (by decide), jn_bipush_mo (-8)⟩ : jn_GEm jn_G0 jn_me70 68 (.inl (jn_bipush (-8)))) <|
  jn_cons (jn_gc_of jn_G0_80 (jn_callV (i := 66) (na := 1) (ci := 6) (q := (RX6, TX6, 11)) (by decide +kernel) rfl (jn_in 210 (by decide +kernel) rfl) (jn_in 207 (by decide +kernel) rfl) (jn_in 209 (by decide +kernel) rfl) (jn_in 0 (by decide +kernel) rfl) (jn_in 54 (by decide +kernel) rfl) ⟨by decide, by decide, by decide +kernel⟩) : jn_GEm jn_G0 jn_me70 70 (.inr (.inl (80, 8, 2)))) <|
  jn_cons (⟨(by decide +kernel), rfl⟩ : jn_GEm jn_G0 jn_me70 73 (.inr (.inr 1))) <|
  jn_cons (⟨jn_aload_n_ok (i := 0) (k := 0) (by decide +kernel) rfl, jn_aload_n_mo 0⟩ : jn_GEm jn_G0 jn_me70 74 (.inl (jn_aload_n 0))) <|
  jn_cons (⟨jn_getf_ok (ci := 6) (k := 10) (i := 62) (N := 11) (C := RX6) (T := TX6) (by decide +kernel) rfl (by decide) jn_u6 (jn_in 179 (by decide +kernel) rfl), jn_getf_mo 6 10⟩ : jn_GEm jn_G0 jn_me70 75 (.inl (jn_getf 6 10))) <|
  jn_cons (⟨jn_aload_n_ok (i := 2) (k := 2) (by decide +kernel) rfl, jn_aload_n_mo 2⟩ : jn_GEm jn_G0 jn_me70 78 (.inl (jn_aload_n 2))) <|
  jn_cons (⟨jn_getf_ok (ci := 0) (k := 0) (i := 157) (N := 2) (C := RX0) (T := TX0) (by decide +kernel) rfl (by decide) jn_u0 (jn_in 429 (by decide +kernel) rfl), jn_getf_mo 0 0⟩ : jn_GEm jn_G0 jn_me70 79 (.inl (jn_getf 0 0))) <|
  jn_cons (⟨jn_aload_n_ok (i := 2) (k := 2) (by decide +kernel) rfl, jn_aload_n_mo 2⟩ : jn_GEm jn_G0 jn_me70 82 (.inl (jn_aload_n 2))) <|
  jn_cons (⟨jn_getf_ok (ci := 0) (k := 1) (i := 161) (N := 2) (C := RX0) (T := TX0) (by decide +kernel) rfl (by decide) jn_u0 (jn_in 432 (by decide +kernel) rfl), jn_getf_mo 0 1⟩ : jn_GEm jn_G0 jn_me70 83 (.inl (jn_getf 0 1))) <|
  jn_cons (⟨jn_iload_ok (i := 4) (by decide +kernel), jn_iload_mo 4⟩ : jn_GEm jn_G0 jn_me70 86 (.inl (jn_iload 4))) <|
  jn_cons (jn_gc_of jn_G0_9 (jn_callV (i := 218) (na := 3) (ci := 1) (q := (RX1, TX1, 4)) (by decide +kernel) rfl (jn_in 380 (by decide +kernel) rfl) (jn_in 562 (by decide +kernel) rfl) (jn_in 378 (by decide +kernel) rfl) (jn_in 379 (by decide +kernel) rfl) (jn_in 58 (by decide +kernel) rfl) ⟨by decide, by decide, by decide +kernel⟩) : jn_GEm jn_G0 jn_me70 88 (.inr (.inl (9, 3, 4)))) <| jn_nil
theorem jn_o70_2 : ∀ q ∈ jn_c70_2, jn_GEm jn_G0 jn_me70 q.1 q.2 :=
  jn_cons (⟨jn_pop_ok (by decide +kernel), jn_pop_mo⟩ : jn_GEm jn_G0 jn_me70 91 (.inl jn_pop)) <|
  jn_cons (⟨jn_aload_n_ok (i := 0) (k := 0) (by decide +kernel) rfl, jn_aload_n_mo 0⟩ : jn_GEm jn_G0 jn_me70 92 (.inl (jn_aload_n 0))) <|
  jn_cons (⟨jn_getf_ok (ci := 6) (k := 10) (i := 62) (N := 11) (C := RX6) (T := TX6) (by decide +kernel) rfl (by decide) jn_u6 (jn_in 179 (by decide +kernel) rfl), jn_getf_mo 6 10⟩ : jn_GEm jn_G0 jn_me70 93 (.inl (jn_getf 6 10))) <|
  jn_cons (⟨jn_getf_ok (ci := 1) (k := 1) (i := 222) (N := 4) (C := RX1) (T := TX1) (by decide +kernel) rfl (by decide) jn_u1 (jn_in 157 (by decide +kernel) rfl), jn_getf_mo 1 1⟩ : jn_GEm jn_G0 jn_me70 96 (.inl (jn_getf 1 1))) <|
  jn_cons (⟨jn_getf_ok (ci := 5) (k := 0) (i := 226) (N := 1) (C := RX5) (T := TX5) (by decide +kernel) rfl (by decide) jn_u5 (jn_in 151 (by decide +kernel) rfl), jn_getf_mo 5 0⟩ : jn_GEm jn_G0 jn_me70 99 (.inl (jn_getf 5 0))) <|
  jn_cons (⟨jn_iconst_ok (by decide +kernel), jn_iconst_mo 0⟩ : jn_GEm jn_G0 jn_me70 102 (.inl (jn_iconst 0))) <|
  jn_cons (⟨jn_aload_n_ok (i := 0) (k := 0) (by decide +kernel) rfl, jn_aload_n_mo 0⟩ : jn_GEm jn_G0 jn_me70 103 (.inl (jn_aload_n 0))) <|
  jn_cons (⟨jn_getf_ok (ci := 6) (k := 4) (i := 28) (N := 11) (C := RX6) (T := TX6) (by decide +kernel) rfl (by decide) jn_u6 (jn_in 173 (by decide +kernel) rfl), jn_getf_mo 6 4⟩ : jn_GEm jn_G0 jn_me70 104 (.inl (jn_getf 6 4))) <|
  jn_cons (⟨jn_iconst_ok (by decide +kernel), jn_iconst_mo 0⟩ : jn_GEm jn_G0 jn_me70 107 (.inl (jn_iconst 0))) <|
  jn_cons (⟨jn_bipush_ok (n := 6) (v := 6) (by decide +kernel) (by decide), jn_bipush_mo 6⟩ : jn_GEm jn_G0 jn_me70 108 (.inl (jn_bipush 6))) <|
  jn_cons (⟨jn_acopy_ok (i := 231) (by decide +kernel) (jn_in 563 (by decide +kernel) rfl) (jn_in 448 (by decide +kernel) rfl) (jn_in 447 (by decide +kernel) rfl) (jn_in 64 (by decide +kernel) rfl), jn_acopy_mo⟩ : jn_GEm jn_G0 jn_me70 110 (.inl jn_acopy)) <|
  jn_cons (⟨jn_aload_n_ok (i := 0) (k := 0) (by decide +kernel) rfl, jn_aload_n_mo 0⟩ : jn_GEm jn_G0 jn_me70 113 (.inl (jn_aload_n 0))) <|
  jn_cons (⟨jn_aload_n_ok (i := 2) (k := 2) (by decide +kernel) rfl, jn_aload_n_mo 2⟩ : jn_GEm jn_G0 jn_me70 114 (.inl (jn_aload_n 2))) <|
  jn_cons (⟨jn_getf_ok (ci := 0) (k := 0) (i := 157) (N := 2) (C := RX0) (T := TX0) (by decide +kernel) rfl (by decide) jn_u0 (jn_in 429 (by decide +kernel) rfl), jn_getf_mo 0 0⟩ : jn_GEm jn_G0 jn_me70 115 (.inl (jn_getf 0 0))) <|
  jn_cons (⟨jn_getf_ok (ci := 2) (k := 1) (i := 97) (N := 3) (C := RX2) (T := TX2) (by decide +kernel) rfl (by decide) jn_u2 (jn_in 106 (by decide +kernel) rfl), jn_getf_mo 2 1⟩ : jn_GEm jn_G0 jn_me70 118 (.inl (jn_getf 2 1))) <|
  jn_cons (⟨jn_putf_ok (ci := 6) (k := 5) (κ := 0) (i := 32) (N := 11) (C := RX6) (T := TX6) (ty0 := tyX6) (ty := .int) (by decide +kernel) rfl (by decide) jn_u6 (jn_in 174 (by decide +kernel) rfl) tyX6_ok nmX6 rfl (by decide +kernel) jn_po_int, jn_putf_mo 6 5 0⟩ : jn_GEm jn_G0 jn_me70 121 (.inl (jn_putf 6 5 0))) <|
  jn_cons (⟨jn_iload_ok (i := 4) (by decide +kernel), jn_iload_mo 4⟩ : jn_GEm jn_G0 jn_me70 124 (.inl (jn_iload 4))) <|
  jn_cons (⟨(by decide +kernel), rfl⟩ : jn_GEm jn_G0 jn_me70 126 (.inr (.inr 1))) <| jn_nil
theorem jn_ok70 : jn_GM jn_G0 70 := jn_GM_of jn_G0_70 rfl rfl (by decide +kernel) (by decide) (jn_appd jn_o70_0 (jn_appd jn_o70_1 (jn_o70_2)))
theorem jn_o71_0 : ∀ q ∈ jn_c71_0, jn_GEm jn_G0 jn_me71 q.1 q.2 :=
  jn_cons (⟨jn_aload_n_ok (i := 0) (k := 0) (by decide +kernel) rfl, jn_aload_n_mo 0⟩ : jn_GEm jn_G0 jn_me71 0 (.inl (jn_aload_n 0))) <|
  jn_cons (⟨jn_iload_n_ok (i := 1) (k := 1) (by decide +kernel) rfl, jn_iload_n_mo 1⟩ : jn_GEm jn_G0 jn_me71 1 (.inl (jn_iload_n 1))) <|
  jn_cons (jn_gc_of jn_G0_83 (jn_callV (i := 153) (na := 1) (ci := 6) (q := (RX6, TX6, 11)) (by decide +kernel) rfl (jn_in 231 (by decide +kernel) rfl) (jn_in 228 (by decide +kernel) rfl) (jn_in 230 (by decide +kernel) rfl) (jn_in 3 (by decide +kernel) rfl) (jn_in 54 (by decide +kernel) rfl) ⟨by decide, by decide, by decide +kernel⟩) : jn_GEm jn_G0 jn_me71 2 (.inr (.inl (83, 8, 2)))) <|
  jn_cons (⟨jn_astore_n_ok (i := 2) (k := 2) (by decide +kernel) rfl, jn_astore_n_mo 2⟩ : jn_GEm jn_G0 jn_me71 5 (.inl (jn_astore_n 2))) <|
  jn_cons (⟨jn_aload_n_ok (i := 2) (k := 2) (by decide +kernel) rfl, jn_aload_n_mo 2⟩ : jn_GEm jn_G0 jn_me71 6 (.inl (jn_aload_n 2))) <|
  jn_cons (⟨jn_ifnonnull_ok (t := 18) (off := 11) (by decide +kernel) (by decide), jn_ifnonnull_mo 18⟩ : jn_GEm jn_G0 jn_me71 7 (.inl (jn_ifnonnull 18))) <|
  jn_cons (⟨jn_aload_n_ok (i := 0) (k := 0) (by decide +kernel) rfl, jn_aload_n_mo 0⟩ : jn_GEm jn_G0 jn_me71 10 (.inl (jn_aload_n 0))) <|
  jn_cons (⟨jn_bipush_ok (n := (-3)) (v := (-3)) (by decide +kernel) (by decide), jn_bipush_mo (-3)⟩ : jn_GEm jn_G0 jn_me71 11 (.inl (jn_bipush (-3)))) <|
  jn_cons (jn_gc_of jn_G0_81 (jn_callV (i := 113) (na := 1) (ci := 6) (q := (RX6, TX6, 11)) (by decide +kernel) rfl (jn_in 291 (by decide +kernel) rfl) (jn_in 288 (by decide +kernel) rfl) (jn_in 290 (by decide +kernel) rfl) (jn_in 5 (by decide +kernel) rfl) (jn_in 54 (by decide +kernel) rfl) ⟨by decide, by decide, by decide +kernel⟩) : jn_GEm jn_G0 jn_me71 13 (.inr (.inl (81, 8, 2)))) <|
  jn_cons (⟨jn_i2l_ok (by decide +kernel), jn_i2l_mo⟩ : jn_GEm jn_G0 jn_me71 16 (.inl jn_i2l)) <|
  jn_cons (⟨(by decide +kernel), rfl⟩ : jn_GEm jn_G0 jn_me71 17 (.inr (.inr 3))) <|
  jn_cons (⟨jn_aload_n_ok (i := 2) (k := 2) (by decide +kernel) rfl, jn_aload_n_mo 2⟩ : jn_GEm jn_G0 jn_me71 18 (.inl (jn_aload_n 2))) <|
  jn_cons (⟨jn_getf_ok (ci := 0) (k := 0) (i := 157) (N := 2) (C := RX0) (T := TX0) (by decide +kernel) rfl (by decide) jn_u0 (jn_in 429 (by decide +kernel) rfl), jn_getf_mo 0 0⟩ : jn_GEm jn_G0 jn_me71 19 (.inl (jn_getf 0 0))) <|
  jn_cons (jn_gc_of jn_G0_20 (jn_callV (i := 106) (na := 0) (ci := 2) (q := (RX2, TX2, 3)) (by decide +kernel) rfl (jn_in 251 (by decide +kernel) rfl) (jn_in 278 (by decide +kernel) rfl) (jn_in 249 (by decide +kernel) rfl) (jn_in 250 (by decide +kernel) rfl) (jn_in 57 (by decide +kernel) rfl) ⟨by decide, by decide, by decide +kernel⟩) : jn_GEm jn_G0 jn_me71 22 (.inr (.inl (20, 4, 1)))) <|
  jn_cons (⟨jn_ifne_ok (t := 36) (off := 11) (by decide +kernel) (by decide), jn_ifne_mo 36⟩ : jn_GEm jn_G0 jn_me71 25 (.inl (jn_ifne 36))) <|
  jn_cons (⟨jn_aload_n_ok (i := 0) (k := 0) (by decide +kernel) rfl, jn_aload_n_mo 0⟩ : jn_GEm jn_G0 jn_me71 28 (.inl (jn_aload_n 0))) <|
  jn_cons (⟨jn_bipush_ok (n := (-5)) (v := (-5)) (by decide +kernel) (by decide), jn_bipush_mo (-5)⟩ : jn_GEm jn_G0 jn_me71 29 (.inl (jn_bipush (-5)))) <|
  jn_cons (jn_gc_of jn_G0_81 (jn_callV (i := 113) (na := 1) (ci := 6) (q := (RX6, TX6, 11)) (by decide +kernel) rfl (jn_in 291 (by decide +kernel) rfl) (jn_in 288 (by decide +kernel) rfl) (jn_in 290 (by decide +kernel) rfl) (jn_in 5 (by decide +kernel) rfl) (jn_in 54 (by decide +kernel) rfl) ⟨by decide, by decide, by decide +kernel⟩) : jn_GEm jn_G0 jn_me71 31 (.inr (.inl (81, 8, 2)))) <|
  jn_cons (⟨jn_i2l_ok (by decide +kernel), jn_i2l_mo⟩ : jn_GEm jn_G0 jn_me71 34 (.inl jn_i2l)) <|
  jn_cons (⟨(by decide +kernel), rfl⟩ : jn_GEm jn_G0 jn_me71 35 (.inr (.inr 3))) <|
  jn_cons (⟨jn_aload_n_ok (i := 2) (k := 2) (by decide +kernel) rfl, jn_aload_n_mo 2⟩ : jn_GEm jn_G0 jn_me71 36 (.inl (jn_aload_n 2))) <|
  jn_cons (jn_gc_of jn_G0_1 (jn_callV (i := 164) (na := 0) (ci := 0) (q := (RX0, TX0, 2)) (by decide +kernel) rfl (jn_in 464 (by decide +kernel) rfl) (jn_in 461 (by decide +kernel) rfl) (jn_in 462 (by decide +kernel) rfl) (jn_in 463 (by decide +kernel) rfl) (jn_in 63 (by decide +kernel) rfl) ⟨by decide, by decide, by decide +kernel⟩) : jn_GEm jn_G0 jn_me71 37 (.inr (.inl (1, 2, 1)))) <|
  jn_cons (⟨jn_ifeq_ok (t := 51) (off := 11) (by decide +kernel) (by decide), jn_ifeq_mo 51⟩ : jn_GEm jn_G0 jn_me71 40 (.inl (jn_ifeq 51))) <|
  jn_cons (⟨jn_aload_n_ok (i := 0) (k := 0) (by decide +kernel) rfl, jn_aload_n_mo 0⟩ : jn_GEm jn_G0 jn_me71 43 (.inl (jn_aload_n 0))) <| jn_nil
theorem jn_o71_1 : ∀ q ∈ jn_c71_1, jn_GEm jn_G0 jn_me71 q.1 q.2 :=
  jn_cons (⟨jn_bipush_ok (n := (-7)) (v := (-7)) (by decide +kernel) (by decide), jn_bipush_mo (-7)⟩ : jn_GEm jn_G0 jn_me71 44 (.inl (jn_bipush (-7)))) <|
  jn_cons (jn_gc_of jn_G0_81 (jn_callV (i := 113) (na := 1) (ci := 6) (q := (RX6, TX6, 11)) (by decide +kernel) rfl (jn_in 291 (by decide +kernel) rfl) (jn_in 288 (by decide +kernel) rfl) (jn_in 290 (by decide +kernel) rfl) (jn_in 5 (by decide +kernel) rfl) (jn_in 54 (by decide +kernel) rfl) ⟨by decide, by decide, by decide +kernel⟩) : jn_GEm jn_G0 jn_me71 46 (.inr (.inl (81, 8, 2)))) <|
  jn_cons (⟨jn_i2l_ok (by decide +kernel), jn_i2l_mo⟩ : jn_GEm jn_G0 jn_me71 49 (.inl jn_i2l)) <|
  jn_cons (⟨(by decide +kernel), rfl⟩ : jn_GEm jn_G0 jn_me71 50 (.inr (.inr 3))) <|
  jn_cons (⟨jn_aload_n_ok (i := 0) (k := 0) (by decide +kernel) rfl, jn_aload_n_mo 0⟩ : jn_GEm jn_G0 jn_me71 51 (.inl (jn_aload_n 0))) <|
  jn_cons (⟨jn_getf_ok (ci := 6) (k := 9) (i := 53) (N := 11) (C := RX6) (T := TX6) (by decide +kernel) rfl (by decide) jn_u6 (jn_in 178 (by decide +kernel) rfl), jn_getf_mo 6 9⟩ : jn_GEm jn_G0 jn_me71 52 (.inl (jn_getf 6 9))) <|
  jn_cons (⟨jn_aload_n_ok (i := 2) (k := 2) (by decide +kernel) rfl, jn_aload_n_mo 2⟩ : jn_GEm jn_G0 jn_me71 55 (.inl (jn_aload_n 2))) <|
  jn_cons (⟨jn_getf_ok (ci := 0) (k := 0) (i := 157) (N := 2) (C := RX0) (T := TX0) (by decide +kernel) rfl (by decide) jn_u0 (jn_in 429 (by decide +kernel) rfl), jn_getf_mo 0 0⟩ : jn_GEm jn_G0 jn_me71 56 (.inl (jn_getf 0 0))) <|
  jn_cons (⟨jn_iconst_ok (by decide +kernel), jn_iconst_mo 0⟩ : jn_GEm jn_G0 jn_me71 59 (.inl (jn_iconst 0))) <|
  jn_cons (jn_gc_of jn_G0_25 (jn_callV (i := 139) (na := 2) (ci := 3) (q := (RX3, TX3, 6)) (by decide +kernel) rfl (jn_in 365 (by decide +kernel) rfl) (jn_in 362 (by decide +kernel) rfl) (jn_in 363 (by decide +kernel) rfl) (jn_in 364 (by decide +kernel) rfl) (jn_in 56 (by decide +kernel) rfl) ⟨by decide, by decide, by decide +kernel⟩) : jn_GEm jn_G0 jn_me71 60 (.inr (.inl (25, 5, 3)))) <|
  jn_cons (⟨jn_aload_n_ok (i := 0) (k := 0) (by decide +kernel) rfl, jn_aload_n_mo 0⟩ : jn_GEm jn_G0 jn_me71 63 (.inl (jn_aload_n 0))) <|
  jn_cons (⟨jn_getf_ok (ci := 6) (k := 9) (i := 53) (N := 11) (C := RX6) (T := TX6) (by decide +kernel) rfl (by decide) jn_u6 (jn_in 178 (by decide +kernel) rfl), jn_getf_mo 6 9⟩ : jn_GEm jn_G0 jn_me71 64 (.inl (jn_getf 6 9))) <|
  jn_cons (⟨jn_aload_n_ok (i := 2) (k := 2) (by decide +kernel) rfl, jn_aload_n_mo 2⟩ : jn_GEm jn_G0 jn_me71 67 (.inl (jn_aload_n 2))) <|
  jn_cons (⟨jn_getf_ok (ci := 0) (k := 1) (i := 161) (N := 2) (C := RX0) (T := TX0) (by decide +kernel) rfl (by decide) jn_u0 (jn_in 432 (by decide +kernel) rfl), jn_getf_mo 0 1⟩ : jn_GEm jn_G0 jn_me71 68 (.inl (jn_getf 0 1))) <|
  jn_cons (jn_gc_of jn_G0_28 (jn_callV (i := 237) (na := 1) (ci := 3) (q := (RX3, TX3, 6)) (by decide +kernel) rfl (jn_in 571 (by decide +kernel) rfl) (jn_in 568 (by decide +kernel) rfl) (jn_in 569 (by decide +kernel) rfl) (jn_in 570 (by decide +kernel) rfl) (jn_in 56 (by decide +kernel) rfl) ⟨by decide, by decide, by decide +kernel⟩) : jn_GEm jn_G0 jn_me71 71 (.inr (.inl (28, 5, 2)))) <|
  jn_cons (⟨(by decide +kernel), rfl⟩ : jn_GEm jn_G0 jn_me71 74 (.inr (.inr 3))) <| jn_nil
theorem jn_ok71 : jn_GM jn_G0 71 := jn_GM_of jn_G0_71 rfl rfl (by decide +kernel) (by decide) (jn_appd jn_o71_0 (jn_o71_1))
theorem jn_o72_0 : ∀ q ∈ jn_c72_0, jn_GEm jn_G0 jn_me72 q.1 q.2 :=
  jn_cons (⟨jn_aload_n_ok (i := 0) (k := 0) (by decide +kernel) rfl, jn_aload_n_mo 0⟩ : jn_GEm jn_G0 jn_me72 0 (.inl (jn_aload_n 0))) <|
  jn_cons (⟨jn_iload_n_ok (i := 1) (k := 1) (by decide +kernel) rfl, jn_iload_n_mo 1⟩ : jn_GEm jn_G0 jn_me72 1 (.inl (jn_iload_n 1))) <|
  jn_cons (jn_gc_of jn_G0_83 (jn_callV (i := 153) (na := 1) (ci := 6) (q := (RX6, TX6, 11)) (by decide +kernel) rfl (jn_in 231 (by decide +kernel) rfl) (jn_in 228 (by decide +kernel) rfl) (jn_in 230 (by decide +kernel) rfl) (jn_in 3 (by decide +kernel) rfl) (jn_in 54 (by decide +kernel) rfl) ⟨by decide, by decide, by decide +kernel⟩) : jn_GEm jn_G0 jn_me72 2 (.inr (.inl (83, 8, 2)))) <|
  jn_cons (⟨jn_astore_n_ok (i := 3) (k := 3) (by decide +kernel) rfl, jn_astore_n_mo 3⟩ : jn_GEm jn_G0 jn_me72 5 (.inl (jn_astore_n 3))) <|
  jn_cons (⟨jn_aload_n_ok (i := 3) (k := 3) (by decide +kernel) rfl, jn_aload_n_mo 3⟩ : jn_GEm jn_G0 jn_me72 6 (.inl (jn_aload_n 3))) <|
  jn_cons (⟨jn_ifnull_ok (t := 21) (off := 14) (by decide +kernel) (by decide), jn_ifnull_mo 21⟩ : jn_GEm jn_G0 jn_me72 7 (.inl (jn_ifnull 21))) <|
  jn_cons (⟨jn_aload_n_ok (i := 3) (k := 3) (by decide +kernel) rfl, jn_aload_n_mo 3⟩ : jn_GEm jn_G0 jn_me72 10 (.inl (jn_aload_n 3))) <|
  jn_cons (⟨jn_getf_ok (ci := 0) (k := 0) (i := 157) (N := 2) (C := RX0) (T := TX0) (by decide +kernel) rfl (by decide) jn_u0 (jn_in 429 (by decide +kernel) rfl), jn_getf_mo 0 0⟩ : jn_GEm jn_G0 jn_me72 11 (.inl (jn_getf 0 0))) <|
  jn_cons (⟨jn_iload_n_ok (i := 2) (k := 2) (by decide +kernel) rfl, jn_iload_n_mo 2⟩ : jn_GEm jn_G0 jn_me72 14 (.inl (jn_iload_n 2))) <|
  jn_cons (jn_gc_of jn_G0_12 (jn_callV (i := 77) (na := 1) (ci := 2) (q := (RX2, TX2, 3)) (by decide +kernel) rfl (jn_in 223 (by decide +kernel) rfl) (jn_in 220 (by decide +kernel) rfl) (jn_in 221 (by decide +kernel) rfl) (jn_in 222 (by decide +kernel) rfl) (jn_in 57 (by decide +kernel) rfl) ⟨by decide, by decide, by decide +kernel⟩) : jn_GEm jn_G0 jn_me72 15 (.inr (.inl (12, 4, 2)))) <|
  jn_cons (⟨jn_ifne_ok (t := 28) (off := 10) (by decide +kernel) (by decide), jn_ifne_mo 28⟩ : jn_GEm jn_G0 jn_me72 18 (.inl (jn_ifne 28))) <|
  jn_cons (⟨jn_aload_n_ok (i := 0) (k := 0) (by decide +kernel) rfl, jn_aload_n_mo 0⟩ : jn_GEm jn_G0 jn_me72 21 (.inl (jn_aload_n 0))) <|
  jn_cons (⟨jn_bipush_ok (n := (-3)) (v := (-3)) (by decide +kernel) (by decide), jn_bipush_mo (-3)⟩ : jn_GEm jn_G0 jn_me72 22 (.inl (jn_bipush (-3)))) <|
  jn_cons (jn_gc_of jn_G0_80 (jn_callV (i := 66) (na := 1) (ci := 6) (q := (RX6, TX6, 11)) (by decide +kernel) rfl (jn_in 210 (by decide +kernel) rfl) (jn_in 207 (by decide +kernel) rfl) (jn_in 209 (by decide +kernel) rfl) (jn_in 0 (by decide +kernel) rfl) (jn_in 54 (by decide +kernel) rfl) ⟨by decide, by decide, by decide +kernel⟩) : jn_GEm jn_G0 jn_me72 24 (.inr (.inl (80, 8, 2)))) <|
  jn_cons (⟨(by decide +kernel), rfl⟩ : jn_GEm jn_G0 jn_me72 27 (.inr (.inr 1))) <|
  jn_cons (⟨jn_aload_n_ok (i := 3) (k := 3) (by decide +kernel) rfl, jn_aload_n_mo 3⟩ : jn_GEm jn_G0 jn_me72 28 (.inl (jn_aload_n 3))) <|
  jn_cons (⟨jn_getf_ok (ci := 0) (k := 0) (i := 157) (N := 2) (C := RX0) (T := TX0) (by decide +kernel) rfl (by decide) jn_u0 (jn_in 429 (by decide +kernel) rfl), jn_getf_mo 0 0⟩ : jn_GEm jn_G0 jn_me72 29 (.inl (jn_getf 0 0))) <|
  jn_cons (jn_gc_of jn_G0_20 (jn_callV (i := 106) (na := 0) (ci := 2) (q := (RX2, TX2, 3)) (by decide +kernel) rfl (jn_in 251 (by decide +kernel) rfl) (jn_in 278 (by decide +kernel) rfl) (jn_in 249 (by decide +kernel) rfl) (jn_in 250 (by decide +kernel) rfl) (jn_in 57 (by decide +kernel) rfl) ⟨by decide, by decide, by decide +kernel⟩) : jn_GEm jn_G0 jn_me72 32 (.inr (.inl (20, 4, 1)))) <|
  jn_cons (⟨jn_ifne_ok (t := 45) (off := 10) (by decide +kernel) (by decide), jn_ifne_mo 45⟩ : jn_GEm jn_G0 jn_me72 35 (.inl (jn_ifne 45))) <|
  jn_cons (⟨jn_aload_n_ok (i := 0) (k := 0) (by decide +kernel) rfl, jn_aload_n_mo 0⟩ : jn_GEm jn_G0 jn_me72 38 (.inl (jn_aload_n 0))) <|
  jn_cons (⟨jn_bipush_ok (n := (-5)) (v := (-5)) (by decide +kernel) (by decide), jn_bipush_mo (-5)⟩ : jn_GEm jn_G0 jn_me72 39 (.inl (jn_bipush (-5)))) <|
  jn_cons (jn_gc_of jn_G0_80 (jn_callV (i := 66) (na := 1) (ci := 6) (q := (RX6, TX6, 11)) (by decide +kernel) rfl (jn_in 210 (by decide +kernel) rfl) (jn_in 207 (by decide +kernel) rfl) (jn_in 209 (by decide +kernel) rfl) (jn_in 0 (by decide +kernel) rfl) (jn_in 54 (by decide +kernel) rfl) ⟨by decide, by decide, by decide +kernel⟩) : jn_GEm jn_G0 jn_me72 41 (.inr (.inl (80, 8, 2)))) <|
  jn_cons (⟨(by decide +kernel), rfl⟩ : jn_GEm jn_G0 jn_me72 44 (.inr (.inr 1))) <|
  jn_cons (⟨jn_aload_n_ok (i := 3) (k := 3) (by decide +kernel) rfl, jn_aload_n_mo 3⟩ : jn_GEm jn_G0 jn_me72 45 (.inl (jn_aload_n 3))) <| jn_nil
theorem jn_o72_1 : ∀ q ∈ jn_c72_1, jn_GEm jn_G0 jn_me72 q.1 q.2 :=
  jn_cons (⟨jn_iload_n_ok (i := 2) (k := 2) (by decide +kernel) rfl, jn_iload_n_mo 2⟩ : jn_GEm jn_G0 jn_me72 46 (.inl (jn_iload_n 2))) <|
  jn_cons (jn_gc_of jn_G0_2 (jn_callV (i := 167) (na := 1) (ci := 0) (q := (RX0, TX0, 2)) (by decide +kernel) rfl (jn_in 472 (by decide +kernel) rfl) (jn_in 469 (by decide +kernel) rfl) (jn_in 470 (by decide +kernel) rfl) (jn_in 471 (by decide +kernel) rfl) (jn_in 63 (by decide +kernel) rfl) ⟨by decide, by decide, by decide +kernel⟩) : jn_GEm jn_G0 jn_me72 47 (.inr (.inl (2, 2, 2)))) <|
  jn_cons (⟨jn_ifeq_ok (t := 60) (off := 10) (by decide +kernel) (by decide), jn_ifeq_mo 60⟩ : jn_GEm jn_G0 jn_me72 50 (.inl (jn_ifeq 60))) <|
  jn_cons (⟨jn_aload_n_ok (i := 0) (k := 0) (by decide +kernel) rfl, jn_aload_n_mo 0⟩ : jn_GEm jn_G0 jn_me72 53 (.inl (jn_aload_n 0))) <|
  jn_cons (⟨jn_bipush_ok (n := (-7)) (v := (-7)) (by decide +kernel) (by decide), jn_bipush_mo (-7)⟩ : jn_GEm jn_G0 jn_me72 54 (.inl (jn_bipush (-7)))) <|
  jn_cons (jn_gc_of jn_G0_80 (jn_callV (i := 66) (na := 1) (ci := 6) (q := (RX6, TX6, 11)) (by decide +kernel) rfl (jn_in 210 (by decide +kernel) rfl) (jn_in 207 (by decide +kernel) rfl) (jn_in 209 (by decide +kernel) rfl) (jn_in 0 (by decide +kernel) rfl) (jn_in 54 (by decide +kernel) rfl) ⟨by decide, by decide, by decide +kernel⟩) : jn_GEm jn_G0 jn_me72 56 (.inr (.inl (80, 8, 2)))) <|
  jn_cons (⟨(by decide +kernel), rfl⟩ : jn_GEm jn_G0 jn_me72 59 (.inr (.inr 1))) <|
  jn_cons (⟨jn_aload_n_ok (i := 3) (k := 3) (by decide +kernel) rfl, jn_aload_n_mo 3⟩ : jn_GEm jn_G0 jn_me72 60 (.inl (jn_aload_n 3))) <|
  jn_cons (⟨jn_aload_n_ok (i := 0) (k := 0) (by decide +kernel) rfl, jn_aload_n_mo 0⟩ : jn_GEm jn_G0 jn_me72 61 (.inl (jn_aload_n 0))) <|
  jn_cons (⟨jn_getf_ok (ci := 6) (k := 7) (i := 38) (N := 11) (C := RX6) (T := TX6) (by decide +kernel) rfl (by decide) jn_u6 (jn_in 176 (by decide +kernel) rfl), jn_getf_mo 6 7⟩ : jn_GEm jn_G0 jn_me72 62 (.inl (jn_getf 6 7))) <|
  jn_cons (jn_gc_of jn_G0_4 (jn_callV (i := 170) (na := 1) (ci := 0) (q := (RX0, TX0, 2)) (by decide +kernel) rfl (jn_in 480 (by decide +kernel) rfl) (jn_in 477 (by decide +kernel) rfl) (jn_in 478 (by decide +kernel) rfl) (jn_in 479 (by decide +kernel) rfl) (jn_in 63 (by decide +kernel) rfl) ⟨by decide, by decide, by decide +kernel⟩) : jn_GEm jn_G0 jn_me72 65 (.inr (.inl (4, 2, 2)))) <|
  jn_cons (⟨jn_aload_n_ok (i := 3) (k := 3) (by decide +kernel) rfl, jn_aload_n_mo 3⟩ : jn_GEm jn_G0 jn_me72 68 (.inl (jn_aload_n 3))) <|
  jn_cons (⟨jn_getf_ok (ci := 0) (k := 0) (i := 157) (N := 2) (C := RX0) (T := TX0) (by decide +kernel) rfl (by decide) jn_u0 (jn_in 429 (by decide +kernel) rfl), jn_getf_mo 0 0⟩ : jn_GEm jn_G0 jn_me72 69 (.inl (jn_getf 0 0))) <|
  jn_cons (⟨jn_aload_n_ok (i := 0) (k := 0) (by decide +kernel) rfl, jn_aload_n_mo 0⟩ : jn_GEm jn_G0 jn_me72 72 (.inl (jn_aload_n 0))) <|
  jn_cons (⟨jn_getf_ok (ci := 6) (k := 7) (i := 38) (N := 11) (C := RX6) (T := TX6) (by decide +kernel) rfl (by decide) jn_u6 (jn_in 176 (by decide +kernel) rfl), jn_getf_mo 6 7⟩ : jn_GEm jn_G0 jn_me72 73 (.inl (jn_getf 6 7))) <|
  jn_cons (⟨jn_iload_n_ok (i := 2) (k := 2) (by decide +kernel) rfl, jn_iload_n_mo 2⟩ : jn_GEm jn_G0 jn_me72 76 (.inl (jn_iload_n 2))) <|
  jn_cons (jn_gc_of jn_G0_92 (jn_callS (i := 241) (na := 3) (by decide +kernel) (jn_in 579 (by decide +kernel) rfl) (jn_in 577 (by decide +kernel) rfl) (jn_in 578 (by decide +kernel) rfl) (jn_in 54 (by decide +kernel) rfl) ⟨by decide, by decide, by decide +kernel⟩) : jn_GEm jn_G0 jn_me72 77 (.inr (.inl (92, 0, 3)))) <|
  jn_cons (⟨jn_istore_ok (i := 4) (by decide +kernel), jn_istore_mo 4⟩ : jn_GEm jn_G0 jn_me72 80 (.inl (jn_istore 4))) <|
  jn_cons (⟨jn_iload_ok (i := 4) (by decide +kernel), jn_iload_mo 4⟩ : jn_GEm jn_G0 jn_me72 82 (.inl (jn_iload 4))) <|
  jn_cons (⟨jn_ldc_ok (i := 245) (v := 100000) (by decide +kernel) (jn_in 487 (by decide +kernel) rfl), jn_ldc_mo 100000⟩ : jn_GEm jn_G0 jn_me72 84 (.inl (jn_ldc 100000))) <|
  jn_cons (⟨jn_icle_ok (t := 96) (off := 10) (by decide +kernel) (by decide), jn_icle_mo 96⟩ : jn_GEm jn_G0 jn_me72 86 (.inl (jn_icle 96))) <|
  jn_cons (⟨jn_aload_n_ok (i := 0) (k := 0) (by decide +kernel) rfl, jn_aload_n_mo 0⟩ : jn_GEm jn_G0 jn_me72 89 (.inl (jn_aload_n 0))) <|
  jn_cons (⟨jn_bipush_ok (n := (-9)) (v := (-9)) (by decide +kernel) (by decide), jn_bipush_mo (-9)⟩ : jn_GEm jn_G0 jn_me72 90 (.inl (jn_bipush (-9)))) <|
  jn_cons (jn_gc_of jn_G0_80 (jn_callV (i := 66) (na := 1) (ci := 6) (q := (RX6, TX6, 11)) (by decide +kernel) rfl (jn_in 210 (by decide +kernel) rfl) (jn_in 207 (by decide +kernel) rfl) (jn_in 209 (by decide +kernel) rfl) (jn_in 0 (by decide +kernel) rfl) (jn_in 54 (by decide +kernel) rfl) ⟨by decide, by decide, by decide +kernel⟩) : jn_GEm jn_G0 jn_me72 92 (.inr (.inl (80, 8, 2)))) <| jn_nil
theorem jn_o72_2 : ∀ q ∈ jn_c72_2, jn_GEm jn_G0 jn_me72 q.1 q.2 :=
  jn_cons (⟨(by decide +kernel), rfl⟩ : jn_GEm jn_G0 jn_me72 95 (.inr (.inr 1))) <|
  jn_cons (⟨jn_aload_n_ok (i := 0) (k := 0) (by decide +kernel) rfl, jn_aload_n_mo 0⟩ : jn_GEm jn_G0 jn_me72 96 (.inl (jn_aload_n 0))) <|
  jn_cons (jn_gc_of jn_G0_91 (jn_callV (i := 178) (na := 0) (ci := 6) (q := (RX6, TX6, 11)) (by decide +kernel) rfl (jn_in 485 (by decide +kernel) rfl) (jn_in 482 (by decide +kernel) rfl) (jn_in 484 (by decide +kernel) rfl) (jn_in 16 (by decide +kernel) rfl) (jn_in 54 (by decide +kernel) rfl) ⟨by decide, by decide, by decide +kernel⟩) : jn_GEm jn_G0 jn_me72 97 (.inr (.inl (91, 8, 1)))) <|
  jn_cons (⟨jn_ifne_ok (t := 110) (off := 10) (by decide +kernel) (by decide), jn_ifne_mo 110⟩ : jn_GEm jn_G0 jn_me72 100 (.inl (jn_ifne 110))) <|
  jn_cons (⟨jn_aload_n_ok (i := 0) (k := 0) (by decide +kernel) rfl, jn_aload_n_mo 0⟩ : jn_GEm jn_G0 jn_me72 103 (.inl (jn_aload_n 0))) <|
  jn_cons (⟨jn_bipush_ok (n := (-8)) (v := (-8)) (by decide +kernel) (by decide), jn_bipush_mo (-8)⟩ : jn_GEm jn_G0 jn_me72 104 (.inl (jn_bipush (-8)))) <|
  jn_cons (jn_gc_of jn_G0_80 (jn_callV (i := 66) (na := 1) (ci := 6) (q := (RX6, TX6, 11)) (by decide +kernel) rfl (jn_in 210 (by decide +kernel) rfl) (jn_in 207 (by decide +kernel) rfl) (jn_in 209 (by decide +kernel) rfl) (jn_in 0 (by decide +kernel) rfl) (jn_in 54 (by decide +kernel) rfl) ⟨by decide, by decide, by decide +kernel⟩) : jn_GEm jn_G0 jn_me72 106 (.inr (.inl (80, 8, 2)))) <|
  jn_cons (⟨(by decide +kernel), rfl⟩ : jn_GEm jn_G0 jn_me72 109 (.inr (.inr 1))) <|
  jn_cons (⟨jn_aload_n_ok (i := 3) (k := 3) (by decide +kernel) rfl, jn_aload_n_mo 3⟩ : jn_GEm jn_G0 jn_me72 110 (.inl (jn_aload_n 3))) <|
  jn_cons (⟨jn_aload_n_ok (i := 0) (k := 0) (by decide +kernel) rfl, jn_aload_n_mo 0⟩ : jn_GEm jn_G0 jn_me72 111 (.inl (jn_aload_n 0))) <|
  jn_cons (⟨jn_getf_ok (ci := 6) (k := 7) (i := 38) (N := 11) (C := RX6) (T := TX6) (by decide +kernel) rfl (by decide) jn_u6 (jn_in 176 (by decide +kernel) rfl), jn_getf_mo 6 7⟩ : jn_GEm jn_G0 jn_me72 112 (.inl (jn_getf 6 7))) <|
  jn_cons (jn_gc_of jn_G0_5 (jn_callV (i := 181) (na := 1) (ci := 0) (q := (RX0, TX0, 2)) (by decide +kernel) rfl (jn_in 441 (by decide +kernel) rfl) (jn_in 438 (by decide +kernel) rfl) (jn_in 439 (by decide +kernel) rfl) (jn_in 440 (by decide +kernel) rfl) (jn_in 63 (by decide +kernel) rfl) ⟨by decide, by decide, by decide +kernel⟩) : jn_GEm jn_G0 jn_me72 115 (.inr (.inl (5, 2, 2)))) <|
  jn_cons (⟨jn_pop_ok (by decide +kernel), jn_pop_mo⟩ : jn_GEm jn_G0 jn_me72 118 (.inl jn_pop)) <|
  jn_cons (⟨jn_iload_ok (i := 4) (by decide +kernel), jn_iload_mo 4⟩ : jn_GEm jn_G0 jn_me72 119 (.inl (jn_iload 4))) <|
  jn_cons (⟨(by decide +kernel), rfl⟩ : jn_GEm jn_G0 jn_me72 121 (.inr (.inr 1))) <| jn_nil
theorem jn_ok72 : jn_GM jn_G0 72 := jn_GM_of jn_G0_72 rfl rfl (by decide +kernel) (by decide) (jn_appd jn_o72_0 (jn_appd jn_o72_1 (jn_o72_2)))
theorem jn_o73_0 : ∀ q ∈ jn_c73_0, jn_GEm jn_G0 jn_me73 q.1 q.2 :=
  jn_cons (⟨jn_aload_n_ok (i := 0) (k := 0) (by decide +kernel) rfl, jn_aload_n_mo 0⟩ : jn_GEm jn_G0 jn_me73 0 (.inl (jn_aload_n 0))) <|
  jn_cons (⟨jn_iload_n_ok (i := 1) (k := 1) (by decide +kernel) rfl, jn_iload_n_mo 1⟩ : jn_GEm jn_G0 jn_me73 1 (.inl (jn_iload_n 1))) <|
  jn_cons (jn_gc_of jn_G0_83 (jn_callV (i := 153) (na := 1) (ci := 6) (q := (RX6, TX6, 11)) (by decide +kernel) rfl (jn_in 231 (by decide +kernel) rfl) (jn_in 228 (by decide +kernel) rfl) (jn_in 230 (by decide +kernel) rfl) (jn_in 3 (by decide +kernel) rfl) (jn_in 54 (by decide +kernel) rfl) ⟨by decide, by decide, by decide +kernel⟩) : jn_GEm jn_G0 jn_me73 2 (.inr (.inl (83, 8, 2)))) <|
  jn_cons (⟨jn_astore_n_ok (i := 3) (k := 3) (by decide +kernel) rfl, jn_astore_n_mo 3⟩ : jn_GEm jn_G0 jn_me73 5 (.inl (jn_astore_n 3))) <|
  jn_cons (⟨jn_aload_n_ok (i := 0) (k := 0) (by decide +kernel) rfl, jn_aload_n_mo 0⟩ : jn_GEm jn_G0 jn_me73 6 (.inl (jn_aload_n 0))) <|
  jn_cons (⟨jn_iload_n_ok (i := 2) (k := 2) (by decide +kernel) rfl, jn_iload_n_mo 2⟩ : jn_GEm jn_G0 jn_me73 7 (.inl (jn_iload_n 2))) <|
  jn_cons (jn_gc_of jn_G0_83 (jn_callV (i := 153) (na := 1) (ci := 6) (q := (RX6, TX6, 11)) (by decide +kernel) rfl (jn_in 231 (by decide +kernel) rfl) (jn_in 228 (by decide +kernel) rfl) (jn_in 230 (by decide +kernel) rfl) (jn_in 3 (by decide +kernel) rfl) (jn_in 54 (by decide +kernel) rfl) ⟨by decide, by decide, by decide +kernel⟩) : jn_GEm jn_G0 jn_me73 8 (.inr (.inl (83, 8, 2)))) <|
  jn_cons (⟨jn_astore_ok (i := 4) (by decide +kernel), jn_astore_mo 4⟩ : jn_GEm jn_G0 jn_me73 11 (.inl (jn_astore 4))) <|
  jn_cons (⟨jn_aload_n_ok (i := 3) (k := 3) (by decide +kernel) rfl, jn_aload_n_mo 3⟩ : jn_GEm jn_G0 jn_me73 13 (.inl (jn_aload_n 3))) <|
  jn_cons (⟨jn_ifnull_ok (t := 22) (off := 8) (by decide +kernel) (by decide), jn_ifnull_mo 22⟩ : jn_GEm jn_G0 jn_me73 14 (.inl (jn_ifnull 22))) <|
  jn_cons (⟨jn_aload_ok (i := 4) (by decide +kernel), jn_aload_mo 4⟩ : jn_GEm jn_G0 jn_me73 17 (.inl (jn_aload 4))) <|
  jn_cons (⟨jn_ifnonnull_ok (t := 29) (off := 10) (by decide +kernel) (by decide), jn_ifnonnull_mo 29⟩ : jn_GEm jn_G0 jn_me73 19 (.inl (jn_ifnonnull 29))) <|
  jn_cons (⟨jn_aload_n_ok (i := 0) (k := 0) (by decide +kernel) rfl, jn_aload_n_mo 0⟩ : jn_GEm jn_G0 jn_me73 22 (.inl (jn_aload_n 0))) <|
  jn_cons (⟨jn_bipush_ok (n := (-3)) (v := (-3)) (by decide +kernel) (by decide), jn_bipush_mo (-3)⟩ : jn_GEm jn_G0 jn_me73 23 (.inl (jn_bipush (-3)))) <|
  jn_cons (jn_gc_of jn_G0_80 (jn_callV (i := 66) (na := 1) (ci := 6) (q := (RX6, TX6, 11)) (by decide +kernel) rfl (jn_in 210 (by decide +kernel) rfl) (jn_in 207 (by decide +kernel) rfl) (jn_in 209 (by decide +kernel) rfl) (jn_in 0 (by decide +kernel) rfl) (jn_in 54 (by decide +kernel) rfl) ⟨by decide, by decide, by decide +kernel⟩) : jn_GEm jn_G0 jn_me73 25 (.inr (.inl (80, 8, 2)))) <|
  jn_cons (⟨(by decide +kernel), rfl⟩ : jn_GEm jn_G0 jn_me73 28 (.inr (.inr 1))) <|
  jn_cons (⟨jn_aload_n_ok (i := 3) (k := 3) (by decide +kernel) rfl, jn_aload_n_mo 3⟩ : jn_GEm jn_G0 jn_me73 29 (.inl (jn_aload_n 3))) <|
  jn_cons (⟨jn_getf_ok (ci := 0) (k := 0) (i := 157) (N := 2) (C := RX0) (T := TX0) (by decide +kernel) rfl (by decide) jn_u0 (jn_in 429 (by decide +kernel) rfl), jn_getf_mo 0 0⟩ : jn_GEm jn_G0 jn_me73 30 (.inl (jn_getf 0 0))) <|
  jn_cons (⟨jn_getf_ok (ci := 2) (k := 0) (i := 185) (N := 3) (C := RX2) (T := TX2) (by decide +kernel) rfl (by decide) jn_u2 (jn_in 102 (by decide +kernel) rfl), jn_getf_mo 2 0⟩ : jn_GEm jn_G0 jn_me73 33 (.inl (jn_getf 2 0))) <|
  jn_cons (⟨jn_aload_ok (i := 4) (by decide +kernel), jn_aload_mo 4⟩ : jn_GEm jn_G0 jn_me73 36 (.inl (jn_aload 4))) <|
  jn_cons (⟨jn_getf_ok (ci := 0) (k := 0) (i := 157) (N := 2) (C := RX0) (T := TX0) (by decide +kernel) rfl (by decide) jn_u0 (jn_in 429 (by decide +kernel) rfl), jn_getf_mo 0 0⟩ : jn_GEm jn_G0 jn_me73 38 (.inl (jn_getf 0 0))) <|
  jn_cons (⟨jn_getf_ok (ci := 2) (k := 0) (i := 185) (N := 3) (C := RX2) (T := TX2) (by decide +kernel) rfl (by decide) jn_u2 (jn_in 102 (by decide +kernel) rfl), jn_getf_mo 2 0⟩ : jn_GEm jn_G0 jn_me73 41 (.inl (jn_getf 2 0))) <|
  jn_cons (⟨jn_iceq_ok (t := 54) (off := 10) (by decide +kernel) (by decide), jn_iceq_mo 54⟩ : jn_GEm jn_G0 jn_me73 44 (.inl (jn_iceq 54))) <|
  jn_cons (⟨jn_aload_n_ok (i := 0) (k := 0) (by decide +kernel) rfl, jn_aload_n_mo 0⟩ : jn_GEm jn_G0 jn_me73 47 (.inl (jn_aload_n 0))) <| jn_nil
theorem jn_o73_1 : ∀ q ∈ jn_c73_1, jn_GEm jn_G0 jn_me73 q.1 q.2 :=
  jn_cons (⟨jn_bipush_ok (n := (-7)) (v := (-7)) (by decide +kernel) (by decide), jn_bipush_mo (-7)⟩ : jn_GEm jn_G0 jn_me73 48 (.inl (jn_bipush (-7)))) <|
  jn_cons (jn_gc_of jn_G0_80 (jn_callV (i := 66) (na := 1) (ci := 6) (q := (RX6, TX6, 11)) (by decide +kernel) rfl (jn_in 210 (by decide +kernel) rfl) (jn_in 207 (by decide +kernel) rfl) (jn_in 209 (by decide +kernel) rfl) (jn_in 0 (by decide +kernel) rfl) (jn_in 54 (by decide +kernel) rfl) ⟨by decide, by decide, by decide +kernel⟩) : jn_GEm jn_G0 jn_me73 50 (.inr (.inl (80, 8, 2)))) <|
  jn_cons (⟨(by decide +kernel), rfl⟩ : jn_GEm jn_G0 jn_me73 53 (.inr (.inr 1))) <|
  jn_cons (⟨jn_aload_n_ok (i := 3) (k := 3) (by decide +kernel) rfl, jn_aload_n_mo 3⟩ : jn_GEm jn_G0 jn_me73 54 (.inl (jn_aload_n 3))) <|
  jn_cons (⟨jn_aload_ok (i := 4) (by decide +kernel), jn_aload_mo 4⟩ : jn_GEm jn_G0 jn_me73 55 (.inl (jn_aload 4))) <|
  jn_cons (⟨jn_getf_ok (ci := 0) (k := 1) (i := 161) (N := 2) (C := RX0) (T := TX0) (by decide +kernel) rfl (by decide) jn_u0 (jn_in 432 (by decide +kernel) rfl), jn_getf_mo 0 1⟩ : jn_GEm jn_G0 jn_me73 57 (.inl (jn_getf 0 1))) <|
  jn_cons (jn_gc_of jn_G0_3 (jn_callV (i := 246) (na := 1) (ci := 0) (q := (RX0, TX0, 2)) (by decide +kernel) rfl (jn_in 445 (by decide +kernel) rfl) (jn_in 584 (by decide +kernel) rfl) (jn_in 443 (by decide +kernel) rfl) (jn_in 444 (by decide +kernel) rfl) (jn_in 63 (by decide +kernel) rfl) ⟨by decide, by decide, by decide +kernel⟩) : jn_GEm jn_G0 jn_me73 60 (.inr (.inl (3, 2, 2)))) <|
  jn_cons (⟨jn_ifne_ok (t := 70) (off := 7) (by decide +kernel) (by decide), jn_ifne_mo 70⟩ : jn_GEm jn_G0 jn_me73 63 (.inl (jn_ifne 70))) <|
  jn_cons (⟨jn_iconst_ok (by decide +kernel), jn_iconst_mo 1⟩ : jn_GEm jn_G0 jn_me73 66 (.inl (jn_iconst 1))) <|
  jn_cons (⟨jn_goto_ok (t := 71) (off := 4) (by decide +kernel) (by decide), jn_goto_mo 71⟩ : jn_GEm jn_G0 jn_me73 67 (.inl (jn_goto 71))) <|
  jn_cons (⟨jn_iconst_ok (by decide +kernel), jn_iconst_mo 0⟩ : jn_GEm jn_G0 jn_me73 70 (.inl (jn_iconst 0))) <|
  jn_cons (⟨(by decide +kernel), rfl⟩ : jn_GEm jn_G0 jn_me73 71 (.inr (.inr 1))) <| jn_nil
theorem jn_ok73 : jn_GM jn_G0 73 := jn_GM_of jn_G0_73 rfl rfl (by decide +kernel) (by decide) (jn_appd jn_o73_0 (jn_o73_1))
theorem jn_o74_0 : ∀ q ∈ jn_c74_0, jn_GEm jn_G0 jn_me74 q.1 q.2 :=
  jn_cons (⟨jn_iload_n_ok (i := 1) (k := 1) (by decide +kernel) rfl, jn_iload_n_mo 1⟩ : jn_GEm jn_G0 jn_me74 0 (.inl (jn_iload_n 1))) <|
  jn_cons (⟨jn_ifeq_ok (t := 16) (off := 15) (by decide +kernel) (by decide), jn_ifeq_mo 16⟩ : jn_GEm jn_G0 jn_me74 1 (.inl (jn_ifeq 16))) <|
  jn_cons (⟨jn_iload_n_ok (i := 1) (k := 1) (by decide +kernel) rfl, jn_iload_n_mo 1⟩ : jn_GEm jn_G0 jn_me74 4 (.inl (jn_iload_n 1))) <|
  jn_cons (⟨jn_iconst_ok (by decide +kernel), jn_iconst_mo 1⟩ : jn_GEm jn_G0 jn_me74 5 (.inl (jn_iconst 1))) <|
  jn_cons (⟨jn_iceq_ok (t := 16) (off := 10) (by decide +kernel) (by decide), jn_iceq_mo 16⟩ : jn_GEm jn_G0 jn_me74 6 (.inl (jn_iceq 16))) <|
  jn_cons (⟨jn_aload_n_ok (i := 0) (k := 0) (by decide +kernel) rfl, jn_aload_n_mo 0⟩ : jn_GEm jn_G0 jn_me74 9 (.inl (jn_aload_n 0))) <|
  jn_cons (⟨jn_bipush_ok (n := (-7)) (v := (-7)) (by decide +kernel) (by decide), jn_bipush_mo (-7)⟩ : jn_GEm jn_G0 jn_me74 10 (.inl (jn_bipush (-7)))) <|
  jn_cons (jn_gc_of jn_G0_80 (jn_callV (i := 66) (na := 1) (ci := 6) (q := (RX6, TX6, 11)) (by decide +kernel) rfl (jn_in 210 (by decide +kernel) rfl) (jn_in 207 (by decide +kernel) rfl) (jn_in 209 (by decide +kernel) rfl) (jn_in 0 (by decide +kernel) rfl) (jn_in 54 (by decide +kernel) rfl) ⟨by decide, by decide, by decide +kernel⟩) : jn_GEm jn_G0 jn_me74 12 (.inr (.inl (80, 8, 2)))) <|
  jn_cons (⟨(by decide +kernel), rfl⟩ : jn_GEm jn_G0 jn_me74 15 (.inr (.inr 1))) <|
  jn_cons (⟨jn_iload_n_ok (i := 1) (k := 1) (by decide +kernel) rfl, jn_iload_n_mo 1⟩ : jn_GEm jn_G0 jn_me74 16 (.inl (jn_iload_n 1))) <|
  jn_cons (⟨jn_ifne_ok (t := 27) (off := 10) (by decide +kernel) (by decide), jn_ifne_mo 27⟩ : jn_GEm jn_G0 jn_me74 17 (.inl (jn_ifne 27))) <|
  jn_cons (⟨jn_aload_n_ok (i := 0) (k := 0) (by decide +kernel) rfl, jn_aload_n_mo 0⟩ : jn_GEm jn_G0 jn_me74 20 (.inl (jn_aload_n 0))) <|
  jn_cons (⟨jn_getf_ok (ci := 6) (k := 1) (i := 15) (N := 11) (C := RX6) (T := TX6) (by decide +kernel) rfl (by decide) jn_u6 (jn_in 170 (by decide +kernel) rfl), jn_getf_mo 6 1⟩ : jn_GEm jn_G0 jn_me74 21 (.inl (jn_getf 6 1))) <|
  jn_cons (⟨jn_goto_ok (t := 31) (off := 7) (by decide +kernel) (by decide), jn_goto_mo 31⟩ : jn_GEm jn_G0 jn_me74 24 (.inl (jn_goto 31))) <|
  jn_cons (⟨jn_aload_n_ok (i := 0) (k := 0) (by decide +kernel) rfl, jn_aload_n_mo 0⟩ : jn_GEm jn_G0 jn_me74 27 (.inl (jn_aload_n 0))) <|
  jn_cons (⟨jn_getf_ok (ci := 6) (k := 3) (i := 25) (N := 11) (C := RX6) (T := TX6) (by decide +kernel) rfl (by decide) jn_u6 (jn_in 172 (by decide +kernel) rfl), jn_getf_mo 6 3⟩ : jn_GEm jn_G0 jn_me74 28 (.inl (jn_getf 6 3))) <|
  jn_cons (⟨(by decide +kernel), rfl⟩ : jn_GEm jn_G0 jn_me74 31 (.inr (.inr 1))) <| jn_nil
theorem jn_ok74 : jn_GM jn_G0 74 := jn_GM_of jn_G0_74 rfl rfl (by decide +kernel) (by decide) (jn_o74_0)
theorem jn_o75_0 : ∀ q ∈ jn_c75_0, jn_GEm jn_G0 jn_me75 q.1 q.2 :=
  jn_cons (⟨jn_aload_n_ok (i := 0) (k := 0) (by decide +kernel) rfl, jn_aload_n_mo 0⟩ : jn_GEm jn_G0 jn_me75 0 (.inl (jn_aload_n 0))) <|
  jn_cons (⟨jn_iload_n_ok (i := 1) (k := 1) (by decide +kernel) rfl, jn_iload_n_mo 1⟩ : jn_GEm jn_G0 jn_me75 1 (.inl (jn_iload_n 1))) <|
  jn_cons (jn_gc_of jn_G0_82 (jn_callV (i := 73) (na := 1) (ci := 6) (q := (RX6, TX6, 11)) (by decide +kernel) rfl (jn_in 219 (by decide +kernel) rfl) (jn_in 216 (by decide +kernel) rfl) (jn_in 218 (by decide +kernel) rfl) (jn_in 1 (by decide +kernel) rfl) (jn_in 54 (by decide +kernel) rfl) ⟨by decide, by decide, by decide +kernel⟩) : jn_GEm jn_G0 jn_me75 2 (.inr (.inl (82, 8, 2)))) <|
  jn_cons (⟨jn_astore_n_ok (i := 3) (k := 3) (by decide +kernel) rfl, jn_astore_n_mo 3⟩ : jn_GEm jn_G0 jn_me75 5 (.inl (jn_astore_n 3))) <|
  jn_cons (⟨jn_aload_n_ok (i := 3) (k := 3) (by decide +kernel) rfl, jn_aload_n_mo 3⟩ : jn_GEm jn_G0 jn_me75 6 (.inl (jn_aload_n 3))) <|
  jn_cons (⟨jn_ifnull_ok (t := 18) (off := 11) (by decide +kernel) (by decide), jn_ifnull_mo 18⟩ : jn_GEm jn_G0 jn_me75 7 (.inl (jn_ifnull 18))) <|
  jn_cons (⟨jn_aload_n_ok (i := 3) (k := 3) (by decide +kernel) rfl, jn_aload_n_mo 3⟩ : jn_GEm jn_G0 jn_me75 10 (.inl (jn_aload_n 3))) <|
  jn_cons (⟨jn_iload_n_ok (i := 2) (k := 2) (by decide +kernel) rfl, jn_iload_n_mo 2⟩ : jn_GEm jn_G0 jn_me75 11 (.inl (jn_iload_n 2))) <|
  jn_cons (jn_gc_of jn_G0_12 (jn_callV (i := 77) (na := 1) (ci := 2) (q := (RX2, TX2, 3)) (by decide +kernel) rfl (jn_in 223 (by decide +kernel) rfl) (jn_in 220 (by decide +kernel) rfl) (jn_in 221 (by decide +kernel) rfl) (jn_in 222 (by decide +kernel) rfl) (jn_in 57 (by decide +kernel) rfl) ⟨by decide, by decide, by decide +kernel⟩) : jn_GEm jn_G0 jn_me75 12 (.inr (.inl (12, 4, 2)))) <|
  jn_cons (⟨jn_ifne_ok (t := 25) (off := 10) (by decide +kernel) (by decide), jn_ifne_mo 25⟩ : jn_GEm jn_G0 jn_me75 15 (.inl (jn_ifne 25))) <|
  jn_cons (⟨jn_aload_n_ok (i := 0) (k := 0) (by decide +kernel) rfl, jn_aload_n_mo 0⟩ : jn_GEm jn_G0 jn_me75 18 (.inl (jn_aload_n 0))) <|
  jn_cons (⟨jn_bipush_ok (n := (-3)) (v := (-3)) (by decide +kernel) (by decide), jn_bipush_mo (-3)⟩ : jn_GEm jn_G0 jn_me75 19 (.inl (jn_bipush (-3)))) <|
  jn_cons (jn_gc_of jn_G0_80 (jn_callV (i := 66) (na := 1) (ci := 6) (q := (RX6, TX6, 11)) (by decide +kernel) rfl (jn_in 210 (by decide +kernel) rfl) (jn_in 207 (by decide +kernel) rfl) (jn_in 209 (by decide +kernel) rfl) (jn_in 0 (by decide +kernel) rfl) (jn_in 54 (by decide +kernel) rfl) ⟨by decide, by decide, by decide +kernel⟩) : jn_GEm jn_G0 jn_me75 21 (.inr (.inl (80, 8, 2)))) <|
  jn_cons (⟨(by decide +kernel), rfl⟩ : jn_GEm jn_G0 jn_me75 24 (.inr (.inr 1))) <|
  jn_cons (⟨jn_iconst_ok (by decide +kernel), jn_iconst_mo 0⟩ : jn_GEm jn_G0 jn_me75 25 (.inl (jn_iconst 0))) <|
  jn_cons (⟨jn_istore_ok (i := 4) (by decide +kernel), jn_istore_mo 4⟩ : jn_GEm jn_G0 jn_me75 26 (.inl (jn_istore 4))) <|
  jn_cons (⟨jn_iload_ok (i := 4) (by decide +kernel), jn_iload_mo 4⟩ : jn_GEm jn_G0 jn_me75 28 (.inl (jn_iload 4))) <|
  jn_cons (⟨jn_aload_n_ok (i := 3) (k := 3) (by decide +kernel) rfl, jn_aload_n_mo 3⟩ : jn_GEm jn_G0 jn_me75 30 (.inl (jn_aload_n 3))) <|
  jn_cons (⟨jn_getf_ok (ci := 2) (k := 1) (i := 97) (N := 3) (C := RX2) (T := TX2) (by decide +kernel) rfl (by decide) jn_u2 (jn_in 106 (by decide +kernel) rfl), jn_getf_mo 2 1⟩ : jn_GEm jn_G0 jn_me75 31 (.inl (jn_getf 2 1))) <|
  jn_cons (⟨jn_icge_ok (t := 57) (off := 23) (by decide +kernel) (by decide), jn_icge_mo 57⟩ : jn_GEm jn_G0 jn_me75 34 (.inl (jn_icge 57))) <|
  jn_cons (⟨jn_aload_n_ok (i := 0) (k := 0) (by decide +kernel) rfl, jn_aload_n_mo 0⟩ : jn_GEm jn_G0 jn_me75 37 (.inl (jn_aload_n 0))) <|
  jn_cons (⟨jn_getf_ok (ci := 6) (k := 4) (i := 28) (N := 11) (C := RX6) (T := TX6) (by decide +kernel) rfl (by decide) jn_u6 (jn_in 173 (by decide +kernel) rfl), jn_getf_mo 6 4⟩ : jn_GEm jn_G0 jn_me75 38 (.inl (jn_getf 6 4))) <|
  jn_cons (⟨jn_iload_ok (i := 4) (by decide +kernel), jn_iload_mo 4⟩ : jn_GEm jn_G0 jn_me75 41 (.inl (jn_iload 4))) <|
  jn_cons (⟨jn_aload_n_ok (i := 3) (k := 3) (by decide +kernel) rfl, jn_aload_n_mo 3⟩ : jn_GEm jn_G0 jn_me75 43 (.inl (jn_aload_n 3))) <| jn_nil
theorem jn_o75_1 : ∀ q ∈ jn_c75_1, jn_GEm jn_G0 jn_me75 q.1 q.2 :=
  jn_cons (⟨jn_iload_n_ok (i := 2) (k := 2) (by decide +kernel) rfl, jn_iload_n_mo 2⟩ : jn_GEm jn_G0 jn_me75 44 (.inl (jn_iload_n 2))) <|
  jn_cons (⟨jn_iload_ok (i := 4) (by decide +kernel), jn_iload_mo 4⟩ : jn_GEm jn_G0 jn_me75 45 (.inl (jn_iload 4))) <|
  jn_cons (jn_gc_of jn_G0_14 (jn_callV (i := 85) (na := 2) (ci := 2) (q := (RX2, TX2, 3)) (by decide +kernel) rfl (jn_in 235 (by decide +kernel) rfl) (jn_in 232 (by decide +kernel) rfl) (jn_in 233 (by decide +kernel) rfl) (jn_in 234 (by decide +kernel) rfl) (jn_in 57 (by decide +kernel) rfl) ⟨by decide, by decide, by decide +kernel⟩) : jn_GEm jn_G0 jn_me75 47 (.inr (.inl (14, 4, 3)))) <|
  jn_cons (⟨jn_iastore_ok (by decide +kernel), jn_iastore_mo⟩ : jn_GEm jn_G0 jn_me75 50 (.inl jn_iastore)) <|
  jn_cons (⟨jn_iinc_ok (i := 4) (n := 1) (by decide +kernel), jn_iinc_mo 4 1⟩ : jn_GEm jn_G0 jn_me75 51 (.inl (jn_iinc 4 1))) <|
  jn_cons (⟨jn_goto_ok (t := 28) (off := -26) (by decide +kernel) (by decide), jn_goto_mo 28⟩ : jn_GEm jn_G0 jn_me75 54 (.inl (jn_goto 28))) <|
  jn_cons (⟨jn_aload_n_ok (i := 0) (k := 0) (by decide +kernel) rfl, jn_aload_n_mo 0⟩ : jn_GEm jn_G0 jn_me75 57 (.inl (jn_aload_n 0))) <|
  jn_cons (⟨jn_aload_n_ok (i := 3) (k := 3) (by decide +kernel) rfl, jn_aload_n_mo 3⟩ : jn_GEm jn_G0 jn_me75 58 (.inl (jn_aload_n 3))) <|
  jn_cons (⟨jn_getf_ok (ci := 2) (k := 1) (i := 97) (N := 3) (C := RX2) (T := TX2) (by decide +kernel) rfl (by decide) jn_u2 (jn_in 106 (by decide +kernel) rfl), jn_getf_mo 2 1⟩ : jn_GEm jn_G0 jn_me75 59 (.inl (jn_getf 2 1))) <|
  jn_cons (⟨jn_putf_ok (ci := 6) (k := 5) (κ := 0) (i := 32) (N := 11) (C := RX6) (T := TX6) (ty0 := tyX6) (ty := .int) (by decide +kernel) rfl (by decide) jn_u6 (jn_in 174 (by decide +kernel) rfl) tyX6_ok nmX6 rfl (by decide +kernel) jn_po_int, jn_putf_mo 6 5 0⟩ : jn_GEm jn_G0 jn_me75 62 (.inl (jn_putf 6 5 0))) <|
  jn_cons (⟨jn_aload_n_ok (i := 3) (k := 3) (by decide +kernel) rfl, jn_aload_n_mo 3⟩ : jn_GEm jn_G0 jn_me75 65 (.inl (jn_aload_n 3))) <|
  jn_cons (⟨jn_getf_ok (ci := 2) (k := 1) (i := 97) (N := 3) (C := RX2) (T := TX2) (by decide +kernel) rfl (by decide) jn_u2 (jn_in 106 (by decide +kernel) rfl), jn_getf_mo 2 1⟩ : jn_GEm jn_G0 jn_me75 66 (.inl (jn_getf 2 1))) <|
  jn_cons (⟨(by decide +kernel), rfl⟩ : jn_GEm jn_G0 jn_me75 69 (.inr (.inr 1))) <| jn_nil
theorem jn_ok75 : jn_GM jn_G0 75 := jn_GM_of jn_G0_75 rfl rfl (by decide +kernel) (by decide) (jn_appd jn_o75_0 (jn_o75_1))
theorem jn_o76_0 : ∀ q ∈ jn_c76_0, jn_GEm jn_G0 jn_me76 q.1 q.2 :=
  jn_cons (⟨jn_aload_n_ok (i := 0) (k := 0) (by decide +kernel) rfl, jn_aload_n_mo 0⟩ : jn_GEm jn_G0 jn_me76 0 (.inl (jn_aload_n 0))) <|
  jn_cons (⟨jn_getf_ok (ci := 6) (k := 5) (i := 32) (N := 11) (C := RX6) (T := TX6) (by decide +kernel) rfl (by decide) jn_u6 (jn_in 174 (by decide +kernel) rfl), jn_getf_mo 6 5⟩ : jn_GEm jn_G0 jn_me76 1 (.inl (jn_getf 6 5))) <|
  jn_cons (⟨jn_iconst_ok (by decide +kernel), jn_iconst_mo (-1)⟩ : jn_GEm jn_G0 jn_me76 4 (.inl (jn_iconst (-1)))) <|
  jn_cons (⟨jn_icne_ok (t := 12) (off := 7) (by decide +kernel) (by decide), jn_icne_mo 12⟩ : jn_GEm jn_G0 jn_me76 5 (.inl (jn_icne 12))) <|
  jn_cons (⟨jn_iconst_ok (by decide +kernel), jn_iconst_mo 0⟩ : jn_GEm jn_G0 jn_me76 8 (.inl (jn_iconst 0))) <|
  jn_cons (⟨jn_goto_ok (t := 13) (off := 4) (by decide +kernel) (by decide), jn_goto_mo 13⟩ : jn_GEm jn_G0 jn_me76 9 (.inl (jn_goto 13))) <|
  jn_cons (⟨jn_iconst_ok (by decide +kernel), jn_iconst_mo 1⟩ : jn_GEm jn_G0 jn_me76 12 (.inl (jn_iconst 1))) <|
  jn_cons (⟨jn_istore_n_ok (i := 1) (k := 1) (by decide +kernel) rfl, jn_istore_n_mo 1⟩ : jn_GEm jn_G0 jn_me76 13 (.inl (jn_istore_n 1))) <|
  jn_cons (⟨jn_aload_n_ok (i := 0) (k := 0) (by decide +kernel) rfl, jn_aload_n_mo 0⟩ : jn_GEm jn_G0 jn_me76 14 (.inl (jn_aload_n 0))) <|
  jn_cons (⟨jn_iconst_ok (by decide +kernel), jn_iconst_mo (-1)⟩ : jn_GEm jn_G0 jn_me76 15 (.inl (jn_iconst (-1)))) <|
  jn_cons (⟨jn_putf_ok (ci := 6) (k := 5) (κ := 0) (i := 32) (N := 11) (C := RX6) (T := TX6) (ty0 := tyX6) (ty := .int) (by decide +kernel) rfl (by decide) jn_u6 (jn_in 174 (by decide +kernel) rfl) tyX6_ok nmX6 rfl (by decide +kernel) jn_po_int, jn_putf_mo 6 5 0⟩ : jn_GEm jn_G0 jn_me76 16 (.inl (jn_putf 6 5 0))) <|
  jn_cons (⟨jn_iload_n_ok (i := 1) (k := 1) (by decide +kernel) rfl, jn_iload_n_mo 1⟩ : jn_GEm jn_G0 jn_me76 19 (.inl (jn_iload_n 1))) <|
  jn_cons (⟨(by decide +kernel), rfl⟩ : jn_GEm jn_G0 jn_me76 20 (.inr (.inr 1))) <| jn_nil
theorem jn_ok76 : jn_GM jn_G0 76 := jn_GM_of jn_G0_76 rfl rfl (by decide +kernel) (by decide) (jn_o76_0)
theorem jn_o77_0 : ∀ q ∈ jn_c77_0, jn_GEm jn_G0 jn_me77 q.1 q.2 :=
  jn_cons (⟨jn_aload_n_ok (i := 0) (k := 0) (by decide +kernel) rfl, jn_aload_n_mo 0⟩ : jn_GEm jn_G0 jn_me77 0 (.inl (jn_aload_n 0))) <|
  jn_cons (⟨jn_getf_ok (ci := 6) (k := 5) (i := 32) (N := 11) (C := RX6) (T := TX6) (by decide +kernel) rfl (by decide) jn_u6 (jn_in 174 (by decide +kernel) rfl), jn_getf_mo 6 5⟩ : jn_GEm jn_G0 jn_me77 1 (.inl (jn_getf 6 5))) <|
  jn_cons (⟨jn_iconst_ok (by decide +kernel), jn_iconst_mo (-1)⟩ : jn_GEm jn_G0 jn_me77 4 (.inl (jn_iconst (-1)))) <|
  jn_cons (⟨jn_icne_ok (t := 15) (off := 10) (by decide +kernel) (by decide), jn_icne_mo 15⟩ : jn_GEm jn_G0 jn_me77 5 (.inl (jn_icne 15))) <|
  jn_cons (⟨jn_aload_n_ok (i := 0) (k := 0) (by decide +kernel) rfl, jn_aload_n_mo 0⟩ : jn_GEm jn_G0 jn_me77 8 (.inl (jn_aload_n 0))) <|
  jn_cons (⟨jn_bipush_ok (n := (-2)) (v := (-2)) (by decide +kernel) (by decide), jn_bipush_mo (-2)⟩ : jn_GEm jn_G0 jn_me77 9 (.inl (jn_bipush (-2)))) <|
  jn_cons (jn_gc_of jn_G0_81 (jn_callV (i := 113) (na := 1) (ci := 6) (q := (RX6, TX6, 11)) (by decide +kernel) rfl (jn_in 291 (by decide +kernel) rfl) (jn_in 288 (by decide +kernel) rfl) (jn_in 290 (by decide +kernel) rfl) (jn_in 5 (by decide +kernel) rfl) (jn_in 54 (by decide +kernel) rfl) ⟨by decide, by decide, by decide +kernel⟩) : jn_GEm jn_G0 jn_me77 11 (.inr (.inl (81, 8, 2)))) <|
  jn_cons (⟨(by decide +kernel), rfl⟩ : jn_GEm jn_G0 jn_me77 14 (.inr (.inr 1))) <|
  jn_cons (⟨jn_iload_n_ok (i := 1) (k := 1) (by decide +kernel) rfl, jn_iload_n_mo 1⟩ : jn_GEm jn_G0 jn_me77 15 (.inl (jn_iload_n 1))) <|
  jn_cons (⟨jn_iflt_ok (t := 27) (off := 11) (by decide +kernel) (by decide), jn_iflt_mo 27⟩ : jn_GEm jn_G0 jn_me77 16 (.inl (jn_iflt 27))) <|
  jn_cons (⟨jn_iload_n_ok (i := 1) (k := 1) (by decide +kernel) rfl, jn_iload_n_mo 1⟩ : jn_GEm jn_G0 jn_me77 19 (.inl (jn_iload_n 1))) <|
  jn_cons (⟨jn_aload_n_ok (i := 0) (k := 0) (by decide +kernel) rfl, jn_aload_n_mo 0⟩ : jn_GEm jn_G0 jn_me77 20 (.inl (jn_aload_n 0))) <|
  jn_cons (⟨jn_getf_ok (ci := 6) (k := 5) (i := 32) (N := 11) (C := RX6) (T := TX6) (by decide +kernel) rfl (by decide) jn_u6 (jn_in 174 (by decide +kernel) rfl), jn_getf_mo 6 5⟩ : jn_GEm jn_G0 jn_me77 21 (.inl (jn_getf 6 5))) <|
  jn_cons (⟨jn_iclt_ok (t := 34) (off := 10) (by decide +kernel) (by decide), jn_iclt_mo 34⟩ : jn_GEm jn_G0 jn_me77 24 (.inl (jn_iclt 34))) <|
  jn_cons (⟨jn_aload_n_ok (i := 0) (k := 0) (by decide +kernel) rfl, jn_aload_n_mo 0⟩ : jn_GEm jn_G0 jn_me77 27 (.inl (jn_aload_n 0))) <|
  jn_cons (⟨jn_bipush_ok (n := (-3)) (v := (-3)) (by decide +kernel) (by decide), jn_bipush_mo (-3)⟩ : jn_GEm jn_G0 jn_me77 28 (.inl (jn_bipush (-3)))) <|
  jn_cons (jn_gc_of jn_G0_81 (jn_callV (i := 113) (na := 1) (ci := 6) (q := (RX6, TX6, 11)) (by decide +kernel) rfl (jn_in 291 (by decide +kernel) rfl) (jn_in 288 (by decide +kernel) rfl) (jn_in 290 (by decide +kernel) rfl) (jn_in 5 (by decide +kernel) rfl) (jn_in 54 (by decide +kernel) rfl) ⟨by decide, by decide, by decide +kernel⟩) : jn_GEm jn_G0 jn_me77 30 (.inr (.inl (81, 8, 2)))) <|
  jn_cons (⟨(by decide +kernel), rfl⟩ : jn_GEm jn_G0 jn_me77 33 (.inr (.inr 1))) <|
  jn_cons (⟨jn_aload_n_ok (i := 0) (k := 0) (by decide +kernel) rfl, jn_aload_n_mo 0⟩ : jn_GEm jn_G0 jn_me77 34 (.inl (jn_aload_n 0))) <|
  jn_cons (⟨jn_getf_ok (ci := 6) (k := 4) (i := 28) (N := 11) (C := RX6) (T := TX6) (by decide +kernel) rfl (by decide) jn_u6 (jn_in 173 (by decide +kernel) rfl), jn_getf_mo 6 4⟩ : jn_GEm jn_G0 jn_me77 35 (.inl (jn_getf 6 4))) <|
  jn_cons (⟨jn_iload_n_ok (i := 1) (k := 1) (by decide +kernel) rfl, jn_iload_n_mo 1⟩ : jn_GEm jn_G0 jn_me77 38 (.inl (jn_iload_n 1))) <|
  jn_cons (⟨jn_iaload_ok (by decide +kernel), jn_iaload_mo⟩ : jn_GEm jn_G0 jn_me77 39 (.inl jn_iaload)) <|
  jn_cons (⟨(by decide +kernel), rfl⟩ : jn_GEm jn_G0 jn_me77 40 (.inr (.inr 1))) <| jn_nil
theorem jn_ok77 : jn_GM jn_G0 77 := jn_GM_of jn_G0_77 rfl rfl (by decide +kernel) (by decide) (jn_o77_0)
theorem jn_o78_0 : ∀ q ∈ jn_c78_0, jn_GEm jn_G0 jn_me78 q.1 q.2 :=
  jn_cons (⟨jn_aload_n_ok (i := 0) (k := 0) (by decide +kernel) rfl, jn_aload_n_mo 0⟩ : jn_GEm jn_G0 jn_me78 0 (.inl (jn_aload_n 0))) <|
  jn_cons (⟨jn_getf_ok (ci := 6) (k := 5) (i := 32) (N := 11) (C := RX6) (T := TX6) (by decide +kernel) rfl (by decide) jn_u6 (jn_in 174 (by decide +kernel) rfl), jn_getf_mo 6 5⟩ : jn_GEm jn_G0 jn_me78 1 (.inl (jn_getf 6 5))) <|
  jn_cons (⟨jn_iconst_ok (by decide +kernel), jn_iconst_mo (-1)⟩ : jn_GEm jn_G0 jn_me78 4 (.inl (jn_iconst (-1)))) <|
  jn_cons (⟨jn_icne_ok (t := 15) (off := 10) (by decide +kernel) (by decide), jn_icne_mo 15⟩ : jn_GEm jn_G0 jn_me78 5 (.inl (jn_icne 15))) <|
  jn_cons (⟨jn_aload_n_ok (i := 0) (k := 0) (by decide +kernel) rfl, jn_aload_n_mo 0⟩ : jn_GEm jn_G0 jn_me78 8 (.inl (jn_aload_n 0))) <|
  jn_cons (⟨jn_bipush_ok (n := (-2)) (v := (-2)) (by decide +kernel) (by decide), jn_bipush_mo (-2)⟩ : jn_GEm jn_G0 jn_me78 9 (.inl (jn_bipush (-2)))) <|
  jn_cons (jn_gc_of jn_G0_80 (jn_callV (i := 66) (na := 1) (ci := 6) (q := (RX6, TX6, 11)) (by decide +kernel) rfl (jn_in 210 (by decide +kernel) rfl) (jn_in 207 (by decide +kernel) rfl) (jn_in 209 (by decide +kernel) rfl) (jn_in 0 (by decide +kernel) rfl) (jn_in 54 (by decide +kernel) rfl) ⟨by decide, by decide, by decide +kernel⟩) : jn_GEm jn_G0 jn_me78 11 (.inr (.inl (80, 8, 2)))) <|
  jn_cons (⟨(by decide +kernel), rfl⟩ : jn_GEm jn_G0 jn_me78 14 (.inr (.inr 1))) <|
  jn_cons (⟨jn_iload_n_ok (i := 3) (k := 3) (by decide +kernel) rfl, jn_iload_n_mo 3⟩ : jn_GEm jn_G0 jn_me78 15 (.inl (jn_iload_n 3))) <|
  jn_cons (⟨jn_ifge_ok (t := 26) (off := 10) (by decide +kernel) (by decide), jn_ifge_mo 26⟩ : jn_GEm jn_G0 jn_me78 16 (.inl (jn_ifge 26))) <|
  jn_cons (⟨jn_aload_n_ok (i := 0) (k := 0) (by decide +kernel) rfl, jn_aload_n_mo 0⟩ : jn_GEm jn_G0 jn_me78 19 (.inl (jn_aload_n 0))) <|
  jn_cons (⟨jn_bipush_ok (n := (-4)) (v := (-4)) (by decide +kernel) (by decide), jn_bipush_mo (-4)⟩ : jn_GEm jn_G0 jn_me78 20 (.inl (jn_bipush (-4)))) <|
  jn_cons (jn_gc_of jn_G0_80 (jn_callV (i := 66) (na := 1) (ci := 6) (q := (RX6, TX6, 11)) (by decide +kernel) rfl (jn_in 210 (by decide +kernel) rfl) (jn_in 207 (by decide +kernel) rfl) (jn_in 209 (by decide +kernel) rfl) (jn_in 0 (by decide +kernel) rfl) (jn_in 54 (by decide +kernel) rfl) ⟨by decide, by decide, by decide +kernel⟩) : jn_GEm jn_G0 jn_me78 22 (.inr (.inl (80, 8, 2)))) <|
  jn_cons (⟨(by decide +kernel), rfl⟩ : jn_GEm jn_G0 jn_me78 25 (.inr (.inr 1))) <|
  jn_cons (⟨jn_iload_n_ok (i := 1) (k := 1) (by decide +kernel) rfl, jn_iload_n_mo 1⟩ : jn_GEm jn_G0 jn_me78 26 (.inl (jn_iload_n 1))) <|
  jn_cons (⟨jn_iflt_ok (t := 62) (off := 35) (by decide +kernel) (by decide), jn_iflt_mo 62⟩ : jn_GEm jn_G0 jn_me78 27 (.inl (jn_iflt 62))) <|
  jn_cons (⟨jn_iload_n_ok (i := 2) (k := 2) (by decide +kernel) rfl, jn_iload_n_mo 2⟩ : jn_GEm jn_G0 jn_me78 30 (.inl (jn_iload_n 2))) <|
  jn_cons (⟨jn_iflt_ok (t := 62) (off := 31) (by decide +kernel) (by decide), jn_iflt_mo 62⟩ : jn_GEm jn_G0 jn_me78 31 (.inl (jn_iflt 62))) <|
  jn_cons (⟨jn_iload_n_ok (i := 3) (k := 3) (by decide +kernel) rfl, jn_iload_n_mo 3⟩ : jn_GEm jn_G0 jn_me78 34 (.inl (jn_iload_n 3))) <|
  jn_cons (⟨jn_aload_n_ok (i := 0) (k := 0) (by decide +kernel) rfl, jn_aload_n_mo 0⟩ : jn_GEm jn_G0 jn_me78 35 (.inl (jn_aload_n 0))) <|
  jn_cons (⟨jn_getf_ok (ci := 6) (k := 5) (i := 32) (N := 11) (C := RX6) (T := TX6) (by decide +kernel) rfl (by decide) jn_u6 (jn_in 174 (by decide +kernel) rfl), jn_getf_mo 6 5⟩ : jn_GEm jn_G0 jn_me78 36 (.inl (jn_getf 6 5))) <|
  jn_cons (⟨jn_icgt_ok (t := 62) (off := 23) (by decide +kernel) (by decide), jn_icgt_mo 62⟩ : jn_GEm jn_G0 jn_me78 39 (.inl (jn_icgt 62))) <|
  jn_cons (⟨jn_iload_n_ok (i := 1) (k := 1) (by decide +kernel) rfl, jn_iload_n_mo 1⟩ : jn_GEm jn_G0 jn_me78 42 (.inl (jn_iload_n 1))) <|
  jn_cons (⟨jn_aload_n_ok (i := 0) (k := 0) (by decide +kernel) rfl, jn_aload_n_mo 0⟩ : jn_GEm jn_G0 jn_me78 43 (.inl (jn_aload_n 0))) <| jn_nil
theorem jn_o78_1 : ∀ q ∈ jn_c78_1, jn_GEm jn_G0 jn_me78 q.1 q.2 :=
  jn_cons (⟨jn_getf_ok (ci := 6) (k := 5) (i := 32) (N := 11) (C := RX6) (T := TX6) (by decide +kernel) rfl (by decide) jn_u6 (jn_in 174 (by decide +kernel) rfl), jn_getf_mo 6 5⟩ : jn_GEm jn_G0 jn_me78 44 (.inl (jn_getf 6 5))) <|
  jn_cons (⟨jn_iload_n_ok (i := 3) (k := 3) (by decide +kernel) rfl, jn_iload_n_mo 3⟩ : jn_GEm jn_G0 jn_me78 47 (.inl (jn_iload_n 3))) <|
  jn_cons (⟨jn_isub_ok (by decide +kernel), jn_isub_mo⟩ : jn_GEm jn_G0 jn_me78 48 (.inl jn_isub)) <|
  jn_cons (⟨jn_icgt_ok (t := 62) (off := 13) (by decide +kernel) (by decide), jn_icgt_mo 62⟩ : jn_GEm jn_G0 jn_me78 49 (.inl (jn_icgt 62))) <|
  jn_cons (⟨jn_iload_n_ok (i := 2) (k := 2) (by decide +kernel) rfl, jn_iload_n_mo 2⟩ : jn_GEm jn_G0 jn_me78 52 (.inl (jn_iload_n 2))) <|
  jn_cons (⟨jn_aload_n_ok (i := 0) (k := 0) (by decide +kernel) rfl, jn_aload_n_mo 0⟩ : jn_GEm jn_G0 jn_me78 53 (.inl (jn_aload_n 0))) <|
  jn_cons (⟨jn_getf_ok (ci := 6) (k := 5) (i := 32) (N := 11) (C := RX6) (T := TX6) (by decide +kernel) rfl (by decide) jn_u6 (jn_in 174 (by decide +kernel) rfl), jn_getf_mo 6 5⟩ : jn_GEm jn_G0 jn_me78 54 (.inl (jn_getf 6 5))) <|
  jn_cons (⟨jn_iload_n_ok (i := 3) (k := 3) (by decide +kernel) rfl, jn_iload_n_mo 3⟩ : jn_GEm jn_G0 jn_me78 57 (.inl (jn_iload_n 3))) <|
  jn_cons (⟨jn_isub_ok (by decide +kernel), jn_isub_mo⟩ : jn_GEm jn_G0 jn_me78 58 (.inl jn_isub)) <|
  jn_cons (⟨jn_icle_ok (t := 69) (off := 10) (by decide +kernel) (by decide), jn_icle_mo 69⟩ : jn_GEm jn_G0 jn_me78 59 (.inl (jn_icle 69))) <|
  jn_cons (⟨jn_aload_n_ok (i := 0) (k := 0) (by decide +kernel) rfl, jn_aload_n_mo 0⟩ : jn_GEm jn_G0 jn_me78 62 (.inl (jn_aload_n 0))) <|
  jn_cons (⟨jn_bipush_ok (n := (-6)) (v := (-6)) (by decide +kernel) (by decide), jn_bipush_mo (-6)⟩ : jn_GEm jn_G0 jn_me78 63 (.inl (jn_bipush (-6)))) <|
  jn_cons (jn_gc_of jn_G0_80 (jn_callV (i := 66) (na := 1) (ci := 6) (q := (RX6, TX6, 11)) (by decide +kernel) rfl (jn_in 210 (by decide +kernel) rfl) (jn_in 207 (by decide +kernel) rfl) (jn_in 209 (by decide +kernel) rfl) (jn_in 0 (by decide +kernel) rfl) (jn_in 54 (by decide +kernel) rfl) ⟨by decide, by decide, by decide +kernel⟩) : jn_GEm jn_G0 jn_me78 65 (.inr (.inl (80, 8, 2)))) <|
  jn_cons (⟨(by decide +kernel), rfl⟩ : jn_GEm jn_G0 jn_me78 68 (.inr (.inr 1))) <|
  jn_cons (⟨jn_aload_n_ok (i := 0) (k := 0) (by decide +kernel) rfl, jn_aload_n_mo 0⟩ : jn_GEm jn_G0 jn_me78 69 (.inl (jn_aload_n 0))) <|
  jn_cons (⟨jn_getf_ok (ci := 6) (k := 4) (i := 28) (N := 11) (C := RX6) (T := TX6) (by decide +kernel) rfl (by decide) jn_u6 (jn_in 173 (by decide +kernel) rfl), jn_getf_mo 6 4⟩ : jn_GEm jn_G0 jn_me78 70 (.inl (jn_getf 6 4))) <|
  jn_cons (⟨jn_iload_n_ok (i := 1) (k := 1) (by decide +kernel) rfl, jn_iload_n_mo 1⟩ : jn_GEm jn_G0 jn_me78 73 (.inl (jn_iload_n 1))) <|
  jn_cons (⟨jn_aload_n_ok (i := 0) (k := 0) (by decide +kernel) rfl, jn_aload_n_mo 0⟩ : jn_GEm jn_G0 jn_me78 74 (.inl (jn_aload_n 0))) <|
  jn_cons (⟨jn_getf_ok (ci := 6) (k := 4) (i := 28) (N := 11) (C := RX6) (T := TX6) (by decide +kernel) rfl (by decide) jn_u6 (jn_in 173 (by decide +kernel) rfl), jn_getf_mo 6 4⟩ : jn_GEm jn_G0 jn_me78 75 (.inl (jn_getf 6 4))) <|
  jn_cons (⟨jn_iload_n_ok (i := 2) (k := 2) (by decide +kernel) rfl, jn_iload_n_mo 2⟩ : jn_GEm jn_G0 jn_me78 78 (.inl (jn_iload_n 2))) <|
  jn_cons (⟨jn_iload_n_ok (i := 3) (k := 3) (by decide +kernel) rfl, jn_iload_n_mo 3⟩ : jn_GEm jn_G0 jn_me78 79 (.inl (jn_iload_n 3))) <|
  jn_cons (⟨jn_acopy_ok (i := 231) (by decide +kernel) (jn_in 563 (by decide +kernel) rfl) (jn_in 448 (by decide +kernel) rfl) (jn_in 447 (by decide +kernel) rfl) (jn_in 64 (by decide +kernel) rfl), jn_acopy_mo⟩ : jn_GEm jn_G0 jn_me78 80 (.inl jn_acopy)) <|
  jn_cons (⟨jn_iload_n_ok (i := 3) (k := 3) (by decide +kernel) rfl, jn_iload_n_mo 3⟩ : jn_GEm jn_G0 jn_me78 83 (.inl (jn_iload_n 3))) <|
  jn_cons (⟨(by decide +kernel), rfl⟩ : jn_GEm jn_G0 jn_me78 84 (.inr (.inr 1))) <| jn_nil
theorem jn_ok78 : jn_GM jn_G0 78 := jn_GM_of jn_G0_78 rfl rfl (by decide +kernel) (by decide) (jn_appd jn_o78_0 (jn_o78_1))
theorem jn_o79_0 : ∀ q ∈ jn_c79_0, jn_GEm jn_G0 jn_me79 q.1 q.2 :=
  jn_cons (⟨jn_iload_n_ok (i := 1) (k := 1) (by decide +kernel) rfl, jn_iload_n_mo 1⟩ : jn_GEm jn_G0 jn_me79 0 (.inl (jn_iload_n 1))) <|
  jn_cons (⟨jn_bipush_ok (n := (-2)) (v := (-2)) (by decide +kernel) (by decide), jn_bipush_mo (-2)⟩ : jn_GEm jn_G0 jn_me79 1 (.inl (jn_bipush (-2)))) <|
  jn_cons (⟨jn_icgt_ok (t := 12) (off := 9) (by decide +kernel) (by decide), jn_icgt_mo 12⟩ : jn_GEm jn_G0 jn_me79 3 (.inl (jn_icgt 12))) <|
  jn_cons (⟨jn_iload_n_ok (i := 1) (k := 1) (by decide +kernel) rfl, jn_iload_n_mo 1⟩ : jn_GEm jn_G0 jn_me79 6 (.inl (jn_iload_n 1))) <|
  jn_cons (⟨jn_bipush_ok (n := (-9)) (v := (-9)) (by decide +kernel) (by decide), jn_bipush_mo (-9)⟩ : jn_GEm jn_G0 jn_me79 7 (.inl (jn_bipush (-9)))) <|
  jn_cons (⟨jn_icge_ok (t := 19) (off := 10) (by decide +kernel) (by decide), jn_icge_mo 19⟩ : jn_GEm jn_G0 jn_me79 9 (.inl (jn_icge 19))) <|
  jn_cons (⟨jn_aload_n_ok (i := 0) (k := 0) (by decide +kernel) rfl, jn_aload_n_mo 0⟩ : jn_GEm jn_G0 jn_me79 12 (.inl (jn_aload_n 0))) <|
  jn_cons (⟨jn_bipush_ok (n := (-7)) (v := (-7)) (by decide +kernel) (by decide), jn_bipush_mo (-7)⟩ : jn_GEm jn_G0 jn_me79 13 (.inl (jn_bipush (-7)))) <|
  jn_cons (jn_gc_of jn_G0_80 (jn_callV (i := 66) (na := 1) (ci := 6) (q := (RX6, TX6, 11)) (by decide +kernel) rfl (jn_in 210 (by decide +kernel) rfl) (jn_in 207 (by decide +kernel) rfl) (jn_in 209 (by decide +kernel) rfl) (jn_in 0 (by decide +kernel) rfl) (jn_in 54 (by decide +kernel) rfl) ⟨by decide, by decide, by decide +kernel⟩) : jn_GEm jn_G0 jn_me79 15 (.inr (.inl (80, 8, 2)))) <|
  jn_cons (⟨(by decide +kernel), rfl⟩ : jn_GEm jn_G0 jn_me79 18 (.inr (.inr 1))) <|
  jn_cons (⟨jn_aload_n_ok (i := 0) (k := 0) (by decide +kernel) rfl, jn_aload_n_mo 0⟩ : jn_GEm jn_G0 jn_me79 19 (.inl (jn_aload_n 0))) <|
  jn_cons (⟨jn_getf_ok (ci := 6) (k := 6) (i := 35) (N := 11) (C := RX6) (T := TX6) (by decide +kernel) rfl (by decide) jn_u6 (jn_in 175 (by decide +kernel) rfl), jn_getf_mo 6 6⟩ : jn_GEm jn_G0 jn_me79 20 (.inl (jn_getf 6 6))) <|
  jn_cons (⟨jn_bipush_ok (n := (-2)) (v := (-2)) (by decide +kernel) (by decide), jn_bipush_mo (-2)⟩ : jn_GEm jn_G0 jn_me79 23 (.inl (jn_bipush (-2)))) <|
  jn_cons (⟨jn_iload_n_ok (i := 1) (k := 1) (by decide +kernel) rfl, jn_iload_n_mo 1⟩ : jn_GEm jn_G0 jn_me79 25 (.inl (jn_iload_n 1))) <|
  jn_cons (⟨jn_isub_ok (by decide +kernel), jn_isub_mo⟩ : jn_GEm jn_G0 jn_me79 26 (.inl jn_isub)) <|
  jn_cons (⟨jn_iaload_ok (by decide +kernel), jn_iaload_mo⟩ : jn_GEm jn_G0 jn_me79 27 (.inl jn_iaload)) <|
  jn_cons (⟨(by decide +kernel), rfl⟩ : jn_GEm jn_G0 jn_me79 28 (.inr (.inr 1))) <| jn_nil
theorem jn_ok79 : jn_GM jn_G0 79 := jn_GM_of jn_G0_79 rfl rfl (by decide +kernel) (by decide) (jn_o79_0)
theorem jn_o80_0 : ∀ q ∈ jn_c80_0, jn_GEm jn_G0 jn_me80 q.1 q.2 :=
  jn_cons (⟨jn_iload_n_ok (i := 1) (k := 1) (by decide +kernel) rfl, jn_iload_n_mo 1⟩ : jn_GEm jn_G0 jn_me80 0 (.inl (jn_iload_n 1))) <|
  jn_cons (⟨jn_bipush_ok (n := (-2)) (v := (-2)) (by decide +kernel) (by decide), jn_bipush_mo (-2)⟩ : jn_GEm jn_G0 jn_me80 1 (.inl (jn_bipush (-2)))) <|
  jn_cons (⟨jn_icgt_ok (t := 25) (off := 22) (by decide +kernel) (by decide), jn_icgt_mo 25⟩ : jn_GEm jn_G0 jn_me80 3 (.inl (jn_icgt 25))) <|
  jn_cons (⟨jn_iload_n_ok (i := 1) (k := 1) (by decide +kernel) rfl, jn_iload_n_mo 1⟩ : jn_GEm jn_G0 jn_me80 6 (.inl (jn_iload_n 1))) <|
  jn_cons (⟨jn_bipush_ok (n := (-9)) (v := (-9)) (by decide +kernel) (by decide), jn_bipush_mo (-9)⟩ : jn_GEm jn_G0 jn_me80 7 (.inl (jn_bipush (-9)))) <|
  jn_cons (⟨jn_iclt_ok (t := 25) (off := 16) (by decide +kernel) (by decide), jn_iclt_mo 25⟩ : jn_GEm jn_G0 jn_me80 9 (.inl (jn_iclt 25))) <|
  jn_cons (⟨jn_aload_n_ok (i := 0) (k := 0) (by decide +kernel) rfl, jn_aload_n_mo 0⟩ : jn_GEm jn_G0 jn_me80 12 (.inl (jn_aload_n 0))) <|
  jn_cons (⟨jn_getf_ok (ci := 6) (k := 6) (i := 35) (N := 11) (C := RX6) (T := TX6) (by decide +kernel) rfl (by decide) jn_u6 (jn_in 175 (by decide +kernel) rfl), jn_getf_mo 6 6⟩ : jn_GEm jn_G0 jn_me80 13 (.inl (jn_getf 6 6))) <|
  jn_cons (⟨jn_bipush_ok (n := (-2)) (v := (-2)) (by decide +kernel) (by decide), jn_bipush_mo (-2)⟩ : jn_GEm jn_G0 jn_me80 16 (.inl (jn_bipush (-2)))) <|
  jn_cons (⟨jn_iload_n_ok (i := 1) (k := 1) (by decide +kernel) rfl, jn_iload_n_mo 1⟩ : jn_GEm jn_G0 jn_me80 18 (.inl (jn_iload_n 1))) <|
  jn_cons (⟨jn_isub_ok (by decide +kernel), jn_isub_mo⟩ : jn_GEm jn_G0 jn_me80 19 (.inl jn_isub)) <|
  jn_cons (⟨jn_dup2_ok (by decide +kernel), jn_dup2_mo⟩ : jn_GEm jn_G0 jn_me80 20 (.inl jn_dup2)) <|
  jn_cons (⟨jn_iaload_ok (by decide +kernel), jn_iaload_mo⟩ : jn_GEm jn_G0 jn_me80 21 (.inl jn_iaload)) <|
  jn_cons (⟨jn_iconst_ok (by decide +kernel), jn_iconst_mo 1⟩ : jn_GEm jn_G0 jn_me80 22 (.inl (jn_iconst 1))) <|
  jn_cons (⟨jn_iadd_ok (by decide +kernel), jn_iadd_mo⟩ : jn_GEm jn_G0 jn_me80 23 (.inl jn_iadd)) <|
  jn_cons (⟨jn_iastore_ok (by decide +kernel), jn_iastore_mo⟩ : jn_GEm jn_G0 jn_me80 24 (.inl jn_iastore)) <|
  jn_cons (⟨jn_iload_n_ok (i := 1) (k := 1) (by decide +kernel) rfl, jn_iload_n_mo 1⟩ : jn_GEm jn_G0 jn_me80 25 (.inl (jn_iload_n 1))) <|
  jn_cons (⟨(by decide +kernel), rfl⟩ : jn_GEm jn_G0 jn_me80 26 (.inr (.inr 1))) <| jn_nil
theorem jn_ok80 : jn_GM jn_G0 80 := jn_GM_of jn_G0_80 rfl rfl (by decide +kernel) (by decide) (jn_o80_0)
theorem jn_o81_0 : ∀ q ∈ jn_c81_0, jn_GEm jn_G0 jn_me81 q.1 q.2 :=
  jn_cons (⟨jn_aload_n_ok (i := 0) (k := 0) (by decide +kernel) rfl, jn_aload_n_mo 0⟩ : jn_GEm jn_G0 jn_me81 0 (.inl (jn_aload_n 0))) <|
  jn_cons (⟨jn_iload_n_ok (i := 1) (k := 1) (by decide +kernel) rfl, jn_iload_n_mo 1⟩ : jn_GEm jn_G0 jn_me81 1 (.inl (jn_iload_n 1))) <|
  jn_cons (jn_gc_of jn_G0_80 (jn_callV (i := 66) (na := 1) (ci := 6) (q := (RX6, TX6, 11)) (by decide +kernel) rfl (jn_in 210 (by decide +kernel) rfl) (jn_in 207 (by decide +kernel) rfl) (jn_in 209 (by decide +kernel) rfl) (jn_in 0 (by decide +kernel) rfl) (jn_in 54 (by decide +kernel) rfl) ⟨by decide, by decide, by decide +kernel⟩) : jn_GEm jn_G0 jn_me81 2 (.inr (.inl (80, 8, 2)))) <|
  jn_cons (⟨jn_pop_ok (by decide +kernel), jn_pop_mo⟩ : jn_GEm jn_G0 jn_me81 5 (.inl jn_pop)) <|
  jn_cons (⟨jn_iconst_ok (by decide +kernel), jn_iconst_mo 0⟩ : jn_GEm jn_G0 jn_me81 6 (.inl (jn_iconst 0))) <|
  jn_cons (⟨(by decide +kernel), rfl⟩ : jn_GEm jn_G0 jn_me81 7 (.inr (.inr 1))) <| jn_nil
theorem jn_ok81 : jn_GM jn_G0 81 := jn_GM_of jn_G0_81 rfl rfl (by decide +kernel) (by decide) (jn_o81_0)
theorem jn_o82_0 : ∀ q ∈ jn_c82_0, jn_GEm jn_G0 jn_me82 q.1 q.2 :=
  jn_cons (⟨jn_iload_n_ok (i := 1) (k := 1) (by decide +kernel) rfl, jn_iload_n_mo 1⟩ : jn_GEm jn_G0 jn_me82 0 (.inl (jn_iload_n 1))) <|
  jn_cons (⟨jn_iflt_ok (t := 21) (off := 20) (by decide +kernel) (by decide), jn_iflt_mo 21⟩ : jn_GEm jn_G0 jn_me82 1 (.inl (jn_iflt 21))) <|
  jn_cons (⟨jn_iload_n_ok (i := 1) (k := 1) (by decide +kernel) rfl, jn_iload_n_mo 1⟩ : jn_GEm jn_G0 jn_me82 4 (.inl (jn_iload_n 1))) <|
  jn_cons (⟨jn_aload_n_ok (i := 0) (k := 0) (by decide +kernel) rfl, jn_aload_n_mo 0⟩ : jn_GEm jn_G0 jn_me82 5 (.inl (jn_aload_n 0))) <|
  jn_cons (⟨jn_getf_ok (ci := 6) (k := 1) (i := 15) (N := 11) (C := RX6) (T := TX6) (by decide +kernel) rfl (by decide) jn_u6 (jn_in 170 (by decide +kernel) rfl), jn_getf_mo 6 1⟩ : jn_GEm jn_G0 jn_me82 6 (.inl (jn_getf 6 1))) <|
  jn_cons (⟨jn_icge_ok (t := 21) (off := 12) (by decide +kernel) (by decide), jn_icge_mo 21⟩ : jn_GEm jn_G0 jn_me82 9 (.inl (jn_icge 21))) <|
  jn_cons (⟨jn_aload_n_ok (i := 0) (k := 0) (by decide +kernel) rfl, jn_aload_n_mo 0⟩ : jn_GEm jn_G0 jn_me82 12 (.inl (jn_aload_n 0))) <|
  jn_cons (⟨jn_getf_ok (ci := 6) (k := 0) (i := 11) (N := 11) (C := RX6) (T := TX6) (by decide +kernel) rfl (by decide) jn_u6 (jn_in 169 (by decide +kernel) rfl), jn_getf_mo 6 0⟩ : jn_GEm jn_G0 jn_me82 13 (.inl (jn_getf 6 0))) <|
  jn_cons (⟨jn_iload_n_ok (i := 1) (k := 1) (by decide +kernel) rfl, jn_iload_n_mo 1⟩ : jn_GEm jn_G0 jn_me82 16 (.inl (jn_iload_n 1))) <|
  jn_cons (⟨jn_aaload_ok (by decide +kernel), jn_aaload_mo⟩ : jn_GEm jn_G0 jn_me82 17 (.inl jn_aaload)) <|
  jn_cons (⟨jn_goto_ok (t := 22) (off := 4) (by decide +kernel) (by decide), jn_goto_mo 22⟩ : jn_GEm jn_G0 jn_me82 18 (.inl (jn_goto 22))) <|
  jn_cons (⟨jn_null_ok (by decide +kernel), jn_null_mo⟩ : jn_GEm jn_G0 jn_me82 21 (.inl jn_null)) <|
  jn_cons (⟨(by decide +kernel), ⟨_, rfl⟩⟩ : jn_GEm jn_G0 jn_me82 22 (.inr (.inr 4))) <| jn_nil
theorem jn_ok82 : jn_GM jn_G0 82 := jn_GM_of jn_G0_82 rfl rfl (by decide +kernel) (by decide) (jn_o82_0)
theorem jn_o83_0 : ∀ q ∈ jn_c83_0, jn_GEm jn_G0 jn_me83 q.1 q.2 :=
  jn_cons (⟨jn_iload_n_ok (i := 1) (k := 1) (by decide +kernel) rfl, jn_iload_n_mo 1⟩ : jn_GEm jn_G0 jn_me83 0 (.inl (jn_iload_n 1))) <|
  jn_cons (⟨jn_iflt_ok (t := 21) (off := 20) (by decide +kernel) (by decide), jn_iflt_mo 21⟩ : jn_GEm jn_G0 jn_me83 1 (.inl (jn_iflt 21))) <|
  jn_cons (⟨jn_iload_n_ok (i := 1) (k := 1) (by decide +kernel) rfl, jn_iload_n_mo 1⟩ : jn_GEm jn_G0 jn_me83 4 (.inl (jn_iload_n 1))) <|
  jn_cons (⟨jn_aload_n_ok (i := 0) (k := 0) (by decide +kernel) rfl, jn_aload_n_mo 0⟩ : jn_GEm jn_G0 jn_me83 5 (.inl (jn_aload_n 0))) <|
  jn_cons (⟨jn_getf_ok (ci := 6) (k := 3) (i := 25) (N := 11) (C := RX6) (T := TX6) (by decide +kernel) rfl (by decide) jn_u6 (jn_in 172 (by decide +kernel) rfl), jn_getf_mo 6 3⟩ : jn_GEm jn_G0 jn_me83 6 (.inl (jn_getf 6 3))) <|
  jn_cons (⟨jn_icge_ok (t := 21) (off := 12) (by decide +kernel) (by decide), jn_icge_mo 21⟩ : jn_GEm jn_G0 jn_me83 9 (.inl (jn_icge 21))) <|
  jn_cons (⟨jn_aload_n_ok (i := 0) (k := 0) (by decide +kernel) rfl, jn_aload_n_mo 0⟩ : jn_GEm jn_G0 jn_me83 12 (.inl (jn_aload_n 0))) <|
  jn_cons (⟨jn_getf_ok (ci := 6) (k := 2) (i := 21) (N := 11) (C := RX6) (T := TX6) (by decide +kernel) rfl (by decide) jn_u6 (jn_in 171 (by decide +kernel) rfl), jn_getf_mo 6 2⟩ : jn_GEm jn_G0 jn_me83 13 (.inl (jn_getf 6 2))) <|
  jn_cons (⟨jn_iload_n_ok (i := 1) (k := 1) (by decide +kernel) rfl, jn_iload_n_mo 1⟩ : jn_GEm jn_G0 jn_me83 16 (.inl (jn_iload_n 1))) <|
  jn_cons (⟨jn_aaload_ok (by decide +kernel), jn_aaload_mo⟩ : jn_GEm jn_G0 jn_me83 17 (.inl jn_aaload)) <|
  jn_cons (⟨jn_goto_ok (t := 22) (off := 4) (by decide +kernel) (by decide), jn_goto_mo 22⟩ : jn_GEm jn_G0 jn_me83 18 (.inl (jn_goto 22))) <|
  jn_cons (⟨jn_null_ok (by decide +kernel), jn_null_mo⟩ : jn_GEm jn_G0 jn_me83 21 (.inl jn_null)) <|
  jn_cons (⟨(by decide +kernel), ⟨_, rfl⟩⟩ : jn_GEm jn_G0 jn_me83 22 (.inr (.inr 4))) <| jn_nil
theorem jn_ok83 : jn_GM jn_G0 83 := jn_GM_of jn_G0_83 rfl rfl (by decide +kernel) (by decide) (jn_o83_0)
theorem jn_o84_0 : ∀ q ∈ jn_c84_0, jn_GEm jn_G0 jn_me84 q.1 q.2 :=
  jn_cons (⟨jn_iconst_ok (by decide +kernel), jn_iconst_mo 0⟩ : jn_GEm jn_G0 jn_me84 0 (.inl (jn_iconst 0))) <|
  jn_cons (⟨jn_istore_n_ok (i := 2) (k := 2) (by decide +kernel) rfl, jn_istore_n_mo 2⟩ : jn_GEm jn_G0 jn_me84 1 (.inl (jn_istore_n 2))) <|
  jn_cons (⟨jn_iload_n_ok (i := 2) (k := 2) (by decide +kernel) rfl, jn_iload_n_mo 2⟩ : jn_GEm jn_G0 jn_me84 2 (.inl (jn_iload_n 2))) <|
  jn_cons (⟨jn_aload_n_ok (i := 0) (k := 0) (by decide +kernel) rfl, jn_aload_n_mo 0⟩ : jn_GEm jn_G0 jn_me84 3 (.inl (jn_aload_n 0))) <|
  jn_cons (⟨jn_getf_ok (ci := 6) (k := 3) (i := 25) (N := 11) (C := RX6) (T := TX6) (by decide +kernel) rfl (by decide) jn_u6 (jn_in 172 (by decide +kernel) rfl), jn_getf_mo 6 3⟩ : jn_GEm jn_G0 jn_me84 4 (.inl (jn_getf 6 3))) <|
  jn_cons (⟨jn_icge_ok (t := 42) (off := 35) (by decide +kernel) (by decide), jn_icge_mo 42⟩ : jn_GEm jn_G0 jn_me84 7 (.inl (jn_icge 42))) <|
  jn_cons (⟨jn_aload_n_ok (i := 0) (k := 0) (by decide +kernel) rfl, jn_aload_n_mo 0⟩ : jn_GEm jn_G0 jn_me84 10 (.inl (jn_aload_n 0))) <|
  jn_cons (⟨jn_iload_n_ok (i := 2) (k := 2) (by decide +kernel) rfl, jn_iload_n_mo 2⟩ : jn_GEm jn_G0 jn_me84 11 (.inl (jn_iload_n 2))) <|
  jn_cons (jn_gc_of jn_G0_83 (jn_callV (i := 153) (na := 1) (ci := 6) (q := (RX6, TX6, 11)) (by decide +kernel) rfl (jn_in 231 (by decide +kernel) rfl) (jn_in 228 (by decide +kernel) rfl) (jn_in 230 (by decide +kernel) rfl) (jn_in 3 (by decide +kernel) rfl) (jn_in 54 (by decide +kernel) rfl) ⟨by decide, by decide, by decide +kernel⟩) : jn_GEm jn_G0 jn_me84 12 (.inr (.inl (83, 8, 2)))) <|
  jn_cons (⟨jn_astore_n_ok (i := 3) (k := 3) (by decide +kernel) rfl, jn_astore_n_mo 3⟩ : jn_GEm jn_G0 jn_me84 15 (.inl (jn_astore_n 3))) <|
  jn_cons (⟨jn_aload_n_ok (i := 3) (k := 3) (by decide +kernel) rfl, jn_aload_n_mo 3⟩ : jn_GEm jn_G0 jn_me84 16 (.inl (jn_aload_n 3))) <|
  jn_cons (⟨jn_ifnull_ok (t := 36) (off := 19) (by decide +kernel) (by decide), jn_ifnull_mo 36⟩ : jn_GEm jn_G0 jn_me84 17 (.inl (jn_ifnull 36))) <|
  jn_cons (⟨jn_aload_n_ok (i := 3) (k := 3) (by decide +kernel) rfl, jn_aload_n_mo 3⟩ : jn_GEm jn_G0 jn_me84 20 (.inl (jn_aload_n 3))) <|
  jn_cons (⟨jn_getf_ok (ci := 0) (k := 0) (i := 157) (N := 2) (C := RX0) (T := TX0) (by decide +kernel) rfl (by decide) jn_u0 (jn_in 429 (by decide +kernel) rfl), jn_getf_mo 0 0⟩ : jn_GEm jn_G0 jn_me84 21 (.inl (jn_getf 0 0))) <|
  jn_cons (⟨jn_getf_ok (ci := 2) (k := 0) (i := 185) (N := 3) (C := RX2) (T := TX2) (by decide +kernel) rfl (by decide) jn_u2 (jn_in 102 (by decide +kernel) rfl), jn_getf_mo 2 0⟩ : jn_GEm jn_G0 jn_me84 24 (.inl (jn_getf 2 0))) <|
  jn_cons (⟨jn_aload_n_ok (i := 1) (k := 1) (by decide +kernel) rfl, jn_aload_n_mo 1⟩ : jn_GEm jn_G0 jn_me84 27 (.inl (jn_aload_n 1))) <|
  jn_cons (⟨jn_getf_ok (ci := 2) (k := 0) (i := 185) (N := 3) (C := RX2) (T := TX2) (by decide +kernel) rfl (by decide) jn_u2 (jn_in 102 (by decide +kernel) rfl), jn_getf_mo 2 0⟩ : jn_GEm jn_G0 jn_me84 28 (.inl (jn_getf 2 0))) <|
  jn_cons (⟨jn_icne_ok (t := 36) (off := 5) (by decide +kernel) (by decide), jn_icne_mo 36⟩ : jn_GEm jn_G0 jn_me84 31 (.inl (jn_icne 36))) <|
  jn_cons (⟨jn_iconst_ok (by decide +kernel), jn_iconst_mo 1⟩ : jn_GEm jn_G0 jn_me84 34 (.inl (jn_iconst 1))) <|
  jn_cons (⟨(by decide +kernel), rfl⟩ : jn_GEm jn_G0 jn_me84 35 (.inr (.inr 2))) <|
  jn_cons (⟨jn_iinc_ok (i := 2) (n := 1) (by decide +kernel), jn_iinc_mo 2 1⟩ : jn_GEm jn_G0 jn_me84 36 (.inl (jn_iinc 2 1))) <|
  jn_cons (⟨jn_goto_ok (t := 2) (off := -37) (by decide +kernel) (by decide), jn_goto_mo 2⟩ : jn_GEm jn_G0 jn_me84 39 (.inl (jn_goto 2))) <|
  jn_cons (⟨jn_iconst_ok (by decide +kernel), jn_iconst_mo 0⟩ : jn_GEm jn_G0 jn_me84 42 (.inl (jn_iconst 0))) <|
  jn_cons (⟨(by decide +kernel), rfl⟩ : jn_GEm jn_G0 jn_me84 43 (.inr (.inr 2))) <| jn_nil
theorem jn_ok84 : jn_GM jn_G0 84 := jn_GM_of jn_G0_84 rfl rfl (by decide +kernel) (by decide) (jn_o84_0)
