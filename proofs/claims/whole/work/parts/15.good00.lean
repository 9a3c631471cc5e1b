theorem jn_o0_0 : ∀ q ∈ jn_c0_0, jn_GEm jn_G0 jn_me0 q.1 q.2 :=
  jn_cons (⟨jn_aload_n_ok (i := 0) (k := 0) (by decide +kernel) rfl, jn_aload_n_mo 0⟩ : jn_GEm jn_G0 jn_me0 0 (.inl (jn_aload_n 0))) <|
  jn_cons (⟨jn_oinit_ok (i := 3) (by decide +kernel) (jn_in 426 (by decide +kernel) rfl) (jn_in 71 (by decide +kernel) rfl) (jn_in 72 (by decide +kernel) rfl), jn_oinit_mo⟩ : jn_GEm jn_G0 jn_me0 1 (.inl jn_oinit)) <|
  jn_cons (⟨jn_aload_n_ok (i := 0) (k := 0) (by decide +kernel) rfl, jn_aload_n_mo 0⟩ : jn_GEm jn_G0 jn_me0 4 (.inl (jn_aload_n 0))) <|
  jn_cons (⟨jn_aload_n_ok (i := 1) (k := 1) (by decide +kernel) rfl, jn_aload_n_mo 1⟩ : jn_GEm jn_G0 jn_me0 5 (.inl (jn_aload_n 1))) <|
  jn_cons (⟨jn_putF_ok (ci := 0) (k := 0) (κ := 2) (i := 9) (N := 2) (C := RX0) (T := TX0) (ty0 := tyX0) (ty := .object "DebtNet$Net") (by decide +kernel) rfl (by decide) jn_u0 (jn_in 427 (by decide +kernel) rfl) tyX0_ok nmX0 rfl (by decide +kernel) (jn_po_obj _) rfl rfl, jn_putF_mo 0 0 2⟩ : jn_GEm jn_G0 jn_me0 6 (.inl (jn_putF 0 0 2))) <|
  jn_cons (⟨jn_aload_n_ok (i := 0) (k := 0) (by decide +kernel) rfl, jn_aload_n_mo 0⟩ : jn_GEm jn_G0 jn_me0 9 (.inl (jn_aload_n 0))) <|
  jn_cons (⟨jn_bipush_ok (n := 6) (v := 6) (by decide +kernel) (by decide), jn_bipush_mo 6⟩ : jn_GEm jn_G0 jn_me0 10 (.inl (jn_bipush 6))) <|
  jn_cons (⟨jn_newI_ok (by decide +kernel) (jn_in 87 (by decide +kernel) rfl), jn_newI_mo⟩ : jn_GEm jn_G0 jn_me0 12 (.inl jn_newI)) <|
  jn_cons (⟨jn_putF_ok (ci := 0) (k := 1) (κ := 2) (i := 15) (N := 2) (C := RX0) (T := TX0) (ty0 := tyX0) (ty := .array .int) (by decide +kernel) rfl (by decide) jn_u0 (jn_in 430 (by decide +kernel) rfl) tyX0_ok nmX0 rfl (by decide +kernel) (jn_po_arr _) rfl rfl, jn_putF_mo 0 1 2⟩ : jn_GEm jn_G0 jn_me0 14 (.inl (jn_putF 0 1 2))) <|
  jn_cons (⟨(by decide +kernel), rfl⟩ : jn_GEm jn_G0 jn_me0 17 (.inr (.inr 0))) <| jn_nil
theorem jn_ok0 : jn_GM jn_G0 0 := jn_GM_of jn_G0_0 rfl rfl (by decide +kernel) (by decide) (jn_o0_0)
theorem jn_o1_0 : ∀ q ∈ jn_c1_0, jn_GEm jn_G0 jn_me1 q.1 q.2 :=
  jn_cons (⟨jn_iconst_ok (by decide +kernel), jn_iconst_mo 0⟩ : jn_GEm jn_G0 jn_me1 0 (.inl (jn_iconst 0))) <|
  jn_cons (⟨jn_istore_n_ok (i := 1) (k := 1) (by decide +kernel) rfl, jn_istore_n_mo 1⟩ : jn_GEm jn_G0 jn_me1 1 (.inl (jn_istore_n 1))) <|
  jn_cons (⟨jn_iconst_ok (by decide +kernel), jn_iconst_mo 0⟩ : jn_GEm jn_G0 jn_me1 2 (.inl (jn_iconst 0))) <|
  jn_cons (⟨jn_istore_n_ok (i := 2) (k := 2) (by decide +kernel) rfl, jn_istore_n_mo 2⟩ : jn_GEm jn_G0 jn_me1 3 (.inl (jn_istore_n 2))) <|
  jn_cons (⟨jn_iload_n_ok (i := 2) (k := 2) (by decide +kernel) rfl, jn_iload_n_mo 2⟩ : jn_GEm jn_G0 jn_me1 4 (.inl (jn_iload_n 2))) <|
  jn_cons (⟨jn_bipush_ok (n := 6) (v := 6) (by decide +kernel) (by decide), jn_bipush_mo 6⟩ : jn_GEm jn_G0 jn_me1 5 (.inl (jn_bipush 6))) <|
  jn_cons (⟨jn_icge_ok (t := 25) (off := 18) (by decide +kernel) (by decide), jn_icge_mo 25⟩ : jn_GEm jn_G0 jn_me1 7 (.inl (jn_icge 25))) <|
  jn_cons (⟨jn_iload_n_ok (i := 1) (k := 1) (by decide +kernel) rfl, jn_iload_n_mo 1⟩ : jn_GEm jn_G0 jn_me1 10 (.inl (jn_iload_n 1))) <|
  jn_cons (⟨jn_aload_n_ok (i := 0) (k := 0) (by decide +kernel) rfl, jn_aload_n_mo 0⟩ : jn_GEm jn_G0 jn_me1 11 (.inl (jn_aload_n 0))) <|
  jn_cons (⟨jn_getf_ok (ci := 0) (k := 1) (i := 15) (N := 2) (C := RX0) (T := TX0) (by decide +kernel) rfl (by decide) jn_u0 (jn_in 430 (by decide +kernel) rfl), jn_getf_mo 0 1⟩ : jn_GEm jn_G0 jn_me1 12 (.inl (jn_getf 0 1))) <|
  jn_cons (⟨jn_iload_n_ok (i := 2) (k := 2) (by decide +kernel) rfl, jn_iload_n_mo 2⟩ : jn_GEm jn_G0 jn_me1 15 (.inl (jn_iload_n 2))) <|
  jn_cons (⟨jn_iaload_ok (by decide +kernel), jn_iaload_mo⟩ : jn_GEm jn_G0 jn_me1 16 (.inl jn_iaload)) <|
  jn_cons (⟨jn_iadd_ok (by decide +kernel), jn_iadd_mo⟩ : jn_GEm jn_G0 jn_me1 17 (.inl jn_iadd)) <|
  jn_cons (⟨jn_istore_n_ok (i := 1) (k := 1) (by decide +kernel) rfl, jn_istore_n_mo 1⟩ : jn_GEm jn_G0 jn_me1 18 (.inl (jn_istore_n 1))) <|
  jn_cons (⟨jn_iinc_ok (i := 2) (n := 1) (by decide +kernel), jn_iinc_mo 2 1⟩ : jn_GEm jn_G0 jn_me1 19 (.inl (jn_iinc 2 1))) <|
  jn_cons (⟨jn_goto_ok (t := 4) (off := -18) (by decide +kernel) (by decide), jn_goto_mo 4⟩ : jn_GEm jn_G0 jn_me1 22 (.inl (jn_goto 4))) <|
  jn_cons (⟨jn_iload_n_ok (i := 1) (k := 1) (by decide +kernel) rfl, jn_iload_n_mo 1⟩ : jn_GEm jn_G0 jn_me1 25 (.inl (jn_iload_n 1))) <|
  jn_cons (⟨(by decide +kernel), rfl⟩ : jn_GEm jn_G0 jn_me1 26 (.inr (.inr 1))) <| jn_nil
theorem jn_ok1 : jn_GM jn_G0 1 := jn_GM_of jn_G0_1 rfl rfl (by decide +kernel) (by decide) (jn_o1_0)
theorem jn_o2_0 : ∀ q ∈ jn_c2_0, jn_GEm jn_G0 jn_me2 q.1 q.2 :=
  jn_cons (⟨jn_iconst_ok (by decide +kernel), jn_iconst_mo 0⟩ : jn_GEm jn_G0 jn_me2 0 (.inl (jn_iconst 0))) <|
  jn_cons (⟨jn_istore_n_ok (i := 2) (k := 2) (by decide +kernel) rfl, jn_istore_n_mo 2⟩ : jn_GEm jn_G0 jn_me2 1 (.inl (jn_istore_n 2))) <|
  jn_cons (⟨jn_iload_n_ok (i := 2) (k := 2) (by decide +kernel) rfl, jn_iload_n_mo 2⟩ : jn_GEm jn_G0 jn_me2 2 (.inl (jn_iload_n 2))) <|
  jn_cons (⟨jn_bipush_ok (n := 6) (v := 6) (by decide +kernel) (by decide), jn_bipush_mo 6⟩ : jn_GEm jn_G0 jn_me2 3 (.inl (jn_bipush 6))) <|
  jn_cons (⟨jn_icge_ok (t := 30) (off := 25) (by decide +kernel) (by decide), jn_icge_mo 30⟩ : jn_GEm jn_G0 jn_me2 5 (.inl (jn_icge 30))) <|
  jn_cons (⟨jn_iload_n_ok (i := 2) (k := 2) (by decide +kernel) rfl, jn_iload_n_mo 2⟩ : jn_GEm jn_G0 jn_me2 8 (.inl (jn_iload_n 2))) <|
  jn_cons (⟨jn_iload_n_ok (i := 1) (k := 1) (by decide +kernel) rfl, jn_iload_n_mo 1⟩ : jn_GEm jn_G0 jn_me2 9 (.inl (jn_iload_n 1))) <|
  jn_cons (⟨jn_iceq_ok (t := 24) (off := 14) (by decide +kernel) (by decide), jn_iceq_mo 24⟩ : jn_GEm jn_G0 jn_me2 10 (.inl (jn_iceq 24))) <|
  jn_cons (⟨jn_aload_n_ok (i := 0) (k := 0) (by decide +kernel) rfl, jn_aload_n_mo 0⟩ : jn_GEm jn_G0 jn_me2 13 (.inl (jn_aload_n 0))) <|
  jn_cons (⟨jn_getf_ok (ci := 0) (k := 1) (i := 15) (N := 2) (C := RX0) (T := TX0) (by decide +kernel) rfl (by decide) jn_u0 (jn_in 430 (by decide +kernel) rfl), jn_getf_mo 0 1⟩ : jn_GEm jn_G0 jn_me2 14 (.inl (jn_getf 0 1))) <|
  jn_cons (⟨jn_iload_n_ok (i := 2) (k := 2) (by decide +kernel) rfl, jn_iload_n_mo 2⟩ : jn_GEm jn_G0 jn_me2 17 (.inl (jn_iload_n 2))) <|
  jn_cons (⟨jn_iaload_ok (by decide +kernel), jn_iaload_mo⟩ : jn_GEm jn_G0 jn_me2 18 (.inl jn_iaload)) <|
  jn_cons (⟨jn_ifge_ok (t := 24) (off := 5) (by decide +kernel) (by decide), jn_ifge_mo 24⟩ : jn_GEm jn_G0 jn_me2 19 (.inl (jn_ifge 24))) <|
  jn_cons (⟨jn_iconst_ok (by decide +kernel), jn_iconst_mo 1⟩ : jn_GEm jn_G0 jn_me2 22 (.inl (jn_iconst 1))) <|
  jn_cons (⟨(by decide +kernel), rfl⟩ : jn_GEm jn_G0 jn_me2 23 (.inr (.inr 2))) <|
  jn_cons (⟨jn_iinc_ok (i := 2) (n := 1) (by decide +kernel), jn_iinc_mo 2 1⟩ : jn_GEm jn_G0 jn_me2 24 (.inl (jn_iinc 2 1))) <|
  jn_cons (⟨jn_goto_ok (t := 2) (off := -25) (by decide +kernel) (by decide), jn_goto_mo 2⟩ : jn_GEm jn_G0 jn_me2 27 (.inl (jn_goto 2))) <|
  jn_cons (⟨jn_iconst_ok (by decide +kernel), jn_iconst_mo 0⟩ : jn_GEm jn_G0 jn_me2 30 (.inl (jn_iconst 0))) <|
  jn_cons (⟨(by decide +kernel), rfl⟩ : jn_GEm jn_G0 jn_me2 31 (.inr (.inr 2))) <| jn_nil
theorem jn_ok2 : jn_GM jn_G0 2 := jn_GM_of jn_G0_2 rfl rfl (by decide +kernel) (by decide) (jn_o2_0)
theorem jn_o3_0 : ∀ q ∈ jn_c3_0, jn_GEm jn_G0 jn_me3 q.1 q.2 :=
  jn_cons (⟨jn_iconst_ok (by decide +kernel), jn_iconst_mo 0⟩ : jn_GEm jn_G0 jn_me3 0 (.inl (jn_iconst 0))) <|
  jn_cons (⟨jn_istore_n_ok (i := 2) (k := 2) (by decide +kernel) rfl, jn_istore_n_mo 2⟩ : jn_GEm jn_G0 jn_me3 1 (.inl (jn_istore_n 2))) <|
  jn_cons (⟨jn_iconst_ok (by decide +kernel), jn_iconst_mo 0⟩ : jn_GEm jn_G0 jn_me3 2 (.inl (jn_iconst 0))) <|
  jn_cons (⟨jn_istore_n_ok (i := 3) (k := 3) (by decide +kernel) rfl, jn_istore_n_mo 3⟩ : jn_GEm jn_G0 jn_me3 3 (.inl (jn_istore_n 3))) <|
  jn_cons (⟨jn_iload_n_ok (i := 3) (k := 3) (by decide +kernel) rfl, jn_iload_n_mo 3⟩ : jn_GEm jn_G0 jn_me3 4 (.inl (jn_iload_n 3))) <|
  jn_cons (⟨jn_bipush_ok (n := 6) (v := 6) (by decide +kernel) (by decide), jn_bipush_mo 6⟩ : jn_GEm jn_G0 jn_me3 5 (.inl (jn_bipush 6))) <|
  jn_cons (⟨jn_icge_ok (t := 31) (off := 24) (by decide +kernel) (by decide), jn_icge_mo 31⟩ : jn_GEm jn_G0 jn_me3 7 (.inl (jn_icge 31))) <|
  jn_cons (⟨jn_aload_n_ok (i := 0) (k := 0) (by decide +kernel) rfl, jn_aload_n_mo 0⟩ : jn_GEm jn_G0 jn_me3 10 (.inl (jn_aload_n 0))) <|
  jn_cons (⟨jn_getf_ok (ci := 0) (k := 1) (i := 15) (N := 2) (C := RX0) (T := TX0) (by decide +kernel) rfl (by decide) jn_u0 (jn_in 430 (by decide +kernel) rfl), jn_getf_mo 0 1⟩ : jn_GEm jn_G0 jn_me3 11 (.inl (jn_getf 0 1))) <|
  jn_cons (⟨jn_iload_n_ok (i := 3) (k := 3) (by decide +kernel) rfl, jn_iload_n_mo 3⟩ : jn_GEm jn_G0 jn_me3 14 (.inl (jn_iload_n 3))) <|
  jn_cons (⟨jn_iaload_ok (by decide +kernel), jn_iaload_mo⟩ : jn_GEm jn_G0 jn_me3 15 (.inl jn_iaload)) <|
  jn_cons (⟨jn_aload_n_ok (i := 1) (k := 1) (by decide +kernel) rfl, jn_aload_n_mo 1⟩ : jn_GEm jn_G0 jn_me3 16 (.inl (jn_aload_n 1))) <|
  jn_cons (⟨jn_iload_n_ok (i := 3) (k := 3) (by decide +kernel) rfl, jn_iload_n_mo 3⟩ : jn_GEm jn_G0 jn_me3 17 (.inl (jn_iload_n 3))) <|
  jn_cons (⟨jn_iaload_ok (by decide +kernel), jn_iaload_mo⟩ : jn_GEm jn_G0 jn_me3 18 (.inl jn_iaload)) <|
  jn_cons (⟨jn_iceq_ok (t := 25) (off := 6) (by decide +kernel) (by decide), jn_iceq_mo 25⟩ : jn_GEm jn_G0 jn_me3 19 (.inl (jn_iceq 25))) <|
  jn_cons (⟨jn_iinc_ok (i := 2) (n := 1) (by decide +kernel), jn_iinc_mo 2 1⟩ : jn_GEm jn_G0 jn_me3 22 (.inl (jn_iinc 2 1))) <|
  jn_cons (⟨jn_iinc_ok (i := 3) (n := 1) (by decide +kernel), jn_iinc_mo 3 1⟩ : jn_GEm jn_G0 jn_me3 25 (.inl (jn_iinc 3 1))) <|
  jn_cons (⟨jn_goto_ok (t := 4) (off := -24) (by decide +kernel) (by decide), jn_goto_mo 4⟩ : jn_GEm jn_G0 jn_me3 28 (.inl (jn_goto 4))) <|
  jn_cons (⟨jn_iload_n_ok (i := 2) (k := 2) (by decide +kernel) rfl, jn_iload_n_mo 2⟩ : jn_GEm jn_G0 jn_me3 31 (.inl (jn_iload_n 2))) <|
  jn_cons (⟨(by decide +kernel), rfl⟩ : jn_GEm jn_G0 jn_me3 32 (.inr (.inr 1))) <| jn_nil
theorem jn_ok3 : jn_GM jn_G0 3 := jn_GM_of jn_G0_3 rfl rfl (by decide +kernel) (by decide) (jn_o3_0)
theorem jn_o4_0 : ∀ q ∈ jn_c4_0, jn_GEm jn_G0 jn_me4 q.1 q.2 :=
  jn_cons (⟨jn_aload_n_ok (i := 0) (k := 0) (by decide +kernel) rfl, jn_aload_n_mo 0⟩ : jn_GEm jn_G0 jn_me4 0 (.inl (jn_aload_n 0))) <|
  jn_cons (⟨jn_getf_ok (ci := 0) (k := 1) (i := 15) (N := 2) (C := RX0) (T := TX0) (by decide +kernel) rfl (by decide) jn_u0 (jn_in 430 (by decide +kernel) rfl), jn_getf_mo 0 1⟩ : jn_GEm jn_G0 jn_me4 1 (.inl (jn_getf 0 1))) <|
  jn_cons (⟨jn_iconst_ok (by decide +kernel), jn_iconst_mo 0⟩ : jn_GEm jn_G0 jn_me4 4 (.inl (jn_iconst 0))) <|
  jn_cons (⟨jn_aload_n_ok (i := 1) (k := 1) (by decide +kernel) rfl, jn_aload_n_mo 1⟩ : jn_GEm jn_G0 jn_me4 5 (.inl (jn_aload_n 1))) <|
  jn_cons (⟨jn_iconst_ok (by decide +kernel), jn_iconst_mo 0⟩ : jn_GEm jn_G0 jn_me4 6 (.inl (jn_iconst 0))) <|
  jn_cons (⟨jn_bipush_ok (n := 6) (v := 6) (by decide +kernel) (by decide), jn_bipush_mo 6⟩ : jn_GEm jn_G0 jn_me4 7 (.inl (jn_bipush 6))) <|
  jn_cons (⟨jn_acopy_ok (i := 19) (by decide +kernel) (jn_in 446 (by decide +kernel) rfl) (jn_in 448 (by decide +kernel) rfl) (jn_in 447 (by decide +kernel) rfl) (jn_in 64 (by decide +kernel) rfl), jn_acopy_mo⟩ : jn_GEm jn_G0 jn_me4 9 (.inl jn_acopy)) <|
  jn_cons (⟨(by decide +kernel), rfl⟩ : jn_GEm jn_G0 jn_me4 12 (.inr (.inr 0))) <| jn_nil
theorem jn_ok4 : jn_GM jn_G0 4 := jn_GM_of jn_G0_4 rfl rfl (by decide +kernel) (by decide) (jn_o4_0)
theorem jn_o5_0 : ∀ q ∈ jn_c5_0, jn_GEm jn_G0 jn_me5 q.1 q.2 :=
  jn_cons (⟨jn_aload_n_ok (i := 0) (k := 0) (by decide +kernel) rfl, jn_aload_n_mo 0⟩ : jn_GEm jn_G0 jn_me5 0 (.inl (jn_aload_n 0))) <|
  jn_cons (⟨jn_aload_n_ok (i := 1) (k := 1) (by decide +kernel) rfl, jn_aload_n_mo 1⟩ : jn_GEm jn_G0 jn_me5 1 (.inl (jn_aload_n 1))) <|
  jn_cons (jn_gc_of jn_G0_3 (jn_callV (i := 25) (na := 1) (ci := 0) (q := (RX0, TX0, 2)) (by decide +kernel) rfl (jn_in 445 (by decide +kernel) rfl) (jn_in 442 (by decide +kernel) rfl) (jn_in 443 (by decide +kernel) rfl) (jn_in 444 (by decide +kernel) rfl) (jn_in 63 (by decide +kernel) rfl) ⟨by decide, by decide, by decide +kernel⟩) : jn_GEm jn_G0 jn_me5 2 (.inr (.inl (3, 2, 2)))) <|
  jn_cons (⟨jn_istore_n_ok (i := 2) (k := 2) (by decide +kernel) rfl, jn_istore_n_mo 2⟩ : jn_GEm jn_G0 jn_me5 5 (.inl (jn_istore_n 2))) <|
  jn_cons (⟨jn_aload_n_ok (i := 1) (k := 1) (by decide +kernel) rfl, jn_aload_n_mo 1⟩ : jn_GEm jn_G0 jn_me5 6 (.inl (jn_aload_n 1))) <|
  jn_cons (⟨jn_iconst_ok (by decide +kernel), jn_iconst_mo 0⟩ : jn_GEm jn_G0 jn_me5 7 (.inl (jn_iconst 0))) <|
  jn_cons (⟨jn_aload_n_ok (i := 0) (k := 0) (by decide +kernel) rfl, jn_aload_n_mo 0⟩ : jn_GEm jn_G0 jn_me5 8 (.inl (jn_aload_n 0))) <|
  jn_cons (⟨jn_getf_ok (ci := 0) (k := 1) (i := 15) (N := 2) (C := RX0) (T := TX0) (by decide +kernel) rfl (by decide) jn_u0 (jn_in 430 (by decide +kernel) rfl), jn_getf_mo 0 1⟩ : jn_GEm jn_G0 jn_me5 9 (.inl (jn_getf 0 1))) <|
  jn_cons (⟨jn_iconst_ok (by decide +kernel), jn_iconst_mo 0⟩ : jn_GEm jn_G0 jn_me5 12 (.inl (jn_iconst 0))) <|
  jn_cons (⟨jn_bipush_ok (n := 6) (v := 6) (by decide +kernel) (by decide), jn_bipush_mo 6⟩ : jn_GEm jn_G0 jn_me5 13 (.inl (jn_bipush 6))) <|
  jn_cons (⟨jn_acopy_ok (i := 19) (by decide +kernel) (jn_in 446 (by decide +kernel) rfl) (jn_in 448 (by decide +kernel) rfl) (jn_in 447 (by decide +kernel) rfl) (jn_in 64 (by decide +kernel) rfl), jn_acopy_mo⟩ : jn_GEm jn_G0 jn_me5 15 (.inl jn_acopy)) <|
  jn_cons (⟨jn_iload_n_ok (i := 2) (k := 2) (by decide +kernel) rfl, jn_iload_n_mo 2⟩ : jn_GEm jn_G0 jn_me5 18 (.inl (jn_iload_n 2))) <|
  jn_cons (⟨(by decide +kernel), rfl⟩ : jn_GEm jn_G0 jn_me5 19 (.inr (.inr 1))) <| jn_nil
theorem jn_ok5 : jn_GM jn_G0 5 := jn_GM_of jn_G0_5 rfl rfl (by decide +kernel) (by decide) (jn_o5_0)
theorem jn_o6_0 : ∀ q ∈ jn_c6_0, jn_GEm jn_G0 jn_me6 q.1 q.2 :=
  jn_cons (⟨jn_iconst_ok (by decide +kernel), jn_iconst_mo 1⟩ : jn_GEm jn_G0 jn_me6 0 (.inl (jn_iconst 1))) <|
  jn_cons (⟨jn_iload_n_ok (i := 1) (k := 1) (by decide +kernel) rfl, jn_iload_n_mo 1⟩ : jn_GEm jn_G0 jn_me6 1 (.inl (jn_iload_n 1))) <|
  jn_cons (⟨jn_ishl_ok (by decide +kernel), jn_ishl_mo⟩ : jn_GEm jn_G0 jn_me6 2 (.inl jn_ishl)) <|
  jn_cons (⟨jn_istore_n_ok (i := 2) (k := 2) (by decide +kernel) rfl, jn_istore_n_mo 2⟩ : jn_GEm jn_G0 jn_me6 3 (.inl (jn_istore_n 2))) <|
  jn_cons (⟨jn_iconst_ok (by decide +kernel), jn_iconst_mo 1⟩ : jn_GEm jn_G0 jn_me6 4 (.inl (jn_iconst 1))) <|
  jn_cons (⟨jn_istore_n_ok (i := 3) (k := 3) (by decide +kernel) rfl, jn_istore_n_mo 3⟩ : jn_GEm jn_G0 jn_me6 5 (.inl (jn_istore_n 3))) <|
  jn_cons (⟨jn_iload_n_ok (i := 3) (k := 3) (by decide +kernel) rfl, jn_iload_n_mo 3⟩ : jn_GEm jn_G0 jn_me6 6 (.inl (jn_iload_n 3))) <|
  jn_cons (⟨jn_aload_n_ok (i := 0) (k := 0) (by decide +kernel) rfl, jn_aload_n_mo 0⟩ : jn_GEm jn_G0 jn_me6 7 (.inl (jn_aload_n 0))) <|
  jn_cons (⟨jn_getf_ok (ci := 0) (k := 0) (i := 9) (N := 2) (C := RX0) (T := TX0) (by decide +kernel) rfl (by decide) jn_u0 (jn_in 427 (by decide +kernel) rfl), jn_getf_mo 0 0⟩ : jn_GEm jn_G0 jn_me6 8 (.inl (jn_getf 0 0))) <|
  jn_cons (⟨jn_getf_ok (ci := 2) (k := 1) (i := 29) (N := 3) (C := RX2) (T := TX2) (by decide +kernel) rfl (by decide) jn_u2 (jn_in 108 (by decide +kernel) rfl), jn_getf_mo 2 1⟩ : jn_GEm jn_G0 jn_me6 11 (.inl (jn_getf 2 1))) <|
  jn_cons (⟨jn_icge_ok (t := 71) (off := 57) (by decide +kernel) (by decide), jn_icge_mo 71⟩ : jn_GEm jn_G0 jn_me6 14 (.inl (jn_icge 71))) <|
  jn_cons (⟨jn_iconst_ok (by decide +kernel), jn_iconst_mo 0⟩ : jn_GEm jn_G0 jn_me6 17 (.inl (jn_iconst 0))) <|
  jn_cons (⟨jn_istore_ok (i := 4) (by decide +kernel), jn_istore_mo 4⟩ : jn_GEm jn_G0 jn_me6 18 (.inl (jn_istore 4))) <|
  jn_cons (⟨jn_iload_ok (i := 4) (by decide +kernel), jn_iload_mo 4⟩ : jn_GEm jn_G0 jn_me6 20 (.inl (jn_iload 4))) <|
  jn_cons (⟨jn_aload_n_ok (i := 0) (k := 0) (by decide +kernel) rfl, jn_aload_n_mo 0⟩ : jn_GEm jn_G0 jn_me6 22 (.inl (jn_aload_n 0))) <|
  jn_cons (⟨jn_getf_ok (ci := 0) (k := 0) (i := 9) (N := 2) (C := RX0) (T := TX0) (by decide +kernel) rfl (by decide) jn_u0 (jn_in 427 (by decide +kernel) rfl), jn_getf_mo 0 0⟩ : jn_GEm jn_G0 jn_me6 23 (.inl (jn_getf 0 0))) <|
  jn_cons (⟨jn_getf_ok (ci := 2) (k := 1) (i := 29) (N := 3) (C := RX2) (T := TX2) (by decide +kernel) rfl (by decide) jn_u2 (jn_in 108 (by decide +kernel) rfl), jn_getf_mo 2 1⟩ : jn_GEm jn_G0 jn_me6 26 (.inl (jn_getf 2 1))) <|
  jn_cons (⟨jn_icge_ok (t := 65) (off := 36) (by decide +kernel) (by decide), jn_icge_mo 65⟩ : jn_GEm jn_G0 jn_me6 29 (.inl (jn_icge 65))) <|
  jn_cons (⟨jn_aload_n_ok (i := 0) (k := 0) (by decide +kernel) rfl, jn_aload_n_mo 0⟩ : jn_GEm jn_G0 jn_me6 32 (.inl (jn_aload_n 0))) <|
  jn_cons (⟨jn_getf_ok (ci := 0) (k := 0) (i := 9) (N := 2) (C := RX0) (T := TX0) (by decide +kernel) rfl (by decide) jn_u0 (jn_in 427 (by decide +kernel) rfl), jn_getf_mo 0 0⟩ : jn_GEm jn_G0 jn_me6 33 (.inl (jn_getf 0 0))) <|
  jn_cons (⟨jn_iload_ok (i := 4) (by decide +kernel), jn_iload_mo 4⟩ : jn_GEm jn_G0 jn_me6 36 (.inl (jn_iload 4))) <|
  jn_cons (⟨jn_iload_n_ok (i := 2) (k := 2) (by decide +kernel) rfl, jn_iload_n_mo 2⟩ : jn_GEm jn_G0 jn_me6 38 (.inl (jn_iload_n 2))) <|
  jn_cons (jn_gc_of jn_G0_17 (jn_callV (i := 35) (na := 2) (ci := 2) (q := (RX2, TX2, 3)) (by decide +kernel) rfl (jn_in 255 (by decide +kernel) rfl) (jn_in 516 (by decide +kernel) rfl) (jn_in 253 (by decide +kernel) rfl) (jn_in 254 (by decide +kernel) rfl) (jn_in 57 (by decide +kernel) rfl) ⟨by decide, by decide, by decide +kernel⟩) : jn_GEm jn_G0 jn_me6 39 (.inr (.inl (17, 4, 3)))) <|
  jn_cons (⟨jn_aload_n_ok (i := 0) (k := 0) (by decide +kernel) rfl, jn_aload_n_mo 0⟩ : jn_GEm jn_G0 jn_me6 42 (.inl (jn_aload_n 0))) <| jn_nil
theorem jn_o6_1 : ∀ q ∈ jn_c6_1, jn_GEm jn_G0 jn_me6 q.1 q.2 :=
  jn_cons (⟨jn_getf_ok (ci := 0) (k := 1) (i := 15) (N := 2) (C := RX0) (T := TX0) (by decide +kernel) rfl (by decide) jn_u0 (jn_in 430 (by decide +kernel) rfl), jn_getf_mo 0 1⟩ : jn_GEm jn_G0 jn_me6 43 (.inl (jn_getf 0 1))) <|
  jn_cons (⟨jn_iload_ok (i := 4) (by decide +kernel), jn_iload_mo 4⟩ : jn_GEm jn_G0 jn_me6 46 (.inl (jn_iload 4))) <|
  jn_cons (⟨jn_iaload_ok (by decide +kernel), jn_iaload_mo⟩ : jn_GEm jn_G0 jn_me6 48 (.inl jn_iaload)) <|
  jn_cons (⟨jn_icle_ok (t := 59) (off := 10) (by decide +kernel) (by decide), jn_icle_mo 59⟩ : jn_GEm jn_G0 jn_me6 49 (.inl (jn_icle 59))) <|
  jn_cons (⟨jn_iload_n_ok (i := 2) (k := 2) (by decide +kernel) rfl, jn_iload_n_mo 2⟩ : jn_GEm jn_G0 jn_me6 52 (.inl (jn_iload_n 2))) <|
  jn_cons (⟨jn_iconst_ok (by decide +kernel), jn_iconst_mo 1⟩ : jn_GEm jn_G0 jn_me6 53 (.inl (jn_iconst 1))) <|
  jn_cons (⟨jn_iload_ok (i := 4) (by decide +kernel), jn_iload_mo 4⟩ : jn_GEm jn_G0 jn_me6 54 (.inl (jn_iload 4))) <|
  jn_cons (⟨jn_ishl_ok (by decide +kernel), jn_ishl_mo⟩ : jn_GEm jn_G0 jn_me6 56 (.inl jn_ishl)) <|
  jn_cons (⟨jn_ior_ok (by decide +kernel), jn_ior_mo⟩ : jn_GEm jn_G0 jn_me6 57 (.inl jn_ior)) <|
  jn_cons (⟨jn_istore_n_ok (i := 2) (k := 2) (by decide +kernel) rfl, jn_istore_n_mo 2⟩ : jn_GEm jn_G0 jn_me6 58 (.inl (jn_istore_n 2))) <|
  jn_cons (⟨jn_iinc_ok (i := 4) (n := 1) (by decide +kernel), jn_iinc_mo 4 1⟩ : jn_GEm jn_G0 jn_me6 59 (.inl (jn_iinc 4 1))) <|
  jn_cons (⟨jn_goto_ok (t := 20) (off := -42) (by decide +kernel) (by decide), jn_goto_mo 20⟩ : jn_GEm jn_G0 jn_me6 62 (.inl (jn_goto 20))) <|
  jn_cons (⟨jn_iinc_ok (i := 3) (n := 1) (by decide +kernel), jn_iinc_mo 3 1⟩ : jn_GEm jn_G0 jn_me6 65 (.inl (jn_iinc 3 1))) <|
  jn_cons (⟨jn_goto_ok (t := 6) (off := -62) (by decide +kernel) (by decide), jn_goto_mo 6⟩ : jn_GEm jn_G0 jn_me6 68 (.inl (jn_goto 6))) <|
  jn_cons (⟨jn_iload_n_ok (i := 2) (k := 2) (by decide +kernel) rfl, jn_iload_n_mo 2⟩ : jn_GEm jn_G0 jn_me6 71 (.inl (jn_iload_n 2))) <|
  jn_cons (⟨(by decide +kernel), rfl⟩ : jn_GEm jn_G0 jn_me6 72 (.inr (.inr 1))) <| jn_nil
theorem jn_ok6 : jn_GM jn_G0 6 := jn_GM_of jn_G0_6 rfl rfl (by decide +kernel) (by decide) (jn_appd jn_o6_0 (jn_o6_1))
theorem jn_o7_0 : ∀ q ∈ jn_c7_0, jn_GEm jn_G0 jn_me7 q.1 q.2 :=
  jn_cons (⟨jn_aload_n_ok (i := 0) (k := 0) (by decide +kernel) rfl, jn_aload_n_mo 0⟩ : jn_GEm jn_G0 jn_me7 0 (.inl (jn_aload_n 0))) <|
  jn_cons (⟨jn_oinit_ok (i := 3) (by decide +kernel) (jn_in 142 (by decide +kernel) rfl) (jn_in 71 (by decide +kernel) rfl) (jn_in 72 (by decide +kernel) rfl), jn_oinit_mo⟩ : jn_GEm jn_G0 jn_me7 1 (.inl jn_oinit)) <|
  jn_cons (⟨jn_aload_n_ok (i := 0) (k := 0) (by decide +kernel) rfl, jn_aload_n_mo 0⟩ : jn_GEm jn_G0 jn_me7 4 (.inl (jn_aload_n 0))) <|
  jn_cons (⟨jn_new_ok (ci := 5) (i := 9) (N := 1) (fs := [.null]) (C := RX5) (T := TX5) (ty0 := tyX5) (by decide +kernel) rfl jn_u5 tyX5_ok (jn_in 143 (by decide +kernel) rfl) (jn_in 144 (by decide +kernel) rfl) (jn_in 59 (by decide +kernel) rfl) (by decide +kernel), jn_new_mo 5 1 [.null]⟩ : jn_GEm jn_G0 jn_me7 5 (.inl (jn_new 5 1 [.null]))) <|
  jn_cons (⟨jn_dup_ok (by decide +kernel), jn_dup_mo⟩ : jn_GEm jn_G0 jn_me7 8 (.inl jn_dup)) <|
  jn_cons (jn_gc_of jn_G0_42 (jn_callN (i := 11) (na := 0) (host := "DebtNet") (by decide +kernel) rfl (jn_in 147 (by decide +kernel) rfl) (jn_in 145 (by decide +kernel) rfl) (jn_in 146 (by decide +kernel) rfl) (jn_in 59 (by decide +kernel) rfl) rfl ⟨by decide, by decide, by decide +kernel⟩) : jn_GEm jn_G0 jn_me7 9 (.inr (.inl (42, 1, 1)))) <|
  jn_cons (⟨jn_putF_ok (ci := 1) (k := 1) (κ := 2) (i := 12) (N := 4) (C := RX1) (T := TX1) (ty0 := tyX1) (ty := .object "DebtNet$Taking") (by decide +kernel) rfl (by decide) jn_u1 (jn_in 156 (by decide +kernel) rfl) tyX1_ok nmX1 rfl (by decide +kernel) (jn_po_obj _) rfl rfl, jn_putF_mo 1 1 2⟩ : jn_GEm jn_G0 jn_me7 12 (.inl (jn_putF 1 1 2))) <|
  jn_cons (⟨jn_aload_n_ok (i := 0) (k := 0) (by decide +kernel) rfl, jn_aload_n_mo 0⟩ : jn_GEm jn_G0 jn_me7 15 (.inl (jn_aload_n 0))) <|
  jn_cons (⟨jn_new_ok (ci := 5) (i := 9) (N := 1) (fs := [.null]) (C := RX5) (T := TX5) (ty0 := tyX5) (by decide +kernel) rfl jn_u5 tyX5_ok (jn_in 143 (by decide +kernel) rfl) (jn_in 144 (by decide +kernel) rfl) (jn_in 59 (by decide +kernel) rfl) (by decide +kernel), jn_new_mo 5 1 [.null]⟩ : jn_GEm jn_G0 jn_me7 16 (.inl (jn_new 5 1 [.null]))) <|
  jn_cons (⟨jn_dup_ok (by decide +kernel), jn_dup_mo⟩ : jn_GEm jn_G0 jn_me7 19 (.inl jn_dup)) <|
  jn_cons (jn_gc_of jn_G0_42 (jn_callN (i := 11) (na := 0) (host := "DebtNet") (by decide +kernel) rfl (jn_in 147 (by decide +kernel) rfl) (jn_in 145 (by decide +kernel) rfl) (jn_in 146 (by decide +kernel) rfl) (jn_in 59 (by decide +kernel) rfl) rfl ⟨by decide, by decide, by decide +kernel⟩) : jn_GEm jn_G0 jn_me7 20 (.inr (.inl (42, 1, 1)))) <|
  jn_cons (⟨jn_putF_ok (ci := 1) (k := 2) (κ := 2) (i := 18) (N := 4) (C := RX1) (T := TX1) (ty0 := tyX1) (ty := .object "DebtNet$Taking") (by decide +kernel) rfl (by decide) jn_u1 (jn_in 158 (by decide +kernel) rfl) tyX1_ok nmX1 rfl (by decide +kernel) (jn_po_obj _) rfl rfl, jn_putF_mo 1 2 2⟩ : jn_GEm jn_G0 jn_me7 23 (.inl (jn_putF 1 2 2))) <|
  jn_cons (⟨jn_aload_n_ok (i := 0) (k := 0) (by decide +kernel) rfl, jn_aload_n_mo 0⟩ : jn_GEm jn_G0 jn_me7 26 (.inl (jn_aload_n 0))) <|
  jn_cons (⟨jn_bipush_ok (n := 6) (v := 6) (by decide +kernel) (by decide), jn_bipush_mo 6⟩ : jn_GEm jn_G0 jn_me7 27 (.inl (jn_bipush 6))) <|
  jn_cons (⟨jn_newI_ok (by decide +kernel) (jn_in 87 (by decide +kernel) rfl), jn_newI_mo⟩ : jn_GEm jn_G0 jn_me7 29 (.inl jn_newI)) <|
  jn_cons (⟨jn_putF_ok (ci := 1) (k := 3) (κ := 2) (i := 21) (N := 4) (C := RX1) (T := TX1) (ty0 := tyX1) (ty := .array .int) (by decide +kernel) rfl (by decide) jn_u1 (jn_in 159 (by decide +kernel) rfl) tyX1_ok nmX1 rfl (by decide +kernel) (jn_po_arr _) rfl rfl, jn_putF_mo 1 3 2⟩ : jn_GEm jn_G0 jn_me7 31 (.inl (jn_putF 1 3 2))) <|
  jn_cons (⟨jn_aload_n_ok (i := 0) (k := 0) (by decide +kernel) rfl, jn_aload_n_mo 0⟩ : jn_GEm jn_G0 jn_me7 34 (.inl (jn_aload_n 0))) <|
  jn_cons (⟨jn_aload_n_ok (i := 1) (k := 1) (by decide +kernel) rfl, jn_aload_n_mo 1⟩ : jn_GEm jn_G0 jn_me7 35 (.inl (jn_aload_n 1))) <|
  jn_cons (⟨jn_putF_ok (ci := 1) (k := 0) (κ := 2) (i := 25) (N := 4) (C := RX1) (T := TX1) (ty0 := tyX1) (ty := .object "DebtNet$Reducer") (by decide +kernel) rfl (by decide) jn_u1 (jn_in 155 (by decide +kernel) rfl) tyX1_ok nmX1 rfl (by decide +kernel) (jn_po_obj _) rfl rfl, jn_putF_mo 1 0 2⟩ : jn_GEm jn_G0 jn_me7 36 (.inl (jn_putF 1 0 2))) <|
  jn_cons (⟨(by decide +kernel), rfl⟩ : jn_GEm jn_G0 jn_me7 39 (.inr (.inr 0))) <| jn_nil
theorem jn_ok7 : jn_GM jn_G0 7 := jn_GM_of jn_G0_7 rfl rfl (by decide +kernel) (by decide) (jn_o7_0)
theorem jn_o8_0 : ∀ q ∈ jn_c8_0, jn_GEm jn_G0 jn_me8 q.1 q.2 :=
  jn_cons (⟨jn_aload_n_ok (i := 1) (k := 1) (by decide +kernel) rfl, jn_aload_n_mo 1⟩ : jn_GEm jn_G0 jn_me8 0 (.inl (jn_aload_n 1))) <|
  jn_cons (jn_gc_of jn_G0_1 (jn_callV (i := 29) (na := 0) (ci := 0) (q := (RX0, TX0, 2)) (by decide +kernel) rfl (jn_in 464 (by decide +kernel) rfl) (jn_in 556 (by decide +kernel) rfl) (jn_in 462 (by decide +kernel) rfl) (jn_in 463 (by decide +kernel) rfl) (jn_in 63 (by decide +kernel) rfl) ⟨by decide, by decide, by decide +kernel⟩) : jn_GEm jn_G0 jn_me8 1 (.inr (.inl (1, 2, 1)))) <|
  jn_cons (⟨jn_istore_n_ok (i := 2) (k := 2) (by decide +kernel) rfl, jn_istore_n_mo 2⟩ : jn_GEm jn_G0 jn_me8 4 (.inl (jn_istore_n 2))) <|
  jn_cons (⟨jn_aload_n_ok (i := 1) (k := 1) (by decide +kernel) rfl, jn_aload_n_mo 1⟩ : jn_GEm jn_G0 jn_me8 5 (.inl (jn_aload_n 1))) <|
  jn_cons (⟨jn_getf_ok (ci := 0) (k := 0) (i := 35) (N := 2) (C := RX0) (T := TX0) (by decide +kernel) rfl (by decide) jn_u0 (jn_in 428 (by decide +kernel) rfl), jn_getf_mo 0 0⟩ : jn_GEm jn_G0 jn_me8 6 (.inl (jn_getf 0 0))) <|
  jn_cons (jn_gc_of jn_G0_19 (jn_callV (i := 39) (na := 0) (ci := 2) (q := (RX2, TX2, 3)) (by decide +kernel) rfl (jn_in 263 (by decide +kernel) rfl) (jn_in 557 (by decide +kernel) rfl) (jn_in 261 (by decide +kernel) rfl) (jn_in 262 (by decide +kernel) rfl) (jn_in 57 (by decide +kernel) rfl) ⟨by decide, by decide, by decide +kernel⟩) : jn_GEm jn_G0 jn_me8 9 (.inr (.inl (19, 4, 1)))) <|
  jn_cons (⟨jn_istore_n_ok (i := 3) (k := 3) (by decide +kernel) rfl, jn_istore_n_mo 3⟩ : jn_GEm jn_G0 jn_me8 12 (.inl (jn_istore_n 3))) <|
  jn_cons (⟨jn_iload_n_ok (i := 2) (k := 2) (by decide +kernel) rfl, jn_iload_n_mo 2⟩ : jn_GEm jn_G0 jn_me8 13 (.inl (jn_iload_n 2))) <|
  jn_cons (⟨jn_ifge_ok (t := 19) (off := 5) (by decide +kernel) (by decide), jn_ifge_mo 19⟩ : jn_GEm jn_G0 jn_me8 14 (.inl (jn_ifge 19))) <|
  jn_cons (⟨jn_iconst_ok (by decide +kernel), jn_iconst_mo (-1)⟩ : jn_GEm jn_G0 jn_me8 17 (.inl (jn_iconst (-1)))) <|
  jn_cons (⟨(by decide +kernel), rfl⟩ : jn_GEm jn_G0 jn_me8 18 (.inr (.inr 1))) <|
  jn_cons (⟨jn_iload_n_ok (i := 2) (k := 2) (by decide +kernel) rfl, jn_iload_n_mo 2⟩ : jn_GEm jn_G0 jn_me8 19 (.inl (jn_iload_n 2))) <|
  jn_cons (⟨jn_iconst_ok (by decide +kernel), jn_iconst_mo 2⟩ : jn_GEm jn_G0 jn_me8 20 (.inl (jn_iconst 2))) <|
  jn_cons (⟨jn_iload_n_ok (i := 3) (k := 3) (by decide +kernel) rfl, jn_iload_n_mo 3⟩ : jn_GEm jn_G0 jn_me8 21 (.inl (jn_iload_n 3))) <|
  jn_cons (⟨jn_imul_ok (by decide +kernel), jn_imul_mo⟩ : jn_GEm jn_G0 jn_me8 22 (.inl jn_imul)) <|
  jn_cons (⟨jn_iconst_ok (by decide +kernel), jn_iconst_mo 2⟩ : jn_GEm jn_G0 jn_me8 23 (.inl (jn_iconst 2))) <|
  jn_cons (⟨jn_isub_ok (by decide +kernel), jn_isub_mo⟩ : jn_GEm jn_G0 jn_me8 24 (.inl jn_isub)) <|
  jn_cons (⟨jn_icle_ok (t := 32) (off := 7) (by decide +kernel) (by decide), jn_icle_mo 32⟩ : jn_GEm jn_G0 jn_me8 25 (.inl (jn_icle 32))) <|
  jn_cons (⟨jn_iload_n_ok (i := 2) (k := 2) (by decide +kernel) rfl, jn_iload_n_mo 2⟩ : jn_GEm jn_G0 jn_me8 28 (.inl (jn_iload_n 2))) <|
  jn_cons (⟨jn_iload_n_ok (i := 3) (k := 3) (by decide +kernel) rfl, jn_iload_n_mo 3⟩ : jn_GEm jn_G0 jn_me8 29 (.inl (jn_iload_n 3))) <|
  jn_cons (⟨jn_isub_ok (by decide +kernel), jn_isub_mo⟩ : jn_GEm jn_G0 jn_me8 30 (.inl jn_isub)) <|
  jn_cons (⟨(by decide +kernel), rfl⟩ : jn_GEm jn_G0 jn_me8 31 (.inr (.inr 1))) <|
  jn_cons (⟨jn_iconst_ok (by decide +kernel), jn_iconst_mo 0⟩ : jn_GEm jn_G0 jn_me8 32 (.inl (jn_iconst 0))) <|
  jn_cons (⟨jn_istore_ok (i := 4) (by decide +kernel), jn_istore_mo 4⟩ : jn_GEm jn_G0 jn_me8 33 (.inl (jn_istore 4))) <| jn_nil
theorem jn_o8_1 : ∀ q ∈ jn_c8_1, jn_GEm jn_G0 jn_me8 q.1 q.2 :=
  jn_cons (⟨jn_iload_ok (i := 4) (by decide +kernel), jn_iload_mo 4⟩ : jn_GEm jn_G0 jn_me8 35 (.inl (jn_iload 4))) <|
  jn_cons (⟨jn_iload_n_ok (i := 2) (k := 2) (by decide +kernel) rfl, jn_iload_n_mo 2⟩ : jn_GEm jn_G0 jn_me8 37 (.inl (jn_iload_n 2))) <|
  jn_cons (⟨jn_icgt_ok (t := 69) (off := 31) (by decide +kernel) (by decide), jn_icgt_mo 69⟩ : jn_GEm jn_G0 jn_me8 38 (.inl (jn_icgt 69))) <|
  jn_cons (⟨jn_aload_n_ok (i := 0) (k := 0) (by decide +kernel) rfl, jn_aload_n_mo 0⟩ : jn_GEm jn_G0 jn_me8 41 (.inl (jn_aload_n 0))) <|
  jn_cons (⟨jn_aload_n_ok (i := 1) (k := 1) (by decide +kernel) rfl, jn_aload_n_mo 1⟩ : jn_GEm jn_G0 jn_me8 42 (.inl (jn_aload_n 1))) <|
  jn_cons (⟨jn_getf_ok (ci := 0) (k := 0) (i := 35) (N := 2) (C := RX0) (T := TX0) (by decide +kernel) rfl (by decide) jn_u0 (jn_in 428 (by decide +kernel) rfl), jn_getf_mo 0 0⟩ : jn_GEm jn_G0 jn_me8 43 (.inl (jn_getf 0 0))) <|
  jn_cons (⟨jn_aload_n_ok (i := 1) (k := 1) (by decide +kernel) rfl, jn_aload_n_mo 1⟩ : jn_GEm jn_G0 jn_me8 46 (.inl (jn_aload_n 1))) <|
  jn_cons (⟨jn_getf_ok (ci := 0) (k := 1) (i := 44) (N := 2) (C := RX0) (T := TX0) (by decide +kernel) rfl (by decide) jn_u0 (jn_in 431 (by decide +kernel) rfl), jn_getf_mo 0 1⟩ : jn_GEm jn_G0 jn_me8 47 (.inl (jn_getf 0 1))) <|
  jn_cons (⟨jn_iload_ok (i := 4) (by decide +kernel), jn_iload_mo 4⟩ : jn_GEm jn_G0 jn_me8 50 (.inl (jn_iload 4))) <|
  jn_cons (jn_gc_of jn_G0_9 (jn_callV (i := 47) (na := 3) (ci := 1) (q := (RX1, TX1, 4)) (by decide +kernel) rfl (jn_in 380 (by decide +kernel) rfl) (jn_in 377 (by decide +kernel) rfl) (jn_in 378 (by decide +kernel) rfl) (jn_in 379 (by decide +kernel) rfl) (jn_in 58 (by decide +kernel) rfl) ⟨by decide, by decide, by decide +kernel⟩) : jn_GEm jn_G0 jn_me8 52 (.inr (.inl (9, 3, 4)))) <|
  jn_cons (⟨jn_ifeq_ok (t := 63) (off := 8) (by decide +kernel) (by decide), jn_ifeq_mo 63⟩ : jn_GEm jn_G0 jn_me8 55 (.inl (jn_ifeq 63))) <|
  jn_cons (⟨jn_iload_ok (i := 4) (by decide +kernel), jn_iload_mo 4⟩ : jn_GEm jn_G0 jn_me8 58 (.inl (jn_iload 4))) <|
  jn_cons (⟨jn_iconst_ok (by decide +kernel), jn_iconst_mo 1⟩ : jn_GEm jn_G0 jn_me8 60 (.inl (jn_iconst 1))) <|
  jn_cons (⟨jn_isub_ok (by decide +kernel), jn_isub_mo⟩ : jn_GEm jn_G0 jn_me8 61 (.inl jn_isub)) <|
  jn_cons (⟨(by decide +kernel), rfl⟩ : jn_GEm jn_G0 jn_me8 62 (.inr (.inr 1))) <|
  jn_cons (⟨jn_iinc_ok (i := 4) (n := 1) (by decide +kernel), jn_iinc_mo 4 1⟩ : jn_GEm jn_G0 jn_me8 63 (.inl (jn_iinc 4 1))) <|
  jn_cons (⟨jn_goto_ok (t := 35) (off := -31) (by decide +kernel) (by decide), jn_goto_mo 35⟩ : jn_GEm jn_G0 jn_me8 66 (.inl (jn_goto 35))) <|
  jn_cons (⟨jn_iload_n_ok (i := 2) (k := 2) (by decide +kernel) rfl, jn_iload_n_mo 2⟩ : jn_GEm jn_G0 jn_me8 69 (.inl (jn_iload_n 2))) <|
  jn_cons (⟨(by decide +kernel), rfl⟩ : jn_GEm jn_G0 jn_me8 70 (.inr (.inr 1))) <| jn_nil
theorem jn_ok8 : jn_GM jn_G0 8 := jn_GM_of jn_G0_8 rfl rfl (by decide +kernel) (by decide) (jn_appd jn_o8_0 (jn_o8_1))
theorem jn_o9_0 : ∀ q ∈ jn_c9_0, jn_GEm jn_G0 jn_me9 q.1 q.2 :=
  jn_cons (⟨jn_aload_n_ok (i := 0) (k := 0) (by decide +kernel) rfl, jn_aload_n_mo 0⟩ : jn_GEm jn_G0 jn_me9 0 (.inl (jn_aload_n 0))) <|
  jn_cons (⟨jn_getf_ok (ci := 1) (k := 1) (i := 12) (N := 4) (C := RX1) (T := TX1) (by decide +kernel) rfl (by decide) jn_u1 (jn_in 156 (by decide +kernel) rfl), jn_getf_mo 1 1⟩ : jn_GEm jn_G0 jn_me9 1 (.inl (jn_getf 1 1))) <|
  jn_cons (⟨jn_iload_n_ok (i := 3) (k := 3) (by decide +kernel) rfl, jn_iload_n_mo 3⟩ : jn_GEm jn_G0 jn_me9 4 (.inl (jn_iload_n 3))) <|
  jn_cons (jn_gc_of jn_G0_43 (jn_callV (i := 51) (na := 1) (ci := 5) (q := (RX5, TX5, 1)) (by decide +kernel) rfl (jn_in 375 (by decide +kernel) rfl) (jn_in 372 (by decide +kernel) rfl) (jn_in 373 (by decide +kernel) rfl) (jn_in 374 (by decide +kernel) rfl) (jn_in 59 (by decide +kernel) rfl) ⟨by decide, by decide, by decide +kernel⟩) : jn_GEm jn_G0 jn_me9 5 (.inr (.inl (43, 7, 2)))) <|
  jn_cons (⟨jn_iconst_ok (by decide +kernel), jn_iconst_mo 1⟩ : jn_GEm jn_G0 jn_me9 8 (.inl (jn_iconst 1))) <|
  jn_cons (⟨jn_istore_ok (i := 4) (by decide +kernel), jn_istore_mo 4⟩ : jn_GEm jn_G0 jn_me9 9 (.inl (jn_istore 4))) <|
  jn_cons (⟨jn_iconst_ok (by decide +kernel), jn_iconst_mo 0⟩ : jn_GEm jn_G0 jn_me9 11 (.inl (jn_iconst 0))) <|
  jn_cons (⟨jn_istore_ok (i := 5) (by decide +kernel), jn_istore_mo 5⟩ : jn_GEm jn_G0 jn_me9 12 (.inl (jn_istore 5))) <|
  jn_cons (⟨jn_iload_ok (i := 5) (by decide +kernel), jn_iload_mo 5⟩ : jn_GEm jn_G0 jn_me9 14 (.inl (jn_iload 5))) <|
  jn_cons (⟨jn_ldc_ok (i := 55) (v := 1000000) (by decide +kernel) (jn_in 376 (by decide +kernel) rfl), jn_ldc_mo 1000000⟩ : jn_GEm jn_G0 jn_me9 16 (.inl (jn_ldc 1000000))) <|
  jn_cons (⟨jn_icge_ok (t := 105) (off := 87) (by decide +kernel) (by decide), jn_icge_mo 105⟩ : jn_GEm jn_G0 jn_me9 18 (.inl (jn_icge 105))) <|
  jn_cons (⟨jn_iload_ok (i := 4) (by decide +kernel), jn_iload_mo 4⟩ : jn_GEm jn_G0 jn_me9 21 (.inl (jn_iload 4))) <|
  jn_cons (⟨jn_ifeq_ok (t := 105) (off := 82) (by decide +kernel) (by decide), jn_ifeq_mo 105⟩ : jn_GEm jn_G0 jn_me9 23 (.inl (jn_ifeq 105))) <|
  jn_cons (⟨jn_iconst_ok (by decide +kernel), jn_iconst_mo 0⟩ : jn_GEm jn_G0 jn_me9 26 (.inl (jn_iconst 0))) <|
  jn_cons (⟨jn_istore_ok (i := 6) (by decide +kernel), jn_istore_mo 6⟩ : jn_GEm jn_G0 jn_me9 27 (.inl (jn_istore 6))) <|
  jn_cons (⟨jn_iload_ok (i := 6) (by decide +kernel), jn_iload_mo 6⟩ : jn_GEm jn_G0 jn_me9 29 (.inl (jn_iload 6))) <|
  jn_cons (⟨jn_bipush_ok (n := 6) (v := 6) (by decide +kernel) (by decide), jn_bipush_mo 6⟩ : jn_GEm jn_G0 jn_me9 31 (.inl (jn_bipush 6))) <|
  jn_cons (⟨jn_icge_ok (t := 64) (off := 31) (by decide +kernel) (by decide), jn_icge_mo 64⟩ : jn_GEm jn_G0 jn_me9 33 (.inl (jn_icge 64))) <|
  jn_cons (⟨jn_aload_n_ok (i := 0) (k := 0) (by decide +kernel) rfl, jn_aload_n_mo 0⟩ : jn_GEm jn_G0 jn_me9 36 (.inl (jn_aload_n 0))) <|
  jn_cons (⟨jn_getf_ok (ci := 1) (k := 3) (i := 21) (N := 4) (C := RX1) (T := TX1) (by decide +kernel) rfl (by decide) jn_u1 (jn_in 159 (by decide +kernel) rfl), jn_getf_mo 1 3⟩ : jn_GEm jn_G0 jn_me9 37 (.inl (jn_getf 1 3))) <|
  jn_cons (⟨jn_iload_ok (i := 6) (by decide +kernel), jn_iload_mo 6⟩ : jn_GEm jn_G0 jn_me9 40 (.inl (jn_iload 6))) <|
  jn_cons (⟨jn_aload_n_ok (i := 2) (k := 2) (by decide +kernel) rfl, jn_aload_n_mo 2⟩ : jn_GEm jn_G0 jn_me9 42 (.inl (jn_aload_n 2))) <|
  jn_cons (⟨jn_iload_ok (i := 6) (by decide +kernel), jn_iload_mo 6⟩ : jn_GEm jn_G0 jn_me9 43 (.inl (jn_iload 6))) <|
  jn_cons (⟨jn_iaload_ok (by decide +kernel), jn_iaload_mo⟩ : jn_GEm jn_G0 jn_me9 45 (.inl jn_iaload)) <| jn_nil
theorem jn_o9_1 : ∀ q ∈ jn_c9_1, jn_GEm jn_G0 jn_me9 q.1 q.2 :=
  jn_cons (⟨jn_aload_n_ok (i := 0) (k := 0) (by decide +kernel) rfl, jn_aload_n_mo 0⟩ : jn_GEm jn_G0 jn_me9 46 (.inl (jn_aload_n 0))) <|
  jn_cons (⟨jn_getf_ok (ci := 1) (k := 1) (i := 12) (N := 4) (C := RX1) (T := TX1) (by decide +kernel) rfl (by decide) jn_u1 (jn_in 156 (by decide +kernel) rfl), jn_getf_mo 1 1⟩ : jn_GEm jn_G0 jn_me9 47 (.inl (jn_getf 1 1))) <|
  jn_cons (⟨jn_getf_ok (ci := 5) (k := 0) (i := 56) (N := 1) (C := RX5) (T := TX5) (by decide +kernel) rfl (by decide) jn_u5 (jn_in 150 (by decide +kernel) rfl), jn_getf_mo 5 0⟩ : jn_GEm jn_G0 jn_me9 50 (.inl (jn_getf 5 0))) <|
  jn_cons (⟨jn_iload_ok (i := 6) (by decide +kernel), jn_iload_mo 6⟩ : jn_GEm jn_G0 jn_me9 53 (.inl (jn_iload 6))) <|
  jn_cons (⟨jn_iaload_ok (by decide +kernel), jn_iaload_mo⟩ : jn_GEm jn_G0 jn_me9 55 (.inl jn_iaload)) <|
  jn_cons (⟨jn_isub_ok (by decide +kernel), jn_isub_mo⟩ : jn_GEm jn_G0 jn_me9 56 (.inl jn_isub)) <|
  jn_cons (⟨jn_iastore_ok (by decide +kernel), jn_iastore_mo⟩ : jn_GEm jn_G0 jn_me9 57 (.inl jn_iastore)) <|
  jn_cons (⟨jn_iinc_ok (i := 6) (n := 1) (by decide +kernel), jn_iinc_mo 6 1⟩ : jn_GEm jn_G0 jn_me9 58 (.inl (jn_iinc 6 1))) <|
  jn_cons (⟨jn_goto_ok (t := 29) (off := -32) (by decide +kernel) (by decide), jn_goto_mo 29⟩ : jn_GEm jn_G0 jn_me9 61 (.inl (jn_goto 29))) <|
  jn_cons (⟨jn_aload_n_ok (i := 0) (k := 0) (by decide +kernel) rfl, jn_aload_n_mo 0⟩ : jn_GEm jn_G0 jn_me9 64 (.inl (jn_aload_n 0))) <|
  jn_cons (⟨jn_getf_ok (ci := 1) (k := 0) (i := 25) (N := 4) (C := RX1) (T := TX1) (by decide +kernel) rfl (by decide) jn_u1 (jn_in 155 (by decide +kernel) rfl), jn_getf_mo 1 0⟩ : jn_GEm jn_G0 jn_me9 65 (.inl (jn_getf 1 0))) <|
  jn_cons (⟨jn_aload_n_ok (i := 0) (k := 0) (by decide +kernel) rfl, jn_aload_n_mo 0⟩ : jn_GEm jn_G0 jn_me9 68 (.inl (jn_aload_n 0))) <|
  jn_cons (⟨jn_getf_ok (ci := 1) (k := 3) (i := 21) (N := 4) (C := RX1) (T := TX1) (by decide +kernel) rfl (by decide) jn_u1 (jn_in 159 (by decide +kernel) rfl), jn_getf_mo 1 3⟩ : jn_GEm jn_G0 jn_me9 69 (.inl (jn_getf 1 3))) <|
  jn_cons (jn_gc_of jn_G0_29 (jn_callV (i := 59) (na := 1) (ci := 3) (q := (RX3, TX3, 6)) (by decide +kernel) rfl (jn_in 384 (by decide +kernel) rfl) (jn_in 381 (by decide +kernel) rfl) (jn_in 382 (by decide +kernel) rfl) (jn_in 383 (by decide +kernel) rfl) (jn_in 56 (by decide +kernel) rfl) ⟨by decide, by decide, by decide +kernel⟩) : jn_GEm jn_G0 jn_me9 72 (.inr (.inl (29, 5, 2)))) <|
  jn_cons (⟨jn_aload_n_ok (i := 0) (k := 0) (by decide +kernel) rfl, jn_aload_n_mo 0⟩ : jn_GEm jn_G0 jn_me9 75 (.inl (jn_aload_n 0))) <|
  jn_cons (⟨jn_getf_ok (ci := 1) (k := 3) (i := 21) (N := 4) (C := RX1) (T := TX1) (by decide +kernel) rfl (by decide) jn_u1 (jn_in 159 (by decide +kernel) rfl), jn_getf_mo 1 3⟩ : jn_GEm jn_G0 jn_me9 76 (.inl (jn_getf 1 3))) <|
  jn_cons (⟨jn_iconst_ok (by decide +kernel), jn_iconst_mo 0⟩ : jn_GEm jn_G0 jn_me9 79 (.inl (jn_iconst 0))) <|
  jn_cons (⟨jn_iaload_ok (by decide +kernel), jn_iaload_mo⟩ : jn_GEm jn_G0 jn_me9 80 (.inl jn_iaload)) <|
  jn_cons (⟨jn_ifge_ok (t := 86) (off := 5) (by decide +kernel) (by decide), jn_ifge_mo 86⟩ : jn_GEm jn_G0 jn_me9 81 (.inl (jn_ifge 86))) <|
  jn_cons (⟨jn_iconst_ok (by decide +kernel), jn_iconst_mo 1⟩ : jn_GEm jn_G0 jn_me9 84 (.inl (jn_iconst 1))) <|
  jn_cons (⟨(by decide +kernel), rfl⟩ : jn_GEm jn_G0 jn_me9 85 (.inr (.inr 2))) <|
  jn_cons (⟨jn_aload_n_ok (i := 0) (k := 0) (by decide +kernel) rfl, jn_aload_n_mo 0⟩ : jn_GEm jn_G0 jn_me9 86 (.inl (jn_aload_n 0))) <|
  jn_cons (⟨jn_getf_ok (ci := 1) (k := 1) (i := 12) (N := 4) (C := RX1) (T := TX1) (by decide +kernel) rfl (by decide) jn_u1 (jn_in 156 (by decide +kernel) rfl), jn_getf_mo 1 1⟩ : jn_GEm jn_G0 jn_me9 87 (.inl (jn_getf 1 1))) <|
  jn_cons (⟨jn_aload_n_ok (i := 1) (k := 1) (by decide +kernel) rfl, jn_aload_n_mo 1⟩ : jn_GEm jn_G0 jn_me9 90 (.inl (jn_aload_n 1))) <| jn_nil
theorem jn_o9_2 : ∀ q ∈ jn_c9_2, jn_GEm jn_G0 jn_me9 q.1 q.2 :=
  jn_cons (⟨jn_getf_ok (ci := 2) (k := 1) (i := 65) (N := 3) (C := RX2) (T := TX2) (by decide +kernel) rfl (by decide) jn_u2 (jn_in 105 (by decide +kernel) rfl), jn_getf_mo 2 1⟩ : jn_GEm jn_G0 jn_me9 91 (.inl (jn_getf 2 1))) <|
  jn_cons (jn_gc_of jn_G0_44 (jn_callV (i := 69) (na := 1) (ci := 5) (q := (RX5, TX5, 1)) (by decide +kernel) rfl (jn_in 409 (by decide +kernel) rfl) (jn_in 406 (by decide +kernel) rfl) (jn_in 407 (by decide +kernel) rfl) (jn_in 408 (by decide +kernel) rfl) (jn_in 59 (by decide +kernel) rfl) ⟨by decide, by decide, by decide +kernel⟩) : jn_GEm jn_G0 jn_me9 94 (.inr (.inl (44, 7, 2)))) <|
  jn_cons (⟨jn_istore_ok (i := 4) (by decide +kernel), jn_istore_mo 4⟩ : jn_GEm jn_G0 jn_me9 97 (.inl (jn_istore 4))) <|
  jn_cons (⟨jn_iinc_ok (i := 5) (n := 1) (by decide +kernel), jn_iinc_mo 5 1⟩ : jn_GEm jn_G0 jn_me9 99 (.inl (jn_iinc 5 1))) <|
  jn_cons (⟨jn_goto_ok (t := 14) (off := -88) (by decide +kernel) (by decide), jn_goto_mo 14⟩ : jn_GEm jn_G0 jn_me9 102 (.inl (jn_goto 14))) <|
  jn_cons (⟨jn_iconst_ok (by decide +kernel), jn_iconst_mo 0⟩ : jn_GEm jn_G0 jn_me9 105 (.inl (jn_iconst 0))) <|
  jn_cons (⟨(by decide +kernel), rfl⟩ : jn_GEm jn_G0 jn_me9 106 (.inr (.inr 2))) <| jn_nil
theorem jn_ok9 : jn_GM jn_G0 9 := jn_GM_of jn_G0_9 rfl rfl (by decide +kernel) (by decide) (jn_appd jn_o9_0 (jn_appd jn_o9_1 (jn_o9_2)))
theorem jn_o10_0 : ∀ q ∈ jn_c10_0, jn_GEm jn_G0 jn_me10 q.1 q.2 :=
  jn_cons (⟨jn_aload_n_ok (i := 0) (k := 0) (by decide +kernel) rfl, jn_aload_n_mo 0⟩ : jn_GEm jn_G0 jn_me10 0 (.inl (jn_aload_n 0))) <|
  jn_cons (⟨jn_getf_ok (ci := 1) (k := 2) (i := 18) (N := 4) (C := RX1) (T := TX1) (by decide +kernel) rfl (by decide) jn_u1 (jn_in 158 (by decide +kernel) rfl), jn_getf_mo 1 2⟩ : jn_GEm jn_G0 jn_me10 1 (.inl (jn_getf 1 2))) <|
  jn_cons (⟨jn_iload_n_ok (i := 2) (k := 2) (by decide +kernel) rfl, jn_iload_n_mo 2⟩ : jn_GEm jn_G0 jn_me10 4 (.inl (jn_iload_n 2))) <|
  jn_cons (⟨jn_iconst_ok (by decide +kernel), jn_iconst_mo 1⟩ : jn_GEm jn_G0 jn_me10 5 (.inl (jn_iconst 1))) <|
  jn_cons (⟨jn_isub_ok (by decide +kernel), jn_isub_mo⟩ : jn_GEm jn_G0 jn_me10 6 (.inl jn_isub)) <|
  jn_cons (jn_gc_of jn_G0_43 (jn_callV (i := 51) (na := 1) (ci := 5) (q := (RX5, TX5, 1)) (by decide +kernel) rfl (jn_in 375 (by decide +kernel) rfl) (jn_in 372 (by decide +kernel) rfl) (jn_in 373 (by decide +kernel) rfl) (jn_in 374 (by decide +kernel) rfl) (jn_in 59 (by decide +kernel) rfl) ⟨by decide, by decide, by decide +kernel⟩) : jn_GEm jn_G0 jn_me10 7 (.inr (.inl (43, 7, 2)))) <|
  jn_cons (⟨jn_iconst_ok (by decide +kernel), jn_iconst_mo 1⟩ : jn_GEm jn_G0 jn_me10 10 (.inl (jn_iconst 1))) <|
  jn_cons (⟨jn_istore_n_ok (i := 3) (k := 3) (by decide +kernel) rfl, jn_istore_n_mo 3⟩ : jn_GEm jn_G0 jn_me10 11 (.inl (jn_istore_n 3))) <|
  jn_cons (⟨jn_iconst_ok (by decide +kernel), jn_iconst_mo 0⟩ : jn_GEm jn_G0 jn_me10 12 (.inl (jn_iconst 0))) <|
  jn_cons (⟨jn_istore_ok (i := 4) (by decide +kernel), jn_istore_mo 4⟩ : jn_GEm jn_G0 jn_me10 13 (.inl (jn_istore 4))) <|
  jn_cons (⟨jn_iload_ok (i := 4) (by decide +kernel), jn_iload_mo 4⟩ : jn_GEm jn_G0 jn_me10 15 (.inl (jn_iload 4))) <|
  jn_cons (⟨jn_ldc_ok (i := 55) (v := 1000000) (by decide +kernel) (jn_in 376 (by decide +kernel) rfl), jn_ldc_mo 1000000⟩ : jn_GEm jn_G0 jn_me10 17 (.inl (jn_ldc 1000000))) <|
  jn_cons (⟨jn_icge_ok (t := 92) (off := 73) (by decide +kernel) (by decide), jn_icge_mo 92⟩ : jn_GEm jn_G0 jn_me10 19 (.inl (jn_icge 92))) <|
  jn_cons (⟨jn_iload_n_ok (i := 3) (k := 3) (by decide +kernel) rfl, jn_iload_n_mo 3⟩ : jn_GEm jn_G0 jn_me10 22 (.inl (jn_iload_n 3))) <|
  jn_cons (⟨jn_ifeq_ok (t := 92) (off := 69) (by decide +kernel) (by decide), jn_ifeq_mo 92⟩ : jn_GEm jn_G0 jn_me10 23 (.inl (jn_ifeq 92))) <|
  jn_cons (⟨jn_aload_n_ok (i := 0) (k := 0) (by decide +kernel) rfl, jn_aload_n_mo 0⟩ : jn_GEm jn_G0 jn_me10 26 (.inl (jn_aload_n 0))) <|
  jn_cons (⟨jn_getf_ok (ci := 1) (k := 2) (i := 18) (N := 4) (C := RX1) (T := TX1) (by decide +kernel) rfl (by decide) jn_u1 (jn_in 158 (by decide +kernel) rfl), jn_getf_mo 1 2⟩ : jn_GEm jn_G0 jn_me10 27 (.inl (jn_getf 1 2))) <|
  jn_cons (⟨jn_getf_ok (ci := 5) (k := 0) (i := 56) (N := 1) (C := RX5) (T := TX5) (by decide +kernel) rfl (by decide) jn_u5 (jn_in 150 (by decide +kernel) rfl), jn_getf_mo 5 0⟩ : jn_GEm jn_G0 jn_me10 30 (.inl (jn_getf 5 0))) <|
  jn_cons (⟨jn_iconst_ok (by decide +kernel), jn_iconst_mo 0⟩ : jn_GEm jn_G0 jn_me10 33 (.inl (jn_iconst 0))) <|
  jn_cons (⟨jn_dup2_ok (by decide +kernel), jn_dup2_mo⟩ : jn_GEm jn_G0 jn_me10 34 (.inl jn_dup2)) <|
  jn_cons (⟨jn_iaload_ok (by decide +kernel), jn_iaload_mo⟩ : jn_GEm jn_G0 jn_me10 35 (.inl jn_iaload)) <|
  jn_cons (⟨jn_iconst_ok (by decide +kernel), jn_iconst_mo 1⟩ : jn_GEm jn_G0 jn_me10 36 (.inl (jn_iconst 1))) <|
  jn_cons (⟨jn_iadd_ok (by decide +kernel), jn_iadd_mo⟩ : jn_GEm jn_G0 jn_me10 37 (.inl jn_iadd)) <|
  jn_cons (⟨jn_iastore_ok (by decide +kernel), jn_iastore_mo⟩ : jn_GEm jn_G0 jn_me10 38 (.inl jn_iastore)) <| jn_nil
theorem jn_o10_1 : ∀ q ∈ jn_c10_1, jn_GEm jn_G0 jn_me10 q.1 q.2 :=
  jn_cons (⟨jn_aload_n_ok (i := 0) (k := 0) (by decide +kernel) rfl, jn_aload_n_mo 0⟩ : jn_GEm jn_G0 jn_me10 39 (.inl (jn_aload_n 0))) <|
  jn_cons (⟨jn_aload_n_ok (i := 1) (k := 1) (by decide +kernel) rfl, jn_aload_n_mo 1⟩ : jn_GEm jn_G0 jn_me10 40 (.inl (jn_aload_n 1))) <|
  jn_cons (⟨jn_aload_n_ok (i := 0) (k := 0) (by decide +kernel) rfl, jn_aload_n_mo 0⟩ : jn_GEm jn_G0 jn_me10 41 (.inl (jn_aload_n 0))) <|
  jn_cons (⟨jn_getf_ok (ci := 1) (k := 2) (i := 18) (N := 4) (C := RX1) (T := TX1) (by decide +kernel) rfl (by decide) jn_u1 (jn_in 158 (by decide +kernel) rfl), jn_getf_mo 1 2⟩ : jn_GEm jn_G0 jn_me10 42 (.inl (jn_getf 1 2))) <|
  jn_cons (⟨jn_getf_ok (ci := 5) (k := 0) (i := 56) (N := 1) (C := RX5) (T := TX5) (by decide +kernel) rfl (by decide) jn_u5 (jn_in 150 (by decide +kernel) rfl), jn_getf_mo 5 0⟩ : jn_GEm jn_G0 jn_me10 45 (.inl (jn_getf 5 0))) <|
  jn_cons (⟨jn_iconst_ok (by decide +kernel), jn_iconst_mo 1⟩ : jn_GEm jn_G0 jn_me10 48 (.inl (jn_iconst 1))) <|
  jn_cons (jn_gc_of jn_G0_9 (jn_callV (i := 47) (na := 3) (ci := 1) (q := (RX1, TX1, 4)) (by decide +kernel) rfl (jn_in 380 (by decide +kernel) rfl) (jn_in 377 (by decide +kernel) rfl) (jn_in 378 (by decide +kernel) rfl) (jn_in 379 (by decide +kernel) rfl) (jn_in 58 (by decide +kernel) rfl) ⟨by decide, by decide, by decide +kernel⟩) : jn_GEm jn_G0 jn_me10 49 (.inr (.inl (9, 3, 4)))) <|
  jn_cons (⟨jn_istore_ok (i := 5) (by decide +kernel), jn_istore_mo 5⟩ : jn_GEm jn_G0 jn_me10 52 (.inl (jn_istore 5))) <|
  jn_cons (⟨jn_aload_n_ok (i := 0) (k := 0) (by decide +kernel) rfl, jn_aload_n_mo 0⟩ : jn_GEm jn_G0 jn_me10 54 (.inl (jn_aload_n 0))) <|
  jn_cons (⟨jn_getf_ok (ci := 1) (k := 2) (i := 18) (N := 4) (C := RX1) (T := TX1) (by decide +kernel) rfl (by decide) jn_u1 (jn_in 158 (by decide +kernel) rfl), jn_getf_mo 1 2⟩ : jn_GEm jn_G0 jn_me10 55 (.inl (jn_getf 1 2))) <|
  jn_cons (⟨jn_getf_ok (ci := 5) (k := 0) (i := 56) (N := 1) (C := RX5) (T := TX5) (by decide +kernel) rfl (by decide) jn_u5 (jn_in 150 (by decide +kernel) rfl), jn_getf_mo 5 0⟩ : jn_GEm jn_G0 jn_me10 58 (.inl (jn_getf 5 0))) <|
  jn_cons (⟨jn_iconst_ok (by decide +kernel), jn_iconst_mo 0⟩ : jn_GEm jn_G0 jn_me10 61 (.inl (jn_iconst 0))) <|
  jn_cons (⟨jn_dup2_ok (by decide +kernel), jn_dup2_mo⟩ : jn_GEm jn_G0 jn_me10 62 (.inl jn_dup2)) <|
  jn_cons (⟨jn_iaload_ok (by decide +kernel), jn_iaload_mo⟩ : jn_GEm jn_G0 jn_me10 63 (.inl jn_iaload)) <|
  jn_cons (⟨jn_iconst_ok (by decide +kernel), jn_iconst_mo 1⟩ : jn_GEm jn_G0 jn_me10 64 (.inl (jn_iconst 1))) <|
  jn_cons (⟨jn_isub_ok (by decide +kernel), jn_isub_mo⟩ : jn_GEm jn_G0 jn_me10 65 (.inl jn_isub)) <|
  jn_cons (⟨jn_iastore_ok (by decide +kernel), jn_iastore_mo⟩ : jn_GEm jn_G0 jn_me10 66 (.inl jn_iastore)) <|
  jn_cons (⟨jn_iload_ok (i := 5) (by decide +kernel), jn_iload_mo 5⟩ : jn_GEm jn_G0 jn_me10 67 (.inl (jn_iload 5))) <|
  jn_cons (⟨jn_ifne_ok (t := 74) (off := 5) (by decide +kernel) (by decide), jn_ifne_mo 74⟩ : jn_GEm jn_G0 jn_me10 69 (.inl (jn_ifne 74))) <|
  jn_cons (⟨jn_iconst_ok (by decide +kernel), jn_iconst_mo 1⟩ : jn_GEm jn_G0 jn_me10 72 (.inl (jn_iconst 1))) <|
  jn_cons (⟨(by decide +kernel), rfl⟩ : jn_GEm jn_G0 jn_me10 73 (.inr (.inr 2))) <|
  jn_cons (⟨jn_aload_n_ok (i := 0) (k := 0) (by decide +kernel) rfl, jn_aload_n_mo 0⟩ : jn_GEm jn_G0 jn_me10 74 (.inl (jn_aload_n 0))) <|
  jn_cons (⟨jn_getf_ok (ci := 1) (k := 2) (i := 18) (N := 4) (C := RX1) (T := TX1) (by decide +kernel) rfl (by decide) jn_u1 (jn_in 158 (by decide +kernel) rfl), jn_getf_mo 1 2⟩ : jn_GEm jn_G0 jn_me10 75 (.inl (jn_getf 1 2))) <|
  jn_cons (⟨jn_aload_n_ok (i := 1) (k := 1) (by decide +kernel) rfl, jn_aload_n_mo 1⟩ : jn_GEm jn_G0 jn_me10 78 (.inl (jn_aload_n 1))) <| jn_nil
theorem jn_o10_2 : ∀ q ∈ jn_c10_2, jn_GEm jn_G0 jn_me10 q.1 q.2 :=
  jn_cons (⟨jn_getf_ok (ci := 2) (k := 1) (i := 65) (N := 3) (C := RX2) (T := TX2) (by decide +kernel) rfl (by decide) jn_u2 (jn_in 105 (by decide +kernel) rfl), jn_getf_mo 2 1⟩ : jn_GEm jn_G0 jn_me10 79 (.inl (jn_getf 2 1))) <|
  jn_cons (jn_gc_of jn_G0_44 (jn_callV (i := 69) (na := 1) (ci := 5) (q := (RX5, TX5, 1)) (by decide +kernel) rfl (jn_in 409 (by decide +kernel) rfl) (jn_in 406 (by decide +kernel) rfl) (jn_in 407 (by decide +kernel) rfl) (jn_in 408 (by decide +kernel) rfl) (jn_in 59 (by decide +kernel) rfl) ⟨by decide, by decide, by decide +kernel⟩) : jn_GEm jn_G0 jn_me10 82 (.inr (.inl (44, 7, 2)))) <|
  jn_cons (⟨jn_istore_n_ok (i := 3) (k := 3) (by decide +kernel) rfl, jn_istore_n_mo 3⟩ : jn_GEm jn_G0 jn_me10 85 (.inl (jn_istore_n 3))) <|
  jn_cons (⟨jn_iinc_ok (i := 4) (n := 1) (by decide +kernel), jn_iinc_mo 4 1⟩ : jn_GEm jn_G0 jn_me10 86 (.inl (jn_iinc 4 1))) <|
  jn_cons (⟨jn_goto_ok (t := 15) (off := -74) (by decide +kernel) (by decide), jn_goto_mo 15⟩ : jn_GEm jn_G0 jn_me10 89 (.inl (jn_goto 15))) <|
  jn_cons (⟨jn_iconst_ok (by decide +kernel), jn_iconst_mo 0⟩ : jn_GEm jn_G0 jn_me10 92 (.inl (jn_iconst 0))) <|
  jn_cons (⟨(by decide +kernel), rfl⟩ : jn_GEm jn_G0 jn_me10 93 (.inr (.inr 2))) <| jn_nil
theorem jn_ok10 : jn_GM jn_G0 10 := jn_GM_of jn_G0_10 rfl rfl (by decide +kernel) (by decide) (jn_appd jn_o10_0 (jn_appd jn_o10_1 (jn_o10_2)))
theorem jn_o11_0 : ∀ q ∈ jn_c11_0, jn_GEm jn_G0 jn_me11 q.1 q.2 :=
  jn_cons (⟨jn_aload_n_ok (i := 0) (k := 0) (by decide +kernel) rfl, jn_aload_n_mo 0⟩ : jn_GEm jn_G0 jn_me11 0 (.inl (jn_aload_n 0))) <|
  jn_cons (⟨jn_oinit_ok (i := 3) (by decide +kernel) (jn_in 100 (by decide +kernel) rfl) (jn_in 71 (by decide +kernel) rfl) (jn_in 72 (by decide +kernel) rfl), jn_oinit_mo⟩ : jn_GEm jn_G0 jn_me11 1 (.inl jn_oinit)) <|
  jn_cons (⟨jn_aload_n_ok (i := 0) (k := 0) (by decide +kernel) rfl, jn_aload_n_mo 0⟩ : jn_GEm jn_G0 jn_me11 4 (.inl (jn_aload_n 0))) <|
  jn_cons (⟨jn_iload_n_ok (i := 1) (k := 1) (by decide +kernel) rfl, jn_iload_n_mo 1⟩ : jn_GEm jn_G0 jn_me11 5 (.inl (jn_iload_n 1))) <|
  jn_cons (⟨jn_putF_ok (ci := 2) (k := 0) (κ := 0) (i := 9) (N := 3) (C := RX2) (T := TX2) (ty0 := tyX2) (ty := .int) (by decide +kernel) rfl (by decide) jn_u2 (jn_in 101 (by decide +kernel) rfl) tyX2_ok nmX2 rfl (by decide +kernel) jn_po_int rfl rfl, jn_putF_mo 2 0 0⟩ : jn_GEm jn_G0 jn_me11 6 (.inl (jn_putF 2 0 0))) <|
  jn_cons (⟨jn_aload_n_ok (i := 0) (k := 0) (by decide +kernel) rfl, jn_aload_n_mo 0⟩ : jn_GEm jn_G0 jn_me11 9 (.inl (jn_aload_n 0))) <|
  jn_cons (⟨jn_iload_n_ok (i := 2) (k := 2) (by decide +kernel) rfl, jn_iload_n_mo 2⟩ : jn_GEm jn_G0 jn_me11 10 (.inl (jn_iload_n 2))) <|
  jn_cons (⟨jn_putF_ok (ci := 2) (k := 1) (κ := 0) (i := 15) (N := 3) (C := RX2) (T := TX2) (ty0 := tyX2) (ty := .int) (by decide +kernel) rfl (by decide) jn_u2 (jn_in 103 (by decide +kernel) rfl) tyX2_ok nmX2 rfl (by decide +kernel) jn_po_int rfl rfl, jn_putF_mo 2 1 0⟩ : jn_GEm jn_G0 jn_me11 11 (.inl (jn_putF 2 1 0))) <|
  jn_cons (⟨jn_aload_n_ok (i := 0) (k := 0) (by decide +kernel) rfl, jn_aload_n_mo 0⟩ : jn_GEm jn_G0 jn_me11 14 (.inl (jn_aload_n 0))) <|
  jn_cons (⟨jn_bipush_ok (n := 36) (v := 36) (by decide +kernel) (by decide), jn_bipush_mo 36⟩ : jn_GEm jn_G0 jn_me11 15 (.inl (jn_bipush 36))) <|
  jn_cons (⟨jn_newI_ok (by decide +kernel) (jn_in 87 (by decide +kernel) rfl), jn_newI_mo⟩ : jn_GEm jn_G0 jn_me11 17 (.inl jn_newI)) <|
  jn_cons (⟨jn_putF_ok (ci := 2) (k := 2) (κ := 2) (i := 18) (N := 3) (C := RX2) (T := TX2) (ty0 := tyX2) (ty := .array .int) (by decide +kernel) rfl (by decide) jn_u2 (jn_in 109 (by decide +kernel) rfl) tyX2_ok nmX2 rfl (by decide +kernel) (jn_po_arr _) rfl rfl, jn_putF_mo 2 2 2⟩ : jn_GEm jn_G0 jn_me11 19 (.inl (jn_putF 2 2 2))) <|
  jn_cons (⟨(by decide +kernel), rfl⟩ : jn_GEm jn_G0 jn_me11 22 (.inr (.inr 0))) <| jn_nil
theorem jn_ok11 : jn_GM jn_G0 11 := jn_GM_of jn_G0_11 rfl rfl (by decide +kernel) (by decide) (jn_o11_0)
theorem jn_o12_0 : ∀ q ∈ jn_c12_0, jn_GEm jn_G0 jn_me12 q.1 q.2 :=
  jn_cons (⟨jn_iload_n_ok (i := 1) (k := 1) (by decide +kernel) rfl, jn_iload_n_mo 1⟩ : jn_GEm jn_G0 jn_me12 0 (.inl (jn_iload_n 1))) <|
  jn_cons (⟨jn_iflt_ok (t := 16) (off := 15) (by decide +kernel) (by decide), jn_iflt_mo 16⟩ : jn_GEm jn_G0 jn_me12 1 (.inl (jn_iflt 16))) <|
  jn_cons (⟨jn_iload_n_ok (i := 1) (k := 1) (by decide +kernel) rfl, jn_iload_n_mo 1⟩ : jn_GEm jn_G0 jn_me12 4 (.inl (jn_iload_n 1))) <|
  jn_cons (⟨jn_aload_n_ok (i := 0) (k := 0) (by decide +kernel) rfl, jn_aload_n_mo 0⟩ : jn_GEm jn_G0 jn_me12 5 (.inl (jn_aload_n 0))) <|
  jn_cons (⟨jn_getf_ok (ci := 2) (k := 1) (i := 15) (N := 3) (C := RX2) (T := TX2) (by decide +kernel) rfl (by decide) jn_u2 (jn_in 103 (by decide +kernel) rfl), jn_getf_mo 2 1⟩ : jn_GEm jn_G0 jn_me12 6 (.inl (jn_getf 2 1))) <|
  jn_cons (⟨jn_icge_ok (t := 16) (off := 7) (by decide +kernel) (by decide), jn_icge_mo 16⟩ : jn_GEm jn_G0 jn_me12 9 (.inl (jn_icge 16))) <|
  jn_cons (⟨jn_iconst_ok (by decide +kernel), jn_iconst_mo 1⟩ : jn_GEm jn_G0 jn_me12 12 (.inl (jn_iconst 1))) <|
  jn_cons (⟨jn_goto_ok (t := 17) (off := 4) (by decide +kernel) (by decide), jn_goto_mo 17⟩ : jn_GEm jn_G0 jn_me12 13 (.inl (jn_goto 17))) <|
  jn_cons (⟨jn_iconst_ok (by decide +kernel), jn_iconst_mo 0⟩ : jn_GEm jn_G0 jn_me12 16 (.inl (jn_iconst 0))) <|
  jn_cons (⟨(by decide +kernel), rfl⟩ : jn_GEm jn_G0 jn_me12 17 (.inr (.inr 2))) <| jn_nil
theorem jn_ok12 : jn_GM jn_G0 12 := jn_GM_of jn_G0_12 rfl rfl (by decide +kernel) (by decide) (jn_o12_0)
theorem jn_o13_0 : ∀ q ∈ jn_c13_0, jn_GEm jn_G0 jn_me13 q.1 q.2 :=
  jn_cons (⟨jn_iconst_ok (by decide +kernel), jn_iconst_mo 1⟩ : jn_GEm jn_G0 jn_me13 0 (.inl (jn_iconst 1))) <|
  jn_cons (⟨jn_aload_n_ok (i := 0) (k := 0) (by decide +kernel) rfl, jn_aload_n_mo 0⟩ : jn_GEm jn_G0 jn_me13 1 (.inl (jn_aload_n 0))) <|
  jn_cons (⟨jn_getf_ok (ci := 2) (k := 1) (i := 15) (N := 3) (C := RX2) (T := TX2) (by decide +kernel) rfl (by decide) jn_u2 (jn_in 103 (by decide +kernel) rfl), jn_getf_mo 2 1⟩ : jn_GEm jn_G0 jn_me13 2 (.inl (jn_getf 2 1))) <|
  jn_cons (⟨jn_ishl_ok (by decide +kernel), jn_ishl_mo⟩ : jn_GEm jn_G0 jn_me13 5 (.inl jn_ishl)) <|
  jn_cons (⟨jn_iconst_ok (by decide +kernel), jn_iconst_mo 1⟩ : jn_GEm jn_G0 jn_me13 6 (.inl (jn_iconst 1))) <|
  jn_cons (⟨jn_isub_ok (by decide +kernel), jn_isub_mo⟩ : jn_GEm jn_G0 jn_me13 7 (.inl jn_isub)) <|
  jn_cons (⟨(by decide +kernel), rfl⟩ : jn_GEm jn_G0 jn_me13 8 (.inr (.inr 1))) <| jn_nil
theorem jn_ok13 : jn_GM jn_G0 13 := jn_GM_of jn_G0_13 rfl rfl (by decide +kernel) (by decide) (jn_o13_0)
theorem jn_o14_0 : ∀ q ∈ jn_c14_0, jn_GEm jn_G0 jn_me14 q.1 q.2 :=
  jn_cons (⟨jn_aload_n_ok (i := 0) (k := 0) (by decide +kernel) rfl, jn_aload_n_mo 0⟩ : jn_GEm jn_G0 jn_me14 0 (.inl (jn_aload_n 0))) <|
  jn_cons (⟨jn_getf_ok (ci := 2) (k := 2) (i := 18) (N := 3) (C := RX2) (T := TX2) (by decide +kernel) rfl (by decide) jn_u2 (jn_in 109 (by decide +kernel) rfl), jn_getf_mo 2 2⟩ : jn_GEm jn_G0 jn_me14 1 (.inl (jn_getf 2 2))) <|
  jn_cons (⟨jn_iload_n_ok (i := 1) (k := 1) (by decide +kernel) rfl, jn_iload_n_mo 1⟩ : jn_GEm jn_G0 jn_me14 4 (.inl (jn_iload_n 1))) <|
  jn_cons (⟨jn_bipush_ok (n := 6) (v := 6) (by decide +kernel) (by decide), jn_bipush_mo 6⟩ : jn_GEm jn_G0 jn_me14 5 (.inl (jn_bipush 6))) <|
  jn_cons (⟨jn_imul_ok (by decide +kernel), jn_imul_mo⟩ : jn_GEm jn_G0 jn_me14 7 (.inl jn_imul)) <|
  jn_cons (⟨jn_iload_n_ok (i := 2) (k := 2) (by decide +kernel) rfl, jn_iload_n_mo 2⟩ : jn_GEm jn_G0 jn_me14 8 (.inl (jn_iload_n 2))) <|
  jn_cons (⟨jn_iadd_ok (by decide +kernel), jn_iadd_mo⟩ : jn_GEm jn_G0 jn_me14 9 (.inl jn_iadd)) <|
  jn_cons (⟨jn_iaload_ok (by decide +kernel), jn_iaload_mo⟩ : jn_GEm jn_G0 jn_me14 10 (.inl jn_iaload)) <|
  jn_cons (⟨(by decide +kernel), rfl⟩ : jn_GEm jn_G0 jn_me14 11 (.inr (.inr 1))) <| jn_nil
theorem jn_ok14 : jn_GM jn_G0 14 := jn_GM_of jn_G0_14 rfl rfl (by decide +kernel) (by decide) (jn_o14_0)
theorem jn_o15_0 : ∀ q ∈ jn_c15_0, jn_GEm jn_G0 jn_me15 q.1 q.2 :=
  jn_cons (⟨jn_aload_n_ok (i := 0) (k := 0) (by decide +kernel) rfl, jn_aload_n_mo 0⟩ : jn_GEm jn_G0 jn_me15 0 (.inl (jn_aload_n 0))) <|
  jn_cons (⟨jn_getf_ok (ci := 2) (k := 2) (i := 18) (N := 3) (C := RX2) (T := TX2) (by decide +kernel) rfl (by decide) jn_u2 (jn_in 109 (by decide +kernel) rfl), jn_getf_mo 2 2⟩ : jn_GEm jn_G0 jn_me15 1 (.inl (jn_getf 2 2))) <|
  jn_cons (⟨jn_iload_n_ok (i := 1) (k := 1) (by decide +kernel) rfl, jn_iload_n_mo 1⟩ : jn_GEm jn_G0 jn_me15 4 (.inl (jn_iload_n 1))) <|
  jn_cons (⟨jn_bipush_ok (n := 6) (v := 6) (by decide +kernel) (by decide), jn_bipush_mo 6⟩ : jn_GEm jn_G0 jn_me15 5 (.inl (jn_bipush 6))) <|
  jn_cons (⟨jn_imul_ok (by decide +kernel), jn_imul_mo⟩ : jn_GEm jn_G0 jn_me15 7 (.inl jn_imul)) <|
  jn_cons (⟨jn_iload_n_ok (i := 2) (k := 2) (by decide +kernel) rfl, jn_iload_n_mo 2⟩ : jn_GEm jn_G0 jn_me15 8 (.inl (jn_iload_n 2))) <|
  jn_cons (⟨jn_iadd_ok (by decide +kernel), jn_iadd_mo⟩ : jn_GEm jn_G0 jn_me15 9 (.inl jn_iadd)) <|
  jn_cons (⟨jn_iload_n_ok (i := 3) (k := 3) (by decide +kernel) rfl, jn_iload_n_mo 3⟩ : jn_GEm jn_G0 jn_me15 10 (.inl (jn_iload_n 3))) <|
  jn_cons (⟨jn_iastore_ok (by decide +kernel), jn_iastore_mo⟩ : jn_GEm jn_G0 jn_me15 11 (.inl jn_iastore)) <|
  jn_cons (⟨jn_aload_n_ok (i := 0) (k := 0) (by decide +kernel) rfl, jn_aload_n_mo 0⟩ : jn_GEm jn_G0 jn_me15 12 (.inl (jn_aload_n 0))) <|
  jn_cons (⟨jn_getf_ok (ci := 2) (k := 2) (i := 18) (N := 3) (C := RX2) (T := TX2) (by decide +kernel) rfl (by decide) jn_u2 (jn_in 109 (by decide +kernel) rfl), jn_getf_mo 2 2⟩ : jn_GEm jn_G0 jn_me15 13 (.inl (jn_getf 2 2))) <|
  jn_cons (⟨jn_iload_n_ok (i := 2) (k := 2) (by decide +kernel) rfl, jn_iload_n_mo 2⟩ : jn_GEm jn_G0 jn_me15 16 (.inl (jn_iload_n 2))) <|
  jn_cons (⟨jn_bipush_ok (n := 6) (v := 6) (by decide +kernel) (by decide), jn_bipush_mo 6⟩ : jn_GEm jn_G0 jn_me15 17 (.inl (jn_bipush 6))) <|
  jn_cons (⟨jn_imul_ok (by decide +kernel), jn_imul_mo⟩ : jn_GEm jn_G0 jn_me15 19 (.inl jn_imul)) <|
  jn_cons (⟨jn_iload_n_ok (i := 1) (k := 1) (by decide +kernel) rfl, jn_iload_n_mo 1⟩ : jn_GEm jn_G0 jn_me15 20 (.inl (jn_iload_n 1))) <|
  jn_cons (⟨jn_iadd_ok (by decide +kernel), jn_iadd_mo⟩ : jn_GEm jn_G0 jn_me15 21 (.inl jn_iadd)) <|
  jn_cons (⟨jn_iload_n_ok (i := 3) (k := 3) (by decide +kernel) rfl, jn_iload_n_mo 3⟩ : jn_GEm jn_G0 jn_me15 22 (.inl (jn_iload_n 3))) <|
  jn_cons (⟨jn_iastore_ok (by decide +kernel), jn_iastore_mo⟩ : jn_GEm jn_G0 jn_me15 23 (.inl jn_iastore)) <|
  jn_cons (⟨(by decide +kernel), rfl⟩ : jn_GEm jn_G0 jn_me15 24 (.inr (.inr 0))) <| jn_nil
theorem jn_ok15 : jn_GM jn_G0 15 := jn_GM_of jn_G0_15 rfl rfl (by decide +kernel) (by decide) (jn_o15_0)
theorem jn_o16_0 : ∀ q ∈ jn_c16_0, jn_GEm jn_G0 jn_me16 q.1 q.2 :=
  jn_cons (⟨jn_iconst_ok (by decide +kernel), jn_iconst_mo 0⟩ : jn_GEm jn_G0 jn_me16 0 (.inl (jn_iconst 0))) <|
  jn_cons (⟨jn_istore_n_ok (i := 2) (k := 2) (by decide +kernel) rfl, jn_istore_n_mo 2⟩ : jn_GEm jn_G0 jn_me16 1 (.inl (jn_istore_n 2))) <|
  jn_cons (⟨jn_iconst_ok (by decide +kernel), jn_iconst_mo 0⟩ : jn_GEm jn_G0 jn_me16 2 (.inl (jn_iconst 0))) <|
  jn_cons (⟨jn_istore_n_ok (i := 3) (k := 3) (by decide +kernel) rfl, jn_istore_n_mo 3⟩ : jn_GEm jn_G0 jn_me16 3 (.inl (jn_istore_n 3))) <|
  jn_cons (⟨jn_iload_n_ok (i := 3) (k := 3) (by decide +kernel) rfl, jn_iload_n_mo 3⟩ : jn_GEm jn_G0 jn_me16 4 (.inl (jn_iload_n 3))) <|
  jn_cons (⟨jn_aload_n_ok (i := 0) (k := 0) (by decide +kernel) rfl, jn_aload_n_mo 0⟩ : jn_GEm jn_G0 jn_me16 5 (.inl (jn_aload_n 0))) <|
  jn_cons (⟨jn_getf_ok (ci := 2) (k := 1) (i := 15) (N := 3) (C := RX2) (T := TX2) (by decide +kernel) rfl (by decide) jn_u2 (jn_in 103 (by decide +kernel) rfl), jn_getf_mo 2 1⟩ : jn_GEm jn_G0 jn_me16 6 (.inl (jn_getf 2 1))) <|
  jn_cons (⟨jn_icge_ok (t := 32) (off := 23) (by decide +kernel) (by decide), jn_icge_mo 32⟩ : jn_GEm jn_G0 jn_me16 9 (.inl (jn_icge 32))) <|
  jn_cons (⟨jn_iload_n_ok (i := 2) (k := 2) (by decide +kernel) rfl, jn_iload_n_mo 2⟩ : jn_GEm jn_G0 jn_me16 12 (.inl (jn_iload_n 2))) <|
  jn_cons (⟨jn_aload_n_ok (i := 0) (k := 0) (by decide +kernel) rfl, jn_aload_n_mo 0⟩ : jn_GEm jn_G0 jn_me16 13 (.inl (jn_aload_n 0))) <|
  jn_cons (⟨jn_getf_ok (ci := 2) (k := 2) (i := 18) (N := 3) (C := RX2) (T := TX2) (by decide +kernel) rfl (by decide) jn_u2 (jn_in 109 (by decide +kernel) rfl), jn_getf_mo 2 2⟩ : jn_GEm jn_G0 jn_me16 14 (.inl (jn_getf 2 2))) <|
  jn_cons (⟨jn_iload_n_ok (i := 1) (k := 1) (by decide +kernel) rfl, jn_iload_n_mo 1⟩ : jn_GEm jn_G0 jn_me16 17 (.inl (jn_iload_n 1))) <|
  jn_cons (⟨jn_bipush_ok (n := 6) (v := 6) (by decide +kernel) (by decide), jn_bipush_mo 6⟩ : jn_GEm jn_G0 jn_me16 18 (.inl (jn_bipush 6))) <|
  jn_cons (⟨jn_imul_ok (by decide +kernel), jn_imul_mo⟩ : jn_GEm jn_G0 jn_me16 20 (.inl jn_imul)) <|
  jn_cons (⟨jn_iload_n_ok (i := 3) (k := 3) (by decide +kernel) rfl, jn_iload_n_mo 3⟩ : jn_GEm jn_G0 jn_me16 21 (.inl (jn_iload_n 3))) <|
  jn_cons (⟨jn_iadd_ok (by decide +kernel), jn_iadd_mo⟩ : jn_GEm jn_G0 jn_me16 22 (.inl jn_iadd)) <|
  jn_cons (⟨jn_iaload_ok (by decide +kernel), jn_iaload_mo⟩ : jn_GEm jn_G0 jn_me16 23 (.inl jn_iaload)) <|
  jn_cons (⟨jn_iadd_ok (by decide +kernel), jn_iadd_mo⟩ : jn_GEm jn_G0 jn_me16 24 (.inl jn_iadd)) <|
  jn_cons (⟨jn_istore_n_ok (i := 2) (k := 2) (by decide +kernel) rfl, jn_istore_n_mo 2⟩ : jn_GEm jn_G0 jn_me16 25 (.inl (jn_istore_n 2))) <|
  jn_cons (⟨jn_iinc_ok (i := 3) (n := 1) (by decide +kernel), jn_iinc_mo 3 1⟩ : jn_GEm jn_G0 jn_me16 26 (.inl (jn_iinc 3 1))) <|
  jn_cons (⟨jn_goto_ok (t := 4) (off := -25) (by decide +kernel) (by decide), jn_goto_mo 4⟩ : jn_GEm jn_G0 jn_me16 29 (.inl (jn_goto 4))) <|
  jn_cons (⟨jn_iload_n_ok (i := 2) (k := 2) (by decide +kernel) rfl, jn_iload_n_mo 2⟩ : jn_GEm jn_G0 jn_me16 32 (.inl (jn_iload_n 2))) <|
  jn_cons (⟨(by decide +kernel), rfl⟩ : jn_GEm jn_G0 jn_me16 33 (.inr (.inr 1))) <| jn_nil
theorem jn_ok16 : jn_GM jn_G0 16 := jn_GM_of jn_G0_16 rfl rfl (by decide +kernel) (by decide) (jn_o16_0)
theorem jn_o17_0 : ∀ q ∈ jn_c17_0, jn_GEm jn_G0 jn_me17 q.1 q.2 :=
  jn_cons (⟨jn_iconst_ok (by decide +kernel), jn_iconst_mo 0⟩ : jn_GEm jn_G0 jn_me17 0 (.inl (jn_iconst 0))) <|
  jn_cons (⟨jn_istore_n_ok (i := 3) (k := 3) (by decide +kernel) rfl, jn_istore_n_mo 3⟩ : jn_GEm jn_G0 jn_me17 1 (.inl (jn_istore_n 3))) <|
  jn_cons (⟨jn_iconst_ok (by decide +kernel), jn_iconst_mo 0⟩ : jn_GEm jn_G0 jn_me17 2 (.inl (jn_iconst 0))) <|
  jn_cons (⟨jn_istore_ok (i := 4) (by decide +kernel), jn_istore_mo 4⟩ : jn_GEm jn_G0 jn_me17 3 (.inl (jn_istore 4))) <|
  jn_cons (⟨jn_iload_ok (i := 4) (by decide +kernel), jn_iload_mo 4⟩ : jn_GEm jn_G0 jn_me17 5 (.inl (jn_iload 4))) <|
  jn_cons (⟨jn_aload_n_ok (i := 0) (k := 0) (by decide +kernel) rfl, jn_aload_n_mo 0⟩ : jn_GEm jn_G0 jn_me17 7 (.inl (jn_aload_n 0))) <|
  jn_cons (⟨jn_getf_ok (ci := 2) (k := 1) (i := 15) (N := 3) (C := RX2) (T := TX2) (by decide +kernel) rfl (by decide) jn_u2 (jn_in 103 (by decide +kernel) rfl), jn_getf_mo 2 1⟩ : jn_GEm jn_G0 jn_me17 8 (.inl (jn_getf 2 1))) <|
  jn_cons (⟨jn_icge_ok (t := 44) (off := 33) (by decide +kernel) (by decide), jn_icge_mo 44⟩ : jn_GEm jn_G0 jn_me17 11 (.inl (jn_icge 44))) <|
  jn_cons (⟨jn_iload_n_ok (i := 2) (k := 2) (by decide +kernel) rfl, jn_iload_n_mo 2⟩ : jn_GEm jn_G0 jn_me17 14 (.inl (jn_iload_n 2))) <|
  jn_cons (⟨jn_iload_ok (i := 4) (by decide +kernel), jn_iload_mo 4⟩ : jn_GEm jn_G0 jn_me17 15 (.inl (jn_iload 4))) <|
  jn_cons (⟨jn_ishr_ok (by decide +kernel), jn_ishr_mo⟩ : jn_GEm jn_G0 jn_me17 17 (.inl jn_ishr)) <|
  jn_cons (⟨jn_iconst_ok (by decide +kernel), jn_iconst_mo 1⟩ : jn_GEm jn_G0 jn_me17 18 (.inl (jn_iconst 1))) <|
  jn_cons (⟨jn_iand_ok (by decide +kernel), jn_iand_mo⟩ : jn_GEm jn_G0 jn_me17 19 (.inl jn_iand)) <|
  jn_cons (⟨jn_ifeq_ok (t := 38) (off := 18) (by decide +kernel) (by decide), jn_ifeq_mo 38⟩ : jn_GEm jn_G0 jn_me17 20 (.inl (jn_ifeq 38))) <|
  jn_cons (⟨jn_iload_n_ok (i := 3) (k := 3) (by decide +kernel) rfl, jn_iload_n_mo 3⟩ : jn_GEm jn_G0 jn_me17 23 (.inl (jn_iload_n 3))) <|
  jn_cons (⟨jn_aload_n_ok (i := 0) (k := 0) (by decide +kernel) rfl, jn_aload_n_mo 0⟩ : jn_GEm jn_G0 jn_me17 24 (.inl (jn_aload_n 0))) <|
  jn_cons (⟨jn_getf_ok (ci := 2) (k := 2) (i := 18) (N := 3) (C := RX2) (T := TX2) (by decide +kernel) rfl (by decide) jn_u2 (jn_in 109 (by decide +kernel) rfl), jn_getf_mo 2 2⟩ : jn_GEm jn_G0 jn_me17 25 (.inl (jn_getf 2 2))) <|
  jn_cons (⟨jn_iload_n_ok (i := 1) (k := 1) (by decide +kernel) rfl, jn_iload_n_mo 1⟩ : jn_GEm jn_G0 jn_me17 28 (.inl (jn_iload_n 1))) <|
  jn_cons (⟨jn_bipush_ok (n := 6) (v := 6) (by decide +kernel) (by decide), jn_bipush_mo 6⟩ : jn_GEm jn_G0 jn_me17 29 (.inl (jn_bipush 6))) <|
  jn_cons (⟨jn_imul_ok (by decide +kernel), jn_imul_mo⟩ : jn_GEm jn_G0 jn_me17 31 (.inl jn_imul)) <|
  jn_cons (⟨jn_iload_ok (i := 4) (by decide +kernel), jn_iload_mo 4⟩ : jn_GEm jn_G0 jn_me17 32 (.inl (jn_iload 4))) <|
  jn_cons (⟨jn_iadd_ok (by decide +kernel), jn_iadd_mo⟩ : jn_GEm jn_G0 jn_me17 34 (.inl jn_iadd)) <|
  jn_cons (⟨jn_iaload_ok (by decide +kernel), jn_iaload_mo⟩ : jn_GEm jn_G0 jn_me17 35 (.inl jn_iaload)) <|
  jn_cons (⟨jn_iadd_ok (by decide +kernel), jn_iadd_mo⟩ : jn_GEm jn_G0 jn_me17 36 (.inl jn_iadd)) <| jn_nil
theorem jn_o17_1 : ∀ q ∈ jn_c17_1, jn_GEm jn_G0 jn_me17 q.1 q.2 :=
  jn_cons (⟨jn_istore_n_ok (i := 3) (k := 3) (by decide +kernel) rfl, jn_istore_n_mo 3⟩ : jn_GEm jn_G0 jn_me17 37 (.inl (jn_istore_n 3))) <|
  jn_cons (⟨jn_iinc_ok (i := 4) (n := 1) (by decide +kernel), jn_iinc_mo 4 1⟩ : jn_GEm jn_G0 jn_me17 38 (.inl (jn_iinc 4 1))) <|
  jn_cons (⟨jn_goto_ok (t := 5) (off := -36) (by decide +kernel) (by decide), jn_goto_mo 5⟩ : jn_GEm jn_G0 jn_me17 41 (.inl (jn_goto 5))) <|
  jn_cons (⟨jn_iload_n_ok (i := 3) (k := 3) (by decide +kernel) rfl, jn_iload_n_mo 3⟩ : jn_GEm jn_G0 jn_me17 44 (.inl (jn_iload_n 3))) <|
  jn_cons (⟨(by decide +kernel), rfl⟩ : jn_GEm jn_G0 jn_me17 45 (.inr (.inr 1))) <| jn_nil
theorem jn_ok17 : jn_GM jn_G0 17 := jn_GM_of jn_G0_17 rfl rfl (by decide +kernel) (by decide) (jn_appd jn_o17_0 (jn_o17_1))
theorem jn_o18_0 : ∀ q ∈ jn_c18_0, jn_GEm jn_G0 jn_me18 q.1 q.2 :=
  jn_cons (⟨jn_iconst_ok (by decide +kernel), jn_iconst_mo 0⟩ : jn_GEm jn_G0 jn_me18 0 (.inl (jn_iconst 0))) <|
  jn_cons (⟨jn_istore_n_ok (i := 1) (k := 1) (by decide +kernel) rfl, jn_istore_n_mo 1⟩ : jn_GEm jn_G0 jn_me18 1 (.inl (jn_istore_n 1))) <|
  jn_cons (⟨jn_iconst_ok (by decide +kernel), jn_iconst_mo 0⟩ : jn_GEm jn_G0 jn_me18 2 (.inl (jn_iconst 0))) <|
  jn_cons (⟨jn_istore_n_ok (i := 2) (k := 2) (by decide +kernel) rfl, jn_istore_n_mo 2⟩ : jn_GEm jn_G0 jn_me18 3 (.inl (jn_istore_n 2))) <|
  jn_cons (⟨jn_iload_n_ok (i := 2) (k := 2) (by decide +kernel) rfl, jn_iload_n_mo 2⟩ : jn_GEm jn_G0 jn_me18 4 (.inl (jn_iload_n 2))) <|
  jn_cons (⟨jn_aload_n_ok (i := 0) (k := 0) (by decide +kernel) rfl, jn_aload_n_mo 0⟩ : jn_GEm jn_G0 jn_me18 5 (.inl (jn_aload_n 0))) <|
  jn_cons (⟨jn_getf_ok (ci := 2) (k := 1) (i := 15) (N := 3) (C := RX2) (T := TX2) (by decide +kernel) rfl (by decide) jn_u2 (jn_in 103 (by decide +kernel) rfl), jn_getf_mo 2 1⟩ : jn_GEm jn_G0 jn_me18 6 (.inl (jn_getf 2 1))) <|
  jn_cons (⟨jn_icge_ok (t := 26) (off := 17) (by decide +kernel) (by decide), jn_icge_mo 26⟩ : jn_GEm jn_G0 jn_me18 9 (.inl (jn_icge 26))) <|
  jn_cons (⟨jn_iload_n_ok (i := 1) (k := 1) (by decide +kernel) rfl, jn_iload_n_mo 1⟩ : jn_GEm jn_G0 jn_me18 12 (.inl (jn_iload_n 1))) <|
  jn_cons (⟨jn_aload_n_ok (i := 0) (k := 0) (by decide +kernel) rfl, jn_aload_n_mo 0⟩ : jn_GEm jn_G0 jn_me18 13 (.inl (jn_aload_n 0))) <|
  jn_cons (⟨jn_iload_n_ok (i := 2) (k := 2) (by decide +kernel) rfl, jn_iload_n_mo 2⟩ : jn_GEm jn_G0 jn_me18 14 (.inl (jn_iload_n 2))) <|
  jn_cons (jn_gc_of jn_G0_16 (jn_callV (i := 22) (na := 1) (ci := 2) (q := (RX2, TX2, 3)) (by decide +kernel) rfl (jn_in 271 (by decide +kernel) rfl) (jn_in 268 (by decide +kernel) rfl) (jn_in 269 (by decide +kernel) rfl) (jn_in 270 (by decide +kernel) rfl) (jn_in 57 (by decide +kernel) rfl) ⟨by decide, by decide, by decide +kernel⟩) : jn_GEm jn_G0 jn_me18 15 (.inr (.inl (16, 4, 2)))) <|
  jn_cons (⟨jn_iadd_ok (by decide +kernel), jn_iadd_mo⟩ : jn_GEm jn_G0 jn_me18 18 (.inl jn_iadd)) <|
  jn_cons (⟨jn_istore_n_ok (i := 1) (k := 1) (by decide +kernel) rfl, jn_istore_n_mo 1⟩ : jn_GEm jn_G0 jn_me18 19 (.inl (jn_istore_n 1))) <|
  jn_cons (⟨jn_iinc_ok (i := 2) (n := 1) (by decide +kernel), jn_iinc_mo 2 1⟩ : jn_GEm jn_G0 jn_me18 20 (.inl (jn_iinc 2 1))) <|
  jn_cons (⟨jn_goto_ok (t := 4) (off := -19) (by decide +kernel) (by decide), jn_goto_mo 4⟩ : jn_GEm jn_G0 jn_me18 23 (.inl (jn_goto 4))) <|
  jn_cons (⟨jn_iload_n_ok (i := 1) (k := 1) (by decide +kernel) rfl, jn_iload_n_mo 1⟩ : jn_GEm jn_G0 jn_me18 26 (.inl (jn_iload_n 1))) <|
  jn_cons (⟨jn_iconst_ok (by decide +kernel), jn_iconst_mo 2⟩ : jn_GEm jn_G0 jn_me18 27 (.inl (jn_iconst 2))) <|
  jn_cons (⟨jn_idiv_ok (by decide +kernel), jn_idiv_mo⟩ : jn_GEm jn_G0 jn_me18 28 (.inl jn_idiv)) <|
  jn_cons (⟨(by decide +kernel), rfl⟩ : jn_GEm jn_G0 jn_me18 29 (.inr (.inr 1))) <| jn_nil
theorem jn_ok18 : jn_GM jn_G0 18 := jn_GM_of jn_G0_18 rfl rfl (by decide +kernel) (by decide) (jn_o18_0)
theorem jn_o19_0 : ∀ q ∈ jn_c19_0, jn_GEm jn_G0 jn_me19 q.1 q.2 :=
  jn_cons (⟨jn_aload_n_ok (i := 0) (k := 0) (by decide +kernel) rfl, jn_aload_n_mo 0⟩ : jn_GEm jn_G0 jn_me19 0 (.inl (jn_aload_n 0))) <|
  jn_cons (jn_gc_of jn_G0_18 (jn_callV (i := 26) (na := 0) (ci := 2) (q := (RX2, TX2, 3)) (by decide +kernel) rfl (jn_in 267 (by decide +kernel) rfl) (jn_in 264 (by decide +kernel) rfl) (jn_in 265 (by decide +kernel) rfl) (jn_in 266 (by decide +kernel) rfl) (jn_in 57 (by decide +kernel) rfl) ⟨by decide, by decide, by decide +kernel⟩) : jn_GEm jn_G0 jn_me19 1 (.inr (.inl (18, 4, 1)))) <|
  jn_cons (⟨jn_aload_n_ok (i := 0) (k := 0) (by decide +kernel) rfl, jn_aload_n_mo 0⟩ : jn_GEm jn_G0 jn_me19 4 (.inl (jn_aload_n 0))) <|
  jn_cons (⟨jn_getf_ok (ci := 2) (k := 1) (i := 15) (N := 3) (C := RX2) (T := TX2) (by decide +kernel) rfl (by decide) jn_u2 (jn_in 103 (by decide +kernel) rfl), jn_getf_mo 2 1⟩ : jn_GEm jn_G0 jn_me19 5 (.inl (jn_getf 2 1))) <|
  jn_cons (⟨jn_isub_ok (by decide +kernel), jn_isub_mo⟩ : jn_GEm jn_G0 jn_me19 8 (.inl jn_isub)) <|
  jn_cons (⟨jn_iconst_ok (by decide +kernel), jn_iconst_mo 1⟩ : jn_GEm jn_G0 jn_me19 9 (.inl (jn_iconst 1))) <|
  jn_cons (⟨jn_iadd_ok (by decide +kernel), jn_iadd_mo⟩ : jn_GEm jn_G0 jn_me19 10 (.inl jn_iadd)) <|
  jn_cons (⟨(by decide +kernel), rfl⟩ : jn_GEm jn_G0 jn_me19 11 (.inr (.inr 1))) <| jn_nil
theorem jn_ok19 : jn_GM jn_G0 19 := jn_GM_of jn_G0_19 rfl rfl (by decide +kernel) (by decide) (jn_o19_0)
theorem jn_o20_0 : ∀ q ∈ jn_c20_0, jn_GEm jn_G0 jn_me20 q.1 q.2 :=
  jn_cons (⟨jn_iconst_ok (by decide +kernel), jn_iconst_mo 1⟩ : jn_GEm jn_G0 jn_me20 0 (.inl (jn_iconst 1))) <|
  jn_cons (⟨jn_istore_n_ok (i := 1) (k := 1) (by decide +kernel) rfl, jn_istore_n_mo 1⟩ : jn_GEm jn_G0 jn_me20 1 (.inl (jn_istore_n 1))) <|
  jn_cons (⟨jn_iconst_ok (by decide +kernel), jn_iconst_mo 1⟩ : jn_GEm jn_G0 jn_me20 2 (.inl (jn_iconst 1))) <|
  jn_cons (⟨jn_istore_n_ok (i := 2) (k := 2) (by decide +kernel) rfl, jn_istore_n_mo 2⟩ : jn_GEm jn_G0 jn_me20 3 (.inl (jn_istore_n 2))) <|
  jn_cons (⟨jn_iload_n_ok (i := 2) (k := 2) (by decide +kernel) rfl, jn_iload_n_mo 2⟩ : jn_GEm jn_G0 jn_me20 4 (.inl (jn_iload_n 2))) <|
  jn_cons (⟨jn_aload_n_ok (i := 0) (k := 0) (by decide +kernel) rfl, jn_aload_n_mo 0⟩ : jn_GEm jn_G0 jn_me20 5 (.inl (jn_aload_n 0))) <|
  jn_cons (⟨jn_getf_ok (ci := 2) (k := 1) (i := 15) (N := 3) (C := RX2) (T := TX2) (by decide +kernel) rfl (by decide) jn_u2 (jn_in 103 (by decide +kernel) rfl), jn_getf_mo 2 1⟩ : jn_GEm jn_G0 jn_me20 6 (.inl (jn_getf 2 1))) <|
  jn_cons (⟨jn_icge_ok (t := 49) (off := 40) (by decide +kernel) (by decide), jn_icge_mo 49⟩ : jn_GEm jn_G0 jn_me20 9 (.inl (jn_icge 49))) <|
  jn_cons (⟨jn_iconst_ok (by decide +kernel), jn_iconst_mo 0⟩ : jn_GEm jn_G0 jn_me20 12 (.inl (jn_iconst 0))) <|
  jn_cons (⟨jn_istore_n_ok (i := 3) (k := 3) (by decide +kernel) rfl, jn_istore_n_mo 3⟩ : jn_GEm jn_G0 jn_me20 13 (.inl (jn_istore_n 3))) <|
  jn_cons (⟨jn_iload_n_ok (i := 3) (k := 3) (by decide +kernel) rfl, jn_iload_n_mo 3⟩ : jn_GEm jn_G0 jn_me20 14 (.inl (jn_iload_n 3))) <|
  jn_cons (⟨jn_aload_n_ok (i := 0) (k := 0) (by decide +kernel) rfl, jn_aload_n_mo 0⟩ : jn_GEm jn_G0 jn_me20 15 (.inl (jn_aload_n 0))) <|
  jn_cons (⟨jn_getf_ok (ci := 2) (k := 1) (i := 15) (N := 3) (C := RX2) (T := TX2) (by decide +kernel) rfl (by decide) jn_u2 (jn_in 103 (by decide +kernel) rfl), jn_getf_mo 2 1⟩ : jn_GEm jn_G0 jn_me20 16 (.inl (jn_getf 2 1))) <|
  jn_cons (⟨jn_icge_ok (t := 43) (off := 24) (by decide +kernel) (by decide), jn_icge_mo 43⟩ : jn_GEm jn_G0 jn_me20 19 (.inl (jn_icge 43))) <|
  jn_cons (⟨jn_aload_n_ok (i := 0) (k := 0) (by decide +kernel) rfl, jn_aload_n_mo 0⟩ : jn_GEm jn_G0 jn_me20 22 (.inl (jn_aload_n 0))) <|
  jn_cons (⟨jn_iload_n_ok (i := 3) (k := 3) (by decide +kernel) rfl, jn_iload_n_mo 3⟩ : jn_GEm jn_G0 jn_me20 23 (.inl (jn_iload_n 3))) <|
  jn_cons (⟨jn_iload_n_ok (i := 1) (k := 1) (by decide +kernel) rfl, jn_iload_n_mo 1⟩ : jn_GEm jn_G0 jn_me20 24 (.inl (jn_iload_n 1))) <|
  jn_cons (jn_gc_of jn_G0_17 (jn_callV (i := 30) (na := 2) (ci := 2) (q := (RX2, TX2, 3)) (by decide +kernel) rfl (jn_in 255 (by decide +kernel) rfl) (jn_in 252 (by decide +kernel) rfl) (jn_in 253 (by decide +kernel) rfl) (jn_in 254 (by decide +kernel) rfl) (jn_in 57 (by decide +kernel) rfl) ⟨by decide, by decide, by decide +kernel⟩) : jn_GEm jn_G0 jn_me20 25 (.inr (.inl (17, 4, 3)))) <|
  jn_cons (⟨jn_ifle_ok (t := 37) (off := 9) (by decide +kernel) (by decide), jn_ifle_mo 37⟩ : jn_GEm jn_G0 jn_me20 28 (.inl (jn_ifle 37))) <|
  jn_cons (⟨jn_iload_n_ok (i := 1) (k := 1) (by decide +kernel) rfl, jn_iload_n_mo 1⟩ : jn_GEm jn_G0 jn_me20 31 (.inl (jn_iload_n 1))) <|
  jn_cons (⟨jn_iconst_ok (by decide +kernel), jn_iconst_mo 1⟩ : jn_GEm jn_G0 jn_me20 32 (.inl (jn_iconst 1))) <|
  jn_cons (⟨jn_iload_n_ok (i := 3) (k := 3) (by decide +kernel) rfl, jn_iload_n_mo 3⟩ : jn_GEm jn_G0 jn_me20 33 (.inl (jn_iload_n 3))) <|
  jn_cons (⟨jn_ishl_ok (by decide +kernel), jn_ishl_mo⟩ : jn_GEm jn_G0 jn_me20 34 (.inl jn_ishl)) <|
  jn_cons (⟨jn_ior_ok (by decide +kernel), jn_ior_mo⟩ : jn_GEm jn_G0 jn_me20 35 (.inl jn_ior)) <| jn_nil
theorem jn_o20_1 : ∀ q ∈ jn_c20_1, jn_GEm jn_G0 jn_me20 q.1 q.2 :=
  jn_cons (⟨jn_istore_n_ok (i := 1) (k := 1) (by decide +kernel) rfl, jn_istore_n_mo 1⟩ : jn_GEm jn_G0 jn_me20 36 (.inl (jn_istore_n 1))) <|
  jn_cons (⟨jn_iinc_ok (i := 3) (n := 1) (by decide +kernel), jn_iinc_mo 3 1⟩ : jn_GEm jn_G0 jn_me20 37 (.inl (jn_iinc 3 1))) <|
  jn_cons (⟨jn_goto_ok (t := 14) (off := -26) (by decide +kernel) (by decide), jn_goto_mo 14⟩ : jn_GEm jn_G0 jn_me20 40 (.inl (jn_goto 14))) <|
  jn_cons (⟨jn_iinc_ok (i := 2) (n := 1) (by decide +kernel), jn_iinc_mo 2 1⟩ : jn_GEm jn_G0 jn_me20 43 (.inl (jn_iinc 2 1))) <|
  jn_cons (⟨jn_goto_ok (t := 4) (off := -42) (by decide +kernel) (by decide), jn_goto_mo 4⟩ : jn_GEm jn_G0 jn_me20 46 (.inl (jn_goto 4))) <|
  jn_cons (⟨jn_iload_n_ok (i := 1) (k := 1) (by decide +kernel) rfl, jn_iload_n_mo 1⟩ : jn_GEm jn_G0 jn_me20 49 (.inl (jn_iload_n 1))) <|
  jn_cons (⟨jn_aload_n_ok (i := 0) (k := 0) (by decide +kernel) rfl, jn_aload_n_mo 0⟩ : jn_GEm jn_G0 jn_me20 50 (.inl (jn_aload_n 0))) <|
  jn_cons (jn_gc_of jn_G0_13 (jn_callV (i := 34) (na := 0) (ci := 2) (q := (RX2, TX2, 3)) (by decide +kernel) rfl (jn_in 259 (by decide +kernel) rfl) (jn_in 256 (by decide +kernel) rfl) (jn_in 257 (by decide +kernel) rfl) (jn_in 258 (by decide +kernel) rfl) (jn_in 57 (by decide +kernel) rfl) ⟨by decide, by decide, by decide +kernel⟩) : jn_GEm jn_G0 jn_me20 51 (.inr (.inl (13, 4, 1)))) <|
  jn_cons (⟨jn_icne_ok (t := 61) (off := 7) (by decide +kernel) (by decide), jn_icne_mo 61⟩ : jn_GEm jn_G0 jn_me20 54 (.inl (jn_icne 61))) <|
  jn_cons (⟨jn_iconst_ok (by decide +kernel), jn_iconst_mo 1⟩ : jn_GEm jn_G0 jn_me20 57 (.inl (jn_iconst 1))) <|
  jn_cons (⟨jn_goto_ok (t := 62) (off := 4) (by decide +kernel) (by decide), jn_goto_mo 62⟩ : jn_GEm jn_G0 jn_me20 58 (.inl (jn_goto 62))) <|
  jn_cons (⟨jn_iconst_ok (by decide +kernel), jn_iconst_mo 0⟩ : jn_GEm jn_G0 jn_me20 61 (.inl (jn_iconst 0))) <|
  jn_cons (⟨(by decide +kernel), rfl⟩ : jn_GEm jn_G0 jn_me20 62 (.inr (.inr 2))) <| jn_nil
theorem jn_ok20 : jn_GM jn_G0 20 := jn_GM_of jn_G0_20 rfl rfl (by decide +kernel) (by decide) (jn_appd jn_o20_0 (jn_o20_1))
theorem jn_o21_0 : ∀ q ∈ jn_c21_0, jn_GEm jn_G0 jn_me21 q.1 q.2 :=
  jn_cons (⟨jn_aload_n_ok (i := 0) (k := 0) (by decide +kernel) rfl, jn_aload_n_mo 0⟩ : jn_GEm jn_G0 jn_me21 0 (.inl (jn_aload_n 0))) <|
  jn_cons (jn_gc_of jn_G0_20 (jn_callV (i := 37) (na := 0) (ci := 2) (q := (RX2, TX2, 3)) (by decide +kernel) rfl (jn_in 251 (by decide +kernel) rfl) (jn_in 248 (by decide +kernel) rfl) (jn_in 249 (by decide +kernel) rfl) (jn_in 250 (by decide +kernel) rfl) (jn_in 57 (by decide +kernel) rfl) ⟨by decide, by decide, by decide +kernel⟩) : jn_GEm jn_G0 jn_me21 1 (.inr (.inl (20, 4, 1)))) <|
  jn_cons (⟨jn_ifne_ok (t := 9) (off := 5) (by decide +kernel) (by decide), jn_ifne_mo 9⟩ : jn_GEm jn_G0 jn_me21 4 (.inl (jn_ifne 9))) <|
  jn_cons (⟨jn_iconst_ok (by decide +kernel), jn_iconst_mo 3⟩ : jn_GEm jn_G0 jn_me21 7 (.inl (jn_iconst 3))) <|
  jn_cons (⟨(by decide +kernel), rfl⟩ : jn_GEm jn_G0 jn_me21 8 (.inr (.inr 1))) <|
  jn_cons (⟨jn_aload_n_ok (i := 0) (k := 0) (by decide +kernel) rfl, jn_aload_n_mo 0⟩ : jn_GEm jn_G0 jn_me21 9 (.inl (jn_aload_n 0))) <|
  jn_cons (jn_gc_of jn_G0_19 (jn_callV (i := 41) (na := 0) (ci := 2) (q := (RX2, TX2, 3)) (by decide +kernel) rfl (jn_in 263 (by decide +kernel) rfl) (jn_in 260 (by decide +kernel) rfl) (jn_in 261 (by decide +kernel) rfl) (jn_in 262 (by decide +kernel) rfl) (jn_in 57 (by decide +kernel) rfl) ⟨by decide, by decide, by decide +kernel⟩) : jn_GEm jn_G0 jn_me21 10 (.inr (.inl (19, 4, 1)))) <|
  jn_cons (⟨jn_ifne_ok (t := 18) (off := 5) (by decide +kernel) (by decide), jn_ifne_mo 18⟩ : jn_GEm jn_G0 jn_me21 13 (.inl (jn_ifne 18))) <|
  jn_cons (⟨jn_iconst_ok (by decide +kernel), jn_iconst_mo 0⟩ : jn_GEm jn_G0 jn_me21 16 (.inl (jn_iconst 0))) <|
  jn_cons (⟨(by decide +kernel), rfl⟩ : jn_GEm jn_G0 jn_me21 17 (.inr (.inr 1))) <|
  jn_cons (⟨jn_aload_n_ok (i := 0) (k := 0) (by decide +kernel) rfl, jn_aload_n_mo 0⟩ : jn_GEm jn_G0 jn_me21 18 (.inl (jn_aload_n 0))) <|
  jn_cons (jn_gc_of jn_G0_22 (jn_callV (i := 44) (na := 0) (ci := 2) (q := (RX2, TX2, 3)) (by decide +kernel) rfl (jn_in 275 (by decide +kernel) rfl) (jn_in 272 (by decide +kernel) rfl) (jn_in 274 (by decide +kernel) rfl) (jn_in 4 (by decide +kernel) rfl) (jn_in 57 (by decide +kernel) rfl) ⟨by decide, by decide, by decide +kernel⟩) : jn_GEm jn_G0 jn_me21 19 (.inr (.inl (22, 4, 1)))) <|
  jn_cons (⟨jn_ifeq_ok (t := 27) (off := 5) (by decide +kernel) (by decide), jn_ifeq_mo 27⟩ : jn_GEm jn_G0 jn_me21 22 (.inl (jn_ifeq 27))) <|
  jn_cons (⟨jn_iconst_ok (by decide +kernel), jn_iconst_mo 1⟩ : jn_GEm jn_G0 jn_me21 25 (.inl (jn_iconst 1))) <|
  jn_cons (⟨(by decide +kernel), rfl⟩ : jn_GEm jn_G0 jn_me21 26 (.inr (.inr 1))) <|
  jn_cons (⟨jn_aload_n_ok (i := 0) (k := 0) (by decide +kernel) rfl, jn_aload_n_mo 0⟩ : jn_GEm jn_G0 jn_me21 27 (.inl (jn_aload_n 0))) <|
  jn_cons (⟨jn_getf_ok (ci := 2) (k := 1) (i := 15) (N := 3) (C := RX2) (T := TX2) (by decide +kernel) rfl (by decide) jn_u2 (jn_in 103 (by decide +kernel) rfl), jn_getf_mo 2 1⟩ : jn_GEm jn_G0 jn_me21 28 (.inl (jn_getf 2 1))) <|
  jn_cons (⟨jn_iconst_ok (by decide +kernel), jn_iconst_mo 2⟩ : jn_GEm jn_G0 jn_me21 31 (.inl (jn_iconst 2))) <|
  jn_cons (⟨jn_icne_ok (t := 39) (off := 7) (by decide +kernel) (by decide), jn_icne_mo 39⟩ : jn_GEm jn_G0 jn_me21 32 (.inl (jn_icne 39))) <|
  jn_cons (⟨jn_iconst_ok (by decide +kernel), jn_iconst_mo 2⟩ : jn_GEm jn_G0 jn_me21 35 (.inl (jn_iconst 2))) <|
  jn_cons (⟨jn_goto_ok (t := 40) (off := 4) (by decide +kernel) (by decide), jn_goto_mo 40⟩ : jn_GEm jn_G0 jn_me21 36 (.inl (jn_goto 40))) <|
  jn_cons (⟨jn_iconst_ok (by decide +kernel), jn_iconst_mo 3⟩ : jn_GEm jn_G0 jn_me21 39 (.inl (jn_iconst 3))) <|
  jn_cons (⟨(by decide +kernel), rfl⟩ : jn_GEm jn_G0 jn_me21 40 (.inr (.inr 1))) <| jn_nil
theorem jn_ok21 : jn_GM jn_G0 21 := jn_GM_of jn_G0_21 rfl rfl (by decide +kernel) (by decide) (jn_o21_0)
theorem jn_o22_0 : ∀ q ∈ jn_c22_0, jn_GEm jn_G0 jn_me22 q.1 q.2 :=
  jn_cons (⟨jn_iconst_ok (by decide +kernel), jn_iconst_mo 0⟩ : jn_GEm jn_G0 jn_me22 0 (.inl (jn_iconst 0))) <|
  jn_cons (⟨jn_istore_n_ok (i := 1) (k := 1) (by decide +kernel) rfl, jn_istore_n_mo 1⟩ : jn_GEm jn_G0 jn_me22 1 (.inl (jn_istore_n 1))) <|
  jn_cons (⟨jn_iload_n_ok (i := 1) (k := 1) (by decide +kernel) rfl, jn_iload_n_mo 1⟩ : jn_GEm jn_G0 jn_me22 2 (.inl (jn_iload_n 1))) <|
  jn_cons (⟨jn_aload_n_ok (i := 0) (k := 0) (by decide +kernel) rfl, jn_aload_n_mo 0⟩ : jn_GEm jn_G0 jn_me22 3 (.inl (jn_aload_n 0))) <|
  jn_cons (⟨jn_getf_ok (ci := 2) (k := 1) (i := 15) (N := 3) (C := RX2) (T := TX2) (by decide +kernel) rfl (by decide) jn_u2 (jn_in 103 (by decide +kernel) rfl), jn_getf_mo 2 1⟩ : jn_GEm jn_G0 jn_me22 4 (.inl (jn_getf 2 1))) <|
  jn_cons (⟨jn_icge_ok (t := 27) (off := 20) (by decide +kernel) (by decide), jn_icge_mo 27⟩ : jn_GEm jn_G0 jn_me22 7 (.inl (jn_icge 27))) <|
  jn_cons (⟨jn_aload_n_ok (i := 0) (k := 0) (by decide +kernel) rfl, jn_aload_n_mo 0⟩ : jn_GEm jn_G0 jn_me22 10 (.inl (jn_aload_n 0))) <|
  jn_cons (⟨jn_iload_n_ok (i := 1) (k := 1) (by decide +kernel) rfl, jn_iload_n_mo 1⟩ : jn_GEm jn_G0 jn_me22 11 (.inl (jn_iload_n 1))) <|
  jn_cons (jn_gc_of jn_G0_16 (jn_callV (i := 22) (na := 1) (ci := 2) (q := (RX2, TX2, 3)) (by decide +kernel) rfl (jn_in 271 (by decide +kernel) rfl) (jn_in 268 (by decide +kernel) rfl) (jn_in 269 (by decide +kernel) rfl) (jn_in 270 (by decide +kernel) rfl) (jn_in 57 (by decide +kernel) rfl) ⟨by decide, by decide, by decide +kernel⟩) : jn_GEm jn_G0 jn_me22 12 (.inr (.inl (16, 4, 2)))) <|
  jn_cons (⟨jn_iconst_ok (by decide +kernel), jn_iconst_mo 2⟩ : jn_GEm jn_G0 jn_me22 15 (.inl (jn_iconst 2))) <|
  jn_cons (⟨jn_iceq_ok (t := 21) (off := 5) (by decide +kernel) (by decide), jn_iceq_mo 21⟩ : jn_GEm jn_G0 jn_me22 16 (.inl (jn_iceq 21))) <|
  jn_cons (⟨jn_iconst_ok (by decide +kernel), jn_iconst_mo 0⟩ : jn_GEm jn_G0 jn_me22 19 (.inl (jn_iconst 0))) <|
  jn_cons (⟨(by decide +kernel), rfl⟩ : jn_GEm jn_G0 jn_me22 20 (.inr (.inr 2))) <|
  jn_cons (⟨jn_iinc_ok (i := 1) (n := 1) (by decide +kernel), jn_iinc_mo 1 1⟩ : jn_GEm jn_G0 jn_me22 21 (.inl (jn_iinc 1 1))) <|
  jn_cons (⟨jn_goto_ok (t := 2) (off := -22) (by decide +kernel) (by decide), jn_goto_mo 2⟩ : jn_GEm jn_G0 jn_me22 24 (.inl (jn_goto 2))) <|
  jn_cons (⟨jn_iconst_ok (by decide +kernel), jn_iconst_mo 1⟩ : jn_GEm jn_G0 jn_me22 27 (.inl (jn_iconst 1))) <|
  jn_cons (⟨(by decide +kernel), rfl⟩ : jn_GEm jn_G0 jn_me22 28 (.inr (.inr 2))) <| jn_nil
theorem jn_ok22 : jn_GM jn_G0 22 := jn_GM_of jn_G0_22 rfl rfl (by decide +kernel) (by decide) (jn_o22_0)
theorem jn_o23_0 : ∀ q ∈ jn_c23_0, jn_GEm jn_G0 jn_me23 q.1 q.2 :=
  jn_cons (⟨jn_iconst_ok (by decide +kernel), jn_iconst_mo 0⟩ : jn_GEm jn_G0 jn_me23 0 (.inl (jn_iconst 0))) <|
  jn_cons (⟨jn_istore_ok (i := 4) (by decide +kernel), jn_istore_mo 4⟩ : jn_GEm jn_G0 jn_me23 1 (.inl (jn_istore 4))) <|
  jn_cons (⟨jn_iload_ok (i := 4) (by decide +kernel), jn_iload_mo 4⟩ : jn_GEm jn_G0 jn_me23 3 (.inl (jn_iload 4))) <|
  jn_cons (⟨jn_aload_n_ok (i := 0) (k := 0) (by decide +kernel) rfl, jn_aload_n_mo 0⟩ : jn_GEm jn_G0 jn_me23 5 (.inl (jn_aload_n 0))) <|
  jn_cons (⟨jn_getf_ok (ci := 2) (k := 1) (i := 15) (N := 3) (C := RX2) (T := TX2) (by decide +kernel) rfl (by decide) jn_u2 (jn_in 103 (by decide +kernel) rfl), jn_getf_mo 2 1⟩ : jn_GEm jn_G0 jn_me23 6 (.inl (jn_getf 2 1))) <|
  jn_cons (⟨jn_icge_ok (t := 34) (off := 25) (by decide +kernel) (by decide), jn_icge_mo 34⟩ : jn_GEm jn_G0 jn_me23 9 (.inl (jn_icge 34))) <|
  jn_cons (⟨jn_aload_n_ok (i := 1) (k := 1) (by decide +kernel) rfl, jn_aload_n_mo 1⟩ : jn_GEm jn_G0 jn_me23 12 (.inl (jn_aload_n 1))) <|
  jn_cons (⟨jn_iload_ok (i := 4) (by decide +kernel), jn_iload_mo 4⟩ : jn_GEm jn_G0 jn_me23 13 (.inl (jn_iload 4))) <|
  jn_cons (⟨jn_dup2_ok (by decide +kernel), jn_dup2_mo⟩ : jn_GEm jn_G0 jn_me23 15 (.inl jn_dup2)) <|
  jn_cons (⟨jn_iaload_ok (by decide +kernel), jn_iaload_mo⟩ : jn_GEm jn_G0 jn_me23 16 (.inl jn_iaload)) <|
  jn_cons (⟨jn_iload_n_ok (i := 3) (k := 3) (by decide +kernel) rfl, jn_iload_n_mo 3⟩ : jn_GEm jn_G0 jn_me23 17 (.inl (jn_iload_n 3))) <|
  jn_cons (⟨jn_aload_n_ok (i := 0) (k := 0) (by decide +kernel) rfl, jn_aload_n_mo 0⟩ : jn_GEm jn_G0 jn_me23 18 (.inl (jn_aload_n 0))) <|
  jn_cons (⟨jn_iload_n_ok (i := 2) (k := 2) (by decide +kernel) rfl, jn_iload_n_mo 2⟩ : jn_GEm jn_G0 jn_me23 19 (.inl (jn_iload_n 2))) <|
  jn_cons (⟨jn_iload_ok (i := 4) (by decide +kernel), jn_iload_mo 4⟩ : jn_GEm jn_G0 jn_me23 20 (.inl (jn_iload 4))) <|
  jn_cons (jn_gc_of jn_G0_14 (jn_callV (i := 47) (na := 2) (ci := 2) (q := (RX2, TX2, 3)) (by decide +kernel) rfl (jn_in 235 (by decide +kernel) rfl) (jn_in 396 (by decide +kernel) rfl) (jn_in 233 (by decide +kernel) rfl) (jn_in 234 (by decide +kernel) rfl) (jn_in 57 (by decide +kernel) rfl) ⟨by decide, by decide, by decide +kernel⟩) : jn_GEm jn_G0 jn_me23 22 (.inr (.inl (14, 4, 3)))) <|
  jn_cons (⟨jn_imul_ok (by decide +kernel), jn_imul_mo⟩ : jn_GEm jn_G0 jn_me23 25 (.inl jn_imul)) <|
  jn_cons (⟨jn_iadd_ok (by decide +kernel), jn_iadd_mo⟩ : jn_GEm jn_G0 jn_me23 26 (.inl jn_iadd)) <|
  jn_cons (⟨jn_iastore_ok (by decide +kernel), jn_iastore_mo⟩ : jn_GEm jn_G0 jn_me23 27 (.inl jn_iastore)) <|
  jn_cons (⟨jn_iinc_ok (i := 4) (n := 1) (by decide +kernel), jn_iinc_mo 4 1⟩ : jn_GEm jn_G0 jn_me23 28 (.inl (jn_iinc 4 1))) <|
  jn_cons (⟨jn_goto_ok (t := 3) (off := -28) (by decide +kernel) (by decide), jn_goto_mo 3⟩ : jn_GEm jn_G0 jn_me23 31 (.inl (jn_goto 3))) <|
  jn_cons (⟨jn_aload_n_ok (i := 1) (k := 1) (by decide +kernel) rfl, jn_aload_n_mo 1⟩ : jn_GEm jn_G0 jn_me23 34 (.inl (jn_aload_n 1))) <|
  jn_cons (⟨jn_iload_n_ok (i := 2) (k := 2) (by decide +kernel) rfl, jn_iload_n_mo 2⟩ : jn_GEm jn_G0 jn_me23 35 (.inl (jn_iload_n 2))) <|
  jn_cons (⟨jn_dup2_ok (by decide +kernel), jn_dup2_mo⟩ : jn_GEm jn_G0 jn_me23 36 (.inl jn_dup2)) <|
  jn_cons (⟨jn_iaload_ok (by decide +kernel), jn_iaload_mo⟩ : jn_GEm jn_G0 jn_me23 37 (.inl jn_iaload)) <| jn_nil
theorem jn_o23_1 : ∀ q ∈ jn_c23_1, jn_GEm jn_G0 jn_me23 q.1 q.2 :=
  jn_cons (⟨jn_iload_n_ok (i := 3) (k := 3) (by decide +kernel) rfl, jn_iload_n_mo 3⟩ : jn_GEm jn_G0 jn_me23 38 (.inl (jn_iload_n 3))) <|
  jn_cons (⟨jn_aload_n_ok (i := 0) (k := 0) (by decide +kernel) rfl, jn_aload_n_mo 0⟩ : jn_GEm jn_G0 jn_me23 39 (.inl (jn_aload_n 0))) <|
  jn_cons (⟨jn_iload_n_ok (i := 2) (k := 2) (by decide +kernel) rfl, jn_iload_n_mo 2⟩ : jn_GEm jn_G0 jn_me23 40 (.inl (jn_iload_n 2))) <|
  jn_cons (jn_gc_of jn_G0_16 (jn_callV (i := 22) (na := 1) (ci := 2) (q := (RX2, TX2, 3)) (by decide +kernel) rfl (jn_in 271 (by decide +kernel) rfl) (jn_in 268 (by decide +kernel) rfl) (jn_in 269 (by decide +kernel) rfl) (jn_in 270 (by decide +kernel) rfl) (jn_in 57 (by decide +kernel) rfl) ⟨by decide, by decide, by decide +kernel⟩) : jn_GEm jn_G0 jn_me23 41 (.inr (.inl (16, 4, 2)))) <|
  jn_cons (⟨jn_imul_ok (by decide +kernel), jn_imul_mo⟩ : jn_GEm jn_G0 jn_me23 44 (.inl jn_imul)) <|
  jn_cons (⟨jn_isub_ok (by decide +kernel), jn_isub_mo⟩ : jn_GEm jn_G0 jn_me23 45 (.inl jn_isub)) <|
  jn_cons (⟨jn_iastore_ok (by decide +kernel), jn_iastore_mo⟩ : jn_GEm jn_G0 jn_me23 46 (.inl jn_iastore)) <|
  jn_cons (⟨(by decide +kernel), rfl⟩ : jn_GEm jn_G0 jn_me23 47 (.inr (.inr 0))) <| jn_nil
theorem jn_ok23 : jn_GM jn_G0 23 := jn_GM_of jn_G0_23 rfl rfl (by decide +kernel) (by decide) (jn_appd jn_o23_0 (jn_o23_1))
theorem jn_o24_0 : ∀ q ∈ jn_c24_0, jn_GEm jn_G0 jn_me24 q.1 q.2 :=
  jn_cons (⟨jn_aload_n_ok (i := 0) (k := 0) (by decide +kernel) rfl, jn_aload_n_mo 0⟩ : jn_GEm jn_G0 jn_me24 0 (.inl (jn_aload_n 0))) <|
  jn_cons (⟨jn_oinit_ok (i := 3) (by decide +kernel) (jn_in 94 (by decide +kernel) rfl) (jn_in 71 (by decide +kernel) rfl) (jn_in 72 (by decide +kernel) rfl), jn_oinit_mo⟩ : jn_GEm jn_G0 jn_me24 1 (.inl jn_oinit)) <|
  jn_cons (⟨jn_aload_n_ok (i := 0) (k := 0) (by decide +kernel) rfl, jn_aload_n_mo 0⟩ : jn_GEm jn_G0 jn_me24 4 (.inl (jn_aload_n 0))) <|
  jn_cons (⟨jn_new_ok (ci := 2) (i := 9) (N := 3) (fs := [.int 0, .int 0, .null]) (C := RX2) (T := TX2) (ty0 := tyX2) (by decide +kernel) rfl jn_u2 tyX2_ok (jn_in 95 (by decide +kernel) rfl) (jn_in 96 (by decide +kernel) rfl) (jn_in 57 (by decide +kernel) rfl) (by decide +kernel), jn_new_mo 2 3 [.int 0, .int 0, .null]⟩ : jn_GEm jn_G0 jn_me24 5 (.inl (jn_new 2 3 [.int 0, .int 0, .null]))) <|
  jn_cons (⟨jn_dup_ok (by decide +kernel), jn_dup_mo⟩ : jn_GEm jn_G0 jn_me24 8 (.inl jn_dup)) <|
  jn_cons (⟨jn_iconst_ok (by decide +kernel), jn_iconst_mo 0⟩ : jn_GEm jn_G0 jn_me24 9 (.inl (jn_iconst 0))) <|
  jn_cons (⟨jn_iconst_ok (by decide +kernel), jn_iconst_mo 1⟩ : jn_GEm jn_G0 jn_me24 10 (.inl (jn_iconst 1))) <|
  jn_cons (jn_gc_of jn_G0_11 (jn_callI (i := 11) (na := 2) (by decide +kernel) rfl (jn_in 99 (by decide +kernel) rfl) (jn_in 97 (by decide +kernel) rfl) (jn_in 98 (by decide +kernel) rfl) (jn_in 57 (by decide +kernel) rfl) rfl ⟨by decide, by decide, by decide +kernel⟩) : jn_GEm jn_G0 jn_me24 11 (.inr (.inl (11, 1, 3)))) <|
  jn_cons (⟨jn_putf_ok (ci := 3) (k := 1) (κ := 2) (i := 14) (N := 6) (C := RX3) (T := TX3) (ty0 := tyX3) (ty := .object "DebtNet$Net") (by decide +kernel) rfl (by decide) jn_u3 (jn_in 118 (by decide +kernel) rfl) tyX3_ok nmX3 rfl (by decide +kernel) (jn_po_obj _), jn_putf_mo 3 1 2⟩ : jn_GEm jn_G0 jn_me24 14 (.inl (jn_putf 3 1 2))) <|
  jn_cons (⟨jn_aload_n_ok (i := 0) (k := 0) (by decide +kernel) rfl, jn_aload_n_mo 0⟩ : jn_GEm jn_G0 jn_me24 17 (.inl (jn_aload_n 0))) <|
  jn_cons (⟨jn_iconst_ok (by decide +kernel), jn_iconst_mo 0⟩ : jn_GEm jn_G0 jn_me24 18 (.inl (jn_iconst 0))) <|
  jn_cons (⟨jn_putf_ok (ci := 3) (k := 2) (κ := 0) (i := 20) (N := 6) (C := RX3) (T := TX3) (ty0 := tyX3) (ty := .int) (by decide +kernel) rfl (by decide) jn_u3 (jn_in 119 (by decide +kernel) rfl) tyX3_ok nmX3 rfl (by decide +kernel) jn_po_int, jn_putf_mo 3 2 0⟩ : jn_GEm jn_G0 jn_me24 19 (.inl (jn_putf 3 2 0))) <|
  jn_cons (⟨jn_aload_n_ok (i := 0) (k := 0) (by decide +kernel) rfl, jn_aload_n_mo 0⟩ : jn_GEm jn_G0 jn_me24 22 (.inl (jn_aload_n 0))) <|
  jn_cons (⟨jn_lconst_ok (n := 1) (v := 1) (by decide +kernel) (by decide), jn_lconst_mo 1⟩ : jn_GEm jn_G0 jn_me24 23 (.inl (jn_lconst 1))) <|
  jn_cons (⟨jn_putf_ok (ci := 3) (k := 3) (κ := 1) (i := 24) (N := 6) (C := RX3) (T := TX3) (ty0 := tyX3) (ty := .long) (by decide +kernel) rfl (by decide) jn_u3 (jn_in 120 (by decide +kernel) rfl) tyX3_ok nmX3 rfl (by decide +kernel) jn_po_long, jn_putf_mo 3 3 1⟩ : jn_GEm jn_G0 jn_me24 24 (.inl (jn_putf 3 3 1))) <|
  jn_cons (⟨jn_aload_n_ok (i := 0) (k := 0) (by decide +kernel) rfl, jn_aload_n_mo 0⟩ : jn_GEm jn_G0 jn_me24 27 (.inl (jn_aload_n 0))) <|
  jn_cons (⟨jn_bipush_ok (n := 36) (v := 36) (by decide +kernel) (by decide), jn_bipush_mo 36⟩ : jn_GEm jn_G0 jn_me24 28 (.inl (jn_bipush 36))) <|
  jn_cons (⟨jn_newI_ok (by decide +kernel) (jn_in 87 (by decide +kernel) rfl), jn_newI_mo⟩ : jn_GEm jn_G0 jn_me24 30 (.inl jn_newI)) <|
  jn_cons (⟨jn_putF_ok (ci := 3) (k := 4) (κ := 2) (i := 28) (N := 6) (C := RX3) (T := TX3) (ty0 := tyX3) (ty := .array .int) (by decide +kernel) rfl (by decide) jn_u3 (jn_in 121 (by decide +kernel) rfl) tyX3_ok nmX3 rfl (by decide +kernel) (jn_po_arr _) rfl rfl, jn_putF_mo 3 4 2⟩ : jn_GEm jn_G0 jn_me24 32 (.inl (jn_putF 3 4 2))) <|
  jn_cons (⟨jn_aload_n_ok (i := 0) (k := 0) (by decide +kernel) rfl, jn_aload_n_mo 0⟩ : jn_GEm jn_G0 jn_me24 35 (.inl (jn_aload_n 0))) <|
  jn_cons (⟨jn_bipush_ok (n := 6) (v := 6) (by decide +kernel) (by decide), jn_bipush_mo 6⟩ : jn_GEm jn_G0 jn_me24 36 (.inl (jn_bipush 6))) <|
  jn_cons (⟨jn_newI_ok (by decide +kernel) (jn_in 87 (by decide +kernel) rfl), jn_newI_mo⟩ : jn_GEm jn_G0 jn_me24 38 (.inl jn_newI)) <|
  jn_cons (⟨jn_putF_ok (ci := 3) (k := 5) (κ := 2) (i := 32) (N := 6) (C := RX3) (T := TX3) (ty0 := tyX3) (ty := .array .int) (by decide +kernel) rfl (by decide) jn_u3 (jn_in 122 (by decide +kernel) rfl) tyX3_ok nmX3 rfl (by decide +kernel) (jn_po_arr _) rfl rfl, jn_putF_mo 3 5 2⟩ : jn_GEm jn_G0 jn_me24 40 (.inl (jn_putF 3 5 2))) <|
  jn_cons (⟨jn_aload_n_ok (i := 0) (k := 0) (by decide +kernel) rfl, jn_aload_n_mo 0⟩ : jn_GEm jn_G0 jn_me24 43 (.inl (jn_aload_n 0))) <| jn_nil
theorem jn_o24_1 : ∀ q ∈ jn_c24_1, jn_GEm jn_G0 jn_me24 q.1 q.2 :=
  jn_cons (⟨jn_aload_n_ok (i := 1) (k := 1) (by decide +kernel) rfl, jn_aload_n_mo 1⟩ : jn_GEm jn_G0 jn_me24 44 (.inl (jn_aload_n 1))) <|
  jn_cons (⟨jn_putF_ok (ci := 3) (k := 0) (κ := 2) (i := 35) (N := 6) (C := RX3) (T := TX3) (ty0 := tyX3) (ty := .object "DebtNet$Table") (by decide +kernel) rfl (by decide) jn_u3 (jn_in 117 (by decide +kernel) rfl) tyX3_ok nmX3 rfl (by decide +kernel) (jn_po_obj _) rfl rfl, jn_putF_mo 3 0 2⟩ : jn_GEm jn_G0 jn_me24 45 (.inl (jn_putF 3 0 2))) <|
  jn_cons (⟨(by decide +kernel), rfl⟩ : jn_GEm jn_G0 jn_me24 48 (.inr (.inr 0))) <| jn_nil
theorem jn_ok24 : jn_GM jn_G0 24 := jn_GM_of jn_G0_24 rfl rfl (by decide +kernel) (by decide) (jn_appd jn_o24_0 (jn_o24_1))
theorem jn_o25_0 : ∀ q ∈ jn_c25_0, jn_GEm jn_G0 jn_me25 q.1 q.2 :=
  jn_cons (⟨jn_aload_n_ok (i := 0) (k := 0) (by decide +kernel) rfl, jn_aload_n_mo 0⟩ : jn_GEm jn_G0 jn_me25 0 (.inl (jn_aload_n 0))) <|
  jn_cons (⟨jn_aload_n_ok (i := 1) (k := 1) (by decide +kernel) rfl, jn_aload_n_mo 1⟩ : jn_GEm jn_G0 jn_me25 1 (.inl (jn_aload_n 1))) <|
  jn_cons (⟨jn_putf_ok (ci := 3) (k := 1) (κ := 2) (i := 14) (N := 6) (C := RX3) (T := TX3) (ty0 := tyX3) (ty := .object "DebtNet$Net") (by decide +kernel) rfl (by decide) jn_u3 (jn_in 118 (by decide +kernel) rfl) tyX3_ok nmX3 rfl (by decide +kernel) (jn_po_obj _), jn_putf_mo 3 1 2⟩ : jn_GEm jn_G0 jn_me25 2 (.inl (jn_putf 3 1 2))) <|
  jn_cons (⟨jn_aload_n_ok (i := 0) (k := 0) (by decide +kernel) rfl, jn_aload_n_mo 0⟩ : jn_GEm jn_G0 jn_me25 5 (.inl (jn_aload_n 0))) <|
  jn_cons (⟨jn_iload_n_ok (i := 2) (k := 2) (by decide +kernel) rfl, jn_iload_n_mo 2⟩ : jn_GEm jn_G0 jn_me25 6 (.inl (jn_iload_n 2))) <|
  jn_cons (⟨jn_putf_ok (ci := 3) (k := 2) (κ := 0) (i := 20) (N := 6) (C := RX3) (T := TX3) (ty0 := tyX3) (ty := .int) (by decide +kernel) rfl (by decide) jn_u3 (jn_in 119 (by decide +kernel) rfl) tyX3_ok nmX3 rfl (by decide +kernel) jn_po_int, jn_putf_mo 3 2 0⟩ : jn_GEm jn_G0 jn_me25 7 (.inl (jn_putf 3 2 0))) <|
  jn_cons (⟨jn_aload_n_ok (i := 1) (k := 1) (by decide +kernel) rfl, jn_aload_n_mo 1⟩ : jn_GEm jn_G0 jn_me25 10 (.inl (jn_aload_n 1))) <|
  jn_cons (jn_gc_of jn_G0_13 (jn_callV (i := 39) (na := 0) (ci := 2) (q := (RX2, TX2, 3)) (by decide +kernel) rfl (jn_in 259 (by decide +kernel) rfl) (jn_in 366 (by decide +kernel) rfl) (jn_in 257 (by decide +kernel) rfl) (jn_in 258 (by decide +kernel) rfl) (jn_in 57 (by decide +kernel) rfl) ⟨by decide, by decide, by decide +kernel⟩) : jn_GEm jn_G0 jn_me25 11 (.inr (.inl (13, 4, 1)))) <|
  jn_cons (⟨jn_iconst_ok (by decide +kernel), jn_iconst_mo 1⟩ : jn_GEm jn_G0 jn_me25 14 (.inl (jn_iconst 1))) <|
  jn_cons (⟨jn_iload_n_ok (i := 2) (k := 2) (by decide +kernel) rfl, jn_iload_n_mo 2⟩ : jn_GEm jn_G0 jn_me25 15 (.inl (jn_iload_n 2))) <|
  jn_cons (⟨jn_ishl_ok (by decide +kernel), jn_ishl_mo⟩ : jn_GEm jn_G0 jn_me25 16 (.inl jn_ishl)) <|
  jn_cons (⟨jn_iconst_ok (by decide +kernel), jn_iconst_mo (-1)⟩ : jn_GEm jn_G0 jn_me25 17 (.inl (jn_iconst (-1)))) <|
  jn_cons (⟨jn_ixor_ok (by decide +kernel), jn_ixor_mo⟩ : jn_GEm jn_G0 jn_me25 18 (.inl jn_ixor)) <|
  jn_cons (⟨jn_iand_ok (by decide +kernel), jn_iand_mo⟩ : jn_GEm jn_G0 jn_me25 19 (.inl jn_iand)) <|
  jn_cons (⟨jn_istore_n_ok (i := 3) (k := 3) (by decide +kernel) rfl, jn_istore_n_mo 3⟩ : jn_GEm jn_G0 jn_me25 20 (.inl (jn_istore_n 3))) <|
  jn_cons (⟨jn_aload_n_ok (i := 0) (k := 0) (by decide +kernel) rfl, jn_aload_n_mo 0⟩ : jn_GEm jn_G0 jn_me25 21 (.inl (jn_aload_n 0))) <|
  jn_cons (⟨jn_aload_n_ok (i := 0) (k := 0) (by decide +kernel) rfl, jn_aload_n_mo 0⟩ : jn_GEm jn_G0 jn_me25 22 (.inl (jn_aload_n 0))) <|
  jn_cons (⟨jn_getf_ok (ci := 3) (k := 0) (i := 35) (N := 6) (C := RX3) (T := TX3) (by decide +kernel) rfl (by decide) jn_u3 (jn_in 117 (by decide +kernel) rfl), jn_getf_mo 3 0⟩ : jn_GEm jn_G0 jn_me25 23 (.inl (jn_getf 3 0))) <|
  jn_cons (⟨jn_aload_n_ok (i := 1) (k := 1) (by decide +kernel) rfl, jn_aload_n_mo 1⟩ : jn_GEm jn_G0 jn_me25 26 (.inl (jn_aload_n 1))) <|
  jn_cons (⟨jn_iload_n_ok (i := 3) (k := 3) (by decide +kernel) rfl, jn_iload_n_mo 3⟩ : jn_GEm jn_G0 jn_me25 27 (.inl (jn_iload_n 3))) <|
  jn_cons (⟨jn_iload_n_ok (i := 3) (k := 3) (by decide +kernel) rfl, jn_iload_n_mo 3⟩ : jn_GEm jn_G0 jn_me25 28 (.inl (jn_iload_n 3))) <|
  jn_cons (jn_gc_of jn_G0_36 (jn_callV (i := 43) (na := 3) (ci := 4) (q := (RX4, TX4, 1)) (by decide +kernel) rfl (jn_in 300 (by decide +kernel) rfl) (jn_in 367 (by decide +kernel) rfl) (jn_in 298 (by decide +kernel) rfl) (jn_in 299 (by decide +kernel) rfl) (jn_in 55 (by decide +kernel) rfl) ⟨by decide, by decide, by decide +kernel⟩) : jn_GEm jn_G0 jn_me25 29 (.inr (.inl (36, 6, 4)))) <|
  jn_cons (⟨jn_putf_ok (ci := 3) (k := 3) (κ := 1) (i := 24) (N := 6) (C := RX3) (T := TX3) (ty0 := tyX3) (ty := .long) (by decide +kernel) rfl (by decide) jn_u3 (jn_in 120 (by decide +kernel) rfl) tyX3_ok nmX3 rfl (by decide +kernel) jn_po_long, jn_putf_mo 3 3 1⟩ : jn_GEm jn_G0 jn_me25 32 (.inl (jn_putf 3 3 1))) <|
  jn_cons (⟨jn_iconst_ok (by decide +kernel), jn_iconst_mo 0⟩ : jn_GEm jn_G0 jn_me25 35 (.inl (jn_iconst 0))) <| jn_nil
theorem jn_o25_1 : ∀ q ∈ jn_c25_1, jn_GEm jn_G0 jn_me25 q.1 q.2 :=
  jn_cons (⟨jn_istore_ok (i := 4) (by decide +kernel), jn_istore_mo 4⟩ : jn_GEm jn_G0 jn_me25 36 (.inl (jn_istore 4))) <|
  jn_cons (⟨jn_iload_ok (i := 4) (by decide +kernel), jn_iload_mo 4⟩ : jn_GEm jn_G0 jn_me25 38 (.inl (jn_iload 4))) <|
  jn_cons (⟨jn_aload_n_ok (i := 1) (k := 1) (by decide +kernel) rfl, jn_aload_n_mo 1⟩ : jn_GEm jn_G0 jn_me25 40 (.inl (jn_aload_n 1))) <|
  jn_cons (⟨jn_getf_ok (ci := 2) (k := 1) (i := 49) (N := 3) (C := RX2) (T := TX2) (by decide +kernel) rfl (by decide) jn_u2 (jn_in 104 (by decide +kernel) rfl), jn_getf_mo 2 1⟩ : jn_GEm jn_G0 jn_me25 41 (.inl (jn_getf 2 1))) <|
  jn_cons (⟨jn_icge_ok (t := 146) (off := 102) (by decide +kernel) (by decide), jn_icge_mo 146⟩ : jn_GEm jn_G0 jn_me25 44 (.inl (jn_icge 146))) <|
  jn_cons (⟨jn_iload_ok (i := 4) (by decide +kernel), jn_iload_mo 4⟩ : jn_GEm jn_G0 jn_me25 47 (.inl (jn_iload 4))) <|
  jn_cons (⟨jn_istore_ok (i := 5) (by decide +kernel), jn_istore_mo 5⟩ : jn_GEm jn_G0 jn_me25 49 (.inl (jn_istore 5))) <|
  jn_cons (⟨jn_iload_ok (i := 5) (by decide +kernel), jn_iload_mo 5⟩ : jn_GEm jn_G0 jn_me25 51 (.inl (jn_iload 5))) <|
  jn_cons (⟨jn_aload_n_ok (i := 1) (k := 1) (by decide +kernel) rfl, jn_aload_n_mo 1⟩ : jn_GEm jn_G0 jn_me25 53 (.inl (jn_aload_n 1))) <|
  jn_cons (⟨jn_getf_ok (ci := 2) (k := 1) (i := 49) (N := 3) (C := RX2) (T := TX2) (by decide +kernel) rfl (by decide) jn_u2 (jn_in 104 (by decide +kernel) rfl), jn_getf_mo 2 1⟩ : jn_GEm jn_G0 jn_me25 54 (.inl (jn_getf 2 1))) <|
  jn_cons (⟨jn_icge_ok (t := 140) (off := 83) (by decide +kernel) (by decide), jn_icge_mo 140⟩ : jn_GEm jn_G0 jn_me25 57 (.inl (jn_icge 140))) <|
  jn_cons (⟨jn_iload_ok (i := 4) (by decide +kernel), jn_iload_mo 4⟩ : jn_GEm jn_G0 jn_me25 60 (.inl (jn_iload 4))) <|
  jn_cons (⟨jn_iload_n_ok (i := 2) (k := 2) (by decide +kernel) rfl, jn_iload_n_mo 2⟩ : jn_GEm jn_G0 jn_me25 62 (.inl (jn_iload_n 2))) <|
  jn_cons (⟨jn_iceq_ok (t := 72) (off := 9) (by decide +kernel) (by decide), jn_iceq_mo 72⟩ : jn_GEm jn_G0 jn_me25 63 (.inl (jn_iceq 72))) <|
  jn_cons (⟨jn_iload_ok (i := 5) (by decide +kernel), jn_iload_mo 5⟩ : jn_GEm jn_G0 jn_me25 66 (.inl (jn_iload 5))) <|
  jn_cons (⟨jn_iload_n_ok (i := 2) (k := 2) (by decide +kernel) rfl, jn_iload_n_mo 2⟩ : jn_GEm jn_G0 jn_me25 68 (.inl (jn_iload_n 2))) <|
  jn_cons (⟨jn_icne_ok (t := 76) (off := 7) (by decide +kernel) (by decide), jn_icne_mo 76⟩ : jn_GEm jn_G0 jn_me25 69 (.inl (jn_icne 76))) <|
  jn_cons (⟨jn_lconst_ok (n := 0) (v := 0) (by decide +kernel) (by decide), jn_lconst_mo 0⟩ : jn_GEm jn_G0 jn_me25 72 (.inl (jn_lconst 0))) <|
  jn_cons (⟨jn_goto_ok (t := 100) (off := 27) (by decide +kernel) (by decide), jn_goto_mo 100⟩ : jn_GEm jn_G0 jn_me25 73 (.inl (jn_goto 100))) <|
  jn_cons (⟨jn_aload_n_ok (i := 0) (k := 0) (by decide +kernel) rfl, jn_aload_n_mo 0⟩ : jn_GEm jn_G0 jn_me25 76 (.inl (jn_aload_n 0))) <|
  jn_cons (⟨jn_getf_ok (ci := 3) (k := 0) (i := 35) (N := 6) (C := RX3) (T := TX3) (by decide +kernel) rfl (by decide) jn_u3 (jn_in 117 (by decide +kernel) rfl), jn_getf_mo 3 0⟩ : jn_GEm jn_G0 jn_me25 77 (.inl (jn_getf 3 0))) <|
  jn_cons (⟨jn_aload_n_ok (i := 1) (k := 1) (by decide +kernel) rfl, jn_aload_n_mo 1⟩ : jn_GEm jn_G0 jn_me25 80 (.inl (jn_aload_n 1))) <|
  jn_cons (⟨jn_iload_n_ok (i := 3) (k := 3) (by decide +kernel) rfl, jn_iload_n_mo 3⟩ : jn_GEm jn_G0 jn_me25 81 (.inl (jn_iload_n 3))) <|
  jn_cons (⟨jn_iconst_ok (by decide +kernel), jn_iconst_mo 1⟩ : jn_GEm jn_G0 jn_me25 82 (.inl (jn_iconst 1))) <| jn_nil
theorem jn_o25_2 : ∀ q ∈ jn_c25_2, jn_GEm jn_G0 jn_me25 q.1 q.2 :=
  jn_cons (⟨jn_iload_ok (i := 4) (by decide +kernel), jn_iload_mo 4⟩ : jn_GEm jn_G0 jn_me25 83 (.inl (jn_iload 4))) <|
  jn_cons (⟨jn_ishl_ok (by decide +kernel), jn_ishl_mo⟩ : jn_GEm jn_G0 jn_me25 85 (.inl jn_ishl)) <|
  jn_cons (⟨jn_iconst_ok (by decide +kernel), jn_iconst_mo (-1)⟩ : jn_GEm jn_G0 jn_me25 86 (.inl (jn_iconst (-1)))) <|
  jn_cons (⟨jn_ixor_ok (by decide +kernel), jn_ixor_mo⟩ : jn_GEm jn_G0 jn_me25 87 (.inl jn_ixor)) <|
  jn_cons (⟨jn_iand_ok (by decide +kernel), jn_iand_mo⟩ : jn_GEm jn_G0 jn_me25 88 (.inl jn_iand)) <|
  jn_cons (⟨jn_iload_n_ok (i := 3) (k := 3) (by decide +kernel) rfl, jn_iload_n_mo 3⟩ : jn_GEm jn_G0 jn_me25 89 (.inl (jn_iload_n 3))) <|
  jn_cons (⟨jn_iconst_ok (by decide +kernel), jn_iconst_mo 1⟩ : jn_GEm jn_G0 jn_me25 90 (.inl (jn_iconst 1))) <|
  jn_cons (⟨jn_iload_ok (i := 5) (by decide +kernel), jn_iload_mo 5⟩ : jn_GEm jn_G0 jn_me25 91 (.inl (jn_iload 5))) <|
  jn_cons (⟨jn_ishl_ok (by decide +kernel), jn_ishl_mo⟩ : jn_GEm jn_G0 jn_me25 93 (.inl jn_ishl)) <|
  jn_cons (⟨jn_iconst_ok (by decide +kernel), jn_iconst_mo (-1)⟩ : jn_GEm jn_G0 jn_me25 94 (.inl (jn_iconst (-1)))) <|
  jn_cons (⟨jn_ixor_ok (by decide +kernel), jn_ixor_mo⟩ : jn_GEm jn_G0 jn_me25 95 (.inl jn_ixor)) <|
  jn_cons (⟨jn_iand_ok (by decide +kernel), jn_iand_mo⟩ : jn_GEm jn_G0 jn_me25 96 (.inl jn_iand)) <|
  jn_cons (jn_gc_of jn_G0_36 (jn_callV (i := 43) (na := 3) (ci := 4) (q := (RX4, TX4, 1)) (by decide +kernel) rfl (jn_in 300 (by decide +kernel) rfl) (jn_in 367 (by decide +kernel) rfl) (jn_in 298 (by decide +kernel) rfl) (jn_in 299 (by decide +kernel) rfl) (jn_in 55 (by decide +kernel) rfl) ⟨by decide, by decide, by decide +kernel⟩) : jn_GEm jn_G0 jn_me25 97 (.inr (.inl (36, 6, 4)))) <|
  jn_cons (⟨jn_lstore_ok (i := 6) (by decide +kernel), jn_lstore_mo 6⟩ : jn_GEm jn_G0 jn_me25 100 (.inl (jn_lstore 6))) <|
  jn_cons (⟨jn_aload_n_ok (i := 0) (k := 0) (by decide +kernel) rfl, jn_aload_n_mo 0⟩ : jn_GEm jn_G0 jn_me25 102 (.inl (jn_aload_n 0))) <|
  jn_cons (⟨jn_getf_ok (ci := 3) (k := 4) (i := 28) (N := 6) (C := RX3) (T := TX3) (by decide +kernel) rfl (by decide) jn_u3 (jn_in 121 (by decide +kernel) rfl), jn_getf_mo 3 4⟩ : jn_GEm jn_G0 jn_me25 103 (.inl (jn_getf 3 4))) <|
  jn_cons (⟨jn_iload_ok (i := 4) (by decide +kernel), jn_iload_mo 4⟩ : jn_GEm jn_G0 jn_me25 106 (.inl (jn_iload 4))) <|
  jn_cons (⟨jn_bipush_ok (n := 6) (v := 6) (by decide +kernel) (by decide), jn_bipush_mo 6⟩ : jn_GEm jn_G0 jn_me25 108 (.inl (jn_bipush 6))) <|
  jn_cons (⟨jn_imul_ok (by decide +kernel), jn_imul_mo⟩ : jn_GEm jn_G0 jn_me25 110 (.inl jn_imul)) <|
  jn_cons (⟨jn_iload_ok (i := 5) (by decide +kernel), jn_iload_mo 5⟩ : jn_GEm jn_G0 jn_me25 111 (.inl (jn_iload 5))) <|
  jn_cons (⟨jn_iadd_ok (by decide +kernel), jn_iadd_mo⟩ : jn_GEm jn_G0 jn_me25 113 (.inl jn_iadd)) <|
  jn_cons (⟨jn_lload_ok (i := 6) (by decide +kernel), jn_lload_mo 6⟩ : jn_GEm jn_G0 jn_me25 114 (.inl (jn_lload 6))) <|
  jn_cons (⟨jn_l2i_ok (by decide +kernel), jn_l2i_mo⟩ : jn_GEm jn_G0 jn_me25 116 (.inl jn_l2i)) <|
  jn_cons (⟨jn_iastore_ok (by decide +kernel), jn_iastore_mo⟩ : jn_GEm jn_G0 jn_me25 117 (.inl jn_iastore)) <| jn_nil
theorem jn_o25_3 : ∀ q ∈ jn_c25_3, jn_GEm jn_G0 jn_me25 q.1 q.2 :=
  jn_cons (⟨jn_aload_n_ok (i := 0) (k := 0) (by decide +kernel) rfl, jn_aload_n_mo 0⟩ : jn_GEm jn_G0 jn_me25 118 (.inl (jn_aload_n 0))) <|
  jn_cons (⟨jn_getf_ok (ci := 3) (k := 4) (i := 28) (N := 6) (C := RX3) (T := TX3) (by decide +kernel) rfl (by decide) jn_u3 (jn_in 121 (by decide +kernel) rfl), jn_getf_mo 3 4⟩ : jn_GEm jn_G0 jn_me25 119 (.inl (jn_getf 3 4))) <|
  jn_cons (⟨jn_iload_ok (i := 5) (by decide +kernel), jn_iload_mo 5⟩ : jn_GEm jn_G0 jn_me25 122 (.inl (jn_iload 5))) <|
  jn_cons (⟨jn_bipush_ok (n := 6) (v := 6) (by decide +kernel) (by decide), jn_bipush_mo 6⟩ : jn_GEm jn_G0 jn_me25 124 (.inl (jn_bipush 6))) <|
  jn_cons (⟨jn_imul_ok (by decide +kernel), jn_imul_mo⟩ : jn_GEm jn_G0 jn_me25 126 (.inl jn_imul)) <|
  jn_cons (⟨jn_iload_ok (i := 4) (by decide +kernel), jn_iload_mo 4⟩ : jn_GEm jn_G0 jn_me25 127 (.inl (jn_iload 4))) <|
  jn_cons (⟨jn_iadd_ok (by decide +kernel), jn_iadd_mo⟩ : jn_GEm jn_G0 jn_me25 129 (.inl jn_iadd)) <|
  jn_cons (⟨jn_lload_ok (i := 6) (by decide +kernel), jn_lload_mo 6⟩ : jn_GEm jn_G0 jn_me25 130 (.inl (jn_lload 6))) <|
  jn_cons (⟨jn_l2i_ok (by decide +kernel), jn_l2i_mo⟩ : jn_GEm jn_G0 jn_me25 132 (.inl jn_l2i)) <|
  jn_cons (⟨jn_iastore_ok (by decide +kernel), jn_iastore_mo⟩ : jn_GEm jn_G0 jn_me25 133 (.inl jn_iastore)) <|
  jn_cons (⟨jn_iinc_ok (i := 5) (n := 1) (by decide +kernel), jn_iinc_mo 5 1⟩ : jn_GEm jn_G0 jn_me25 134 (.inl (jn_iinc 5 1))) <|
  jn_cons (⟨jn_goto_ok (t := 51) (off := -86) (by decide +kernel) (by decide), jn_goto_mo 51⟩ : jn_GEm jn_G0 jn_me25 137 (.inl (jn_goto 51))) <|
  jn_cons (⟨jn_iinc_ok (i := 4) (n := 1) (by decide +kernel), jn_iinc_mo 4 1⟩ : jn_GEm jn_G0 jn_me25 140 (.inl (jn_iinc 4 1))) <|
  jn_cons (⟨jn_goto_ok (t := 38) (off := -105) (by decide +kernel) (by decide), jn_goto_mo 38⟩ : jn_GEm jn_G0 jn_me25 143 (.inl (jn_goto 38))) <|
  jn_cons (⟨(by decide +kernel), rfl⟩ : jn_GEm jn_G0 jn_me25 146 (.inr (.inr 0))) <| jn_nil
theorem jn_ok25 : jn_GM jn_G0 25 := jn_GM_of jn_G0_25 rfl rfl (by decide +kernel) (by decide) (jn_appd jn_o25_0 (jn_appd jn_o25_1 (jn_appd jn_o25_2 (jn_o25_3))))
theorem jn_o26_0 : ∀ q ∈ jn_c26_0, jn_GEm jn_G0 jn_me26 q.1 q.2 :=
  jn_cons (⟨jn_lconst_ok (n := 0) (v := 0) (by decide +kernel) (by decide), jn_lconst_mo 0⟩ : jn_GEm jn_G0 jn_me26 0 (.inl (jn_lconst 0))) <|
  jn_cons (⟨jn_lstore_n_ok (i := 3) (k := 3) (by decide +kernel) rfl, jn_lstore_n_mo 3⟩ : jn_GEm jn_G0 jn_me26 1 (.inl (jn_lstore_n 3))) <|
  jn_cons (⟨jn_iconst_ok (by decide +kernel), jn_iconst_mo 0⟩ : jn_GEm jn_G0 jn_me26 2 (.inl (jn_iconst 0))) <|
  jn_cons (⟨jn_istore_ok (i := 5) (by decide +kernel), jn_istore_mo 5⟩ : jn_GEm jn_G0 jn_me26 3 (.inl (jn_istore 5))) <|
  jn_cons (⟨jn_iload_ok (i := 5) (by decide +kernel), jn_iload_mo 5⟩ : jn_GEm jn_G0 jn_me26 5 (.inl (jn_iload 5))) <|
  jn_cons (⟨jn_aload_n_ok (i := 0) (k := 0) (by decide +kernel) rfl, jn_aload_n_mo 0⟩ : jn_GEm jn_G0 jn_me26 7 (.inl (jn_aload_n 0))) <|
  jn_cons (⟨jn_getf_ok (ci := 3) (k := 1) (i := 14) (N := 6) (C := RX3) (T := TX3) (by decide +kernel) rfl (by decide) jn_u3 (jn_in 118 (by decide +kernel) rfl), jn_getf_mo 3 1⟩ : jn_GEm jn_G0 jn_me26 8 (.inl (jn_getf 3 1))) <|
  jn_cons (⟨jn_getf_ok (ci := 2) (k := 1) (i := 49) (N := 3) (C := RX2) (T := TX2) (by decide +kernel) rfl (by decide) jn_u2 (jn_in 104 (by decide +kernel) rfl), jn_getf_mo 2 1⟩ : jn_GEm jn_G0 jn_me26 11 (.inl (jn_getf 2 1))) <|
  jn_cons (⟨jn_icge_ok (t := 45) (off := 31) (by decide +kernel) (by decide), jn_icge_mo 45⟩ : jn_GEm jn_G0 jn_me26 14 (.inl (jn_icge 45))) <|
  jn_cons (⟨jn_lload_n_ok (i := 3) (k := 3) (by decide +kernel) rfl, jn_lload_n_mo 3⟩ : jn_GEm jn_G0 jn_me26 17 (.inl (jn_lload_n 3))) <|
  jn_cons (⟨jn_aload_n_ok (i := 0) (k := 0) (by decide +kernel) rfl, jn_aload_n_mo 0⟩ : jn_GEm jn_G0 jn_me26 18 (.inl (jn_aload_n 0))) <|
  jn_cons (⟨jn_getf_ok (ci := 3) (k := 4) (i := 28) (N := 6) (C := RX3) (T := TX3) (by decide +kernel) rfl (by decide) jn_u3 (jn_in 121 (by decide +kernel) rfl), jn_getf_mo 3 4⟩ : jn_GEm jn_G0 jn_me26 19 (.inl (jn_getf 3 4))) <|
  jn_cons (⟨jn_iload_n_ok (i := 2) (k := 2) (by decide +kernel) rfl, jn_iload_n_mo 2⟩ : jn_GEm jn_G0 jn_me26 22 (.inl (jn_iload_n 2))) <|
  jn_cons (⟨jn_bipush_ok (n := 6) (v := 6) (by decide +kernel) (by decide), jn_bipush_mo 6⟩ : jn_GEm jn_G0 jn_me26 23 (.inl (jn_bipush 6))) <|
  jn_cons (⟨jn_imul_ok (by decide +kernel), jn_imul_mo⟩ : jn_GEm jn_G0 jn_me26 25 (.inl jn_imul)) <|
  jn_cons (⟨jn_iload_ok (i := 5) (by decide +kernel), jn_iload_mo 5⟩ : jn_GEm jn_G0 jn_me26 26 (.inl (jn_iload 5))) <|
  jn_cons (⟨jn_iadd_ok (by decide +kernel), jn_iadd_mo⟩ : jn_GEm jn_G0 jn_me26 28 (.inl jn_iadd)) <|
  jn_cons (⟨jn_iaload_ok (by decide +kernel), jn_iaload_mo⟩ : jn_GEm jn_G0 jn_me26 29 (.inl jn_iaload)) <|
  jn_cons (⟨jn_i2l_ok (by decide +kernel), jn_i2l_mo⟩ : jn_GEm jn_G0 jn_me26 30 (.inl jn_i2l)) <|
  jn_cons (⟨jn_aload_n_ok (i := 1) (k := 1) (by decide +kernel) rfl, jn_aload_n_mo 1⟩ : jn_GEm jn_G0 jn_me26 31 (.inl (jn_aload_n 1))) <|
  jn_cons (⟨jn_iload_ok (i := 5) (by decide +kernel), jn_iload_mo 5⟩ : jn_GEm jn_G0 jn_me26 32 (.inl (jn_iload 5))) <|
  jn_cons (⟨jn_iaload_ok (by decide +kernel), jn_iaload_mo⟩ : jn_GEm jn_G0 jn_me26 34 (.inl jn_iaload)) <|
  jn_cons (⟨jn_i2l_ok (by decide +kernel), jn_i2l_mo⟩ : jn_GEm jn_G0 jn_me26 35 (.inl jn_i2l)) <|
  jn_cons (⟨jn_lmul_ok (by decide +kernel), jn_lmul_mo⟩ : jn_GEm jn_G0 jn_me26 36 (.inl jn_lmul)) <| jn_nil
theorem jn_o26_1 : ∀ q ∈ jn_c26_1, jn_GEm jn_G0 jn_me26 q.1 q.2 :=
  jn_cons (⟨jn_ladd_ok (by decide +kernel), jn_ladd_mo⟩ : jn_GEm jn_G0 jn_me26 37 (.inl jn_ladd)) <|
  jn_cons (⟨jn_lstore_n_ok (i := 3) (k := 3) (by decide +kernel) rfl, jn_lstore_n_mo 3⟩ : jn_GEm jn_G0 jn_me26 38 (.inl (jn_lstore_n 3))) <|
  jn_cons (⟨jn_iinc_ok (i := 5) (n := 1) (by decide +kernel), jn_iinc_mo 5 1⟩ : jn_GEm jn_G0 jn_me26 39 (.inl (jn_iinc 5 1))) <|
  jn_cons (⟨jn_goto_ok (t := 5) (off := -37) (by decide +kernel) (by decide), jn_goto_mo 5⟩ : jn_GEm jn_G0 jn_me26 42 (.inl (jn_goto 5))) <|
  jn_cons (⟨jn_lload_n_ok (i := 3) (k := 3) (by decide +kernel) rfl, jn_lload_n_mo 3⟩ : jn_GEm jn_G0 jn_me26 45 (.inl (jn_lload_n 3))) <|
  jn_cons (⟨(by decide +kernel), rfl⟩ : jn_GEm jn_G0 jn_me26 46 (.inr (.inr 3))) <| jn_nil
theorem jn_ok26 : jn_GM jn_G0 26 := jn_GM_of jn_G0_26 rfl rfl (by decide +kernel) (by decide) (jn_appd jn_o26_0 (jn_o26_1))
theorem jn_o27_0 : ∀ q ∈ jn_c27_0, jn_GEm jn_G0 jn_me27 q.1 q.2 :=
  jn_cons (⟨jn_lconst_ok (n := 0) (v := 0) (by decide +kernel) (by decide), jn_lconst_mo 0⟩ : jn_GEm jn_G0 jn_me27 0 (.inl (jn_lconst 0))) <|
  jn_cons (⟨jn_lstore_n_ok (i := 2) (k := 2) (by decide +kernel) rfl, jn_lstore_n_mo 2⟩ : jn_GEm jn_G0 jn_me27 1 (.inl (jn_lstore_n 2))) <|
  jn_cons (⟨jn_iconst_ok (by decide +kernel), jn_iconst_mo 0⟩ : jn_GEm jn_G0 jn_me27 2 (.inl (jn_iconst 0))) <|
  jn_cons (⟨jn_istore_ok (i := 4) (by decide +kernel), jn_istore_mo 4⟩ : jn_GEm jn_G0 jn_me27 3 (.inl (jn_istore 4))) <|
  jn_cons (⟨jn_iload_ok (i := 4) (by decide +kernel), jn_iload_mo 4⟩ : jn_GEm jn_G0 jn_me27 5 (.inl (jn_iload 4))) <|
  jn_cons (⟨jn_aload_n_ok (i := 0) (k := 0) (by decide +kernel) rfl, jn_aload_n_mo 0⟩ : jn_GEm jn_G0 jn_me27 7 (.inl (jn_aload_n 0))) <|
  jn_cons (⟨jn_getf_ok (ci := 3) (k := 1) (i := 14) (N := 6) (C := RX3) (T := TX3) (by decide +kernel) rfl (by decide) jn_u3 (jn_in 118 (by decide +kernel) rfl), jn_getf_mo 3 1⟩ : jn_GEm jn_G0 jn_me27 8 (.inl (jn_getf 3 1))) <|
  jn_cons (⟨jn_getf_ok (ci := 2) (k := 1) (i := 49) (N := 3) (C := RX2) (T := TX2) (by decide +kernel) rfl (by decide) jn_u2 (jn_in 104 (by decide +kernel) rfl), jn_getf_mo 2 1⟩ : jn_GEm jn_G0 jn_me27 11 (.inl (jn_getf 2 1))) <|
  jn_cons (⟨jn_icge_ok (t := 78) (off := 64) (by decide +kernel) (by decide), jn_icge_mo 78⟩ : jn_GEm jn_G0 jn_me27 14 (.inl (jn_icge 78))) <|
  jn_cons (⟨jn_aload_n_ok (i := 0) (k := 0) (by decide +kernel) rfl, jn_aload_n_mo 0⟩ : jn_GEm jn_G0 jn_me27 17 (.inl (jn_aload_n 0))) <|
  jn_cons (⟨jn_aload_n_ok (i := 1) (k := 1) (by decide +kernel) rfl, jn_aload_n_mo 1⟩ : jn_GEm jn_G0 jn_me27 18 (.inl (jn_aload_n 1))) <|
  jn_cons (⟨jn_iload_ok (i := 4) (by decide +kernel), jn_iload_mo 4⟩ : jn_GEm jn_G0 jn_me27 19 (.inl (jn_iload 4))) <|
  jn_cons (jn_gc_of jn_G0_26 (jn_callV (i := 52) (na := 2) (ci := 3) (q := (RX3, TX3, 6)) (by decide +kernel) rfl (jn_in 388 (by decide +kernel) rfl) (jn_in 385 (by decide +kernel) rfl) (jn_in 387 (by decide +kernel) rfl) (jn_in 12 (by decide +kernel) rfl) (jn_in 56 (by decide +kernel) rfl) ⟨by decide, by decide, by decide +kernel⟩) : jn_GEm jn_G0 jn_me27 21 (.inr (.inl (26, 5, 3)))) <|
  jn_cons (⟨jn_lstore_ok (i := 5) (by decide +kernel), jn_lstore_mo 5⟩ : jn_GEm jn_G0 jn_me27 24 (.inl (jn_lstore 5))) <|
  jn_cons (⟨jn_aload_n_ok (i := 0) (k := 0) (by decide +kernel) rfl, jn_aload_n_mo 0⟩ : jn_GEm jn_G0 jn_me27 26 (.inl (jn_aload_n 0))) <|
  jn_cons (⟨jn_getf_ok (ci := 3) (k := 3) (i := 24) (N := 6) (C := RX3) (T := TX3) (by decide +kernel) rfl (by decide) jn_u3 (jn_in 120 (by decide +kernel) rfl), jn_getf_mo 3 3⟩ : jn_GEm jn_G0 jn_me27 27 (.inl (jn_getf 3 3))) <|
  jn_cons (⟨jn_lconst_ok (n := 0) (v := 0) (by decide +kernel) (by decide), jn_lconst_mo 0⟩ : jn_GEm jn_G0 jn_me27 30 (.inl (jn_lconst 0))) <|
  jn_cons (⟨jn_lcmp_ok (by decide +kernel), jn_lcmp_mo⟩ : jn_GEm jn_G0 jn_me27 31 (.inl jn_lcmp)) <|
  jn_cons (⟨jn_ifeq_ok (t := 47) (off := 15) (by decide +kernel) (by decide), jn_ifeq_mo 47⟩ : jn_GEm jn_G0 jn_me27 32 (.inl (jn_ifeq 47))) <|
  jn_cons (⟨jn_lload_ok (i := 5) (by decide +kernel), jn_lload_mo 5⟩ : jn_GEm jn_G0 jn_me27 35 (.inl (jn_lload 5))) <|
  jn_cons (⟨jn_aload_n_ok (i := 0) (k := 0) (by decide +kernel) rfl, jn_aload_n_mo 0⟩ : jn_GEm jn_G0 jn_me27 37 (.inl (jn_aload_n 0))) <|
  jn_cons (⟨jn_getf_ok (ci := 3) (k := 3) (i := 24) (N := 6) (C := RX3) (T := TX3) (by decide +kernel) rfl (by decide) jn_u3 (jn_in 120 (by decide +kernel) rfl), jn_getf_mo 3 3⟩ : jn_GEm jn_G0 jn_me27 38 (.inl (jn_getf 3 3))) <|
  jn_cons (⟨jn_lrem_ok (by decide +kernel), jn_lrem_mo⟩ : jn_GEm jn_G0 jn_me27 41 (.inl jn_lrem)) <|
  jn_cons (⟨jn_lconst_ok (n := 0) (v := 0) (by decide +kernel) (by decide), jn_lconst_mo 0⟩ : jn_GEm jn_G0 jn_me27 42 (.inl (jn_lconst 0))) <| jn_nil
theorem jn_o27_1 : ∀ q ∈ jn_c27_1, jn_GEm jn_G0 jn_me27 q.1 q.2 :=
  jn_cons (⟨jn_lcmp_ok (by decide +kernel), jn_lcmp_mo⟩ : jn_GEm jn_G0 jn_me27 43 (.inl jn_lcmp)) <|
  jn_cons (⟨jn_ifeq_ok (t := 49) (off := 5) (by decide +kernel) (by decide), jn_ifeq_mo 49⟩ : jn_GEm jn_G0 jn_me27 44 (.inl (jn_ifeq 49))) <|
  jn_cons (⟨jn_iconst_ok (by decide +kernel), jn_iconst_mo 0⟩ : jn_GEm jn_G0 jn_me27 47 (.inl (jn_iconst 0))) <|
  jn_cons (⟨(by decide +kernel), rfl⟩ : jn_GEm jn_G0 jn_me27 48 (.inr (.inr 2))) <|
  jn_cons (⟨jn_aload_n_ok (i := 0) (k := 0) (by decide +kernel) rfl, jn_aload_n_mo 0⟩ : jn_GEm jn_G0 jn_me27 49 (.inl (jn_aload_n 0))) <|
  jn_cons (⟨jn_getf_ok (ci := 3) (k := 5) (i := 32) (N := 6) (C := RX3) (T := TX3) (by decide +kernel) rfl (by decide) jn_u3 (jn_in 122 (by decide +kernel) rfl), jn_getf_mo 3 5⟩ : jn_GEm jn_G0 jn_me27 50 (.inl (jn_getf 3 5))) <|
  jn_cons (⟨jn_iload_ok (i := 4) (by decide +kernel), jn_iload_mo 4⟩ : jn_GEm jn_G0 jn_me27 53 (.inl (jn_iload 4))) <|
  jn_cons (⟨jn_lload_ok (i := 5) (by decide +kernel), jn_lload_mo 5⟩ : jn_GEm jn_G0 jn_me27 55 (.inl (jn_lload 5))) <|
  jn_cons (⟨jn_aload_n_ok (i := 0) (k := 0) (by decide +kernel) rfl, jn_aload_n_mo 0⟩ : jn_GEm jn_G0 jn_me27 57 (.inl (jn_aload_n 0))) <|
  jn_cons (⟨jn_getf_ok (ci := 3) (k := 3) (i := 24) (N := 6) (C := RX3) (T := TX3) (by decide +kernel) rfl (by decide) jn_u3 (jn_in 120 (by decide +kernel) rfl), jn_getf_mo 3 3⟩ : jn_GEm jn_G0 jn_me27 58 (.inl (jn_getf 3 3))) <|
  jn_cons (⟨jn_ldiv_ok (by decide +kernel), jn_ldiv_mo⟩ : jn_GEm jn_G0 jn_me27 61 (.inl jn_ldiv)) <|
  jn_cons (⟨jn_l2i_ok (by decide +kernel), jn_l2i_mo⟩ : jn_GEm jn_G0 jn_me27 62 (.inl jn_l2i)) <|
  jn_cons (⟨jn_iastore_ok (by decide +kernel), jn_iastore_mo⟩ : jn_GEm jn_G0 jn_me27 63 (.inl jn_iastore)) <|
  jn_cons (⟨jn_lload_n_ok (i := 2) (k := 2) (by decide +kernel) rfl, jn_lload_n_mo 2⟩ : jn_GEm jn_G0 jn_me27 64 (.inl (jn_lload_n 2))) <|
  jn_cons (⟨jn_aload_n_ok (i := 1) (k := 1) (by decide +kernel) rfl, jn_aload_n_mo 1⟩ : jn_GEm jn_G0 jn_me27 65 (.inl (jn_aload_n 1))) <|
  jn_cons (⟨jn_iload_ok (i := 4) (by decide +kernel), jn_iload_mo 4⟩ : jn_GEm jn_G0 jn_me27 66 (.inl (jn_iload 4))) <|
  jn_cons (⟨jn_iaload_ok (by decide +kernel), jn_iaload_mo⟩ : jn_GEm jn_G0 jn_me27 68 (.inl jn_iaload)) <|
  jn_cons (⟨jn_i2l_ok (by decide +kernel), jn_i2l_mo⟩ : jn_GEm jn_G0 jn_me27 69 (.inl jn_i2l)) <|
  jn_cons (⟨jn_ladd_ok (by decide +kernel), jn_ladd_mo⟩ : jn_GEm jn_G0 jn_me27 70 (.inl jn_ladd)) <|
  jn_cons (⟨jn_lstore_n_ok (i := 2) (k := 2) (by decide +kernel) rfl, jn_lstore_n_mo 2⟩ : jn_GEm jn_G0 jn_me27 71 (.inl (jn_lstore_n 2))) <|
  jn_cons (⟨jn_iinc_ok (i := 4) (n := 1) (by decide +kernel), jn_iinc_mo 4 1⟩ : jn_GEm jn_G0 jn_me27 72 (.inl (jn_iinc 4 1))) <|
  jn_cons (⟨jn_goto_ok (t := 5) (off := -70) (by decide +kernel) (by decide), jn_goto_mo 5⟩ : jn_GEm jn_G0 jn_me27 75 (.inl (jn_goto 5))) <|
  jn_cons (⟨jn_lload_n_ok (i := 2) (k := 2) (by decide +kernel) rfl, jn_lload_n_mo 2⟩ : jn_GEm jn_G0 jn_me27 78 (.inl (jn_lload_n 2))) <|
  jn_cons (⟨jn_lconst_ok (n := 0) (v := 0) (by decide +kernel) (by decide), jn_lconst_mo 0⟩ : jn_GEm jn_G0 jn_me27 79 (.inl (jn_lconst 0))) <| jn_nil
theorem jn_o27_2 : ∀ q ∈ jn_c27_2, jn_GEm jn_G0 jn_me27 q.1 q.2 :=
  jn_cons (⟨jn_lcmp_ok (by decide +kernel), jn_lcmp_mo⟩ : jn_GEm jn_G0 jn_me27 80 (.inl jn_lcmp)) <|
  jn_cons (⟨jn_ifne_ok (t := 88) (off := 7) (by decide +kernel) (by decide), jn_ifne_mo 88⟩ : jn_GEm jn_G0 jn_me27 81 (.inl (jn_ifne 88))) <|
  jn_cons (⟨jn_iconst_ok (by decide +kernel), jn_iconst_mo 1⟩ : jn_GEm jn_G0 jn_me27 84 (.inl (jn_iconst 1))) <|
  jn_cons (⟨jn_goto_ok (t := 89) (off := 4) (by decide +kernel) (by decide), jn_goto_mo 89⟩ : jn_GEm jn_G0 jn_me27 85 (.inl (jn_goto 89))) <|
  jn_cons (⟨jn_iconst_ok (by decide +kernel), jn_iconst_mo 0⟩ : jn_GEm jn_G0 jn_me27 88 (.inl (jn_iconst 0))) <|
  jn_cons (⟨(by decide +kernel), rfl⟩ : jn_GEm jn_G0 jn_me27 89 (.inr (.inr 2))) <| jn_nil
theorem jn_ok27 : jn_GM jn_G0 27 := jn_GM_of jn_G0_27 rfl rfl (by decide +kernel) (by decide) (jn_appd jn_o27_0 (jn_appd jn_o27_1 (jn_o27_2)))
theorem jn_o28_0 : ∀ q ∈ jn_c28_0, jn_GEm jn_G0 jn_me28 q.1 q.2 :=
  jn_cons (⟨jn_lconst_ok (n := 1) (v := 1) (by decide +kernel) (by decide), jn_lconst_mo 1⟩ : jn_GEm jn_G0 jn_me28 0 (.inl (jn_lconst 1))) <|
  jn_cons (⟨jn_lstore_n_ok (i := 2) (k := 2) (by decide +kernel) rfl, jn_lstore_n_mo 2⟩ : jn_GEm jn_G0 jn_me28 1 (.inl (jn_lstore_n 2))) <|
  jn_cons (⟨jn_iconst_ok (by decide +kernel), jn_iconst_mo 0⟩ : jn_GEm jn_G0 jn_me28 2 (.inl (jn_iconst 0))) <|
  jn_cons (⟨jn_istore_ok (i := 4) (by decide +kernel), jn_istore_mo 4⟩ : jn_GEm jn_G0 jn_me28 3 (.inl (jn_istore 4))) <|
  jn_cons (⟨jn_iload_ok (i := 4) (by decide +kernel), jn_iload_mo 4⟩ : jn_GEm jn_G0 jn_me28 5 (.inl (jn_iload 4))) <|
  jn_cons (⟨jn_aload_n_ok (i := 0) (k := 0) (by decide +kernel) rfl, jn_aload_n_mo 0⟩ : jn_GEm jn_G0 jn_me28 7 (.inl (jn_aload_n 0))) <|
  jn_cons (⟨jn_getf_ok (ci := 3) (k := 1) (i := 14) (N := 6) (C := RX3) (T := TX3) (by decide +kernel) rfl (by decide) jn_u3 (jn_in 118 (by decide +kernel) rfl), jn_getf_mo 3 1⟩ : jn_GEm jn_G0 jn_me28 8 (.inl (jn_getf 3 1))) <|
  jn_cons (⟨jn_getf_ok (ci := 2) (k := 1) (i := 49) (N := 3) (C := RX2) (T := TX2) (by decide +kernel) rfl (by decide) jn_u2 (jn_in 104 (by decide +kernel) rfl), jn_getf_mo 2 1⟩ : jn_GEm jn_G0 jn_me28 11 (.inl (jn_getf 2 1))) <|
  jn_cons (⟨jn_icge_ok (t := 86) (off := 72) (by decide +kernel) (by decide), jn_icge_mo 86⟩ : jn_GEm jn_G0 jn_me28 14 (.inl (jn_icge 86))) <|
  jn_cons (⟨jn_aload_n_ok (i := 0) (k := 0) (by decide +kernel) rfl, jn_aload_n_mo 0⟩ : jn_GEm jn_G0 jn_me28 17 (.inl (jn_aload_n 0))) <|
  jn_cons (⟨jn_getf_ok (ci := 3) (k := 3) (i := 24) (N := 6) (C := RX3) (T := TX3) (by decide +kernel) rfl (by decide) jn_u3 (jn_in 120 (by decide +kernel) rfl), jn_getf_mo 3 3⟩ : jn_GEm jn_G0 jn_me28 18 (.inl (jn_getf 3 3))) <|
  jn_cons (⟨jn_aload_n_ok (i := 0) (k := 0) (by decide +kernel) rfl, jn_aload_n_mo 0⟩ : jn_GEm jn_G0 jn_me28 21 (.inl (jn_aload_n 0))) <|
  jn_cons (⟨jn_aload_n_ok (i := 1) (k := 1) (by decide +kernel) rfl, jn_aload_n_mo 1⟩ : jn_GEm jn_G0 jn_me28 22 (.inl (jn_aload_n 1))) <|
  jn_cons (⟨jn_iload_ok (i := 4) (by decide +kernel), jn_iload_mo 4⟩ : jn_GEm jn_G0 jn_me28 23 (.inl (jn_iload 4))) <|
  jn_cons (jn_gc_of jn_G0_26 (jn_callV (i := 52) (na := 2) (ci := 3) (q := (RX3, TX3, 6)) (by decide +kernel) rfl (jn_in 388 (by decide +kernel) rfl) (jn_in 385 (by decide +kernel) rfl) (jn_in 387 (by decide +kernel) rfl) (jn_in 12 (by decide +kernel) rfl) (jn_in 56 (by decide +kernel) rfl) ⟨by decide, by decide, by decide +kernel⟩) : jn_GEm jn_G0 jn_me28 25 (.inr (.inl (26, 5, 3)))) <|
  jn_cons (jn_gc_of jn_G0_32 (jn_callS (i := 56) (na := 2) (by decide +kernel) (jn_in 346 (by decide +kernel) rfl) (jn_in 572 (by decide +kernel) rfl) (jn_in 345 (by decide +kernel) rfl) (jn_in 55 (by decide +kernel) rfl) ⟨by decide, by decide, by decide +kernel⟩) : jn_GEm jn_G0 jn_me28 28 (.inr (.inl (32, 0, 2)))) <|
  jn_cons (⟨jn_lstore_ok (i := 5) (by decide +kernel), jn_lstore_mo 5⟩ : jn_GEm jn_G0 jn_me28 31 (.inl (jn_lstore 5))) <|
  jn_cons (⟨jn_lload_ok (i := 5) (by decide +kernel), jn_lload_mo 5⟩ : jn_GEm jn_G0 jn_me28 33 (.inl (jn_lload 5))) <|
  jn_cons (⟨jn_lconst_ok (n := 0) (v := 0) (by decide +kernel) (by decide), jn_lconst_mo 0⟩ : jn_GEm jn_G0 jn_me28 35 (.inl (jn_lconst 0))) <|
  jn_cons (⟨jn_lcmp_ok (by decide +kernel), jn_lcmp_mo⟩ : jn_GEm jn_G0 jn_me28 36 (.inl jn_lcmp)) <|
  jn_cons (⟨jn_ifne_ok (t := 44) (off := 7) (by decide +kernel) (by decide), jn_ifne_mo 44⟩ : jn_GEm jn_G0 jn_me28 37 (.inl (jn_ifne 44))) <|
  jn_cons (⟨jn_lconst_ok (n := 1) (v := 1) (by decide +kernel) (by decide), jn_lconst_mo 1⟩ : jn_GEm jn_G0 jn_me28 40 (.inl (jn_lconst 1))) <|
  jn_cons (⟨jn_goto_ok (t := 51) (off := 10) (by decide +kernel) (by decide), jn_goto_mo 51⟩ : jn_GEm jn_G0 jn_me28 41 (.inl (jn_goto 51))) <|
  jn_cons (⟨jn_aload_n_ok (i := 0) (k := 0) (by decide +kernel) rfl, jn_aload_n_mo 0⟩ : jn_GEm jn_G0 jn_me28 44 (.inl (jn_aload_n 0))) <| jn_nil
theorem jn_o28_1 : ∀ q ∈ jn_c28_1, jn_GEm jn_G0 jn_me28 q.1 q.2 :=
  jn_cons (⟨jn_getf_ok (ci := 3) (k := 3) (i := 24) (N := 6) (C := RX3) (T := TX3) (by decide +kernel) rfl (by decide) jn_u3 (jn_in 120 (by decide +kernel) rfl), jn_getf_mo 3 3⟩ : jn_GEm jn_G0 jn_me28 45 (.inl (jn_getf 3 3))) <|
  jn_cons (⟨jn_lload_ok (i := 5) (by decide +kernel), jn_lload_mo 5⟩ : jn_GEm jn_G0 jn_me28 48 (.inl (jn_lload 5))) <|
  jn_cons (⟨jn_ldiv_ok (by decide +kernel), jn_ldiv_mo⟩ : jn_GEm jn_G0 jn_me28 50 (.inl jn_ldiv)) <|
  jn_cons (⟨jn_lstore_ok (i := 7) (by decide +kernel), jn_lstore_mo 7⟩ : jn_GEm jn_G0 jn_me28 51 (.inl (jn_lstore 7))) <|
  jn_cons (⟨jn_lload_n_ok (i := 2) (k := 2) (by decide +kernel) rfl, jn_lload_n_mo 2⟩ : jn_GEm jn_G0 jn_me28 53 (.inl (jn_lload_n 2))) <|
  jn_cons (⟨jn_lload_ok (i := 7) (by decide +kernel), jn_lload_mo 7⟩ : jn_GEm jn_G0 jn_me28 54 (.inl (jn_lload 7))) <|
  jn_cons (jn_gc_of jn_G0_32 (jn_callS (i := 56) (na := 2) (by decide +kernel) (jn_in 346 (by decide +kernel) rfl) (jn_in 572 (by decide +kernel) rfl) (jn_in 345 (by decide +kernel) rfl) (jn_in 55 (by decide +kernel) rfl) ⟨by decide, by decide, by decide +kernel⟩) : jn_GEm jn_G0 jn_me28 56 (.inr (.inl (32, 0, 2)))) <|
  jn_cons (⟨jn_lstore_ok (i := 9) (by decide +kernel), jn_lstore_mo 9⟩ : jn_GEm jn_G0 jn_me28 59 (.inl (jn_lstore 9))) <|
  jn_cons (⟨jn_lload_ok (i := 9) (by decide +kernel), jn_lload_mo 9⟩ : jn_GEm jn_G0 jn_me28 61 (.inl (jn_lload 9))) <|
  jn_cons (⟨jn_lconst_ok (n := 0) (v := 0) (by decide +kernel) (by decide), jn_lconst_mo 0⟩ : jn_GEm jn_G0 jn_me28 63 (.inl (jn_lconst 0))) <|
  jn_cons (⟨jn_lcmp_ok (by decide +kernel), jn_lcmp_mo⟩ : jn_GEm jn_G0 jn_me28 64 (.inl jn_lcmp)) <|
  jn_cons (⟨jn_ifne_ok (t := 72) (off := 7) (by decide +kernel) (by decide), jn_ifne_mo 72⟩ : jn_GEm jn_G0 jn_me28 65 (.inl (jn_ifne 72))) <|
  jn_cons (⟨jn_lload_n_ok (i := 2) (k := 2) (by decide +kernel) rfl, jn_lload_n_mo 2⟩ : jn_GEm jn_G0 jn_me28 68 (.inl (jn_lload_n 2))) <|
  jn_cons (⟨jn_goto_ok (t := 79) (off := 10) (by decide +kernel) (by decide), jn_goto_mo 79⟩ : jn_GEm jn_G0 jn_me28 69 (.inl (jn_goto 79))) <|
  jn_cons (⟨jn_lload_n_ok (i := 2) (k := 2) (by decide +kernel) rfl, jn_lload_n_mo 2⟩ : jn_GEm jn_G0 jn_me28 72 (.inl (jn_lload_n 2))) <|
  jn_cons (⟨jn_lload_ok (i := 9) (by decide +kernel), jn_lload_mo 9⟩ : jn_GEm jn_G0 jn_me28 73 (.inl (jn_lload 9))) <|
  jn_cons (⟨jn_ldiv_ok (by decide +kernel), jn_ldiv_mo⟩ : jn_GEm jn_G0 jn_me28 75 (.inl jn_ldiv)) <|
  jn_cons (⟨jn_lload_ok (i := 7) (by decide +kernel), jn_lload_mo 7⟩ : jn_GEm jn_G0 jn_me28 76 (.inl (jn_lload 7))) <|
  jn_cons (⟨jn_lmul_ok (by decide +kernel), jn_lmul_mo⟩ : jn_GEm jn_G0 jn_me28 78 (.inl jn_lmul)) <|
  jn_cons (⟨jn_lstore_n_ok (i := 2) (k := 2) (by decide +kernel) rfl, jn_lstore_n_mo 2⟩ : jn_GEm jn_G0 jn_me28 79 (.inl (jn_lstore_n 2))) <|
  jn_cons (⟨jn_iinc_ok (i := 4) (n := 1) (by decide +kernel), jn_iinc_mo 4 1⟩ : jn_GEm jn_G0 jn_me28 80 (.inl (jn_iinc 4 1))) <|
  jn_cons (⟨jn_goto_ok (t := 5) (off := -78) (by decide +kernel) (by decide), jn_goto_mo 5⟩ : jn_GEm jn_G0 jn_me28 83 (.inl (jn_goto 5))) <|
  jn_cons (⟨jn_lload_n_ok (i := 2) (k := 2) (by decide +kernel) rfl, jn_lload_n_mo 2⟩ : jn_GEm jn_G0 jn_me28 86 (.inl (jn_lload_n 2))) <|
  jn_cons (⟨(by decide +kernel), rfl⟩ : jn_GEm jn_G0 jn_me28 87 (.inr (.inr 3))) <| jn_nil
theorem jn_ok28 : jn_GM jn_G0 28 := jn_GM_of jn_G0_28 rfl rfl (by decide +kernel) (by decide) (jn_appd jn_o28_0 (jn_o28_1))
theorem jn_o29_0 : ∀ q ∈ jn_c29_0, jn_GEm jn_G0 jn_me29 q.1 q.2 :=
  jn_cons (⟨jn_iconst_ok (by decide +kernel), jn_iconst_mo 0⟩ : jn_GEm jn_G0 jn_me29 0 (.inl (jn_iconst 0))) <|
  jn_cons (⟨jn_istore_n_ok (i := 2) (k := 2) (by decide +kernel) rfl, jn_istore_n_mo 2⟩ : jn_GEm jn_G0 jn_me29 1 (.inl (jn_istore_n 2))) <|
  jn_cons (⟨jn_iload_n_ok (i := 2) (k := 2) (by decide +kernel) rfl, jn_iload_n_mo 2⟩ : jn_GEm jn_G0 jn_me29 2 (.inl (jn_iload_n 2))) <|
  jn_cons (⟨jn_aload_n_ok (i := 0) (k := 0) (by decide +kernel) rfl, jn_aload_n_mo 0⟩ : jn_GEm jn_G0 jn_me29 3 (.inl (jn_aload_n 0))) <|
  jn_cons (⟨jn_getf_ok (ci := 3) (k := 1) (i := 14) (N := 6) (C := RX3) (T := TX3) (by decide +kernel) rfl (by decide) jn_u3 (jn_in 118 (by decide +kernel) rfl), jn_getf_mo 3 1⟩ : jn_GEm jn_G0 jn_me29 4 (.inl (jn_getf 3 1))) <|
  jn_cons (⟨jn_getf_ok (ci := 2) (k := 1) (i := 49) (N := 3) (C := RX2) (T := TX2) (by decide +kernel) rfl (by decide) jn_u2 (jn_in 104 (by decide +kernel) rfl), jn_getf_mo 2 1⟩ : jn_GEm jn_G0 jn_me29 7 (.inl (jn_getf 2 1))) <|
  jn_cons (⟨jn_icge_ok (t := 48) (off := 38) (by decide +kernel) (by decide), jn_icge_mo 48⟩ : jn_GEm jn_G0 jn_me29 10 (.inl (jn_icge 48))) <|
  jn_cons (⟨jn_aload_n_ok (i := 0) (k := 0) (by decide +kernel) rfl, jn_aload_n_mo 0⟩ : jn_GEm jn_G0 jn_me29 13 (.inl (jn_aload_n 0))) <|
  jn_cons (⟨jn_getf_ok (ci := 3) (k := 3) (i := 24) (N := 6) (C := RX3) (T := TX3) (by decide +kernel) rfl (by decide) jn_u3 (jn_in 120 (by decide +kernel) rfl), jn_getf_mo 3 3⟩ : jn_GEm jn_G0 jn_me29 14 (.inl (jn_getf 3 3))) <|
  jn_cons (⟨jn_lconst_ok (n := 0) (v := 0) (by decide +kernel) (by decide), jn_lconst_mo 0⟩ : jn_GEm jn_G0 jn_me29 17 (.inl (jn_lconst 0))) <|
  jn_cons (⟨jn_lcmp_ok (by decide +kernel), jn_lcmp_mo⟩ : jn_GEm jn_G0 jn_me29 18 (.inl jn_lcmp)) <|
  jn_cons (⟨jn_ifeq_ok (t := 48) (off := 29) (by decide +kernel) (by decide), jn_ifeq_mo 48⟩ : jn_GEm jn_G0 jn_me29 19 (.inl (jn_ifeq 48))) <|
  jn_cons (⟨jn_aload_n_ok (i := 0) (k := 0) (by decide +kernel) rfl, jn_aload_n_mo 0⟩ : jn_GEm jn_G0 jn_me29 22 (.inl (jn_aload_n 0))) <|
  jn_cons (⟨jn_getf_ok (ci := 3) (k := 5) (i := 32) (N := 6) (C := RX3) (T := TX3) (by decide +kernel) rfl (by decide) jn_u3 (jn_in 122 (by decide +kernel) rfl), jn_getf_mo 3 5⟩ : jn_GEm jn_G0 jn_me29 23 (.inl (jn_getf 3 5))) <|
  jn_cons (⟨jn_iload_n_ok (i := 2) (k := 2) (by decide +kernel) rfl, jn_iload_n_mo 2⟩ : jn_GEm jn_G0 jn_me29 26 (.inl (jn_iload_n 2))) <|
  jn_cons (⟨jn_aload_n_ok (i := 0) (k := 0) (by decide +kernel) rfl, jn_aload_n_mo 0⟩ : jn_GEm jn_G0 jn_me29 27 (.inl (jn_aload_n 0))) <|
  jn_cons (⟨jn_aload_n_ok (i := 1) (k := 1) (by decide +kernel) rfl, jn_aload_n_mo 1⟩ : jn_GEm jn_G0 jn_me29 28 (.inl (jn_aload_n 1))) <|
  jn_cons (⟨jn_iload_n_ok (i := 2) (k := 2) (by decide +kernel) rfl, jn_iload_n_mo 2⟩ : jn_GEm jn_G0 jn_me29 29 (.inl (jn_iload_n 2))) <|
  jn_cons (jn_gc_of jn_G0_26 (jn_callV (i := 52) (na := 2) (ci := 3) (q := (RX3, TX3, 6)) (by decide +kernel) rfl (jn_in 388 (by decide +kernel) rfl) (jn_in 385 (by decide +kernel) rfl) (jn_in 387 (by decide +kernel) rfl) (jn_in 12 (by decide +kernel) rfl) (jn_in 56 (by decide +kernel) rfl) ⟨by decide, by decide, by decide +kernel⟩) : jn_GEm jn_G0 jn_me29 30 (.inr (.inl (26, 5, 3)))) <|
  jn_cons (⟨jn_aload_n_ok (i := 0) (k := 0) (by decide +kernel) rfl, jn_aload_n_mo 0⟩ : jn_GEm jn_G0 jn_me29 33 (.inl (jn_aload_n 0))) <|
  jn_cons (⟨jn_getf_ok (ci := 3) (k := 3) (i := 24) (N := 6) (C := RX3) (T := TX3) (by decide +kernel) rfl (by decide) jn_u3 (jn_in 120 (by decide +kernel) rfl), jn_getf_mo 3 3⟩ : jn_GEm jn_G0 jn_me29 34 (.inl (jn_getf 3 3))) <|
  jn_cons (jn_gc_of jn_G0_168 (jn_callS (i := 60) (na := 2) (by decide +kernel) (jn_in 391 (by decide +kernel) rfl) (jn_in 389 (by decide +kernel) rfl) (jn_in 390 (by decide +kernel) rfl) (jn_in 61 (by decide +kernel) rfl) ⟨by decide, by decide, by decide +kernel⟩) : jn_GEm jn_G0 jn_me29 37 (.inr (.inl (168, 0, 2)))) <|
  jn_cons (⟨jn_l2i_ok (by decide +kernel), jn_l2i_mo⟩ : jn_GEm jn_G0 jn_me29 40 (.inl jn_l2i)) <|
  jn_cons (⟨jn_iastore_ok (by decide +kernel), jn_iastore_mo⟩ : jn_GEm jn_G0 jn_me29 41 (.inl jn_iastore)) <| jn_nil
theorem jn_o29_1 : ∀ q ∈ jn_c29_1, jn_GEm jn_G0 jn_me29 q.1 q.2 :=
  jn_cons (⟨jn_iinc_ok (i := 2) (n := 1) (by decide +kernel), jn_iinc_mo 2 1⟩ : jn_GEm jn_G0 jn_me29 42 (.inl (jn_iinc 2 1))) <|
  jn_cons (⟨jn_goto_ok (t := 2) (off := -43) (by decide +kernel) (by decide), jn_goto_mo 2⟩ : jn_GEm jn_G0 jn_me29 45 (.inl (jn_goto 2))) <|
  jn_cons (⟨jn_iconst_ok (by decide +kernel), jn_iconst_mo 0⟩ : jn_GEm jn_G0 jn_me29 48 (.inl (jn_iconst 0))) <|
  jn_cons (⟨jn_istore_n_ok (i := 2) (k := 2) (by decide +kernel) rfl, jn_istore_n_mo 2⟩ : jn_GEm jn_G0 jn_me29 49 (.inl (jn_istore_n 2))) <|
  jn_cons (⟨jn_iload_n_ok (i := 2) (k := 2) (by decide +kernel) rfl, jn_iload_n_mo 2⟩ : jn_GEm jn_G0 jn_me29 50 (.inl (jn_iload_n 2))) <|
  jn_cons (⟨jn_aload_n_ok (i := 0) (k := 0) (by decide +kernel) rfl, jn_aload_n_mo 0⟩ : jn_GEm jn_G0 jn_me29 51 (.inl (jn_aload_n 0))) <|
  jn_cons (⟨jn_getf_ok (ci := 3) (k := 1) (i := 14) (N := 6) (C := RX3) (T := TX3) (by decide +kernel) rfl (by decide) jn_u3 (jn_in 118 (by decide +kernel) rfl), jn_getf_mo 3 1⟩ : jn_GEm jn_G0 jn_me29 52 (.inl (jn_getf 3 1))) <|
  jn_cons (⟨jn_getf_ok (ci := 2) (k := 1) (i := 49) (N := 3) (C := RX2) (T := TX2) (by decide +kernel) rfl (by decide) jn_u2 (jn_in 104 (by decide +kernel) rfl), jn_getf_mo 2 1⟩ : jn_GEm jn_G0 jn_me29 55 (.inl (jn_getf 2 1))) <|
  jn_cons (⟨jn_icge_ok (t := 82) (off := 24) (by decide +kernel) (by decide), jn_icge_mo 82⟩ : jn_GEm jn_G0 jn_me29 58 (.inl (jn_icge 82))) <|
  jn_cons (⟨jn_aload_n_ok (i := 0) (k := 0) (by decide +kernel) rfl, jn_aload_n_mo 0⟩ : jn_GEm jn_G0 jn_me29 61 (.inl (jn_aload_n 0))) <|
  jn_cons (⟨jn_getf_ok (ci := 3) (k := 1) (i := 14) (N := 6) (C := RX3) (T := TX3) (by decide +kernel) rfl (by decide) jn_u3 (jn_in 118 (by decide +kernel) rfl), jn_getf_mo 3 1⟩ : jn_GEm jn_G0 jn_me29 62 (.inl (jn_getf 3 1))) <|
  jn_cons (⟨jn_aload_n_ok (i := 1) (k := 1) (by decide +kernel) rfl, jn_aload_n_mo 1⟩ : jn_GEm jn_G0 jn_me29 65 (.inl (jn_aload_n 1))) <|
  jn_cons (⟨jn_iload_n_ok (i := 2) (k := 2) (by decide +kernel) rfl, jn_iload_n_mo 2⟩ : jn_GEm jn_G0 jn_me29 66 (.inl (jn_iload_n 2))) <|
  jn_cons (⟨jn_aload_n_ok (i := 0) (k := 0) (by decide +kernel) rfl, jn_aload_n_mo 0⟩ : jn_GEm jn_G0 jn_me29 67 (.inl (jn_aload_n 0))) <|
  jn_cons (⟨jn_getf_ok (ci := 3) (k := 5) (i := 32) (N := 6) (C := RX3) (T := TX3) (by decide +kernel) rfl (by decide) jn_u3 (jn_in 122 (by decide +kernel) rfl), jn_getf_mo 3 5⟩ : jn_GEm jn_G0 jn_me29 68 (.inl (jn_getf 3 5))) <|
  jn_cons (⟨jn_iload_n_ok (i := 2) (k := 2) (by decide +kernel) rfl, jn_iload_n_mo 2⟩ : jn_GEm jn_G0 jn_me29 71 (.inl (jn_iload_n 2))) <|
  jn_cons (⟨jn_iaload_ok (by decide +kernel), jn_iaload_mo⟩ : jn_GEm jn_G0 jn_me29 72 (.inl jn_iaload)) <|
  jn_cons (jn_gc_of jn_G0_23 (jn_callV (i := 65) (na := 3) (ci := 2) (q := (RX2, TX2, 3)) (by decide +kernel) rfl (jn_in 395 (by decide +kernel) rfl) (jn_in 392 (by decide +kernel) rfl) (jn_in 393 (by decide +kernel) rfl) (jn_in 394 (by decide +kernel) rfl) (jn_in 57 (by decide +kernel) rfl) ⟨by decide, by decide, by decide +kernel⟩) : jn_GEm jn_G0 jn_me29 73 (.inr (.inl (23, 4, 4)))) <|
  jn_cons (⟨jn_iinc_ok (i := 2) (n := 1) (by decide +kernel), jn_iinc_mo 2 1⟩ : jn_GEm jn_G0 jn_me29 76 (.inl (jn_iinc 2 1))) <|
  jn_cons (⟨jn_goto_ok (t := 50) (off := -29) (by decide +kernel) (by decide), jn_goto_mo 50⟩ : jn_GEm jn_G0 jn_me29 79 (.inl (jn_goto 50))) <|
  jn_cons (⟨jn_iconst_ok (by decide +kernel), jn_iconst_mo 1⟩ : jn_GEm jn_G0 jn_me29 82 (.inl (jn_iconst 1))) <|
  jn_cons (⟨jn_istore_n_ok (i := 2) (k := 2) (by decide +kernel) rfl, jn_istore_n_mo 2⟩ : jn_GEm jn_G0 jn_me29 83 (.inl (jn_istore_n 2))) <|
  jn_cons (⟨jn_iconst_ok (by decide +kernel), jn_iconst_mo 0⟩ : jn_GEm jn_G0 jn_me29 84 (.inl (jn_iconst 0))) <|
  jn_cons (⟨jn_istore_n_ok (i := 3) (k := 3) (by decide +kernel) rfl, jn_istore_n_mo 3⟩ : jn_GEm jn_G0 jn_me29 85 (.inl (jn_istore_n 3))) <| jn_nil
theorem jn_o29_2 : ∀ q ∈ jn_c29_2, jn_GEm jn_G0 jn_me29 q.1 q.2 :=
  jn_cons (⟨jn_iload_n_ok (i := 3) (k := 3) (by decide +kernel) rfl, jn_iload_n_mo 3⟩ : jn_GEm jn_G0 jn_me29 86 (.inl (jn_iload_n 3))) <|
  jn_cons (⟨jn_ldc_ok (i := 69) (v := 1000000) (by decide +kernel) (jn_in 397 (by decide +kernel) rfl), jn_ldc_mo 1000000⟩ : jn_GEm jn_G0 jn_me29 87 (.inl (jn_ldc 1000000))) <|
  jn_cons (⟨jn_icge_ok (t := 108) (off := 19) (by decide +kernel) (by decide), jn_icge_mo 108⟩ : jn_GEm jn_G0 jn_me29 89 (.inl (jn_icge 108))) <|
  jn_cons (⟨jn_iload_n_ok (i := 2) (k := 2) (by decide +kernel) rfl, jn_iload_n_mo 2⟩ : jn_GEm jn_G0 jn_me29 92 (.inl (jn_iload_n 2))) <|
  jn_cons (⟨jn_ifeq_ok (t := 108) (off := 15) (by decide +kernel) (by decide), jn_ifeq_mo 108⟩ : jn_GEm jn_G0 jn_me29 93 (.inl (jn_ifeq 108))) <|
  jn_cons (⟨jn_aload_n_ok (i := 0) (k := 0) (by decide +kernel) rfl, jn_aload_n_mo 0⟩ : jn_GEm jn_G0 jn_me29 96 (.inl (jn_aload_n 0))) <|
  jn_cons (⟨jn_aload_n_ok (i := 1) (k := 1) (by decide +kernel) rfl, jn_aload_n_mo 1⟩ : jn_GEm jn_G0 jn_me29 97 (.inl (jn_aload_n 1))) <|
  jn_cons (jn_gc_of jn_G0_30 (jn_callV (i := 70) (na := 1) (ci := 3) (q := (RX3, TX3, 6)) (by decide +kernel) rfl (jn_in 401 (by decide +kernel) rfl) (jn_in 398 (by decide +kernel) rfl) (jn_in 400 (by decide +kernel) rfl) (jn_in 13 (by decide +kernel) rfl) (jn_in 56 (by decide +kernel) rfl) ⟨by decide, by decide, by decide +kernel⟩) : jn_GEm jn_G0 jn_me29 98 (.inr (.inl (30, 5, 2)))) <|
  jn_cons (⟨jn_istore_n_ok (i := 2) (k := 2) (by decide +kernel) rfl, jn_istore_n_mo 2⟩ : jn_GEm jn_G0 jn_me29 101 (.inl (jn_istore_n 2))) <|
  jn_cons (⟨jn_iinc_ok (i := 3) (n := 1) (by decide +kernel), jn_iinc_mo 3 1⟩ : jn_GEm jn_G0 jn_me29 102 (.inl (jn_iinc 3 1))) <|
  jn_cons (⟨jn_goto_ok (t := 86) (off := -19) (by decide +kernel) (by decide), jn_goto_mo 86⟩ : jn_GEm jn_G0 jn_me29 105 (.inl (jn_goto 86))) <|
  jn_cons (⟨(by decide +kernel), rfl⟩ : jn_GEm jn_G0 jn_me29 108 (.inr (.inr 0))) <| jn_nil
theorem jn_ok29 : jn_GM jn_G0 29 := jn_GM_of jn_G0_29 rfl rfl (by decide +kernel) (by decide) (jn_appd jn_o29_0 (jn_appd jn_o29_1 (jn_o29_2)))
theorem jn_o30_0 : ∀ q ∈ jn_c30_0, jn_GEm jn_G0 jn_me30 q.1 q.2 :=
  jn_cons (⟨jn_iconst_ok (by decide +kernel), jn_iconst_mo 0⟩ : jn_GEm jn_G0 jn_me30 0 (.inl (jn_iconst 0))) <|
  jn_cons (⟨jn_istore_n_ok (i := 2) (k := 2) (by decide +kernel) rfl, jn_istore_n_mo 2⟩ : jn_GEm jn_G0 jn_me30 1 (.inl (jn_istore_n 2))) <|
  jn_cons (⟨jn_iconst_ok (by decide +kernel), jn_iconst_mo 0⟩ : jn_GEm jn_G0 jn_me30 2 (.inl (jn_iconst 0))) <|
  jn_cons (⟨jn_istore_n_ok (i := 3) (k := 3) (by decide +kernel) rfl, jn_istore_n_mo 3⟩ : jn_GEm jn_G0 jn_me30 3 (.inl (jn_istore_n 3))) <|
  jn_cons (⟨jn_iload_n_ok (i := 3) (k := 3) (by decide +kernel) rfl, jn_iload_n_mo 3⟩ : jn_GEm jn_G0 jn_me30 4 (.inl (jn_iload_n 3))) <|
  jn_cons (⟨jn_aload_n_ok (i := 0) (k := 0) (by decide +kernel) rfl, jn_aload_n_mo 0⟩ : jn_GEm jn_G0 jn_me30 5 (.inl (jn_aload_n 0))) <|
  jn_cons (⟨jn_getf_ok (ci := 3) (k := 1) (i := 14) (N := 6) (C := RX3) (T := TX3) (by decide +kernel) rfl (by decide) jn_u3 (jn_in 118 (by decide +kernel) rfl), jn_getf_mo 3 1⟩ : jn_GEm jn_G0 jn_me30 6 (.inl (jn_getf 3 1))) <|
  jn_cons (⟨jn_getf_ok (ci := 2) (k := 1) (i := 49) (N := 3) (C := RX2) (T := TX2) (by decide +kernel) rfl (by decide) jn_u2 (jn_in 104 (by decide +kernel) rfl), jn_getf_mo 2 1⟩ : jn_GEm jn_G0 jn_me30 9 (.inl (jn_getf 2 1))) <|
  jn_cons (⟨jn_icge_ok (t := 69) (off := 57) (by decide +kernel) (by decide), jn_icge_mo 69⟩ : jn_GEm jn_G0 jn_me30 12 (.inl (jn_icge 69))) <|
  jn_cons (⟨jn_aload_n_ok (i := 0) (k := 0) (by decide +kernel) rfl, jn_aload_n_mo 0⟩ : jn_GEm jn_G0 jn_me30 15 (.inl (jn_aload_n 0))) <|
  jn_cons (⟨jn_getf_ok (ci := 3) (k := 1) (i := 14) (N := 6) (C := RX3) (T := TX3) (by decide +kernel) rfl (by decide) jn_u3 (jn_in 118 (by decide +kernel) rfl), jn_getf_mo 3 1⟩ : jn_GEm jn_G0 jn_me30 16 (.inl (jn_getf 3 1))) <|
  jn_cons (⟨jn_iload_n_ok (i := 3) (k := 3) (by decide +kernel) rfl, jn_iload_n_mo 3⟩ : jn_GEm jn_G0 jn_me30 19 (.inl (jn_iload_n 3))) <|
  jn_cons (jn_gc_of jn_G0_16 (jn_callV (i := 74) (na := 1) (ci := 2) (q := (RX2, TX2, 3)) (by decide +kernel) rfl (jn_in 271 (by decide +kernel) rfl) (jn_in 402 (by decide +kernel) rfl) (jn_in 269 (by decide +kernel) rfl) (jn_in 270 (by decide +kernel) rfl) (jn_in 57 (by decide +kernel) rfl) ⟨by decide, by decide, by decide +kernel⟩) : jn_GEm jn_G0 jn_me30 20 (.inr (.inl (16, 4, 2)))) <|
  jn_cons (⟨jn_istore_ok (i := 4) (by decide +kernel), jn_istore_mo 4⟩ : jn_GEm jn_G0 jn_me30 23 (.inl (jn_istore 4))) <|
  jn_cons (⟨jn_iload_n_ok (i := 3) (k := 3) (by decide +kernel) rfl, jn_iload_n_mo 3⟩ : jn_GEm jn_G0 jn_me30 25 (.inl (jn_iload_n 3))) <|
  jn_cons (⟨jn_aload_n_ok (i := 0) (k := 0) (by decide +kernel) rfl, jn_aload_n_mo 0⟩ : jn_GEm jn_G0 jn_me30 26 (.inl (jn_aload_n 0))) <|
  jn_cons (⟨jn_getf_ok (ci := 3) (k := 2) (i := 20) (N := 6) (C := RX3) (T := TX3) (by decide +kernel) rfl (by decide) jn_u3 (jn_in 119 (by decide +kernel) rfl), jn_getf_mo 3 2⟩ : jn_GEm jn_G0 jn_me30 27 (.inl (jn_getf 3 2))) <|
  jn_cons (⟨jn_iceq_ok (t := 63) (off := 33) (by decide +kernel) (by decide), jn_iceq_mo 63⟩ : jn_GEm jn_G0 jn_me30 30 (.inl (jn_iceq 63))) <|
  jn_cons (⟨jn_aload_n_ok (i := 1) (k := 1) (by decide +kernel) rfl, jn_aload_n_mo 1⟩ : jn_GEm jn_G0 jn_me30 33 (.inl (jn_aload_n 1))) <|
  jn_cons (⟨jn_iload_n_ok (i := 3) (k := 3) (by decide +kernel) rfl, jn_iload_n_mo 3⟩ : jn_GEm jn_G0 jn_me30 34 (.inl (jn_iload_n 3))) <|
  jn_cons (⟨jn_iaload_ok (by decide +kernel), jn_iaload_mo⟩ : jn_GEm jn_G0 jn_me30 35 (.inl jn_iaload)) <|
  jn_cons (⟨jn_ifge_ok (t := 63) (off := 27) (by decide +kernel) (by decide), jn_ifge_mo 63⟩ : jn_GEm jn_G0 jn_me30 36 (.inl (jn_ifge 63))) <|
  jn_cons (⟨jn_iload_ok (i := 4) (by decide +kernel), jn_iload_mo 4⟩ : jn_GEm jn_G0 jn_me30 39 (.inl (jn_iload 4))) <|
  jn_cons (⟨jn_ifle_ok (t := 63) (off := 22) (by decide +kernel) (by decide), jn_ifle_mo 63⟩ : jn_GEm jn_G0 jn_me30 41 (.inl (jn_ifle 63))) <| jn_nil
theorem jn_o30_1 : ∀ q ∈ jn_c30_1, jn_GEm jn_G0 jn_me30 q.1 q.2 :=
  jn_cons (⟨jn_aload_n_ok (i := 0) (k := 0) (by decide +kernel) rfl, jn_aload_n_mo 0⟩ : jn_GEm jn_G0 jn_me30 44 (.inl (jn_aload_n 0))) <|
  jn_cons (⟨jn_getf_ok (ci := 3) (k := 1) (i := 14) (N := 6) (C := RX3) (T := TX3) (by decide +kernel) rfl (by decide) jn_u3 (jn_in 118 (by decide +kernel) rfl), jn_getf_mo 3 1⟩ : jn_GEm jn_G0 jn_me30 45 (.inl (jn_getf 3 1))) <|
  jn_cons (⟨jn_aload_n_ok (i := 1) (k := 1) (by decide +kernel) rfl, jn_aload_n_mo 1⟩ : jn_GEm jn_G0 jn_me30 48 (.inl (jn_aload_n 1))) <|
  jn_cons (⟨jn_iload_n_ok (i := 3) (k := 3) (by decide +kernel) rfl, jn_iload_n_mo 3⟩ : jn_GEm jn_G0 jn_me30 49 (.inl (jn_iload_n 3))) <|
  jn_cons (⟨jn_aload_n_ok (i := 1) (k := 1) (by decide +kernel) rfl, jn_aload_n_mo 1⟩ : jn_GEm jn_G0 jn_me30 50 (.inl (jn_aload_n 1))) <|
  jn_cons (⟨jn_iload_n_ok (i := 3) (k := 3) (by decide +kernel) rfl, jn_iload_n_mo 3⟩ : jn_GEm jn_G0 jn_me30 51 (.inl (jn_iload_n 3))) <|
  jn_cons (⟨jn_iaload_ok (by decide +kernel), jn_iaload_mo⟩ : jn_GEm jn_G0 jn_me30 52 (.inl jn_iaload)) <|
  jn_cons (⟨jn_iload_ok (i := 4) (by decide +kernel), jn_iload_mo 4⟩ : jn_GEm jn_G0 jn_me30 53 (.inl (jn_iload 4))) <|
  jn_cons (jn_gc_of jn_G0_167 (jn_callS (i := 78) (na := 2) (by decide +kernel) (jn_in 405 (by decide +kernel) rfl) (jn_in 403 (by decide +kernel) rfl) (jn_in 404 (by decide +kernel) rfl) (jn_in 61 (by decide +kernel) rfl) ⟨by decide, by decide, by decide +kernel⟩) : jn_GEm jn_G0 jn_me30 55 (.inr (.inl (167, 0, 2)))) <|
  jn_cons (jn_gc_of jn_G0_23 (jn_callV (i := 65) (na := 3) (ci := 2) (q := (RX2, TX2, 3)) (by decide +kernel) rfl (jn_in 395 (by decide +kernel) rfl) (jn_in 392 (by decide +kernel) rfl) (jn_in 393 (by decide +kernel) rfl) (jn_in 394 (by decide +kernel) rfl) (jn_in 57 (by decide +kernel) rfl) ⟨by decide, by decide, by decide +kernel⟩) : jn_GEm jn_G0 jn_me30 58 (.inr (.inl (23, 4, 4)))) <|
  jn_cons (⟨jn_iconst_ok (by decide +kernel), jn_iconst_mo 1⟩ : jn_GEm jn_G0 jn_me30 61 (.inl (jn_iconst 1))) <|
  jn_cons (⟨jn_istore_n_ok (i := 2) (k := 2) (by decide +kernel) rfl, jn_istore_n_mo 2⟩ : jn_GEm jn_G0 jn_me30 62 (.inl (jn_istore_n 2))) <|
  jn_cons (⟨jn_iinc_ok (i := 3) (n := 1) (by decide +kernel), jn_iinc_mo 3 1⟩ : jn_GEm jn_G0 jn_me30 63 (.inl (jn_iinc 3 1))) <|
  jn_cons (⟨jn_goto_ok (t := 4) (off := -62) (by decide +kernel) (by decide), jn_goto_mo 4⟩ : jn_GEm jn_G0 jn_me30 66 (.inl (jn_goto 4))) <|
  jn_cons (⟨jn_iload_n_ok (i := 2) (k := 2) (by decide +kernel) rfl, jn_iload_n_mo 2⟩ : jn_GEm jn_G0 jn_me30 69 (.inl (jn_iload_n 2))) <|
  jn_cons (⟨(by decide +kernel), rfl⟩ : jn_GEm jn_G0 jn_me30 70 (.inr (.inr 2))) <| jn_nil
theorem jn_ok30 : jn_GM jn_G0 30 := jn_GM_of jn_G0_30 rfl rfl (by decide +kernel) (by decide) (jn_appd jn_o30_0 (jn_o30_1))
theorem jn_o31_0 : ∀ q ∈ jn_c31_0, jn_GEm jn_G0 jn_me31 q.1 q.2 :=
  jn_cons (⟨jn_aload_n_ok (i := 0) (k := 0) (by decide +kernel) rfl, jn_aload_n_mo 0⟩ : jn_GEm jn_G0 jn_me31 0 (.inl (jn_aload_n 0))) <|
  jn_cons (⟨jn_oinit_ok (i := 3) (by decide +kernel) (jn_in 82 (by decide +kernel) rfl) (jn_in 71 (by decide +kernel) rfl) (jn_in 72 (by decide +kernel) rfl), jn_oinit_mo⟩ : jn_GEm jn_G0 jn_me31 1 (.inl jn_oinit)) <|
  jn_cons (⟨jn_aload_n_ok (i := 0) (k := 0) (by decide +kernel) rfl, jn_aload_n_mo 0⟩ : jn_GEm jn_G0 jn_me31 4 (.inl (jn_aload_n 0))) <|
  jn_cons (⟨jn_bipush_ok (n := 36) (v := 36) (by decide +kernel) (by decide), jn_bipush_mo 36⟩ : jn_GEm jn_G0 jn_me31 5 (.inl (jn_bipush 36))) <|
  jn_cons (⟨jn_newL_ok (by decide +kernel) (jn_in 88 (by decide +kernel) rfl), jn_newL_mo⟩ : jn_GEm jn_G0 jn_me31 7 (.inl jn_newL)) <|
  jn_cons (⟨jn_putF_ok (ci := 4) (k := 0) (κ := 2) (i := 9) (N := 1) (C := RX4) (T := TX4) (ty0 := tyX4) (ty := .array .long) (by decide +kernel) rfl (by decide) jn_u4 (jn_in 83 (by decide +kernel) rfl) tyX4_ok nmX4 rfl (by decide +kernel) (jn_po_arr _) rfl rfl, jn_putF_mo 4 0 2⟩ : jn_GEm jn_G0 jn_me31 9 (.inl (jn_putF 4 0 2))) <|
  jn_cons (⟨(by decide +kernel), rfl⟩ : jn_GEm jn_G0 jn_me31 12 (.inr (.inr 0))) <| jn_nil
theorem jn_ok31 : jn_GM jn_G0 31 := jn_GM_of jn_G0_31 rfl rfl (by decide +kernel) (by decide) (jn_o31_0)
