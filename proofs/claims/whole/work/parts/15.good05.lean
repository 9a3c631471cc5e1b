theorem jn_o137_0 : ∀ q ∈ jn_c137_0, jn_GEm jn_G0 jn_me137 q.1 q.2 :=
  jn_cons (⟨jn_aload_n_ok (i := 0) (k := 0) (by decide +kernel) rfl, jn_aload_n_mo 0⟩ : jn_GEm jn_G0 jn_me137 0 (.inl (jn_aload_n 0))) <|
  jn_cons (⟨jn_getf_ok (ci := 7) (k := 0) (i := 7) (N := 22) (C := RX7) (T := TX7) (by decide +kernel) rfl (by decide) jn_u7 (jn_in 615 (by decide +kernel) rfl), jn_getf_mo 7 0⟩ : jn_GEm jn_G0 jn_me137 1 (.inl (jn_getf 7 0))) <|
  jn_cons (⟨jn_iload_n_ok (i := 1) (k := 1) (by decide +kernel) rfl, jn_iload_n_mo 1⟩ : jn_GEm jn_G0 jn_me137 4 (.inl (jn_iload_n 1))) <|
  jn_cons (⟨jn_iaload_ok (by decide +kernel), jn_iaload_mo⟩ : jn_GEm jn_G0 jn_me137 5 (.inl jn_iaload)) <|
  jn_cons (⟨jn_istore_n_ok (i := 3) (k := 3) (by decide +kernel) rfl, jn_istore_n_mo 3⟩ : jn_GEm jn_G0 jn_me137 6 (.inl (jn_istore_n 3))) <|
  jn_cons (⟨jn_aload_n_ok (i := 0) (k := 0) (by decide +kernel) rfl, jn_aload_n_mo 0⟩ : jn_GEm jn_G0 jn_me137 7 (.inl (jn_aload_n 0))) <|
  jn_cons (⟨jn_iload_n_ok (i := 1) (k := 1) (by decide +kernel) rfl, jn_iload_n_mo 1⟩ : jn_GEm jn_G0 jn_me137 8 (.inl (jn_iload_n 1))) <|
  jn_cons (⟨jn_iload_n_ok (i := 2) (k := 2) (by decide +kernel) rfl, jn_iload_n_mo 2⟩ : jn_GEm jn_G0 jn_me137 9 (.inl (jn_iload_n 2))) <|
  jn_cons (jn_gc_of jn_G0_138 (jn_callV (i := 187) (na := 2) (ci := 7) (q := (RX7, TX7, 22)) (by decide +kernel) rfl (jn_in 872 (by decide +kernel) rfl) (jn_in 869 (by decide +kernel) rfl) (jn_in 871 (by decide +kernel) rfl) (jn_in 41 (by decide +kernel) rfl) (jn_in 60 (by decide +kernel) rfl) ⟨by decide, by decide, by decide +kernel⟩) : jn_GEm jn_G0 jn_me137 10 (.inr (.inl (138, 9, 3)))) <|
  jn_cons (⟨jn_aload_n_ok (i := 0) (k := 0) (by decide +kernel) rfl, jn_aload_n_mo 0⟩ : jn_GEm jn_G0 jn_me137 13 (.inl (jn_aload_n 0))) <|
  jn_cons (⟨jn_getf_ok (ci := 7) (k := 12) (i := 41) (N := 22) (C := RX7) (T := TX7) (by decide +kernel) rfl (by decide) jn_u7 (jn_in 627 (by decide +kernel) rfl), jn_getf_mo 7 12⟩ : jn_GEm jn_G0 jn_me137 14 (.inl (jn_getf 7 12))) <|
  jn_cons (⟨jn_bipush_ok (n := 6) (v := 6) (by decide +kernel) (by decide), jn_bipush_mo 6⟩ : jn_GEm jn_G0 jn_me137 17 (.inl (jn_bipush 6))) <|
  jn_cons (⟨jn_iload_n_ok (i := 1) (k := 1) (by decide +kernel) rfl, jn_iload_n_mo 1⟩ : jn_GEm jn_G0 jn_me137 19 (.inl (jn_iload_n 1))) <|
  jn_cons (⟨jn_imul_ok (by decide +kernel), jn_imul_mo⟩ : jn_GEm jn_G0 jn_me137 20 (.inl jn_imul)) <|
  jn_cons (⟨jn_iload_n_ok (i := 2) (k := 2) (by decide +kernel) rfl, jn_iload_n_mo 2⟩ : jn_GEm jn_G0 jn_me137 21 (.inl (jn_iload_n 2))) <|
  jn_cons (⟨jn_iadd_ok (by decide +kernel), jn_iadd_mo⟩ : jn_GEm jn_G0 jn_me137 22 (.inl jn_iadd)) <|
  jn_cons (⟨jn_laload_ok (by decide +kernel), jn_laload_mo⟩ : jn_GEm jn_G0 jn_me137 23 (.inl jn_laload)) <|
  jn_cons (⟨jn_lstore_ok (i := 4) (by decide +kernel), jn_lstore_mo 4⟩ : jn_GEm jn_G0 jn_me137 24 (.inl (jn_lstore 4))) <|
  jn_cons (⟨jn_iconst_ok (by decide +kernel), jn_iconst_mo 0⟩ : jn_GEm jn_G0 jn_me137 26 (.inl (jn_iconst 0))) <|
  jn_cons (⟨jn_istore_ok (i := 6) (by decide +kernel), jn_istore_mo 6⟩ : jn_GEm jn_G0 jn_me137 27 (.inl (jn_istore 6))) <|
  jn_cons (⟨jn_iload_ok (i := 6) (by decide +kernel), jn_iload_mo 6⟩ : jn_GEm jn_G0 jn_me137 29 (.inl (jn_iload 6))) <|
  jn_cons (⟨jn_bipush_ok (n := 6) (v := 6) (by decide +kernel) (by decide), jn_bipush_mo 6⟩ : jn_GEm jn_G0 jn_me137 31 (.inl (jn_bipush 6))) <|
  jn_cons (⟨jn_icge_ok (t := 50) (off := 17) (by decide +kernel) (by decide), jn_icge_mo 50⟩ : jn_GEm jn_G0 jn_me137 33 (.inl (jn_icge 50))) <|
  jn_cons (⟨jn_aload_n_ok (i := 0) (k := 0) (by decide +kernel) rfl, jn_aload_n_mo 0⟩ : jn_GEm jn_G0 jn_me137 36 (.inl (jn_aload_n 0))) <| jn_nil
theorem jn_o137_1 : ∀ q ∈ jn_c137_1, jn_GEm jn_G0 jn_me137 q.1 q.2 :=
  jn_cons (⟨jn_getf_ok (ci := 7) (k := 9) (i := 32) (N := 22) (C := RX7) (T := TX7) (by decide +kernel) rfl (by decide) jn_u7 (jn_in 624 (by decide +kernel) rfl), jn_getf_mo 7 9⟩ : jn_GEm jn_G0 jn_me137 37 (.inl (jn_getf 7 9))) <|
  jn_cons (⟨jn_iload_ok (i := 6) (by decide +kernel), jn_iload_mo 6⟩ : jn_GEm jn_G0 jn_me137 40 (.inl (jn_iload 6))) <|
  jn_cons (⟨jn_lconst_ok (n := 0) (v := 0) (by decide +kernel) (by decide), jn_lconst_mo 0⟩ : jn_GEm jn_G0 jn_me137 42 (.inl (jn_lconst 0))) <|
  jn_cons (⟨jn_lastore_ok (by decide +kernel), jn_lastore_mo⟩ : jn_GEm jn_G0 jn_me137 43 (.inl jn_lastore)) <|
  jn_cons (⟨jn_iinc_ok (i := 6) (n := 1) (by decide +kernel), jn_iinc_mo 6 1⟩ : jn_GEm jn_G0 jn_me137 44 (.inl (jn_iinc 6 1))) <|
  jn_cons (⟨jn_goto_ok (t := 29) (off := -18) (by decide +kernel) (by decide), jn_goto_mo 29⟩ : jn_GEm jn_G0 jn_me137 47 (.inl (jn_goto 29))) <|
  jn_cons (⟨jn_iconst_ok (by decide +kernel), jn_iconst_mo 0⟩ : jn_GEm jn_G0 jn_me137 50 (.inl (jn_iconst 0))) <|
  jn_cons (⟨jn_istore_ok (i := 6) (by decide +kernel), jn_istore_mo 6⟩ : jn_GEm jn_G0 jn_me137 51 (.inl (jn_istore 6))) <|
  jn_cons (⟨jn_iload_ok (i := 6) (by decide +kernel), jn_iload_mo 6⟩ : jn_GEm jn_G0 jn_me137 53 (.inl (jn_iload 6))) <|
  jn_cons (⟨jn_iload_n_ok (i := 3) (k := 3) (by decide +kernel) rfl, jn_iload_n_mo 3⟩ : jn_GEm jn_G0 jn_me137 55 (.inl (jn_iload_n 3))) <|
  jn_cons (⟨jn_icge_ok (t := 90) (off := 34) (by decide +kernel) (by decide), jn_icge_mo 90⟩ : jn_GEm jn_G0 jn_me137 56 (.inl (jn_icge 90))) <|
  jn_cons (⟨jn_aload_n_ok (i := 0) (k := 0) (by decide +kernel) rfl, jn_aload_n_mo 0⟩ : jn_GEm jn_G0 jn_me137 59 (.inl (jn_aload_n 0))) <|
  jn_cons (⟨jn_getf_ok (ci := 7) (k := 10) (i := 35) (N := 22) (C := RX7) (T := TX7) (by decide +kernel) rfl (by decide) jn_u7 (jn_in 625 (by decide +kernel) rfl), jn_getf_mo 7 10⟩ : jn_GEm jn_G0 jn_me137 60 (.inl (jn_getf 7 10))) <|
  jn_cons (⟨jn_iload_ok (i := 6) (by decide +kernel), jn_iload_mo 6⟩ : jn_GEm jn_G0 jn_me137 63 (.inl (jn_iload 6))) <|
  jn_cons (⟨jn_iload_ok (i := 6) (by decide +kernel), jn_iload_mo 6⟩ : jn_GEm jn_G0 jn_me137 65 (.inl (jn_iload 6))) <|
  jn_cons (⟨jn_iload_n_ok (i := 2) (k := 2) (by decide +kernel) rfl, jn_iload_n_mo 2⟩ : jn_GEm jn_G0 jn_me137 67 (.inl (jn_iload_n 2))) <|
  jn_cons (⟨jn_icne_ok (t := 75) (off := 7) (by decide +kernel) (by decide), jn_icne_mo 75⟩ : jn_GEm jn_G0 jn_me137 68 (.inl (jn_icne 75))) <|
  jn_cons (⟨jn_lconst_ok (n := 0) (v := 0) (by decide +kernel) (by decide), jn_lconst_mo 0⟩ : jn_GEm jn_G0 jn_me137 71 (.inl (jn_lconst 0))) <|
  jn_cons (⟨jn_goto_ok (t := 83) (off := 11) (by decide +kernel) (by decide), jn_goto_mo 83⟩ : jn_GEm jn_G0 jn_me137 72 (.inl (jn_goto 83))) <|
  jn_cons (⟨jn_aload_n_ok (i := 0) (k := 0) (by decide +kernel) rfl, jn_aload_n_mo 0⟩ : jn_GEm jn_G0 jn_me137 75 (.inl (jn_aload_n 0))) <|
  jn_cons (⟨jn_iload_n_ok (i := 1) (k := 1) (by decide +kernel) rfl, jn_iload_n_mo 1⟩ : jn_GEm jn_G0 jn_me137 76 (.inl (jn_iload_n 1))) <|
  jn_cons (⟨jn_iload_n_ok (i := 2) (k := 2) (by decide +kernel) rfl, jn_iload_n_mo 2⟩ : jn_GEm jn_G0 jn_me137 77 (.inl (jn_iload_n 2))) <|
  jn_cons (⟨jn_iload_ok (i := 6) (by decide +kernel), jn_iload_mo 6⟩ : jn_GEm jn_G0 jn_me137 78 (.inl (jn_iload 6))) <|
  jn_cons (jn_gc_of jn_G0_139 (jn_callV (i := 191) (na := 3) (ci := 7) (q := (RX7, TX7, 22)) (by decide +kernel) rfl (jn_in 876 (by decide +kernel) rfl) (jn_in 873 (by decide +kernel) rfl) (jn_in 875 (by decide +kernel) rfl) (jn_in 42 (by decide +kernel) rfl) (jn_in 60 (by decide +kernel) rfl) ⟨by decide, by decide, by decide +kernel⟩) : jn_GEm jn_G0 jn_me137 80 (.inr (.inl (139, 9, 4)))) <| jn_nil
theorem jn_o137_2 : ∀ q ∈ jn_c137_2, jn_GEm jn_G0 jn_me137 q.1 q.2 :=
  jn_cons (⟨jn_lastore_ok (by decide +kernel), jn_lastore_mo⟩ : jn_GEm jn_G0 jn_me137 83 (.inl jn_lastore)) <|
  jn_cons (⟨jn_iinc_ok (i := 6) (n := 1) (by decide +kernel), jn_iinc_mo 6 1⟩ : jn_GEm jn_G0 jn_me137 84 (.inl (jn_iinc 6 1))) <|
  jn_cons (⟨jn_goto_ok (t := 53) (off := -34) (by decide +kernel) (by decide), jn_goto_mo 53⟩ : jn_GEm jn_G0 jn_me137 87 (.inl (jn_goto 53))) <|
  jn_cons (⟨jn_iconst_ok (by decide +kernel), jn_iconst_mo 0⟩ : jn_GEm jn_G0 jn_me137 90 (.inl (jn_iconst 0))) <|
  jn_cons (⟨jn_istore_ok (i := 6) (by decide +kernel), jn_istore_mo 6⟩ : jn_GEm jn_G0 jn_me137 91 (.inl (jn_istore 6))) <|
  jn_cons (⟨jn_iload_ok (i := 6) (by decide +kernel), jn_iload_mo 6⟩ : jn_GEm jn_G0 jn_me137 93 (.inl (jn_iload 6))) <|
  jn_cons (⟨jn_iload_n_ok (i := 3) (k := 3) (by decide +kernel) rfl, jn_iload_n_mo 3⟩ : jn_GEm jn_G0 jn_me137 95 (.inl (jn_iload_n 3))) <|
  jn_cons (⟨jn_icge_ok (t := 157) (off := 61) (by decide +kernel) (by decide), jn_icge_mo 157⟩ : jn_GEm jn_G0 jn_me137 96 (.inl (jn_icge 157))) <|
  jn_cons (⟨jn_iload_ok (i := 6) (by decide +kernel), jn_iload_mo 6⟩ : jn_GEm jn_G0 jn_me137 99 (.inl (jn_iload 6))) <|
  jn_cons (⟨jn_iload_n_ok (i := 2) (k := 2) (by decide +kernel) rfl, jn_iload_n_mo 2⟩ : jn_GEm jn_G0 jn_me137 101 (.inl (jn_iload_n 2))) <|
  jn_cons (⟨jn_icne_ok (t := 108) (off := 6) (by decide +kernel) (by decide), jn_icne_mo 108⟩ : jn_GEm jn_G0 jn_me137 102 (.inl (jn_icne 108))) <|
  jn_cons (⟨jn_goto_ok (t := 151) (off := 46) (by decide +kernel) (by decide), jn_goto_mo 151⟩ : jn_GEm jn_G0 jn_me137 105 (.inl (jn_goto 151))) <|
  jn_cons (⟨jn_aload_n_ok (i := 0) (k := 0) (by decide +kernel) rfl, jn_aload_n_mo 0⟩ : jn_GEm jn_G0 jn_me137 108 (.inl (jn_aload_n 0))) <|
  jn_cons (⟨jn_getf_ok (ci := 7) (k := 10) (i := 35) (N := 22) (C := RX7) (T := TX7) (by decide +kernel) rfl (by decide) jn_u7 (jn_in 625 (by decide +kernel) rfl), jn_getf_mo 7 10⟩ : jn_GEm jn_G0 jn_me137 109 (.inl (jn_getf 7 10))) <|
  jn_cons (⟨jn_iload_ok (i := 6) (by decide +kernel), jn_iload_mo 6⟩ : jn_GEm jn_G0 jn_me137 112 (.inl (jn_iload 6))) <|
  jn_cons (⟨jn_laload_ok (by decide +kernel), jn_laload_mo⟩ : jn_GEm jn_G0 jn_me137 114 (.inl jn_laload)) <|
  jn_cons (⟨jn_lload_ok (i := 4) (by decide +kernel), jn_lload_mo 4⟩ : jn_GEm jn_G0 jn_me137 115 (.inl (jn_lload 4))) <|
  jn_cons (⟨jn_ldiv_ok (by decide +kernel), jn_ldiv_mo⟩ : jn_GEm jn_G0 jn_me137 117 (.inl jn_ldiv)) <|
  jn_cons (⟨jn_lstore_ok (i := 7) (by decide +kernel), jn_lstore_mo 7⟩ : jn_GEm jn_G0 jn_me137 118 (.inl (jn_lstore 7))) <|
  jn_cons (⟨jn_lload_ok (i := 7) (by decide +kernel), jn_lload_mo 7⟩ : jn_GEm jn_G0 jn_me137 120 (.inl (jn_lload 7))) <|
  jn_cons (⟨jn_lload_ok (i := 4) (by decide +kernel), jn_lload_mo 4⟩ : jn_GEm jn_G0 jn_me137 122 (.inl (jn_lload 4))) <|
  jn_cons (⟨jn_lmul_ok (by decide +kernel), jn_lmul_mo⟩ : jn_GEm jn_G0 jn_me137 124 (.inl jn_lmul)) <|
  jn_cons (⟨jn_aload_n_ok (i := 0) (k := 0) (by decide +kernel) rfl, jn_aload_n_mo 0⟩ : jn_GEm jn_G0 jn_me137 125 (.inl (jn_aload_n 0))) <|
  jn_cons (⟨jn_getf_ok (ci := 7) (k := 10) (i := 35) (N := 22) (C := RX7) (T := TX7) (by decide +kernel) rfl (by decide) jn_u7 (jn_in 625 (by decide +kernel) rfl), jn_getf_mo 7 10⟩ : jn_GEm jn_G0 jn_me137 126 (.inl (jn_getf 7 10))) <| jn_nil
theorem jn_o137_3 : ∀ q ∈ jn_c137_3, jn_GEm jn_G0 jn_me137 q.1 q.2 :=
  jn_cons (⟨jn_iload_ok (i := 6) (by decide +kernel), jn_iload_mo 6⟩ : jn_GEm jn_G0 jn_me137 129 (.inl (jn_iload 6))) <|
  jn_cons (⟨jn_laload_ok (by decide +kernel), jn_laload_mo⟩ : jn_GEm jn_G0 jn_me137 131 (.inl jn_laload)) <|
  jn_cons (⟨jn_lcmp_ok (by decide +kernel), jn_lcmp_mo⟩ : jn_GEm jn_G0 jn_me137 132 (.inl jn_lcmp)) <|
  jn_cons (⟨jn_ifle_ok (t := 142) (off := 9) (by decide +kernel) (by decide), jn_ifle_mo 142⟩ : jn_GEm jn_G0 jn_me137 133 (.inl (jn_ifle 142))) <|
  jn_cons (⟨jn_lload_ok (i := 7) (by decide +kernel), jn_lload_mo 7⟩ : jn_GEm jn_G0 jn_me137 136 (.inl (jn_lload 7))) <|
  jn_cons (⟨jn_lconst_ok (n := 1) (v := 1) (by decide +kernel) (by decide), jn_lconst_mo 1⟩ : jn_GEm jn_G0 jn_me137 138 (.inl (jn_lconst 1))) <|
  jn_cons (⟨jn_lsub_ok (by decide +kernel), jn_lsub_mo⟩ : jn_GEm jn_G0 jn_me137 139 (.inl jn_lsub)) <|
  jn_cons (⟨jn_lstore_ok (i := 7) (by decide +kernel), jn_lstore_mo 7⟩ : jn_GEm jn_G0 jn_me137 140 (.inl (jn_lstore 7))) <|
  jn_cons (⟨jn_aload_n_ok (i := 0) (k := 0) (by decide +kernel) rfl, jn_aload_n_mo 0⟩ : jn_GEm jn_G0 jn_me137 142 (.inl (jn_aload_n 0))) <|
  jn_cons (⟨jn_getf_ok (ci := 7) (k := 9) (i := 32) (N := 22) (C := RX7) (T := TX7) (by decide +kernel) rfl (by decide) jn_u7 (jn_in 624 (by decide +kernel) rfl), jn_getf_mo 7 9⟩ : jn_GEm jn_G0 jn_me137 143 (.inl (jn_getf 7 9))) <|
  jn_cons (⟨jn_iload_ok (i := 6) (by decide +kernel), jn_iload_mo 6⟩ : jn_GEm jn_G0 jn_me137 146 (.inl (jn_iload 6))) <|
  jn_cons (⟨jn_lload_ok (i := 7) (by decide +kernel), jn_lload_mo 7⟩ : jn_GEm jn_G0 jn_me137 148 (.inl (jn_lload 7))) <|
  jn_cons (⟨jn_lastore_ok (by decide +kernel), jn_lastore_mo⟩ : jn_GEm jn_G0 jn_me137 150 (.inl jn_lastore)) <|
  jn_cons (⟨jn_iinc_ok (i := 6) (n := 1) (by decide +kernel), jn_iinc_mo 6 1⟩ : jn_GEm jn_G0 jn_me137 151 (.inl (jn_iinc 6 1))) <|
  jn_cons (⟨jn_goto_ok (t := 93) (off := -61) (by decide +kernel) (by decide), jn_goto_mo 93⟩ : jn_GEm jn_G0 jn_me137 154 (.inl (jn_goto 93))) <|
  jn_cons (⟨jn_iconst_ok (by decide +kernel), jn_iconst_mo 0⟩ : jn_GEm jn_G0 jn_me137 157 (.inl (jn_iconst 0))) <|
  jn_cons (⟨jn_istore_ok (i := 6) (by decide +kernel), jn_istore_mo 6⟩ : jn_GEm jn_G0 jn_me137 158 (.inl (jn_istore 6))) <|
  jn_cons (⟨jn_iload_ok (i := 6) (by decide +kernel), jn_iload_mo 6⟩ : jn_GEm jn_G0 jn_me137 160 (.inl (jn_iload 6))) <|
  jn_cons (⟨jn_iload_n_ok (i := 3) (k := 3) (by decide +kernel) rfl, jn_iload_n_mo 3⟩ : jn_GEm jn_G0 jn_me137 162 (.inl (jn_iload_n 3))) <|
  jn_cons (⟨jn_icge_ok (t := 186) (off := 23) (by decide +kernel) (by decide), jn_icge_mo 186⟩ : jn_GEm jn_G0 jn_me137 163 (.inl (jn_icge 186))) <|
  jn_cons (⟨jn_aload_n_ok (i := 0) (k := 0) (by decide +kernel) rfl, jn_aload_n_mo 0⟩ : jn_GEm jn_G0 jn_me137 166 (.inl (jn_aload_n 0))) <|
  jn_cons (⟨jn_iload_n_ok (i := 1) (k := 1) (by decide +kernel) rfl, jn_iload_n_mo 1⟩ : jn_GEm jn_G0 jn_me137 167 (.inl (jn_iload_n 1))) <|
  jn_cons (⟨jn_iload_ok (i := 6) (by decide +kernel), jn_iload_mo 6⟩ : jn_GEm jn_G0 jn_me137 168 (.inl (jn_iload 6))) <|
  jn_cons (⟨jn_aload_n_ok (i := 0) (k := 0) (by decide +kernel) rfl, jn_aload_n_mo 0⟩ : jn_GEm jn_G0 jn_me137 170 (.inl (jn_aload_n 0))) <| jn_nil
theorem jn_o137_4 : ∀ q ∈ jn_c137_4, jn_GEm jn_G0 jn_me137 q.1 q.2 :=
  jn_cons (⟨jn_getf_ok (ci := 7) (k := 9) (i := 32) (N := 22) (C := RX7) (T := TX7) (by decide +kernel) rfl (by decide) jn_u7 (jn_in 624 (by decide +kernel) rfl), jn_getf_mo 7 9⟩ : jn_GEm jn_G0 jn_me137 171 (.inl (jn_getf 7 9))) <|
  jn_cons (⟨jn_iload_ok (i := 6) (by decide +kernel), jn_iload_mo 6⟩ : jn_GEm jn_G0 jn_me137 174 (.inl (jn_iload 6))) <|
  jn_cons (⟨jn_laload_ok (by decide +kernel), jn_laload_mo⟩ : jn_GEm jn_G0 jn_me137 176 (.inl jn_laload)) <|
  jn_cons (jn_gc_of jn_G0_128 (jn_callV (i := 172) (na := 3) (ci := 7) (q := (RX7, TX7, 22)) (by decide +kernel) rfl (jn_in 828 (by decide +kernel) rfl) (jn_in 825 (by decide +kernel) rfl) (jn_in 827 (by decide +kernel) rfl) (jn_in 37 (by decide +kernel) rfl) (jn_in 60 (by decide +kernel) rfl) ⟨by decide, by decide, by decide +kernel⟩) : jn_GEm jn_G0 jn_me137 177 (.inr (.inl (128, 9, 4)))) <|
  jn_cons (⟨jn_iinc_ok (i := 6) (n := 1) (by decide +kernel), jn_iinc_mo 6 1⟩ : jn_GEm jn_G0 jn_me137 180 (.inl (jn_iinc 6 1))) <|
  jn_cons (⟨jn_goto_ok (t := 160) (off := -23) (by decide +kernel) (by decide), jn_goto_mo 160⟩ : jn_GEm jn_G0 jn_me137 183 (.inl (jn_goto 160))) <|
  jn_cons (⟨jn_iconst_ok (by decide +kernel), jn_iconst_mo 1⟩ : jn_GEm jn_G0 jn_me137 186 (.inl (jn_iconst 1))) <|
  jn_cons (⟨jn_istore_ok (i := 6) (by decide +kernel), jn_istore_mo 6⟩ : jn_GEm jn_G0 jn_me137 187 (.inl (jn_istore 6))) <|
  jn_cons (⟨jn_iload_ok (i := 6) (by decide +kernel), jn_iload_mo 6⟩ : jn_GEm jn_G0 jn_me137 189 (.inl (jn_iload 6))) <|
  jn_cons (⟨jn_ifeq_ok (t := 290) (off := 99) (by decide +kernel) (by decide), jn_ifeq_mo 290⟩ : jn_GEm jn_G0 jn_me137 191 (.inl (jn_ifeq 290))) <|
  jn_cons (⟨jn_iconst_ok (by decide +kernel), jn_iconst_mo 0⟩ : jn_GEm jn_G0 jn_me137 194 (.inl (jn_iconst 0))) <|
  jn_cons (⟨jn_istore_ok (i := 6) (by decide +kernel), jn_istore_mo 6⟩ : jn_GEm jn_G0 jn_me137 195 (.inl (jn_istore 6))) <|
  jn_cons (⟨jn_iconst_ok (by decide +kernel), jn_iconst_mo 0⟩ : jn_GEm jn_G0 jn_me137 197 (.inl (jn_iconst 0))) <|
  jn_cons (⟨jn_istore_ok (i := 7) (by decide +kernel), jn_istore_mo 7⟩ : jn_GEm jn_G0 jn_me137 198 (.inl (jn_istore 7))) <|
  jn_cons (⟨jn_iload_ok (i := 7) (by decide +kernel), jn_iload_mo 7⟩ : jn_GEm jn_G0 jn_me137 200 (.inl (jn_iload 7))) <|
  jn_cons (⟨jn_iload_n_ok (i := 3) (k := 3) (by decide +kernel) rfl, jn_iload_n_mo 3⟩ : jn_GEm jn_G0 jn_me137 202 (.inl (jn_iload_n 3))) <|
  jn_cons (⟨jn_icge_ok (t := 287) (off := 84) (by decide +kernel) (by decide), jn_icge_mo 287⟩ : jn_GEm jn_G0 jn_me137 203 (.inl (jn_icge 287))) <|
  jn_cons (⟨jn_iload_ok (i := 7) (by decide +kernel), jn_iload_mo 7⟩ : jn_GEm jn_G0 jn_me137 206 (.inl (jn_iload 7))) <|
  jn_cons (⟨jn_iload_n_ok (i := 2) (k := 2) (by decide +kernel) rfl, jn_iload_n_mo 2⟩ : jn_GEm jn_G0 jn_me137 208 (.inl (jn_iload_n 2))) <|
  jn_cons (⟨jn_iceq_ok (t := 281) (off := 72) (by decide +kernel) (by decide), jn_iceq_mo 281⟩ : jn_GEm jn_G0 jn_me137 209 (.inl (jn_iceq 281))) <|
  jn_cons (⟨jn_aload_n_ok (i := 0) (k := 0) (by decide +kernel) rfl, jn_aload_n_mo 0⟩ : jn_GEm jn_G0 jn_me137 212 (.inl (jn_aload_n 0))) <|
  jn_cons (⟨jn_getf_ok (ci := 7) (k := 8) (i := 29) (N := 22) (C := RX7) (T := TX7) (by decide +kernel) rfl (by decide) jn_u7 (jn_in 623 (by decide +kernel) rfl), jn_getf_mo 7 8⟩ : jn_GEm jn_G0 jn_me137 213 (.inl (jn_getf 7 8))) <|
  jn_cons (⟨jn_iload_ok (i := 7) (by decide +kernel), jn_iload_mo 7⟩ : jn_GEm jn_G0 jn_me137 216 (.inl (jn_iload 7))) <|
  jn_cons (⟨jn_laload_ok (by decide +kernel), jn_laload_mo⟩ : jn_GEm jn_G0 jn_me137 218 (.inl jn_laload)) <| jn_nil
theorem jn_o137_5 : ∀ q ∈ jn_c137_5, jn_GEm jn_G0 jn_me137 q.1 q.2 :=
  jn_cons (⟨jn_lconst_ok (n := 0) (v := 0) (by decide +kernel) (by decide), jn_lconst_mo 0⟩ : jn_GEm jn_G0 jn_me137 219 (.inl (jn_lconst 0))) <|
  jn_cons (⟨jn_lcmp_ok (by decide +kernel), jn_lcmp_mo⟩ : jn_GEm jn_G0 jn_me137 220 (.inl jn_lcmp)) <|
  jn_cons (⟨jn_iflt_ok (t := 227) (off := 6) (by decide +kernel) (by decide), jn_iflt_mo 227⟩ : jn_GEm jn_G0 jn_me137 221 (.inl (jn_iflt 227))) <|
  jn_cons (⟨jn_goto_ok (t := 281) (off := 57) (by decide +kernel) (by decide), jn_goto_mo 281⟩ : jn_GEm jn_G0 jn_me137 224 (.inl (jn_goto 281))) <|
  jn_cons (⟨jn_aload_n_ok (i := 0) (k := 0) (by decide +kernel) rfl, jn_aload_n_mo 0⟩ : jn_GEm jn_G0 jn_me137 227 (.inl (jn_aload_n 0))) <|
  jn_cons (⟨jn_iload_n_ok (i := 1) (k := 1) (by decide +kernel) rfl, jn_iload_n_mo 1⟩ : jn_GEm jn_G0 jn_me137 228 (.inl (jn_iload_n 1))) <|
  jn_cons (⟨jn_iload_ok (i := 7) (by decide +kernel), jn_iload_mo 7⟩ : jn_GEm jn_G0 jn_me137 229 (.inl (jn_iload 7))) <|
  jn_cons (jn_gc_of jn_G0_103 (jn_callV (i := 103) (na := 2) (ci := 7) (q := (RX7, TX7, 22)) (by decide +kernel) rfl (jn_in 734 (by decide +kernel) rfl) (jn_in 731 (by decide +kernel) rfl) (jn_in 733 (by decide +kernel) rfl) (jn_in 26 (by decide +kernel) rfl) (jn_in 60 (by decide +kernel) rfl) ⟨by decide, by decide, by decide +kernel⟩) : jn_GEm jn_G0 jn_me137 231 (.inr (.inl (103, 9, 3)))) <|
  jn_cons (⟨jn_istore_ok (i := 8) (by decide +kernel), jn_istore_mo 8⟩ : jn_GEm jn_G0 jn_me137 234 (.inl (jn_istore 8))) <|
  jn_cons (⟨jn_aload_n_ok (i := 0) (k := 0) (by decide +kernel) rfl, jn_aload_n_mo 0⟩ : jn_GEm jn_G0 jn_me137 236 (.inl (jn_aload_n 0))) <|
  jn_cons (⟨jn_getf_ok (ci := 7) (k := 8) (i := 29) (N := 22) (C := RX7) (T := TX7) (by decide +kernel) rfl (by decide) jn_u7 (jn_in 623 (by decide +kernel) rfl), jn_getf_mo 7 8⟩ : jn_GEm jn_G0 jn_me137 237 (.inl (jn_getf 7 8))) <|
  jn_cons (⟨jn_iload_ok (i := 7) (by decide +kernel), jn_iload_mo 7⟩ : jn_GEm jn_G0 jn_me137 240 (.inl (jn_iload 7))) <|
  jn_cons (⟨jn_laload_ok (by decide +kernel), jn_laload_mo⟩ : jn_GEm jn_G0 jn_me137 242 (.inl jn_laload)) <|
  jn_cons (⟨jn_lneg_ok (by decide +kernel), jn_lneg_mo⟩ : jn_GEm jn_G0 jn_me137 243 (.inl jn_lneg)) <|
  jn_cons (⟨jn_iload_ok (i := 8) (by decide +kernel), jn_iload_mo 8⟩ : jn_GEm jn_G0 jn_me137 244 (.inl (jn_iload 8))) <|
  jn_cons (⟨jn_i2l_ok (by decide +kernel), jn_i2l_mo⟩ : jn_GEm jn_G0 jn_me137 246 (.inl jn_i2l)) <|
  jn_cons (⟨jn_ladd_ok (by decide +kernel), jn_ladd_mo⟩ : jn_GEm jn_G0 jn_me137 247 (.inl jn_ladd)) <|
  jn_cons (⟨jn_lconst_ok (n := 1) (v := 1) (by decide +kernel) (by decide), jn_lconst_mo 1⟩ : jn_GEm jn_G0 jn_me137 248 (.inl (jn_lconst 1))) <|
  jn_cons (⟨jn_lsub_ok (by decide +kernel), jn_lsub_mo⟩ : jn_GEm jn_G0 jn_me137 249 (.inl jn_lsub)) <|
  jn_cons (⟨jn_iload_ok (i := 8) (by decide +kernel), jn_iload_mo 8⟩ : jn_GEm jn_G0 jn_me137 250 (.inl (jn_iload 8))) <|
  jn_cons (⟨jn_i2l_ok (by decide +kernel), jn_i2l_mo⟩ : jn_GEm jn_G0 jn_me137 252 (.inl jn_i2l)) <|
  jn_cons (⟨jn_ldiv_ok (by decide +kernel), jn_ldiv_mo⟩ : jn_GEm jn_G0 jn_me137 253 (.inl jn_ldiv)) <|
  jn_cons (⟨jn_lstore_ok (i := 9) (by decide +kernel), jn_lstore_mo 9⟩ : jn_GEm jn_G0 jn_me137 254 (.inl (jn_lstore 9))) <|
  jn_cons (⟨jn_aload_n_ok (i := 0) (k := 0) (by decide +kernel) rfl, jn_aload_n_mo 0⟩ : jn_GEm jn_G0 jn_me137 256 (.inl (jn_aload_n 0))) <| jn_nil
theorem jn_o137_6 : ∀ q ∈ jn_c137_6, jn_GEm jn_G0 jn_me137 q.1 q.2 :=
  jn_cons (⟨jn_iload_n_ok (i := 1) (k := 1) (by decide +kernel) rfl, jn_iload_n_mo 1⟩ : jn_GEm jn_G0 jn_me137 257 (.inl (jn_iload_n 1))) <|
  jn_cons (⟨jn_iload_ok (i := 7) (by decide +kernel), jn_iload_mo 7⟩ : jn_GEm jn_G0 jn_me137 258 (.inl (jn_iload 7))) <|
  jn_cons (⟨jn_lload_ok (i := 9) (by decide +kernel), jn_lload_mo 9⟩ : jn_GEm jn_G0 jn_me137 260 (.inl (jn_lload 9))) <|
  jn_cons (⟨jn_lneg_ok (by decide +kernel), jn_lneg_mo⟩ : jn_GEm jn_G0 jn_me137 262 (.inl jn_lneg)) <|
  jn_cons (jn_gc_of jn_G0_128 (jn_callV (i := 172) (na := 3) (ci := 7) (q := (RX7, TX7, 22)) (by decide +kernel) rfl (jn_in 828 (by decide +kernel) rfl) (jn_in 825 (by decide +kernel) rfl) (jn_in 827 (by decide +kernel) rfl) (jn_in 37 (by decide +kernel) rfl) (jn_in 60 (by decide +kernel) rfl) ⟨by decide, by decide, by decide +kernel⟩) : jn_GEm jn_G0 jn_me137 263 (.inr (.inl (128, 9, 4)))) <|
  jn_cons (⟨jn_aload_n_ok (i := 0) (k := 0) (by decide +kernel) rfl, jn_aload_n_mo 0⟩ : jn_GEm jn_G0 jn_me137 266 (.inl (jn_aload_n 0))) <|
  jn_cons (⟨jn_getf_ok (ci := 7) (k := 9) (i := 32) (N := 22) (C := RX7) (T := TX7) (by decide +kernel) rfl (by decide) jn_u7 (jn_in 624 (by decide +kernel) rfl), jn_getf_mo 7 9⟩ : jn_GEm jn_G0 jn_me137 267 (.inl (jn_getf 7 9))) <|
  jn_cons (⟨jn_iload_ok (i := 7) (by decide +kernel), jn_iload_mo 7⟩ : jn_GEm jn_G0 jn_me137 270 (.inl (jn_iload 7))) <|
  jn_cons (⟨jn_dup2_ok (by decide +kernel), jn_dup2_mo⟩ : jn_GEm jn_G0 jn_me137 272 (.inl jn_dup2)) <|
  jn_cons (⟨jn_laload_ok (by decide +kernel), jn_laload_mo⟩ : jn_GEm jn_G0 jn_me137 273 (.inl jn_laload)) <|
  jn_cons (⟨jn_lload_ok (i := 9) (by decide +kernel), jn_lload_mo 9⟩ : jn_GEm jn_G0 jn_me137 274 (.inl (jn_lload 9))) <|
  jn_cons (⟨jn_lsub_ok (by decide +kernel), jn_lsub_mo⟩ : jn_GEm jn_G0 jn_me137 276 (.inl jn_lsub)) <|
  jn_cons (⟨jn_lastore_ok (by decide +kernel), jn_lastore_mo⟩ : jn_GEm jn_G0 jn_me137 277 (.inl jn_lastore)) <|
  jn_cons (⟨jn_iconst_ok (by decide +kernel), jn_iconst_mo 1⟩ : jn_GEm jn_G0 jn_me137 278 (.inl (jn_iconst 1))) <|
  jn_cons (⟨jn_istore_ok (i := 6) (by decide +kernel), jn_istore_mo 6⟩ : jn_GEm jn_G0 jn_me137 279 (.inl (jn_istore 6))) <|
  jn_cons (⟨jn_iinc_ok (i := 7) (n := 1) (by decide +kernel), jn_iinc_mo 7 1⟩ : jn_GEm jn_G0 jn_me137 281 (.inl (jn_iinc 7 1))) <|
  jn_cons (⟨jn_goto_ok (t := 200) (off := -84) (by decide +kernel) (by decide), jn_goto_mo 200⟩ : jn_GEm jn_G0 jn_me137 284 (.inl (jn_goto 200))) <|
  jn_cons (⟨jn_goto_ok (t := 189) (off := -98) (by decide +kernel) (by decide), jn_goto_mo 189⟩ : jn_GEm jn_G0 jn_me137 287 (.inl (jn_goto 189))) <|
  jn_cons (⟨(by decide +kernel), rfl⟩ : jn_GEm jn_G0 jn_me137 290 (.inr (.inr 0))) <| jn_nil
theorem jn_ok137 : jn_GM jn_G0 137 := jn_GM_of jn_G0_137 rfl rfl (by decide +kernel) (by decide) (jn_appd jn_o137_0 (jn_appd jn_o137_1 (jn_appd jn_o137_2 (jn_appd jn_o137_3 (jn_appd jn_o137_4 (jn_appd jn_o137_5 (jn_o137_6)))))))
theorem jn_o138_0 : ∀ q ∈ jn_c138_0, jn_GEm jn_G0 jn_me138 q.1 q.2 :=
  jn_cons (⟨jn_aload_n_ok (i := 0) (k := 0) (by decide +kernel) rfl, jn_aload_n_mo 0⟩ : jn_GEm jn_G0 jn_me138 0 (.inl (jn_aload_n 0))) <|
  jn_cons (⟨jn_getf_ok (ci := 7) (k := 13) (i := 44) (N := 22) (C := RX7) (T := TX7) (by decide +kernel) rfl (by decide) jn_u7 (jn_in 628 (by decide +kernel) rfl), jn_getf_mo 7 13⟩ : jn_GEm jn_G0 jn_me138 1 (.inl (jn_getf 7 13))) <|
  jn_cons (⟨jn_bipush_ok (n := 6) (v := 6) (by decide +kernel) (by decide), jn_bipush_mo 6⟩ : jn_GEm jn_G0 jn_me138 4 (.inl (jn_bipush 6))) <|
  jn_cons (⟨jn_iload_n_ok (i := 1) (k := 1) (by decide +kernel) rfl, jn_iload_n_mo 1⟩ : jn_GEm jn_G0 jn_me138 6 (.inl (jn_iload_n 1))) <|
  jn_cons (⟨jn_imul_ok (by decide +kernel), jn_imul_mo⟩ : jn_GEm jn_G0 jn_me138 7 (.inl jn_imul)) <|
  jn_cons (⟨jn_iload_n_ok (i := 2) (k := 2) (by decide +kernel) rfl, jn_iload_n_mo 2⟩ : jn_GEm jn_G0 jn_me138 8 (.inl (jn_iload_n 2))) <|
  jn_cons (⟨jn_iadd_ok (by decide +kernel), jn_iadd_mo⟩ : jn_GEm jn_G0 jn_me138 9 (.inl jn_iadd)) <|
  jn_cons (⟨jn_zaload_ok (by decide +kernel), jn_zaload_mo⟩ : jn_GEm jn_G0 jn_me138 10 (.inl jn_zaload)) <|
  jn_cons (⟨jn_ifeq_ok (t := 15) (off := 4) (by decide +kernel) (by decide), jn_ifeq_mo 15⟩ : jn_GEm jn_G0 jn_me138 11 (.inl (jn_ifeq 15))) <|
  jn_cons (⟨(by decide +kernel), rfl⟩ : jn_GEm jn_G0 jn_me138 14 (.inr (.inr 0))) <|
  jn_cons (⟨jn_aload_n_ok (i := 0) (k := 0) (by decide +kernel) rfl, jn_aload_n_mo 0⟩ : jn_GEm jn_G0 jn_me138 15 (.inl (jn_aload_n 0))) <|
  jn_cons (⟨jn_getf_ok (ci := 7) (k := 13) (i := 44) (N := 22) (C := RX7) (T := TX7) (by decide +kernel) rfl (by decide) jn_u7 (jn_in 628 (by decide +kernel) rfl), jn_getf_mo 7 13⟩ : jn_GEm jn_G0 jn_me138 16 (.inl (jn_getf 7 13))) <|
  jn_cons (⟨jn_bipush_ok (n := 6) (v := 6) (by decide +kernel) (by decide), jn_bipush_mo 6⟩ : jn_GEm jn_G0 jn_me138 19 (.inl (jn_bipush 6))) <|
  jn_cons (⟨jn_iload_n_ok (i := 1) (k := 1) (by decide +kernel) rfl, jn_iload_n_mo 1⟩ : jn_GEm jn_G0 jn_me138 21 (.inl (jn_iload_n 1))) <|
  jn_cons (⟨jn_imul_ok (by decide +kernel), jn_imul_mo⟩ : jn_GEm jn_G0 jn_me138 22 (.inl jn_imul)) <|
  jn_cons (⟨jn_iload_n_ok (i := 2) (k := 2) (by decide +kernel) rfl, jn_iload_n_mo 2⟩ : jn_GEm jn_G0 jn_me138 23 (.inl (jn_iload_n 2))) <|
  jn_cons (⟨jn_iadd_ok (by decide +kernel), jn_iadd_mo⟩ : jn_GEm jn_G0 jn_me138 24 (.inl jn_iadd)) <|
  jn_cons (⟨jn_iconst_ok (by decide +kernel), jn_iconst_mo 1⟩ : jn_GEm jn_G0 jn_me138 25 (.inl (jn_iconst 1))) <|
  jn_cons (⟨jn_zastore_ok (by decide +kernel), jn_zastore_mo⟩ : jn_GEm jn_G0 jn_me138 26 (.inl jn_zastore)) <|
  jn_cons (⟨jn_aload_n_ok (i := 0) (k := 0) (by decide +kernel) rfl, jn_aload_n_mo 0⟩ : jn_GEm jn_G0 jn_me138 27 (.inl (jn_aload_n 0))) <|
  jn_cons (⟨jn_iload_n_ok (i := 1) (k := 1) (by decide +kernel) rfl, jn_iload_n_mo 1⟩ : jn_GEm jn_G0 jn_me138 28 (.inl (jn_iload_n 1))) <|
  jn_cons (⟨jn_iload_n_ok (i := 2) (k := 2) (by decide +kernel) rfl, jn_iload_n_mo 2⟩ : jn_GEm jn_G0 jn_me138 29 (.inl (jn_iload_n 2))) <|
  jn_cons (jn_gc_of jn_G0_113 (jn_callV (i := 126) (na := 2) (ci := 7) (q := (RX7, TX7, 22)) (by decide +kernel) rfl (jn_in 754 (by decide +kernel) rfl) (jn_in 751 (by decide +kernel) rfl) (jn_in 753 (by decide +kernel) rfl) (jn_in 29 (by decide +kernel) rfl) (jn_in 60 (by decide +kernel) rfl) ⟨by decide, by decide, by decide +kernel⟩) : jn_GEm jn_G0 jn_me138 30 (.inr (.inl (113, 9, 3)))) <|
  jn_cons (⟨jn_istore_n_ok (i := 3) (k := 3) (by decide +kernel) rfl, jn_istore_n_mo 3⟩ : jn_GEm jn_G0 jn_me138 33 (.inl (jn_istore_n 3))) <| jn_nil
theorem jn_o138_1 : ∀ q ∈ jn_c138_1, jn_GEm jn_G0 jn_me138 q.1 q.2 :=
  jn_cons (⟨jn_aload_n_ok (i := 0) (k := 0) (by decide +kernel) rfl, jn_aload_n_mo 0⟩ : jn_GEm jn_G0 jn_me138 34 (.inl (jn_aload_n 0))) <|
  jn_cons (⟨jn_getf_ok (ci := 7) (k := 12) (i := 41) (N := 22) (C := RX7) (T := TX7) (by decide +kernel) rfl (by decide) jn_u7 (jn_in 627 (by decide +kernel) rfl), jn_getf_mo 7 12⟩ : jn_GEm jn_G0 jn_me138 35 (.inl (jn_getf 7 12))) <|
  jn_cons (⟨jn_bipush_ok (n := 6) (v := 6) (by decide +kernel) (by decide), jn_bipush_mo 6⟩ : jn_GEm jn_G0 jn_me138 38 (.inl (jn_bipush 6))) <|
  jn_cons (⟨jn_iload_n_ok (i := 1) (k := 1) (by decide +kernel) rfl, jn_iload_n_mo 1⟩ : jn_GEm jn_G0 jn_me138 40 (.inl (jn_iload_n 1))) <|
  jn_cons (⟨jn_imul_ok (by decide +kernel), jn_imul_mo⟩ : jn_GEm jn_G0 jn_me138 41 (.inl jn_imul)) <|
  jn_cons (⟨jn_iload_n_ok (i := 2) (k := 2) (by decide +kernel) rfl, jn_iload_n_mo 2⟩ : jn_GEm jn_G0 jn_me138 42 (.inl (jn_iload_n 2))) <|
  jn_cons (⟨jn_iadd_ok (by decide +kernel), jn_iadd_mo⟩ : jn_GEm jn_G0 jn_me138 43 (.inl jn_iadd)) <|
  jn_cons (⟨jn_aload_n_ok (i := 0) (k := 0) (by decide +kernel) rfl, jn_aload_n_mo 0⟩ : jn_GEm jn_G0 jn_me138 44 (.inl (jn_aload_n 0))) <|
  jn_cons (⟨jn_iload_n_ok (i := 1) (k := 1) (by decide +kernel) rfl, jn_iload_n_mo 1⟩ : jn_GEm jn_G0 jn_me138 45 (.inl (jn_iload_n 1))) <|
  jn_cons (⟨jn_iload_n_ok (i := 3) (k := 3) (by decide +kernel) rfl, jn_iload_n_mo 3⟩ : jn_GEm jn_G0 jn_me138 46 (.inl (jn_iload_n 3))) <|
  jn_cons (⟨jn_iload_n_ok (i := 3) (k := 3) (by decide +kernel) rfl, jn_iload_n_mo 3⟩ : jn_GEm jn_G0 jn_me138 47 (.inl (jn_iload_n 3))) <|
  jn_cons (jn_gc_of jn_G0_112 (jn_callV (i := 129) (na := 3) (ci := 7) (q := (RX7, TX7, 22)) (by decide +kernel) rfl (jn_in 758 (by decide +kernel) rfl) (jn_in 755 (by decide +kernel) rfl) (jn_in 757 (by decide +kernel) rfl) (jn_in 30 (by decide +kernel) rfl) (jn_in 60 (by decide +kernel) rfl) ⟨by decide, by decide, by decide +kernel⟩) : jn_GEm jn_G0 jn_me138 48 (.inr (.inl (112, 9, 4)))) <|
  jn_cons (⟨jn_lastore_ok (by decide +kernel), jn_lastore_mo⟩ : jn_GEm jn_G0 jn_me138 51 (.inl jn_lastore)) <|
  jn_cons (⟨jn_iconst_ok (by decide +kernel), jn_iconst_mo 0⟩ : jn_GEm jn_G0 jn_me138 52 (.inl (jn_iconst 0))) <|
  jn_cons (⟨jn_istore_ok (i := 4) (by decide +kernel), jn_istore_mo 4⟩ : jn_GEm jn_G0 jn_me138 53 (.inl (jn_istore 4))) <|
  jn_cons (⟨jn_iload_ok (i := 4) (by decide +kernel), jn_iload_mo 4⟩ : jn_GEm jn_G0 jn_me138 55 (.inl (jn_iload 4))) <|
  jn_cons (⟨jn_aload_n_ok (i := 0) (k := 0) (by decide +kernel) rfl, jn_aload_n_mo 0⟩ : jn_GEm jn_G0 jn_me138 57 (.inl (jn_aload_n 0))) <|
  jn_cons (⟨jn_getf_ok (ci := 7) (k := 0) (i := 7) (N := 22) (C := RX7) (T := TX7) (by decide +kernel) rfl (by decide) jn_u7 (jn_in 615 (by decide +kernel) rfl), jn_getf_mo 7 0⟩ : jn_GEm jn_G0 jn_me138 58 (.inl (jn_getf 7 0))) <|
  jn_cons (⟨jn_iload_n_ok (i := 1) (k := 1) (by decide +kernel) rfl, jn_iload_n_mo 1⟩ : jn_GEm jn_G0 jn_me138 61 (.inl (jn_iload_n 1))) <|
  jn_cons (⟨jn_iaload_ok (by decide +kernel), jn_iaload_mo⟩ : jn_GEm jn_G0 jn_me138 62 (.inl jn_iaload)) <|
  jn_cons (⟨jn_icge_ok (t := 194) (off := 131) (by decide +kernel) (by decide), jn_icge_mo 194⟩ : jn_GEm jn_G0 jn_me138 63 (.inl (jn_icge 194))) <|
  jn_cons (⟨jn_iconst_ok (by decide +kernel), jn_iconst_mo 0⟩ : jn_GEm jn_G0 jn_me138 66 (.inl (jn_iconst 0))) <|
  jn_cons (⟨jn_istore_ok (i := 5) (by decide +kernel), jn_istore_mo 5⟩ : jn_GEm jn_G0 jn_me138 67 (.inl (jn_istore 5))) <|
  jn_cons (⟨jn_iload_ok (i := 5) (by decide +kernel), jn_iload_mo 5⟩ : jn_GEm jn_G0 jn_me138 69 (.inl (jn_iload 5))) <| jn_nil
theorem jn_o138_2 : ∀ q ∈ jn_c138_2, jn_GEm jn_G0 jn_me138 q.1 q.2 :=
  jn_cons (⟨jn_aload_n_ok (i := 0) (k := 0) (by decide +kernel) rfl, jn_aload_n_mo 0⟩ : jn_GEm jn_G0 jn_me138 71 (.inl (jn_aload_n 0))) <|
  jn_cons (⟨jn_getf_ok (ci := 7) (k := 0) (i := 7) (N := 22) (C := RX7) (T := TX7) (by decide +kernel) rfl (by decide) jn_u7 (jn_in 615 (by decide +kernel) rfl), jn_getf_mo 7 0⟩ : jn_GEm jn_G0 jn_me138 72 (.inl (jn_getf 7 0))) <|
  jn_cons (⟨jn_iload_n_ok (i := 1) (k := 1) (by decide +kernel) rfl, jn_iload_n_mo 1⟩ : jn_GEm jn_G0 jn_me138 75 (.inl (jn_iload_n 1))) <|
  jn_cons (⟨jn_iaload_ok (by decide +kernel), jn_iaload_mo⟩ : jn_GEm jn_G0 jn_me138 76 (.inl jn_iaload)) <|
  jn_cons (⟨jn_icge_ok (t := 188) (off := 111) (by decide +kernel) (by decide), jn_icge_mo 188⟩ : jn_GEm jn_G0 jn_me138 77 (.inl (jn_icge 188))) <|
  jn_cons (⟨jn_iload_ok (i := 4) (by decide +kernel), jn_iload_mo 4⟩ : jn_GEm jn_G0 jn_me138 80 (.inl (jn_iload 4))) <|
  jn_cons (⟨jn_iload_n_ok (i := 2) (k := 2) (by decide +kernel) rfl, jn_iload_n_mo 2⟩ : jn_GEm jn_G0 jn_me138 82 (.inl (jn_iload_n 2))) <|
  jn_cons (⟨jn_iceq_ok (t := 182) (off := 99) (by decide +kernel) (by decide), jn_iceq_mo 182⟩ : jn_GEm jn_G0 jn_me138 83 (.inl (jn_iceq 182))) <|
  jn_cons (⟨jn_iload_ok (i := 5) (by decide +kernel), jn_iload_mo 5⟩ : jn_GEm jn_G0 jn_me138 86 (.inl (jn_iload 5))) <|
  jn_cons (⟨jn_iload_n_ok (i := 2) (k := 2) (by decide +kernel) rfl, jn_iload_n_mo 2⟩ : jn_GEm jn_G0 jn_me138 88 (.inl (jn_iload_n 2))) <|
  jn_cons (⟨jn_icne_ok (t := 95) (off := 6) (by decide +kernel) (by decide), jn_icne_mo 95⟩ : jn_GEm jn_G0 jn_me138 89 (.inl (jn_icne 95))) <|
  jn_cons (⟨jn_goto_ok (t := 182) (off := 90) (by decide +kernel) (by decide), jn_goto_mo 182⟩ : jn_GEm jn_G0 jn_me138 92 (.inl (jn_goto 182))) <|
  jn_cons (⟨jn_aload_n_ok (i := 0) (k := 0) (by decide +kernel) rfl, jn_aload_n_mo 0⟩ : jn_GEm jn_G0 jn_me138 95 (.inl (jn_aload_n 0))) <|
  jn_cons (⟨jn_iload_n_ok (i := 1) (k := 1) (by decide +kernel) rfl, jn_iload_n_mo 1⟩ : jn_GEm jn_G0 jn_me138 96 (.inl (jn_iload_n 1))) <|
  jn_cons (⟨jn_iload_n_ok (i := 3) (k := 3) (by decide +kernel) rfl, jn_iload_n_mo 3⟩ : jn_GEm jn_G0 jn_me138 97 (.inl (jn_iload_n 3))) <|
  jn_cons (⟨jn_iconst_ok (by decide +kernel), jn_iconst_mo 1⟩ : jn_GEm jn_G0 jn_me138 98 (.inl (jn_iconst 1))) <|
  jn_cons (⟨jn_iload_ok (i := 5) (by decide +kernel), jn_iload_mo 5⟩ : jn_GEm jn_G0 jn_me138 99 (.inl (jn_iload 5))) <|
  jn_cons (⟨jn_ishl_ok (by decide +kernel), jn_ishl_mo⟩ : jn_GEm jn_G0 jn_me138 101 (.inl jn_ishl)) <|
  jn_cons (⟨jn_iconst_ok (by decide +kernel), jn_iconst_mo (-1)⟩ : jn_GEm jn_G0 jn_me138 102 (.inl (jn_iconst (-1)))) <|
  jn_cons (⟨jn_ixor_ok (by decide +kernel), jn_ixor_mo⟩ : jn_GEm jn_G0 jn_me138 103 (.inl jn_ixor)) <|
  jn_cons (⟨jn_iand_ok (by decide +kernel), jn_iand_mo⟩ : jn_GEm jn_G0 jn_me138 104 (.inl jn_iand)) <|
  jn_cons (⟨jn_iload_n_ok (i := 3) (k := 3) (by decide +kernel) rfl, jn_iload_n_mo 3⟩ : jn_GEm jn_G0 jn_me138 105 (.inl (jn_iload_n 3))) <|
  jn_cons (⟨jn_iconst_ok (by decide +kernel), jn_iconst_mo 1⟩ : jn_GEm jn_G0 jn_me138 106 (.inl (jn_iconst 1))) <|
  jn_cons (⟨jn_iload_ok (i := 4) (by decide +kernel), jn_iload_mo 4⟩ : jn_GEm jn_G0 jn_me138 107 (.inl (jn_iload 4))) <| jn_nil
theorem jn_o138_3 : ∀ q ∈ jn_c138_3, jn_GEm jn_G0 jn_me138 q.1 q.2 :=
  jn_cons (⟨jn_ishl_ok (by decide +kernel), jn_ishl_mo⟩ : jn_GEm jn_G0 jn_me138 109 (.inl jn_ishl)) <|
  jn_cons (⟨jn_iconst_ok (by decide +kernel), jn_iconst_mo (-1)⟩ : jn_GEm jn_G0 jn_me138 110 (.inl (jn_iconst (-1)))) <|
  jn_cons (⟨jn_ixor_ok (by decide +kernel), jn_ixor_mo⟩ : jn_GEm jn_G0 jn_me138 111 (.inl jn_ixor)) <|
  jn_cons (⟨jn_iand_ok (by decide +kernel), jn_iand_mo⟩ : jn_GEm jn_G0 jn_me138 112 (.inl jn_iand)) <|
  jn_cons (jn_gc_of jn_G0_112 (jn_callV (i := 129) (na := 3) (ci := 7) (q := (RX7, TX7, 22)) (by decide +kernel) rfl (jn_in 758 (by decide +kernel) rfl) (jn_in 755 (by decide +kernel) rfl) (jn_in 757 (by decide +kernel) rfl) (jn_in 30 (by decide +kernel) rfl) (jn_in 60 (by decide +kernel) rfl) ⟨by decide, by decide, by decide +kernel⟩) : jn_GEm jn_G0 jn_me138 113 (.inr (.inl (112, 9, 4)))) <|
  jn_cons (⟨jn_lstore_ok (i := 6) (by decide +kernel), jn_lstore_mo 6⟩ : jn_GEm jn_G0 jn_me138 116 (.inl (jn_lstore 6))) <|
  jn_cons (⟨jn_iload_n_ok (i := 3) (k := 3) (by decide +kernel) rfl, jn_iload_n_mo 3⟩ : jn_GEm jn_G0 jn_me138 118 (.inl (jn_iload_n 3))) <|
  jn_cons (⟨jn_iconst_ok (by decide +kernel), jn_iconst_mo 1⟩ : jn_GEm jn_G0 jn_me138 119 (.inl (jn_iconst 1))) <|
  jn_cons (⟨jn_iload_ok (i := 4) (by decide +kernel), jn_iload_mo 4⟩ : jn_GEm jn_G0 jn_me138 120 (.inl (jn_iload 4))) <|
  jn_cons (⟨jn_ishl_ok (by decide +kernel), jn_ishl_mo⟩ : jn_GEm jn_G0 jn_me138 122 (.inl jn_ishl)) <|
  jn_cons (⟨jn_iconst_ok (by decide +kernel), jn_iconst_mo 1⟩ : jn_GEm jn_G0 jn_me138 123 (.inl (jn_iconst 1))) <|
  jn_cons (⟨jn_isub_ok (by decide +kernel), jn_isub_mo⟩ : jn_GEm jn_G0 jn_me138 124 (.inl jn_isub)) <|
  jn_cons (⟨jn_iand_ok (by decide +kernel), jn_iand_mo⟩ : jn_GEm jn_G0 jn_me138 125 (.inl jn_iand)) <|
  jn_cons (jn_gc_of jn_G0_111 (jn_callS (i := 119) (na := 1) (by decide +kernel) (jn_in 761 (by decide +kernel) rfl) (jn_in 759 (by decide +kernel) rfl) (jn_in 760 (by decide +kernel) rfl) (jn_in 60 (by decide +kernel) rfl) ⟨by decide, by decide, by decide +kernel⟩) : jn_GEm jn_G0 jn_me138 126 (.inr (.inl (111, 0, 1)))) <|
  jn_cons (⟨jn_iload_n_ok (i := 3) (k := 3) (by decide +kernel) rfl, jn_iload_n_mo 3⟩ : jn_GEm jn_G0 jn_me138 129 (.inl (jn_iload_n 3))) <|
  jn_cons (⟨jn_iconst_ok (by decide +kernel), jn_iconst_mo 1⟩ : jn_GEm jn_G0 jn_me138 130 (.inl (jn_iconst 1))) <|
  jn_cons (⟨jn_iload_ok (i := 5) (by decide +kernel), jn_iload_mo 5⟩ : jn_GEm jn_G0 jn_me138 131 (.inl (jn_iload 5))) <|
  jn_cons (⟨jn_ishl_ok (by decide +kernel), jn_ishl_mo⟩ : jn_GEm jn_G0 jn_me138 133 (.inl jn_ishl)) <|
  jn_cons (⟨jn_iconst_ok (by decide +kernel), jn_iconst_mo 1⟩ : jn_GEm jn_G0 jn_me138 134 (.inl (jn_iconst 1))) <|
  jn_cons (⟨jn_isub_ok (by decide +kernel), jn_isub_mo⟩ : jn_GEm jn_G0 jn_me138 135 (.inl jn_isub)) <|
  jn_cons (⟨jn_iand_ok (by decide +kernel), jn_iand_mo⟩ : jn_GEm jn_G0 jn_me138 136 (.inl jn_iand)) <|
  jn_cons (jn_gc_of jn_G0_111 (jn_callS (i := 119) (na := 1) (by decide +kernel) (jn_in 761 (by decide +kernel) rfl) (jn_in 759 (by decide +kernel) rfl) (jn_in 760 (by decide +kernel) rfl) (jn_in 60 (by decide +kernel) rfl) ⟨by decide, by decide, by decide +kernel⟩) : jn_GEm jn_G0 jn_me138 137 (.inr (.inl (111, 0, 1)))) <|
  jn_cons (⟨jn_iadd_ok (by decide +kernel), jn_iadd_mo⟩ : jn_GEm jn_G0 jn_me138 140 (.inl jn_iadd)) <|
  jn_cons (⟨jn_istore_ok (i := 8) (by decide +kernel), jn_istore_mo 8⟩ : jn_GEm jn_G0 jn_me138 141 (.inl (jn_istore 8))) <| jn_nil
theorem jn_o138_4 : ∀ q ∈ jn_c138_4, jn_GEm jn_G0 jn_me138 q.1 q.2 :=
  jn_cons (⟨jn_aload_n_ok (i := 0) (k := 0) (by decide +kernel) rfl, jn_aload_n_mo 0⟩ : jn_GEm jn_G0 jn_me138 143 (.inl (jn_aload_n 0))) <|
  jn_cons (⟨jn_getf_ok (ci := 7) (k := 11) (i := 38) (N := 22) (C := RX7) (T := TX7) (by decide +kernel) rfl (by decide) jn_u7 (jn_in 626 (by decide +kernel) rfl), jn_getf_mo 7 11⟩ : jn_GEm jn_G0 jn_me138 144 (.inl (jn_getf 7 11))) <|
  jn_cons (⟨jn_bipush_ok (n := 36) (v := 36) (by decide +kernel) (by decide), jn_bipush_mo 36⟩ : jn_GEm jn_G0 jn_me138 147 (.inl (jn_bipush 36))) <|
  jn_cons (⟨jn_bipush_ok (n := 6) (v := 6) (by decide +kernel) (by decide), jn_bipush_mo 6⟩ : jn_GEm jn_G0 jn_me138 149 (.inl (jn_bipush 6))) <|
  jn_cons (⟨jn_iload_n_ok (i := 1) (k := 1) (by decide +kernel) rfl, jn_iload_n_mo 1⟩ : jn_GEm jn_G0 jn_me138 151 (.inl (jn_iload_n 1))) <|
  jn_cons (⟨jn_imul_ok (by decide +kernel), jn_imul_mo⟩ : jn_GEm jn_G0 jn_me138 152 (.inl jn_imul)) <|
  jn_cons (⟨jn_iload_n_ok (i := 2) (k := 2) (by decide +kernel) rfl, jn_iload_n_mo 2⟩ : jn_GEm jn_G0 jn_me138 153 (.inl (jn_iload_n 2))) <|
  jn_cons (⟨jn_iadd_ok (by decide +kernel), jn_iadd_mo⟩ : jn_GEm jn_G0 jn_me138 154 (.inl jn_iadd)) <|
  jn_cons (⟨jn_imul_ok (by decide +kernel), jn_imul_mo⟩ : jn_GEm jn_G0 jn_me138 155 (.inl jn_imul)) <|
  jn_cons (⟨jn_bipush_ok (n := 6) (v := 6) (by decide +kernel) (by decide), jn_bipush_mo 6⟩ : jn_GEm jn_G0 jn_me138 156 (.inl (jn_bipush 6))) <|
  jn_cons (⟨jn_iload_ok (i := 4) (by decide +kernel), jn_iload_mo 4⟩ : jn_GEm jn_G0 jn_me138 158 (.inl (jn_iload 4))) <|
  jn_cons (⟨jn_imul_ok (by decide +kernel), jn_imul_mo⟩ : jn_GEm jn_G0 jn_me138 160 (.inl jn_imul)) <|
  jn_cons (⟨jn_iadd_ok (by decide +kernel), jn_iadd_mo⟩ : jn_GEm jn_G0 jn_me138 161 (.inl jn_iadd)) <|
  jn_cons (⟨jn_iload_ok (i := 5) (by decide +kernel), jn_iload_mo 5⟩ : jn_GEm jn_G0 jn_me138 162 (.inl (jn_iload 5))) <|
  jn_cons (⟨jn_iadd_ok (by decide +kernel), jn_iadd_mo⟩ : jn_GEm jn_G0 jn_me138 164 (.inl jn_iadd)) <|
  jn_cons (⟨jn_iload_ok (i := 8) (by decide +kernel), jn_iload_mo 8⟩ : jn_GEm jn_G0 jn_me138 165 (.inl (jn_iload 8))) <|
  jn_cons (⟨jn_iconst_ok (by decide +kernel), jn_iconst_mo 2⟩ : jn_GEm jn_G0 jn_me138 167 (.inl (jn_iconst 2))) <|
  jn_cons (⟨jn_irem_ok (by decide +kernel), jn_irem_mo⟩ : jn_GEm jn_G0 jn_me138 168 (.inl jn_irem)) <|
  jn_cons (⟨jn_iconst_ok (by decide +kernel), jn_iconst_mo 1⟩ : jn_GEm jn_G0 jn_me138 169 (.inl (jn_iconst 1))) <|
  jn_cons (⟨jn_icne_ok (t := 179) (off := 9) (by decide +kernel) (by decide), jn_icne_mo 179⟩ : jn_GEm jn_G0 jn_me138 170 (.inl (jn_icne 179))) <|
  jn_cons (⟨jn_lload_ok (i := 6) (by decide +kernel), jn_lload_mo 6⟩ : jn_GEm jn_G0 jn_me138 173 (.inl (jn_lload 6))) <|
  jn_cons (⟨jn_lneg_ok (by decide +kernel), jn_lneg_mo⟩ : jn_GEm jn_G0 jn_me138 175 (.inl jn_lneg)) <|
  jn_cons (⟨jn_goto_ok (t := 181) (off := 5) (by decide +kernel) (by decide), jn_goto_mo 181⟩ : jn_GEm jn_G0 jn_me138 176 (.inl (jn_goto 181))) <|
  jn_cons (⟨jn_lload_ok (i := 6) (by decide +kernel), jn_lload_mo 6⟩ : jn_GEm jn_G0 jn_me138 179 (.inl (jn_lload 6))) <| jn_nil
theorem jn_o138_5 : ∀ q ∈ jn_c138_5, jn_GEm jn_G0 jn_me138 q.1 q.2 :=
  jn_cons (⟨jn_lastore_ok (by decide +kernel), jn_lastore_mo⟩ : jn_GEm jn_G0 jn_me138 181 (.inl jn_lastore)) <|
  jn_cons (⟨jn_iinc_ok (i := 5) (n := 1) (by decide +kernel), jn_iinc_mo 5 1⟩ : jn_GEm jn_G0 jn_me138 182 (.inl (jn_iinc 5 1))) <|
  jn_cons (⟨jn_goto_ok (t := 69) (off := -116) (by decide +kernel) (by decide), jn_goto_mo 69⟩ : jn_GEm jn_G0 jn_me138 185 (.inl (jn_goto 69))) <|
  jn_cons (⟨jn_iinc_ok (i := 4) (n := 1) (by decide +kernel), jn_iinc_mo 4 1⟩ : jn_GEm jn_G0 jn_me138 188 (.inl (jn_iinc 4 1))) <|
  jn_cons (⟨jn_goto_ok (t := 55) (off := -136) (by decide +kernel) (by decide), jn_goto_mo 55⟩ : jn_GEm jn_G0 jn_me138 191 (.inl (jn_goto 55))) <|
  jn_cons (⟨(by decide +kernel), rfl⟩ : jn_GEm jn_G0 jn_me138 194 (.inr (.inr 0))) <| jn_nil
theorem jn_ok138 : jn_GM jn_G0 138 := jn_GM_of jn_G0_138 rfl rfl (by decide +kernel) (by decide) (jn_appd jn_o138_0 (jn_appd jn_o138_1 (jn_appd jn_o138_2 (jn_appd jn_o138_3 (jn_appd jn_o138_4 (jn_o138_5))))))
theorem jn_o139_0 : ∀ q ∈ jn_c139_0, jn_GEm jn_G0 jn_me139 q.1 q.2 :=
  jn_cons (⟨jn_lconst_ok (n := 0) (v := 0) (by decide +kernel) (by decide), jn_lconst_mo 0⟩ : jn_GEm jn_G0 jn_me139 0 (.inl (jn_lconst 0))) <|
  jn_cons (⟨jn_lstore_ok (i := 4) (by decide +kernel), jn_lstore_mo 4⟩ : jn_GEm jn_G0 jn_me139 1 (.inl (jn_lstore 4))) <|
  jn_cons (⟨jn_iconst_ok (by decide +kernel), jn_iconst_mo 0⟩ : jn_GEm jn_G0 jn_me139 3 (.inl (jn_iconst 0))) <|
  jn_cons (⟨jn_istore_ok (i := 6) (by decide +kernel), jn_istore_mo 6⟩ : jn_GEm jn_G0 jn_me139 4 (.inl (jn_istore 6))) <|
  jn_cons (⟨jn_iload_ok (i := 6) (by decide +kernel), jn_iload_mo 6⟩ : jn_GEm jn_G0 jn_me139 6 (.inl (jn_iload 6))) <|
  jn_cons (⟨jn_aload_n_ok (i := 0) (k := 0) (by decide +kernel) rfl, jn_aload_n_mo 0⟩ : jn_GEm jn_G0 jn_me139 8 (.inl (jn_aload_n 0))) <|
  jn_cons (⟨jn_getf_ok (ci := 7) (k := 0) (i := 7) (N := 22) (C := RX7) (T := TX7) (by decide +kernel) rfl (by decide) jn_u7 (jn_in 615 (by decide +kernel) rfl), jn_getf_mo 7 0⟩ : jn_GEm jn_G0 jn_me139 9 (.inl (jn_getf 7 0))) <|
  jn_cons (⟨jn_iload_n_ok (i := 1) (k := 1) (by decide +kernel) rfl, jn_iload_n_mo 1⟩ : jn_GEm jn_G0 jn_me139 12 (.inl (jn_iload_n 1))) <|
  jn_cons (⟨jn_iaload_ok (by decide +kernel), jn_iaload_mo⟩ : jn_GEm jn_G0 jn_me139 13 (.inl jn_iaload)) <|
  jn_cons (⟨jn_icge_ok (t := 64) (off := 50) (by decide +kernel) (by decide), jn_icge_mo 64⟩ : jn_GEm jn_G0 jn_me139 14 (.inl (jn_icge 64))) <|
  jn_cons (⟨jn_iload_ok (i := 6) (by decide +kernel), jn_iload_mo 6⟩ : jn_GEm jn_G0 jn_me139 17 (.inl (jn_iload 6))) <|
  jn_cons (⟨jn_iload_n_ok (i := 2) (k := 2) (by decide +kernel) rfl, jn_iload_n_mo 2⟩ : jn_GEm jn_G0 jn_me139 19 (.inl (jn_iload_n 2))) <|
  jn_cons (⟨jn_iceq_ok (t := 58) (off := 38) (by decide +kernel) (by decide), jn_iceq_mo 58⟩ : jn_GEm jn_G0 jn_me139 20 (.inl (jn_iceq 58))) <|
  jn_cons (⟨jn_lload_ok (i := 4) (by decide +kernel), jn_lload_mo 4⟩ : jn_GEm jn_G0 jn_me139 23 (.inl (jn_lload 4))) <|
  jn_cons (⟨jn_aload_n_ok (i := 0) (k := 0) (by decide +kernel) rfl, jn_aload_n_mo 0⟩ : jn_GEm jn_G0 jn_me139 25 (.inl (jn_aload_n 0))) <|
  jn_cons (⟨jn_getf_ok (ci := 7) (k := 11) (i := 38) (N := 22) (C := RX7) (T := TX7) (by decide +kernel) rfl (by decide) jn_u7 (jn_in 626 (by decide +kernel) rfl), jn_getf_mo 7 11⟩ : jn_GEm jn_G0 jn_me139 26 (.inl (jn_getf 7 11))) <|
  jn_cons (⟨jn_bipush_ok (n := 36) (v := 36) (by decide +kernel) (by decide), jn_bipush_mo 36⟩ : jn_GEm jn_G0 jn_me139 29 (.inl (jn_bipush 36))) <|
  jn_cons (⟨jn_bipush_ok (n := 6) (v := 6) (by decide +kernel) (by decide), jn_bipush_mo 6⟩ : jn_GEm jn_G0 jn_me139 31 (.inl (jn_bipush 6))) <|
  jn_cons (⟨jn_iload_n_ok (i := 1) (k := 1) (by decide +kernel) rfl, jn_iload_n_mo 1⟩ : jn_GEm jn_G0 jn_me139 33 (.inl (jn_iload_n 1))) <|
  jn_cons (⟨jn_imul_ok (by decide +kernel), jn_imul_mo⟩ : jn_GEm jn_G0 jn_me139 34 (.inl jn_imul)) <|
  jn_cons (⟨jn_iload_n_ok (i := 2) (k := 2) (by decide +kernel) rfl, jn_iload_n_mo 2⟩ : jn_GEm jn_G0 jn_me139 35 (.inl (jn_iload_n 2))) <|
  jn_cons (⟨jn_iadd_ok (by decide +kernel), jn_iadd_mo⟩ : jn_GEm jn_G0 jn_me139 36 (.inl jn_iadd)) <|
  jn_cons (⟨jn_imul_ok (by decide +kernel), jn_imul_mo⟩ : jn_GEm jn_G0 jn_me139 37 (.inl jn_imul)) <|
  jn_cons (⟨jn_bipush_ok (n := 6) (v := 6) (by decide +kernel) (by decide), jn_bipush_mo 6⟩ : jn_GEm jn_G0 jn_me139 38 (.inl (jn_bipush 6))) <| jn_nil
theorem jn_o139_1 : ∀ q ∈ jn_c139_1, jn_GEm jn_G0 jn_me139 q.1 q.2 :=
  jn_cons (⟨jn_iload_n_ok (i := 3) (k := 3) (by decide +kernel) rfl, jn_iload_n_mo 3⟩ : jn_GEm jn_G0 jn_me139 40 (.inl (jn_iload_n 3))) <|
  jn_cons (⟨jn_imul_ok (by decide +kernel), jn_imul_mo⟩ : jn_GEm jn_G0 jn_me139 41 (.inl jn_imul)) <|
  jn_cons (⟨jn_iadd_ok (by decide +kernel), jn_iadd_mo⟩ : jn_GEm jn_G0 jn_me139 42 (.inl jn_iadd)) <|
  jn_cons (⟨jn_iload_ok (i := 6) (by decide +kernel), jn_iload_mo 6⟩ : jn_GEm jn_G0 jn_me139 43 (.inl (jn_iload 6))) <|
  jn_cons (⟨jn_iadd_ok (by decide +kernel), jn_iadd_mo⟩ : jn_GEm jn_G0 jn_me139 45 (.inl jn_iadd)) <|
  jn_cons (⟨jn_laload_ok (by decide +kernel), jn_laload_mo⟩ : jn_GEm jn_G0 jn_me139 46 (.inl jn_laload)) <|
  jn_cons (⟨jn_aload_n_ok (i := 0) (k := 0) (by decide +kernel) rfl, jn_aload_n_mo 0⟩ : jn_GEm jn_G0 jn_me139 47 (.inl (jn_aload_n 0))) <|
  jn_cons (⟨jn_getf_ok (ci := 7) (k := 8) (i := 29) (N := 22) (C := RX7) (T := TX7) (by decide +kernel) rfl (by decide) jn_u7 (jn_in 623 (by decide +kernel) rfl), jn_getf_mo 7 8⟩ : jn_GEm jn_G0 jn_me139 48 (.inl (jn_getf 7 8))) <|
  jn_cons (⟨jn_iload_ok (i := 6) (by decide +kernel), jn_iload_mo 6⟩ : jn_GEm jn_G0 jn_me139 51 (.inl (jn_iload 6))) <|
  jn_cons (⟨jn_laload_ok (by decide +kernel), jn_laload_mo⟩ : jn_GEm jn_G0 jn_me139 53 (.inl jn_laload)) <|
  jn_cons (⟨jn_lmul_ok (by decide +kernel), jn_lmul_mo⟩ : jn_GEm jn_G0 jn_me139 54 (.inl jn_lmul)) <|
  jn_cons (⟨jn_ladd_ok (by decide +kernel), jn_ladd_mo⟩ : jn_GEm jn_G0 jn_me139 55 (.inl jn_ladd)) <|
  jn_cons (⟨jn_lstore_ok (i := 4) (by decide +kernel), jn_lstore_mo 4⟩ : jn_GEm jn_G0 jn_me139 56 (.inl (jn_lstore 4))) <|
  jn_cons (⟨jn_iinc_ok (i := 6) (n := 1) (by decide +kernel), jn_iinc_mo 6 1⟩ : jn_GEm jn_G0 jn_me139 58 (.inl (jn_iinc 6 1))) <|
  jn_cons (⟨jn_goto_ok (t := 6) (off := -55) (by decide +kernel) (by decide), jn_goto_mo 6⟩ : jn_GEm jn_G0 jn_me139 61 (.inl (jn_goto 6))) <|
  jn_cons (⟨jn_lload_ok (i := 4) (by decide +kernel), jn_lload_mo 4⟩ : jn_GEm jn_G0 jn_me139 64 (.inl (jn_lload 4))) <|
  jn_cons (⟨(by decide +kernel), rfl⟩ : jn_GEm jn_G0 jn_me139 66 (.inr (.inr 3))) <| jn_nil
theorem jn_ok139 : jn_GM jn_G0 139 := jn_GM_of jn_G0_139 rfl rfl (by decide +kernel) (by decide) (jn_appd jn_o139_0 (jn_o139_1))
theorem jn_o140_0 : ∀ q ∈ jn_c140_0, jn_GEm jn_G0 jn_me140 q.1 q.2 :=
  jn_cons (⟨jn_aload_n_ok (i := 0) (k := 0) (by decide +kernel) rfl, jn_aload_n_mo 0⟩ : jn_GEm jn_G0 jn_me140 0 (.inl (jn_aload_n 0))) <|
  jn_cons (⟨jn_iload_n_ok (i := 1) (k := 1) (by decide +kernel) rfl, jn_iload_n_mo 1⟩ : jn_GEm jn_G0 jn_me140 1 (.inl (jn_iload_n 1))) <|
  jn_cons (⟨jn_iload_n_ok (i := 2) (k := 2) (by decide +kernel) rfl, jn_iload_n_mo 2⟩ : jn_GEm jn_G0 jn_me140 2 (.inl (jn_iload_n 2))) <|
  jn_cons (jn_gc_of jn_G0_121 (jn_callV (i := 150) (na := 2) (ci := 7) (q := (RX7, TX7, 22)) (by decide +kernel) rfl (jn_in 792 (by decide +kernel) rfl) (jn_in 789 (by decide +kernel) rfl) (jn_in 791 (by decide +kernel) rfl) (jn_in 33 (by decide +kernel) rfl) (jn_in 60 (by decide +kernel) rfl) ⟨by decide, by decide, by decide +kernel⟩) : jn_GEm jn_G0 jn_me140 3 (.inr (.inl (121, 9, 3)))) <|
  jn_cons (⟨jn_ifne_ok (t := 16) (off := 10) (by decide +kernel) (by decide), jn_ifne_mo 16⟩ : jn_GEm jn_G0 jn_me140 6 (.inl (jn_ifne 16))) <|
  jn_cons (⟨jn_aload_n_ok (i := 0) (k := 0) (by decide +kernel) rfl, jn_aload_n_mo 0⟩ : jn_GEm jn_G0 jn_me140 9 (.inl (jn_aload_n 0))) <|
  jn_cons (⟨jn_bipush_ok (n := (-3)) (v := (-3)) (by decide +kernel) (by decide), jn_bipush_mo (-3)⟩ : jn_GEm jn_G0 jn_me140 10 (.inl (jn_bipush (-3)))) <|
  jn_cons (jn_gc_of jn_G0_95 (jn_callV (i := 73) (na := 1) (ci := 7) (q := (RX7, TX7, 22)) (by decide +kernel) rfl (jn_in 694 (by decide +kernel) rfl) (jn_in 691 (by decide +kernel) rfl) (jn_in 693 (by decide +kernel) rfl) (jn_in 19 (by decide +kernel) rfl) (jn_in 60 (by decide +kernel) rfl) ⟨by decide, by decide, by decide +kernel⟩) : jn_GEm jn_G0 jn_me140 12 (.inr (.inl (95, 9, 2)))) <|
  jn_cons (⟨(by decide +kernel), rfl⟩ : jn_GEm jn_G0 jn_me140 15 (.inr (.inr 1))) <|
  jn_cons (⟨jn_aload_n_ok (i := 0) (k := 0) (by decide +kernel) rfl, jn_aload_n_mo 0⟩ : jn_GEm jn_G0 jn_me140 16 (.inl (jn_aload_n 0))) <|
  jn_cons (⟨jn_aload_n_ok (i := 0) (k := 0) (by decide +kernel) rfl, jn_aload_n_mo 0⟩ : jn_GEm jn_G0 jn_me140 17 (.inl (jn_aload_n 0))) <|
  jn_cons (⟨jn_getf_ok (ci := 7) (k := 4) (i := 16) (N := 22) (C := RX7) (T := TX7) (by decide +kernel) rfl (by decide) jn_u7 (jn_in 619 (by decide +kernel) rfl), jn_getf_mo 7 4⟩ : jn_GEm jn_G0 jn_me140 18 (.inl (jn_getf 7 4))) <|
  jn_cons (⟨jn_iload_n_ok (i := 1) (k := 1) (by decide +kernel) rfl, jn_iload_n_mo 1⟩ : jn_GEm jn_G0 jn_me140 21 (.inl (jn_iload_n 1))) <|
  jn_cons (⟨jn_iaload_ok (by decide +kernel), jn_iaload_mo⟩ : jn_GEm jn_G0 jn_me140 22 (.inl jn_iaload)) <|
  jn_cons (jn_gc_of jn_G0_106 (jn_callV (i := 110) (na := 1) (ci := 7) (q := (RX7, TX7, 22)) (by decide +kernel) rfl (jn_in 722 (by decide +kernel) rfl) (jn_in 719 (by decide +kernel) rfl) (jn_in 721 (by decide +kernel) rfl) (jn_in 23 (by decide +kernel) rfl) (jn_in 60 (by decide +kernel) rfl) ⟨by decide, by decide, by decide +kernel⟩) : jn_GEm jn_G0 jn_me140 23 (.inr (.inl (106, 9, 2)))) <|
  jn_cons (⟨jn_ifne_ok (t := 36) (off := 10) (by decide +kernel) (by decide), jn_ifne_mo 36⟩ : jn_GEm jn_G0 jn_me140 26 (.inl (jn_ifne 36))) <|
  jn_cons (⟨jn_aload_n_ok (i := 0) (k := 0) (by decide +kernel) rfl, jn_aload_n_mo 0⟩ : jn_GEm jn_G0 jn_me140 29 (.inl (jn_aload_n 0))) <|
  jn_cons (⟨jn_bipush_ok (n := (-5)) (v := (-5)) (by decide +kernel) (by decide), jn_bipush_mo (-5)⟩ : jn_GEm jn_G0 jn_me140 30 (.inl (jn_bipush (-5)))) <|
  jn_cons (jn_gc_of jn_G0_95 (jn_callV (i := 73) (na := 1) (ci := 7) (q := (RX7, TX7, 22)) (by decide +kernel) rfl (jn_in 694 (by decide +kernel) rfl) (jn_in 691 (by decide +kernel) rfl) (jn_in 693 (by decide +kernel) rfl) (jn_in 19 (by decide +kernel) rfl) (jn_in 60 (by decide +kernel) rfl) ⟨by decide, by decide, by decide +kernel⟩) : jn_GEm jn_G0 jn_me140 32 (.inr (.inl (95, 9, 2)))) <|
  jn_cons (⟨(by decide +kernel), rfl⟩ : jn_GEm jn_G0 jn_me140 35 (.inr (.inr 1))) <|
  jn_cons (⟨jn_aload_n_ok (i := 0) (k := 0) (by decide +kernel) rfl, jn_aload_n_mo 0⟩ : jn_GEm jn_G0 jn_me140 36 (.inl (jn_aload_n 0))) <|
  jn_cons (⟨jn_iload_n_ok (i := 1) (k := 1) (by decide +kernel) rfl, jn_iload_n_mo 1⟩ : jn_GEm jn_G0 jn_me140 37 (.inl (jn_iload_n 1))) <|
  jn_cons (jn_gc_of jn_G0_127 (jn_callV (i := 168) (na := 1) (ci := 7) (q := (RX7, TX7, 22)) (by decide +kernel) rfl (jn_in 824 (by decide +kernel) rfl) (jn_in 821 (by decide +kernel) rfl) (jn_in 823 (by decide +kernel) rfl) (jn_in 36 (by decide +kernel) rfl) (jn_in 60 (by decide +kernel) rfl) ⟨by decide, by decide, by decide +kernel⟩) : jn_GEm jn_G0 jn_me140 38 (.inr (.inl (127, 9, 2)))) <|
  jn_cons (⟨jn_aload_n_ok (i := 0) (k := 0) (by decide +kernel) rfl, jn_aload_n_mo 0⟩ : jn_GEm jn_G0 jn_me140 41 (.inl (jn_aload_n 0))) <| jn_nil
theorem jn_o140_1 : ∀ q ∈ jn_c140_1, jn_GEm jn_G0 jn_me140 q.1 q.2 :=
  jn_cons (⟨jn_aload_n_ok (i := 0) (k := 0) (by decide +kernel) rfl, jn_aload_n_mo 0⟩ : jn_GEm jn_G0 jn_me140 42 (.inl (jn_aload_n 0))) <|
  jn_cons (⟨jn_getf_ok (ci := 7) (k := 4) (i := 16) (N := 22) (C := RX7) (T := TX7) (by decide +kernel) rfl (by decide) jn_u7 (jn_in 619 (by decide +kernel) rfl), jn_getf_mo 7 4⟩ : jn_GEm jn_G0 jn_me140 43 (.inl (jn_getf 7 4))) <|
  jn_cons (⟨jn_iload_n_ok (i := 1) (k := 1) (by decide +kernel) rfl, jn_iload_n_mo 1⟩ : jn_GEm jn_G0 jn_me140 46 (.inl (jn_iload_n 1))) <|
  jn_cons (⟨jn_iaload_ok (by decide +kernel), jn_iaload_mo⟩ : jn_GEm jn_G0 jn_me140 47 (.inl jn_iaload)) <|
  jn_cons (⟨jn_iload_n_ok (i := 2) (k := 2) (by decide +kernel) rfl, jn_iload_n_mo 2⟩ : jn_GEm jn_G0 jn_me140 48 (.inl (jn_iload_n 2))) <|
  jn_cons (jn_gc_of jn_G0_137 (jn_callV (i := 194) (na := 2) (ci := 7) (q := (RX7, TX7, 22)) (by decide +kernel) rfl (jn_in 868 (by decide +kernel) rfl) (jn_in 865 (by decide +kernel) rfl) (jn_in 867 (by decide +kernel) rfl) (jn_in 40 (by decide +kernel) rfl) (jn_in 60 (by decide +kernel) rfl) ⟨by decide, by decide, by decide +kernel⟩) : jn_GEm jn_G0 jn_me140 49 (.inr (.inl (137, 9, 3)))) <|
  jn_cons (⟨jn_aload_n_ok (i := 0) (k := 0) (by decide +kernel) rfl, jn_aload_n_mo 0⟩ : jn_GEm jn_G0 jn_me140 52 (.inl (jn_aload_n 0))) <|
  jn_cons (⟨jn_iload_n_ok (i := 1) (k := 1) (by decide +kernel) rfl, jn_iload_n_mo 1⟩ : jn_GEm jn_G0 jn_me140 53 (.inl (jn_iload_n 1))) <|
  jn_cons (jn_gc_of jn_G0_129 (jn_callV (i := 176) (na := 1) (ci := 7) (q := (RX7, TX7, 22)) (by decide +kernel) rfl (jn_in 832 (by decide +kernel) rfl) (jn_in 829 (by decide +kernel) rfl) (jn_in 831 (by decide +kernel) rfl) (jn_in 38 (by decide +kernel) rfl) (jn_in 60 (by decide +kernel) rfl) ⟨by decide, by decide, by decide +kernel⟩) : jn_GEm jn_G0 jn_me140 54 (.inr (.inl (129, 9, 2)))) <|
  jn_cons (⟨jn_istore_n_ok (i := 3) (k := 3) (by decide +kernel) rfl, jn_istore_n_mo 3⟩ : jn_GEm jn_G0 jn_me140 57 (.inl (jn_istore_n 3))) <|
  jn_cons (⟨jn_iload_n_ok (i := 3) (k := 3) (by decide +kernel) rfl, jn_iload_n_mo 3⟩ : jn_GEm jn_G0 jn_me140 58 (.inl (jn_iload_n 3))) <|
  jn_cons (⟨jn_ifge_ok (t := 71) (off := 12) (by decide +kernel) (by decide), jn_ifge_mo 71⟩ : jn_GEm jn_G0 jn_me140 59 (.inl (jn_ifge 71))) <|
  jn_cons (⟨jn_aload_n_ok (i := 0) (k := 0) (by decide +kernel) rfl, jn_aload_n_mo 0⟩ : jn_GEm jn_G0 jn_me140 62 (.inl (jn_aload_n 0))) <|
  jn_cons (⟨jn_bipush_ok (n := (-8)) (v := (-8)) (by decide +kernel) (by decide), jn_bipush_mo (-8)⟩ : jn_GEm jn_G0 jn_me140 63 (.inl (jn_bipush (-8)))) <|
  jn_cons (jn_gc_of jn_G0_95 (jn_callV (i := 73) (na := 1) (ci := 7) (q := (RX7, TX7, 22)) (by decide +kernel) rfl (jn_in 694 (by decide +kernel) rfl) (jn_in 691 (by decide +kernel) rfl) (jn_in 693 (by decide +kernel) rfl) (jn_in 19 (by decide +kernel) rfl) (jn_in 60 (by decide +kernel) rfl) ⟨by decide, by decide, by decide +kernel⟩) : jn_GEm jn_G0 jn_me140 65 (.inr (.inl (95, 9, 2)))) <|
  jn_cons (⟨jn_goto_ok (t := 72) (off := 4) (by decide +kernel) (by decide), jn_goto_mo 72⟩ : jn_GEm jn_G0 jn_me140 68 (.inl (jn_goto 72))) <|
  jn_cons (⟨jn_iload_n_ok (i := 3) (k := 3) (by decide +kernel) rfl, jn_iload_n_mo 3⟩ : jn_GEm jn_G0 jn_me140 71 (.inl (jn_iload_n 3))) <|
  jn_cons (⟨(by decide +kernel), rfl⟩ : jn_GEm jn_G0 jn_me140 72 (.inr (.inr 1))) <| jn_nil
theorem jn_ok140 : jn_GM jn_G0 140 := jn_GM_of jn_G0_140 rfl rfl (by decide +kernel) (by decide) (jn_appd jn_o140_0 (jn_o140_1))
theorem jn_o141_0 : ∀ q ∈ jn_c141_0, jn_GEm jn_G0 jn_me141 q.1 q.2 :=
  jn_cons (⟨jn_aload_n_ok (i := 0) (k := 0) (by decide +kernel) rfl, jn_aload_n_mo 0⟩ : jn_GEm jn_G0 jn_me141 0 (.inl (jn_aload_n 0))) <|
  jn_cons (⟨jn_iload_n_ok (i := 1) (k := 1) (by decide +kernel) rfl, jn_iload_n_mo 1⟩ : jn_GEm jn_G0 jn_me141 1 (.inl (jn_iload_n 1))) <|
  jn_cons (jn_gc_of jn_G0_127 (jn_callV (i := 168) (na := 1) (ci := 7) (q := (RX7, TX7, 22)) (by decide +kernel) rfl (jn_in 824 (by decide +kernel) rfl) (jn_in 821 (by decide +kernel) rfl) (jn_in 823 (by decide +kernel) rfl) (jn_in 36 (by decide +kernel) rfl) (jn_in 60 (by decide +kernel) rfl) ⟨by decide, by decide, by decide +kernel⟩) : jn_GEm jn_G0 jn_me141 2 (.inr (.inl (127, 9, 2)))) <|
  jn_cons (⟨jn_aload_n_ok (i := 0) (k := 0) (by decide +kernel) rfl, jn_aload_n_mo 0⟩ : jn_GEm jn_G0 jn_me141 5 (.inl (jn_aload_n 0))) <|
  jn_cons (⟨jn_aload_n_ok (i := 0) (k := 0) (by decide +kernel) rfl, jn_aload_n_mo 0⟩ : jn_GEm jn_G0 jn_me141 6 (.inl (jn_aload_n 0))) <|
  jn_cons (⟨jn_getf_ok (ci := 7) (k := 4) (i := 16) (N := 22) (C := RX7) (T := TX7) (by decide +kernel) rfl (by decide) jn_u7 (jn_in 619 (by decide +kernel) rfl), jn_getf_mo 7 4⟩ : jn_GEm jn_G0 jn_me141 7 (.inl (jn_getf 7 4))) <|
  jn_cons (⟨jn_iload_n_ok (i := 1) (k := 1) (by decide +kernel) rfl, jn_iload_n_mo 1⟩ : jn_GEm jn_G0 jn_me141 10 (.inl (jn_iload_n 1))) <|
  jn_cons (⟨jn_iaload_ok (by decide +kernel), jn_iaload_mo⟩ : jn_GEm jn_G0 jn_me141 11 (.inl jn_iaload)) <|
  jn_cons (⟨jn_iconst_ok (by decide +kernel), jn_iconst_mo 0⟩ : jn_GEm jn_G0 jn_me141 12 (.inl (jn_iconst 0))) <|
  jn_cons (jn_gc_of jn_G0_137 (jn_callV (i := 194) (na := 2) (ci := 7) (q := (RX7, TX7, 22)) (by decide +kernel) rfl (jn_in 868 (by decide +kernel) rfl) (jn_in 865 (by decide +kernel) rfl) (jn_in 867 (by decide +kernel) rfl) (jn_in 40 (by decide +kernel) rfl) (jn_in 60 (by decide +kernel) rfl) ⟨by decide, by decide, by decide +kernel⟩) : jn_GEm jn_G0 jn_me141 13 (.inr (.inl (137, 9, 3)))) <|
  jn_cons (⟨jn_iconst_ok (by decide +kernel), jn_iconst_mo 0⟩ : jn_GEm jn_G0 jn_me141 16 (.inl (jn_iconst 0))) <|
  jn_cons (⟨jn_istore_n_ok (i := 3) (k := 3) (by decide +kernel) rfl, jn_istore_n_mo 3⟩ : jn_GEm jn_G0 jn_me141 17 (.inl (jn_istore_n 3))) <|
  jn_cons (⟨jn_iload_n_ok (i := 3) (k := 3) (by decide +kernel) rfl, jn_iload_n_mo 3⟩ : jn_GEm jn_G0 jn_me141 18 (.inl (jn_iload_n 3))) <|
  jn_cons (⟨jn_bipush_ok (n := 6) (v := 6) (by decide +kernel) (by decide), jn_bipush_mo 6⟩ : jn_GEm jn_G0 jn_me141 19 (.inl (jn_bipush 6))) <|
  jn_cons (⟨jn_icge_ok (t := 54) (off := 33) (by decide +kernel) (by decide), jn_icge_mo 54⟩ : jn_GEm jn_G0 jn_me141 21 (.inl (jn_icge 54))) <|
  jn_cons (⟨jn_aload_n_ok (i := 0) (k := 0) (by decide +kernel) rfl, jn_aload_n_mo 0⟩ : jn_GEm jn_G0 jn_me141 24 (.inl (jn_aload_n 0))) <|
  jn_cons (⟨jn_getf_ok (ci := 7) (k := 14) (i := 48) (N := 22) (C := RX7) (T := TX7) (by decide +kernel) rfl (by decide) jn_u7 (jn_in 629 (by decide +kernel) rfl), jn_getf_mo 7 14⟩ : jn_GEm jn_G0 jn_me141 25 (.inl (jn_getf 7 14))) <|
  jn_cons (⟨jn_iload_n_ok (i := 3) (k := 3) (by decide +kernel) rfl, jn_iload_n_mo 3⟩ : jn_GEm jn_G0 jn_me141 28 (.inl (jn_iload_n 3))) <|
  jn_cons (⟨jn_aload_n_ok (i := 0) (k := 0) (by decide +kernel) rfl, jn_aload_n_mo 0⟩ : jn_GEm jn_G0 jn_me141 29 (.inl (jn_aload_n 0))) <|
  jn_cons (⟨jn_getf_ok (ci := 7) (k := 8) (i := 29) (N := 22) (C := RX7) (T := TX7) (by decide +kernel) rfl (by decide) jn_u7 (jn_in 623 (by decide +kernel) rfl), jn_getf_mo 7 8⟩ : jn_GEm jn_G0 jn_me141 30 (.inl (jn_getf 7 8))) <|
  jn_cons (⟨jn_iload_n_ok (i := 3) (k := 3) (by decide +kernel) rfl, jn_iload_n_mo 3⟩ : jn_GEm jn_G0 jn_me141 33 (.inl (jn_iload_n 3))) <|
  jn_cons (⟨jn_laload_ok (by decide +kernel), jn_laload_mo⟩ : jn_GEm jn_G0 jn_me141 34 (.inl jn_laload)) <|
  jn_cons (⟨jn_lastore_ok (by decide +kernel), jn_lastore_mo⟩ : jn_GEm jn_G0 jn_me141 35 (.inl jn_lastore)) <|
  jn_cons (⟨jn_aload_n_ok (i := 0) (k := 0) (by decide +kernel) rfl, jn_aload_n_mo 0⟩ : jn_GEm jn_G0 jn_me141 36 (.inl (jn_aload_n 0))) <| jn_nil
theorem jn_o141_1 : ∀ q ∈ jn_c141_1, jn_GEm jn_G0 jn_me141 q.1 q.2 :=
  jn_cons (⟨jn_getf_ok (ci := 7) (k := 15) (i := 51) (N := 22) (C := RX7) (T := TX7) (by decide +kernel) rfl (by decide) jn_u7 (jn_in 630 (by decide +kernel) rfl), jn_getf_mo 7 15⟩ : jn_GEm jn_G0 jn_me141 37 (.inl (jn_getf 7 15))) <|
  jn_cons (⟨jn_iload_n_ok (i := 3) (k := 3) (by decide +kernel) rfl, jn_iload_n_mo 3⟩ : jn_GEm jn_G0 jn_me141 40 (.inl (jn_iload_n 3))) <|
  jn_cons (⟨jn_aload_n_ok (i := 0) (k := 0) (by decide +kernel) rfl, jn_aload_n_mo 0⟩ : jn_GEm jn_G0 jn_me141 41 (.inl (jn_aload_n 0))) <|
  jn_cons (⟨jn_getf_ok (ci := 7) (k := 9) (i := 32) (N := 22) (C := RX7) (T := TX7) (by decide +kernel) rfl (by decide) jn_u7 (jn_in 624 (by decide +kernel) rfl), jn_getf_mo 7 9⟩ : jn_GEm jn_G0 jn_me141 42 (.inl (jn_getf 7 9))) <|
  jn_cons (⟨jn_iload_n_ok (i := 3) (k := 3) (by decide +kernel) rfl, jn_iload_n_mo 3⟩ : jn_GEm jn_G0 jn_me141 45 (.inl (jn_iload_n 3))) <|
  jn_cons (⟨jn_laload_ok (by decide +kernel), jn_laload_mo⟩ : jn_GEm jn_G0 jn_me141 46 (.inl jn_laload)) <|
  jn_cons (⟨jn_lastore_ok (by decide +kernel), jn_lastore_mo⟩ : jn_GEm jn_G0 jn_me141 47 (.inl jn_lastore)) <|
  jn_cons (⟨jn_iinc_ok (i := 3) (n := 1) (by decide +kernel), jn_iinc_mo 3 1⟩ : jn_GEm jn_G0 jn_me141 48 (.inl (jn_iinc 3 1))) <|
  jn_cons (⟨jn_goto_ok (t := 18) (off := -33) (by decide +kernel) (by decide), jn_goto_mo 18⟩ : jn_GEm jn_G0 jn_me141 51 (.inl (jn_goto 18))) <|
  jn_cons (⟨jn_aload_n_ok (i := 0) (k := 0) (by decide +kernel) rfl, jn_aload_n_mo 0⟩ : jn_GEm jn_G0 jn_me141 54 (.inl (jn_aload_n 0))) <|
  jn_cons (⟨jn_iload_n_ok (i := 2) (k := 2) (by decide +kernel) rfl, jn_iload_n_mo 2⟩ : jn_GEm jn_G0 jn_me141 55 (.inl (jn_iload_n 2))) <|
  jn_cons (jn_gc_of jn_G0_127 (jn_callV (i := 168) (na := 1) (ci := 7) (q := (RX7, TX7, 22)) (by decide +kernel) rfl (jn_in 824 (by decide +kernel) rfl) (jn_in 821 (by decide +kernel) rfl) (jn_in 823 (by decide +kernel) rfl) (jn_in 36 (by decide +kernel) rfl) (jn_in 60 (by decide +kernel) rfl) ⟨by decide, by decide, by decide +kernel⟩) : jn_GEm jn_G0 jn_me141 56 (.inr (.inl (127, 9, 2)))) <|
  jn_cons (⟨jn_aload_n_ok (i := 0) (k := 0) (by decide +kernel) rfl, jn_aload_n_mo 0⟩ : jn_GEm jn_G0 jn_me141 59 (.inl (jn_aload_n 0))) <|
  jn_cons (⟨jn_aload_n_ok (i := 0) (k := 0) (by decide +kernel) rfl, jn_aload_n_mo 0⟩ : jn_GEm jn_G0 jn_me141 60 (.inl (jn_aload_n 0))) <|
  jn_cons (⟨jn_getf_ok (ci := 7) (k := 4) (i := 16) (N := 22) (C := RX7) (T := TX7) (by decide +kernel) rfl (by decide) jn_u7 (jn_in 619 (by decide +kernel) rfl), jn_getf_mo 7 4⟩ : jn_GEm jn_G0 jn_me141 61 (.inl (jn_getf 7 4))) <|
  jn_cons (⟨jn_iload_n_ok (i := 1) (k := 1) (by decide +kernel) rfl, jn_iload_n_mo 1⟩ : jn_GEm jn_G0 jn_me141 64 (.inl (jn_iload_n 1))) <|
  jn_cons (⟨jn_iaload_ok (by decide +kernel), jn_iaload_mo⟩ : jn_GEm jn_G0 jn_me141 65 (.inl jn_iaload)) <|
  jn_cons (⟨jn_iconst_ok (by decide +kernel), jn_iconst_mo 0⟩ : jn_GEm jn_G0 jn_me141 66 (.inl (jn_iconst 0))) <|
  jn_cons (jn_gc_of jn_G0_137 (jn_callV (i := 194) (na := 2) (ci := 7) (q := (RX7, TX7, 22)) (by decide +kernel) rfl (jn_in 868 (by decide +kernel) rfl) (jn_in 865 (by decide +kernel) rfl) (jn_in 867 (by decide +kernel) rfl) (jn_in 40 (by decide +kernel) rfl) (jn_in 60 (by decide +kernel) rfl) ⟨by decide, by decide, by decide +kernel⟩) : jn_GEm jn_G0 jn_me141 67 (.inr (.inl (137, 9, 3)))) <|
  jn_cons (⟨jn_iconst_ok (by decide +kernel), jn_iconst_mo 1⟩ : jn_GEm jn_G0 jn_me141 70 (.inl (jn_iconst 1))) <|
  jn_cons (⟨jn_istore_n_ok (i := 3) (k := 3) (by decide +kernel) rfl, jn_istore_n_mo 3⟩ : jn_GEm jn_G0 jn_me141 71 (.inl (jn_istore_n 3))) <|
  jn_cons (⟨jn_iconst_ok (by decide +kernel), jn_iconst_mo 0⟩ : jn_GEm jn_G0 jn_me141 72 (.inl (jn_iconst 0))) <|
  jn_cons (⟨jn_istore_ok (i := 4) (by decide +kernel), jn_istore_mo 4⟩ : jn_GEm jn_G0 jn_me141 73 (.inl (jn_istore 4))) <|
  jn_cons (⟨jn_iload_ok (i := 4) (by decide +kernel), jn_iload_mo 4⟩ : jn_GEm jn_G0 jn_me141 75 (.inl (jn_iload 4))) <| jn_nil
theorem jn_o141_2 : ∀ q ∈ jn_c141_2, jn_GEm jn_G0 jn_me141 q.1 q.2 :=
  jn_cons (⟨jn_bipush_ok (n := 6) (v := 6) (by decide +kernel) (by decide), jn_bipush_mo 6⟩ : jn_GEm jn_G0 jn_me141 77 (.inl (jn_bipush 6))) <|
  jn_cons (⟨jn_icge_ok (t := 116) (off := 37) (by decide +kernel) (by decide), jn_icge_mo 116⟩ : jn_GEm jn_G0 jn_me141 79 (.inl (jn_icge 116))) <|
  jn_cons (⟨jn_iload_n_ok (i := 3) (k := 3) (by decide +kernel) rfl, jn_iload_n_mo 3⟩ : jn_GEm jn_G0 jn_me141 82 (.inl (jn_iload_n 3))) <|
  jn_cons (⟨jn_ifeq_ok (t := 108) (off := 25) (by decide +kernel) (by decide), jn_ifeq_mo 108⟩ : jn_GEm jn_G0 jn_me141 83 (.inl (jn_ifeq 108))) <|
  jn_cons (⟨jn_aload_n_ok (i := 0) (k := 0) (by decide +kernel) rfl, jn_aload_n_mo 0⟩ : jn_GEm jn_G0 jn_me141 86 (.inl (jn_aload_n 0))) <|
  jn_cons (⟨jn_getf_ok (ci := 7) (k := 14) (i := 48) (N := 22) (C := RX7) (T := TX7) (by decide +kernel) rfl (by decide) jn_u7 (jn_in 629 (by decide +kernel) rfl), jn_getf_mo 7 14⟩ : jn_GEm jn_G0 jn_me141 87 (.inl (jn_getf 7 14))) <|
  jn_cons (⟨jn_iload_ok (i := 4) (by decide +kernel), jn_iload_mo 4⟩ : jn_GEm jn_G0 jn_me141 90 (.inl (jn_iload 4))) <|
  jn_cons (⟨jn_laload_ok (by decide +kernel), jn_laload_mo⟩ : jn_GEm jn_G0 jn_me141 92 (.inl jn_laload)) <|
  jn_cons (⟨jn_aload_n_ok (i := 0) (k := 0) (by decide +kernel) rfl, jn_aload_n_mo 0⟩ : jn_GEm jn_G0 jn_me141 93 (.inl (jn_aload_n 0))) <|
  jn_cons (⟨jn_getf_ok (ci := 7) (k := 8) (i := 29) (N := 22) (C := RX7) (T := TX7) (by decide +kernel) rfl (by decide) jn_u7 (jn_in 623 (by decide +kernel) rfl), jn_getf_mo 7 8⟩ : jn_GEm jn_G0 jn_me141 94 (.inl (jn_getf 7 8))) <|
  jn_cons (⟨jn_iload_ok (i := 4) (by decide +kernel), jn_iload_mo 4⟩ : jn_GEm jn_G0 jn_me141 97 (.inl (jn_iload 4))) <|
  jn_cons (⟨jn_laload_ok (by decide +kernel), jn_laload_mo⟩ : jn_GEm jn_G0 jn_me141 99 (.inl jn_laload)) <|
  jn_cons (⟨jn_lcmp_ok (by decide +kernel), jn_lcmp_mo⟩ : jn_GEm jn_G0 jn_me141 100 (.inl jn_lcmp)) <|
  jn_cons (⟨jn_ifne_ok (t := 108) (off := 7) (by decide +kernel) (by decide), jn_ifne_mo 108⟩ : jn_GEm jn_G0 jn_me141 101 (.inl (jn_ifne 108))) <|
  jn_cons (⟨jn_iconst_ok (by decide +kernel), jn_iconst_mo 1⟩ : jn_GEm jn_G0 jn_me141 104 (.inl (jn_iconst 1))) <|
  jn_cons (⟨jn_goto_ok (t := 109) (off := 4) (by decide +kernel) (by decide), jn_goto_mo 109⟩ : jn_GEm jn_G0 jn_me141 105 (.inl (jn_goto 109))) <|
  jn_cons (⟨jn_iconst_ok (by decide +kernel), jn_iconst_mo 0⟩ : jn_GEm jn_G0 jn_me141 108 (.inl (jn_iconst 0))) <|
  jn_cons (⟨jn_istore_n_ok (i := 3) (k := 3) (by decide +kernel) rfl, jn_istore_n_mo 3⟩ : jn_GEm jn_G0 jn_me141 109 (.inl (jn_istore_n 3))) <|
  jn_cons (⟨jn_iinc_ok (i := 4) (n := 1) (by decide +kernel), jn_iinc_mo 4 1⟩ : jn_GEm jn_G0 jn_me141 110 (.inl (jn_iinc 4 1))) <|
  jn_cons (⟨jn_goto_ok (t := 75) (off := -38) (by decide +kernel) (by decide), jn_goto_mo 75⟩ : jn_GEm jn_G0 jn_me141 113 (.inl (jn_goto 75))) <|
  jn_cons (⟨jn_iload_n_ok (i := 3) (k := 3) (by decide +kernel) rfl, jn_iload_n_mo 3⟩ : jn_GEm jn_G0 jn_me141 116 (.inl (jn_iload_n 3))) <|
  jn_cons (⟨(by decide +kernel), rfl⟩ : jn_GEm jn_G0 jn_me141 117 (.inr (.inr 2))) <| jn_nil
theorem jn_ok141 : jn_GM jn_G0 141 := jn_GM_of jn_G0_141 rfl rfl (by decide +kernel) (by decide) (jn_appd jn_o141_0 (jn_appd jn_o141_1 (jn_o141_2)))
theorem jn_o142_0 : ∀ q ∈ jn_c142_0, jn_GEm jn_G0 jn_me142 q.1 q.2 :=
  jn_cons (⟨jn_aload_n_ok (i := 0) (k := 0) (by decide +kernel) rfl, jn_aload_n_mo 0⟩ : jn_GEm jn_G0 jn_me142 0 (.inl (jn_aload_n 0))) <|
  jn_cons (⟨jn_iload_n_ok (i := 1) (k := 1) (by decide +kernel) rfl, jn_iload_n_mo 1⟩ : jn_GEm jn_G0 jn_me142 1 (.inl (jn_iload_n 1))) <|
  jn_cons (jn_gc_of jn_G0_99 (jn_callV (i := 147) (na := 1) (ci := 7) (q := (RX7, TX7, 22)) (by decide +kernel) rfl (jn_in 796 (by decide +kernel) rfl) (jn_in 793 (by decide +kernel) rfl) (jn_in 795 (by decide +kernel) rfl) (jn_in 34 (by decide +kernel) rfl) (jn_in 60 (by decide +kernel) rfl) ⟨by decide, by decide, by decide +kernel⟩) : jn_GEm jn_G0 jn_me142 2 (.inr (.inl (99, 9, 2)))) <|
  jn_cons (⟨jn_ifeq_ok (t := 16) (off := 11) (by decide +kernel) (by decide), jn_ifeq_mo 16⟩ : jn_GEm jn_G0 jn_me142 5 (.inl (jn_ifeq 16))) <|
  jn_cons (⟨jn_aload_n_ok (i := 0) (k := 0) (by decide +kernel) rfl, jn_aload_n_mo 0⟩ : jn_GEm jn_G0 jn_me142 8 (.inl (jn_aload_n 0))) <|
  jn_cons (⟨jn_iload_n_ok (i := 2) (k := 2) (by decide +kernel) rfl, jn_iload_n_mo 2⟩ : jn_GEm jn_G0 jn_me142 9 (.inl (jn_iload_n 2))) <|
  jn_cons (jn_gc_of jn_G0_99 (jn_callV (i := 147) (na := 1) (ci := 7) (q := (RX7, TX7, 22)) (by decide +kernel) rfl (jn_in 796 (by decide +kernel) rfl) (jn_in 793 (by decide +kernel) rfl) (jn_in 795 (by decide +kernel) rfl) (jn_in 34 (by decide +kernel) rfl) (jn_in 60 (by decide +kernel) rfl) ⟨by decide, by decide, by decide +kernel⟩) : jn_GEm jn_G0 jn_me142 10 (.inr (.inl (99, 9, 2)))) <|
  jn_cons (⟨jn_ifne_ok (t := 19) (off := 6) (by decide +kernel) (by decide), jn_ifne_mo 19⟩ : jn_GEm jn_G0 jn_me142 13 (.inl (jn_ifne 19))) <|
  jn_cons (⟨jn_bipush_ok (n := (-3)) (v := (-3)) (by decide +kernel) (by decide), jn_bipush_mo (-3)⟩ : jn_GEm jn_G0 jn_me142 16 (.inl (jn_bipush (-3)))) <|
  jn_cons (⟨(by decide +kernel), rfl⟩ : jn_GEm jn_G0 jn_me142 18 (.inr (.inr 1))) <|
  jn_cons (⟨jn_aload_n_ok (i := 0) (k := 0) (by decide +kernel) rfl, jn_aload_n_mo 0⟩ : jn_GEm jn_G0 jn_me142 19 (.inl (jn_aload_n 0))) <|
  jn_cons (⟨jn_getf_ok (ci := 7) (k := 4) (i := 16) (N := 22) (C := RX7) (T := TX7) (by decide +kernel) rfl (by decide) jn_u7 (jn_in 619 (by decide +kernel) rfl), jn_getf_mo 7 4⟩ : jn_GEm jn_G0 jn_me142 20 (.inl (jn_getf 7 4))) <|
  jn_cons (⟨jn_iload_n_ok (i := 1) (k := 1) (by decide +kernel) rfl, jn_iload_n_mo 1⟩ : jn_GEm jn_G0 jn_me142 23 (.inl (jn_iload_n 1))) <|
  jn_cons (⟨jn_iaload_ok (by decide +kernel), jn_iaload_mo⟩ : jn_GEm jn_G0 jn_me142 24 (.inl jn_iaload)) <|
  jn_cons (⟨jn_aload_n_ok (i := 0) (k := 0) (by decide +kernel) rfl, jn_aload_n_mo 0⟩ : jn_GEm jn_G0 jn_me142 25 (.inl (jn_aload_n 0))) <|
  jn_cons (⟨jn_getf_ok (ci := 7) (k := 4) (i := 16) (N := 22) (C := RX7) (T := TX7) (by decide +kernel) rfl (by decide) jn_u7 (jn_in 619 (by decide +kernel) rfl), jn_getf_mo 7 4⟩ : jn_GEm jn_G0 jn_me142 26 (.inl (jn_getf 7 4))) <|
  jn_cons (⟨jn_iload_n_ok (i := 2) (k := 2) (by decide +kernel) rfl, jn_iload_n_mo 2⟩ : jn_GEm jn_G0 jn_me142 29 (.inl (jn_iload_n 2))) <|
  jn_cons (⟨jn_iaload_ok (by decide +kernel), jn_iaload_mo⟩ : jn_GEm jn_G0 jn_me142 30 (.inl jn_iaload)) <|
  jn_cons (⟨jn_iceq_ok (t := 37) (off := 6) (by decide +kernel) (by decide), jn_iceq_mo 37⟩ : jn_GEm jn_G0 jn_me142 31 (.inl (jn_iceq 37))) <|
  jn_cons (⟨jn_bipush_ok (n := (-7)) (v := (-7)) (by decide +kernel) (by decide), jn_bipush_mo (-7)⟩ : jn_GEm jn_G0 jn_me142 34 (.inl (jn_bipush (-7)))) <|
  jn_cons (⟨(by decide +kernel), rfl⟩ : jn_GEm jn_G0 jn_me142 36 (.inr (.inr 1))) <|
  jn_cons (⟨jn_aload_n_ok (i := 0) (k := 0) (by decide +kernel) rfl, jn_aload_n_mo 0⟩ : jn_GEm jn_G0 jn_me142 37 (.inl (jn_aload_n 0))) <|
  jn_cons (⟨jn_aload_n_ok (i := 0) (k := 0) (by decide +kernel) rfl, jn_aload_n_mo 0⟩ : jn_GEm jn_G0 jn_me142 38 (.inl (jn_aload_n 0))) <|
  jn_cons (⟨jn_getf_ok (ci := 7) (k := 4) (i := 16) (N := 22) (C := RX7) (T := TX7) (by decide +kernel) rfl (by decide) jn_u7 (jn_in 619 (by decide +kernel) rfl), jn_getf_mo 7 4⟩ : jn_GEm jn_G0 jn_me142 39 (.inl (jn_getf 7 4))) <| jn_nil
theorem jn_o142_1 : ∀ q ∈ jn_c142_1, jn_GEm jn_G0 jn_me142 q.1 q.2 :=
  jn_cons (⟨jn_iload_n_ok (i := 1) (k := 1) (by decide +kernel) rfl, jn_iload_n_mo 1⟩ : jn_GEm jn_G0 jn_me142 42 (.inl (jn_iload_n 1))) <|
  jn_cons (⟨jn_iaload_ok (by decide +kernel), jn_iaload_mo⟩ : jn_GEm jn_G0 jn_me142 43 (.inl jn_iaload)) <|
  jn_cons (jn_gc_of jn_G0_106 (jn_callV (i := 110) (na := 1) (ci := 7) (q := (RX7, TX7, 22)) (by decide +kernel) rfl (jn_in 722 (by decide +kernel) rfl) (jn_in 719 (by decide +kernel) rfl) (jn_in 721 (by decide +kernel) rfl) (jn_in 23 (by decide +kernel) rfl) (jn_in 60 (by decide +kernel) rfl) ⟨by decide, by decide, by decide +kernel⟩) : jn_GEm jn_G0 jn_me142 44 (.inr (.inl (106, 9, 2)))) <|
  jn_cons (⟨jn_ifeq_ok (t := 54) (off := 7) (by decide +kernel) (by decide), jn_ifeq_mo 54⟩ : jn_GEm jn_G0 jn_me142 47 (.inl (jn_ifeq 54))) <|
  jn_cons (⟨jn_iconst_ok (by decide +kernel), jn_iconst_mo 0⟩ : jn_GEm jn_G0 jn_me142 50 (.inl (jn_iconst 0))) <|
  jn_cons (⟨jn_goto_ok (t := 56) (off := 5) (by decide +kernel) (by decide), jn_goto_mo 56⟩ : jn_GEm jn_G0 jn_me142 51 (.inl (jn_goto 56))) <|
  jn_cons (⟨jn_bipush_ok (n := (-5)) (v := (-5)) (by decide +kernel) (by decide), jn_bipush_mo (-5)⟩ : jn_GEm jn_G0 jn_me142 54 (.inl (jn_bipush (-5)))) <|
  jn_cons (⟨(by decide +kernel), rfl⟩ : jn_GEm jn_G0 jn_me142 56 (.inr (.inr 1))) <| jn_nil
theorem jn_ok142 : jn_GM jn_G0 142 := jn_GM_of jn_G0_142 rfl rfl (by decide +kernel) (by decide) (jn_appd jn_o142_0 (jn_o142_1))
theorem jn_o143_0 : ∀ q ∈ jn_c143_0, jn_GEm jn_G0 jn_me143 q.1 q.2 :=
  jn_cons (⟨jn_aload_n_ok (i := 0) (k := 0) (by decide +kernel) rfl, jn_aload_n_mo 0⟩ : jn_GEm jn_G0 jn_me143 0 (.inl (jn_aload_n 0))) <|
  jn_cons (⟨jn_iload_n_ok (i := 1) (k := 1) (by decide +kernel) rfl, jn_iload_n_mo 1⟩ : jn_GEm jn_G0 jn_me143 1 (.inl (jn_iload_n 1))) <|
  jn_cons (⟨jn_iload_n_ok (i := 2) (k := 2) (by decide +kernel) rfl, jn_iload_n_mo 2⟩ : jn_GEm jn_G0 jn_me143 2 (.inl (jn_iload_n 2))) <|
  jn_cons (jn_gc_of jn_G0_142 (jn_callV (i := 197) (na := 2) (ci := 7) (q := (RX7, TX7, 22)) (by decide +kernel) rfl (jn_in 884 (by decide +kernel) rfl) (jn_in 881 (by decide +kernel) rfl) (jn_in 883 (by decide +kernel) rfl) (jn_in 43 (by decide +kernel) rfl) (jn_in 60 (by decide +kernel) rfl) ⟨by decide, by decide, by decide +kernel⟩) : jn_GEm jn_G0 jn_me143 3 (.inr (.inl (142, 9, 3)))) <|
  jn_cons (⟨jn_istore_n_ok (i := 3) (k := 3) (by decide +kernel) rfl, jn_istore_n_mo 3⟩ : jn_GEm jn_G0 jn_me143 6 (.inl (jn_istore_n 3))) <|
  jn_cons (⟨jn_iload_n_ok (i := 3) (k := 3) (by decide +kernel) rfl, jn_iload_n_mo 3⟩ : jn_GEm jn_G0 jn_me143 7 (.inl (jn_iload_n 3))) <|
  jn_cons (⟨jn_ifeq_ok (t := 17) (off := 9) (by decide +kernel) (by decide), jn_ifeq_mo 17⟩ : jn_GEm jn_G0 jn_me143 8 (.inl (jn_ifeq 17))) <|
  jn_cons (⟨jn_aload_n_ok (i := 0) (k := 0) (by decide +kernel) rfl, jn_aload_n_mo 0⟩ : jn_GEm jn_G0 jn_me143 11 (.inl (jn_aload_n 0))) <|
  jn_cons (⟨jn_iload_n_ok (i := 3) (k := 3) (by decide +kernel) rfl, jn_iload_n_mo 3⟩ : jn_GEm jn_G0 jn_me143 12 (.inl (jn_iload_n 3))) <|
  jn_cons (jn_gc_of jn_G0_95 (jn_callV (i := 73) (na := 1) (ci := 7) (q := (RX7, TX7, 22)) (by decide +kernel) rfl (jn_in 694 (by decide +kernel) rfl) (jn_in 691 (by decide +kernel) rfl) (jn_in 693 (by decide +kernel) rfl) (jn_in 19 (by decide +kernel) rfl) (jn_in 60 (by decide +kernel) rfl) ⟨by decide, by decide, by decide +kernel⟩) : jn_GEm jn_G0 jn_me143 13 (.inr (.inl (95, 9, 2)))) <|
  jn_cons (⟨(by decide +kernel), rfl⟩ : jn_GEm jn_G0 jn_me143 16 (.inr (.inr 1))) <|
  jn_cons (⟨jn_aload_n_ok (i := 0) (k := 0) (by decide +kernel) rfl, jn_aload_n_mo 0⟩ : jn_GEm jn_G0 jn_me143 17 (.inl (jn_aload_n 0))) <|
  jn_cons (⟨jn_iload_n_ok (i := 1) (k := 1) (by decide +kernel) rfl, jn_iload_n_mo 1⟩ : jn_GEm jn_G0 jn_me143 18 (.inl (jn_iload_n 1))) <|
  jn_cons (⟨jn_iload_n_ok (i := 2) (k := 2) (by decide +kernel) rfl, jn_iload_n_mo 2⟩ : jn_GEm jn_G0 jn_me143 19 (.inl (jn_iload_n 2))) <|
  jn_cons (jn_gc_of jn_G0_141 (jn_callV (i := 200) (na := 2) (ci := 7) (q := (RX7, TX7, 22)) (by decide +kernel) rfl (jn_in 888 (by decide +kernel) rfl) (jn_in 885 (by decide +kernel) rfl) (jn_in 887 (by decide +kernel) rfl) (jn_in 44 (by decide +kernel) rfl) (jn_in 60 (by decide +kernel) rfl) ⟨by decide, by decide, by decide +kernel⟩) : jn_GEm jn_G0 jn_me143 20 (.inr (.inl (141, 9, 3)))) <|
  jn_cons (⟨jn_ifeq_ok (t := 30) (off := 7) (by decide +kernel) (by decide), jn_ifeq_mo 30⟩ : jn_GEm jn_G0 jn_me143 23 (.inl (jn_ifeq 30))) <|
  jn_cons (⟨jn_iconst_ok (by decide +kernel), jn_iconst_mo 1⟩ : jn_GEm jn_G0 jn_me143 26 (.inl (jn_iconst 1))) <|
  jn_cons (⟨jn_goto_ok (t := 31) (off := 4) (by decide +kernel) (by decide), jn_goto_mo 31⟩ : jn_GEm jn_G0 jn_me143 27 (.inl (jn_goto 31))) <|
  jn_cons (⟨jn_iconst_ok (by decide +kernel), jn_iconst_mo 0⟩ : jn_GEm jn_G0 jn_me143 30 (.inl (jn_iconst 0))) <|
  jn_cons (⟨(by decide +kernel), rfl⟩ : jn_GEm jn_G0 jn_me143 31 (.inr (.inr 1))) <| jn_nil
theorem jn_ok143 : jn_GM jn_G0 143 := jn_GM_of jn_G0_143 rfl rfl (by decide +kernel) (by decide) (jn_o143_0)
theorem jn_o144_0 : ∀ q ∈ jn_c144_0, jn_GEm jn_G0 jn_me144 q.1 q.2 :=
  jn_cons (⟨jn_aload_n_ok (i := 0) (k := 0) (by decide +kernel) rfl, jn_aload_n_mo 0⟩ : jn_GEm jn_G0 jn_me144 0 (.inl (jn_aload_n 0))) <|
  jn_cons (⟨jn_iload_n_ok (i := 1) (k := 1) (by decide +kernel) rfl, jn_iload_n_mo 1⟩ : jn_GEm jn_G0 jn_me144 1 (.inl (jn_iload_n 1))) <|
  jn_cons (⟨jn_iload_n_ok (i := 2) (k := 2) (by decide +kernel) rfl, jn_iload_n_mo 2⟩ : jn_GEm jn_G0 jn_me144 2 (.inl (jn_iload_n 2))) <|
  jn_cons (jn_gc_of jn_G0_142 (jn_callV (i := 197) (na := 2) (ci := 7) (q := (RX7, TX7, 22)) (by decide +kernel) rfl (jn_in 884 (by decide +kernel) rfl) (jn_in 881 (by decide +kernel) rfl) (jn_in 883 (by decide +kernel) rfl) (jn_in 43 (by decide +kernel) rfl) (jn_in 60 (by decide +kernel) rfl) ⟨by decide, by decide, by decide +kernel⟩) : jn_GEm jn_G0 jn_me144 3 (.inr (.inl (142, 9, 3)))) <|
  jn_cons (⟨jn_istore_n_ok (i := 3) (k := 3) (by decide +kernel) rfl, jn_istore_n_mo 3⟩ : jn_GEm jn_G0 jn_me144 6 (.inl (jn_istore_n 3))) <|
  jn_cons (⟨jn_iload_n_ok (i := 3) (k := 3) (by decide +kernel) rfl, jn_iload_n_mo 3⟩ : jn_GEm jn_G0 jn_me144 7 (.inl (jn_iload_n 3))) <|
  jn_cons (⟨jn_ifeq_ok (t := 17) (off := 9) (by decide +kernel) (by decide), jn_ifeq_mo 17⟩ : jn_GEm jn_G0 jn_me144 8 (.inl (jn_ifeq 17))) <|
  jn_cons (⟨jn_aload_n_ok (i := 0) (k := 0) (by decide +kernel) rfl, jn_aload_n_mo 0⟩ : jn_GEm jn_G0 jn_me144 11 (.inl (jn_aload_n 0))) <|
  jn_cons (⟨jn_iload_n_ok (i := 3) (k := 3) (by decide +kernel) rfl, jn_iload_n_mo 3⟩ : jn_GEm jn_G0 jn_me144 12 (.inl (jn_iload_n 3))) <|
  jn_cons (jn_gc_of jn_G0_95 (jn_callV (i := 73) (na := 1) (ci := 7) (q := (RX7, TX7, 22)) (by decide +kernel) rfl (jn_in 694 (by decide +kernel) rfl) (jn_in 691 (by decide +kernel) rfl) (jn_in 693 (by decide +kernel) rfl) (jn_in 19 (by decide +kernel) rfl) (jn_in 60 (by decide +kernel) rfl) ⟨by decide, by decide, by decide +kernel⟩) : jn_GEm jn_G0 jn_me144 13 (.inr (.inl (95, 9, 2)))) <|
  jn_cons (⟨(by decide +kernel), rfl⟩ : jn_GEm jn_G0 jn_me144 16 (.inr (.inr 1))) <|
  jn_cons (⟨jn_aload_n_ok (i := 0) (k := 0) (by decide +kernel) rfl, jn_aload_n_mo 0⟩ : jn_GEm jn_G0 jn_me144 17 (.inl (jn_aload_n 0))) <|
  jn_cons (⟨jn_iload_n_ok (i := 1) (k := 1) (by decide +kernel) rfl, jn_iload_n_mo 1⟩ : jn_GEm jn_G0 jn_me144 18 (.inl (jn_iload_n 1))) <|
  jn_cons (⟨jn_iload_n_ok (i := 2) (k := 2) (by decide +kernel) rfl, jn_iload_n_mo 2⟩ : jn_GEm jn_G0 jn_me144 19 (.inl (jn_iload_n 2))) <|
  jn_cons (jn_gc_of jn_G0_141 (jn_callV (i := 200) (na := 2) (ci := 7) (q := (RX7, TX7, 22)) (by decide +kernel) rfl (jn_in 888 (by decide +kernel) rfl) (jn_in 885 (by decide +kernel) rfl) (jn_in 887 (by decide +kernel) rfl) (jn_in 44 (by decide +kernel) rfl) (jn_in 60 (by decide +kernel) rfl) ⟨by decide, by decide, by decide +kernel⟩) : jn_GEm jn_G0 jn_me144 20 (.inr (.inl (141, 9, 3)))) <|
  jn_cons (⟨jn_ifne_ok (t := 28) (off := 5) (by decide +kernel) (by decide), jn_ifne_mo 28⟩ : jn_GEm jn_G0 jn_me144 23 (.inl (jn_ifne 28))) <|
  jn_cons (⟨jn_iconst_ok (by decide +kernel), jn_iconst_mo (-1)⟩ : jn_GEm jn_G0 jn_me144 26 (.inl (jn_iconst (-1)))) <|
  jn_cons (⟨(by decide +kernel), rfl⟩ : jn_GEm jn_G0 jn_me144 27 (.inr (.inr 1))) <|
  jn_cons (⟨jn_aload_n_ok (i := 0) (k := 0) (by decide +kernel) rfl, jn_aload_n_mo 0⟩ : jn_GEm jn_G0 jn_me144 28 (.inl (jn_aload_n 0))) <|
  jn_cons (⟨jn_getf_ok (ci := 7) (k := 0) (i := 7) (N := 22) (C := RX7) (T := TX7) (by decide +kernel) rfl (by decide) jn_u7 (jn_in 615 (by decide +kernel) rfl), jn_getf_mo 7 0⟩ : jn_GEm jn_G0 jn_me144 29 (.inl (jn_getf 7 0))) <|
  jn_cons (⟨jn_aload_n_ok (i := 0) (k := 0) (by decide +kernel) rfl, jn_aload_n_mo 0⟩ : jn_GEm jn_G0 jn_me144 32 (.inl (jn_aload_n 0))) <|
  jn_cons (⟨jn_getf_ok (ci := 7) (k := 4) (i := 16) (N := 22) (C := RX7) (T := TX7) (by decide +kernel) rfl (by decide) jn_u7 (jn_in 619 (by decide +kernel) rfl), jn_getf_mo 7 4⟩ : jn_GEm jn_G0 jn_me144 33 (.inl (jn_getf 7 4))) <|
  jn_cons (⟨jn_iload_n_ok (i := 1) (k := 1) (by decide +kernel) rfl, jn_iload_n_mo 1⟩ : jn_GEm jn_G0 jn_me144 36 (.inl (jn_iload_n 1))) <|
  jn_cons (⟨jn_iaload_ok (by decide +kernel), jn_iaload_mo⟩ : jn_GEm jn_G0 jn_me144 37 (.inl jn_iaload)) <| jn_nil
theorem jn_o144_1 : ∀ q ∈ jn_c144_1, jn_GEm jn_G0 jn_me144 q.1 q.2 :=
  jn_cons (⟨jn_iaload_ok (by decide +kernel), jn_iaload_mo⟩ : jn_GEm jn_G0 jn_me144 38 (.inl jn_iaload)) <|
  jn_cons (⟨jn_istore_ok (i := 4) (by decide +kernel), jn_istore_mo 4⟩ : jn_GEm jn_G0 jn_me144 39 (.inl (jn_istore 4))) <|
  jn_cons (⟨jn_aload_n_ok (i := 0) (k := 0) (by decide +kernel) rfl, jn_aload_n_mo 0⟩ : jn_GEm jn_G0 jn_me144 41 (.inl (jn_aload_n 0))) <|
  jn_cons (⟨jn_getf_ok (ci := 7) (k := 15) (i := 51) (N := 22) (C := RX7) (T := TX7) (by decide +kernel) rfl (by decide) jn_u7 (jn_in 630 (by decide +kernel) rfl), jn_getf_mo 7 15⟩ : jn_GEm jn_G0 jn_me144 42 (.inl (jn_getf 7 15))) <|
  jn_cons (⟨jn_iconst_ok (by decide +kernel), jn_iconst_mo 0⟩ : jn_GEm jn_G0 jn_me144 45 (.inl (jn_iconst 0))) <|
  jn_cons (⟨jn_laload_ok (by decide +kernel), jn_laload_mo⟩ : jn_GEm jn_G0 jn_me144 46 (.inl jn_laload)) <|
  jn_cons (⟨jn_aload_n_ok (i := 0) (k := 0) (by decide +kernel) rfl, jn_aload_n_mo 0⟩ : jn_GEm jn_G0 jn_me144 47 (.inl (jn_aload_n 0))) <|
  jn_cons (⟨jn_getf_ok (ci := 7) (k := 9) (i := 32) (N := 22) (C := RX7) (T := TX7) (by decide +kernel) rfl (by decide) jn_u7 (jn_in 624 (by decide +kernel) rfl), jn_getf_mo 7 9⟩ : jn_GEm jn_G0 jn_me144 48 (.inl (jn_getf 7 9))) <|
  jn_cons (⟨jn_iconst_ok (by decide +kernel), jn_iconst_mo 0⟩ : jn_GEm jn_G0 jn_me144 51 (.inl (jn_iconst 0))) <|
  jn_cons (⟨jn_laload_ok (by decide +kernel), jn_laload_mo⟩ : jn_GEm jn_G0 jn_me144 52 (.inl jn_laload)) <|
  jn_cons (⟨jn_lsub_ok (by decide +kernel), jn_lsub_mo⟩ : jn_GEm jn_G0 jn_me144 53 (.inl jn_lsub)) <|
  jn_cons (⟨jn_lstore_ok (i := 5) (by decide +kernel), jn_lstore_mo 5⟩ : jn_GEm jn_G0 jn_me144 54 (.inl (jn_lstore 5))) <|
  jn_cons (⟨jn_iconst_ok (by decide +kernel), jn_iconst_mo 1⟩ : jn_GEm jn_G0 jn_me144 56 (.inl (jn_iconst 1))) <|
  jn_cons (⟨jn_istore_ok (i := 7) (by decide +kernel), jn_istore_mo 7⟩ : jn_GEm jn_G0 jn_me144 57 (.inl (jn_istore 7))) <|
  jn_cons (⟨jn_iload_ok (i := 7) (by decide +kernel), jn_iload_mo 7⟩ : jn_GEm jn_G0 jn_me144 59 (.inl (jn_iload 7))) <|
  jn_cons (⟨jn_iload_ok (i := 4) (by decide +kernel), jn_iload_mo 4⟩ : jn_GEm jn_G0 jn_me144 61 (.inl (jn_iload 4))) <|
  jn_cons (⟨jn_icge_ok (t := 115) (off := 52) (by decide +kernel) (by decide), jn_icge_mo 115⟩ : jn_GEm jn_G0 jn_me144 63 (.inl (jn_icge 115))) <|
  jn_cons (⟨jn_aload_n_ok (i := 0) (k := 0) (by decide +kernel) rfl, jn_aload_n_mo 0⟩ : jn_GEm jn_G0 jn_me144 66 (.inl (jn_aload_n 0))) <|
  jn_cons (⟨jn_getf_ok (ci := 7) (k := 15) (i := 51) (N := 22) (C := RX7) (T := TX7) (by decide +kernel) rfl (by decide) jn_u7 (jn_in 630 (by decide +kernel) rfl), jn_getf_mo 7 15⟩ : jn_GEm jn_G0 jn_me144 67 (.inl (jn_getf 7 15))) <|
  jn_cons (⟨jn_iload_ok (i := 7) (by decide +kernel), jn_iload_mo 7⟩ : jn_GEm jn_G0 jn_me144 70 (.inl (jn_iload 7))) <|
  jn_cons (⟨jn_laload_ok (by decide +kernel), jn_laload_mo⟩ : jn_GEm jn_G0 jn_me144 72 (.inl jn_laload)) <|
  jn_cons (⟨jn_aload_n_ok (i := 0) (k := 0) (by decide +kernel) rfl, jn_aload_n_mo 0⟩ : jn_GEm jn_G0 jn_me144 73 (.inl (jn_aload_n 0))) <|
  jn_cons (⟨jn_getf_ok (ci := 7) (k := 9) (i := 32) (N := 22) (C := RX7) (T := TX7) (by decide +kernel) rfl (by decide) jn_u7 (jn_in 624 (by decide +kernel) rfl), jn_getf_mo 7 9⟩ : jn_GEm jn_G0 jn_me144 74 (.inl (jn_getf 7 9))) <|
  jn_cons (⟨jn_iload_ok (i := 7) (by decide +kernel), jn_iload_mo 7⟩ : jn_GEm jn_G0 jn_me144 77 (.inl (jn_iload 7))) <| jn_nil
theorem jn_o144_2 : ∀ q ∈ jn_c144_2, jn_GEm jn_G0 jn_me144 q.1 q.2 :=
  jn_cons (⟨jn_laload_ok (by decide +kernel), jn_laload_mo⟩ : jn_GEm jn_G0 jn_me144 79 (.inl jn_laload)) <|
  jn_cons (⟨jn_lsub_ok (by decide +kernel), jn_lsub_mo⟩ : jn_GEm jn_G0 jn_me144 80 (.inl jn_lsub)) <|
  jn_cons (⟨jn_lload_ok (i := 5) (by decide +kernel), jn_lload_mo 5⟩ : jn_GEm jn_G0 jn_me144 81 (.inl (jn_lload 5))) <|
  jn_cons (⟨jn_lcmp_ok (by decide +kernel), jn_lcmp_mo⟩ : jn_GEm jn_G0 jn_me144 83 (.inl jn_lcmp)) <|
  jn_cons (⟨jn_ifge_ok (t := 105) (off := 21) (by decide +kernel) (by decide), jn_ifge_mo 105⟩ : jn_GEm jn_G0 jn_me144 84 (.inl (jn_ifge 105))) <|
  jn_cons (⟨jn_aload_n_ok (i := 0) (k := 0) (by decide +kernel) rfl, jn_aload_n_mo 0⟩ : jn_GEm jn_G0 jn_me144 87 (.inl (jn_aload_n 0))) <|
  jn_cons (⟨jn_getf_ok (ci := 7) (k := 15) (i := 51) (N := 22) (C := RX7) (T := TX7) (by decide +kernel) rfl (by decide) jn_u7 (jn_in 630 (by decide +kernel) rfl), jn_getf_mo 7 15⟩ : jn_GEm jn_G0 jn_me144 88 (.inl (jn_getf 7 15))) <|
  jn_cons (⟨jn_iload_ok (i := 7) (by decide +kernel), jn_iload_mo 7⟩ : jn_GEm jn_G0 jn_me144 91 (.inl (jn_iload 7))) <|
  jn_cons (⟨jn_laload_ok (by decide +kernel), jn_laload_mo⟩ : jn_GEm jn_G0 jn_me144 93 (.inl jn_laload)) <|
  jn_cons (⟨jn_aload_n_ok (i := 0) (k := 0) (by decide +kernel) rfl, jn_aload_n_mo 0⟩ : jn_GEm jn_G0 jn_me144 94 (.inl (jn_aload_n 0))) <|
  jn_cons (⟨jn_getf_ok (ci := 7) (k := 9) (i := 32) (N := 22) (C := RX7) (T := TX7) (by decide +kernel) rfl (by decide) jn_u7 (jn_in 624 (by decide +kernel) rfl), jn_getf_mo 7 9⟩ : jn_GEm jn_G0 jn_me144 95 (.inl (jn_getf 7 9))) <|
  jn_cons (⟨jn_iload_ok (i := 7) (by decide +kernel), jn_iload_mo 7⟩ : jn_GEm jn_G0 jn_me144 98 (.inl (jn_iload 7))) <|
  jn_cons (⟨jn_laload_ok (by decide +kernel), jn_laload_mo⟩ : jn_GEm jn_G0 jn_me144 100 (.inl jn_laload)) <|
  jn_cons (⟨jn_lsub_ok (by decide +kernel), jn_lsub_mo⟩ : jn_GEm jn_G0 jn_me144 101 (.inl jn_lsub)) <|
  jn_cons (⟨jn_goto_ok (t := 107) (off := 5) (by decide +kernel) (by decide), jn_goto_mo 107⟩ : jn_GEm jn_G0 jn_me144 102 (.inl (jn_goto 107))) <|
  jn_cons (⟨jn_lload_ok (i := 5) (by decide +kernel), jn_lload_mo 5⟩ : jn_GEm jn_G0 jn_me144 105 (.inl (jn_lload 5))) <|
  jn_cons (⟨jn_lstore_ok (i := 5) (by decide +kernel), jn_lstore_mo 5⟩ : jn_GEm jn_G0 jn_me144 107 (.inl (jn_lstore 5))) <|
  jn_cons (⟨jn_iinc_ok (i := 7) (n := 1) (by decide +kernel), jn_iinc_mo 7 1⟩ : jn_GEm jn_G0 jn_me144 109 (.inl (jn_iinc 7 1))) <|
  jn_cons (⟨jn_goto_ok (t := 59) (off := -53) (by decide +kernel) (by decide), jn_goto_mo 59⟩ : jn_GEm jn_G0 jn_me144 112 (.inl (jn_goto 59))) <|
  jn_cons (⟨jn_aload_n_ok (i := 0) (k := 0) (by decide +kernel) rfl, jn_aload_n_mo 0⟩ : jn_GEm jn_G0 jn_me144 115 (.inl (jn_aload_n 0))) <|
  jn_cons (⟨jn_iload_ok (i := 4) (by decide +kernel), jn_iload_mo 4⟩ : jn_GEm jn_G0 jn_me144 116 (.inl (jn_iload 4))) <|
  jn_cons (⟨jn_putf_ok (ci := 7) (k := 21) (κ := 0) (i := 69) (N := 22) (C := RX7) (T := TX7) (ty0 := tyX7) (ty := .int) (by decide +kernel) rfl (by decide) jn_u7 (jn_in 636 (by decide +kernel) rfl) tyX7_ok nmX7 rfl (by decide +kernel) jn_po_int, jn_putf_mo 7 21 0⟩ : jn_GEm jn_G0 jn_me144 118 (.inl (jn_putf 7 21 0))) <|
  jn_cons (⟨jn_iconst_ok (by decide +kernel), jn_iconst_mo 0⟩ : jn_GEm jn_G0 jn_me144 121 (.inl (jn_iconst 0))) <|
  jn_cons (⟨jn_istore_ok (i := 7) (by decide +kernel), jn_istore_mo 7⟩ : jn_GEm jn_G0 jn_me144 122 (.inl (jn_istore 7))) <| jn_nil
theorem jn_o144_3 : ∀ q ∈ jn_c144_3, jn_GEm jn_G0 jn_me144 q.1 q.2 :=
  jn_cons (⟨jn_iload_ok (i := 7) (by decide +kernel), jn_iload_mo 7⟩ : jn_GEm jn_G0 jn_me144 124 (.inl (jn_iload 7))) <|
  jn_cons (⟨jn_iload_ok (i := 4) (by decide +kernel), jn_iload_mo 4⟩ : jn_GEm jn_G0 jn_me144 126 (.inl (jn_iload 4))) <|
  jn_cons (⟨jn_icge_ok (t := 163) (off := 35) (by decide +kernel) (by decide), jn_icge_mo 163⟩ : jn_GEm jn_G0 jn_me144 128 (.inl (jn_icge 163))) <|
  jn_cons (⟨jn_aload_n_ok (i := 0) (k := 0) (by decide +kernel) rfl, jn_aload_n_mo 0⟩ : jn_GEm jn_G0 jn_me144 131 (.inl (jn_aload_n 0))) <|
  jn_cons (⟨jn_getf_ok (ci := 7) (k := 19) (i := 63) (N := 22) (C := RX7) (T := TX7) (by decide +kernel) rfl (by decide) jn_u7 (jn_in 634 (by decide +kernel) rfl), jn_getf_mo 7 19⟩ : jn_GEm jn_G0 jn_me144 132 (.inl (jn_getf 7 19))) <|
  jn_cons (⟨jn_iload_ok (i := 7) (by decide +kernel), jn_iload_mo 7⟩ : jn_GEm jn_G0 jn_me144 135 (.inl (jn_iload 7))) <|
  jn_cons (⟨jn_aload_n_ok (i := 0) (k := 0) (by decide +kernel) rfl, jn_aload_n_mo 0⟩ : jn_GEm jn_G0 jn_me144 137 (.inl (jn_aload_n 0))) <|
  jn_cons (⟨jn_getf_ok (ci := 7) (k := 15) (i := 51) (N := 22) (C := RX7) (T := TX7) (by decide +kernel) rfl (by decide) jn_u7 (jn_in 630 (by decide +kernel) rfl), jn_getf_mo 7 15⟩ : jn_GEm jn_G0 jn_me144 138 (.inl (jn_getf 7 15))) <|
  jn_cons (⟨jn_iload_ok (i := 7) (by decide +kernel), jn_iload_mo 7⟩ : jn_GEm jn_G0 jn_me144 141 (.inl (jn_iload 7))) <|
  jn_cons (⟨jn_laload_ok (by decide +kernel), jn_laload_mo⟩ : jn_GEm jn_G0 jn_me144 143 (.inl jn_laload)) <|
  jn_cons (⟨jn_aload_n_ok (i := 0) (k := 0) (by decide +kernel) rfl, jn_aload_n_mo 0⟩ : jn_GEm jn_G0 jn_me144 144 (.inl (jn_aload_n 0))) <|
  jn_cons (⟨jn_getf_ok (ci := 7) (k := 9) (i := 32) (N := 22) (C := RX7) (T := TX7) (by decide +kernel) rfl (by decide) jn_u7 (jn_in 624 (by decide +kernel) rfl), jn_getf_mo 7 9⟩ : jn_GEm jn_G0 jn_me144 145 (.inl (jn_getf 7 9))) <|
  jn_cons (⟨jn_iload_ok (i := 7) (by decide +kernel), jn_iload_mo 7⟩ : jn_GEm jn_G0 jn_me144 148 (.inl (jn_iload 7))) <|
  jn_cons (⟨jn_laload_ok (by decide +kernel), jn_laload_mo⟩ : jn_GEm jn_G0 jn_me144 150 (.inl jn_laload)) <|
  jn_cons (⟨jn_lsub_ok (by decide +kernel), jn_lsub_mo⟩ : jn_GEm jn_G0 jn_me144 151 (.inl jn_lsub)) <|
  jn_cons (⟨jn_lload_ok (i := 5) (by decide +kernel), jn_lload_mo 5⟩ : jn_GEm jn_G0 jn_me144 152 (.inl (jn_lload 5))) <|
  jn_cons (⟨jn_lsub_ok (by decide +kernel), jn_lsub_mo⟩ : jn_GEm jn_G0 jn_me144 154 (.inl jn_lsub)) <|
  jn_cons (⟨jn_l2i_ok (by decide +kernel), jn_l2i_mo⟩ : jn_GEm jn_G0 jn_me144 155 (.inl jn_l2i)) <|
  jn_cons (⟨jn_iastore_ok (by decide +kernel), jn_iastore_mo⟩ : jn_GEm jn_G0 jn_me144 156 (.inl jn_iastore)) <|
  jn_cons (⟨jn_iinc_ok (i := 7) (n := 1) (by decide +kernel), jn_iinc_mo 7 1⟩ : jn_GEm jn_G0 jn_me144 157 (.inl (jn_iinc 7 1))) <|
  jn_cons (⟨jn_goto_ok (t := 124) (off := -36) (by decide +kernel) (by decide), jn_goto_mo 124⟩ : jn_GEm jn_G0 jn_me144 160 (.inl (jn_goto 124))) <|
  jn_cons (⟨jn_iload_ok (i := 4) (by decide +kernel), jn_iload_mo 4⟩ : jn_GEm jn_G0 jn_me144 163 (.inl (jn_iload 4))) <|
  jn_cons (⟨(by decide +kernel), rfl⟩ : jn_GEm jn_G0 jn_me144 165 (.inr (.inr 1))) <| jn_nil
theorem jn_ok144 : jn_GM jn_G0 144 := jn_GM_of jn_G0_144 rfl rfl (by decide +kernel) (by decide) (jn_appd jn_o144_0 (jn_appd jn_o144_1 (jn_appd jn_o144_2 (jn_o144_3))))
theorem jn_o145_0 : ∀ q ∈ jn_c145_0, jn_GEm jn_G0 jn_me145 q.1 q.2 :=
  jn_cons (⟨jn_aload_n_ok (i := 0) (k := 0) (by decide +kernel) rfl, jn_aload_n_mo 0⟩ : jn_GEm jn_G0 jn_me145 0 (.inl (jn_aload_n 0))) <|
  jn_cons (⟨jn_iload_n_ok (i := 1) (k := 1) (by decide +kernel) rfl, jn_iload_n_mo 1⟩ : jn_GEm jn_G0 jn_me145 1 (.inl (jn_iload_n 1))) <|
  jn_cons (⟨jn_iconst_ok (by decide +kernel), jn_iconst_mo 0⟩ : jn_GEm jn_G0 jn_me145 2 (.inl (jn_iconst 0))) <|
  jn_cons (jn_gc_of jn_G0_137 (jn_callV (i := 194) (na := 2) (ci := 7) (q := (RX7, TX7, 22)) (by decide +kernel) rfl (jn_in 868 (by decide +kernel) rfl) (jn_in 865 (by decide +kernel) rfl) (jn_in 867 (by decide +kernel) rfl) (jn_in 40 (by decide +kernel) rfl) (jn_in 60 (by decide +kernel) rfl) ⟨by decide, by decide, by decide +kernel⟩) : jn_GEm jn_G0 jn_me145 3 (.inr (.inl (137, 9, 3)))) <|
  jn_cons (⟨jn_aload_n_ok (i := 0) (k := 0) (by decide +kernel) rfl, jn_aload_n_mo 0⟩ : jn_GEm jn_G0 jn_me145 6 (.inl (jn_aload_n 0))) <|
  jn_cons (⟨jn_getf_ok (ci := 7) (k := 8) (i := 29) (N := 22) (C := RX7) (T := TX7) (by decide +kernel) rfl (by decide) jn_u7 (jn_in 623 (by decide +kernel) rfl), jn_getf_mo 7 8⟩ : jn_GEm jn_G0 jn_me145 7 (.inl (jn_getf 7 8))) <|
  jn_cons (⟨jn_iconst_ok (by decide +kernel), jn_iconst_mo 0⟩ : jn_GEm jn_G0 jn_me145 10 (.inl (jn_iconst 0))) <|
  jn_cons (⟨jn_laload_ok (by decide +kernel), jn_laload_mo⟩ : jn_GEm jn_G0 jn_me145 11 (.inl jn_laload)) <|
  jn_cons (⟨jn_lconst_ok (n := 0) (v := 0) (by decide +kernel) (by decide), jn_lconst_mo 0⟩ : jn_GEm jn_G0 jn_me145 12 (.inl (jn_lconst 0))) <|
  jn_cons (⟨jn_lcmp_ok (by decide +kernel), jn_lcmp_mo⟩ : jn_GEm jn_G0 jn_me145 13 (.inl jn_lcmp)) <|
  jn_cons (⟨jn_iflt_ok (t := 21) (off := 7) (by decide +kernel) (by decide), jn_iflt_mo 21⟩ : jn_GEm jn_G0 jn_me145 14 (.inl (jn_iflt 21))) <|
  jn_cons (⟨jn_iconst_ok (by decide +kernel), jn_iconst_mo 1⟩ : jn_GEm jn_G0 jn_me145 17 (.inl (jn_iconst 1))) <|
  jn_cons (⟨jn_goto_ok (t := 22) (off := 4) (by decide +kernel) (by decide), jn_goto_mo 22⟩ : jn_GEm jn_G0 jn_me145 18 (.inl (jn_goto 22))) <|
  jn_cons (⟨jn_iconst_ok (by decide +kernel), jn_iconst_mo 0⟩ : jn_GEm jn_G0 jn_me145 21 (.inl (jn_iconst 0))) <|
  jn_cons (⟨(by decide +kernel), rfl⟩ : jn_GEm jn_G0 jn_me145 22 (.inr (.inr 2))) <| jn_nil
theorem jn_ok145 : jn_GM jn_G0 145 := jn_GM_of jn_G0_145 rfl rfl (by decide +kernel) (by decide) (jn_o145_0)
theorem jn_o146_0 : ∀ q ∈ jn_c146_0, jn_GEm jn_G0 jn_me146 q.1 q.2 :=
  jn_cons (⟨jn_aload_n_ok (i := 0) (k := 0) (by decide +kernel) rfl, jn_aload_n_mo 0⟩ : jn_GEm jn_G0 jn_me146 0 (.inl (jn_aload_n 0))) <|
  jn_cons (⟨jn_iload_n_ok (i := 1) (k := 1) (by decide +kernel) rfl, jn_iload_n_mo 1⟩ : jn_GEm jn_G0 jn_me146 1 (.inl (jn_iload_n 1))) <|
  jn_cons (jn_gc_of jn_G0_99 (jn_callV (i := 147) (na := 1) (ci := 7) (q := (RX7, TX7, 22)) (by decide +kernel) rfl (jn_in 796 (by decide +kernel) rfl) (jn_in 793 (by decide +kernel) rfl) (jn_in 795 (by decide +kernel) rfl) (jn_in 34 (by decide +kernel) rfl) (jn_in 60 (by decide +kernel) rfl) ⟨by decide, by decide, by decide +kernel⟩) : jn_GEm jn_G0 jn_me146 2 (.inr (.inl (99, 9, 2)))) <|
  jn_cons (⟨jn_ifne_ok (t := 15) (off := 10) (by decide +kernel) (by decide), jn_ifne_mo 15⟩ : jn_GEm jn_G0 jn_me146 5 (.inl (jn_ifne 15))) <|
  jn_cons (⟨jn_aload_n_ok (i := 0) (k := 0) (by decide +kernel) rfl, jn_aload_n_mo 0⟩ : jn_GEm jn_G0 jn_me146 8 (.inl (jn_aload_n 0))) <|
  jn_cons (⟨jn_bipush_ok (n := (-3)) (v := (-3)) (by decide +kernel) (by decide), jn_bipush_mo (-3)⟩ : jn_GEm jn_G0 jn_me146 9 (.inl (jn_bipush (-3)))) <|
  jn_cons (jn_gc_of jn_G0_95 (jn_callV (i := 73) (na := 1) (ci := 7) (q := (RX7, TX7, 22)) (by decide +kernel) rfl (jn_in 694 (by decide +kernel) rfl) (jn_in 691 (by decide +kernel) rfl) (jn_in 693 (by decide +kernel) rfl) (jn_in 19 (by decide +kernel) rfl) (jn_in 60 (by decide +kernel) rfl) ⟨by decide, by decide, by decide +kernel⟩) : jn_GEm jn_G0 jn_me146 11 (.inr (.inl (95, 9, 2)))) <|
  jn_cons (⟨(by decide +kernel), rfl⟩ : jn_GEm jn_G0 jn_me146 14 (.inr (.inr 1))) <|
  jn_cons (⟨jn_aload_n_ok (i := 0) (k := 0) (by decide +kernel) rfl, jn_aload_n_mo 0⟩ : jn_GEm jn_G0 jn_me146 15 (.inl (jn_aload_n 0))) <|
  jn_cons (⟨jn_aload_n_ok (i := 0) (k := 0) (by decide +kernel) rfl, jn_aload_n_mo 0⟩ : jn_GEm jn_G0 jn_me146 16 (.inl (jn_aload_n 0))) <|
  jn_cons (⟨jn_getf_ok (ci := 7) (k := 4) (i := 16) (N := 22) (C := RX7) (T := TX7) (by decide +kernel) rfl (by decide) jn_u7 (jn_in 619 (by decide +kernel) rfl), jn_getf_mo 7 4⟩ : jn_GEm jn_G0 jn_me146 17 (.inl (jn_getf 7 4))) <|
  jn_cons (⟨jn_iload_n_ok (i := 1) (k := 1) (by decide +kernel) rfl, jn_iload_n_mo 1⟩ : jn_GEm jn_G0 jn_me146 20 (.inl (jn_iload_n 1))) <|
  jn_cons (⟨jn_iaload_ok (by decide +kernel), jn_iaload_mo⟩ : jn_GEm jn_G0 jn_me146 21 (.inl jn_iaload)) <|
  jn_cons (jn_gc_of jn_G0_106 (jn_callV (i := 110) (na := 1) (ci := 7) (q := (RX7, TX7, 22)) (by decide +kernel) rfl (jn_in 722 (by decide +kernel) rfl) (jn_in 719 (by decide +kernel) rfl) (jn_in 721 (by decide +kernel) rfl) (jn_in 23 (by decide +kernel) rfl) (jn_in 60 (by decide +kernel) rfl) ⟨by decide, by decide, by decide +kernel⟩) : jn_GEm jn_G0 jn_me146 22 (.inr (.inl (106, 9, 2)))) <|
  jn_cons (⟨jn_ifne_ok (t := 35) (off := 10) (by decide +kernel) (by decide), jn_ifne_mo 35⟩ : jn_GEm jn_G0 jn_me146 25 (.inl (jn_ifne 35))) <|
  jn_cons (⟨jn_aload_n_ok (i := 0) (k := 0) (by decide +kernel) rfl, jn_aload_n_mo 0⟩ : jn_GEm jn_G0 jn_me146 28 (.inl (jn_aload_n 0))) <|
  jn_cons (⟨jn_bipush_ok (n := (-5)) (v := (-5)) (by decide +kernel) (by decide), jn_bipush_mo (-5)⟩ : jn_GEm jn_G0 jn_me146 29 (.inl (jn_bipush (-5)))) <|
  jn_cons (jn_gc_of jn_G0_95 (jn_callV (i := 73) (na := 1) (ci := 7) (q := (RX7, TX7, 22)) (by decide +kernel) rfl (jn_in 694 (by decide +kernel) rfl) (jn_in 691 (by decide +kernel) rfl) (jn_in 693 (by decide +kernel) rfl) (jn_in 19 (by decide +kernel) rfl) (jn_in 60 (by decide +kernel) rfl) ⟨by decide, by decide, by decide +kernel⟩) : jn_GEm jn_G0 jn_me146 31 (.inr (.inl (95, 9, 2)))) <|
  jn_cons (⟨(by decide +kernel), rfl⟩ : jn_GEm jn_G0 jn_me146 34 (.inr (.inr 1))) <|
  jn_cons (⟨jn_aload_n_ok (i := 0) (k := 0) (by decide +kernel) rfl, jn_aload_n_mo 0⟩ : jn_GEm jn_G0 jn_me146 35 (.inl (jn_aload_n 0))) <|
  jn_cons (⟨jn_iload_n_ok (i := 1) (k := 1) (by decide +kernel) rfl, jn_iload_n_mo 1⟩ : jn_GEm jn_G0 jn_me146 36 (.inl (jn_iload_n 1))) <|
  jn_cons (jn_gc_of jn_G0_127 (jn_callV (i := 168) (na := 1) (ci := 7) (q := (RX7, TX7, 22)) (by decide +kernel) rfl (jn_in 824 (by decide +kernel) rfl) (jn_in 821 (by decide +kernel) rfl) (jn_in 823 (by decide +kernel) rfl) (jn_in 36 (by decide +kernel) rfl) (jn_in 60 (by decide +kernel) rfl) ⟨by decide, by decide, by decide +kernel⟩) : jn_GEm jn_G0 jn_me146 37 (.inr (.inl (127, 9, 2)))) <|
  jn_cons (⟨jn_aload_n_ok (i := 0) (k := 0) (by decide +kernel) rfl, jn_aload_n_mo 0⟩ : jn_GEm jn_G0 jn_me146 40 (.inl (jn_aload_n 0))) <|
  jn_cons (⟨jn_aload_n_ok (i := 0) (k := 0) (by decide +kernel) rfl, jn_aload_n_mo 0⟩ : jn_GEm jn_G0 jn_me146 41 (.inl (jn_aload_n 0))) <| jn_nil
theorem jn_o146_1 : ∀ q ∈ jn_c146_1, jn_GEm jn_G0 jn_me146 q.1 q.2 :=
  jn_cons (⟨jn_getf_ok (ci := 7) (k := 4) (i := 16) (N := 22) (C := RX7) (T := TX7) (by decide +kernel) rfl (by decide) jn_u7 (jn_in 619 (by decide +kernel) rfl), jn_getf_mo 7 4⟩ : jn_GEm jn_G0 jn_me146 42 (.inl (jn_getf 7 4))) <|
  jn_cons (⟨jn_iload_n_ok (i := 1) (k := 1) (by decide +kernel) rfl, jn_iload_n_mo 1⟩ : jn_GEm jn_G0 jn_me146 45 (.inl (jn_iload_n 1))) <|
  jn_cons (⟨jn_iaload_ok (by decide +kernel), jn_iaload_mo⟩ : jn_GEm jn_G0 jn_me146 46 (.inl jn_iaload)) <|
  jn_cons (jn_gc_of jn_G0_145 (jn_callV (i := 203) (na := 1) (ci := 7) (q := (RX7, TX7, 22)) (by decide +kernel) rfl (jn_in 900 (by decide +kernel) rfl) (jn_in 897 (by decide +kernel) rfl) (jn_in 899 (by decide +kernel) rfl) (jn_in 45 (by decide +kernel) rfl) (jn_in 60 (by decide +kernel) rfl) ⟨by decide, by decide, by decide +kernel⟩) : jn_GEm jn_G0 jn_me146 47 (.inr (.inl (145, 9, 2)))) <|
  jn_cons (⟨jn_ifeq_ok (t := 57) (off := 7) (by decide +kernel) (by decide), jn_ifeq_mo 57⟩ : jn_GEm jn_G0 jn_me146 50 (.inl (jn_ifeq 57))) <|
  jn_cons (⟨jn_iconst_ok (by decide +kernel), jn_iconst_mo 1⟩ : jn_GEm jn_G0 jn_me146 53 (.inl (jn_iconst 1))) <|
  jn_cons (⟨jn_goto_ok (t := 58) (off := 4) (by decide +kernel) (by decide), jn_goto_mo 58⟩ : jn_GEm jn_G0 jn_me146 54 (.inl (jn_goto 58))) <|
  jn_cons (⟨jn_iconst_ok (by decide +kernel), jn_iconst_mo 0⟩ : jn_GEm jn_G0 jn_me146 57 (.inl (jn_iconst 0))) <|
  jn_cons (⟨(by decide +kernel), rfl⟩ : jn_GEm jn_G0 jn_me146 58 (.inr (.inr 1))) <| jn_nil
theorem jn_ok146 : jn_GM jn_G0 146 := jn_GM_of jn_G0_146 rfl rfl (by decide +kernel) (by decide) (jn_appd jn_o146_0 (jn_o146_1))
theorem jn_o147_0 : ∀ q ∈ jn_c147_0, jn_GEm jn_G0 jn_me147 q.1 q.2 :=
  jn_cons (⟨jn_iconst_ok (by decide +kernel), jn_iconst_mo 0⟩ : jn_GEm jn_G0 jn_me147 0 (.inl (jn_iconst 0))) <|
  jn_cons (⟨jn_istore_n_ok (i := 2) (k := 2) (by decide +kernel) rfl, jn_istore_n_mo 2⟩ : jn_GEm jn_G0 jn_me147 1 (.inl (jn_istore_n 2))) <|
  jn_cons (⟨jn_iload_n_ok (i := 2) (k := 2) (by decide +kernel) rfl, jn_iload_n_mo 2⟩ : jn_GEm jn_G0 jn_me147 2 (.inl (jn_iload_n 2))) <|
  jn_cons (⟨jn_bipush_ok (n := 6) (v := 6) (by decide +kernel) (by decide), jn_bipush_mo 6⟩ : jn_GEm jn_G0 jn_me147 3 (.inl (jn_bipush 6))) <|
  jn_cons (⟨jn_icge_ok (t := 29) (off := 24) (by decide +kernel) (by decide), jn_icge_mo 29⟩ : jn_GEm jn_G0 jn_me147 5 (.inl (jn_icge 29))) <|
  jn_cons (⟨jn_aload_n_ok (i := 0) (k := 0) (by decide +kernel) rfl, jn_aload_n_mo 0⟩ : jn_GEm jn_G0 jn_me147 8 (.inl (jn_aload_n 0))) <|
  jn_cons (⟨jn_getf_ok (ci := 7) (k := 16) (i := 54) (N := 22) (C := RX7) (T := TX7) (by decide +kernel) rfl (by decide) jn_u7 (jn_in 631 (by decide +kernel) rfl), jn_getf_mo 7 16⟩ : jn_GEm jn_G0 jn_me147 9 (.inl (jn_getf 7 16))) <|
  jn_cons (⟨jn_iload_n_ok (i := 2) (k := 2) (by decide +kernel) rfl, jn_iload_n_mo 2⟩ : jn_GEm jn_G0 jn_me147 12 (.inl (jn_iload_n 2))) <|
  jn_cons (⟨jn_iload_n_ok (i := 2) (k := 2) (by decide +kernel) rfl, jn_iload_n_mo 2⟩ : jn_GEm jn_G0 jn_me147 13 (.inl (jn_iload_n 2))) <|
  jn_cons (⟨jn_ifne_ok (t := 21) (off := 7) (by decide +kernel) (by decide), jn_ifne_mo 21⟩ : jn_GEm jn_G0 jn_me147 14 (.inl (jn_ifne 21))) <|
  jn_cons (⟨jn_iload_n_ok (i := 1) (k := 1) (by decide +kernel) rfl, jn_iload_n_mo 1⟩ : jn_GEm jn_G0 jn_me147 17 (.inl (jn_iload_n 1))) <|
  jn_cons (⟨jn_goto_ok (t := 22) (off := 4) (by decide +kernel) (by decide), jn_goto_mo 22⟩ : jn_GEm jn_G0 jn_me147 18 (.inl (jn_goto 22))) <|
  jn_cons (⟨jn_iconst_ok (by decide +kernel), jn_iconst_mo 0⟩ : jn_GEm jn_G0 jn_me147 21 (.inl (jn_iconst 0))) <|
  jn_cons (⟨jn_iastore_ok (by decide +kernel), jn_iastore_mo⟩ : jn_GEm jn_G0 jn_me147 22 (.inl jn_iastore)) <|
  jn_cons (⟨jn_iinc_ok (i := 2) (n := 1) (by decide +kernel), jn_iinc_mo 2 1⟩ : jn_GEm jn_G0 jn_me147 23 (.inl (jn_iinc 2 1))) <|
  jn_cons (⟨jn_goto_ok (t := 2) (off := -24) (by decide +kernel) (by decide), jn_goto_mo 2⟩ : jn_GEm jn_G0 jn_me147 26 (.inl (jn_goto 2))) <|
  jn_cons (⟨(by decide +kernel), rfl⟩ : jn_GEm jn_G0 jn_me147 29 (.inr (.inr 0))) <| jn_nil
theorem jn_ok147 : jn_GM jn_G0 147 := jn_GM_of jn_G0_147 rfl rfl (by decide +kernel) (by decide) (jn_o147_0)
theorem jn_o148_0 : ∀ q ∈ jn_c148_0, jn_GEm jn_G0 jn_me148 q.1 q.2 :=
  jn_cons (⟨jn_iload_n_ok (i := 1) (k := 1) (by decide +kernel) rfl, jn_iload_n_mo 1⟩ : jn_GEm jn_G0 jn_me148 0 (.inl (jn_iload_n 1))) <|
  jn_cons (⟨jn_iconst_ok (by decide +kernel), jn_iconst_mo 2⟩ : jn_GEm jn_G0 jn_me148 1 (.inl (jn_iconst 2))) <|
  jn_cons (⟨jn_isub_ok (by decide +kernel), jn_isub_mo⟩ : jn_GEm jn_G0 jn_me148 2 (.inl jn_isub)) <|
  jn_cons (⟨jn_istore_n_ok (i := 2) (k := 2) (by decide +kernel) rfl, jn_istore_n_mo 2⟩ : jn_GEm jn_G0 jn_me148 3 (.inl (jn_istore_n 2))) <|
  jn_cons (⟨jn_iload_n_ok (i := 2) (k := 2) (by decide +kernel) rfl, jn_iload_n_mo 2⟩ : jn_GEm jn_G0 jn_me148 4 (.inl (jn_iload_n 2))) <|
  jn_cons (⟨jn_iflt_ok (t := 23) (off := 18) (by decide +kernel) (by decide), jn_iflt_mo 23⟩ : jn_GEm jn_G0 jn_me148 5 (.inl (jn_iflt 23))) <|
  jn_cons (⟨jn_aload_n_ok (i := 0) (k := 0) (by decide +kernel) rfl, jn_aload_n_mo 0⟩ : jn_GEm jn_G0 jn_me148 8 (.inl (jn_aload_n 0))) <|
  jn_cons (⟨jn_getf_ok (ci := 7) (k := 16) (i := 54) (N := 22) (C := RX7) (T := TX7) (by decide +kernel) rfl (by decide) jn_u7 (jn_in 631 (by decide +kernel) rfl), jn_getf_mo 7 16⟩ : jn_GEm jn_G0 jn_me148 9 (.inl (jn_getf 7 16))) <|
  jn_cons (⟨jn_iload_n_ok (i := 2) (k := 2) (by decide +kernel) rfl, jn_iload_n_mo 2⟩ : jn_GEm jn_G0 jn_me148 12 (.inl (jn_iload_n 2))) <|
  jn_cons (⟨jn_iaload_ok (by decide +kernel), jn_iaload_mo⟩ : jn_GEm jn_G0 jn_me148 13 (.inl jn_iaload)) <|
  jn_cons (⟨jn_ifne_ok (t := 23) (off := 9) (by decide +kernel) (by decide), jn_ifne_mo 23⟩ : jn_GEm jn_G0 jn_me148 14 (.inl (jn_ifne 23))) <|
  jn_cons (⟨jn_iinc_ok (i := 2) (n := -1) (by decide +kernel), jn_iinc_mo 2 (-1)⟩ : jn_GEm jn_G0 jn_me148 17 (.inl (jn_iinc 2 (-1)))) <|
  jn_cons (⟨jn_goto_ok (t := 4) (off := -16) (by decide +kernel) (by decide), jn_goto_mo 4⟩ : jn_GEm jn_G0 jn_me148 20 (.inl (jn_goto 4))) <|
  jn_cons (⟨jn_iload_n_ok (i := 2) (k := 2) (by decide +kernel) rfl, jn_iload_n_mo 2⟩ : jn_GEm jn_G0 jn_me148 23 (.inl (jn_iload_n 2))) <|
  jn_cons (⟨jn_ifge_ok (t := 29) (off := 5) (by decide +kernel) (by decide), jn_ifge_mo 29⟩ : jn_GEm jn_G0 jn_me148 24 (.inl (jn_ifge 29))) <|
  jn_cons (⟨jn_iconst_ok (by decide +kernel), jn_iconst_mo 0⟩ : jn_GEm jn_G0 jn_me148 27 (.inl (jn_iconst 0))) <|
  jn_cons (⟨(by decide +kernel), rfl⟩ : jn_GEm jn_G0 jn_me148 28 (.inr (.inr 2))) <|
  jn_cons (⟨jn_iconst_ok (by decide +kernel), jn_iconst_mo 1⟩ : jn_GEm jn_G0 jn_me148 29 (.inl (jn_iconst 1))) <|
  jn_cons (⟨jn_istore_n_ok (i := 3) (k := 3) (by decide +kernel) rfl, jn_istore_n_mo 3⟩ : jn_GEm jn_G0 jn_me148 30 (.inl (jn_istore_n 3))) <|
  jn_cons (⟨jn_iload_n_ok (i := 2) (k := 2) (by decide +kernel) rfl, jn_iload_n_mo 2⟩ : jn_GEm jn_G0 jn_me148 31 (.inl (jn_iload_n 2))) <|
  jn_cons (⟨jn_iconst_ok (by decide +kernel), jn_iconst_mo 1⟩ : jn_GEm jn_G0 jn_me148 32 (.inl (jn_iconst 1))) <|
  jn_cons (⟨jn_iadd_ok (by decide +kernel), jn_iadd_mo⟩ : jn_GEm jn_G0 jn_me148 33 (.inl jn_iadd)) <|
  jn_cons (⟨jn_istore_ok (i := 4) (by decide +kernel), jn_istore_mo 4⟩ : jn_GEm jn_G0 jn_me148 34 (.inl (jn_istore 4))) <|
  jn_cons (⟨jn_iload_ok (i := 4) (by decide +kernel), jn_iload_mo 4⟩ : jn_GEm jn_G0 jn_me148 36 (.inl (jn_iload 4))) <| jn_nil
theorem jn_o148_1 : ∀ q ∈ jn_c148_1, jn_GEm jn_G0 jn_me148 q.1 q.2 :=
  jn_cons (⟨jn_iload_n_ok (i := 1) (k := 1) (by decide +kernel) rfl, jn_iload_n_mo 1⟩ : jn_GEm jn_G0 jn_me148 38 (.inl (jn_iload_n 1))) <|
  jn_cons (⟨jn_icge_ok (t := 66) (off := 27) (by decide +kernel) (by decide), jn_icge_mo 66⟩ : jn_GEm jn_G0 jn_me148 39 (.inl (jn_icge 66))) <|
  jn_cons (⟨jn_iload_n_ok (i := 3) (k := 3) (by decide +kernel) rfl, jn_iload_n_mo 3⟩ : jn_GEm jn_G0 jn_me148 42 (.inl (jn_iload_n 3))) <|
  jn_cons (⟨jn_aload_n_ok (i := 0) (k := 0) (by decide +kernel) rfl, jn_aload_n_mo 0⟩ : jn_GEm jn_G0 jn_me148 43 (.inl (jn_aload_n 0))) <|
  jn_cons (⟨jn_getf_ok (ci := 7) (k := 16) (i := 54) (N := 22) (C := RX7) (T := TX7) (by decide +kernel) rfl (by decide) jn_u7 (jn_in 631 (by decide +kernel) rfl), jn_getf_mo 7 16⟩ : jn_GEm jn_G0 jn_me148 44 (.inl (jn_getf 7 16))) <|
  jn_cons (⟨jn_iload_ok (i := 4) (by decide +kernel), jn_iload_mo 4⟩ : jn_GEm jn_G0 jn_me148 47 (.inl (jn_iload 4))) <|
  jn_cons (⟨jn_iaload_ok (by decide +kernel), jn_iaload_mo⟩ : jn_GEm jn_G0 jn_me148 49 (.inl jn_iaload)) <|
  jn_cons (⟨jn_iadd_ok (by decide +kernel), jn_iadd_mo⟩ : jn_GEm jn_G0 jn_me148 50 (.inl jn_iadd)) <|
  jn_cons (⟨jn_istore_n_ok (i := 3) (k := 3) (by decide +kernel) rfl, jn_istore_n_mo 3⟩ : jn_GEm jn_G0 jn_me148 51 (.inl (jn_istore_n 3))) <|
  jn_cons (⟨jn_aload_n_ok (i := 0) (k := 0) (by decide +kernel) rfl, jn_aload_n_mo 0⟩ : jn_GEm jn_G0 jn_me148 52 (.inl (jn_aload_n 0))) <|
  jn_cons (⟨jn_getf_ok (ci := 7) (k := 16) (i := 54) (N := 22) (C := RX7) (T := TX7) (by decide +kernel) rfl (by decide) jn_u7 (jn_in 631 (by decide +kernel) rfl), jn_getf_mo 7 16⟩ : jn_GEm jn_G0 jn_me148 53 (.inl (jn_getf 7 16))) <|
  jn_cons (⟨jn_iload_ok (i := 4) (by decide +kernel), jn_iload_mo 4⟩ : jn_GEm jn_G0 jn_me148 56 (.inl (jn_iload 4))) <|
  jn_cons (⟨jn_iconst_ok (by decide +kernel), jn_iconst_mo 0⟩ : jn_GEm jn_G0 jn_me148 58 (.inl (jn_iconst 0))) <|
  jn_cons (⟨jn_iastore_ok (by decide +kernel), jn_iastore_mo⟩ : jn_GEm jn_G0 jn_me148 59 (.inl jn_iastore)) <|
  jn_cons (⟨jn_iinc_ok (i := 4) (n := 1) (by decide +kernel), jn_iinc_mo 4 1⟩ : jn_GEm jn_G0 jn_me148 60 (.inl (jn_iinc 4 1))) <|
  jn_cons (⟨jn_goto_ok (t := 36) (off := -27) (by decide +kernel) (by decide), jn_goto_mo 36⟩ : jn_GEm jn_G0 jn_me148 63 (.inl (jn_goto 36))) <|
  jn_cons (⟨jn_aload_n_ok (i := 0) (k := 0) (by decide +kernel) rfl, jn_aload_n_mo 0⟩ : jn_GEm jn_G0 jn_me148 66 (.inl (jn_aload_n 0))) <|
  jn_cons (⟨jn_getf_ok (ci := 7) (k := 16) (i := 54) (N := 22) (C := RX7) (T := TX7) (by decide +kernel) rfl (by decide) jn_u7 (jn_in 631 (by decide +kernel) rfl), jn_getf_mo 7 16⟩ : jn_GEm jn_G0 jn_me148 67 (.inl (jn_getf 7 16))) <|
  jn_cons (⟨jn_iload_n_ok (i := 2) (k := 2) (by decide +kernel) rfl, jn_iload_n_mo 2⟩ : jn_GEm jn_G0 jn_me148 70 (.inl (jn_iload_n 2))) <|
  jn_cons (⟨jn_dup2_ok (by decide +kernel), jn_dup2_mo⟩ : jn_GEm jn_G0 jn_me148 71 (.inl jn_dup2)) <|
  jn_cons (⟨jn_iaload_ok (by decide +kernel), jn_iaload_mo⟩ : jn_GEm jn_G0 jn_me148 72 (.inl jn_iaload)) <|
  jn_cons (⟨jn_iconst_ok (by decide +kernel), jn_iconst_mo 1⟩ : jn_GEm jn_G0 jn_me148 73 (.inl (jn_iconst 1))) <|
  jn_cons (⟨jn_isub_ok (by decide +kernel), jn_isub_mo⟩ : jn_GEm jn_G0 jn_me148 74 (.inl jn_isub)) <|
  jn_cons (⟨jn_iastore_ok (by decide +kernel), jn_iastore_mo⟩ : jn_GEm jn_G0 jn_me148 75 (.inl jn_iastore)) <| jn_nil
theorem jn_o148_2 : ∀ q ∈ jn_c148_2, jn_GEm jn_G0 jn_me148 q.1 q.2 :=
  jn_cons (⟨jn_aload_n_ok (i := 0) (k := 0) (by decide +kernel) rfl, jn_aload_n_mo 0⟩ : jn_GEm jn_G0 jn_me148 76 (.inl (jn_aload_n 0))) <|
  jn_cons (⟨jn_getf_ok (ci := 7) (k := 16) (i := 54) (N := 22) (C := RX7) (T := TX7) (by decide +kernel) rfl (by decide) jn_u7 (jn_in 631 (by decide +kernel) rfl), jn_getf_mo 7 16⟩ : jn_GEm jn_G0 jn_me148 77 (.inl (jn_getf 7 16))) <|
  jn_cons (⟨jn_iload_n_ok (i := 2) (k := 2) (by decide +kernel) rfl, jn_iload_n_mo 2⟩ : jn_GEm jn_G0 jn_me148 80 (.inl (jn_iload_n 2))) <|
  jn_cons (⟨jn_iconst_ok (by decide +kernel), jn_iconst_mo 1⟩ : jn_GEm jn_G0 jn_me148 81 (.inl (jn_iconst 1))) <|
  jn_cons (⟨jn_iadd_ok (by decide +kernel), jn_iadd_mo⟩ : jn_GEm jn_G0 jn_me148 82 (.inl jn_iadd)) <|
  jn_cons (⟨jn_iload_n_ok (i := 3) (k := 3) (by decide +kernel) rfl, jn_iload_n_mo 3⟩ : jn_GEm jn_G0 jn_me148 83 (.inl (jn_iload_n 3))) <|
  jn_cons (⟨jn_iastore_ok (by decide +kernel), jn_iastore_mo⟩ : jn_GEm jn_G0 jn_me148 84 (.inl jn_iastore)) <|
  jn_cons (⟨jn_iconst_ok (by decide +kernel), jn_iconst_mo 1⟩ : jn_GEm jn_G0 jn_me148 85 (.inl (jn_iconst 1))) <|
  jn_cons (⟨(by decide +kernel), rfl⟩ : jn_GEm jn_G0 jn_me148 86 (.inr (.inr 2))) <| jn_nil
theorem jn_ok148 : jn_GM jn_G0 148 := jn_GM_of jn_G0_148 rfl rfl (by decide +kernel) (by decide) (jn_appd jn_o148_0 (jn_appd jn_o148_1 (jn_o148_2)))
theorem jn_o149_0 : ∀ q ∈ jn_c149_0, jn_GEm jn_G0 jn_me149 q.1 q.2 :=
  jn_cons (⟨jn_aload_n_ok (i := 0) (k := 0) (by decide +kernel) rfl, jn_aload_n_mo 0⟩ : jn_GEm jn_G0 jn_me149 0 (.inl (jn_aload_n 0))) <|
  jn_cons (⟨jn_iload_n_ok (i := 2) (k := 2) (by decide +kernel) rfl, jn_iload_n_mo 2⟩ : jn_GEm jn_G0 jn_me149 1 (.inl (jn_iload_n 2))) <|
  jn_cons (jn_gc_of jn_G0_147 (jn_callV (i := 206) (na := 1) (ci := 7) (q := (RX7, TX7, 22)) (by decide +kernel) rfl (jn_in 925 (by decide +kernel) rfl) (jn_in 922 (by decide +kernel) rfl) (jn_in 924 (by decide +kernel) rfl) (jn_in 50 (by decide +kernel) rfl) (jn_in 60 (by decide +kernel) rfl) ⟨by decide, by decide, by decide +kernel⟩) : jn_GEm jn_G0 jn_me149 2 (.inr (.inl (147, 9, 2)))) <|
  jn_cons (⟨jn_iconst_ok (by decide +kernel), jn_iconst_mo 1⟩ : jn_GEm jn_G0 jn_me149 5 (.inl (jn_iconst 1))) <|
  jn_cons (⟨jn_istore_n_ok (i := 3) (k := 3) (by decide +kernel) rfl, jn_istore_n_mo 3⟩ : jn_GEm jn_G0 jn_me149 6 (.inl (jn_istore_n 3))) <|
  jn_cons (⟨jn_iload_n_ok (i := 3) (k := 3) (by decide +kernel) rfl, jn_iload_n_mo 3⟩ : jn_GEm jn_G0 jn_me149 7 (.inl (jn_iload_n 3))) <|
  jn_cons (⟨jn_ifeq_ok (t := 74) (off := 66) (by decide +kernel) (by decide), jn_ifeq_mo 74⟩ : jn_GEm jn_G0 jn_me149 8 (.inl (jn_ifeq 74))) <|
  jn_cons (⟨jn_iconst_ok (by decide +kernel), jn_iconst_mo 0⟩ : jn_GEm jn_G0 jn_me149 11 (.inl (jn_iconst 0))) <|
  jn_cons (⟨jn_istore_ok (i := 4) (by decide +kernel), jn_istore_mo 4⟩ : jn_GEm jn_G0 jn_me149 12 (.inl (jn_istore 4))) <|
  jn_cons (⟨jn_iload_ok (i := 4) (by decide +kernel), jn_iload_mo 4⟩ : jn_GEm jn_G0 jn_me149 14 (.inl (jn_iload 4))) <|
  jn_cons (⟨jn_bipush_ok (n := 6) (v := 6) (by decide +kernel) (by decide), jn_bipush_mo 6⟩ : jn_GEm jn_G0 jn_me149 16 (.inl (jn_bipush 6))) <|
  jn_cons (⟨jn_icge_ok (t := 50) (off := 32) (by decide +kernel) (by decide), jn_icge_mo 50⟩ : jn_GEm jn_G0 jn_me149 18 (.inl (jn_icge 50))) <|
  jn_cons (⟨jn_aload_n_ok (i := 0) (k := 0) (by decide +kernel) rfl, jn_aload_n_mo 0⟩ : jn_GEm jn_G0 jn_me149 21 (.inl (jn_aload_n 0))) <|
  jn_cons (⟨jn_getf_ok (ci := 7) (k := 8) (i := 29) (N := 22) (C := RX7) (T := TX7) (by decide +kernel) rfl (by decide) jn_u7 (jn_in 623 (by decide +kernel) rfl), jn_getf_mo 7 8⟩ : jn_GEm jn_G0 jn_me149 22 (.inl (jn_getf 7 8))) <|
  jn_cons (⟨jn_iload_ok (i := 4) (by decide +kernel), jn_iload_mo 4⟩ : jn_GEm jn_G0 jn_me149 25 (.inl (jn_iload 4))) <|
  jn_cons (⟨jn_aload_n_ok (i := 0) (k := 0) (by decide +kernel) rfl, jn_aload_n_mo 0⟩ : jn_GEm jn_G0 jn_me149 27 (.inl (jn_aload_n 0))) <|
  jn_cons (⟨jn_getf_ok (ci := 7) (k := 17) (i := 57) (N := 22) (C := RX7) (T := TX7) (by decide +kernel) rfl (by decide) jn_u7 (jn_in 632 (by decide +kernel) rfl), jn_getf_mo 7 17⟩ : jn_GEm jn_G0 jn_me149 28 (.inl (jn_getf 7 17))) <|
  jn_cons (⟨jn_iload_ok (i := 4) (by decide +kernel), jn_iload_mo 4⟩ : jn_GEm jn_G0 jn_me149 31 (.inl (jn_iload 4))) <|
  jn_cons (⟨jn_laload_ok (by decide +kernel), jn_laload_mo⟩ : jn_GEm jn_G0 jn_me149 33 (.inl jn_laload)) <|
  jn_cons (⟨jn_aload_n_ok (i := 0) (k := 0) (by decide +kernel) rfl, jn_aload_n_mo 0⟩ : jn_GEm jn_G0 jn_me149 34 (.inl (jn_aload_n 0))) <|
  jn_cons (⟨jn_getf_ok (ci := 7) (k := 16) (i := 54) (N := 22) (C := RX7) (T := TX7) (by decide +kernel) rfl (by decide) jn_u7 (jn_in 631 (by decide +kernel) rfl), jn_getf_mo 7 16⟩ : jn_GEm jn_G0 jn_me149 35 (.inl (jn_getf 7 16))) <|
  jn_cons (⟨jn_iload_ok (i := 4) (by decide +kernel), jn_iload_mo 4⟩ : jn_GEm jn_G0 jn_me149 38 (.inl (jn_iload 4))) <|
  jn_cons (⟨jn_iaload_ok (by decide +kernel), jn_iaload_mo⟩ : jn_GEm jn_G0 jn_me149 40 (.inl jn_iaload)) <|
  jn_cons (⟨jn_i2l_ok (by decide +kernel), jn_i2l_mo⟩ : jn_GEm jn_G0 jn_me149 41 (.inl jn_i2l)) <| jn_nil
theorem jn_o149_1 : ∀ q ∈ jn_c149_1, jn_GEm jn_G0 jn_me149 q.1 q.2 :=
  jn_cons (⟨jn_lsub_ok (by decide +kernel), jn_lsub_mo⟩ : jn_GEm jn_G0 jn_me149 42 (.inl jn_lsub)) <|
  jn_cons (⟨jn_lastore_ok (by decide +kernel), jn_lastore_mo⟩ : jn_GEm jn_G0 jn_me149 43 (.inl jn_lastore)) <|
  jn_cons (⟨jn_iinc_ok (i := 4) (n := 1) (by decide +kernel), jn_iinc_mo 4 1⟩ : jn_GEm jn_G0 jn_me149 44 (.inl (jn_iinc 4 1))) <|
  jn_cons (⟨jn_goto_ok (t := 14) (off := -33) (by decide +kernel) (by decide), jn_goto_mo 14⟩ : jn_GEm jn_G0 jn_me149 47 (.inl (jn_goto 14))) <|
  jn_cons (⟨jn_aload_n_ok (i := 0) (k := 0) (by decide +kernel) rfl, jn_aload_n_mo 0⟩ : jn_GEm jn_G0 jn_me149 50 (.inl (jn_aload_n 0))) <|
  jn_cons (⟨jn_iload_n_ok (i := 1) (k := 1) (by decide +kernel) rfl, jn_iload_n_mo 1⟩ : jn_GEm jn_G0 jn_me149 51 (.inl (jn_iload_n 1))) <|
  jn_cons (jn_gc_of jn_G0_145 (jn_callV (i := 203) (na := 1) (ci := 7) (q := (RX7, TX7, 22)) (by decide +kernel) rfl (jn_in 900 (by decide +kernel) rfl) (jn_in 897 (by decide +kernel) rfl) (jn_in 899 (by decide +kernel) rfl) (jn_in 45 (by decide +kernel) rfl) (jn_in 60 (by decide +kernel) rfl) ⟨by decide, by decide, by decide +kernel⟩) : jn_GEm jn_G0 jn_me149 52 (.inr (.inl (145, 9, 2)))) <|
  jn_cons (⟨jn_ifne_ok (t := 60) (off := 5) (by decide +kernel) (by decide), jn_ifne_mo 60⟩ : jn_GEm jn_G0 jn_me149 55 (.inl (jn_ifne 60))) <|
  jn_cons (⟨jn_iconst_ok (by decide +kernel), jn_iconst_mo 0⟩ : jn_GEm jn_G0 jn_me149 58 (.inl (jn_iconst 0))) <|
  jn_cons (⟨(by decide +kernel), rfl⟩ : jn_GEm jn_G0 jn_me149 59 (.inr (.inr 2))) <|
  jn_cons (⟨jn_aload_n_ok (i := 0) (k := 0) (by decide +kernel) rfl, jn_aload_n_mo 0⟩ : jn_GEm jn_G0 jn_me149 60 (.inl (jn_aload_n 0))) <|
  jn_cons (⟨jn_aload_n_ok (i := 0) (k := 0) (by decide +kernel) rfl, jn_aload_n_mo 0⟩ : jn_GEm jn_G0 jn_me149 61 (.inl (jn_aload_n 0))) <|
  jn_cons (⟨jn_getf_ok (ci := 7) (k := 0) (i := 7) (N := 22) (C := RX7) (T := TX7) (by decide +kernel) rfl (by decide) jn_u7 (jn_in 615 (by decide +kernel) rfl), jn_getf_mo 7 0⟩ : jn_GEm jn_G0 jn_me149 62 (.inl (jn_getf 7 0))) <|
  jn_cons (⟨jn_iload_n_ok (i := 1) (k := 1) (by decide +kernel) rfl, jn_iload_n_mo 1⟩ : jn_GEm jn_G0 jn_me149 65 (.inl (jn_iload_n 1))) <|
  jn_cons (⟨jn_iaload_ok (by decide +kernel), jn_iaload_mo⟩ : jn_GEm jn_G0 jn_me149 66 (.inl jn_iaload)) <|
  jn_cons (jn_gc_of jn_G0_148 (jn_callV (i := 209) (na := 1) (ci := 7) (q := (RX7, TX7, 22)) (by decide +kernel) rfl (jn_in 929 (by decide +kernel) rfl) (jn_in 926 (by decide +kernel) rfl) (jn_in 928 (by decide +kernel) rfl) (jn_in 51 (by decide +kernel) rfl) (jn_in 60 (by decide +kernel) rfl) ⟨by decide, by decide, by decide +kernel⟩) : jn_GEm jn_G0 jn_me149 67 (.inr (.inl (148, 9, 2)))) <|
  jn_cons (⟨jn_istore_n_ok (i := 3) (k := 3) (by decide +kernel) rfl, jn_istore_n_mo 3⟩ : jn_GEm jn_G0 jn_me149 70 (.inl (jn_istore_n 3))) <|
  jn_cons (⟨jn_goto_ok (t := 7) (off := -64) (by decide +kernel) (by decide), jn_goto_mo 7⟩ : jn_GEm jn_G0 jn_me149 71 (.inl (jn_goto 7))) <|
  jn_cons (⟨jn_iconst_ok (by decide +kernel), jn_iconst_mo 1⟩ : jn_GEm jn_G0 jn_me149 74 (.inl (jn_iconst 1))) <|
  jn_cons (⟨(by decide +kernel), rfl⟩ : jn_GEm jn_G0 jn_me149 75 (.inr (.inr 2))) <| jn_nil
theorem jn_ok149 : jn_GM jn_G0 149 := jn_GM_of jn_G0_149 rfl rfl (by decide +kernel) (by decide) (jn_appd jn_o149_0 (jn_o149_1))
theorem jn_o150_0 : ∀ q ∈ jn_c150_0, jn_GEm jn_G0 jn_me150 q.1 q.2 :=
  jn_cons (⟨jn_lconst_ok (n := 0) (v := 0) (by decide +kernel) (by decide), jn_lconst_mo 0⟩ : jn_GEm jn_G0 jn_me150 0 (.inl (jn_lconst 0))) <|
  jn_cons (⟨jn_lstore_n_ok (i := 2) (k := 2) (by decide +kernel) rfl, jn_lstore_n_mo 2⟩ : jn_GEm jn_G0 jn_me150 1 (.inl (jn_lstore_n 2))) <|
  jn_cons (⟨jn_iconst_ok (by decide +kernel), jn_iconst_mo 0⟩ : jn_GEm jn_G0 jn_me150 2 (.inl (jn_iconst 0))) <|
  jn_cons (⟨jn_istore_ok (i := 4) (by decide +kernel), jn_istore_mo 4⟩ : jn_GEm jn_G0 jn_me150 3 (.inl (jn_istore 4))) <|
  jn_cons (⟨jn_iload_ok (i := 4) (by decide +kernel), jn_iload_mo 4⟩ : jn_GEm jn_G0 jn_me150 5 (.inl (jn_iload 4))) <|
  jn_cons (⟨jn_bipush_ok (n := 6) (v := 6) (by decide +kernel) (by decide), jn_bipush_mo 6⟩ : jn_GEm jn_G0 jn_me150 7 (.inl (jn_bipush 6))) <|
  jn_cons (⟨jn_icge_ok (t := 28) (off := 19) (by decide +kernel) (by decide), jn_icge_mo 28⟩ : jn_GEm jn_G0 jn_me150 9 (.inl (jn_icge 28))) <|
  jn_cons (⟨jn_lload_n_ok (i := 2) (k := 2) (by decide +kernel) rfl, jn_lload_n_mo 2⟩ : jn_GEm jn_G0 jn_me150 12 (.inl (jn_lload_n 2))) <|
  jn_cons (⟨jn_aload_n_ok (i := 0) (k := 0) (by decide +kernel) rfl, jn_aload_n_mo 0⟩ : jn_GEm jn_G0 jn_me150 13 (.inl (jn_aload_n 0))) <|
  jn_cons (⟨jn_getf_ok (ci := 7) (k := 17) (i := 57) (N := 22) (C := RX7) (T := TX7) (by decide +kernel) rfl (by decide) jn_u7 (jn_in 632 (by decide +kernel) rfl), jn_getf_mo 7 17⟩ : jn_GEm jn_G0 jn_me150 14 (.inl (jn_getf 7 17))) <|
  jn_cons (⟨jn_iload_ok (i := 4) (by decide +kernel), jn_iload_mo 4⟩ : jn_GEm jn_G0 jn_me150 17 (.inl (jn_iload 4))) <|
  jn_cons (⟨jn_laload_ok (by decide +kernel), jn_laload_mo⟩ : jn_GEm jn_G0 jn_me150 19 (.inl jn_laload)) <|
  jn_cons (⟨jn_ladd_ok (by decide +kernel), jn_ladd_mo⟩ : jn_GEm jn_G0 jn_me150 20 (.inl jn_ladd)) <|
  jn_cons (⟨jn_lstore_n_ok (i := 2) (k := 2) (by decide +kernel) rfl, jn_lstore_n_mo 2⟩ : jn_GEm jn_G0 jn_me150 21 (.inl (jn_lstore_n 2))) <|
  jn_cons (⟨jn_iinc_ok (i := 4) (n := 1) (by decide +kernel), jn_iinc_mo 4 1⟩ : jn_GEm jn_G0 jn_me150 22 (.inl (jn_iinc 4 1))) <|
  jn_cons (⟨jn_goto_ok (t := 5) (off := -20) (by decide +kernel) (by decide), jn_goto_mo 5⟩ : jn_GEm jn_G0 jn_me150 25 (.inl (jn_goto 5))) <|
  jn_cons (⟨jn_lload_n_ok (i := 2) (k := 2) (by decide +kernel) rfl, jn_lload_n_mo 2⟩ : jn_GEm jn_G0 jn_me150 28 (.inl (jn_lload_n 2))) <|
  jn_cons (⟨jn_ldc2_ok (i := 212) (v := 2) (by decide +kernel) (jn_in 917 (by decide +kernel) rfl), jn_ldc2_mo 2⟩ : jn_GEm jn_G0 jn_me150 29 (.inl (jn_ldc2 2))) <|
  jn_cons (⟨jn_aload_n_ok (i := 0) (k := 0) (by decide +kernel) rfl, jn_aload_n_mo 0⟩ : jn_GEm jn_G0 jn_me150 32 (.inl (jn_aload_n 0))) <|
  jn_cons (⟨jn_iload_n_ok (i := 1) (k := 1) (by decide +kernel) rfl, jn_iload_n_mo 1⟩ : jn_GEm jn_G0 jn_me150 33 (.inl (jn_iload_n 1))) <|
  jn_cons (jn_gc_of jn_G0_105 (jn_callV (i := 113) (na := 1) (ci := 7) (q := (RX7, TX7, 22)) (by decide +kernel) rfl (jn_in 726 (by decide +kernel) rfl) (jn_in 723 (by decide +kernel) rfl) (jn_in 725 (by decide +kernel) rfl) (jn_in 24 (by decide +kernel) rfl) (jn_in 60 (by decide +kernel) rfl) ⟨by decide, by decide, by decide +kernel⟩) : jn_GEm jn_G0 jn_me150 34 (.inr (.inl (105, 9, 2)))) <|
  jn_cons (⟨jn_i2l_ok (by decide +kernel), jn_i2l_mo⟩ : jn_GEm jn_G0 jn_me150 37 (.inl jn_i2l)) <|
  jn_cons (⟨jn_lmul_ok (by decide +kernel), jn_lmul_mo⟩ : jn_GEm jn_G0 jn_me150 38 (.inl jn_lmul)) <|
  jn_cons (⟨jn_ldc2_ok (i := 212) (v := 2) (by decide +kernel) (jn_in 917 (by decide +kernel) rfl), jn_ldc2_mo 2⟩ : jn_GEm jn_G0 jn_me150 39 (.inl (jn_ldc2 2))) <| jn_nil
theorem jn_o150_1 : ∀ q ∈ jn_c150_1, jn_GEm jn_G0 jn_me150 q.1 q.2 :=
  jn_cons (⟨jn_lsub_ok (by decide +kernel), jn_lsub_mo⟩ : jn_GEm jn_G0 jn_me150 42 (.inl jn_lsub)) <|
  jn_cons (⟨jn_lcmp_ok (by decide +kernel), jn_lcmp_mo⟩ : jn_GEm jn_G0 jn_me150 43 (.inl jn_lcmp)) <|
  jn_cons (⟨jn_ifle_ok (t := 66) (off := 22) (by decide +kernel) (by decide), jn_ifle_mo 66⟩ : jn_GEm jn_G0 jn_me150 44 (.inl (jn_ifle 66))) <|
  jn_cons (⟨jn_lload_n_ok (i := 2) (k := 2) (by decide +kernel) rfl, jn_lload_n_mo 2⟩ : jn_GEm jn_G0 jn_me150 47 (.inl (jn_lload_n 2))) <|
  jn_cons (⟨jn_lconst_ok (n := 0) (v := 0) (by decide +kernel) (by decide), jn_lconst_mo 0⟩ : jn_GEm jn_G0 jn_me150 48 (.inl (jn_lconst 0))) <|
  jn_cons (⟨jn_lcmp_ok (by decide +kernel), jn_lcmp_mo⟩ : jn_GEm jn_G0 jn_me150 49 (.inl jn_lcmp)) <|
  jn_cons (⟨jn_ifge_ok (t := 57) (off := 7) (by decide +kernel) (by decide), jn_ifge_mo 57⟩ : jn_GEm jn_G0 jn_me150 50 (.inl (jn_ifge 57))) <|
  jn_cons (⟨jn_iconst_ok (by decide +kernel), jn_iconst_mo (-1)⟩ : jn_GEm jn_G0 jn_me150 53 (.inl (jn_iconst (-1)))) <|
  jn_cons (⟨jn_goto_ok (t := 65) (off := 11) (by decide +kernel) (by decide), jn_goto_mo 65⟩ : jn_GEm jn_G0 jn_me150 54 (.inl (jn_goto 65))) <|
  jn_cons (⟨jn_lload_n_ok (i := 2) (k := 2) (by decide +kernel) rfl, jn_lload_n_mo 2⟩ : jn_GEm jn_G0 jn_me150 57 (.inl (jn_lload_n 2))) <|
  jn_cons (⟨jn_l2i_ok (by decide +kernel), jn_l2i_mo⟩ : jn_GEm jn_G0 jn_me150 58 (.inl jn_l2i)) <|
  jn_cons (⟨jn_aload_n_ok (i := 0) (k := 0) (by decide +kernel) rfl, jn_aload_n_mo 0⟩ : jn_GEm jn_G0 jn_me150 59 (.inl (jn_aload_n 0))) <|
  jn_cons (⟨jn_iload_n_ok (i := 1) (k := 1) (by decide +kernel) rfl, jn_iload_n_mo 1⟩ : jn_GEm jn_G0 jn_me150 60 (.inl (jn_iload_n 1))) <|
  jn_cons (jn_gc_of jn_G0_105 (jn_callV (i := 113) (na := 1) (ci := 7) (q := (RX7, TX7, 22)) (by decide +kernel) rfl (jn_in 726 (by decide +kernel) rfl) (jn_in 723 (by decide +kernel) rfl) (jn_in 725 (by decide +kernel) rfl) (jn_in 24 (by decide +kernel) rfl) (jn_in 60 (by decide +kernel) rfl) ⟨by decide, by decide, by decide +kernel⟩) : jn_GEm jn_G0 jn_me150 61 (.inr (.inl (105, 9, 2)))) <|
  jn_cons (⟨jn_isub_ok (by decide +kernel), jn_isub_mo⟩ : jn_GEm jn_G0 jn_me150 64 (.inl jn_isub)) <|
  jn_cons (⟨(by decide +kernel), rfl⟩ : jn_GEm jn_G0 jn_me150 65 (.inr (.inr 1))) <|
  jn_cons (⟨jn_iconst_ok (by decide +kernel), jn_iconst_mo (-1)⟩ : jn_GEm jn_G0 jn_me150 66 (.inl (jn_iconst (-1)))) <|
  jn_cons (⟨jn_istore_ok (i := 4) (by decide +kernel), jn_istore_mo 4⟩ : jn_GEm jn_G0 jn_me150 67 (.inl (jn_istore 4))) <|
  jn_cons (⟨jn_iload_ok (i := 4) (by decide +kernel), jn_iload_mo 4⟩ : jn_GEm jn_G0 jn_me150 69 (.inl (jn_iload 4))) <|
  jn_cons (⟨jn_i2l_ok (by decide +kernel), jn_i2l_mo⟩ : jn_GEm jn_G0 jn_me150 71 (.inl jn_i2l)) <|
  jn_cons (⟨jn_lload_n_ok (i := 2) (k := 2) (by decide +kernel) rfl, jn_lload_n_mo 2⟩ : jn_GEm jn_G0 jn_me150 72 (.inl (jn_lload_n 2))) <|
  jn_cons (⟨jn_lcmp_ok (by decide +kernel), jn_lcmp_mo⟩ : jn_GEm jn_G0 jn_me150 73 (.inl jn_lcmp)) <|
  jn_cons (⟨jn_ifge_ok (t := 95) (off := 21) (by decide +kernel) (by decide), jn_ifge_mo 95⟩ : jn_GEm jn_G0 jn_me150 74 (.inl (jn_ifge 95))) <|
  jn_cons (⟨jn_aload_n_ok (i := 0) (k := 0) (by decide +kernel) rfl, jn_aload_n_mo 0⟩ : jn_GEm jn_G0 jn_me150 77 (.inl (jn_aload_n 0))) <| jn_nil
theorem jn_o150_2 : ∀ q ∈ jn_c150_2, jn_GEm jn_G0 jn_me150 q.1 q.2 :=
  jn_cons (⟨jn_iload_n_ok (i := 1) (k := 1) (by decide +kernel) rfl, jn_iload_n_mo 1⟩ : jn_GEm jn_G0 jn_me150 78 (.inl (jn_iload_n 1))) <|
  jn_cons (⟨jn_iload_ok (i := 4) (by decide +kernel), jn_iload_mo 4⟩ : jn_GEm jn_G0 jn_me150 79 (.inl (jn_iload 4))) <|
  jn_cons (⟨jn_iconst_ok (by decide +kernel), jn_iconst_mo 1⟩ : jn_GEm jn_G0 jn_me150 81 (.inl (jn_iconst 1))) <|
  jn_cons (⟨jn_iadd_ok (by decide +kernel), jn_iadd_mo⟩ : jn_GEm jn_G0 jn_me150 82 (.inl jn_iadd)) <|
  jn_cons (jn_gc_of jn_G0_149 (jn_callV (i := 214) (na := 2) (ci := 7) (q := (RX7, TX7, 22)) (by decide +kernel) rfl (jn_in 921 (by decide +kernel) rfl) (jn_in 918 (by decide +kernel) rfl) (jn_in 920 (by decide +kernel) rfl) (jn_in 49 (by decide +kernel) rfl) (jn_in 60 (by decide +kernel) rfl) ⟨by decide, by decide, by decide +kernel⟩) : jn_GEm jn_G0 jn_me150 83 (.inr (.inl (149, 9, 3)))) <|
  jn_cons (⟨jn_ifeq_ok (t := 95) (off := 9) (by decide +kernel) (by decide), jn_ifeq_mo 95⟩ : jn_GEm jn_G0 jn_me150 86 (.inl (jn_ifeq 95))) <|
  jn_cons (⟨jn_iinc_ok (i := 4) (n := 1) (by decide +kernel), jn_iinc_mo 4 1⟩ : jn_GEm jn_G0 jn_me150 89 (.inl (jn_iinc 4 1))) <|
  jn_cons (⟨jn_goto_ok (t := 69) (off := -23) (by decide +kernel) (by decide), jn_goto_mo 69⟩ : jn_GEm jn_G0 jn_me150 92 (.inl (jn_goto 69))) <|
  jn_cons (⟨jn_iload_ok (i := 4) (by decide +kernel), jn_iload_mo 4⟩ : jn_GEm jn_G0 jn_me150 95 (.inl (jn_iload 4))) <|
  jn_cons (⟨(by decide +kernel), rfl⟩ : jn_GEm jn_G0 jn_me150 97 (.inr (.inr 1))) <| jn_nil
theorem jn_ok150 : jn_GM jn_G0 150 := jn_GM_of jn_G0_150 rfl rfl (by decide +kernel) (by decide) (jn_appd jn_o150_0 (jn_appd jn_o150_1 (jn_o150_2)))
theorem jn_o151_0 : ∀ q ∈ jn_c151_0, jn_GEm jn_G0 jn_me151 q.1 q.2 :=
  jn_cons (⟨jn_iconst_ok (by decide +kernel), jn_iconst_mo 0⟩ : jn_GEm jn_G0 jn_me151 0 (.inl (jn_iconst 0))) <|
  jn_cons (⟨jn_istore_n_ok (i := 2) (k := 2) (by decide +kernel) rfl, jn_istore_n_mo 2⟩ : jn_GEm jn_G0 jn_me151 1 (.inl (jn_istore_n 2))) <|
  jn_cons (⟨jn_iload_n_ok (i := 2) (k := 2) (by decide +kernel) rfl, jn_iload_n_mo 2⟩ : jn_GEm jn_G0 jn_me151 2 (.inl (jn_iload_n 2))) <|
  jn_cons (⟨jn_bipush_ok (n := 6) (v := 6) (by decide +kernel) (by decide), jn_bipush_mo 6⟩ : jn_GEm jn_G0 jn_me151 3 (.inl (jn_bipush 6))) <|
  jn_cons (⟨jn_icge_ok (t := 32) (off := 27) (by decide +kernel) (by decide), jn_icge_mo 32⟩ : jn_GEm jn_G0 jn_me151 5 (.inl (jn_icge 32))) <|
  jn_cons (⟨jn_aload_n_ok (i := 0) (k := 0) (by decide +kernel) rfl, jn_aload_n_mo 0⟩ : jn_GEm jn_G0 jn_me151 8 (.inl (jn_aload_n 0))) <|
  jn_cons (⟨jn_getf_ok (ci := 7) (k := 17) (i := 57) (N := 22) (C := RX7) (T := TX7) (by decide +kernel) rfl (by decide) jn_u7 (jn_in 632 (by decide +kernel) rfl), jn_getf_mo 7 17⟩ : jn_GEm jn_G0 jn_me151 9 (.inl (jn_getf 7 17))) <|
  jn_cons (⟨jn_iload_n_ok (i := 2) (k := 2) (by decide +kernel) rfl, jn_iload_n_mo 2⟩ : jn_GEm jn_G0 jn_me151 12 (.inl (jn_iload_n 2))) <|
  jn_cons (⟨jn_aload_n_ok (i := 0) (k := 0) (by decide +kernel) rfl, jn_aload_n_mo 0⟩ : jn_GEm jn_G0 jn_me151 13 (.inl (jn_aload_n 0))) <|
  jn_cons (⟨jn_getf_ok (ci := 7) (k := 5) (i := 19) (N := 22) (C := RX7) (T := TX7) (by decide +kernel) rfl (by decide) jn_u7 (jn_in 620 (by decide +kernel) rfl), jn_getf_mo 7 5⟩ : jn_GEm jn_G0 jn_me151 14 (.inl (jn_getf 7 5))) <|
  jn_cons (⟨jn_bipush_ok (n := 6) (v := 6) (by decide +kernel) (by decide), jn_bipush_mo 6⟩ : jn_GEm jn_G0 jn_me151 17 (.inl (jn_bipush 6))) <|
  jn_cons (⟨jn_iload_n_ok (i := 1) (k := 1) (by decide +kernel) rfl, jn_iload_n_mo 1⟩ : jn_GEm jn_G0 jn_me151 19 (.inl (jn_iload_n 1))) <|
  jn_cons (⟨jn_imul_ok (by decide +kernel), jn_imul_mo⟩ : jn_GEm jn_G0 jn_me151 20 (.inl jn_imul)) <|
  jn_cons (⟨jn_iload_n_ok (i := 2) (k := 2) (by decide +kernel) rfl, jn_iload_n_mo 2⟩ : jn_GEm jn_G0 jn_me151 21 (.inl (jn_iload_n 2))) <|
  jn_cons (⟨jn_iadd_ok (by decide +kernel), jn_iadd_mo⟩ : jn_GEm jn_G0 jn_me151 22 (.inl jn_iadd)) <|
  jn_cons (⟨jn_iaload_ok (by decide +kernel), jn_iaload_mo⟩ : jn_GEm jn_G0 jn_me151 23 (.inl jn_iaload)) <|
  jn_cons (⟨jn_i2l_ok (by decide +kernel), jn_i2l_mo⟩ : jn_GEm jn_G0 jn_me151 24 (.inl jn_i2l)) <|
  jn_cons (⟨jn_lastore_ok (by decide +kernel), jn_lastore_mo⟩ : jn_GEm jn_G0 jn_me151 25 (.inl jn_lastore)) <|
  jn_cons (⟨jn_iinc_ok (i := 2) (n := 1) (by decide +kernel), jn_iinc_mo 2 1⟩ : jn_GEm jn_G0 jn_me151 26 (.inl (jn_iinc 2 1))) <|
  jn_cons (⟨jn_goto_ok (t := 2) (off := -27) (by decide +kernel) (by decide), jn_goto_mo 2⟩ : jn_GEm jn_G0 jn_me151 29 (.inl (jn_goto 2))) <|
  jn_cons (⟨(by decide +kernel), rfl⟩ : jn_GEm jn_G0 jn_me151 32 (.inr (.inr 0))) <| jn_nil
theorem jn_ok151 : jn_GM jn_G0 151 := jn_GM_of jn_G0_151 rfl rfl (by decide +kernel) (by decide) (jn_o151_0)
theorem jn_o152_0 : ∀ q ∈ jn_c152_0, jn_GEm jn_G0 jn_me152 q.1 q.2 :=
  jn_cons (⟨jn_aload_n_ok (i := 0) (k := 0) (by decide +kernel) rfl, jn_aload_n_mo 0⟩ : jn_GEm jn_G0 jn_me152 0 (.inl (jn_aload_n 0))) <|
  jn_cons (⟨jn_iload_n_ok (i := 1) (k := 1) (by decide +kernel) rfl, jn_iload_n_mo 1⟩ : jn_GEm jn_G0 jn_me152 1 (.inl (jn_iload_n 1))) <|
  jn_cons (jn_gc_of jn_G0_106 (jn_callV (i := 110) (na := 1) (ci := 7) (q := (RX7, TX7, 22)) (by decide +kernel) rfl (jn_in 722 (by decide +kernel) rfl) (jn_in 719 (by decide +kernel) rfl) (jn_in 721 (by decide +kernel) rfl) (jn_in 23 (by decide +kernel) rfl) (jn_in 60 (by decide +kernel) rfl) ⟨by decide, by decide, by decide +kernel⟩) : jn_GEm jn_G0 jn_me152 2 (.inr (.inl (106, 9, 2)))) <|
  jn_cons (⟨jn_ifne_ok (t := 13) (off := 8) (by decide +kernel) (by decide), jn_ifne_mo 13⟩ : jn_GEm jn_G0 jn_me152 5 (.inl (jn_ifne 13))) <|
  jn_cons (⟨jn_bipush_ok (n := (-5)) (v := (-5)) (by decide +kernel) (by decide), jn_bipush_mo (-5)⟩ : jn_GEm jn_G0 jn_me152 8 (.inl (jn_bipush (-5)))) <|
  jn_cons (⟨jn_goto_ok (t := 28) (off := 18) (by decide +kernel) (by decide), jn_goto_mo 28⟩ : jn_GEm jn_G0 jn_me152 10 (.inl (jn_goto 28))) <|
  jn_cons (⟨jn_aload_n_ok (i := 0) (k := 0) (by decide +kernel) rfl, jn_aload_n_mo 0⟩ : jn_GEm jn_G0 jn_me152 13 (.inl (jn_aload_n 0))) <|
  jn_cons (⟨jn_iload_n_ok (i := 1) (k := 1) (by decide +kernel) rfl, jn_iload_n_mo 1⟩ : jn_GEm jn_G0 jn_me152 14 (.inl (jn_iload_n 1))) <|
  jn_cons (jn_gc_of jn_G0_105 (jn_callV (i := 113) (na := 1) (ci := 7) (q := (RX7, TX7, 22)) (by decide +kernel) rfl (jn_in 726 (by decide +kernel) rfl) (jn_in 723 (by decide +kernel) rfl) (jn_in 725 (by decide +kernel) rfl) (jn_in 24 (by decide +kernel) rfl) (jn_in 60 (by decide +kernel) rfl) ⟨by decide, by decide, by decide +kernel⟩) : jn_GEm jn_G0 jn_me152 15 (.inr (.inl (105, 9, 2)))) <|
  jn_cons (⟨jn_iconst_ok (by decide +kernel), jn_iconst_mo 4⟩ : jn_GEm jn_G0 jn_me152 18 (.inl (jn_iconst 4))) <|
  jn_cons (⟨jn_icle_ok (t := 27) (off := 8) (by decide +kernel) (by decide), jn_icle_mo 27⟩ : jn_GEm jn_G0 jn_me152 19 (.inl (jn_icle 27))) <|
  jn_cons (⟨jn_bipush_ok (n := (-7)) (v := (-7)) (by decide +kernel) (by decide), jn_bipush_mo (-7)⟩ : jn_GEm jn_G0 jn_me152 22 (.inl (jn_bipush (-7)))) <|
  jn_cons (⟨jn_goto_ok (t := 28) (off := 4) (by decide +kernel) (by decide), jn_goto_mo 28⟩ : jn_GEm jn_G0 jn_me152 24 (.inl (jn_goto 28))) <|
  jn_cons (⟨jn_iconst_ok (by decide +kernel), jn_iconst_mo 0⟩ : jn_GEm jn_G0 jn_me152 27 (.inl (jn_iconst 0))) <|
  jn_cons (⟨(by decide +kernel), rfl⟩ : jn_GEm jn_G0 jn_me152 28 (.inr (.inr 1))) <| jn_nil
theorem jn_ok152 : jn_GM jn_G0 152 := jn_GM_of jn_G0_152 rfl rfl (by decide +kernel) (by decide) (jn_o152_0)
theorem jn_o153_0 : ∀ q ∈ jn_c153_0, jn_GEm jn_G0 jn_me153 q.1 q.2 :=
  jn_cons (⟨jn_aload_n_ok (i := 0) (k := 0) (by decide +kernel) rfl, jn_aload_n_mo 0⟩ : jn_GEm jn_G0 jn_me153 0 (.inl (jn_aload_n 0))) <|
  jn_cons (⟨jn_iload_n_ok (i := 1) (k := 1) (by decide +kernel) rfl, jn_iload_n_mo 1⟩ : jn_GEm jn_G0 jn_me153 1 (.inl (jn_iload_n 1))) <|
  jn_cons (jn_gc_of jn_G0_99 (jn_callV (i := 147) (na := 1) (ci := 7) (q := (RX7, TX7, 22)) (by decide +kernel) rfl (jn_in 796 (by decide +kernel) rfl) (jn_in 793 (by decide +kernel) rfl) (jn_in 795 (by decide +kernel) rfl) (jn_in 34 (by decide +kernel) rfl) (jn_in 60 (by decide +kernel) rfl) ⟨by decide, by decide, by decide +kernel⟩) : jn_GEm jn_G0 jn_me153 2 (.inr (.inl (99, 9, 2)))) <|
  jn_cons (⟨jn_ifne_ok (t := 15) (off := 10) (by decide +kernel) (by decide), jn_ifne_mo 15⟩ : jn_GEm jn_G0 jn_me153 5 (.inl (jn_ifne 15))) <|
  jn_cons (⟨jn_aload_n_ok (i := 0) (k := 0) (by decide +kernel) rfl, jn_aload_n_mo 0⟩ : jn_GEm jn_G0 jn_me153 8 (.inl (jn_aload_n 0))) <|
  jn_cons (⟨jn_bipush_ok (n := (-3)) (v := (-3)) (by decide +kernel) (by decide), jn_bipush_mo (-3)⟩ : jn_GEm jn_G0 jn_me153 9 (.inl (jn_bipush (-3)))) <|
  jn_cons (jn_gc_of jn_G0_95 (jn_callV (i := 73) (na := 1) (ci := 7) (q := (RX7, TX7, 22)) (by decide +kernel) rfl (jn_in 694 (by decide +kernel) rfl) (jn_in 691 (by decide +kernel) rfl) (jn_in 693 (by decide +kernel) rfl) (jn_in 19 (by decide +kernel) rfl) (jn_in 60 (by decide +kernel) rfl) ⟨by decide, by decide, by decide +kernel⟩) : jn_GEm jn_G0 jn_me153 11 (.inr (.inl (95, 9, 2)))) <|
  jn_cons (⟨(by decide +kernel), rfl⟩ : jn_GEm jn_G0 jn_me153 14 (.inr (.inr 1))) <|
  jn_cons (⟨jn_aload_n_ok (i := 0) (k := 0) (by decide +kernel) rfl, jn_aload_n_mo 0⟩ : jn_GEm jn_G0 jn_me153 15 (.inl (jn_aload_n 0))) <|
  jn_cons (⟨jn_aload_n_ok (i := 0) (k := 0) (by decide +kernel) rfl, jn_aload_n_mo 0⟩ : jn_GEm jn_G0 jn_me153 16 (.inl (jn_aload_n 0))) <|
  jn_cons (⟨jn_getf_ok (ci := 7) (k := 4) (i := 16) (N := 22) (C := RX7) (T := TX7) (by decide +kernel) rfl (by decide) jn_u7 (jn_in 619 (by decide +kernel) rfl), jn_getf_mo 7 4⟩ : jn_GEm jn_G0 jn_me153 17 (.inl (jn_getf 7 4))) <|
  jn_cons (⟨jn_iload_n_ok (i := 1) (k := 1) (by decide +kernel) rfl, jn_iload_n_mo 1⟩ : jn_GEm jn_G0 jn_me153 20 (.inl (jn_iload_n 1))) <|
  jn_cons (⟨jn_iaload_ok (by decide +kernel), jn_iaload_mo⟩ : jn_GEm jn_G0 jn_me153 21 (.inl jn_iaload)) <|
  jn_cons (jn_gc_of jn_G0_152 (jn_callV (i := 217) (na := 1) (ci := 7) (q := (RX7, TX7, 22)) (by decide +kernel) rfl (jn_in 908 (by decide +kernel) rfl) (jn_in 905 (by decide +kernel) rfl) (jn_in 907 (by decide +kernel) rfl) (jn_in 46 (by decide +kernel) rfl) (jn_in 60 (by decide +kernel) rfl) ⟨by decide, by decide, by decide +kernel⟩) : jn_GEm jn_G0 jn_me153 22 (.inr (.inl (152, 9, 2)))) <|
  jn_cons (⟨jn_istore_n_ok (i := 2) (k := 2) (by decide +kernel) rfl, jn_istore_n_mo 2⟩ : jn_GEm jn_G0 jn_me153 25 (.inl (jn_istore_n 2))) <|
  jn_cons (⟨jn_iload_n_ok (i := 2) (k := 2) (by decide +kernel) rfl, jn_iload_n_mo 2⟩ : jn_GEm jn_G0 jn_me153 26 (.inl (jn_iload_n 2))) <|
  jn_cons (⟨jn_ifeq_ok (t := 36) (off := 9) (by decide +kernel) (by decide), jn_ifeq_mo 36⟩ : jn_GEm jn_G0 jn_me153 27 (.inl (jn_ifeq 36))) <|
  jn_cons (⟨jn_aload_n_ok (i := 0) (k := 0) (by decide +kernel) rfl, jn_aload_n_mo 0⟩ : jn_GEm jn_G0 jn_me153 30 (.inl (jn_aload_n 0))) <|
  jn_cons (⟨jn_iload_n_ok (i := 2) (k := 2) (by decide +kernel) rfl, jn_iload_n_mo 2⟩ : jn_GEm jn_G0 jn_me153 31 (.inl (jn_iload_n 2))) <|
  jn_cons (jn_gc_of jn_G0_95 (jn_callV (i := 73) (na := 1) (ci := 7) (q := (RX7, TX7, 22)) (by decide +kernel) rfl (jn_in 694 (by decide +kernel) rfl) (jn_in 691 (by decide +kernel) rfl) (jn_in 693 (by decide +kernel) rfl) (jn_in 19 (by decide +kernel) rfl) (jn_in 60 (by decide +kernel) rfl) ⟨by decide, by decide, by decide +kernel⟩) : jn_GEm jn_G0 jn_me153 32 (.inr (.inl (95, 9, 2)))) <|
  jn_cons (⟨(by decide +kernel), rfl⟩ : jn_GEm jn_G0 jn_me153 35 (.inr (.inr 1))) <|
  jn_cons (⟨jn_aload_n_ok (i := 0) (k := 0) (by decide +kernel) rfl, jn_aload_n_mo 0⟩ : jn_GEm jn_G0 jn_me153 36 (.inl (jn_aload_n 0))) <|
  jn_cons (⟨jn_iload_n_ok (i := 1) (k := 1) (by decide +kernel) rfl, jn_iload_n_mo 1⟩ : jn_GEm jn_G0 jn_me153 37 (.inl (jn_iload_n 1))) <|
  jn_cons (jn_gc_of jn_G0_151 (jn_callV (i := 220) (na := 1) (ci := 7) (q := (RX7, TX7, 22)) (by decide +kernel) rfl (jn_in 912 (by decide +kernel) rfl) (jn_in 909 (by decide +kernel) rfl) (jn_in 911 (by decide +kernel) rfl) (jn_in 47 (by decide +kernel) rfl) (jn_in 60 (by decide +kernel) rfl) ⟨by decide, by decide, by decide +kernel⟩) : jn_GEm jn_G0 jn_me153 38 (.inr (.inl (151, 9, 2)))) <| jn_nil
theorem jn_o153_1 : ∀ q ∈ jn_c153_1, jn_GEm jn_G0 jn_me153 q.1 q.2 :=
  jn_cons (⟨jn_aload_n_ok (i := 0) (k := 0) (by decide +kernel) rfl, jn_aload_n_mo 0⟩ : jn_GEm jn_G0 jn_me153 41 (.inl (jn_aload_n 0))) <|
  jn_cons (⟨jn_aload_n_ok (i := 0) (k := 0) (by decide +kernel) rfl, jn_aload_n_mo 0⟩ : jn_GEm jn_G0 jn_me153 42 (.inl (jn_aload_n 0))) <|
  jn_cons (⟨jn_getf_ok (ci := 7) (k := 4) (i := 16) (N := 22) (C := RX7) (T := TX7) (by decide +kernel) rfl (by decide) jn_u7 (jn_in 619 (by decide +kernel) rfl), jn_getf_mo 7 4⟩ : jn_GEm jn_G0 jn_me153 43 (.inl (jn_getf 7 4))) <|
  jn_cons (⟨jn_iload_n_ok (i := 1) (k := 1) (by decide +kernel) rfl, jn_iload_n_mo 1⟩ : jn_GEm jn_G0 jn_me153 46 (.inl (jn_iload_n 1))) <|
  jn_cons (⟨jn_iaload_ok (by decide +kernel), jn_iaload_mo⟩ : jn_GEm jn_G0 jn_me153 47 (.inl jn_iaload)) <|
  jn_cons (jn_gc_of jn_G0_150 (jn_callV (i := 223) (na := 1) (ci := 7) (q := (RX7, TX7, 22)) (by decide +kernel) rfl (jn_in 916 (by decide +kernel) rfl) (jn_in 913 (by decide +kernel) rfl) (jn_in 915 (by decide +kernel) rfl) (jn_in 48 (by decide +kernel) rfl) (jn_in 60 (by decide +kernel) rfl) ⟨by decide, by decide, by decide +kernel⟩) : jn_GEm jn_G0 jn_me153 48 (.inr (.inl (150, 9, 2)))) <|
  jn_cons (⟨(by decide +kernel), rfl⟩ : jn_GEm jn_G0 jn_me153 51 (.inr (.inr 1))) <| jn_nil
theorem jn_ok153 : jn_GM jn_G0 153 := jn_GM_of jn_G0_153 rfl rfl (by decide +kernel) (by decide) (jn_appd jn_o153_0 (jn_o153_1))
theorem jn_o154_0 : ∀ q ∈ jn_c154_0, jn_GEm jn_G0 jn_me154 q.1 q.2 :=
  jn_cons (⟨jn_aload_n_ok (i := 0) (k := 0) (by decide +kernel) rfl, jn_aload_n_mo 0⟩ : jn_GEm jn_G0 jn_me154 0 (.inl (jn_aload_n 0))) <|
  jn_cons (⟨jn_iload_n_ok (i := 1) (k := 1) (by decide +kernel) rfl, jn_iload_n_mo 1⟩ : jn_GEm jn_G0 jn_me154 1 (.inl (jn_iload_n 1))) <|
  jn_cons (jn_gc_of jn_G0_99 (jn_callV (i := 147) (na := 1) (ci := 7) (q := (RX7, TX7, 22)) (by decide +kernel) rfl (jn_in 796 (by decide +kernel) rfl) (jn_in 793 (by decide +kernel) rfl) (jn_in 795 (by decide +kernel) rfl) (jn_in 34 (by decide +kernel) rfl) (jn_in 60 (by decide +kernel) rfl) ⟨by decide, by decide, by decide +kernel⟩) : jn_GEm jn_G0 jn_me154 2 (.inr (.inl (99, 9, 2)))) <|
  jn_cons (⟨jn_ifne_ok (t := 15) (off := 10) (by decide +kernel) (by decide), jn_ifne_mo 15⟩ : jn_GEm jn_G0 jn_me154 5 (.inl (jn_ifne 15))) <|
  jn_cons (⟨jn_aload_n_ok (i := 0) (k := 0) (by decide +kernel) rfl, jn_aload_n_mo 0⟩ : jn_GEm jn_G0 jn_me154 8 (.inl (jn_aload_n 0))) <|
  jn_cons (⟨jn_bipush_ok (n := (-3)) (v := (-3)) (by decide +kernel) (by decide), jn_bipush_mo (-3)⟩ : jn_GEm jn_G0 jn_me154 9 (.inl (jn_bipush (-3)))) <|
  jn_cons (jn_gc_of jn_G0_95 (jn_callV (i := 73) (na := 1) (ci := 7) (q := (RX7, TX7, 22)) (by decide +kernel) rfl (jn_in 694 (by decide +kernel) rfl) (jn_in 691 (by decide +kernel) rfl) (jn_in 693 (by decide +kernel) rfl) (jn_in 19 (by decide +kernel) rfl) (jn_in 60 (by decide +kernel) rfl) ⟨by decide, by decide, by decide +kernel⟩) : jn_GEm jn_G0 jn_me154 11 (.inr (.inl (95, 9, 2)))) <|
  jn_cons (⟨(by decide +kernel), rfl⟩ : jn_GEm jn_G0 jn_me154 14 (.inr (.inr 1))) <|
  jn_cons (⟨jn_aload_n_ok (i := 0) (k := 0) (by decide +kernel) rfl, jn_aload_n_mo 0⟩ : jn_GEm jn_G0 jn_me154 15 (.inl (jn_aload_n 0))) <|
  jn_cons (⟨jn_getf_ok (ci := 7) (k := 4) (i := 16) (N := 22) (C := RX7) (T := TX7) (by decide +kernel) rfl (by decide) jn_u7 (jn_in 619 (by decide +kernel) rfl), jn_getf_mo 7 4⟩ : jn_GEm jn_G0 jn_me154 16 (.inl (jn_getf 7 4))) <|
  jn_cons (⟨jn_iload_n_ok (i := 1) (k := 1) (by decide +kernel) rfl, jn_iload_n_mo 1⟩ : jn_GEm jn_G0 jn_me154 19 (.inl (jn_iload_n 1))) <|
  jn_cons (⟨jn_iaload_ok (by decide +kernel), jn_iaload_mo⟩ : jn_GEm jn_G0 jn_me154 20 (.inl jn_iaload)) <|
  jn_cons (⟨jn_istore_n_ok (i := 2) (k := 2) (by decide +kernel) rfl, jn_istore_n_mo 2⟩ : jn_GEm jn_G0 jn_me154 21 (.inl (jn_istore_n 2))) <|
  jn_cons (⟨jn_aload_n_ok (i := 0) (k := 0) (by decide +kernel) rfl, jn_aload_n_mo 0⟩ : jn_GEm jn_G0 jn_me154 22 (.inl (jn_aload_n 0))) <|
  jn_cons (⟨jn_iload_n_ok (i := 2) (k := 2) (by decide +kernel) rfl, jn_iload_n_mo 2⟩ : jn_GEm jn_G0 jn_me154 23 (.inl (jn_iload_n 2))) <|
  jn_cons (jn_gc_of jn_G0_152 (jn_callV (i := 217) (na := 1) (ci := 7) (q := (RX7, TX7, 22)) (by decide +kernel) rfl (jn_in 908 (by decide +kernel) rfl) (jn_in 905 (by decide +kernel) rfl) (jn_in 907 (by decide +kernel) rfl) (jn_in 46 (by decide +kernel) rfl) (jn_in 60 (by decide +kernel) rfl) ⟨by decide, by decide, by decide +kernel⟩) : jn_GEm jn_G0 jn_me154 24 (.inr (.inl (152, 9, 2)))) <|
  jn_cons (⟨jn_istore_n_ok (i := 3) (k := 3) (by decide +kernel) rfl, jn_istore_n_mo 3⟩ : jn_GEm jn_G0 jn_me154 27 (.inl (jn_istore_n 3))) <|
  jn_cons (⟨jn_iload_n_ok (i := 3) (k := 3) (by decide +kernel) rfl, jn_iload_n_mo 3⟩ : jn_GEm jn_G0 jn_me154 28 (.inl (jn_iload_n 3))) <|
  jn_cons (⟨jn_ifeq_ok (t := 38) (off := 9) (by decide +kernel) (by decide), jn_ifeq_mo 38⟩ : jn_GEm jn_G0 jn_me154 29 (.inl (jn_ifeq 38))) <|
  jn_cons (⟨jn_aload_n_ok (i := 0) (k := 0) (by decide +kernel) rfl, jn_aload_n_mo 0⟩ : jn_GEm jn_G0 jn_me154 32 (.inl (jn_aload_n 0))) <|
  jn_cons (⟨jn_iload_n_ok (i := 3) (k := 3) (by decide +kernel) rfl, jn_iload_n_mo 3⟩ : jn_GEm jn_G0 jn_me154 33 (.inl (jn_iload_n 3))) <|
  jn_cons (jn_gc_of jn_G0_95 (jn_callV (i := 73) (na := 1) (ci := 7) (q := (RX7, TX7, 22)) (by decide +kernel) rfl (jn_in 694 (by decide +kernel) rfl) (jn_in 691 (by decide +kernel) rfl) (jn_in 693 (by decide +kernel) rfl) (jn_in 19 (by decide +kernel) rfl) (jn_in 60 (by decide +kernel) rfl) ⟨by decide, by decide, by decide +kernel⟩) : jn_GEm jn_G0 jn_me154 34 (.inr (.inl (95, 9, 2)))) <|
  jn_cons (⟨(by decide +kernel), rfl⟩ : jn_GEm jn_G0 jn_me154 37 (.inr (.inr 1))) <|
  jn_cons (⟨jn_aload_n_ok (i := 0) (k := 0) (by decide +kernel) rfl, jn_aload_n_mo 0⟩ : jn_GEm jn_G0 jn_me154 38 (.inl (jn_aload_n 0))) <| jn_nil
theorem jn_o154_1 : ∀ q ∈ jn_c154_1, jn_GEm jn_G0 jn_me154 q.1 q.2 :=
  jn_cons (⟨jn_iload_n_ok (i := 1) (k := 1) (by decide +kernel) rfl, jn_iload_n_mo 1⟩ : jn_GEm jn_G0 jn_me154 39 (.inl (jn_iload_n 1))) <|
  jn_cons (jn_gc_of jn_G0_151 (jn_callV (i := 220) (na := 1) (ci := 7) (q := (RX7, TX7, 22)) (by decide +kernel) rfl (jn_in 912 (by decide +kernel) rfl) (jn_in 909 (by decide +kernel) rfl) (jn_in 911 (by decide +kernel) rfl) (jn_in 47 (by decide +kernel) rfl) (jn_in 60 (by decide +kernel) rfl) ⟨by decide, by decide, by decide +kernel⟩) : jn_GEm jn_G0 jn_me154 40 (.inr (.inl (151, 9, 2)))) <|
  jn_cons (⟨jn_aload_n_ok (i := 0) (k := 0) (by decide +kernel) rfl, jn_aload_n_mo 0⟩ : jn_GEm jn_G0 jn_me154 43 (.inl (jn_aload_n 0))) <|
  jn_cons (⟨jn_iload_n_ok (i := 2) (k := 2) (by decide +kernel) rfl, jn_iload_n_mo 2⟩ : jn_GEm jn_G0 jn_me154 44 (.inl (jn_iload_n 2))) <|
  jn_cons (jn_gc_of jn_G0_150 (jn_callV (i := 223) (na := 1) (ci := 7) (q := (RX7, TX7, 22)) (by decide +kernel) rfl (jn_in 916 (by decide +kernel) rfl) (jn_in 913 (by decide +kernel) rfl) (jn_in 915 (by decide +kernel) rfl) (jn_in 48 (by decide +kernel) rfl) (jn_in 60 (by decide +kernel) rfl) ⟨by decide, by decide, by decide +kernel⟩) : jn_GEm jn_G0 jn_me154 45 (.inr (.inl (150, 9, 2)))) <|
  jn_cons (⟨jn_istore_ok (i := 4) (by decide +kernel), jn_istore_mo 4⟩ : jn_GEm jn_G0 jn_me154 48 (.inl (jn_istore 4))) <|
  jn_cons (⟨jn_iload_ok (i := 4) (by decide +kernel), jn_iload_mo 4⟩ : jn_GEm jn_G0 jn_me154 50 (.inl (jn_iload 4))) <|
  jn_cons (⟨jn_bipush_ok (n := 20) (v := 20) (by decide +kernel) (by decide), jn_bipush_mo 20⟩ : jn_GEm jn_G0 jn_me154 52 (.inl (jn_bipush 20))) <|
  jn_cons (⟨jn_icle_ok (t := 64) (off := 10) (by decide +kernel) (by decide), jn_icle_mo 64⟩ : jn_GEm jn_G0 jn_me154 54 (.inl (jn_icle 64))) <|
  jn_cons (⟨jn_aload_n_ok (i := 0) (k := 0) (by decide +kernel) rfl, jn_aload_n_mo 0⟩ : jn_GEm jn_G0 jn_me154 57 (.inl (jn_aload_n 0))) <|
  jn_cons (⟨jn_bipush_ok (n := (-8)) (v := (-8)) (by decide +kernel) (by decide), jn_bipush_mo (-8)⟩ : jn_GEm jn_G0 jn_me154 58 (.inl (jn_bipush (-8)))) <|
  jn_cons (jn_gc_of jn_G0_95 (jn_callV (i := 73) (na := 1) (ci := 7) (q := (RX7, TX7, 22)) (by decide +kernel) rfl (jn_in 694 (by decide +kernel) rfl) (jn_in 691 (by decide +kernel) rfl) (jn_in 693 (by decide +kernel) rfl) (jn_in 19 (by decide +kernel) rfl) (jn_in 60 (by decide +kernel) rfl) ⟨by decide, by decide, by decide +kernel⟩) : jn_GEm jn_G0 jn_me154 60 (.inr (.inl (95, 9, 2)))) <|
  jn_cons (⟨(by decide +kernel), rfl⟩ : jn_GEm jn_G0 jn_me154 63 (.inr (.inr 1))) <|
  jn_cons (⟨jn_aload_n_ok (i := 0) (k := 0) (by decide +kernel) rfl, jn_aload_n_mo 0⟩ : jn_GEm jn_G0 jn_me154 64 (.inl (jn_aload_n 0))) <|
  jn_cons (⟨jn_iload_n_ok (i := 2) (k := 2) (by decide +kernel) rfl, jn_iload_n_mo 2⟩ : jn_GEm jn_G0 jn_me154 65 (.inl (jn_iload_n 2))) <|
  jn_cons (⟨jn_iload_ok (i := 4) (by decide +kernel), jn_iload_mo 4⟩ : jn_GEm jn_G0 jn_me154 66 (.inl (jn_iload 4))) <|
  jn_cons (⟨jn_iconst_ok (by decide +kernel), jn_iconst_mo 1⟩ : jn_GEm jn_G0 jn_me154 68 (.inl (jn_iconst 1))) <|
  jn_cons (⟨jn_iadd_ok (by decide +kernel), jn_iadd_mo⟩ : jn_GEm jn_G0 jn_me154 69 (.inl jn_iadd)) <|
  jn_cons (jn_gc_of jn_G0_149 (jn_callV (i := 214) (na := 2) (ci := 7) (q := (RX7, TX7, 22)) (by decide +kernel) rfl (jn_in 921 (by decide +kernel) rfl) (jn_in 918 (by decide +kernel) rfl) (jn_in 920 (by decide +kernel) rfl) (jn_in 49 (by decide +kernel) rfl) (jn_in 60 (by decide +kernel) rfl) ⟨by decide, by decide, by decide +kernel⟩) : jn_GEm jn_G0 jn_me154 70 (.inr (.inl (149, 9, 3)))) <|
  jn_cons (⟨jn_istore_ok (i := 5) (by decide +kernel), jn_istore_mo 5⟩ : jn_GEm jn_G0 jn_me154 73 (.inl (jn_istore 5))) <|
  jn_cons (⟨jn_aload_n_ok (i := 0) (k := 0) (by decide +kernel) rfl, jn_aload_n_mo 0⟩ : jn_GEm jn_G0 jn_me154 75 (.inl (jn_aload_n 0))) <|
  jn_cons (⟨jn_aload_n_ok (i := 0) (k := 0) (by decide +kernel) rfl, jn_aload_n_mo 0⟩ : jn_GEm jn_G0 jn_me154 76 (.inl (jn_aload_n 0))) <|
  jn_cons (⟨jn_getf_ok (ci := 7) (k := 0) (i := 7) (N := 22) (C := RX7) (T := TX7) (by decide +kernel) rfl (by decide) jn_u7 (jn_in 615 (by decide +kernel) rfl), jn_getf_mo 7 0⟩ : jn_GEm jn_G0 jn_me154 77 (.inl (jn_getf 7 0))) <|
  jn_cons (⟨jn_iload_n_ok (i := 2) (k := 2) (by decide +kernel) rfl, jn_iload_n_mo 2⟩ : jn_GEm jn_G0 jn_me154 80 (.inl (jn_iload_n 2))) <| jn_nil
theorem jn_o154_2 : ∀ q ∈ jn_c154_2, jn_GEm jn_G0 jn_me154 q.1 q.2 :=
  jn_cons (⟨jn_iaload_ok (by decide +kernel), jn_iaload_mo⟩ : jn_GEm jn_G0 jn_me154 81 (.inl jn_iaload)) <|
  jn_cons (⟨jn_putf_ok (ci := 7) (k := 21) (κ := 0) (i := 69) (N := 22) (C := RX7) (T := TX7) (ty0 := tyX7) (ty := .int) (by decide +kernel) rfl (by decide) jn_u7 (jn_in 636 (by decide +kernel) rfl) tyX7_ok nmX7 rfl (by decide +kernel) jn_po_int, jn_putf_mo 7 21 0⟩ : jn_GEm jn_G0 jn_me154 82 (.inl (jn_putf 7 21 0))) <|
  jn_cons (⟨jn_iconst_ok (by decide +kernel), jn_iconst_mo 0⟩ : jn_GEm jn_G0 jn_me154 85 (.inl (jn_iconst 0))) <|
  jn_cons (⟨jn_istore_ok (i := 6) (by decide +kernel), jn_istore_mo 6⟩ : jn_GEm jn_G0 jn_me154 86 (.inl (jn_istore 6))) <|
  jn_cons (⟨jn_iload_ok (i := 6) (by decide +kernel), jn_iload_mo 6⟩ : jn_GEm jn_G0 jn_me154 88 (.inl (jn_iload 6))) <|
  jn_cons (⟨jn_aload_n_ok (i := 0) (k := 0) (by decide +kernel) rfl, jn_aload_n_mo 0⟩ : jn_GEm jn_G0 jn_me154 90 (.inl (jn_aload_n 0))) <|
  jn_cons (⟨jn_getf_ok (ci := 7) (k := 21) (i := 69) (N := 22) (C := RX7) (T := TX7) (by decide +kernel) rfl (by decide) jn_u7 (jn_in 636 (by decide +kernel) rfl), jn_getf_mo 7 21⟩ : jn_GEm jn_G0 jn_me154 91 (.inl (jn_getf 7 21))) <|
  jn_cons (⟨jn_icge_ok (t := 117) (off := 23) (by decide +kernel) (by decide), jn_icge_mo 117⟩ : jn_GEm jn_G0 jn_me154 94 (.inl (jn_icge 117))) <|
  jn_cons (⟨jn_aload_n_ok (i := 0) (k := 0) (by decide +kernel) rfl, jn_aload_n_mo 0⟩ : jn_GEm jn_G0 jn_me154 97 (.inl (jn_aload_n 0))) <|
  jn_cons (⟨jn_getf_ok (ci := 7) (k := 19) (i := 63) (N := 22) (C := RX7) (T := TX7) (by decide +kernel) rfl (by decide) jn_u7 (jn_in 634 (by decide +kernel) rfl), jn_getf_mo 7 19⟩ : jn_GEm jn_G0 jn_me154 98 (.inl (jn_getf 7 19))) <|
  jn_cons (⟨jn_iload_ok (i := 6) (by decide +kernel), jn_iload_mo 6⟩ : jn_GEm jn_G0 jn_me154 101 (.inl (jn_iload 6))) <|
  jn_cons (⟨jn_aload_n_ok (i := 0) (k := 0) (by decide +kernel) rfl, jn_aload_n_mo 0⟩ : jn_GEm jn_G0 jn_me154 103 (.inl (jn_aload_n 0))) <|
  jn_cons (⟨jn_getf_ok (ci := 7) (k := 16) (i := 54) (N := 22) (C := RX7) (T := TX7) (by decide +kernel) rfl (by decide) jn_u7 (jn_in 631 (by decide +kernel) rfl), jn_getf_mo 7 16⟩ : jn_GEm jn_G0 jn_me154 104 (.inl (jn_getf 7 16))) <|
  jn_cons (⟨jn_iload_ok (i := 6) (by decide +kernel), jn_iload_mo 6⟩ : jn_GEm jn_G0 jn_me154 107 (.inl (jn_iload 6))) <|
  jn_cons (⟨jn_iaload_ok (by decide +kernel), jn_iaload_mo⟩ : jn_GEm jn_G0 jn_me154 109 (.inl jn_iaload)) <|
  jn_cons (⟨jn_iastore_ok (by decide +kernel), jn_iastore_mo⟩ : jn_GEm jn_G0 jn_me154 110 (.inl jn_iastore)) <|
  jn_cons (⟨jn_iinc_ok (i := 6) (n := 1) (by decide +kernel), jn_iinc_mo 6 1⟩ : jn_GEm jn_G0 jn_me154 111 (.inl (jn_iinc 6 1))) <|
  jn_cons (⟨jn_goto_ok (t := 88) (off := -26) (by decide +kernel) (by decide), jn_goto_mo 88⟩ : jn_GEm jn_G0 jn_me154 114 (.inl (jn_goto 88))) <|
  jn_cons (⟨jn_iload_ok (i := 4) (by decide +kernel), jn_iload_mo 4⟩ : jn_GEm jn_G0 jn_me154 117 (.inl (jn_iload 4))) <|
  jn_cons (⟨jn_iconst_ok (by decide +kernel), jn_iconst_mo 1⟩ : jn_GEm jn_G0 jn_me154 119 (.inl (jn_iconst 1))) <|
  jn_cons (⟨jn_iadd_ok (by decide +kernel), jn_iadd_mo⟩ : jn_GEm jn_G0 jn_me154 120 (.inl jn_iadd)) <|
  jn_cons (⟨(by decide +kernel), rfl⟩ : jn_GEm jn_G0 jn_me154 121 (.inr (.inr 1))) <| jn_nil
theorem jn_ok154 : jn_GM jn_G0 154 := jn_GM_of jn_G0_154 rfl rfl (by decide +kernel) (by decide) (jn_appd jn_o154_0 (jn_appd jn_o154_1 (jn_o154_2)))
