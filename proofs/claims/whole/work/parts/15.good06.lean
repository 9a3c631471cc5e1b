theorem jn_o155_0 : ∀ q ∈ jn_c155_0, jn_GEm jn_G0 jn_me155 q.1 q.2 :=
  jn_cons (⟨jn_aload_n_ok (i := 0) (k := 0) (by decide +kernel) rfl, jn_aload_n_mo 0⟩ : jn_GEm jn_G0 jn_me155 0 (.inl (jn_aload_n 0))) <|
  jn_cons (⟨jn_iload_n_ok (i := 2) (k := 2) (by decide +kernel) rfl, jn_iload_n_mo 2⟩ : jn_GEm jn_G0 jn_me155 1 (.inl (jn_iload_n 2))) <|
  jn_cons (jn_gc_of jn_G0_147 (jn_callV (i := 206) (na := 1) (ci := 7) (q := (RX7, TX7, 22)) (by decide +kernel) rfl (jn_in 925 (by decide +kernel) rfl) (jn_in 922 (by decide +kernel) rfl) (jn_in 924 (by decide +kernel) rfl) (jn_in 50 (by decide +kernel) rfl) (jn_in 60 (by decide +kernel) rfl) ⟨by decide, by decide, by decide +kernel⟩) : jn_GEm jn_G0 jn_me155 2 (.inr (.inl (147, 9, 2)))) <|
  jn_cons (⟨jn_iconst_ok (by decide +kernel), jn_iconst_mo 1⟩ : jn_GEm jn_G0 jn_me155 5 (.inl (jn_iconst 1))) <|
  jn_cons (⟨jn_istore_n_ok (i := 3) (k := 3) (by decide +kernel) rfl, jn_istore_n_mo 3⟩ : jn_GEm jn_G0 jn_me155 6 (.inl (jn_istore_n 3))) <|
  jn_cons (⟨jn_iload_n_ok (i := 3) (k := 3) (by decide +kernel) rfl, jn_iload_n_mo 3⟩ : jn_GEm jn_G0 jn_me155 7 (.inl (jn_iload_n 3))) <|
  jn_cons (⟨jn_ifeq_ok (t := 111) (off := 103) (by decide +kernel) (by decide), jn_ifeq_mo 111⟩ : jn_GEm jn_G0 jn_me155 8 (.inl (jn_ifeq 111))) <|
  jn_cons (⟨jn_iconst_ok (by decide +kernel), jn_iconst_mo 0⟩ : jn_GEm jn_G0 jn_me155 11 (.inl (jn_iconst 0))) <|
  jn_cons (⟨jn_istore_ok (i := 4) (by decide +kernel), jn_istore_mo 4⟩ : jn_GEm jn_G0 jn_me155 12 (.inl (jn_istore 4))) <|
  jn_cons (⟨jn_iload_ok (i := 4) (by decide +kernel), jn_iload_mo 4⟩ : jn_GEm jn_G0 jn_me155 14 (.inl (jn_iload 4))) <|
  jn_cons (⟨jn_bipush_ok (n := 6) (v := 6) (by decide +kernel) (by decide), jn_bipush_mo 6⟩ : jn_GEm jn_G0 jn_me155 16 (.inl (jn_bipush 6))) <|
  jn_cons (⟨jn_icge_ok (t := 56) (off := 38) (by decide +kernel) (by decide), jn_icge_mo 56⟩ : jn_GEm jn_G0 jn_me155 18 (.inl (jn_icge 56))) <|
  jn_cons (⟨jn_aload_n_ok (i := 0) (k := 0) (by decide +kernel) rfl, jn_aload_n_mo 0⟩ : jn_GEm jn_G0 jn_me155 21 (.inl (jn_aload_n 0))) <|
  jn_cons (⟨jn_getf_ok (ci := 7) (k := 18) (i := 60) (N := 22) (C := RX7) (T := TX7) (by decide +kernel) rfl (by decide) jn_u7 (jn_in 633 (by decide +kernel) rfl), jn_getf_mo 7 18⟩ : jn_GEm jn_G0 jn_me155 22 (.inl (jn_getf 7 18))) <|
  jn_cons (⟨jn_iload_ok (i := 4) (by decide +kernel), jn_iload_mo 4⟩ : jn_GEm jn_G0 jn_me155 25 (.inl (jn_iload 4))) <|
  jn_cons (⟨jn_aload_n_ok (i := 0) (k := 0) (by decide +kernel) rfl, jn_aload_n_mo 0⟩ : jn_GEm jn_G0 jn_me155 27 (.inl (jn_aload_n 0))) <|
  jn_cons (⟨jn_getf_ok (ci := 7) (k := 16) (i := 54) (N := 22) (C := RX7) (T := TX7) (by decide +kernel) rfl (by decide) jn_u7 (jn_in 631 (by decide +kernel) rfl), jn_getf_mo 7 16⟩ : jn_GEm jn_G0 jn_me155 28 (.inl (jn_getf 7 16))) <|
  jn_cons (⟨jn_iload_ok (i := 4) (by decide +kernel), jn_iload_mo 4⟩ : jn_GEm jn_G0 jn_me155 31 (.inl (jn_iload 4))) <|
  jn_cons (⟨jn_iaload_ok (by decide +kernel), jn_iaload_mo⟩ : jn_GEm jn_G0 jn_me155 33 (.inl jn_iaload)) <|
  jn_cons (⟨jn_iastore_ok (by decide +kernel), jn_iastore_mo⟩ : jn_GEm jn_G0 jn_me155 34 (.inl jn_iastore)) <|
  jn_cons (⟨jn_aload_n_ok (i := 0) (k := 0) (by decide +kernel) rfl, jn_aload_n_mo 0⟩ : jn_GEm jn_G0 jn_me155 35 (.inl (jn_aload_n 0))) <|
  jn_cons (⟨jn_getf_ok (ci := 7) (k := 17) (i := 57) (N := 22) (C := RX7) (T := TX7) (by decide +kernel) rfl (by decide) jn_u7 (jn_in 632 (by decide +kernel) rfl), jn_getf_mo 7 17⟩ : jn_GEm jn_G0 jn_me155 36 (.inl (jn_getf 7 17))) <|
  jn_cons (⟨jn_iload_ok (i := 4) (by decide +kernel), jn_iload_mo 4⟩ : jn_GEm jn_G0 jn_me155 39 (.inl (jn_iload 4))) <|
  jn_cons (⟨jn_aload_n_ok (i := 0) (k := 0) (by decide +kernel) rfl, jn_aload_n_mo 0⟩ : jn_GEm jn_G0 jn_me155 41 (.inl (jn_aload_n 0))) <| jn_nil
theorem jn_o155_1 : ∀ q ∈ jn_c155_1, jn_GEm jn_G0 jn_me155 q.1 q.2 :=
  jn_cons (⟨jn_getf_ok (ci := 7) (k := 16) (i := 54) (N := 22) (C := RX7) (T := TX7) (by decide +kernel) rfl (by decide) jn_u7 (jn_in 631 (by decide +kernel) rfl), jn_getf_mo 7 16⟩ : jn_GEm jn_G0 jn_me155 42 (.inl (jn_getf 7 16))) <|
  jn_cons (⟨jn_iload_ok (i := 4) (by decide +kernel), jn_iload_mo 4⟩ : jn_GEm jn_G0 jn_me155 45 (.inl (jn_iload 4))) <|
  jn_cons (⟨jn_iaload_ok (by decide +kernel), jn_iaload_mo⟩ : jn_GEm jn_G0 jn_me155 47 (.inl jn_iaload)) <|
  jn_cons (⟨jn_i2l_ok (by decide +kernel), jn_i2l_mo⟩ : jn_GEm jn_G0 jn_me155 48 (.inl jn_i2l)) <|
  jn_cons (⟨jn_lastore_ok (by decide +kernel), jn_lastore_mo⟩ : jn_GEm jn_G0 jn_me155 49 (.inl jn_lastore)) <|
  jn_cons (⟨jn_iinc_ok (i := 4) (n := 1) (by decide +kernel), jn_iinc_mo 4 1⟩ : jn_GEm jn_G0 jn_me155 50 (.inl (jn_iinc 4 1))) <|
  jn_cons (⟨jn_goto_ok (t := 14) (off := -39) (by decide +kernel) (by decide), jn_goto_mo 14⟩ : jn_GEm jn_G0 jn_me155 53 (.inl (jn_goto 14))) <|
  jn_cons (⟨jn_aload_n_ok (i := 0) (k := 0) (by decide +kernel) rfl, jn_aload_n_mo 0⟩ : jn_GEm jn_G0 jn_me155 56 (.inl (jn_aload_n 0))) <|
  jn_cons (⟨jn_iload_n_ok (i := 1) (k := 1) (by decide +kernel) rfl, jn_iload_n_mo 1⟩ : jn_GEm jn_G0 jn_me155 57 (.inl (jn_iload_n 1))) <|
  jn_cons (⟨jn_iconst_ok (by decide +kernel), jn_iconst_mo 1⟩ : jn_GEm jn_G0 jn_me155 58 (.inl (jn_iconst 1))) <|
  jn_cons (jn_gc_of jn_G0_149 (jn_callV (i := 214) (na := 2) (ci := 7) (q := (RX7, TX7, 22)) (by decide +kernel) rfl (jn_in 921 (by decide +kernel) rfl) (jn_in 918 (by decide +kernel) rfl) (jn_in 920 (by decide +kernel) rfl) (jn_in 49 (by decide +kernel) rfl) (jn_in 60 (by decide +kernel) rfl) ⟨by decide, by decide, by decide +kernel⟩) : jn_GEm jn_G0 jn_me155 59 (.inr (.inl (149, 9, 3)))) <|
  jn_cons (⟨jn_ifeq_ok (t := 67) (off := 5) (by decide +kernel) (by decide), jn_ifeq_mo 67⟩ : jn_GEm jn_G0 jn_me155 62 (.inl (jn_ifeq 67))) <|
  jn_cons (⟨jn_iconst_ok (by decide +kernel), jn_iconst_mo 1⟩ : jn_GEm jn_G0 jn_me155 65 (.inl (jn_iconst 1))) <|
  jn_cons (⟨(by decide +kernel), rfl⟩ : jn_GEm jn_G0 jn_me155 66 (.inr (.inr 2))) <|
  jn_cons (⟨jn_iconst_ok (by decide +kernel), jn_iconst_mo 0⟩ : jn_GEm jn_G0 jn_me155 67 (.inl (jn_iconst 0))) <|
  jn_cons (⟨jn_istore_ok (i := 4) (by decide +kernel), jn_istore_mo 4⟩ : jn_GEm jn_G0 jn_me155 68 (.inl (jn_istore 4))) <|
  jn_cons (⟨jn_iload_ok (i := 4) (by decide +kernel), jn_iload_mo 4⟩ : jn_GEm jn_G0 jn_me155 70 (.inl (jn_iload 4))) <|
  jn_cons (⟨jn_bipush_ok (n := 6) (v := 6) (by decide +kernel) (by decide), jn_bipush_mo 6⟩ : jn_GEm jn_G0 jn_me155 72 (.inl (jn_bipush 6))) <|
  jn_cons (⟨jn_icge_ok (t := 97) (off := 23) (by decide +kernel) (by decide), jn_icge_mo 97⟩ : jn_GEm jn_G0 jn_me155 74 (.inl (jn_icge 97))) <|
  jn_cons (⟨jn_aload_n_ok (i := 0) (k := 0) (by decide +kernel) rfl, jn_aload_n_mo 0⟩ : jn_GEm jn_G0 jn_me155 77 (.inl (jn_aload_n 0))) <|
  jn_cons (⟨jn_getf_ok (ci := 7) (k := 16) (i := 54) (N := 22) (C := RX7) (T := TX7) (by decide +kernel) rfl (by decide) jn_u7 (jn_in 631 (by decide +kernel) rfl), jn_getf_mo 7 16⟩ : jn_GEm jn_G0 jn_me155 78 (.inl (jn_getf 7 16))) <|
  jn_cons (⟨jn_iload_ok (i := 4) (by decide +kernel), jn_iload_mo 4⟩ : jn_GEm jn_G0 jn_me155 81 (.inl (jn_iload 4))) <|
  jn_cons (⟨jn_aload_n_ok (i := 0) (k := 0) (by decide +kernel) rfl, jn_aload_n_mo 0⟩ : jn_GEm jn_G0 jn_me155 83 (.inl (jn_aload_n 0))) <|
  jn_cons (⟨jn_getf_ok (ci := 7) (k := 18) (i := 60) (N := 22) (C := RX7) (T := TX7) (by decide +kernel) rfl (by decide) jn_u7 (jn_in 633 (by decide +kernel) rfl), jn_getf_mo 7 18⟩ : jn_GEm jn_G0 jn_me155 84 (.inl (jn_getf 7 18))) <| jn_nil
theorem jn_o155_2 : ∀ q ∈ jn_c155_2, jn_GEm jn_G0 jn_me155 q.1 q.2 :=
  jn_cons (⟨jn_iload_ok (i := 4) (by decide +kernel), jn_iload_mo 4⟩ : jn_GEm jn_G0 jn_me155 87 (.inl (jn_iload 4))) <|
  jn_cons (⟨jn_iaload_ok (by decide +kernel), jn_iaload_mo⟩ : jn_GEm jn_G0 jn_me155 89 (.inl jn_iaload)) <|
  jn_cons (⟨jn_iastore_ok (by decide +kernel), jn_iastore_mo⟩ : jn_GEm jn_G0 jn_me155 90 (.inl jn_iastore)) <|
  jn_cons (⟨jn_iinc_ok (i := 4) (n := 1) (by decide +kernel), jn_iinc_mo 4 1⟩ : jn_GEm jn_G0 jn_me155 91 (.inl (jn_iinc 4 1))) <|
  jn_cons (⟨jn_goto_ok (t := 70) (off := -24) (by decide +kernel) (by decide), jn_goto_mo 70⟩ : jn_GEm jn_G0 jn_me155 94 (.inl (jn_goto 70))) <|
  jn_cons (⟨jn_aload_n_ok (i := 0) (k := 0) (by decide +kernel) rfl, jn_aload_n_mo 0⟩ : jn_GEm jn_G0 jn_me155 97 (.inl (jn_aload_n 0))) <|
  jn_cons (⟨jn_aload_n_ok (i := 0) (k := 0) (by decide +kernel) rfl, jn_aload_n_mo 0⟩ : jn_GEm jn_G0 jn_me155 98 (.inl (jn_aload_n 0))) <|
  jn_cons (⟨jn_getf_ok (ci := 7) (k := 0) (i := 7) (N := 22) (C := RX7) (T := TX7) (by decide +kernel) rfl (by decide) jn_u7 (jn_in 615 (by decide +kernel) rfl), jn_getf_mo 7 0⟩ : jn_GEm jn_G0 jn_me155 99 (.inl (jn_getf 7 0))) <|
  jn_cons (⟨jn_iload_n_ok (i := 1) (k := 1) (by decide +kernel) rfl, jn_iload_n_mo 1⟩ : jn_GEm jn_G0 jn_me155 102 (.inl (jn_iload_n 1))) <|
  jn_cons (⟨jn_iaload_ok (by decide +kernel), jn_iaload_mo⟩ : jn_GEm jn_G0 jn_me155 103 (.inl jn_iaload)) <|
  jn_cons (jn_gc_of jn_G0_148 (jn_callV (i := 209) (na := 1) (ci := 7) (q := (RX7, TX7, 22)) (by decide +kernel) rfl (jn_in 929 (by decide +kernel) rfl) (jn_in 926 (by decide +kernel) rfl) (jn_in 928 (by decide +kernel) rfl) (jn_in 51 (by decide +kernel) rfl) (jn_in 60 (by decide +kernel) rfl) ⟨by decide, by decide, by decide +kernel⟩) : jn_GEm jn_G0 jn_me155 104 (.inr (.inl (148, 9, 2)))) <|
  jn_cons (⟨jn_istore_n_ok (i := 3) (k := 3) (by decide +kernel) rfl, jn_istore_n_mo 3⟩ : jn_GEm jn_G0 jn_me155 107 (.inl (jn_istore_n 3))) <|
  jn_cons (⟨jn_goto_ok (t := 7) (off := -101) (by decide +kernel) (by decide), jn_goto_mo 7⟩ : jn_GEm jn_G0 jn_me155 108 (.inl (jn_goto 7))) <|
  jn_cons (⟨jn_iconst_ok (by decide +kernel), jn_iconst_mo 0⟩ : jn_GEm jn_G0 jn_me155 111 (.inl (jn_iconst 0))) <|
  jn_cons (⟨(by decide +kernel), rfl⟩ : jn_GEm jn_G0 jn_me155 112 (.inr (.inr 2))) <| jn_nil
theorem jn_ok155 : jn_GM jn_G0 155 := jn_GM_of jn_G0_155 rfl rfl (by decide +kernel) (by decide) (jn_appd jn_o155_0 (jn_appd jn_o155_1 (jn_o155_2)))
theorem jn_o156_0 : ∀ q ∈ jn_c156_0, jn_GEm jn_G0 jn_me156 q.1 q.2 :=
  jn_cons (⟨jn_aload_n_ok (i := 0) (k := 0) (by decide +kernel) rfl, jn_aload_n_mo 0⟩ : jn_GEm jn_G0 jn_me156 0 (.inl (jn_aload_n 0))) <|
  jn_cons (⟨jn_iload_n_ok (i := 1) (k := 1) (by decide +kernel) rfl, jn_iload_n_mo 1⟩ : jn_GEm jn_G0 jn_me156 1 (.inl (jn_iload_n 1))) <|
  jn_cons (jn_gc_of jn_G0_97 (jn_callV (i := 80) (na := 1) (ci := 7) (q := (RX7, TX7, 22)) (by decide +kernel) rfl (jn_in 706 (by decide +kernel) rfl) (jn_in 703 (by decide +kernel) rfl) (jn_in 705 (by decide +kernel) rfl) (jn_in 21 (by decide +kernel) rfl) (jn_in 60 (by decide +kernel) rfl) ⟨by decide, by decide, by decide +kernel⟩) : jn_GEm jn_G0 jn_me156 2 (.inr (.inl (97, 9, 2)))) <|
  jn_cons (⟨jn_ifne_ok (t := 15) (off := 10) (by decide +kernel) (by decide), jn_ifne_mo 15⟩ : jn_GEm jn_G0 jn_me156 5 (.inl (jn_ifne 15))) <|
  jn_cons (⟨jn_aload_n_ok (i := 0) (k := 0) (by decide +kernel) rfl, jn_aload_n_mo 0⟩ : jn_GEm jn_G0 jn_me156 8 (.inl (jn_aload_n 0))) <|
  jn_cons (⟨jn_bipush_ok (n := (-3)) (v := (-3)) (by decide +kernel) (by decide), jn_bipush_mo (-3)⟩ : jn_GEm jn_G0 jn_me156 9 (.inl (jn_bipush (-3)))) <|
  jn_cons (jn_gc_of jn_G0_95 (jn_callV (i := 73) (na := 1) (ci := 7) (q := (RX7, TX7, 22)) (by decide +kernel) rfl (jn_in 694 (by decide +kernel) rfl) (jn_in 691 (by decide +kernel) rfl) (jn_in 693 (by decide +kernel) rfl) (jn_in 19 (by decide +kernel) rfl) (jn_in 60 (by decide +kernel) rfl) ⟨by decide, by decide, by decide +kernel⟩) : jn_GEm jn_G0 jn_me156 11 (.inr (.inl (95, 9, 2)))) <|
  jn_cons (⟨(by decide +kernel), rfl⟩ : jn_GEm jn_G0 jn_me156 14 (.inr (.inr 1))) <|
  jn_cons (⟨jn_aload_n_ok (i := 0) (k := 0) (by decide +kernel) rfl, jn_aload_n_mo 0⟩ : jn_GEm jn_G0 jn_me156 15 (.inl (jn_aload_n 0))) <|
  jn_cons (⟨jn_iload_n_ok (i := 1) (k := 1) (by decide +kernel) rfl, jn_iload_n_mo 1⟩ : jn_GEm jn_G0 jn_me156 16 (.inl (jn_iload_n 1))) <|
  jn_cons (jn_gc_of jn_G0_152 (jn_callV (i := 217) (na := 1) (ci := 7) (q := (RX7, TX7, 22)) (by decide +kernel) rfl (jn_in 908 (by decide +kernel) rfl) (jn_in 905 (by decide +kernel) rfl) (jn_in 907 (by decide +kernel) rfl) (jn_in 46 (by decide +kernel) rfl) (jn_in 60 (by decide +kernel) rfl) ⟨by decide, by decide, by decide +kernel⟩) : jn_GEm jn_G0 jn_me156 17 (.inr (.inl (152, 9, 2)))) <|
  jn_cons (⟨jn_istore_n_ok (i := 2) (k := 2) (by decide +kernel) rfl, jn_istore_n_mo 2⟩ : jn_GEm jn_G0 jn_me156 20 (.inl (jn_istore_n 2))) <|
  jn_cons (⟨jn_iload_n_ok (i := 2) (k := 2) (by decide +kernel) rfl, jn_iload_n_mo 2⟩ : jn_GEm jn_G0 jn_me156 21 (.inl (jn_iload_n 2))) <|
  jn_cons (⟨jn_ifeq_ok (t := 31) (off := 9) (by decide +kernel) (by decide), jn_ifeq_mo 31⟩ : jn_GEm jn_G0 jn_me156 22 (.inl (jn_ifeq 31))) <|
  jn_cons (⟨jn_aload_n_ok (i := 0) (k := 0) (by decide +kernel) rfl, jn_aload_n_mo 0⟩ : jn_GEm jn_G0 jn_me156 25 (.inl (jn_aload_n 0))) <|
  jn_cons (⟨jn_iload_n_ok (i := 2) (k := 2) (by decide +kernel) rfl, jn_iload_n_mo 2⟩ : jn_GEm jn_G0 jn_me156 26 (.inl (jn_iload_n 2))) <|
  jn_cons (jn_gc_of jn_G0_95 (jn_callV (i := 73) (na := 1) (ci := 7) (q := (RX7, TX7, 22)) (by decide +kernel) rfl (jn_in 694 (by decide +kernel) rfl) (jn_in 691 (by decide +kernel) rfl) (jn_in 693 (by decide +kernel) rfl) (jn_in 19 (by decide +kernel) rfl) (jn_in 60 (by decide +kernel) rfl) ⟨by decide, by decide, by decide +kernel⟩) : jn_GEm jn_G0 jn_me156 27 (.inr (.inl (95, 9, 2)))) <|
  jn_cons (⟨(by decide +kernel), rfl⟩ : jn_GEm jn_G0 jn_me156 30 (.inr (.inr 1))) <|
  jn_cons (⟨jn_iconst_ok (by decide +kernel), jn_iconst_mo 1⟩ : jn_GEm jn_G0 jn_me156 31 (.inl (jn_iconst 1))) <|
  jn_cons (⟨jn_istore_n_ok (i := 3) (k := 3) (by decide +kernel) rfl, jn_istore_n_mo 3⟩ : jn_GEm jn_G0 jn_me156 32 (.inl (jn_istore_n 3))) <|
  jn_cons (⟨jn_aload_n_ok (i := 0) (k := 0) (by decide +kernel) rfl, jn_aload_n_mo 0⟩ : jn_GEm jn_G0 jn_me156 33 (.inl (jn_aload_n 0))) <|
  jn_cons (⟨jn_iload_n_ok (i := 1) (k := 1) (by decide +kernel) rfl, jn_iload_n_mo 1⟩ : jn_GEm jn_G0 jn_me156 34 (.inl (jn_iload_n 1))) <|
  jn_cons (⟨jn_iload_n_ok (i := 3) (k := 3) (by decide +kernel) rfl, jn_iload_n_mo 3⟩ : jn_GEm jn_G0 jn_me156 35 (.inl (jn_iload_n 3))) <|
  jn_cons (jn_gc_of jn_G0_155 (jn_callV (i := 226) (na := 2) (ci := 7) (q := (RX7, TX7, 22)) (by decide +kernel) rfl (jn_in 941 (by decide +kernel) rfl) (jn_in 938 (by decide +kernel) rfl) (jn_in 940 (by decide +kernel) rfl) (jn_in 52 (by decide +kernel) rfl) (jn_in 60 (by decide +kernel) rfl) ⟨by decide, by decide, by decide +kernel⟩) : jn_GEm jn_G0 jn_me156 36 (.inr (.inl (155, 9, 3)))) <| jn_nil
theorem jn_o156_1 : ∀ q ∈ jn_c156_1, jn_GEm jn_G0 jn_me156 q.1 q.2 :=
  jn_cons (⟨jn_ifne_ok (t := 48) (off := 9) (by decide +kernel) (by decide), jn_ifne_mo 48⟩ : jn_GEm jn_G0 jn_me156 39 (.inl (jn_ifne 48))) <|
  jn_cons (⟨jn_iinc_ok (i := 3) (n := 1) (by decide +kernel), jn_iinc_mo 3 1⟩ : jn_GEm jn_G0 jn_me156 42 (.inl (jn_iinc 3 1))) <|
  jn_cons (⟨jn_goto_ok (t := 33) (off := -12) (by decide +kernel) (by decide), jn_goto_mo 33⟩ : jn_GEm jn_G0 jn_me156 45 (.inl (jn_goto 33))) <|
  jn_cons (⟨jn_iload_n_ok (i := 3) (k := 3) (by decide +kernel) rfl, jn_iload_n_mo 3⟩ : jn_GEm jn_G0 jn_me156 48 (.inl (jn_iload_n 3))) <|
  jn_cons (⟨(by decide +kernel), rfl⟩ : jn_GEm jn_G0 jn_me156 49 (.inr (.inr 1))) <| jn_nil
theorem jn_ok156 : jn_GM jn_G0 156 := jn_GM_of jn_G0_156 rfl rfl (by decide +kernel) (by decide) (jn_appd jn_o156_0 (jn_o156_1))
theorem jn_o157_0 : ∀ q ∈ jn_c157_0, jn_GEm jn_G0 jn_me157 q.1 q.2 :=
  jn_cons (⟨jn_aload_n_ok (i := 0) (k := 0) (by decide +kernel) rfl, jn_aload_n_mo 0⟩ : jn_GEm jn_G0 jn_me157 0 (.inl (jn_aload_n 0))) <|
  jn_cons (⟨jn_iload_n_ok (i := 1) (k := 1) (by decide +kernel) rfl, jn_iload_n_mo 1⟩ : jn_GEm jn_G0 jn_me157 1 (.inl (jn_iload_n 1))) <|
  jn_cons (jn_gc_of jn_G0_99 (jn_callV (i := 147) (na := 1) (ci := 7) (q := (RX7, TX7, 22)) (by decide +kernel) rfl (jn_in 796 (by decide +kernel) rfl) (jn_in 793 (by decide +kernel) rfl) (jn_in 795 (by decide +kernel) rfl) (jn_in 34 (by decide +kernel) rfl) (jn_in 60 (by decide +kernel) rfl) ⟨by decide, by decide, by decide +kernel⟩) : jn_GEm jn_G0 jn_me157 2 (.inr (.inl (99, 9, 2)))) <|
  jn_cons (⟨jn_ifne_ok (t := 16) (off := 11) (by decide +kernel) (by decide), jn_ifne_mo 16⟩ : jn_GEm jn_G0 jn_me157 5 (.inl (jn_ifne 16))) <|
  jn_cons (⟨jn_aload_n_ok (i := 0) (k := 0) (by decide +kernel) rfl, jn_aload_n_mo 0⟩ : jn_GEm jn_G0 jn_me157 8 (.inl (jn_aload_n 0))) <|
  jn_cons (⟨jn_bipush_ok (n := (-3)) (v := (-3)) (by decide +kernel) (by decide), jn_bipush_mo (-3)⟩ : jn_GEm jn_G0 jn_me157 9 (.inl (jn_bipush (-3)))) <|
  jn_cons (jn_gc_of jn_G0_96 (jn_callV (i := 132) (na := 1) (ci := 7) (q := (RX7, TX7, 22)) (by decide +kernel) rfl (jn_in 746 (by decide +kernel) rfl) (jn_in 743 (by decide +kernel) rfl) (jn_in 745 (by decide +kernel) rfl) (jn_in 27 (by decide +kernel) rfl) (jn_in 60 (by decide +kernel) rfl) ⟨by decide, by decide, by decide +kernel⟩) : jn_GEm jn_G0 jn_me157 11 (.inr (.inl (96, 9, 2)))) <|
  jn_cons (⟨jn_i2l_ok (by decide +kernel), jn_i2l_mo⟩ : jn_GEm jn_G0 jn_me157 14 (.inl jn_i2l)) <|
  jn_cons (⟨(by decide +kernel), rfl⟩ : jn_GEm jn_G0 jn_me157 15 (.inr (.inr 3))) <|
  jn_cons (⟨jn_aload_n_ok (i := 0) (k := 0) (by decide +kernel) rfl, jn_aload_n_mo 0⟩ : jn_GEm jn_G0 jn_me157 16 (.inl (jn_aload_n 0))) <|
  jn_cons (⟨jn_getf_ok (ci := 7) (k := 4) (i := 16) (N := 22) (C := RX7) (T := TX7) (by decide +kernel) rfl (by decide) jn_u7 (jn_in 619 (by decide +kernel) rfl), jn_getf_mo 7 4⟩ : jn_GEm jn_G0 jn_me157 17 (.inl (jn_getf 7 4))) <|
  jn_cons (⟨jn_iload_n_ok (i := 1) (k := 1) (by decide +kernel) rfl, jn_iload_n_mo 1⟩ : jn_GEm jn_G0 jn_me157 20 (.inl (jn_iload_n 1))) <|
  jn_cons (⟨jn_iaload_ok (by decide +kernel), jn_iaload_mo⟩ : jn_GEm jn_G0 jn_me157 21 (.inl jn_iaload)) <|
  jn_cons (⟨jn_istore_n_ok (i := 2) (k := 2) (by decide +kernel) rfl, jn_istore_n_mo 2⟩ : jn_GEm jn_G0 jn_me157 22 (.inl (jn_istore_n 2))) <|
  jn_cons (⟨jn_aload_n_ok (i := 0) (k := 0) (by decide +kernel) rfl, jn_aload_n_mo 0⟩ : jn_GEm jn_G0 jn_me157 23 (.inl (jn_aload_n 0))) <|
  jn_cons (⟨jn_iload_n_ok (i := 2) (k := 2) (by decide +kernel) rfl, jn_iload_n_mo 2⟩ : jn_GEm jn_G0 jn_me157 24 (.inl (jn_iload_n 2))) <|
  jn_cons (jn_gc_of jn_G0_106 (jn_callV (i := 110) (na := 1) (ci := 7) (q := (RX7, TX7, 22)) (by decide +kernel) rfl (jn_in 722 (by decide +kernel) rfl) (jn_in 719 (by decide +kernel) rfl) (jn_in 721 (by decide +kernel) rfl) (jn_in 23 (by decide +kernel) rfl) (jn_in 60 (by decide +kernel) rfl) ⟨by decide, by decide, by decide +kernel⟩) : jn_GEm jn_G0 jn_me157 25 (.inr (.inl (106, 9, 2)))) <|
  jn_cons (⟨jn_ifne_ok (t := 39) (off := 11) (by decide +kernel) (by decide), jn_ifne_mo 39⟩ : jn_GEm jn_G0 jn_me157 28 (.inl (jn_ifne 39))) <|
  jn_cons (⟨jn_aload_n_ok (i := 0) (k := 0) (by decide +kernel) rfl, jn_aload_n_mo 0⟩ : jn_GEm jn_G0 jn_me157 31 (.inl (jn_aload_n 0))) <|
  jn_cons (⟨jn_bipush_ok (n := (-5)) (v := (-5)) (by decide +kernel) (by decide), jn_bipush_mo (-5)⟩ : jn_GEm jn_G0 jn_me157 32 (.inl (jn_bipush (-5)))) <|
  jn_cons (jn_gc_of jn_G0_96 (jn_callV (i := 132) (na := 1) (ci := 7) (q := (RX7, TX7, 22)) (by decide +kernel) rfl (jn_in 746 (by decide +kernel) rfl) (jn_in 743 (by decide +kernel) rfl) (jn_in 745 (by decide +kernel) rfl) (jn_in 27 (by decide +kernel) rfl) (jn_in 60 (by decide +kernel) rfl) ⟨by decide, by decide, by decide +kernel⟩) : jn_GEm jn_G0 jn_me157 34 (.inr (.inl (96, 9, 2)))) <|
  jn_cons (⟨jn_i2l_ok (by decide +kernel), jn_i2l_mo⟩ : jn_GEm jn_G0 jn_me157 37 (.inl jn_i2l)) <|
  jn_cons (⟨(by decide +kernel), rfl⟩ : jn_GEm jn_G0 jn_me157 38 (.inr (.inr 3))) <|
  jn_cons (⟨jn_aload_n_ok (i := 0) (k := 0) (by decide +kernel) rfl, jn_aload_n_mo 0⟩ : jn_GEm jn_G0 jn_me157 39 (.inl (jn_aload_n 0))) <| jn_nil
theorem jn_o157_1 : ∀ q ∈ jn_c157_1, jn_GEm jn_G0 jn_me157 q.1 q.2 :=
  jn_cons (⟨jn_iload_n_ok (i := 1) (k := 1) (by decide +kernel) rfl, jn_iload_n_mo 1⟩ : jn_GEm jn_G0 jn_me157 40 (.inl (jn_iload_n 1))) <|
  jn_cons (jn_gc_of jn_G0_124 (jn_callV (i := 157) (na := 1) (ci := 7) (q := (RX7, TX7, 22)) (by decide +kernel) rfl (jn_in 810 (by decide +kernel) rfl) (jn_in 807 (by decide +kernel) rfl) (jn_in 809 (by decide +kernel) rfl) (jn_in 35 (by decide +kernel) rfl) (jn_in 60 (by decide +kernel) rfl) ⟨by decide, by decide, by decide +kernel⟩) : jn_GEm jn_G0 jn_me157 41 (.inr (.inl (124, 9, 2)))) <|
  jn_cons (⟨jn_ifeq_ok (t := 55) (off := 11) (by decide +kernel) (by decide), jn_ifeq_mo 55⟩ : jn_GEm jn_G0 jn_me157 44 (.inl (jn_ifeq 55))) <|
  jn_cons (⟨jn_aload_n_ok (i := 0) (k := 0) (by decide +kernel) rfl, jn_aload_n_mo 0⟩ : jn_GEm jn_G0 jn_me157 47 (.inl (jn_aload_n 0))) <|
  jn_cons (⟨jn_bipush_ok (n := (-7)) (v := (-7)) (by decide +kernel) (by decide), jn_bipush_mo (-7)⟩ : jn_GEm jn_G0 jn_me157 48 (.inl (jn_bipush (-7)))) <|
  jn_cons (jn_gc_of jn_G0_96 (jn_callV (i := 132) (na := 1) (ci := 7) (q := (RX7, TX7, 22)) (by decide +kernel) rfl (jn_in 746 (by decide +kernel) rfl) (jn_in 743 (by decide +kernel) rfl) (jn_in 745 (by decide +kernel) rfl) (jn_in 27 (by decide +kernel) rfl) (jn_in 60 (by decide +kernel) rfl) ⟨by decide, by decide, by decide +kernel⟩) : jn_GEm jn_G0 jn_me157 50 (.inr (.inl (96, 9, 2)))) <|
  jn_cons (⟨jn_i2l_ok (by decide +kernel), jn_i2l_mo⟩ : jn_GEm jn_G0 jn_me157 53 (.inl jn_i2l)) <|
  jn_cons (⟨(by decide +kernel), rfl⟩ : jn_GEm jn_G0 jn_me157 54 (.inr (.inr 3))) <|
  jn_cons (⟨jn_aload_n_ok (i := 0) (k := 0) (by decide +kernel) rfl, jn_aload_n_mo 0⟩ : jn_GEm jn_G0 jn_me157 55 (.inl (jn_aload_n 0))) <|
  jn_cons (⟨jn_iload_n_ok (i := 1) (k := 1) (by decide +kernel) rfl, jn_iload_n_mo 1⟩ : jn_GEm jn_G0 jn_me157 56 (.inl (jn_iload_n 1))) <|
  jn_cons (jn_gc_of jn_G0_127 (jn_callV (i := 168) (na := 1) (ci := 7) (q := (RX7, TX7, 22)) (by decide +kernel) rfl (jn_in 824 (by decide +kernel) rfl) (jn_in 821 (by decide +kernel) rfl) (jn_in 823 (by decide +kernel) rfl) (jn_in 36 (by decide +kernel) rfl) (jn_in 60 (by decide +kernel) rfl) ⟨by decide, by decide, by decide +kernel⟩) : jn_GEm jn_G0 jn_me157 57 (.inr (.inl (127, 9, 2)))) <|
  jn_cons (⟨jn_aload_n_ok (i := 0) (k := 0) (by decide +kernel) rfl, jn_aload_n_mo 0⟩ : jn_GEm jn_G0 jn_me157 60 (.inl (jn_aload_n 0))) <|
  jn_cons (⟨jn_iload_n_ok (i := 2) (k := 2) (by decide +kernel) rfl, jn_iload_n_mo 2⟩ : jn_GEm jn_G0 jn_me157 61 (.inl (jn_iload_n 2))) <|
  jn_cons (⟨jn_iconst_ok (by decide +kernel), jn_iconst_mo 0⟩ : jn_GEm jn_G0 jn_me157 62 (.inl (jn_iconst 0))) <|
  jn_cons (jn_gc_of jn_G0_138 (jn_callV (i := 187) (na := 2) (ci := 7) (q := (RX7, TX7, 22)) (by decide +kernel) rfl (jn_in 872 (by decide +kernel) rfl) (jn_in 869 (by decide +kernel) rfl) (jn_in 871 (by decide +kernel) rfl) (jn_in 41 (by decide +kernel) rfl) (jn_in 60 (by decide +kernel) rfl) ⟨by decide, by decide, by decide +kernel⟩) : jn_GEm jn_G0 jn_me157 63 (.inr (.inl (138, 9, 3)))) <|
  jn_cons (⟨jn_aload_n_ok (i := 0) (k := 0) (by decide +kernel) rfl, jn_aload_n_mo 0⟩ : jn_GEm jn_G0 jn_me157 66 (.inl (jn_aload_n 0))) <|
  jn_cons (⟨jn_getf_ok (ci := 7) (k := 12) (i := 41) (N := 22) (C := RX7) (T := TX7) (by decide +kernel) rfl (by decide) jn_u7 (jn_in 627 (by decide +kernel) rfl), jn_getf_mo 7 12⟩ : jn_GEm jn_G0 jn_me157 67 (.inl (jn_getf 7 12))) <|
  jn_cons (⟨jn_bipush_ok (n := 6) (v := 6) (by decide +kernel) (by decide), jn_bipush_mo 6⟩ : jn_GEm jn_G0 jn_me157 70 (.inl (jn_bipush 6))) <|
  jn_cons (⟨jn_iload_n_ok (i := 2) (k := 2) (by decide +kernel) rfl, jn_iload_n_mo 2⟩ : jn_GEm jn_G0 jn_me157 72 (.inl (jn_iload_n 2))) <|
  jn_cons (⟨jn_imul_ok (by decide +kernel), jn_imul_mo⟩ : jn_GEm jn_G0 jn_me157 73 (.inl jn_imul)) <|
  jn_cons (⟨jn_laload_ok (by decide +kernel), jn_laload_mo⟩ : jn_GEm jn_G0 jn_me157 74 (.inl jn_laload)) <|
  jn_cons (⟨jn_lstore_n_ok (i := 3) (k := 3) (by decide +kernel) rfl, jn_lstore_n_mo 3⟩ : jn_GEm jn_G0 jn_me157 75 (.inl (jn_lstore_n 3))) <|
  jn_cons (⟨jn_lload_n_ok (i := 3) (k := 3) (by decide +kernel) rfl, jn_lload_n_mo 3⟩ : jn_GEm jn_G0 jn_me157 76 (.inl (jn_lload_n 3))) <|
  jn_cons (⟨jn_lstore_ok (i := 5) (by decide +kernel), jn_lstore_mo 5⟩ : jn_GEm jn_G0 jn_me157 77 (.inl (jn_lstore 5))) <| jn_nil
theorem jn_o157_2 : ∀ q ∈ jn_c157_2, jn_GEm jn_G0 jn_me157 q.1 q.2 :=
  jn_cons (⟨jn_iconst_ok (by decide +kernel), jn_iconst_mo 1⟩ : jn_GEm jn_G0 jn_me157 79 (.inl (jn_iconst 1))) <|
  jn_cons (⟨jn_istore_ok (i := 7) (by decide +kernel), jn_istore_mo 7⟩ : jn_GEm jn_G0 jn_me157 80 (.inl (jn_istore 7))) <|
  jn_cons (⟨jn_iload_ok (i := 7) (by decide +kernel), jn_iload_mo 7⟩ : jn_GEm jn_G0 jn_me157 82 (.inl (jn_iload 7))) <|
  jn_cons (⟨jn_aload_n_ok (i := 0) (k := 0) (by decide +kernel) rfl, jn_aload_n_mo 0⟩ : jn_GEm jn_G0 jn_me157 84 (.inl (jn_aload_n 0))) <|
  jn_cons (⟨jn_getf_ok (ci := 7) (k := 0) (i := 7) (N := 22) (C := RX7) (T := TX7) (by decide +kernel) rfl (by decide) jn_u7 (jn_in 615 (by decide +kernel) rfl), jn_getf_mo 7 0⟩ : jn_GEm jn_G0 jn_me157 85 (.inl (jn_getf 7 0))) <|
  jn_cons (⟨jn_iload_n_ok (i := 2) (k := 2) (by decide +kernel) rfl, jn_iload_n_mo 2⟩ : jn_GEm jn_G0 jn_me157 88 (.inl (jn_iload_n 2))) <|
  jn_cons (⟨jn_iaload_ok (by decide +kernel), jn_iaload_mo⟩ : jn_GEm jn_G0 jn_me157 89 (.inl jn_iaload)) <|
  jn_cons (⟨jn_icge_ok (t := 114) (off := 24) (by decide +kernel) (by decide), jn_icge_mo 114⟩ : jn_GEm jn_G0 jn_me157 90 (.inl (jn_icge 114))) <|
  jn_cons (⟨jn_lload_ok (i := 5) (by decide +kernel), jn_lload_mo 5⟩ : jn_GEm jn_G0 jn_me157 93 (.inl (jn_lload 5))) <|
  jn_cons (⟨jn_aload_n_ok (i := 0) (k := 0) (by decide +kernel) rfl, jn_aload_n_mo 0⟩ : jn_GEm jn_G0 jn_me157 95 (.inl (jn_aload_n 0))) <|
  jn_cons (⟨jn_iload_n_ok (i := 2) (k := 2) (by decide +kernel) rfl, jn_iload_n_mo 2⟩ : jn_GEm jn_G0 jn_me157 96 (.inl (jn_iload_n 2))) <|
  jn_cons (⟨jn_iconst_ok (by decide +kernel), jn_iconst_mo 0⟩ : jn_GEm jn_G0 jn_me157 97 (.inl (jn_iconst 0))) <|
  jn_cons (⟨jn_iload_ok (i := 7) (by decide +kernel), jn_iload_mo 7⟩ : jn_GEm jn_G0 jn_me157 98 (.inl (jn_iload 7))) <|
  jn_cons (jn_gc_of jn_G0_139 (jn_callV (i := 191) (na := 3) (ci := 7) (q := (RX7, TX7, 22)) (by decide +kernel) rfl (jn_in 876 (by decide +kernel) rfl) (jn_in 873 (by decide +kernel) rfl) (jn_in 875 (by decide +kernel) rfl) (jn_in 42 (by decide +kernel) rfl) (jn_in 60 (by decide +kernel) rfl) ⟨by decide, by decide, by decide +kernel⟩) : jn_GEm jn_G0 jn_me157 100 (.inr (.inl (139, 9, 4)))) <|
  jn_cons (jn_gc_of jn_G0_116 (jn_callS (i := 139) (na := 2) (by decide +kernel) (jn_in 776 (by decide +kernel) rfl) (jn_in 774 (by decide +kernel) rfl) (jn_in 775 (by decide +kernel) rfl) (jn_in 60 (by decide +kernel) rfl) ⟨by decide, by decide, by decide +kernel⟩) : jn_GEm jn_G0 jn_me157 103 (.inr (.inl (116, 0, 2)))) <|
  jn_cons (⟨jn_lstore_ok (i := 5) (by decide +kernel), jn_lstore_mo 5⟩ : jn_GEm jn_G0 jn_me157 106 (.inl (jn_lstore 5))) <|
  jn_cons (⟨jn_iinc_ok (i := 7) (n := 1) (by decide +kernel), jn_iinc_mo 7 1⟩ : jn_GEm jn_G0 jn_me157 108 (.inl (jn_iinc 7 1))) <|
  jn_cons (⟨jn_goto_ok (t := 82) (off := -29) (by decide +kernel) (by decide), jn_goto_mo 82⟩ : jn_GEm jn_G0 jn_me157 111 (.inl (jn_goto 82))) <|
  jn_cons (⟨jn_lload_n_ok (i := 3) (k := 3) (by decide +kernel) rfl, jn_lload_n_mo 3⟩ : jn_GEm jn_G0 jn_me157 114 (.inl (jn_lload_n 3))) <|
  jn_cons (⟨jn_lload_ok (i := 5) (by decide +kernel), jn_lload_mo 5⟩ : jn_GEm jn_G0 jn_me157 115 (.inl (jn_lload 5))) <|
  jn_cons (⟨jn_ldiv_ok (by decide +kernel), jn_ldiv_mo⟩ : jn_GEm jn_G0 jn_me157 117 (.inl jn_ldiv)) <|
  jn_cons (⟨(by decide +kernel), rfl⟩ : jn_GEm jn_G0 jn_me157 118 (.inr (.inr 3))) <| jn_nil
theorem jn_ok157 : jn_GM jn_G0 157 := jn_GM_of jn_G0_157 rfl rfl (by decide +kernel) (by decide) (jn_appd jn_o157_0 (jn_appd jn_o157_1 (jn_o157_2)))
theorem jn_o158_0 : ∀ q ∈ jn_c158_0, jn_GEm jn_G0 jn_me158 q.1 q.2 :=
  jn_cons (⟨jn_aload_n_ok (i := 0) (k := 0) (by decide +kernel) rfl, jn_aload_n_mo 0⟩ : jn_GEm jn_G0 jn_me158 0 (.inl (jn_aload_n 0))) <|
  jn_cons (⟨jn_iload_n_ok (i := 1) (k := 1) (by decide +kernel) rfl, jn_iload_n_mo 1⟩ : jn_GEm jn_G0 jn_me158 1 (.inl (jn_iload_n 1))) <|
  jn_cons (⟨jn_iload_n_ok (i := 2) (k := 2) (by decide +kernel) rfl, jn_iload_n_mo 2⟩ : jn_GEm jn_G0 jn_me158 2 (.inl (jn_iload_n 2))) <|
  jn_cons (jn_gc_of jn_G0_121 (jn_callV (i := 150) (na := 2) (ci := 7) (q := (RX7, TX7, 22)) (by decide +kernel) rfl (jn_in 792 (by decide +kernel) rfl) (jn_in 789 (by decide +kernel) rfl) (jn_in 791 (by decide +kernel) rfl) (jn_in 33 (by decide +kernel) rfl) (jn_in 60 (by decide +kernel) rfl) ⟨by decide, by decide, by decide +kernel⟩) : jn_GEm jn_G0 jn_me158 3 (.inr (.inl (121, 9, 3)))) <|
  jn_cons (⟨jn_ifne_ok (t := 16) (off := 10) (by decide +kernel) (by decide), jn_ifne_mo 16⟩ : jn_GEm jn_G0 jn_me158 6 (.inl (jn_ifne 16))) <|
  jn_cons (⟨jn_aload_n_ok (i := 0) (k := 0) (by decide +kernel) rfl, jn_aload_n_mo 0⟩ : jn_GEm jn_G0 jn_me158 9 (.inl (jn_aload_n 0))) <|
  jn_cons (⟨jn_bipush_ok (n := (-3)) (v := (-3)) (by decide +kernel) (by decide), jn_bipush_mo (-3)⟩ : jn_GEm jn_G0 jn_me158 10 (.inl (jn_bipush (-3)))) <|
  jn_cons (jn_gc_of jn_G0_95 (jn_callV (i := 73) (na := 1) (ci := 7) (q := (RX7, TX7, 22)) (by decide +kernel) rfl (jn_in 694 (by decide +kernel) rfl) (jn_in 691 (by decide +kernel) rfl) (jn_in 693 (by decide +kernel) rfl) (jn_in 19 (by decide +kernel) rfl) (jn_in 60 (by decide +kernel) rfl) ⟨by decide, by decide, by decide +kernel⟩) : jn_GEm jn_G0 jn_me158 12 (.inr (.inl (95, 9, 2)))) <|
  jn_cons (⟨(by decide +kernel), rfl⟩ : jn_GEm jn_G0 jn_me158 15 (.inr (.inr 1))) <|
  jn_cons (⟨jn_aload_n_ok (i := 0) (k := 0) (by decide +kernel) rfl, jn_aload_n_mo 0⟩ : jn_GEm jn_G0 jn_me158 16 (.inl (jn_aload_n 0))) <|
  jn_cons (⟨jn_getf_ok (ci := 7) (k := 4) (i := 16) (N := 22) (C := RX7) (T := TX7) (by decide +kernel) rfl (by decide) jn_u7 (jn_in 619 (by decide +kernel) rfl), jn_getf_mo 7 4⟩ : jn_GEm jn_G0 jn_me158 17 (.inl (jn_getf 7 4))) <|
  jn_cons (⟨jn_iload_n_ok (i := 1) (k := 1) (by decide +kernel) rfl, jn_iload_n_mo 1⟩ : jn_GEm jn_G0 jn_me158 20 (.inl (jn_iload_n 1))) <|
  jn_cons (⟨jn_iaload_ok (by decide +kernel), jn_iaload_mo⟩ : jn_GEm jn_G0 jn_me158 21 (.inl jn_iaload)) <|
  jn_cons (⟨jn_istore_n_ok (i := 3) (k := 3) (by decide +kernel) rfl, jn_istore_n_mo 3⟩ : jn_GEm jn_G0 jn_me158 22 (.inl (jn_istore_n 3))) <|
  jn_cons (⟨jn_aload_n_ok (i := 0) (k := 0) (by decide +kernel) rfl, jn_aload_n_mo 0⟩ : jn_GEm jn_G0 jn_me158 23 (.inl (jn_aload_n 0))) <|
  jn_cons (⟨jn_iload_n_ok (i := 3) (k := 3) (by decide +kernel) rfl, jn_iload_n_mo 3⟩ : jn_GEm jn_G0 jn_me158 24 (.inl (jn_iload_n 3))) <|
  jn_cons (jn_gc_of jn_G0_106 (jn_callV (i := 110) (na := 1) (ci := 7) (q := (RX7, TX7, 22)) (by decide +kernel) rfl (jn_in 722 (by decide +kernel) rfl) (jn_in 719 (by decide +kernel) rfl) (jn_in 721 (by decide +kernel) rfl) (jn_in 23 (by decide +kernel) rfl) (jn_in 60 (by decide +kernel) rfl) ⟨by decide, by decide, by decide +kernel⟩) : jn_GEm jn_G0 jn_me158 25 (.inr (.inl (106, 9, 2)))) <|
  jn_cons (⟨jn_ifne_ok (t := 38) (off := 10) (by decide +kernel) (by decide), jn_ifne_mo 38⟩ : jn_GEm jn_G0 jn_me158 28 (.inl (jn_ifne 38))) <|
  jn_cons (⟨jn_aload_n_ok (i := 0) (k := 0) (by decide +kernel) rfl, jn_aload_n_mo 0⟩ : jn_GEm jn_G0 jn_me158 31 (.inl (jn_aload_n 0))) <|
  jn_cons (⟨jn_bipush_ok (n := (-5)) (v := (-5)) (by decide +kernel) (by decide), jn_bipush_mo (-5)⟩ : jn_GEm jn_G0 jn_me158 32 (.inl (jn_bipush (-5)))) <|
  jn_cons (jn_gc_of jn_G0_95 (jn_callV (i := 73) (na := 1) (ci := 7) (q := (RX7, TX7, 22)) (by decide +kernel) rfl (jn_in 694 (by decide +kernel) rfl) (jn_in 691 (by decide +kernel) rfl) (jn_in 693 (by decide +kernel) rfl) (jn_in 19 (by decide +kernel) rfl) (jn_in 60 (by decide +kernel) rfl) ⟨by decide, by decide, by decide +kernel⟩) : jn_GEm jn_G0 jn_me158 34 (.inr (.inl (95, 9, 2)))) <|
  jn_cons (⟨(by decide +kernel), rfl⟩ : jn_GEm jn_G0 jn_me158 37 (.inr (.inr 1))) <|
  jn_cons (⟨jn_iconst_ok (by decide +kernel), jn_iconst_mo 0⟩ : jn_GEm jn_G0 jn_me158 38 (.inl (jn_iconst 0))) <|
  jn_cons (⟨jn_istore_ok (i := 4) (by decide +kernel), jn_istore_mo 4⟩ : jn_GEm jn_G0 jn_me158 39 (.inl (jn_istore 4))) <| jn_nil
theorem jn_o158_1 : ∀ q ∈ jn_c158_1, jn_GEm jn_G0 jn_me158 q.1 q.2 :=
  jn_cons (⟨jn_iload_ok (i := 4) (by decide +kernel), jn_iload_mo 4⟩ : jn_GEm jn_G0 jn_me158 41 (.inl (jn_iload 4))) <|
  jn_cons (⟨jn_aload_n_ok (i := 0) (k := 0) (by decide +kernel) rfl, jn_aload_n_mo 0⟩ : jn_GEm jn_G0 jn_me158 43 (.inl (jn_aload_n 0))) <|
  jn_cons (⟨jn_getf_ok (ci := 7) (k := 0) (i := 7) (N := 22) (C := RX7) (T := TX7) (by decide +kernel) rfl (by decide) jn_u7 (jn_in 615 (by decide +kernel) rfl), jn_getf_mo 7 0⟩ : jn_GEm jn_G0 jn_me158 44 (.inl (jn_getf 7 0))) <|
  jn_cons (⟨jn_iload_n_ok (i := 3) (k := 3) (by decide +kernel) rfl, jn_iload_n_mo 3⟩ : jn_GEm jn_G0 jn_me158 47 (.inl (jn_iload_n 3))) <|
  jn_cons (⟨jn_iaload_ok (by decide +kernel), jn_iaload_mo⟩ : jn_GEm jn_G0 jn_me158 48 (.inl jn_iaload)) <|
  jn_cons (⟨jn_icge_ok (t := 86) (off := 37) (by decide +kernel) (by decide), jn_icge_mo 86⟩ : jn_GEm jn_G0 jn_me158 49 (.inl (jn_icge 86))) <|
  jn_cons (⟨jn_iload_ok (i := 4) (by decide +kernel), jn_iload_mo 4⟩ : jn_GEm jn_G0 jn_me158 52 (.inl (jn_iload 4))) <|
  jn_cons (⟨jn_iload_n_ok (i := 2) (k := 2) (by decide +kernel) rfl, jn_iload_n_mo 2⟩ : jn_GEm jn_G0 jn_me158 54 (.inl (jn_iload_n 2))) <|
  jn_cons (⟨jn_iceq_ok (t := 80) (off := 25) (by decide +kernel) (by decide), jn_iceq_mo 80⟩ : jn_GEm jn_G0 jn_me158 55 (.inl (jn_iceq 80))) <|
  jn_cons (⟨jn_aload_n_ok (i := 0) (k := 0) (by decide +kernel) rfl, jn_aload_n_mo 0⟩ : jn_GEm jn_G0 jn_me158 58 (.inl (jn_aload_n 0))) <|
  jn_cons (⟨jn_getf_ok (ci := 7) (k := 5) (i := 19) (N := 22) (C := RX7) (T := TX7) (by decide +kernel) rfl (by decide) jn_u7 (jn_in 620 (by decide +kernel) rfl), jn_getf_mo 7 5⟩ : jn_GEm jn_G0 jn_me158 59 (.inl (jn_getf 7 5))) <|
  jn_cons (⟨jn_bipush_ok (n := 6) (v := 6) (by decide +kernel) (by decide), jn_bipush_mo 6⟩ : jn_GEm jn_G0 jn_me158 62 (.inl (jn_bipush 6))) <|
  jn_cons (⟨jn_iload_n_ok (i := 1) (k := 1) (by decide +kernel) rfl, jn_iload_n_mo 1⟩ : jn_GEm jn_G0 jn_me158 64 (.inl (jn_iload_n 1))) <|
  jn_cons (⟨jn_imul_ok (by decide +kernel), jn_imul_mo⟩ : jn_GEm jn_G0 jn_me158 65 (.inl jn_imul)) <|
  jn_cons (⟨jn_iload_ok (i := 4) (by decide +kernel), jn_iload_mo 4⟩ : jn_GEm jn_G0 jn_me158 66 (.inl (jn_iload 4))) <|
  jn_cons (⟨jn_iadd_ok (by decide +kernel), jn_iadd_mo⟩ : jn_GEm jn_G0 jn_me158 68 (.inl jn_iadd)) <|
  jn_cons (⟨jn_iaload_ok (by decide +kernel), jn_iaload_mo⟩ : jn_GEm jn_G0 jn_me158 69 (.inl jn_iaload)) <|
  jn_cons (⟨jn_ifge_ok (t := 80) (off := 10) (by decide +kernel) (by decide), jn_ifge_mo 80⟩ : jn_GEm jn_G0 jn_me158 70 (.inl (jn_ifge 80))) <|
  jn_cons (⟨jn_aload_n_ok (i := 0) (k := 0) (by decide +kernel) rfl, jn_aload_n_mo 0⟩ : jn_GEm jn_G0 jn_me158 73 (.inl (jn_aload_n 0))) <|
  jn_cons (⟨jn_bipush_ok (n := (-7)) (v := (-7)) (by decide +kernel) (by decide), jn_bipush_mo (-7)⟩ : jn_GEm jn_G0 jn_me158 74 (.inl (jn_bipush (-7)))) <|
  jn_cons (jn_gc_of jn_G0_95 (jn_callV (i := 73) (na := 1) (ci := 7) (q := (RX7, TX7, 22)) (by decide +kernel) rfl (jn_in 694 (by decide +kernel) rfl) (jn_in 691 (by decide +kernel) rfl) (jn_in 693 (by decide +kernel) rfl) (jn_in 19 (by decide +kernel) rfl) (jn_in 60 (by decide +kernel) rfl) ⟨by decide, by decide, by decide +kernel⟩) : jn_GEm jn_G0 jn_me158 76 (.inr (.inl (95, 9, 2)))) <|
  jn_cons (⟨(by decide +kernel), rfl⟩ : jn_GEm jn_G0 jn_me158 79 (.inr (.inr 1))) <|
  jn_cons (⟨jn_iinc_ok (i := 4) (n := 1) (by decide +kernel), jn_iinc_mo 4 1⟩ : jn_GEm jn_G0 jn_me158 80 (.inl (jn_iinc 4 1))) <|
  jn_cons (⟨jn_goto_ok (t := 41) (off := -42) (by decide +kernel) (by decide), jn_goto_mo 41⟩ : jn_GEm jn_G0 jn_me158 83 (.inl (jn_goto 41))) <| jn_nil
theorem jn_o158_2 : ∀ q ∈ jn_c158_2, jn_GEm jn_G0 jn_me158 q.1 q.2 :=
  jn_cons (⟨jn_aload_n_ok (i := 0) (k := 0) (by decide +kernel) rfl, jn_aload_n_mo 0⟩ : jn_GEm jn_G0 jn_me158 86 (.inl (jn_aload_n 0))) <|
  jn_cons (⟨jn_iload_n_ok (i := 1) (k := 1) (by decide +kernel) rfl, jn_iload_n_mo 1⟩ : jn_GEm jn_G0 jn_me158 87 (.inl (jn_iload_n 1))) <|
  jn_cons (jn_gc_of jn_G0_127 (jn_callV (i := 168) (na := 1) (ci := 7) (q := (RX7, TX7, 22)) (by decide +kernel) rfl (jn_in 824 (by decide +kernel) rfl) (jn_in 821 (by decide +kernel) rfl) (jn_in 823 (by decide +kernel) rfl) (jn_in 36 (by decide +kernel) rfl) (jn_in 60 (by decide +kernel) rfl) ⟨by decide, by decide, by decide +kernel⟩) : jn_GEm jn_G0 jn_me158 88 (.inr (.inl (127, 9, 2)))) <|
  jn_cons (⟨jn_lconst_ok (n := 0) (v := 0) (by decide +kernel) (by decide), jn_lconst_mo 0⟩ : jn_GEm jn_G0 jn_me158 91 (.inl (jn_lconst 0))) <|
  jn_cons (⟨jn_lstore_ok (i := 4) (by decide +kernel), jn_lstore_mo 4⟩ : jn_GEm jn_G0 jn_me158 92 (.inl (jn_lstore 4))) <|
  jn_cons (⟨jn_iconst_ok (by decide +kernel), jn_iconst_mo 1⟩ : jn_GEm jn_G0 jn_me158 94 (.inl (jn_iconst 1))) <|
  jn_cons (⟨jn_istore_ok (i := 6) (by decide +kernel), jn_istore_mo 6⟩ : jn_GEm jn_G0 jn_me158 95 (.inl (jn_istore 6))) <|
  jn_cons (⟨jn_iload_ok (i := 6) (by decide +kernel), jn_iload_mo 6⟩ : jn_GEm jn_G0 jn_me158 97 (.inl (jn_iload 6))) <|
  jn_cons (⟨jn_ifeq_ok (t := 210) (off := 111) (by decide +kernel) (by decide), jn_ifeq_mo 210⟩ : jn_GEm jn_G0 jn_me158 99 (.inl (jn_ifeq 210))) <|
  jn_cons (⟨jn_iconst_ok (by decide +kernel), jn_iconst_mo 0⟩ : jn_GEm jn_G0 jn_me158 102 (.inl (jn_iconst 0))) <|
  jn_cons (⟨jn_istore_ok (i := 6) (by decide +kernel), jn_istore_mo 6⟩ : jn_GEm jn_G0 jn_me158 103 (.inl (jn_istore 6))) <|
  jn_cons (⟨jn_iconst_ok (by decide +kernel), jn_iconst_mo 0⟩ : jn_GEm jn_G0 jn_me158 105 (.inl (jn_iconst 0))) <|
  jn_cons (⟨jn_istore_ok (i := 7) (by decide +kernel), jn_istore_mo 7⟩ : jn_GEm jn_G0 jn_me158 106 (.inl (jn_istore 7))) <|
  jn_cons (⟨jn_iload_ok (i := 7) (by decide +kernel), jn_iload_mo 7⟩ : jn_GEm jn_G0 jn_me158 108 (.inl (jn_iload 7))) <|
  jn_cons (⟨jn_aload_n_ok (i := 0) (k := 0) (by decide +kernel) rfl, jn_aload_n_mo 0⟩ : jn_GEm jn_G0 jn_me158 110 (.inl (jn_aload_n 0))) <|
  jn_cons (⟨jn_getf_ok (ci := 7) (k := 0) (i := 7) (N := 22) (C := RX7) (T := TX7) (by decide +kernel) rfl (by decide) jn_u7 (jn_in 615 (by decide +kernel) rfl), jn_getf_mo 7 0⟩ : jn_GEm jn_G0 jn_me158 111 (.inl (jn_getf 7 0))) <|
  jn_cons (⟨jn_iload_n_ok (i := 3) (k := 3) (by decide +kernel) rfl, jn_iload_n_mo 3⟩ : jn_GEm jn_G0 jn_me158 114 (.inl (jn_iload_n 3))) <|
  jn_cons (⟨jn_iaload_ok (by decide +kernel), jn_iaload_mo⟩ : jn_GEm jn_G0 jn_me158 115 (.inl jn_iaload)) <|
  jn_cons (⟨jn_icge_ok (t := 194) (off := 78) (by decide +kernel) (by decide), jn_icge_mo 194⟩ : jn_GEm jn_G0 jn_me158 116 (.inl (jn_icge 194))) <|
  jn_cons (⟨jn_aload_n_ok (i := 0) (k := 0) (by decide +kernel) rfl, jn_aload_n_mo 0⟩ : jn_GEm jn_G0 jn_me158 119 (.inl (jn_aload_n 0))) <|
  jn_cons (⟨jn_iload_n_ok (i := 3) (k := 3) (by decide +kernel) rfl, jn_iload_n_mo 3⟩ : jn_GEm jn_G0 jn_me158 120 (.inl (jn_iload_n 3))) <|
  jn_cons (⟨jn_iload_ok (i := 7) (by decide +kernel), jn_iload_mo 7⟩ : jn_GEm jn_G0 jn_me158 121 (.inl (jn_iload 7))) <|
  jn_cons (jn_gc_of jn_G0_103 (jn_callV (i := 103) (na := 2) (ci := 7) (q := (RX7, TX7, 22)) (by decide +kernel) rfl (jn_in 734 (by decide +kernel) rfl) (jn_in 731 (by decide +kernel) rfl) (jn_in 733 (by decide +kernel) rfl) (jn_in 26 (by decide +kernel) rfl) (jn_in 60 (by decide +kernel) rfl) ⟨by decide, by decide, by decide +kernel⟩) : jn_GEm jn_G0 jn_me158 123 (.inr (.inl (103, 9, 3)))) <|
  jn_cons (⟨jn_istore_ok (i := 8) (by decide +kernel), jn_istore_mo 8⟩ : jn_GEm jn_G0 jn_me158 126 (.inl (jn_istore 8))) <| jn_nil
theorem jn_o158_3 : ∀ q ∈ jn_c158_3, jn_GEm jn_G0 jn_me158 q.1 q.2 :=
  jn_cons (⟨jn_iload_ok (i := 7) (by decide +kernel), jn_iload_mo 7⟩ : jn_GEm jn_G0 jn_me158 128 (.inl (jn_iload 7))) <|
  jn_cons (⟨jn_iload_n_ok (i := 2) (k := 2) (by decide +kernel) rfl, jn_iload_n_mo 2⟩ : jn_GEm jn_G0 jn_me158 130 (.inl (jn_iload_n 2))) <|
  jn_cons (⟨jn_iceq_ok (t := 188) (off := 57) (by decide +kernel) (by decide), jn_iceq_mo 188⟩ : jn_GEm jn_G0 jn_me158 131 (.inl (jn_iceq 188))) <|
  jn_cons (⟨jn_iload_ok (i := 8) (by decide +kernel), jn_iload_mo 8⟩ : jn_GEm jn_G0 jn_me158 134 (.inl (jn_iload 8))) <|
  jn_cons (⟨jn_ifeq_ok (t := 188) (off := 52) (by decide +kernel) (by decide), jn_ifeq_mo 188⟩ : jn_GEm jn_G0 jn_me158 136 (.inl (jn_ifeq 188))) <|
  jn_cons (⟨jn_aload_n_ok (i := 0) (k := 0) (by decide +kernel) rfl, jn_aload_n_mo 0⟩ : jn_GEm jn_G0 jn_me158 139 (.inl (jn_aload_n 0))) <|
  jn_cons (⟨jn_getf_ok (ci := 7) (k := 8) (i := 29) (N := 22) (C := RX7) (T := TX7) (by decide +kernel) rfl (by decide) jn_u7 (jn_in 623 (by decide +kernel) rfl), jn_getf_mo 7 8⟩ : jn_GEm jn_G0 jn_me158 140 (.inl (jn_getf 7 8))) <|
  jn_cons (⟨jn_iload_ok (i := 7) (by decide +kernel), jn_iload_mo 7⟩ : jn_GEm jn_G0 jn_me158 143 (.inl (jn_iload 7))) <|
  jn_cons (⟨jn_laload_ok (by decide +kernel), jn_laload_mo⟩ : jn_GEm jn_G0 jn_me158 145 (.inl jn_laload)) <|
  jn_cons (⟨jn_iload_ok (i := 8) (by decide +kernel), jn_iload_mo 8⟩ : jn_GEm jn_G0 jn_me158 146 (.inl (jn_iload 8))) <|
  jn_cons (⟨jn_i2l_ok (by decide +kernel), jn_i2l_mo⟩ : jn_GEm jn_G0 jn_me158 148 (.inl jn_i2l)) <|
  jn_cons (⟨jn_lcmp_ok (by decide +kernel), jn_lcmp_mo⟩ : jn_GEm jn_G0 jn_me158 149 (.inl jn_lcmp)) <|
  jn_cons (⟨jn_ifge_ok (t := 156) (off := 6) (by decide +kernel) (by decide), jn_ifge_mo 156⟩ : jn_GEm jn_G0 jn_me158 150 (.inl (jn_ifge 156))) <|
  jn_cons (⟨jn_goto_ok (t := 188) (off := 35) (by decide +kernel) (by decide), jn_goto_mo 188⟩ : jn_GEm jn_G0 jn_me158 153 (.inl (jn_goto 188))) <|
  jn_cons (⟨jn_aload_n_ok (i := 0) (k := 0) (by decide +kernel) rfl, jn_aload_n_mo 0⟩ : jn_GEm jn_G0 jn_me158 156 (.inl (jn_aload_n 0))) <|
  jn_cons (⟨jn_getf_ok (ci := 7) (k := 8) (i := 29) (N := 22) (C := RX7) (T := TX7) (by decide +kernel) rfl (by decide) jn_u7 (jn_in 623 (by decide +kernel) rfl), jn_getf_mo 7 8⟩ : jn_GEm jn_G0 jn_me158 157 (.inl (jn_getf 7 8))) <|
  jn_cons (⟨jn_iload_ok (i := 7) (by decide +kernel), jn_iload_mo 7⟩ : jn_GEm jn_G0 jn_me158 160 (.inl (jn_iload 7))) <|
  jn_cons (⟨jn_laload_ok (by decide +kernel), jn_laload_mo⟩ : jn_GEm jn_G0 jn_me158 162 (.inl jn_laload)) <|
  jn_cons (⟨jn_iload_ok (i := 8) (by decide +kernel), jn_iload_mo 8⟩ : jn_GEm jn_G0 jn_me158 163 (.inl (jn_iload 8))) <|
  jn_cons (⟨jn_i2l_ok (by decide +kernel), jn_i2l_mo⟩ : jn_GEm jn_G0 jn_me158 165 (.inl jn_i2l)) <|
  jn_cons (⟨jn_ldiv_ok (by decide +kernel), jn_ldiv_mo⟩ : jn_GEm jn_G0 jn_me158 166 (.inl jn_ldiv)) <|
  jn_cons (⟨jn_lstore_ok (i := 9) (by decide +kernel), jn_lstore_mo 9⟩ : jn_GEm jn_G0 jn_me158 167 (.inl (jn_lstore 9))) <|
  jn_cons (⟨jn_aload_n_ok (i := 0) (k := 0) (by decide +kernel) rfl, jn_aload_n_mo 0⟩ : jn_GEm jn_G0 jn_me158 169 (.inl (jn_aload_n 0))) <|
  jn_cons (⟨jn_iload_n_ok (i := 3) (k := 3) (by decide +kernel) rfl, jn_iload_n_mo 3⟩ : jn_GEm jn_G0 jn_me158 170 (.inl (jn_iload_n 3))) <| jn_nil
theorem jn_o158_4 : ∀ q ∈ jn_c158_4, jn_GEm jn_G0 jn_me158 q.1 q.2 :=
  jn_cons (⟨jn_iload_ok (i := 7) (by decide +kernel), jn_iload_mo 7⟩ : jn_GEm jn_G0 jn_me158 171 (.inl (jn_iload 7))) <|
  jn_cons (⟨jn_lload_ok (i := 9) (by decide +kernel), jn_lload_mo 9⟩ : jn_GEm jn_G0 jn_me158 173 (.inl (jn_lload 9))) <|
  jn_cons (jn_gc_of jn_G0_128 (jn_callV (i := 172) (na := 3) (ci := 7) (q := (RX7, TX7, 22)) (by decide +kernel) rfl (jn_in 828 (by decide +kernel) rfl) (jn_in 825 (by decide +kernel) rfl) (jn_in 827 (by decide +kernel) rfl) (jn_in 37 (by decide +kernel) rfl) (jn_in 60 (by decide +kernel) rfl) ⟨by decide, by decide, by decide +kernel⟩) : jn_GEm jn_G0 jn_me158 175 (.inr (.inl (128, 9, 4)))) <|
  jn_cons (⟨jn_lload_ok (i := 4) (by decide +kernel), jn_lload_mo 4⟩ : jn_GEm jn_G0 jn_me158 178 (.inl (jn_lload 4))) <|
  jn_cons (⟨jn_lload_ok (i := 9) (by decide +kernel), jn_lload_mo 9⟩ : jn_GEm jn_G0 jn_me158 180 (.inl (jn_lload 9))) <|
  jn_cons (⟨jn_ladd_ok (by decide +kernel), jn_ladd_mo⟩ : jn_GEm jn_G0 jn_me158 182 (.inl jn_ladd)) <|
  jn_cons (⟨jn_lstore_ok (i := 4) (by decide +kernel), jn_lstore_mo 4⟩ : jn_GEm jn_G0 jn_me158 183 (.inl (jn_lstore 4))) <|
  jn_cons (⟨jn_iconst_ok (by decide +kernel), jn_iconst_mo 1⟩ : jn_GEm jn_G0 jn_me158 185 (.inl (jn_iconst 1))) <|
  jn_cons (⟨jn_istore_ok (i := 6) (by decide +kernel), jn_istore_mo 6⟩ : jn_GEm jn_G0 jn_me158 186 (.inl (jn_istore 6))) <|
  jn_cons (⟨jn_iinc_ok (i := 7) (n := 1) (by decide +kernel), jn_iinc_mo 7 1⟩ : jn_GEm jn_G0 jn_me158 188 (.inl (jn_iinc 7 1))) <|
  jn_cons (⟨jn_goto_ok (t := 108) (off := -83) (by decide +kernel) (by decide), jn_goto_mo 108⟩ : jn_GEm jn_G0 jn_me158 191 (.inl (jn_goto 108))) <|
  jn_cons (⟨jn_lload_ok (i := 4) (by decide +kernel), jn_lload_mo 4⟩ : jn_GEm jn_G0 jn_me158 194 (.inl (jn_lload 4))) <|
  jn_cons (⟨jn_ldc2_ok (i := 162) (v := 100000) (by decide +kernel) (jn_in 834 (by decide +kernel) rfl), jn_ldc2_mo 100000⟩ : jn_GEm jn_G0 jn_me158 196 (.inl (jn_ldc2 100000))) <|
  jn_cons (⟨jn_lcmp_ok (by decide +kernel), jn_lcmp_mo⟩ : jn_GEm jn_G0 jn_me158 199 (.inl jn_lcmp)) <|
  jn_cons (⟨jn_ifle_ok (t := 97) (off := -103) (by decide +kernel) (by decide), jn_ifle_mo 97⟩ : jn_GEm jn_G0 jn_me158 200 (.inl (jn_ifle 97))) <|
  jn_cons (⟨jn_aload_n_ok (i := 0) (k := 0) (by decide +kernel) rfl, jn_aload_n_mo 0⟩ : jn_GEm jn_G0 jn_me158 203 (.inl (jn_aload_n 0))) <|
  jn_cons (⟨jn_bipush_ok (n := (-9)) (v := (-9)) (by decide +kernel) (by decide), jn_bipush_mo (-9)⟩ : jn_GEm jn_G0 jn_me158 204 (.inl (jn_bipush (-9)))) <|
  jn_cons (jn_gc_of jn_G0_95 (jn_callV (i := 73) (na := 1) (ci := 7) (q := (RX7, TX7, 22)) (by decide +kernel) rfl (jn_in 694 (by decide +kernel) rfl) (jn_in 691 (by decide +kernel) rfl) (jn_in 693 (by decide +kernel) rfl) (jn_in 19 (by decide +kernel) rfl) (jn_in 60 (by decide +kernel) rfl) ⟨by decide, by decide, by decide +kernel⟩) : jn_GEm jn_G0 jn_me158 206 (.inr (.inl (95, 9, 2)))) <|
  jn_cons (⟨(by decide +kernel), rfl⟩ : jn_GEm jn_G0 jn_me158 209 (.inr (.inr 1))) <|
  jn_cons (⟨jn_aload_n_ok (i := 0) (k := 0) (by decide +kernel) rfl, jn_aload_n_mo 0⟩ : jn_GEm jn_G0 jn_me158 210 (.inl (jn_aload_n 0))) <|
  jn_cons (⟨jn_iload_n_ok (i := 1) (k := 1) (by decide +kernel) rfl, jn_iload_n_mo 1⟩ : jn_GEm jn_G0 jn_me158 211 (.inl (jn_iload_n 1))) <|
  jn_cons (jn_gc_of jn_G0_129 (jn_callV (i := 176) (na := 1) (ci := 7) (q := (RX7, TX7, 22)) (by decide +kernel) rfl (jn_in 832 (by decide +kernel) rfl) (jn_in 829 (by decide +kernel) rfl) (jn_in 831 (by decide +kernel) rfl) (jn_in 38 (by decide +kernel) rfl) (jn_in 60 (by decide +kernel) rfl) ⟨by decide, by decide, by decide +kernel⟩) : jn_GEm jn_G0 jn_me158 212 (.inr (.inl (129, 9, 2)))) <|
  jn_cons (⟨jn_ifge_ok (t := 227) (off := 12) (by decide +kernel) (by decide), jn_ifge_mo 227⟩ : jn_GEm jn_G0 jn_me158 215 (.inl (jn_ifge 227))) <|
  jn_cons (⟨jn_aload_n_ok (i := 0) (k := 0) (by decide +kernel) rfl, jn_aload_n_mo 0⟩ : jn_GEm jn_G0 jn_me158 218 (.inl (jn_aload_n 0))) <| jn_nil
theorem jn_o158_5 : ∀ q ∈ jn_c158_5, jn_GEm jn_G0 jn_me158 q.1 q.2 :=
  jn_cons (⟨jn_bipush_ok (n := (-8)) (v := (-8)) (by decide +kernel) (by decide), jn_bipush_mo (-8)⟩ : jn_GEm jn_G0 jn_me158 219 (.inl (jn_bipush (-8)))) <|
  jn_cons (jn_gc_of jn_G0_95 (jn_callV (i := 73) (na := 1) (ci := 7) (q := (RX7, TX7, 22)) (by decide +kernel) rfl (jn_in 694 (by decide +kernel) rfl) (jn_in 691 (by decide +kernel) rfl) (jn_in 693 (by decide +kernel) rfl) (jn_in 19 (by decide +kernel) rfl) (jn_in 60 (by decide +kernel) rfl) ⟨by decide, by decide, by decide +kernel⟩) : jn_GEm jn_G0 jn_me158 221 (.inr (.inl (95, 9, 2)))) <|
  jn_cons (⟨jn_goto_ok (t := 230) (off := 6) (by decide +kernel) (by decide), jn_goto_mo 230⟩ : jn_GEm jn_G0 jn_me158 224 (.inl (jn_goto 230))) <|
  jn_cons (⟨jn_lload_ok (i := 4) (by decide +kernel), jn_lload_mo 4⟩ : jn_GEm jn_G0 jn_me158 227 (.inl (jn_lload 4))) <|
  jn_cons (⟨jn_l2i_ok (by decide +kernel), jn_l2i_mo⟩ : jn_GEm jn_G0 jn_me158 229 (.inl jn_l2i)) <|
  jn_cons (⟨(by decide +kernel), rfl⟩ : jn_GEm jn_G0 jn_me158 230 (.inr (.inr 1))) <| jn_nil
theorem jn_ok158 : jn_GM jn_G0 158 := jn_GM_of jn_G0_158 rfl rfl (by decide +kernel) (by decide) (jn_appd jn_o158_0 (jn_appd jn_o158_1 (jn_appd jn_o158_2 (jn_appd jn_o158_3 (jn_appd jn_o158_4 (jn_o158_5))))))
theorem jn_o159_0 : ∀ q ∈ jn_c159_0, jn_GEm jn_G0 jn_me159 q.1 q.2 :=
  jn_cons (⟨jn_aload_n_ok (i := 0) (k := 0) (by decide +kernel) rfl, jn_aload_n_mo 0⟩ : jn_GEm jn_G0 jn_me159 0 (.inl (jn_aload_n 0))) <|
  jn_cons (⟨jn_iload_n_ok (i := 1) (k := 1) (by decide +kernel) rfl, jn_iload_n_mo 1⟩ : jn_GEm jn_G0 jn_me159 1 (.inl (jn_iload_n 1))) <|
  jn_cons (jn_gc_of jn_G0_99 (jn_callV (i := 147) (na := 1) (ci := 7) (q := (RX7, TX7, 22)) (by decide +kernel) rfl (jn_in 796 (by decide +kernel) rfl) (jn_in 793 (by decide +kernel) rfl) (jn_in 795 (by decide +kernel) rfl) (jn_in 34 (by decide +kernel) rfl) (jn_in 60 (by decide +kernel) rfl) ⟨by decide, by decide, by decide +kernel⟩) : jn_GEm jn_G0 jn_me159 2 (.inr (.inl (99, 9, 2)))) <|
  jn_cons (⟨jn_ifeq_ok (t := 16) (off := 11) (by decide +kernel) (by decide), jn_ifeq_mo 16⟩ : jn_GEm jn_G0 jn_me159 5 (.inl (jn_ifeq 16))) <|
  jn_cons (⟨jn_aload_n_ok (i := 0) (k := 0) (by decide +kernel) rfl, jn_aload_n_mo 0⟩ : jn_GEm jn_G0 jn_me159 8 (.inl (jn_aload_n 0))) <|
  jn_cons (⟨jn_iload_n_ok (i := 2) (k := 2) (by decide +kernel) rfl, jn_iload_n_mo 2⟩ : jn_GEm jn_G0 jn_me159 9 (.inl (jn_iload_n 2))) <|
  jn_cons (jn_gc_of jn_G0_99 (jn_callV (i := 147) (na := 1) (ci := 7) (q := (RX7, TX7, 22)) (by decide +kernel) rfl (jn_in 796 (by decide +kernel) rfl) (jn_in 793 (by decide +kernel) rfl) (jn_in 795 (by decide +kernel) rfl) (jn_in 34 (by decide +kernel) rfl) (jn_in 60 (by decide +kernel) rfl) ⟨by decide, by decide, by decide +kernel⟩) : jn_GEm jn_G0 jn_me159 10 (.inr (.inl (99, 9, 2)))) <|
  jn_cons (⟨jn_ifne_ok (t := 23) (off := 10) (by decide +kernel) (by decide), jn_ifne_mo 23⟩ : jn_GEm jn_G0 jn_me159 13 (.inl (jn_ifne 23))) <|
  jn_cons (⟨jn_aload_n_ok (i := 0) (k := 0) (by decide +kernel) rfl, jn_aload_n_mo 0⟩ : jn_GEm jn_G0 jn_me159 16 (.inl (jn_aload_n 0))) <|
  jn_cons (⟨jn_bipush_ok (n := (-3)) (v := (-3)) (by decide +kernel) (by decide), jn_bipush_mo (-3)⟩ : jn_GEm jn_G0 jn_me159 17 (.inl (jn_bipush (-3)))) <|
  jn_cons (jn_gc_of jn_G0_95 (jn_callV (i := 73) (na := 1) (ci := 7) (q := (RX7, TX7, 22)) (by decide +kernel) rfl (jn_in 694 (by decide +kernel) rfl) (jn_in 691 (by decide +kernel) rfl) (jn_in 693 (by decide +kernel) rfl) (jn_in 19 (by decide +kernel) rfl) (jn_in 60 (by decide +kernel) rfl) ⟨by decide, by decide, by decide +kernel⟩) : jn_GEm jn_G0 jn_me159 19 (.inr (.inl (95, 9, 2)))) <|
  jn_cons (⟨(by decide +kernel), rfl⟩ : jn_GEm jn_G0 jn_me159 22 (.inr (.inr 1))) <|
  jn_cons (⟨jn_aload_n_ok (i := 0) (k := 0) (by decide +kernel) rfl, jn_aload_n_mo 0⟩ : jn_GEm jn_G0 jn_me159 23 (.inl (jn_aload_n 0))) <|
  jn_cons (⟨jn_getf_ok (ci := 7) (k := 4) (i := 16) (N := 22) (C := RX7) (T := TX7) (by decide +kernel) rfl (by decide) jn_u7 (jn_in 619 (by decide +kernel) rfl), jn_getf_mo 7 4⟩ : jn_GEm jn_G0 jn_me159 24 (.inl (jn_getf 7 4))) <|
  jn_cons (⟨jn_iload_n_ok (i := 1) (k := 1) (by decide +kernel) rfl, jn_iload_n_mo 1⟩ : jn_GEm jn_G0 jn_me159 27 (.inl (jn_iload_n 1))) <|
  jn_cons (⟨jn_iaload_ok (by decide +kernel), jn_iaload_mo⟩ : jn_GEm jn_G0 jn_me159 28 (.inl jn_iaload)) <|
  jn_cons (⟨jn_aload_n_ok (i := 0) (k := 0) (by decide +kernel) rfl, jn_aload_n_mo 0⟩ : jn_GEm jn_G0 jn_me159 29 (.inl (jn_aload_n 0))) <|
  jn_cons (⟨jn_getf_ok (ci := 7) (k := 4) (i := 16) (N := 22) (C := RX7) (T := TX7) (by decide +kernel) rfl (by decide) jn_u7 (jn_in 619 (by decide +kernel) rfl), jn_getf_mo 7 4⟩ : jn_GEm jn_G0 jn_me159 30 (.inl (jn_getf 7 4))) <|
  jn_cons (⟨jn_iload_n_ok (i := 2) (k := 2) (by decide +kernel) rfl, jn_iload_n_mo 2⟩ : jn_GEm jn_G0 jn_me159 33 (.inl (jn_iload_n 2))) <|
  jn_cons (⟨jn_iaload_ok (by decide +kernel), jn_iaload_mo⟩ : jn_GEm jn_G0 jn_me159 34 (.inl jn_iaload)) <|
  jn_cons (⟨jn_iceq_ok (t := 45) (off := 10) (by decide +kernel) (by decide), jn_iceq_mo 45⟩ : jn_GEm jn_G0 jn_me159 35 (.inl (jn_iceq 45))) <|
  jn_cons (⟨jn_aload_n_ok (i := 0) (k := 0) (by decide +kernel) rfl, jn_aload_n_mo 0⟩ : jn_GEm jn_G0 jn_me159 38 (.inl (jn_aload_n 0))) <|
  jn_cons (⟨jn_bipush_ok (n := (-7)) (v := (-7)) (by decide +kernel) (by decide), jn_bipush_mo (-7)⟩ : jn_GEm jn_G0 jn_me159 39 (.inl (jn_bipush (-7)))) <|
  jn_cons (jn_gc_of jn_G0_95 (jn_callV (i := 73) (na := 1) (ci := 7) (q := (RX7, TX7, 22)) (by decide +kernel) rfl (jn_in 694 (by decide +kernel) rfl) (jn_in 691 (by decide +kernel) rfl) (jn_in 693 (by decide +kernel) rfl) (jn_in 19 (by decide +kernel) rfl) (jn_in 60 (by decide +kernel) rfl) ⟨by decide, by decide, by decide +kernel⟩) : jn_GEm jn_G0 jn_me159 41 (.inr (.inl (95, 9, 2)))) <| jn_nil
theorem jn_o159_1 : ∀ q ∈ jn_c159_1, jn_GEm jn_G0 jn_me159 q.1 q.2 :=
  jn_cons (⟨(by decide +kernel), rfl⟩ : jn_GEm jn_G0 jn_me159 44 (.inr (.inr 1))) <|
  jn_cons (⟨jn_iconst_ok (by decide +kernel), jn_iconst_mo 1⟩ : jn_GEm jn_G0 jn_me159 45 (.inl (jn_iconst 1))) <|
  jn_cons (⟨jn_istore_n_ok (i := 3) (k := 3) (by decide +kernel) rfl, jn_istore_n_mo 3⟩ : jn_GEm jn_G0 jn_me159 46 (.inl (jn_istore_n 3))) <|
  jn_cons (⟨jn_iconst_ok (by decide +kernel), jn_iconst_mo 0⟩ : jn_GEm jn_G0 jn_me159 47 (.inl (jn_iconst 0))) <|
  jn_cons (⟨jn_istore_ok (i := 4) (by decide +kernel), jn_istore_mo 4⟩ : jn_GEm jn_G0 jn_me159 48 (.inl (jn_istore 4))) <|
  jn_cons (⟨jn_iload_ok (i := 4) (by decide +kernel), jn_iload_mo 4⟩ : jn_GEm jn_G0 jn_me159 50 (.inl (jn_iload 4))) <|
  jn_cons (⟨jn_bipush_ok (n := 6) (v := 6) (by decide +kernel) (by decide), jn_bipush_mo 6⟩ : jn_GEm jn_G0 jn_me159 52 (.inl (jn_bipush 6))) <|
  jn_cons (⟨jn_icge_ok (t := 100) (off := 46) (by decide +kernel) (by decide), jn_icge_mo 100⟩ : jn_GEm jn_G0 jn_me159 54 (.inl (jn_icge 100))) <|
  jn_cons (⟨jn_iload_n_ok (i := 3) (k := 3) (by decide +kernel) rfl, jn_iload_n_mo 3⟩ : jn_GEm jn_G0 jn_me159 57 (.inl (jn_iload_n 3))) <|
  jn_cons (⟨jn_ifeq_ok (t := 92) (off := 34) (by decide +kernel) (by decide), jn_ifeq_mo 92⟩ : jn_GEm jn_G0 jn_me159 58 (.inl (jn_ifeq 92))) <|
  jn_cons (⟨jn_aload_n_ok (i := 0) (k := 0) (by decide +kernel) rfl, jn_aload_n_mo 0⟩ : jn_GEm jn_G0 jn_me159 61 (.inl (jn_aload_n 0))) <|
  jn_cons (⟨jn_getf_ok (ci := 7) (k := 5) (i := 19) (N := 22) (C := RX7) (T := TX7) (by decide +kernel) rfl (by decide) jn_u7 (jn_in 620 (by decide +kernel) rfl), jn_getf_mo 7 5⟩ : jn_GEm jn_G0 jn_me159 62 (.inl (jn_getf 7 5))) <|
  jn_cons (⟨jn_bipush_ok (n := 6) (v := 6) (by decide +kernel) (by decide), jn_bipush_mo 6⟩ : jn_GEm jn_G0 jn_me159 65 (.inl (jn_bipush 6))) <|
  jn_cons (⟨jn_iload_n_ok (i := 1) (k := 1) (by decide +kernel) rfl, jn_iload_n_mo 1⟩ : jn_GEm jn_G0 jn_me159 67 (.inl (jn_iload_n 1))) <|
  jn_cons (⟨jn_imul_ok (by decide +kernel), jn_imul_mo⟩ : jn_GEm jn_G0 jn_me159 68 (.inl jn_imul)) <|
  jn_cons (⟨jn_iload_ok (i := 4) (by decide +kernel), jn_iload_mo 4⟩ : jn_GEm jn_G0 jn_me159 69 (.inl (jn_iload 4))) <|
  jn_cons (⟨jn_iadd_ok (by decide +kernel), jn_iadd_mo⟩ : jn_GEm jn_G0 jn_me159 71 (.inl jn_iadd)) <|
  jn_cons (⟨jn_iaload_ok (by decide +kernel), jn_iaload_mo⟩ : jn_GEm jn_G0 jn_me159 72 (.inl jn_iaload)) <|
  jn_cons (⟨jn_aload_n_ok (i := 0) (k := 0) (by decide +kernel) rfl, jn_aload_n_mo 0⟩ : jn_GEm jn_G0 jn_me159 73 (.inl (jn_aload_n 0))) <|
  jn_cons (⟨jn_getf_ok (ci := 7) (k := 5) (i := 19) (N := 22) (C := RX7) (T := TX7) (by decide +kernel) rfl (by decide) jn_u7 (jn_in 620 (by decide +kernel) rfl), jn_getf_mo 7 5⟩ : jn_GEm jn_G0 jn_me159 74 (.inl (jn_getf 7 5))) <|
  jn_cons (⟨jn_bipush_ok (n := 6) (v := 6) (by decide +kernel) (by decide), jn_bipush_mo 6⟩ : jn_GEm jn_G0 jn_me159 77 (.inl (jn_bipush 6))) <|
  jn_cons (⟨jn_iload_n_ok (i := 2) (k := 2) (by decide +kernel) rfl, jn_iload_n_mo 2⟩ : jn_GEm jn_G0 jn_me159 79 (.inl (jn_iload_n 2))) <|
  jn_cons (⟨jn_imul_ok (by decide +kernel), jn_imul_mo⟩ : jn_GEm jn_G0 jn_me159 80 (.inl jn_imul)) <|
  jn_cons (⟨jn_iload_ok (i := 4) (by decide +kernel), jn_iload_mo 4⟩ : jn_GEm jn_G0 jn_me159 81 (.inl (jn_iload 4))) <| jn_nil
theorem jn_o159_2 : ∀ q ∈ jn_c159_2, jn_GEm jn_G0 jn_me159 q.1 q.2 :=
  jn_cons (⟨jn_iadd_ok (by decide +kernel), jn_iadd_mo⟩ : jn_GEm jn_G0 jn_me159 83 (.inl jn_iadd)) <|
  jn_cons (⟨jn_iaload_ok (by decide +kernel), jn_iaload_mo⟩ : jn_GEm jn_G0 jn_me159 84 (.inl jn_iaload)) <|
  jn_cons (⟨jn_icne_ok (t := 92) (off := 7) (by decide +kernel) (by decide), jn_icne_mo 92⟩ : jn_GEm jn_G0 jn_me159 85 (.inl (jn_icne 92))) <|
  jn_cons (⟨jn_iconst_ok (by decide +kernel), jn_iconst_mo 1⟩ : jn_GEm jn_G0 jn_me159 88 (.inl (jn_iconst 1))) <|
  jn_cons (⟨jn_goto_ok (t := 93) (off := 4) (by decide +kernel) (by decide), jn_goto_mo 93⟩ : jn_GEm jn_G0 jn_me159 89 (.inl (jn_goto 93))) <|
  jn_cons (⟨jn_iconst_ok (by decide +kernel), jn_iconst_mo 0⟩ : jn_GEm jn_G0 jn_me159 92 (.inl (jn_iconst 0))) <|
  jn_cons (⟨jn_istore_n_ok (i := 3) (k := 3) (by decide +kernel) rfl, jn_istore_n_mo 3⟩ : jn_GEm jn_G0 jn_me159 93 (.inl (jn_istore_n 3))) <|
  jn_cons (⟨jn_iinc_ok (i := 4) (n := 1) (by decide +kernel), jn_iinc_mo 4 1⟩ : jn_GEm jn_G0 jn_me159 94 (.inl (jn_iinc 4 1))) <|
  jn_cons (⟨jn_goto_ok (t := 50) (off := -47) (by decide +kernel) (by decide), jn_goto_mo 50⟩ : jn_GEm jn_G0 jn_me159 97 (.inl (jn_goto 50))) <|
  jn_cons (⟨jn_iload_n_ok (i := 3) (k := 3) (by decide +kernel) rfl, jn_iload_n_mo 3⟩ : jn_GEm jn_G0 jn_me159 100 (.inl (jn_iload_n 3))) <|
  jn_cons (⟨jn_ifeq_ok (t := 108) (off := 7) (by decide +kernel) (by decide), jn_ifeq_mo 108⟩ : jn_GEm jn_G0 jn_me159 101 (.inl (jn_ifeq 108))) <|
  jn_cons (⟨jn_iconst_ok (by decide +kernel), jn_iconst_mo 1⟩ : jn_GEm jn_G0 jn_me159 104 (.inl (jn_iconst 1))) <|
  jn_cons (⟨jn_goto_ok (t := 109) (off := 4) (by decide +kernel) (by decide), jn_goto_mo 109⟩ : jn_GEm jn_G0 jn_me159 105 (.inl (jn_goto 109))) <|
  jn_cons (⟨jn_iconst_ok (by decide +kernel), jn_iconst_mo 0⟩ : jn_GEm jn_G0 jn_me159 108 (.inl (jn_iconst 0))) <|
  jn_cons (⟨(by decide +kernel), rfl⟩ : jn_GEm jn_G0 jn_me159 109 (.inr (.inr 1))) <| jn_nil
theorem jn_ok159 : jn_GM jn_G0 159 := jn_GM_of jn_G0_159 rfl rfl (by decide +kernel) (by decide) (jn_appd jn_o159_0 (jn_appd jn_o159_1 (jn_o159_2)))
theorem jn_o160_0 : ∀ q ∈ jn_c160_0, jn_GEm jn_G0 jn_me160 q.1 q.2 :=
  jn_cons (⟨jn_iload_n_ok (i := 1) (k := 1) (by decide +kernel) rfl, jn_iload_n_mo 1⟩ : jn_GEm jn_G0 jn_me160 0 (.inl (jn_iload_n 1))) <|
  jn_cons (⟨jn_ifne_ok (t := 11) (off := 10) (by decide +kernel) (by decide), jn_ifne_mo 11⟩ : jn_GEm jn_G0 jn_me160 1 (.inl (jn_ifne 11))) <|
  jn_cons (⟨jn_aload_n_ok (i := 0) (k := 0) (by decide +kernel) rfl, jn_aload_n_mo 0⟩ : jn_GEm jn_G0 jn_me160 4 (.inl (jn_aload_n 0))) <|
  jn_cons (⟨jn_getf_ok (ci := 7) (k := 2) (i := 77) (N := 22) (C := RX7) (T := TX7) (by decide +kernel) rfl (by decide) jn_u7 (jn_in 617 (by decide +kernel) rfl), jn_getf_mo 7 2⟩ : jn_GEm jn_G0 jn_me160 5 (.inl (jn_getf 7 2))) <|
  jn_cons (⟨jn_goto_ok (t := 29) (off := 21) (by decide +kernel) (by decide), jn_goto_mo 29⟩ : jn_GEm jn_G0 jn_me160 8 (.inl (jn_goto 29))) <|
  jn_cons (⟨jn_iload_n_ok (i := 1) (k := 1) (by decide +kernel) rfl, jn_iload_n_mo 1⟩ : jn_GEm jn_G0 jn_me160 11 (.inl (jn_iload_n 1))) <|
  jn_cons (⟨jn_iconst_ok (by decide +kernel), jn_iconst_mo 1⟩ : jn_GEm jn_G0 jn_me160 12 (.inl (jn_iconst 1))) <|
  jn_cons (⟨jn_icne_ok (t := 23) (off := 10) (by decide +kernel) (by decide), jn_icne_mo 23⟩ : jn_GEm jn_G0 jn_me160 13 (.inl (jn_icne 23))) <|
  jn_cons (⟨jn_aload_n_ok (i := 0) (k := 0) (by decide +kernel) rfl, jn_aload_n_mo 0⟩ : jn_GEm jn_G0 jn_me160 16 (.inl (jn_aload_n 0))) <|
  jn_cons (⟨jn_getf_ok (ci := 7) (k := 3) (i := 84) (N := 22) (C := RX7) (T := TX7) (by decide +kernel) rfl (by decide) jn_u7 (jn_in 618 (by decide +kernel) rfl), jn_getf_mo 7 3⟩ : jn_GEm jn_G0 jn_me160 17 (.inl (jn_getf 7 3))) <|
  jn_cons (⟨jn_goto_ok (t := 29) (off := 9) (by decide +kernel) (by decide), jn_goto_mo 29⟩ : jn_GEm jn_G0 jn_me160 20 (.inl (jn_goto 29))) <|
  jn_cons (⟨jn_aload_n_ok (i := 0) (k := 0) (by decide +kernel) rfl, jn_aload_n_mo 0⟩ : jn_GEm jn_G0 jn_me160 23 (.inl (jn_aload_n 0))) <|
  jn_cons (⟨jn_bipush_ok (n := (-7)) (v := (-7)) (by decide +kernel) (by decide), jn_bipush_mo (-7)⟩ : jn_GEm jn_G0 jn_me160 24 (.inl (jn_bipush (-7)))) <|
  jn_cons (jn_gc_of jn_G0_95 (jn_callV (i := 73) (na := 1) (ci := 7) (q := (RX7, TX7, 22)) (by decide +kernel) rfl (jn_in 694 (by decide +kernel) rfl) (jn_in 691 (by decide +kernel) rfl) (jn_in 693 (by decide +kernel) rfl) (jn_in 19 (by decide +kernel) rfl) (jn_in 60 (by decide +kernel) rfl) ⟨by decide, by decide, by decide +kernel⟩) : jn_GEm jn_G0 jn_me160 26 (.inr (.inl (95, 9, 2)))) <|
  jn_cons (⟨(by decide +kernel), rfl⟩ : jn_GEm jn_G0 jn_me160 29 (.inr (.inr 1))) <| jn_nil
theorem jn_ok160 : jn_GM jn_G0 160 := jn_GM_of jn_G0_160 rfl rfl (by decide +kernel) (by decide) (jn_o160_0)
theorem jn_o161_0 : ∀ q ∈ jn_c161_0, jn_GEm jn_G0 jn_me161 q.1 q.2 :=
  jn_cons (⟨jn_aload_n_ok (i := 0) (k := 0) (by decide +kernel) rfl, jn_aload_n_mo 0⟩ : jn_GEm jn_G0 jn_me161 0 (.inl (jn_aload_n 0))) <|
  jn_cons (⟨jn_iload_n_ok (i := 1) (k := 1) (by decide +kernel) rfl, jn_iload_n_mo 1⟩ : jn_GEm jn_G0 jn_me161 1 (.inl (jn_iload_n 1))) <|
  jn_cons (⟨jn_iload_n_ok (i := 2) (k := 2) (by decide +kernel) rfl, jn_iload_n_mo 2⟩ : jn_GEm jn_G0 jn_me161 2 (.inl (jn_iload_n 2))) <|
  jn_cons (jn_gc_of jn_G0_98 (jn_callV (i := 93) (na := 2) (ci := 7) (q := (RX7, TX7, 22)) (by decide +kernel) rfl (jn_in 702 (by decide +kernel) rfl) (jn_in 699 (by decide +kernel) rfl) (jn_in 701 (by decide +kernel) rfl) (jn_in 20 (by decide +kernel) rfl) (jn_in 60 (by decide +kernel) rfl) ⟨by decide, by decide, by decide +kernel⟩) : jn_GEm jn_G0 jn_me161 3 (.inr (.inl (98, 9, 3)))) <|
  jn_cons (⟨jn_ifne_ok (t := 16) (off := 10) (by decide +kernel) (by decide), jn_ifne_mo 16⟩ : jn_GEm jn_G0 jn_me161 6 (.inl (jn_ifne 16))) <|
  jn_cons (⟨jn_aload_n_ok (i := 0) (k := 0) (by decide +kernel) rfl, jn_aload_n_mo 0⟩ : jn_GEm jn_G0 jn_me161 9 (.inl (jn_aload_n 0))) <|
  jn_cons (⟨jn_bipush_ok (n := (-3)) (v := (-3)) (by decide +kernel) (by decide), jn_bipush_mo (-3)⟩ : jn_GEm jn_G0 jn_me161 10 (.inl (jn_bipush (-3)))) <|
  jn_cons (jn_gc_of jn_G0_95 (jn_callV (i := 73) (na := 1) (ci := 7) (q := (RX7, TX7, 22)) (by decide +kernel) rfl (jn_in 694 (by decide +kernel) rfl) (jn_in 691 (by decide +kernel) rfl) (jn_in 693 (by decide +kernel) rfl) (jn_in 19 (by decide +kernel) rfl) (jn_in 60 (by decide +kernel) rfl) ⟨by decide, by decide, by decide +kernel⟩) : jn_GEm jn_G0 jn_me161 12 (.inr (.inl (95, 9, 2)))) <|
  jn_cons (⟨(by decide +kernel), rfl⟩ : jn_GEm jn_G0 jn_me161 15 (.inr (.inr 1))) <|
  jn_cons (⟨jn_aload_n_ok (i := 0) (k := 0) (by decide +kernel) rfl, jn_aload_n_mo 0⟩ : jn_GEm jn_G0 jn_me161 16 (.inl (jn_aload_n 0))) <|
  jn_cons (⟨jn_aload_n_ok (i := 0) (k := 0) (by decide +kernel) rfl, jn_aload_n_mo 0⟩ : jn_GEm jn_G0 jn_me161 17 (.inl (jn_aload_n 0))) <|
  jn_cons (⟨jn_getf_ok (ci := 7) (k := 0) (i := 7) (N := 22) (C := RX7) (T := TX7) (by decide +kernel) rfl (by decide) jn_u7 (jn_in 615 (by decide +kernel) rfl), jn_getf_mo 7 0⟩ : jn_GEm jn_G0 jn_me161 18 (.inl (jn_getf 7 0))) <|
  jn_cons (⟨jn_iload_n_ok (i := 1) (k := 1) (by decide +kernel) rfl, jn_iload_n_mo 1⟩ : jn_GEm jn_G0 jn_me161 21 (.inl (jn_iload_n 1))) <|
  jn_cons (⟨jn_iaload_ok (by decide +kernel), jn_iaload_mo⟩ : jn_GEm jn_G0 jn_me161 22 (.inl jn_iaload)) <|
  jn_cons (⟨jn_putf_ok (ci := 7) (k := 21) (κ := 0) (i := 69) (N := 22) (C := RX7) (T := TX7) (ty0 := tyX7) (ty := .int) (by decide +kernel) rfl (by decide) jn_u7 (jn_in 636 (by decide +kernel) rfl) tyX7_ok nmX7 rfl (by decide +kernel) jn_po_int, jn_putf_mo 7 21 0⟩ : jn_GEm jn_G0 jn_me161 23 (.inl (jn_putf 7 21 0))) <|
  jn_cons (⟨jn_iconst_ok (by decide +kernel), jn_iconst_mo 0⟩ : jn_GEm jn_G0 jn_me161 26 (.inl (jn_iconst 0))) <|
  jn_cons (⟨jn_istore_n_ok (i := 3) (k := 3) (by decide +kernel) rfl, jn_istore_n_mo 3⟩ : jn_GEm jn_G0 jn_me161 27 (.inl (jn_istore_n 3))) <|
  jn_cons (⟨jn_iload_n_ok (i := 3) (k := 3) (by decide +kernel) rfl, jn_iload_n_mo 3⟩ : jn_GEm jn_G0 jn_me161 28 (.inl (jn_iload_n 3))) <|
  jn_cons (⟨jn_aload_n_ok (i := 0) (k := 0) (by decide +kernel) rfl, jn_aload_n_mo 0⟩ : jn_GEm jn_G0 jn_me161 29 (.inl (jn_aload_n 0))) <|
  jn_cons (⟨jn_getf_ok (ci := 7) (k := 21) (i := 69) (N := 22) (C := RX7) (T := TX7) (by decide +kernel) rfl (by decide) jn_u7 (jn_in 636 (by decide +kernel) rfl), jn_getf_mo 7 21⟩ : jn_GEm jn_G0 jn_me161 30 (.inl (jn_getf 7 21))) <|
  jn_cons (⟨jn_icge_ok (t := 59) (off := 26) (by decide +kernel) (by decide), jn_icge_mo 59⟩ : jn_GEm jn_G0 jn_me161 33 (.inl (jn_icge 59))) <|
  jn_cons (⟨jn_aload_n_ok (i := 0) (k := 0) (by decide +kernel) rfl, jn_aload_n_mo 0⟩ : jn_GEm jn_G0 jn_me161 36 (.inl (jn_aload_n 0))) <|
  jn_cons (⟨jn_getf_ok (ci := 7) (k := 19) (i := 63) (N := 22) (C := RX7) (T := TX7) (by decide +kernel) rfl (by decide) jn_u7 (jn_in 634 (by decide +kernel) rfl), jn_getf_mo 7 19⟩ : jn_GEm jn_G0 jn_me161 37 (.inl (jn_getf 7 19))) <|
  jn_cons (⟨jn_iload_n_ok (i := 3) (k := 3) (by decide +kernel) rfl, jn_iload_n_mo 3⟩ : jn_GEm jn_G0 jn_me161 40 (.inl (jn_iload_n 3))) <| jn_nil
theorem jn_o161_1 : ∀ q ∈ jn_c161_1, jn_GEm jn_G0 jn_me161 q.1 q.2 :=
  jn_cons (⟨jn_aload_n_ok (i := 0) (k := 0) (by decide +kernel) rfl, jn_aload_n_mo 0⟩ : jn_GEm jn_G0 jn_me161 41 (.inl (jn_aload_n 0))) <|
  jn_cons (⟨jn_getf_ok (ci := 7) (k := 1) (i := 13) (N := 22) (C := RX7) (T := TX7) (by decide +kernel) rfl (by decide) jn_u7 (jn_in 616 (by decide +kernel) rfl), jn_getf_mo 7 1⟩ : jn_GEm jn_G0 jn_me161 42 (.inl (jn_getf 7 1))) <|
  jn_cons (⟨jn_iload_n_ok (i := 1) (k := 1) (by decide +kernel) rfl, jn_iload_n_mo 1⟩ : jn_GEm jn_G0 jn_me161 45 (.inl (jn_iload_n 1))) <|
  jn_cons (⟨jn_iload_n_ok (i := 2) (k := 2) (by decide +kernel) rfl, jn_iload_n_mo 2⟩ : jn_GEm jn_G0 jn_me161 46 (.inl (jn_iload_n 2))) <|
  jn_cons (⟨jn_iload_n_ok (i := 3) (k := 3) (by decide +kernel) rfl, jn_iload_n_mo 3⟩ : jn_GEm jn_G0 jn_me161 47 (.inl (jn_iload_n 3))) <|
  jn_cons (jn_gc_of jn_G0_100 (jn_callS (i := 99) (na := 3) (by decide +kernel) (jn_in 710 (by decide +kernel) rfl) (jn_in 708 (by decide +kernel) rfl) (jn_in 709 (by decide +kernel) rfl) (jn_in 60 (by decide +kernel) rfl) ⟨by decide, by decide, by decide +kernel⟩) : jn_GEm jn_G0 jn_me161 48 (.inr (.inl (100, 0, 3)))) <|
  jn_cons (⟨jn_iaload_ok (by decide +kernel), jn_iaload_mo⟩ : jn_GEm jn_G0 jn_me161 51 (.inl jn_iaload)) <|
  jn_cons (⟨jn_iastore_ok (by decide +kernel), jn_iastore_mo⟩ : jn_GEm jn_G0 jn_me161 52 (.inl jn_iastore)) <|
  jn_cons (⟨jn_iinc_ok (i := 3) (n := 1) (by decide +kernel), jn_iinc_mo 3 1⟩ : jn_GEm jn_G0 jn_me161 53 (.inl (jn_iinc 3 1))) <|
  jn_cons (⟨jn_goto_ok (t := 28) (off := -28) (by decide +kernel) (by decide), jn_goto_mo 28⟩ : jn_GEm jn_G0 jn_me161 56 (.inl (jn_goto 28))) <|
  jn_cons (⟨jn_aload_n_ok (i := 0) (k := 0) (by decide +kernel) rfl, jn_aload_n_mo 0⟩ : jn_GEm jn_G0 jn_me161 59 (.inl (jn_aload_n 0))) <|
  jn_cons (⟨jn_getf_ok (ci := 7) (k := 21) (i := 69) (N := 22) (C := RX7) (T := TX7) (by decide +kernel) rfl (by decide) jn_u7 (jn_in 636 (by decide +kernel) rfl), jn_getf_mo 7 21⟩ : jn_GEm jn_G0 jn_me161 60 (.inl (jn_getf 7 21))) <|
  jn_cons (⟨(by decide +kernel), rfl⟩ : jn_GEm jn_G0 jn_me161 63 (.inr (.inr 1))) <| jn_nil
theorem jn_ok161 : jn_GM jn_G0 161 := jn_GM_of jn_G0_161 rfl rfl (by decide +kernel) (by decide) (jn_appd jn_o161_0 (jn_o161_1))
theorem jn_o162_0 : ∀ q ∈ jn_c162_0, jn_GEm jn_G0 jn_me162 q.1 q.2 :=
  jn_cons (⟨jn_aload_n_ok (i := 0) (k := 0) (by decide +kernel) rfl, jn_aload_n_mo 0⟩ : jn_GEm jn_G0 jn_me162 0 (.inl (jn_aload_n 0))) <|
  jn_cons (⟨jn_getf_ok (ci := 7) (k := 21) (i := 69) (N := 22) (C := RX7) (T := TX7) (by decide +kernel) rfl (by decide) jn_u7 (jn_in 636 (by decide +kernel) rfl), jn_getf_mo 7 21⟩ : jn_GEm jn_G0 jn_me162 1 (.inl (jn_getf 7 21))) <|
  jn_cons (⟨jn_iflt_ok (t := 11) (off := 7) (by decide +kernel) (by decide), jn_iflt_mo 11⟩ : jn_GEm jn_G0 jn_me162 4 (.inl (jn_iflt 11))) <|
  jn_cons (⟨jn_iconst_ok (by decide +kernel), jn_iconst_mo 1⟩ : jn_GEm jn_G0 jn_me162 7 (.inl (jn_iconst 1))) <|
  jn_cons (⟨jn_goto_ok (t := 12) (off := 4) (by decide +kernel) (by decide), jn_goto_mo 12⟩ : jn_GEm jn_G0 jn_me162 8 (.inl (jn_goto 12))) <|
  jn_cons (⟨jn_iconst_ok (by decide +kernel), jn_iconst_mo 0⟩ : jn_GEm jn_G0 jn_me162 11 (.inl (jn_iconst 0))) <|
  jn_cons (⟨jn_istore_n_ok (i := 1) (k := 1) (by decide +kernel) rfl, jn_istore_n_mo 1⟩ : jn_GEm jn_G0 jn_me162 12 (.inl (jn_istore_n 1))) <|
  jn_cons (⟨jn_aload_n_ok (i := 0) (k := 0) (by decide +kernel) rfl, jn_aload_n_mo 0⟩ : jn_GEm jn_G0 jn_me162 13 (.inl (jn_aload_n 0))) <|
  jn_cons (⟨jn_iconst_ok (by decide +kernel), jn_iconst_mo (-1)⟩ : jn_GEm jn_G0 jn_me162 14 (.inl (jn_iconst (-1)))) <|
  jn_cons (⟨jn_putf_ok (ci := 7) (k := 21) (κ := 0) (i := 69) (N := 22) (C := RX7) (T := TX7) (ty0 := tyX7) (ty := .int) (by decide +kernel) rfl (by decide) jn_u7 (jn_in 636 (by decide +kernel) rfl) tyX7_ok nmX7 rfl (by decide +kernel) jn_po_int, jn_putf_mo 7 21 0⟩ : jn_GEm jn_G0 jn_me162 15 (.inl (jn_putf 7 21 0))) <|
  jn_cons (⟨jn_iload_n_ok (i := 1) (k := 1) (by decide +kernel) rfl, jn_iload_n_mo 1⟩ : jn_GEm jn_G0 jn_me162 18 (.inl (jn_iload_n 1))) <|
  jn_cons (⟨(by decide +kernel), rfl⟩ : jn_GEm jn_G0 jn_me162 19 (.inr (.inr 1))) <| jn_nil
theorem jn_ok162 : jn_GM jn_G0 162 := jn_GM_of jn_G0_162 rfl rfl (by decide +kernel) (by decide) (jn_o162_0)
theorem jn_o163_0 : ∀ q ∈ jn_c163_0, jn_GEm jn_G0 jn_me163 q.1 q.2 :=
  jn_cons (⟨jn_aload_n_ok (i := 0) (k := 0) (by decide +kernel) rfl, jn_aload_n_mo 0⟩ : jn_GEm jn_G0 jn_me163 0 (.inl (jn_aload_n 0))) <|
  jn_cons (⟨jn_getf_ok (ci := 7) (k := 21) (i := 69) (N := 22) (C := RX7) (T := TX7) (by decide +kernel) rfl (by decide) jn_u7 (jn_in 636 (by decide +kernel) rfl), jn_getf_mo 7 21⟩ : jn_GEm jn_G0 jn_me163 1 (.inl (jn_getf 7 21))) <|
  jn_cons (⟨jn_ifge_ok (t := 14) (off := 10) (by decide +kernel) (by decide), jn_ifge_mo 14⟩ : jn_GEm jn_G0 jn_me163 4 (.inl (jn_ifge 14))) <|
  jn_cons (⟨jn_aload_n_ok (i := 0) (k := 0) (by decide +kernel) rfl, jn_aload_n_mo 0⟩ : jn_GEm jn_G0 jn_me163 7 (.inl (jn_aload_n 0))) <|
  jn_cons (⟨jn_bipush_ok (n := (-2)) (v := (-2)) (by decide +kernel) (by decide), jn_bipush_mo (-2)⟩ : jn_GEm jn_G0 jn_me163 8 (.inl (jn_bipush (-2)))) <|
  jn_cons (jn_gc_of jn_G0_96 (jn_callV (i := 132) (na := 1) (ci := 7) (q := (RX7, TX7, 22)) (by decide +kernel) rfl (jn_in 746 (by decide +kernel) rfl) (jn_in 743 (by decide +kernel) rfl) (jn_in 745 (by decide +kernel) rfl) (jn_in 27 (by decide +kernel) rfl) (jn_in 60 (by decide +kernel) rfl) ⟨by decide, by decide, by decide +kernel⟩) : jn_GEm jn_G0 jn_me163 10 (.inr (.inl (96, 9, 2)))) <|
  jn_cons (⟨(by decide +kernel), rfl⟩ : jn_GEm jn_G0 jn_me163 13 (.inr (.inr 1))) <|
  jn_cons (⟨jn_iload_n_ok (i := 1) (k := 1) (by decide +kernel) rfl, jn_iload_n_mo 1⟩ : jn_GEm jn_G0 jn_me163 14 (.inl (jn_iload_n 1))) <|
  jn_cons (⟨jn_i2l_ok (by decide +kernel), jn_i2l_mo⟩ : jn_GEm jn_G0 jn_me163 15 (.inl jn_i2l)) <|
  jn_cons (⟨jn_lconst_ok (n := 0) (v := 0) (by decide +kernel) (by decide), jn_lconst_mo 0⟩ : jn_GEm jn_G0 jn_me163 16 (.inl (jn_lconst 0))) <|
  jn_cons (⟨jn_aload_n_ok (i := 0) (k := 0) (by decide +kernel) rfl, jn_aload_n_mo 0⟩ : jn_GEm jn_G0 jn_me163 17 (.inl (jn_aload_n 0))) <|
  jn_cons (⟨jn_getf_ok (ci := 7) (k := 21) (i := 69) (N := 22) (C := RX7) (T := TX7) (by decide +kernel) rfl (by decide) jn_u7 (jn_in 636 (by decide +kernel) rfl), jn_getf_mo 7 21⟩ : jn_GEm jn_G0 jn_me163 18 (.inl (jn_getf 7 21))) <|
  jn_cons (⟨jn_iconst_ok (by decide +kernel), jn_iconst_mo 1⟩ : jn_GEm jn_G0 jn_me163 21 (.inl (jn_iconst 1))) <|
  jn_cons (⟨jn_isub_ok (by decide +kernel), jn_isub_mo⟩ : jn_GEm jn_G0 jn_me163 22 (.inl jn_isub)) <|
  jn_cons (⟨jn_i2l_ok (by decide +kernel), jn_i2l_mo⟩ : jn_GEm jn_G0 jn_me163 23 (.inl jn_i2l)) <|
  jn_cons (jn_gc_of jn_G0_94 (jn_callS (i := 89) (na := 3) (by decide +kernel) (jn_in 690 (by decide +kernel) rfl) (jn_in 688 (by decide +kernel) rfl) (jn_in 689 (by decide +kernel) rfl) (jn_in 60 (by decide +kernel) rfl) ⟨by decide, by decide, by decide +kernel⟩) : jn_GEm jn_G0 jn_me163 24 (.inr (.inl (94, 0, 3)))) <|
  jn_cons (⟨jn_ifeq_ok (t := 39) (off := 12) (by decide +kernel) (by decide), jn_ifeq_mo 39⟩ : jn_GEm jn_G0 jn_me163 27 (.inl (jn_ifeq 39))) <|
  jn_cons (⟨jn_aload_n_ok (i := 0) (k := 0) (by decide +kernel) rfl, jn_aload_n_mo 0⟩ : jn_GEm jn_G0 jn_me163 30 (.inl (jn_aload_n 0))) <|
  jn_cons (⟨jn_getf_ok (ci := 7) (k := 19) (i := 63) (N := 22) (C := RX7) (T := TX7) (by decide +kernel) rfl (by decide) jn_u7 (jn_in 634 (by decide +kernel) rfl), jn_getf_mo 7 19⟩ : jn_GEm jn_G0 jn_me163 31 (.inl (jn_getf 7 19))) <|
  jn_cons (⟨jn_iload_n_ok (i := 1) (k := 1) (by decide +kernel) rfl, jn_iload_n_mo 1⟩ : jn_GEm jn_G0 jn_me163 34 (.inl (jn_iload_n 1))) <|
  jn_cons (⟨jn_iaload_ok (by decide +kernel), jn_iaload_mo⟩ : jn_GEm jn_G0 jn_me163 35 (.inl jn_iaload)) <|
  jn_cons (⟨jn_goto_ok (t := 45) (off := 9) (by decide +kernel) (by decide), jn_goto_mo 45⟩ : jn_GEm jn_G0 jn_me163 36 (.inl (jn_goto 45))) <|
  jn_cons (⟨jn_aload_n_ok (i := 0) (k := 0) (by decide +kernel) rfl, jn_aload_n_mo 0⟩ : jn_GEm jn_G0 jn_me163 39 (.inl (jn_aload_n 0))) <|
  jn_cons (⟨jn_bipush_ok (n := (-3)) (v := (-3)) (by decide +kernel) (by decide), jn_bipush_mo (-3)⟩ : jn_GEm jn_G0 jn_me163 40 (.inl (jn_bipush (-3)))) <| jn_nil
theorem jn_o163_1 : ∀ q ∈ jn_c163_1, jn_GEm jn_G0 jn_me163 q.1 q.2 :=
  jn_cons (jn_gc_of jn_G0_96 (jn_callV (i := 132) (na := 1) (ci := 7) (q := (RX7, TX7, 22)) (by decide +kernel) rfl (jn_in 746 (by decide +kernel) rfl) (jn_in 743 (by decide +kernel) rfl) (jn_in 745 (by decide +kernel) rfl) (jn_in 27 (by decide +kernel) rfl) (jn_in 60 (by decide +kernel) rfl) ⟨by decide, by decide, by decide +kernel⟩) : jn_GEm jn_G0 jn_me163 42 (.inr (.inl (96, 9, 2)))) <|
  jn_cons (⟨(by decide +kernel), rfl⟩ : jn_GEm jn_G0 jn_me163 45 (.inr (.inr 1))) <| jn_nil
theorem jn_ok163 : jn_GM jn_G0 163 := jn_GM_of jn_G0_163 rfl rfl (by decide +kernel) (by decide) (jn_appd jn_o163_0 (jn_o163_1))
theorem jn_o164_0 : ∀ q ∈ jn_c164_0, jn_GEm jn_G0 jn_me164 q.1 q.2 :=
  jn_cons (⟨jn_aload_n_ok (i := 0) (k := 0) (by decide +kernel) rfl, jn_aload_n_mo 0⟩ : jn_GEm jn_G0 jn_me164 0 (.inl (jn_aload_n 0))) <|
  jn_cons (⟨jn_getf_ok (ci := 7) (k := 21) (i := 69) (N := 22) (C := RX7) (T := TX7) (by decide +kernel) rfl (by decide) jn_u7 (jn_in 636 (by decide +kernel) rfl), jn_getf_mo 7 21⟩ : jn_GEm jn_G0 jn_me164 1 (.inl (jn_getf 7 21))) <|
  jn_cons (⟨jn_ifge_ok (t := 14) (off := 10) (by decide +kernel) (by decide), jn_ifge_mo 14⟩ : jn_GEm jn_G0 jn_me164 4 (.inl (jn_ifge 14))) <|
  jn_cons (⟨jn_aload_n_ok (i := 0) (k := 0) (by decide +kernel) rfl, jn_aload_n_mo 0⟩ : jn_GEm jn_G0 jn_me164 7 (.inl (jn_aload_n 0))) <|
  jn_cons (⟨jn_bipush_ok (n := (-2)) (v := (-2)) (by decide +kernel) (by decide), jn_bipush_mo (-2)⟩ : jn_GEm jn_G0 jn_me164 8 (.inl (jn_bipush (-2)))) <|
  jn_cons (jn_gc_of jn_G0_95 (jn_callV (i := 73) (na := 1) (ci := 7) (q := (RX7, TX7, 22)) (by decide +kernel) rfl (jn_in 694 (by decide +kernel) rfl) (jn_in 691 (by decide +kernel) rfl) (jn_in 693 (by decide +kernel) rfl) (jn_in 19 (by decide +kernel) rfl) (jn_in 60 (by decide +kernel) rfl) ⟨by decide, by decide, by decide +kernel⟩) : jn_GEm jn_G0 jn_me164 10 (.inr (.inl (95, 9, 2)))) <|
  jn_cons (⟨(by decide +kernel), rfl⟩ : jn_GEm jn_G0 jn_me164 13 (.inr (.inr 1))) <|
  jn_cons (⟨jn_iload_n_ok (i := 3) (k := 3) (by decide +kernel) rfl, jn_iload_n_mo 3⟩ : jn_GEm jn_G0 jn_me164 14 (.inl (jn_iload_n 3))) <|
  jn_cons (⟨jn_ifge_ok (t := 25) (off := 10) (by decide +kernel) (by decide), jn_ifge_mo 25⟩ : jn_GEm jn_G0 jn_me164 15 (.inl (jn_ifge 25))) <|
  jn_cons (⟨jn_aload_n_ok (i := 0) (k := 0) (by decide +kernel) rfl, jn_aload_n_mo 0⟩ : jn_GEm jn_G0 jn_me164 18 (.inl (jn_aload_n 0))) <|
  jn_cons (⟨jn_bipush_ok (n := (-4)) (v := (-4)) (by decide +kernel) (by decide), jn_bipush_mo (-4)⟩ : jn_GEm jn_G0 jn_me164 19 (.inl (jn_bipush (-4)))) <|
  jn_cons (jn_gc_of jn_G0_95 (jn_callV (i := 73) (na := 1) (ci := 7) (q := (RX7, TX7, 22)) (by decide +kernel) rfl (jn_in 694 (by decide +kernel) rfl) (jn_in 691 (by decide +kernel) rfl) (jn_in 693 (by decide +kernel) rfl) (jn_in 19 (by decide +kernel) rfl) (jn_in 60 (by decide +kernel) rfl) ⟨by decide, by decide, by decide +kernel⟩) : jn_GEm jn_G0 jn_me164 21 (.inr (.inl (95, 9, 2)))) <|
  jn_cons (⟨(by decide +kernel), rfl⟩ : jn_GEm jn_G0 jn_me164 24 (.inr (.inr 1))) <|
  jn_cons (⟨jn_iload_n_ok (i := 1) (k := 1) (by decide +kernel) rfl, jn_iload_n_mo 1⟩ : jn_GEm jn_G0 jn_me164 25 (.inl (jn_iload_n 1))) <|
  jn_cons (⟨jn_iflt_ok (t := 61) (off := 35) (by decide +kernel) (by decide), jn_iflt_mo 61⟩ : jn_GEm jn_G0 jn_me164 26 (.inl (jn_iflt 61))) <|
  jn_cons (⟨jn_iload_n_ok (i := 2) (k := 2) (by decide +kernel) rfl, jn_iload_n_mo 2⟩ : jn_GEm jn_G0 jn_me164 29 (.inl (jn_iload_n 2))) <|
  jn_cons (⟨jn_iflt_ok (t := 61) (off := 31) (by decide +kernel) (by decide), jn_iflt_mo 61⟩ : jn_GEm jn_G0 jn_me164 30 (.inl (jn_iflt 61))) <|
  jn_cons (⟨jn_iload_n_ok (i := 1) (k := 1) (by decide +kernel) rfl, jn_iload_n_mo 1⟩ : jn_GEm jn_G0 jn_me164 33 (.inl (jn_iload_n 1))) <|
  jn_cons (⟨jn_i2l_ok (by decide +kernel), jn_i2l_mo⟩ : jn_GEm jn_G0 jn_me164 34 (.inl jn_i2l)) <|
  jn_cons (⟨jn_iload_n_ok (i := 3) (k := 3) (by decide +kernel) rfl, jn_iload_n_mo 3⟩ : jn_GEm jn_G0 jn_me164 35 (.inl (jn_iload_n 3))) <|
  jn_cons (⟨jn_i2l_ok (by decide +kernel), jn_i2l_mo⟩ : jn_GEm jn_G0 jn_me164 36 (.inl jn_i2l)) <|
  jn_cons (⟨jn_ladd_ok (by decide +kernel), jn_ladd_mo⟩ : jn_GEm jn_G0 jn_me164 37 (.inl jn_ladd)) <|
  jn_cons (⟨jn_aload_n_ok (i := 0) (k := 0) (by decide +kernel) rfl, jn_aload_n_mo 0⟩ : jn_GEm jn_G0 jn_me164 38 (.inl (jn_aload_n 0))) <|
  jn_cons (⟨jn_getf_ok (ci := 7) (k := 21) (i := 69) (N := 22) (C := RX7) (T := TX7) (by decide +kernel) rfl (by decide) jn_u7 (jn_in 636 (by decide +kernel) rfl), jn_getf_mo 7 21⟩ : jn_GEm jn_G0 jn_me164 39 (.inl (jn_getf 7 21))) <| jn_nil
theorem jn_o164_1 : ∀ q ∈ jn_c164_1, jn_GEm jn_G0 jn_me164 q.1 q.2 :=
  jn_cons (⟨jn_i2l_ok (by decide +kernel), jn_i2l_mo⟩ : jn_GEm jn_G0 jn_me164 42 (.inl jn_i2l)) <|
  jn_cons (⟨jn_lcmp_ok (by decide +kernel), jn_lcmp_mo⟩ : jn_GEm jn_G0 jn_me164 43 (.inl jn_lcmp)) <|
  jn_cons (⟨jn_ifgt_ok (t := 61) (off := 17) (by decide +kernel) (by decide), jn_ifgt_mo 61⟩ : jn_GEm jn_G0 jn_me164 44 (.inl (jn_ifgt 61))) <|
  jn_cons (⟨jn_iload_n_ok (i := 2) (k := 2) (by decide +kernel) rfl, jn_iload_n_mo 2⟩ : jn_GEm jn_G0 jn_me164 47 (.inl (jn_iload_n 2))) <|
  jn_cons (⟨jn_i2l_ok (by decide +kernel), jn_i2l_mo⟩ : jn_GEm jn_G0 jn_me164 48 (.inl jn_i2l)) <|
  jn_cons (⟨jn_iload_n_ok (i := 3) (k := 3) (by decide +kernel) rfl, jn_iload_n_mo 3⟩ : jn_GEm jn_G0 jn_me164 49 (.inl (jn_iload_n 3))) <|
  jn_cons (⟨jn_i2l_ok (by decide +kernel), jn_i2l_mo⟩ : jn_GEm jn_G0 jn_me164 50 (.inl jn_i2l)) <|
  jn_cons (⟨jn_ladd_ok (by decide +kernel), jn_ladd_mo⟩ : jn_GEm jn_G0 jn_me164 51 (.inl jn_ladd)) <|
  jn_cons (⟨jn_aload_n_ok (i := 0) (k := 0) (by decide +kernel) rfl, jn_aload_n_mo 0⟩ : jn_GEm jn_G0 jn_me164 52 (.inl (jn_aload_n 0))) <|
  jn_cons (⟨jn_getf_ok (ci := 7) (k := 21) (i := 69) (N := 22) (C := RX7) (T := TX7) (by decide +kernel) rfl (by decide) jn_u7 (jn_in 636 (by decide +kernel) rfl), jn_getf_mo 7 21⟩ : jn_GEm jn_G0 jn_me164 53 (.inl (jn_getf 7 21))) <|
  jn_cons (⟨jn_i2l_ok (by decide +kernel), jn_i2l_mo⟩ : jn_GEm jn_G0 jn_me164 56 (.inl jn_i2l)) <|
  jn_cons (⟨jn_lcmp_ok (by decide +kernel), jn_lcmp_mo⟩ : jn_GEm jn_G0 jn_me164 57 (.inl jn_lcmp)) <|
  jn_cons (⟨jn_ifle_ok (t := 68) (off := 10) (by decide +kernel) (by decide), jn_ifle_mo 68⟩ : jn_GEm jn_G0 jn_me164 58 (.inl (jn_ifle 68))) <|
  jn_cons (⟨jn_aload_n_ok (i := 0) (k := 0) (by decide +kernel) rfl, jn_aload_n_mo 0⟩ : jn_GEm jn_G0 jn_me164 61 (.inl (jn_aload_n 0))) <|
  jn_cons (⟨jn_bipush_ok (n := (-6)) (v := (-6)) (by decide +kernel) (by decide), jn_bipush_mo (-6)⟩ : jn_GEm jn_G0 jn_me164 62 (.inl (jn_bipush (-6)))) <|
  jn_cons (jn_gc_of jn_G0_95 (jn_callV (i := 73) (na := 1) (ci := 7) (q := (RX7, TX7, 22)) (by decide +kernel) rfl (jn_in 694 (by decide +kernel) rfl) (jn_in 691 (by decide +kernel) rfl) (jn_in 693 (by decide +kernel) rfl) (jn_in 19 (by decide +kernel) rfl) (jn_in 60 (by decide +kernel) rfl) ⟨by decide, by decide, by decide +kernel⟩) : jn_GEm jn_G0 jn_me164 64 (.inr (.inl (95, 9, 2)))) <|
  jn_cons (⟨(by decide +kernel), rfl⟩ : jn_GEm jn_G0 jn_me164 67 (.inr (.inr 1))) <|
  jn_cons (⟨jn_iconst_ok (by decide +kernel), jn_iconst_mo 0⟩ : jn_GEm jn_G0 jn_me164 68 (.inl (jn_iconst 0))) <|
  jn_cons (⟨jn_istore_ok (i := 4) (by decide +kernel), jn_istore_mo 4⟩ : jn_GEm jn_G0 jn_me164 69 (.inl (jn_istore 4))) <|
  jn_cons (⟨jn_iload_ok (i := 4) (by decide +kernel), jn_iload_mo 4⟩ : jn_GEm jn_G0 jn_me164 71 (.inl (jn_iload 4))) <|
  jn_cons (⟨jn_iload_n_ok (i := 3) (k := 3) (by decide +kernel) rfl, jn_iload_n_mo 3⟩ : jn_GEm jn_G0 jn_me164 73 (.inl (jn_iload_n 3))) <|
  jn_cons (⟨jn_icge_ok (t := 99) (off := 25) (by decide +kernel) (by decide), jn_icge_mo 99⟩ : jn_GEm jn_G0 jn_me164 74 (.inl (jn_icge 99))) <|
  jn_cons (⟨jn_aload_n_ok (i := 0) (k := 0) (by decide +kernel) rfl, jn_aload_n_mo 0⟩ : jn_GEm jn_G0 jn_me164 77 (.inl (jn_aload_n 0))) <|
  jn_cons (⟨jn_getf_ok (ci := 7) (k := 20) (i := 66) (N := 22) (C := RX7) (T := TX7) (by decide +kernel) rfl (by decide) jn_u7 (jn_in 635 (by decide +kernel) rfl), jn_getf_mo 7 20⟩ : jn_GEm jn_G0 jn_me164 78 (.inl (jn_getf 7 20))) <| jn_nil
theorem jn_o164_2 : ∀ q ∈ jn_c164_2, jn_GEm jn_G0 jn_me164 q.1 q.2 :=
  jn_cons (⟨jn_iload_ok (i := 4) (by decide +kernel), jn_iload_mo 4⟩ : jn_GEm jn_G0 jn_me164 81 (.inl (jn_iload 4))) <|
  jn_cons (⟨jn_aload_n_ok (i := 0) (k := 0) (by decide +kernel) rfl, jn_aload_n_mo 0⟩ : jn_GEm jn_G0 jn_me164 83 (.inl (jn_aload_n 0))) <|
  jn_cons (⟨jn_getf_ok (ci := 7) (k := 19) (i := 63) (N := 22) (C := RX7) (T := TX7) (by decide +kernel) rfl (by decide) jn_u7 (jn_in 634 (by decide +kernel) rfl), jn_getf_mo 7 19⟩ : jn_GEm jn_G0 jn_me164 84 (.inl (jn_getf 7 19))) <|
  jn_cons (⟨jn_iload_n_ok (i := 1) (k := 1) (by decide +kernel) rfl, jn_iload_n_mo 1⟩ : jn_GEm jn_G0 jn_me164 87 (.inl (jn_iload_n 1))) <|
  jn_cons (⟨jn_iload_ok (i := 4) (by decide +kernel), jn_iload_mo 4⟩ : jn_GEm jn_G0 jn_me164 88 (.inl (jn_iload 4))) <|
  jn_cons (⟨jn_iadd_ok (by decide +kernel), jn_iadd_mo⟩ : jn_GEm jn_G0 jn_me164 90 (.inl jn_iadd)) <|
  jn_cons (⟨jn_iaload_ok (by decide +kernel), jn_iaload_mo⟩ : jn_GEm jn_G0 jn_me164 91 (.inl jn_iaload)) <|
  jn_cons (⟨jn_iastore_ok (by decide +kernel), jn_iastore_mo⟩ : jn_GEm jn_G0 jn_me164 92 (.inl jn_iastore)) <|
  jn_cons (⟨jn_iinc_ok (i := 4) (n := 1) (by decide +kernel), jn_iinc_mo 4 1⟩ : jn_GEm jn_G0 jn_me164 93 (.inl (jn_iinc 4 1))) <|
  jn_cons (⟨jn_goto_ok (t := 71) (off := -25) (by decide +kernel) (by decide), jn_goto_mo 71⟩ : jn_GEm jn_G0 jn_me164 96 (.inl (jn_goto 71))) <|
  jn_cons (⟨jn_iconst_ok (by decide +kernel), jn_iconst_mo 0⟩ : jn_GEm jn_G0 jn_me164 99 (.inl (jn_iconst 0))) <|
  jn_cons (⟨jn_istore_ok (i := 4) (by decide +kernel), jn_istore_mo 4⟩ : jn_GEm jn_G0 jn_me164 100 (.inl (jn_istore 4))) <|
  jn_cons (⟨jn_iload_ok (i := 4) (by decide +kernel), jn_iload_mo 4⟩ : jn_GEm jn_G0 jn_me164 102 (.inl (jn_iload 4))) <|
  jn_cons (⟨jn_iload_n_ok (i := 3) (k := 3) (by decide +kernel) rfl, jn_iload_n_mo 3⟩ : jn_GEm jn_G0 jn_me164 104 (.inl (jn_iload_n 3))) <|
  jn_cons (⟨jn_icge_ok (t := 130) (off := 25) (by decide +kernel) (by decide), jn_icge_mo 130⟩ : jn_GEm jn_G0 jn_me164 105 (.inl (jn_icge 130))) <|
  jn_cons (⟨jn_aload_n_ok (i := 0) (k := 0) (by decide +kernel) rfl, jn_aload_n_mo 0⟩ : jn_GEm jn_G0 jn_me164 108 (.inl (jn_aload_n 0))) <|
  jn_cons (⟨jn_getf_ok (ci := 7) (k := 19) (i := 63) (N := 22) (C := RX7) (T := TX7) (by decide +kernel) rfl (by decide) jn_u7 (jn_in 634 (by decide +kernel) rfl), jn_getf_mo 7 19⟩ : jn_GEm jn_G0 jn_me164 109 (.inl (jn_getf 7 19))) <|
  jn_cons (⟨jn_iload_n_ok (i := 2) (k := 2) (by decide +kernel) rfl, jn_iload_n_mo 2⟩ : jn_GEm jn_G0 jn_me164 112 (.inl (jn_iload_n 2))) <|
  jn_cons (⟨jn_iload_ok (i := 4) (by decide +kernel), jn_iload_mo 4⟩ : jn_GEm jn_G0 jn_me164 113 (.inl (jn_iload 4))) <|
  jn_cons (⟨jn_iadd_ok (by decide +kernel), jn_iadd_mo⟩ : jn_GEm jn_G0 jn_me164 115 (.inl jn_iadd)) <|
  jn_cons (⟨jn_aload_n_ok (i := 0) (k := 0) (by decide +kernel) rfl, jn_aload_n_mo 0⟩ : jn_GEm jn_G0 jn_me164 116 (.inl (jn_aload_n 0))) <|
  jn_cons (⟨jn_getf_ok (ci := 7) (k := 20) (i := 66) (N := 22) (C := RX7) (T := TX7) (by decide +kernel) rfl (by decide) jn_u7 (jn_in 635 (by decide +kernel) rfl), jn_getf_mo 7 20⟩ : jn_GEm jn_G0 jn_me164 117 (.inl (jn_getf 7 20))) <|
  jn_cons (⟨jn_iload_ok (i := 4) (by decide +kernel), jn_iload_mo 4⟩ : jn_GEm jn_G0 jn_me164 120 (.inl (jn_iload 4))) <|
  jn_cons (⟨jn_iaload_ok (by decide +kernel), jn_iaload_mo⟩ : jn_GEm jn_G0 jn_me164 122 (.inl jn_iaload)) <| jn_nil
theorem jn_o164_3 : ∀ q ∈ jn_c164_3, jn_GEm jn_G0 jn_me164 q.1 q.2 :=
  jn_cons (⟨jn_iastore_ok (by decide +kernel), jn_iastore_mo⟩ : jn_GEm jn_G0 jn_me164 123 (.inl jn_iastore)) <|
  jn_cons (⟨jn_iinc_ok (i := 4) (n := 1) (by decide +kernel), jn_iinc_mo 4 1⟩ : jn_GEm jn_G0 jn_me164 124 (.inl (jn_iinc 4 1))) <|
  jn_cons (⟨jn_goto_ok (t := 102) (off := -25) (by decide +kernel) (by decide), jn_goto_mo 102⟩ : jn_GEm jn_G0 jn_me164 127 (.inl (jn_goto 102))) <|
  jn_cons (⟨jn_iload_n_ok (i := 3) (k := 3) (by decide +kernel) rfl, jn_iload_n_mo 3⟩ : jn_GEm jn_G0 jn_me164 130 (.inl (jn_iload_n 3))) <|
  jn_cons (⟨(by decide +kernel), rfl⟩ : jn_GEm jn_G0 jn_me164 131 (.inr (.inr 1))) <| jn_nil
theorem jn_ok164 : jn_GM jn_G0 164 := jn_GM_of jn_G0_164 rfl rfl (by decide +kernel) (by decide) (jn_appd jn_o164_0 (jn_appd jn_o164_1 (jn_appd jn_o164_2 (jn_o164_3))))
theorem jn_o165_0 : ∀ q ∈ jn_c165_0, jn_GEm jn_G0 jn_me165 q.1 q.2 :=
  jn_cons (⟨jn_iload_n_ok (i := 1) (k := 1) (by decide +kernel) rfl, jn_iload_n_mo 1⟩ : jn_GEm jn_G0 jn_me165 0 (.inl (jn_iload_n 1))) <|
  jn_cons (⟨jn_i2l_ok (by decide +kernel), jn_i2l_mo⟩ : jn_GEm jn_G0 jn_me165 1 (.inl jn_i2l)) <|
  jn_cons (⟨jn_ldc2_ok (i := 229) (v := (-9)) (by decide +kernel) (jn_in 978 (by decide +kernel) rfl), jn_ldc2_mo (-9)⟩ : jn_GEm jn_G0 jn_me165 2 (.inl (jn_ldc2 (-9)))) <|
  jn_cons (⟨jn_ldc2_ok (i := 231) (v := (-2)) (by decide +kernel) (jn_in 979 (by decide +kernel) rfl), jn_ldc2_mo (-2)⟩ : jn_GEm jn_G0 jn_me165 5 (.inl (jn_ldc2 (-2)))) <|
  jn_cons (jn_gc_of jn_G0_94 (jn_callS (i := 89) (na := 3) (by decide +kernel) (jn_in 690 (by decide +kernel) rfl) (jn_in 688 (by decide +kernel) rfl) (jn_in 689 (by decide +kernel) rfl) (jn_in 60 (by decide +kernel) rfl) ⟨by decide, by decide, by decide +kernel⟩) : jn_GEm jn_G0 jn_me165 8 (.inr (.inl (94, 0, 3)))) <|
  jn_cons (⟨jn_ifeq_ok (t := 24) (off := 13) (by decide +kernel) (by decide), jn_ifeq_mo 24⟩ : jn_GEm jn_G0 jn_me165 11 (.inl (jn_ifeq 24))) <|
  jn_cons (⟨jn_aload_n_ok (i := 0) (k := 0) (by decide +kernel) rfl, jn_aload_n_mo 0⟩ : jn_GEm jn_G0 jn_me165 14 (.inl (jn_aload_n 0))) <|
  jn_cons (⟨jn_getf_ok (ci := 7) (k := 6) (i := 22) (N := 22) (C := RX7) (T := TX7) (by decide +kernel) rfl (by decide) jn_u7 (jn_in 621 (by decide +kernel) rfl), jn_getf_mo 7 6⟩ : jn_GEm jn_G0 jn_me165 15 (.inl (jn_getf 7 6))) <|
  jn_cons (⟨jn_iload_n_ok (i := 1) (k := 1) (by decide +kernel) rfl, jn_iload_n_mo 1⟩ : jn_GEm jn_G0 jn_me165 18 (.inl (jn_iload_n 1))) <|
  jn_cons (⟨jn_ineg_ok (by decide +kernel), jn_ineg_mo⟩ : jn_GEm jn_G0 jn_me165 19 (.inl jn_ineg)) <|
  jn_cons (⟨jn_iaload_ok (by decide +kernel), jn_iaload_mo⟩ : jn_GEm jn_G0 jn_me165 20 (.inl jn_iaload)) <|
  jn_cons (⟨jn_goto_ok (t := 30) (off := 9) (by decide +kernel) (by decide), jn_goto_mo 30⟩ : jn_GEm jn_G0 jn_me165 21 (.inl (jn_goto 30))) <|
  jn_cons (⟨jn_aload_n_ok (i := 0) (k := 0) (by decide +kernel) rfl, jn_aload_n_mo 0⟩ : jn_GEm jn_G0 jn_me165 24 (.inl (jn_aload_n 0))) <|
  jn_cons (⟨jn_bipush_ok (n := (-7)) (v := (-7)) (by decide +kernel) (by decide), jn_bipush_mo (-7)⟩ : jn_GEm jn_G0 jn_me165 25 (.inl (jn_bipush (-7)))) <|
  jn_cons (jn_gc_of jn_G0_95 (jn_callV (i := 73) (na := 1) (ci := 7) (q := (RX7, TX7, 22)) (by decide +kernel) rfl (jn_in 694 (by decide +kernel) rfl) (jn_in 691 (by decide +kernel) rfl) (jn_in 693 (by decide +kernel) rfl) (jn_in 19 (by decide +kernel) rfl) (jn_in 60 (by decide +kernel) rfl) ⟨by decide, by decide, by decide +kernel⟩) : jn_GEm jn_G0 jn_me165 27 (.inr (.inl (95, 9, 2)))) <|
  jn_cons (⟨(by decide +kernel), rfl⟩ : jn_GEm jn_G0 jn_me165 30 (.inr (.inr 1))) <| jn_nil
theorem jn_ok165 : jn_GM jn_G0 165 := jn_GM_of jn_G0_165 rfl rfl (by decide +kernel) (by decide) (jn_o165_0)
theorem jn_o166_0 : ∀ q ∈ jn_c166_0, jn_GEm jn_G0 jn_me166 q.1 q.2 :=
  jn_cons (⟨jn_iload_n_ok (i := 0) (k := 0) (by decide +kernel) rfl, jn_iload_n_mo 0⟩ : jn_GEm jn_G0 jn_me166 0 (.inl (jn_iload_n 0))) <|
  jn_cons (⟨jn_iload_n_ok (i := 0) (k := 0) (by decide +kernel) rfl, jn_iload_n_mo 0⟩ : jn_GEm jn_G0 jn_me166 1 (.inl (jn_iload_n 0))) <|
  jn_cons (⟨jn_iconst_ok (by decide +kernel), jn_iconst_mo 1⟩ : jn_GEm jn_G0 jn_me166 2 (.inl (jn_iconst 1))) <|
  jn_cons (⟨jn_iushr_ok (by decide +kernel), jn_iushr_mo⟩ : jn_GEm jn_G0 jn_me166 3 (.inl jn_iushr)) <|
  jn_cons (⟨jn_ldcw_ok (i := 265) (v := 1431655765) (by decide +kernel) (jn_in 337 (by decide +kernel) rfl), jn_ldcw_mo 1431655765⟩ : jn_GEm jn_G0 jn_me166 4 (.inl (jn_ldcw 1431655765))) <|
  jn_cons (⟨jn_iand_ok (by decide +kernel), jn_iand_mo⟩ : jn_GEm jn_G0 jn_me166 7 (.inl jn_iand)) <|
  jn_cons (⟨jn_isub_ok (by decide +kernel), jn_isub_mo⟩ : jn_GEm jn_G0 jn_me166 8 (.inl jn_isub)) <|
  jn_cons (⟨jn_istore_n_ok (i := 0) (k := 0) (by decide +kernel) rfl, jn_istore_n_mo 0⟩ : jn_GEm jn_G0 jn_me166 9 (.inl (jn_istore_n 0))) <|
  jn_cons (⟨jn_iload_n_ok (i := 0) (k := 0) (by decide +kernel) rfl, jn_iload_n_mo 0⟩ : jn_GEm jn_G0 jn_me166 10 (.inl (jn_iload_n 0))) <|
  jn_cons (⟨jn_ldcw_ok (i := 266) (v := 858993459) (by decide +kernel) (jn_in 338 (by decide +kernel) rfl), jn_ldcw_mo 858993459⟩ : jn_GEm jn_G0 jn_me166 11 (.inl (jn_ldcw 858993459))) <|
  jn_cons (⟨jn_iand_ok (by decide +kernel), jn_iand_mo⟩ : jn_GEm jn_G0 jn_me166 14 (.inl jn_iand)) <|
  jn_cons (⟨jn_iload_n_ok (i := 0) (k := 0) (by decide +kernel) rfl, jn_iload_n_mo 0⟩ : jn_GEm jn_G0 jn_me166 15 (.inl (jn_iload_n 0))) <|
  jn_cons (⟨jn_iconst_ok (by decide +kernel), jn_iconst_mo 2⟩ : jn_GEm jn_G0 jn_me166 16 (.inl (jn_iconst 2))) <|
  jn_cons (⟨jn_iushr_ok (by decide +kernel), jn_iushr_mo⟩ : jn_GEm jn_G0 jn_me166 17 (.inl jn_iushr)) <|
  jn_cons (⟨jn_ldcw_ok (i := 266) (v := 858993459) (by decide +kernel) (jn_in 338 (by decide +kernel) rfl), jn_ldcw_mo 858993459⟩ : jn_GEm jn_G0 jn_me166 18 (.inl (jn_ldcw 858993459))) <|
  jn_cons (⟨jn_iand_ok (by decide +kernel), jn_iand_mo⟩ : jn_GEm jn_G0 jn_me166 21 (.inl jn_iand)) <|
  jn_cons (⟨jn_iadd_ok (by decide +kernel), jn_iadd_mo⟩ : jn_GEm jn_G0 jn_me166 22 (.inl jn_iadd)) <|
  jn_cons (⟨jn_istore_n_ok (i := 0) (k := 0) (by decide +kernel) rfl, jn_istore_n_mo 0⟩ : jn_GEm jn_G0 jn_me166 23 (.inl (jn_istore_n 0))) <|
  jn_cons (⟨jn_iload_n_ok (i := 0) (k := 0) (by decide +kernel) rfl, jn_iload_n_mo 0⟩ : jn_GEm jn_G0 jn_me166 24 (.inl (jn_iload_n 0))) <|
  jn_cons (⟨jn_iload_n_ok (i := 0) (k := 0) (by decide +kernel) rfl, jn_iload_n_mo 0⟩ : jn_GEm jn_G0 jn_me166 25 (.inl (jn_iload_n 0))) <|
  jn_cons (⟨jn_iconst_ok (by decide +kernel), jn_iconst_mo 4⟩ : jn_GEm jn_G0 jn_me166 26 (.inl (jn_iconst 4))) <|
  jn_cons (⟨jn_iushr_ok (by decide +kernel), jn_iushr_mo⟩ : jn_GEm jn_G0 jn_me166 27 (.inl jn_iushr)) <|
  jn_cons (⟨jn_iadd_ok (by decide +kernel), jn_iadd_mo⟩ : jn_GEm jn_G0 jn_me166 28 (.inl jn_iadd)) <|
  jn_cons (⟨jn_ldcw_ok (i := 267) (v := 252645135) (by decide +kernel) (jn_in 339 (by decide +kernel) rfl), jn_ldcw_mo 252645135⟩ : jn_GEm jn_G0 jn_me166 29 (.inl (jn_ldcw 252645135))) <| jn_nil
theorem jn_o166_1 : ∀ q ∈ jn_c166_1, jn_GEm jn_G0 jn_me166 q.1 q.2 :=
  jn_cons (⟨jn_iand_ok (by decide +kernel), jn_iand_mo⟩ : jn_GEm jn_G0 jn_me166 32 (.inl jn_iand)) <|
  jn_cons (⟨jn_istore_n_ok (i := 0) (k := 0) (by decide +kernel) rfl, jn_istore_n_mo 0⟩ : jn_GEm jn_G0 jn_me166 33 (.inl (jn_istore_n 0))) <|
  jn_cons (⟨jn_iload_n_ok (i := 0) (k := 0) (by decide +kernel) rfl, jn_iload_n_mo 0⟩ : jn_GEm jn_G0 jn_me166 34 (.inl (jn_iload_n 0))) <|
  jn_cons (⟨jn_iload_n_ok (i := 0) (k := 0) (by decide +kernel) rfl, jn_iload_n_mo 0⟩ : jn_GEm jn_G0 jn_me166 35 (.inl (jn_iload_n 0))) <|
  jn_cons (⟨jn_bipush_ok (n := 8) (v := 8) (by decide +kernel) (by decide), jn_bipush_mo 8⟩ : jn_GEm jn_G0 jn_me166 36 (.inl (jn_bipush 8))) <|
  jn_cons (⟨jn_iushr_ok (by decide +kernel), jn_iushr_mo⟩ : jn_GEm jn_G0 jn_me166 38 (.inl jn_iushr)) <|
  jn_cons (⟨jn_iadd_ok (by decide +kernel), jn_iadd_mo⟩ : jn_GEm jn_G0 jn_me166 39 (.inl jn_iadd)) <|
  jn_cons (⟨jn_istore_n_ok (i := 0) (k := 0) (by decide +kernel) rfl, jn_istore_n_mo 0⟩ : jn_GEm jn_G0 jn_me166 40 (.inl (jn_istore_n 0))) <|
  jn_cons (⟨jn_iload_n_ok (i := 0) (k := 0) (by decide +kernel) rfl, jn_iload_n_mo 0⟩ : jn_GEm jn_G0 jn_me166 41 (.inl (jn_iload_n 0))) <|
  jn_cons (⟨jn_iload_n_ok (i := 0) (k := 0) (by decide +kernel) rfl, jn_iload_n_mo 0⟩ : jn_GEm jn_G0 jn_me166 42 (.inl (jn_iload_n 0))) <|
  jn_cons (⟨jn_bipush_ok (n := 16) (v := 16) (by decide +kernel) (by decide), jn_bipush_mo 16⟩ : jn_GEm jn_G0 jn_me166 43 (.inl (jn_bipush 16))) <|
  jn_cons (⟨jn_iushr_ok (by decide +kernel), jn_iushr_mo⟩ : jn_GEm jn_G0 jn_me166 45 (.inl jn_iushr)) <|
  jn_cons (⟨jn_iadd_ok (by decide +kernel), jn_iadd_mo⟩ : jn_GEm jn_G0 jn_me166 46 (.inl jn_iadd)) <|
  jn_cons (⟨jn_istore_n_ok (i := 0) (k := 0) (by decide +kernel) rfl, jn_istore_n_mo 0⟩ : jn_GEm jn_G0 jn_me166 47 (.inl (jn_istore_n 0))) <|
  jn_cons (⟨jn_iload_n_ok (i := 0) (k := 0) (by decide +kernel) rfl, jn_iload_n_mo 0⟩ : jn_GEm jn_G0 jn_me166 48 (.inl (jn_iload_n 0))) <|
  jn_cons (⟨jn_bipush_ok (n := 63) (v := 63) (by decide +kernel) (by decide), jn_bipush_mo 63⟩ : jn_GEm jn_G0 jn_me166 49 (.inl (jn_bipush 63))) <|
  jn_cons (⟨jn_iand_ok (by decide +kernel), jn_iand_mo⟩ : jn_GEm jn_G0 jn_me166 51 (.inl jn_iand)) <|
  jn_cons (⟨(by decide +kernel), rfl⟩ : jn_GEm jn_G0 jn_me166 52 (.inr (.inr 1))) <| jn_nil
theorem jn_ok166 : jn_GM jn_G0 166 := jn_GM_of jn_G0_166 rfl rfl (by decide +kernel) (by decide) (jn_appd jn_o166_0 (jn_o166_1))
theorem jn_o167_0 : ∀ q ∈ jn_c167_0, jn_GEm jn_G0 jn_me167 q.1 q.2 :=
  jn_cons (⟨jn_iload_n_ok (i := 0) (k := 0) (by decide +kernel) rfl, jn_iload_n_mo 0⟩ : jn_GEm jn_G0 jn_me167 0 (.inl (jn_iload_n 0))) <|
  jn_cons (⟨jn_iload_n_ok (i := 1) (k := 1) (by decide +kernel) rfl, jn_iload_n_mo 1⟩ : jn_GEm jn_G0 jn_me167 1 (.inl (jn_iload_n 1))) <|
  jn_cons (⟨jn_idiv_ok (by decide +kernel), jn_idiv_mo⟩ : jn_GEm jn_G0 jn_me167 2 (.inl jn_idiv)) <|
  jn_cons (⟨jn_istore_n_ok (i := 2) (k := 2) (by decide +kernel) rfl, jn_istore_n_mo 2⟩ : jn_GEm jn_G0 jn_me167 3 (.inl (jn_istore_n 2))) <|
  jn_cons (⟨jn_iload_n_ok (i := 0) (k := 0) (by decide +kernel) rfl, jn_iload_n_mo 0⟩ : jn_GEm jn_G0 jn_me167 4 (.inl (jn_iload_n 0))) <|
  jn_cons (⟨jn_iload_n_ok (i := 1) (k := 1) (by decide +kernel) rfl, jn_iload_n_mo 1⟩ : jn_GEm jn_G0 jn_me167 5 (.inl (jn_iload_n 1))) <|
  jn_cons (⟨jn_ixor_ok (by decide +kernel), jn_ixor_mo⟩ : jn_GEm jn_G0 jn_me167 6 (.inl jn_ixor)) <|
  jn_cons (⟨jn_ifge_ok (t := 21) (off := 14) (by decide +kernel) (by decide), jn_ifge_mo 21⟩ : jn_GEm jn_G0 jn_me167 7 (.inl (jn_ifge 21))) <|
  jn_cons (⟨jn_iload_n_ok (i := 2) (k := 2) (by decide +kernel) rfl, jn_iload_n_mo 2⟩ : jn_GEm jn_G0 jn_me167 10 (.inl (jn_iload_n 2))) <|
  jn_cons (⟨jn_iload_n_ok (i := 1) (k := 1) (by decide +kernel) rfl, jn_iload_n_mo 1⟩ : jn_GEm jn_G0 jn_me167 11 (.inl (jn_iload_n 1))) <|
  jn_cons (⟨jn_imul_ok (by decide +kernel), jn_imul_mo⟩ : jn_GEm jn_G0 jn_me167 12 (.inl jn_imul)) <|
  jn_cons (⟨jn_iload_n_ok (i := 0) (k := 0) (by decide +kernel) rfl, jn_iload_n_mo 0⟩ : jn_GEm jn_G0 jn_me167 13 (.inl (jn_iload_n 0))) <|
  jn_cons (⟨jn_iceq_ok (t := 21) (off := 7) (by decide +kernel) (by decide), jn_iceq_mo 21⟩ : jn_GEm jn_G0 jn_me167 14 (.inl (jn_iceq 21))) <|
  jn_cons (⟨jn_iload_n_ok (i := 2) (k := 2) (by decide +kernel) rfl, jn_iload_n_mo 2⟩ : jn_GEm jn_G0 jn_me167 17 (.inl (jn_iload_n 2))) <|
  jn_cons (⟨jn_iconst_ok (by decide +kernel), jn_iconst_mo 1⟩ : jn_GEm jn_G0 jn_me167 18 (.inl (jn_iconst 1))) <|
  jn_cons (⟨jn_isub_ok (by decide +kernel), jn_isub_mo⟩ : jn_GEm jn_G0 jn_me167 19 (.inl jn_isub)) <|
  jn_cons (⟨(by decide +kernel), rfl⟩ : jn_GEm jn_G0 jn_me167 20 (.inr (.inr 1))) <|
  jn_cons (⟨jn_iload_n_ok (i := 2) (k := 2) (by decide +kernel) rfl, jn_iload_n_mo 2⟩ : jn_GEm jn_G0 jn_me167 21 (.inl (jn_iload_n 2))) <|
  jn_cons (⟨(by decide +kernel), rfl⟩ : jn_GEm jn_G0 jn_me167 22 (.inr (.inr 1))) <| jn_nil
theorem jn_ok167 : jn_GM jn_G0 167 := jn_GM_of jn_G0_167 rfl rfl (by decide +kernel) (by decide) (jn_o167_0)
theorem jn_o168_0 : ∀ q ∈ jn_c168_0, jn_GEm jn_G0 jn_me168 q.1 q.2 :=
  jn_cons (⟨jn_lload_n_ok (i := 0) (k := 0) (by decide +kernel) rfl, jn_lload_n_mo 0⟩ : jn_GEm jn_G0 jn_me168 0 (.inl (jn_lload_n 0))) <|
  jn_cons (⟨jn_lload_n_ok (i := 2) (k := 2) (by decide +kernel) rfl, jn_lload_n_mo 2⟩ : jn_GEm jn_G0 jn_me168 1 (.inl (jn_lload_n 2))) <|
  jn_cons (⟨jn_ldiv_ok (by decide +kernel), jn_ldiv_mo⟩ : jn_GEm jn_G0 jn_me168 2 (.inl jn_ldiv)) <|
  jn_cons (⟨jn_lstore_ok (i := 4) (by decide +kernel), jn_lstore_mo 4⟩ : jn_GEm jn_G0 jn_me168 3 (.inl (jn_lstore 4))) <|
  jn_cons (⟨jn_lload_n_ok (i := 0) (k := 0) (by decide +kernel) rfl, jn_lload_n_mo 0⟩ : jn_GEm jn_G0 jn_me168 5 (.inl (jn_lload_n 0))) <|
  jn_cons (⟨jn_lload_n_ok (i := 2) (k := 2) (by decide +kernel) rfl, jn_lload_n_mo 2⟩ : jn_GEm jn_G0 jn_me168 6 (.inl (jn_lload_n 2))) <|
  jn_cons (⟨jn_lxor_ok (by decide +kernel), jn_lxor_mo⟩ : jn_GEm jn_G0 jn_me168 7 (.inl jn_lxor)) <|
  jn_cons (⟨jn_lconst_ok (n := 0) (v := 0) (by decide +kernel) (by decide), jn_lconst_mo 0⟩ : jn_GEm jn_G0 jn_me168 8 (.inl (jn_lconst 0))) <|
  jn_cons (⟨jn_lcmp_ok (by decide +kernel), jn_lcmp_mo⟩ : jn_GEm jn_G0 jn_me168 9 (.inl jn_lcmp)) <|
  jn_cons (⟨jn_ifge_ok (t := 27) (off := 17) (by decide +kernel) (by decide), jn_ifge_mo 27⟩ : jn_GEm jn_G0 jn_me168 10 (.inl (jn_ifge 27))) <|
  jn_cons (⟨jn_lload_ok (i := 4) (by decide +kernel), jn_lload_mo 4⟩ : jn_GEm jn_G0 jn_me168 13 (.inl (jn_lload 4))) <|
  jn_cons (⟨jn_lload_n_ok (i := 2) (k := 2) (by decide +kernel) rfl, jn_lload_n_mo 2⟩ : jn_GEm jn_G0 jn_me168 15 (.inl (jn_lload_n 2))) <|
  jn_cons (⟨jn_lmul_ok (by decide +kernel), jn_lmul_mo⟩ : jn_GEm jn_G0 jn_me168 16 (.inl jn_lmul)) <|
  jn_cons (⟨jn_lload_n_ok (i := 0) (k := 0) (by decide +kernel) rfl, jn_lload_n_mo 0⟩ : jn_GEm jn_G0 jn_me168 17 (.inl (jn_lload_n 0))) <|
  jn_cons (⟨jn_lcmp_ok (by decide +kernel), jn_lcmp_mo⟩ : jn_GEm jn_G0 jn_me168 18 (.inl jn_lcmp)) <|
  jn_cons (⟨jn_ifeq_ok (t := 27) (off := 8) (by decide +kernel) (by decide), jn_ifeq_mo 27⟩ : jn_GEm jn_G0 jn_me168 19 (.inl (jn_ifeq 27))) <|
  jn_cons (⟨jn_lload_ok (i := 4) (by decide +kernel), jn_lload_mo 4⟩ : jn_GEm jn_G0 jn_me168 22 (.inl (jn_lload 4))) <|
  jn_cons (⟨jn_lconst_ok (n := 1) (v := 1) (by decide +kernel) (by decide), jn_lconst_mo 1⟩ : jn_GEm jn_G0 jn_me168 24 (.inl (jn_lconst 1))) <|
  jn_cons (⟨jn_lsub_ok (by decide +kernel), jn_lsub_mo⟩ : jn_GEm jn_G0 jn_me168 25 (.inl jn_lsub)) <|
  jn_cons (⟨(by decide +kernel), rfl⟩ : jn_GEm jn_G0 jn_me168 26 (.inr (.inr 3))) <|
  jn_cons (⟨jn_lload_ok (i := 4) (by decide +kernel), jn_lload_mo 4⟩ : jn_GEm jn_G0 jn_me168 27 (.inl (jn_lload 4))) <|
  jn_cons (⟨(by decide +kernel), rfl⟩ : jn_GEm jn_G0 jn_me168 29 (.inr (.inr 3))) <| jn_nil
theorem jn_ok168 : jn_GM jn_G0 168 := jn_GM_of jn_G0_168 rfl rfl (by decide +kernel) (by decide) (jn_o168_0)
theorem jn_o169_0 : ∀ q ∈ jn_c169_0, jn_GEm jn_G0 jn_me169 q.1 q.2 :=
  jn_cons (⟨jn_lload_n_ok (i := 0) (k := 0) (by decide +kernel) rfl, jn_lload_n_mo 0⟩ : jn_GEm jn_G0 jn_me169 0 (.inl (jn_lload_n 0))) <|
  jn_cons (⟨jn_lconst_ok (n := 0) (v := 0) (by decide +kernel) (by decide), jn_lconst_mo 0⟩ : jn_GEm jn_G0 jn_me169 1 (.inl (jn_lconst 0))) <|
  jn_cons (⟨jn_lcmp_ok (by decide +kernel), jn_lcmp_mo⟩ : jn_GEm jn_G0 jn_me169 2 (.inl jn_lcmp)) <|
  jn_cons (⟨jn_ifge_ok (t := 11) (off := 8) (by decide +kernel) (by decide), jn_ifge_mo 11⟩ : jn_GEm jn_G0 jn_me169 3 (.inl (jn_ifge 11))) <|
  jn_cons (⟨jn_lload_n_ok (i := 0) (k := 0) (by decide +kernel) rfl, jn_lload_n_mo 0⟩ : jn_GEm jn_G0 jn_me169 6 (.inl (jn_lload_n 0))) <|
  jn_cons (⟨jn_lneg_ok (by decide +kernel), jn_lneg_mo⟩ : jn_GEm jn_G0 jn_me169 7 (.inl jn_lneg)) <|
  jn_cons (⟨jn_goto_ok (t := 12) (off := 4) (by decide +kernel) (by decide), jn_goto_mo 12⟩ : jn_GEm jn_G0 jn_me169 8 (.inl (jn_goto 12))) <|
  jn_cons (⟨jn_lload_n_ok (i := 0) (k := 0) (by decide +kernel) rfl, jn_lload_n_mo 0⟩ : jn_GEm jn_G0 jn_me169 11 (.inl (jn_lload_n 0))) <|
  jn_cons (⟨(by decide +kernel), rfl⟩ : jn_GEm jn_G0 jn_me169 12 (.inr (.inr 3))) <| jn_nil
theorem jn_ok169 : jn_GM jn_G0 169 := jn_GM_of jn_G0_169 rfl rfl (by decide +kernel) (by decide) (jn_o169_0)
theorem jn_o170_0 : ∀ q ∈ jn_c170_0, jn_GEm jn_G0 jn_me170 q.1 q.2 :=
  jn_cons (⟨jn_iload_n_ok (i := 0) (k := 0) (by decide +kernel) rfl, jn_iload_n_mo 0⟩ : jn_GEm jn_G0 jn_me170 0 (.inl (jn_iload_n 0))) <|
  jn_cons (⟨jn_iload_n_ok (i := 1) (k := 1) (by decide +kernel) rfl, jn_iload_n_mo 1⟩ : jn_GEm jn_G0 jn_me170 1 (.inl (jn_iload_n 1))) <|
  jn_cons (⟨jn_icgt_ok (t := 9) (off := 7) (by decide +kernel) (by decide), jn_icgt_mo 9⟩ : jn_GEm jn_G0 jn_me170 2 (.inl (jn_icgt 9))) <|
  jn_cons (⟨jn_iload_n_ok (i := 0) (k := 0) (by decide +kernel) rfl, jn_iload_n_mo 0⟩ : jn_GEm jn_G0 jn_me170 5 (.inl (jn_iload_n 0))) <|
  jn_cons (⟨jn_goto_ok (t := 10) (off := 4) (by decide +kernel) (by decide), jn_goto_mo 10⟩ : jn_GEm jn_G0 jn_me170 6 (.inl (jn_goto 10))) <|
  jn_cons (⟨jn_iload_n_ok (i := 1) (k := 1) (by decide +kernel) rfl, jn_iload_n_mo 1⟩ : jn_GEm jn_G0 jn_me170 9 (.inl (jn_iload_n 1))) <|
  jn_cons (⟨(by decide +kernel), rfl⟩ : jn_GEm jn_G0 jn_me170 10 (.inr (.inr 1))) <| jn_nil
theorem jn_ok170 : jn_GM jn_G0 170 := jn_GM_of jn_G0_170 rfl rfl (by decide +kernel) (by decide) (jn_o170_0)
theorem jn_o171_0 : ∀ q ∈ jn_c171_0, jn_GEm jn_G0 jn_me171 q.1 q.2 :=
  jn_cons (⟨jn_new_ok (ci := 6) (i := 7) (N := 11) (fs := [.null, .int 0, .null, .int 0, .null, .int 0, .null, .null, .null, .null, .null]) (C := RX6) (T := TX6) (ty0 := tyX6) (by decide +kernel) rfl jn_u6 tyX6_ok (jn_in 65 (by decide +kernel) rfl) (jn_in 66 (by decide +kernel) rfl) (jn_in 54 (by decide +kernel) rfl) (by decide +kernel), jn_new_mo 6 11 [.null, .int 0, .null, .int 0, .null, .int 0, .null, .null, .null, .null, .null]⟩ : jn_GEm jn_G0 jn_me171 0 (.inl (jn_new 6 11 [.null, .int 0, .null, .int 0, .null, .int 0, .null, .null, .null, .null, .null]))) <|
  jn_cons (⟨jn_dup_ok (by decide +kernel), jn_dup_mo⟩ : jn_GEm jn_G0 jn_me171 3 (.inl jn_dup)) <|
  jn_cons (jn_gc_of jn_G0_45 (jn_callI (i := 9) (na := 0) (by decide +kernel) rfl (jn_in 69 (by decide +kernel) rfl) (jn_in 67 (by decide +kernel) rfl) (jn_in 68 (by decide +kernel) rfl) (jn_in 54 (by decide +kernel) rfl) rfl ⟨by decide, by decide, by decide +kernel⟩) : jn_GEm jn_G0 jn_me171 4 (.inr (.inl (45, 1, 1)))) <|
  jn_cons (⟨jn_astore_n_ok (i := 1) (k := 1) (by decide +kernel) rfl, jn_astore_n_mo 1⟩ : jn_GEm jn_G0 jn_me171 7 (.inl (jn_astore_n 1))) <|
  jn_cons (⟨jn_new_ok (ci := 7) (i := 10) (N := 22) (fs := [.null, .null, .int 0, .int 0, .null, .null, .null, .null, .null, .null, .null, .null, .null, .null, .null, .null, .null, .null, .null, .null, .null, .int 0]) (C := RX7) (T := TX7) (ty0 := tyX7) (by decide +kernel) rfl jn_u7 tyX7_ok (jn_in 609 (by decide +kernel) rfl) (jn_in 610 (by decide +kernel) rfl) (jn_in 60 (by decide +kernel) rfl) (by decide +kernel), jn_new_mo 7 22 [.null, .null, .int 0, .int 0, .null, .null, .null, .null, .null, .null, .null, .null, .null, .null, .null, .null, .null, .null, .null, .null, .null, .int 0]⟩ : jn_GEm jn_G0 jn_me171 8 (.inl (jn_new 7 22 [.null, .null, .int 0, .int 0, .null, .null, .null, .null, .null, .null, .null, .null, .null, .null, .null, .null, .null, .null, .null, .null, .null, .int 0]))) <|
  jn_cons (⟨jn_dup_ok (by decide +kernel), jn_dup_mo⟩ : jn_GEm jn_G0 jn_me171 11 (.inl jn_dup)) <|
  jn_cons (jn_gc_of jn_G0_93 (jn_callI (i := 12) (na := 0) (by decide +kernel) rfl (jn_in 613 (by decide +kernel) rfl) (jn_in 611 (by decide +kernel) rfl) (jn_in 612 (by decide +kernel) rfl) (jn_in 60 (by decide +kernel) rfl) rfl ⟨by decide, by decide, by decide +kernel⟩) : jn_GEm jn_G0 jn_me171 12 (.inr (.inl (93, 1, 1)))) <|
  jn_cons (⟨jn_astore_n_ok (i := 2) (k := 2) (by decide +kernel) rfl, jn_astore_n_mo 2⟩ : jn_GEm jn_G0 jn_me171 15 (.inl (jn_astore_n 2))) <|
  jn_cons (⟨jn_iconst_ok (by decide +kernel), jn_iconst_mo 0⟩ : jn_GEm jn_G0 jn_me171 16 (.inl (jn_iconst 0))) <|
  jn_cons (⟨jn_istore_n_ok (i := 3) (k := 3) (by decide +kernel) rfl, jn_istore_n_mo 3⟩ : jn_GEm jn_G0 jn_me171 17 (.inl (jn_istore_n 3))) <|
  jn_cons (⟨jn_iload_n_ok (i := 3) (k := 3) (by decide +kernel) rfl, jn_iload_n_mo 3⟩ : jn_GEm jn_G0 jn_me171 18 (.inl (jn_iload_n 3))) <|
  jn_cons (⟨jn_aload_n_ok (i := 0) (k := 0) (by decide +kernel) rfl, jn_aload_n_mo 0⟩ : jn_GEm jn_G0 jn_me171 19 (.inl (jn_aload_n 0))) <|
  jn_cons (⟨jn_slen_ok (by decide +kernel), jn_slen_mo⟩ : jn_GEm jn_G0 jn_me171 20 (.inl jn_slen)) <|
  jn_cons (⟨jn_iconst_ok (by decide +kernel), jn_iconst_mo 5⟩ : jn_GEm jn_G0 jn_me171 21 (.inl (jn_iconst 5))) <|
  jn_cons (⟨jn_isub_ok (by decide +kernel), jn_isub_mo⟩ : jn_GEm jn_G0 jn_me171 22 (.inl jn_isub)) <|
  jn_cons (⟨jn_icgt_ok (t := 1258) (off := 1235) (by decide +kernel) (by decide), jn_icgt_mo 1258⟩ : jn_GEm jn_G0 jn_me171 23 (.inl (jn_icgt 1258))) <|
  jn_cons (⟨jn_aload_n_ok (i := 0) (k := 0) (by decide +kernel) rfl, jn_aload_n_mo 0⟩ : jn_GEm jn_G0 jn_me171 26 (.inl (jn_aload_n 0))) <|
  jn_cons (⟨jn_iload_n_ok (i := 3) (k := 3) (by decide +kernel) rfl, jn_iload_n_mo 3⟩ : jn_GEm jn_G0 jn_me171 27 (.inl (jn_iload_n 3))) <|
  jn_cons (⟨jn_iaload_ok (by decide +kernel), jn_iaload_mo⟩ : jn_GEm jn_G0 jn_me171 28 (.inl jn_iaload)) <|
  jn_cons (⟨jn_bipush_ok (n := 63) (v := 63) (by decide +kernel) (by decide), jn_bipush_mo 63⟩ : jn_GEm jn_G0 jn_me171 29 (.inl (jn_bipush 63))) <|
  jn_cons (⟨jn_iand_ok (by decide +kernel), jn_iand_mo⟩ : jn_GEm jn_G0 jn_me171 31 (.inl jn_iand)) <|
  jn_cons (⟨jn_table_ok (dflt := 1220) (lo := 0) (hi := 33) (offs := #[152, 175, 228, 261, 304, 328, 362, 432, 455, 478, 521, 554, 577, 600, 643, 676, 699, 758, 771, 804, 837, 870, 903, 926, 949, 972, 996, 1029, 1062, 1085, 1118, 1131, 1154, 1197]) (len := 152) (by decide +kernel) (by decide) (by decide), jn_table_mo 0 33 [184, 207, 260, 293, 336, 360, 394, 464, 487, 510, 553, 586, 609, 632, 675, 708, 731, 790, 803, 836, 869, 902, 935, 958, 981, 1004, 1028, 1061, 1094, 1117, 1150, 1163, 1186, 1229] 1252⟩ : jn_GEm jn_G0 jn_me171 32 (.inl (jn_table 0 33 [184, 207, 260, 293, 336, 360, 394, 464, 487, 510, 553, 586, 609, 632, 675, 708, 731, 790, 803, 836, 869, 902, 935, 958, 981, 1004, 1028, 1061, 1094, 1117, 1150, 1163, 1186, 1229] 1252))) <|
  jn_cons (⟨jn_aload_n_ok (i := 1) (k := 1) (by decide +kernel) rfl, jn_aload_n_mo 1⟩ : jn_GEm jn_G0 jn_me171 184 (.inl (jn_aload_n 1))) <|
  jn_cons (⟨jn_aload_n_ok (i := 0) (k := 0) (by decide +kernel) rfl, jn_aload_n_mo 0⟩ : jn_GEm jn_G0 jn_me171 185 (.inl (jn_aload_n 0))) <| jn_nil
theorem jn_o171_1 : ∀ q ∈ jn_c171_1, jn_GEm jn_G0 jn_me171 q.1 q.2 :=
  jn_cons (⟨jn_iload_n_ok (i := 3) (k := 3) (by decide +kernel) rfl, jn_iload_n_mo 3⟩ : jn_GEm jn_G0 jn_me171 186 (.inl (jn_iload_n 3))) <|
  jn_cons (⟨jn_iconst_ok (by decide +kernel), jn_iconst_mo 1⟩ : jn_GEm jn_G0 jn_me171 187 (.inl (jn_iconst 1))) <|
  jn_cons (⟨jn_iadd_ok (by decide +kernel), jn_iadd_mo⟩ : jn_GEm jn_G0 jn_me171 188 (.inl jn_iadd)) <|
  jn_cons (⟨jn_iaload_ok (by decide +kernel), jn_iaload_mo⟩ : jn_GEm jn_G0 jn_me171 189 (.inl jn_iaload)) <|
  jn_cons (jn_gc_of jn_G0_46 (jn_callV (i := 13) (na := 1) (ci := 6) (q := (RX6, TX6, 11)) (by decide +kernel) rfl (jn_in 206 (by decide +kernel) rfl) (jn_in 203 (by decide +kernel) rfl) (jn_in 204 (by decide +kernel) rfl) (jn_in 205 (by decide +kernel) rfl) (jn_in 54 (by decide +kernel) rfl) ⟨by decide, by decide, by decide +kernel⟩) : jn_GEm jn_G0 jn_me171 190 (.inr (.inl (46, 8, 2)))) <|
  jn_cons (⟨jn_aload_n_ok (i := 2) (k := 2) (by decide +kernel) rfl, jn_aload_n_mo 2⟩ : jn_GEm jn_G0 jn_me171 193 (.inl (jn_aload_n 2))) <|
  jn_cons (⟨jn_aload_n_ok (i := 0) (k := 0) (by decide +kernel) rfl, jn_aload_n_mo 0⟩ : jn_GEm jn_G0 jn_me171 194 (.inl (jn_aload_n 0))) <|
  jn_cons (⟨jn_iload_n_ok (i := 3) (k := 3) (by decide +kernel) rfl, jn_iload_n_mo 3⟩ : jn_GEm jn_G0 jn_me171 195 (.inl (jn_iload_n 3))) <|
  jn_cons (⟨jn_iconst_ok (by decide +kernel), jn_iconst_mo 1⟩ : jn_GEm jn_G0 jn_me171 196 (.inl (jn_iconst 1))) <|
  jn_cons (⟨jn_iadd_ok (by decide +kernel), jn_iadd_mo⟩ : jn_GEm jn_G0 jn_me171 197 (.inl jn_iadd)) <|
  jn_cons (⟨jn_iaload_ok (by decide +kernel), jn_iaload_mo⟩ : jn_GEm jn_G0 jn_me171 198 (.inl jn_iaload)) <|
  jn_cons (jn_gc_of jn_G0_101 (jn_callV (i := 17) (na := 1) (ci := 7) (q := (RX7, TX7, 22)) (by decide +kernel) rfl (jn_in 686 (by decide +kernel) rfl) (jn_in 683 (by decide +kernel) rfl) (jn_in 684 (by decide +kernel) rfl) (jn_in 685 (by decide +kernel) rfl) (jn_in 60 (by decide +kernel) rfl) ⟨by decide, by decide, by decide +kernel⟩) : jn_GEm jn_G0 jn_me171 199 (.inr (.inl (101, 9, 2)))) <|
  jn_cons (⟨jn_iceq_ok (t := 1252) (off := 1050) (by decide +kernel) (by decide), jn_iceq_mo 1252⟩ : jn_GEm jn_G0 jn_me171 202 (.inl (jn_iceq 1252))) <|
  jn_cons (⟨jn_iconst_ok (by decide +kernel), jn_iconst_mo 0⟩ : jn_GEm jn_G0 jn_me171 205 (.inl (jn_iconst 0))) <|
  jn_cons (⟨(by decide +kernel), rfl⟩ : jn_GEm jn_G0 jn_me171 206 (.inr (.inr 2))) <|
  jn_cons (⟨jn_aload_n_ok (i := 1) (k := 1) (by decide +kernel) rfl, jn_aload_n_mo 1⟩ : jn_GEm jn_G0 jn_me171 207 (.inl (jn_aload_n 1))) <|
  jn_cons (⟨jn_aload_n_ok (i := 0) (k := 0) (by decide +kernel) rfl, jn_aload_n_mo 0⟩ : jn_GEm jn_G0 jn_me171 208 (.inl (jn_aload_n 0))) <|
  jn_cons (⟨jn_iload_n_ok (i := 3) (k := 3) (by decide +kernel) rfl, jn_iload_n_mo 3⟩ : jn_GEm jn_G0 jn_me171 209 (.inl (jn_iload_n 3))) <|
  jn_cons (⟨jn_iconst_ok (by decide +kernel), jn_iconst_mo 1⟩ : jn_GEm jn_G0 jn_me171 210 (.inl (jn_iconst 1))) <|
  jn_cons (⟨jn_iadd_ok (by decide +kernel), jn_iadd_mo⟩ : jn_GEm jn_G0 jn_me171 211 (.inl jn_iadd)) <|
  jn_cons (⟨jn_iaload_ok (by decide +kernel), jn_iaload_mo⟩ : jn_GEm jn_G0 jn_me171 212 (.inl jn_iaload)) <|
  jn_cons (⟨jn_aload_n_ok (i := 0) (k := 0) (by decide +kernel) rfl, jn_aload_n_mo 0⟩ : jn_GEm jn_G0 jn_me171 213 (.inl (jn_aload_n 0))) <|
  jn_cons (⟨jn_iload_n_ok (i := 3) (k := 3) (by decide +kernel) rfl, jn_iload_n_mo 3⟩ : jn_GEm jn_G0 jn_me171 214 (.inl (jn_iload_n 3))) <|
  jn_cons (⟨jn_iconst_ok (by decide +kernel), jn_iconst_mo 2⟩ : jn_GEm jn_G0 jn_me171 215 (.inl (jn_iconst 2))) <| jn_nil
theorem jn_o171_2 : ∀ q ∈ jn_c171_2, jn_GEm jn_G0 jn_me171 q.1 q.2 :=
  jn_cons (⟨jn_iadd_ok (by decide +kernel), jn_iadd_mo⟩ : jn_GEm jn_G0 jn_me171 216 (.inl jn_iadd)) <|
  jn_cons (⟨jn_iaload_ok (by decide +kernel), jn_iaload_mo⟩ : jn_GEm jn_G0 jn_me171 217 (.inl jn_iaload)) <|
  jn_cons (⟨jn_aload_n_ok (i := 0) (k := 0) (by decide +kernel) rfl, jn_aload_n_mo 0⟩ : jn_GEm jn_G0 jn_me171 218 (.inl (jn_aload_n 0))) <|
  jn_cons (⟨jn_iload_n_ok (i := 3) (k := 3) (by decide +kernel) rfl, jn_iload_n_mo 3⟩ : jn_GEm jn_G0 jn_me171 219 (.inl (jn_iload_n 3))) <|
  jn_cons (⟨jn_iconst_ok (by decide +kernel), jn_iconst_mo 3⟩ : jn_GEm jn_G0 jn_me171 220 (.inl (jn_iconst 3))) <|
  jn_cons (⟨jn_iadd_ok (by decide +kernel), jn_iadd_mo⟩ : jn_GEm jn_G0 jn_me171 221 (.inl jn_iadd)) <|
  jn_cons (⟨jn_iaload_ok (by decide +kernel), jn_iaload_mo⟩ : jn_GEm jn_G0 jn_me171 222 (.inl jn_iaload)) <|
  jn_cons (⟨jn_aload_n_ok (i := 0) (k := 0) (by decide +kernel) rfl, jn_aload_n_mo 0⟩ : jn_GEm jn_G0 jn_me171 223 (.inl (jn_aload_n 0))) <|
  jn_cons (⟨jn_iload_n_ok (i := 3) (k := 3) (by decide +kernel) rfl, jn_iload_n_mo 3⟩ : jn_GEm jn_G0 jn_me171 224 (.inl (jn_iload_n 3))) <|
  jn_cons (⟨jn_iconst_ok (by decide +kernel), jn_iconst_mo 4⟩ : jn_GEm jn_G0 jn_me171 225 (.inl (jn_iconst 4))) <|
  jn_cons (⟨jn_iadd_ok (by decide +kernel), jn_iadd_mo⟩ : jn_GEm jn_G0 jn_me171 226 (.inl jn_iadd)) <|
  jn_cons (⟨jn_iaload_ok (by decide +kernel), jn_iaload_mo⟩ : jn_GEm jn_G0 jn_me171 227 (.inl jn_iaload)) <|
  jn_cons (jn_gc_of jn_G0_47 (jn_callV (i := 18) (na := 4) (ci := 6) (q := (RX6, TX6, 11)) (by decide +kernel) rfl (jn_in 215 (by decide +kernel) rfl) (jn_in 212 (by decide +kernel) rfl) (jn_in 213 (by decide +kernel) rfl) (jn_in 214 (by decide +kernel) rfl) (jn_in 54 (by decide +kernel) rfl) ⟨by decide, by decide, by decide +kernel⟩) : jn_GEm jn_G0 jn_me171 228 (.inr (.inl (47, 8, 5)))) <|
  jn_cons (⟨jn_aload_n_ok (i := 2) (k := 2) (by decide +kernel) rfl, jn_aload_n_mo 2⟩ : jn_GEm jn_G0 jn_me171 231 (.inl (jn_aload_n 2))) <|
  jn_cons (⟨jn_aload_n_ok (i := 0) (k := 0) (by decide +kernel) rfl, jn_aload_n_mo 0⟩ : jn_GEm jn_G0 jn_me171 232 (.inl (jn_aload_n 0))) <|
  jn_cons (⟨jn_iload_n_ok (i := 3) (k := 3) (by decide +kernel) rfl, jn_iload_n_mo 3⟩ : jn_GEm jn_G0 jn_me171 233 (.inl (jn_iload_n 3))) <|
  jn_cons (⟨jn_iconst_ok (by decide +kernel), jn_iconst_mo 1⟩ : jn_GEm jn_G0 jn_me171 234 (.inl (jn_iconst 1))) <|
  jn_cons (⟨jn_iadd_ok (by decide +kernel), jn_iadd_mo⟩ : jn_GEm jn_G0 jn_me171 235 (.inl jn_iadd)) <|
  jn_cons (⟨jn_iaload_ok (by decide +kernel), jn_iaload_mo⟩ : jn_GEm jn_G0 jn_me171 236 (.inl jn_iaload)) <|
  jn_cons (⟨jn_aload_n_ok (i := 0) (k := 0) (by decide +kernel) rfl, jn_aload_n_mo 0⟩ : jn_GEm jn_G0 jn_me171 237 (.inl (jn_aload_n 0))) <|
  jn_cons (⟨jn_iload_n_ok (i := 3) (k := 3) (by decide +kernel) rfl, jn_iload_n_mo 3⟩ : jn_GEm jn_G0 jn_me171 238 (.inl (jn_iload_n 3))) <|
  jn_cons (⟨jn_iconst_ok (by decide +kernel), jn_iconst_mo 2⟩ : jn_GEm jn_G0 jn_me171 239 (.inl (jn_iconst 2))) <|
  jn_cons (⟨jn_iadd_ok (by decide +kernel), jn_iadd_mo⟩ : jn_GEm jn_G0 jn_me171 240 (.inl jn_iadd)) <|
  jn_cons (⟨jn_iaload_ok (by decide +kernel), jn_iaload_mo⟩ : jn_GEm jn_G0 jn_me171 241 (.inl jn_iaload)) <| jn_nil
theorem jn_o171_3 : ∀ q ∈ jn_c171_3, jn_GEm jn_G0 jn_me171 q.1 q.2 :=
  jn_cons (⟨jn_aload_n_ok (i := 0) (k := 0) (by decide +kernel) rfl, jn_aload_n_mo 0⟩ : jn_GEm jn_G0 jn_me171 242 (.inl (jn_aload_n 0))) <|
  jn_cons (⟨jn_iload_n_ok (i := 3) (k := 3) (by decide +kernel) rfl, jn_iload_n_mo 3⟩ : jn_GEm jn_G0 jn_me171 243 (.inl (jn_iload_n 3))) <|
  jn_cons (⟨jn_iconst_ok (by decide +kernel), jn_iconst_mo 3⟩ : jn_GEm jn_G0 jn_me171 244 (.inl (jn_iconst 3))) <|
  jn_cons (⟨jn_iadd_ok (by decide +kernel), jn_iadd_mo⟩ : jn_GEm jn_G0 jn_me171 245 (.inl jn_iadd)) <|
  jn_cons (⟨jn_iaload_ok (by decide +kernel), jn_iaload_mo⟩ : jn_GEm jn_G0 jn_me171 246 (.inl jn_iaload)) <|
  jn_cons (⟨jn_aload_n_ok (i := 0) (k := 0) (by decide +kernel) rfl, jn_aload_n_mo 0⟩ : jn_GEm jn_G0 jn_me171 247 (.inl (jn_aload_n 0))) <|
  jn_cons (⟨jn_iload_n_ok (i := 3) (k := 3) (by decide +kernel) rfl, jn_iload_n_mo 3⟩ : jn_GEm jn_G0 jn_me171 248 (.inl (jn_iload_n 3))) <|
  jn_cons (⟨jn_iconst_ok (by decide +kernel), jn_iconst_mo 4⟩ : jn_GEm jn_G0 jn_me171 249 (.inl (jn_iconst 4))) <|
  jn_cons (⟨jn_iadd_ok (by decide +kernel), jn_iadd_mo⟩ : jn_GEm jn_G0 jn_me171 250 (.inl jn_iadd)) <|
  jn_cons (⟨jn_iaload_ok (by decide +kernel), jn_iaload_mo⟩ : jn_GEm jn_G0 jn_me171 251 (.inl jn_iaload)) <|
  jn_cons (jn_gc_of jn_G0_102 (jn_callV (i := 22) (na := 4) (ci := 7) (q := (RX7, TX7, 22)) (by decide +kernel) rfl (jn_in 698 (by decide +kernel) rfl) (jn_in 695 (by decide +kernel) rfl) (jn_in 696 (by decide +kernel) rfl) (jn_in 697 (by decide +kernel) rfl) (jn_in 60 (by decide +kernel) rfl) ⟨by decide, by decide, by decide +kernel⟩) : jn_GEm jn_G0 jn_me171 252 (.inr (.inl (102, 9, 5)))) <|
  jn_cons (⟨jn_iceq_ok (t := 1252) (off := 997) (by decide +kernel) (by decide), jn_iceq_mo 1252⟩ : jn_GEm jn_G0 jn_me171 255 (.inl (jn_iceq 1252))) <|
  jn_cons (⟨jn_iconst_ok (by decide +kernel), jn_iconst_mo 0⟩ : jn_GEm jn_G0 jn_me171 258 (.inl (jn_iconst 0))) <|
  jn_cons (⟨(by decide +kernel), rfl⟩ : jn_GEm jn_G0 jn_me171 259 (.inr (.inr 2))) <|
  jn_cons (⟨jn_aload_n_ok (i := 1) (k := 1) (by decide +kernel) rfl, jn_aload_n_mo 1⟩ : jn_GEm jn_G0 jn_me171 260 (.inl (jn_aload_n 1))) <|
  jn_cons (⟨jn_aload_n_ok (i := 0) (k := 0) (by decide +kernel) rfl, jn_aload_n_mo 0⟩ : jn_GEm jn_G0 jn_me171 261 (.inl (jn_aload_n 0))) <|
  jn_cons (⟨jn_iload_n_ok (i := 3) (k := 3) (by decide +kernel) rfl, jn_iload_n_mo 3⟩ : jn_GEm jn_G0 jn_me171 262 (.inl (jn_iload_n 3))) <|
  jn_cons (⟨jn_iconst_ok (by decide +kernel), jn_iconst_mo 1⟩ : jn_GEm jn_G0 jn_me171 263 (.inl (jn_iconst 1))) <|
  jn_cons (⟨jn_iadd_ok (by decide +kernel), jn_iadd_mo⟩ : jn_GEm jn_G0 jn_me171 264 (.inl jn_iadd)) <|
  jn_cons (⟨jn_iaload_ok (by decide +kernel), jn_iaload_mo⟩ : jn_GEm jn_G0 jn_me171 265 (.inl jn_iaload)) <|
  jn_cons (⟨jn_aload_n_ok (i := 0) (k := 0) (by decide +kernel) rfl, jn_aload_n_mo 0⟩ : jn_GEm jn_G0 jn_me171 266 (.inl (jn_aload_n 0))) <|
  jn_cons (⟨jn_iload_n_ok (i := 3) (k := 3) (by decide +kernel) rfl, jn_iload_n_mo 3⟩ : jn_GEm jn_G0 jn_me171 267 (.inl (jn_iload_n 3))) <|
  jn_cons (⟨jn_iconst_ok (by decide +kernel), jn_iconst_mo 2⟩ : jn_GEm jn_G0 jn_me171 268 (.inl (jn_iconst 2))) <|
  jn_cons (⟨jn_iadd_ok (by decide +kernel), jn_iadd_mo⟩ : jn_GEm jn_G0 jn_me171 269 (.inl jn_iadd)) <| jn_nil
theorem jn_o171_4 : ∀ q ∈ jn_c171_4, jn_GEm jn_G0 jn_me171 q.1 q.2 :=
  jn_cons (⟨jn_iaload_ok (by decide +kernel), jn_iaload_mo⟩ : jn_GEm jn_G0 jn_me171 270 (.inl jn_iaload)) <|
  jn_cons (jn_gc_of jn_G0_48 (jn_callV (i := 23) (na := 2) (ci := 6) (q := (RX6, TX6, 11)) (by decide +kernel) rfl (jn_in 243 (by decide +kernel) rfl) (jn_in 240 (by decide +kernel) rfl) (jn_in 241 (by decide +kernel) rfl) (jn_in 242 (by decide +kernel) rfl) (jn_in 54 (by decide +kernel) rfl) ⟨by decide, by decide, by decide +kernel⟩) : jn_GEm jn_G0 jn_me171 271 (.inr (.inl (48, 8, 3)))) <|
  jn_cons (⟨jn_aload_n_ok (i := 2) (k := 2) (by decide +kernel) rfl, jn_aload_n_mo 2⟩ : jn_GEm jn_G0 jn_me171 274 (.inl (jn_aload_n 2))) <|
  jn_cons (⟨jn_aload_n_ok (i := 0) (k := 0) (by decide +kernel) rfl, jn_aload_n_mo 0⟩ : jn_GEm jn_G0 jn_me171 275 (.inl (jn_aload_n 0))) <|
  jn_cons (⟨jn_iload_n_ok (i := 3) (k := 3) (by decide +kernel) rfl, jn_iload_n_mo 3⟩ : jn_GEm jn_G0 jn_me171 276 (.inl (jn_iload_n 3))) <|
  jn_cons (⟨jn_iconst_ok (by decide +kernel), jn_iconst_mo 1⟩ : jn_GEm jn_G0 jn_me171 277 (.inl (jn_iconst 1))) <|
  jn_cons (⟨jn_iadd_ok (by decide +kernel), jn_iadd_mo⟩ : jn_GEm jn_G0 jn_me171 278 (.inl jn_iadd)) <|
  jn_cons (⟨jn_iaload_ok (by decide +kernel), jn_iaload_mo⟩ : jn_GEm jn_G0 jn_me171 279 (.inl jn_iaload)) <|
  jn_cons (⟨jn_aload_n_ok (i := 0) (k := 0) (by decide +kernel) rfl, jn_aload_n_mo 0⟩ : jn_GEm jn_G0 jn_me171 280 (.inl (jn_aload_n 0))) <|
  jn_cons (⟨jn_iload_n_ok (i := 3) (k := 3) (by decide +kernel) rfl, jn_iload_n_mo 3⟩ : jn_GEm jn_G0 jn_me171 281 (.inl (jn_iload_n 3))) <|
  jn_cons (⟨jn_iconst_ok (by decide +kernel), jn_iconst_mo 2⟩ : jn_GEm jn_G0 jn_me171 282 (.inl (jn_iconst 2))) <|
  jn_cons (⟨jn_iadd_ok (by decide +kernel), jn_iadd_mo⟩ : jn_GEm jn_G0 jn_me171 283 (.inl jn_iadd)) <|
  jn_cons (⟨jn_iaload_ok (by decide +kernel), jn_iaload_mo⟩ : jn_GEm jn_G0 jn_me171 284 (.inl jn_iaload)) <|
  jn_cons (jn_gc_of jn_G0_108 (jn_callV (i := 27) (na := 2) (ci := 7) (q := (RX7, TX7, 22)) (by decide +kernel) rfl (jn_in 714 (by decide +kernel) rfl) (jn_in 711 (by decide +kernel) rfl) (jn_in 712 (by decide +kernel) rfl) (jn_in 713 (by decide +kernel) rfl) (jn_in 60 (by decide +kernel) rfl) ⟨by decide, by decide, by decide +kernel⟩) : jn_GEm jn_G0 jn_me171 285 (.inr (.inl (108, 9, 3)))) <|
  jn_cons (⟨jn_iceq_ok (t := 1252) (off := 964) (by decide +kernel) (by decide), jn_iceq_mo 1252⟩ : jn_GEm jn_G0 jn_me171 288 (.inl (jn_iceq 1252))) <|
  jn_cons (⟨jn_iconst_ok (by decide +kernel), jn_iconst_mo 0⟩ : jn_GEm jn_G0 jn_me171 291 (.inl (jn_iconst 0))) <|
  jn_cons (⟨(by decide +kernel), rfl⟩ : jn_GEm jn_G0 jn_me171 292 (.inr (.inr 2))) <|
  jn_cons (⟨jn_aload_n_ok (i := 1) (k := 1) (by decide +kernel) rfl, jn_aload_n_mo 1⟩ : jn_GEm jn_G0 jn_me171 293 (.inl (jn_aload_n 1))) <|
  jn_cons (⟨jn_aload_n_ok (i := 0) (k := 0) (by decide +kernel) rfl, jn_aload_n_mo 0⟩ : jn_GEm jn_G0 jn_me171 294 (.inl (jn_aload_n 0))) <|
  jn_cons (⟨jn_iload_n_ok (i := 3) (k := 3) (by decide +kernel) rfl, jn_iload_n_mo 3⟩ : jn_GEm jn_G0 jn_me171 295 (.inl (jn_iload_n 3))) <|
  jn_cons (⟨jn_iconst_ok (by decide +kernel), jn_iconst_mo 1⟩ : jn_GEm jn_G0 jn_me171 296 (.inl (jn_iconst 1))) <|
  jn_cons (⟨jn_iadd_ok (by decide +kernel), jn_iadd_mo⟩ : jn_GEm jn_G0 jn_me171 297 (.inl jn_iadd)) <|
  jn_cons (⟨jn_iaload_ok (by decide +kernel), jn_iaload_mo⟩ : jn_GEm jn_G0 jn_me171 298 (.inl jn_iaload)) <|
  jn_cons (⟨jn_aload_n_ok (i := 0) (k := 0) (by decide +kernel) rfl, jn_aload_n_mo 0⟩ : jn_GEm jn_G0 jn_me171 299 (.inl (jn_aload_n 0))) <| jn_nil
theorem jn_o171_5 : ∀ q ∈ jn_c171_5, jn_GEm jn_G0 jn_me171 q.1 q.2 :=
  jn_cons (⟨jn_iload_n_ok (i := 3) (k := 3) (by decide +kernel) rfl, jn_iload_n_mo 3⟩ : jn_GEm jn_G0 jn_me171 300 (.inl (jn_iload_n 3))) <|
  jn_cons (⟨jn_iconst_ok (by decide +kernel), jn_iconst_mo 2⟩ : jn_GEm jn_G0 jn_me171 301 (.inl (jn_iconst 2))) <|
  jn_cons (⟨jn_iadd_ok (by decide +kernel), jn_iadd_mo⟩ : jn_GEm jn_G0 jn_me171 302 (.inl jn_iadd)) <|
  jn_cons (⟨jn_iaload_ok (by decide +kernel), jn_iaload_mo⟩ : jn_GEm jn_G0 jn_me171 303 (.inl jn_iaload)) <|
  jn_cons (⟨jn_aload_n_ok (i := 0) (k := 0) (by decide +kernel) rfl, jn_aload_n_mo 0⟩ : jn_GEm jn_G0 jn_me171 304 (.inl (jn_aload_n 0))) <|
  jn_cons (⟨jn_iload_n_ok (i := 3) (k := 3) (by decide +kernel) rfl, jn_iload_n_mo 3⟩ : jn_GEm jn_G0 jn_me171 305 (.inl (jn_iload_n 3))) <|
  jn_cons (⟨jn_iconst_ok (by decide +kernel), jn_iconst_mo 3⟩ : jn_GEm jn_G0 jn_me171 306 (.inl (jn_iconst 3))) <|
  jn_cons (⟨jn_iadd_ok (by decide +kernel), jn_iadd_mo⟩ : jn_GEm jn_G0 jn_me171 307 (.inl jn_iadd)) <|
  jn_cons (⟨jn_iaload_ok (by decide +kernel), jn_iaload_mo⟩ : jn_GEm jn_G0 jn_me171 308 (.inl jn_iaload)) <|
  jn_cons (jn_gc_of jn_G0_49 (jn_callV (i := 28) (na := 3) (ci := 6) (q := (RX6, TX6, 11)) (by decide +kernel) rfl (jn_in 282 (by decide +kernel) rfl) (jn_in 279 (by decide +kernel) rfl) (jn_in 280 (by decide +kernel) rfl) (jn_in 281 (by decide +kernel) rfl) (jn_in 54 (by decide +kernel) rfl) ⟨by decide, by decide, by decide +kernel⟩) : jn_GEm jn_G0 jn_me171 309 (.inr (.inl (49, 8, 4)))) <|
  jn_cons (⟨jn_aload_n_ok (i := 2) (k := 2) (by decide +kernel) rfl, jn_aload_n_mo 2⟩ : jn_GEm jn_G0 jn_me171 312 (.inl (jn_aload_n 2))) <|
  jn_cons (⟨jn_aload_n_ok (i := 0) (k := 0) (by decide +kernel) rfl, jn_aload_n_mo 0⟩ : jn_GEm jn_G0 jn_me171 313 (.inl (jn_aload_n 0))) <|
  jn_cons (⟨jn_iload_n_ok (i := 3) (k := 3) (by decide +kernel) rfl, jn_iload_n_mo 3⟩ : jn_GEm jn_G0 jn_me171 314 (.inl (jn_iload_n 3))) <|
  jn_cons (⟨jn_iconst_ok (by decide +kernel), jn_iconst_mo 1⟩ : jn_GEm jn_G0 jn_me171 315 (.inl (jn_iconst 1))) <|
  jn_cons (⟨jn_iadd_ok (by decide +kernel), jn_iadd_mo⟩ : jn_GEm jn_G0 jn_me171 316 (.inl jn_iadd)) <|
  jn_cons (⟨jn_iaload_ok (by decide +kernel), jn_iaload_mo⟩ : jn_GEm jn_G0 jn_me171 317 (.inl jn_iaload)) <|
  jn_cons (⟨jn_aload_n_ok (i := 0) (k := 0) (by decide +kernel) rfl, jn_aload_n_mo 0⟩ : jn_GEm jn_G0 jn_me171 318 (.inl (jn_aload_n 0))) <|
  jn_cons (⟨jn_iload_n_ok (i := 3) (k := 3) (by decide +kernel) rfl, jn_iload_n_mo 3⟩ : jn_GEm jn_G0 jn_me171 319 (.inl (jn_iload_n 3))) <|
  jn_cons (⟨jn_iconst_ok (by decide +kernel), jn_iconst_mo 2⟩ : jn_GEm jn_G0 jn_me171 320 (.inl (jn_iconst 2))) <|
  jn_cons (⟨jn_iadd_ok (by decide +kernel), jn_iadd_mo⟩ : jn_GEm jn_G0 jn_me171 321 (.inl jn_iadd)) <|
  jn_cons (⟨jn_iaload_ok (by decide +kernel), jn_iaload_mo⟩ : jn_GEm jn_G0 jn_me171 322 (.inl jn_iaload)) <|
  jn_cons (⟨jn_aload_n_ok (i := 0) (k := 0) (by decide +kernel) rfl, jn_aload_n_mo 0⟩ : jn_GEm jn_G0 jn_me171 323 (.inl (jn_aload_n 0))) <|
  jn_cons (⟨jn_iload_n_ok (i := 3) (k := 3) (by decide +kernel) rfl, jn_iload_n_mo 3⟩ : jn_GEm jn_G0 jn_me171 324 (.inl (jn_iload_n 3))) <|
  jn_cons (⟨jn_iconst_ok (by decide +kernel), jn_iconst_mo 3⟩ : jn_GEm jn_G0 jn_me171 325 (.inl (jn_iconst 3))) <| jn_nil
theorem jn_o171_6 : ∀ q ∈ jn_c171_6, jn_GEm jn_G0 jn_me171 q.1 q.2 :=
  jn_cons (⟨jn_iadd_ok (by decide +kernel), jn_iadd_mo⟩ : jn_GEm jn_G0 jn_me171 326 (.inl jn_iadd)) <|
  jn_cons (⟨jn_iaload_ok (by decide +kernel), jn_iaload_mo⟩ : jn_GEm jn_G0 jn_me171 327 (.inl jn_iaload)) <|
  jn_cons (jn_gc_of jn_G0_109 (jn_callV (i := 32) (na := 3) (ci := 7) (q := (RX7, TX7, 22)) (by decide +kernel) rfl (jn_in 738 (by decide +kernel) rfl) (jn_in 735 (by decide +kernel) rfl) (jn_in 736 (by decide +kernel) rfl) (jn_in 737 (by decide +kernel) rfl) (jn_in 60 (by decide +kernel) rfl) ⟨by decide, by decide, by decide +kernel⟩) : jn_GEm jn_G0 jn_me171 328 (.inr (.inl (109, 9, 4)))) <|
  jn_cons (⟨jn_iceq_ok (t := 1252) (off := 921) (by decide +kernel) (by decide), jn_iceq_mo 1252⟩ : jn_GEm jn_G0 jn_me171 331 (.inl (jn_iceq 1252))) <|
  jn_cons (⟨jn_iconst_ok (by decide +kernel), jn_iconst_mo 0⟩ : jn_GEm jn_G0 jn_me171 334 (.inl (jn_iconst 0))) <|
  jn_cons (⟨(by decide +kernel), rfl⟩ : jn_GEm jn_G0 jn_me171 335 (.inr (.inr 2))) <|
  jn_cons (⟨jn_aload_n_ok (i := 1) (k := 1) (by decide +kernel) rfl, jn_aload_n_mo 1⟩ : jn_GEm jn_G0 jn_me171 336 (.inl (jn_aload_n 1))) <|
  jn_cons (⟨jn_aload_n_ok (i := 0) (k := 0) (by decide +kernel) rfl, jn_aload_n_mo 0⟩ : jn_GEm jn_G0 jn_me171 337 (.inl (jn_aload_n 0))) <|
  jn_cons (⟨jn_iload_n_ok (i := 3) (k := 3) (by decide +kernel) rfl, jn_iload_n_mo 3⟩ : jn_GEm jn_G0 jn_me171 338 (.inl (jn_iload_n 3))) <|
  jn_cons (⟨jn_iconst_ok (by decide +kernel), jn_iconst_mo 1⟩ : jn_GEm jn_G0 jn_me171 339 (.inl (jn_iconst 1))) <|
  jn_cons (⟨jn_iadd_ok (by decide +kernel), jn_iadd_mo⟩ : jn_GEm jn_G0 jn_me171 340 (.inl jn_iadd)) <|
  jn_cons (⟨jn_iaload_ok (by decide +kernel), jn_iaload_mo⟩ : jn_GEm jn_G0 jn_me171 341 (.inl jn_iaload)) <|
  jn_cons (jn_gc_of jn_G0_50 (jn_callV (i := 33) (na := 1) (ci := 6) (q := (RX6, TX6, 11)) (by decide +kernel) rfl (jn_in 287 (by decide +kernel) rfl) (jn_in 284 (by decide +kernel) rfl) (jn_in 285 (by decide +kernel) rfl) (jn_in 286 (by decide +kernel) rfl) (jn_in 54 (by decide +kernel) rfl) ⟨by decide, by decide, by decide +kernel⟩) : jn_GEm jn_G0 jn_me171 342 (.inr (.inl (50, 8, 2)))) <|
  jn_cons (⟨jn_aload_n_ok (i := 2) (k := 2) (by decide +kernel) rfl, jn_aload_n_mo 2⟩ : jn_GEm jn_G0 jn_me171 345 (.inl (jn_aload_n 2))) <|
  jn_cons (⟨jn_aload_n_ok (i := 0) (k := 0) (by decide +kernel) rfl, jn_aload_n_mo 0⟩ : jn_GEm jn_G0 jn_me171 346 (.inl (jn_aload_n 0))) <|
  jn_cons (⟨jn_iload_n_ok (i := 3) (k := 3) (by decide +kernel) rfl, jn_iload_n_mo 3⟩ : jn_GEm jn_G0 jn_me171 347 (.inl (jn_iload_n 3))) <|
  jn_cons (⟨jn_iconst_ok (by decide +kernel), jn_iconst_mo 1⟩ : jn_GEm jn_G0 jn_me171 348 (.inl (jn_iconst 1))) <|
  jn_cons (⟨jn_iadd_ok (by decide +kernel), jn_iadd_mo⟩ : jn_GEm jn_G0 jn_me171 349 (.inl jn_iadd)) <|
  jn_cons (⟨jn_iaload_ok (by decide +kernel), jn_iaload_mo⟩ : jn_GEm jn_G0 jn_me171 350 (.inl jn_iaload)) <|
  jn_cons (jn_gc_of jn_G0_115 (jn_callV (i := 37) (na := 1) (ci := 7) (q := (RX7, TX7, 22)) (by decide +kernel) rfl (jn_in 742 (by decide +kernel) rfl) (jn_in 739 (by decide +kernel) rfl) (jn_in 740 (by decide +kernel) rfl) (jn_in 741 (by decide +kernel) rfl) (jn_in 60 (by decide +kernel) rfl) ⟨by decide, by decide, by decide +kernel⟩) : jn_GEm jn_G0 jn_me171 351 (.inr (.inl (115, 9, 2)))) <|
  jn_cons (⟨jn_lcmp_ok (by decide +kernel), jn_lcmp_mo⟩ : jn_GEm jn_G0 jn_me171 354 (.inl jn_lcmp)) <|
  jn_cons (⟨jn_ifeq_ok (t := 1252) (off := 897) (by decide +kernel) (by decide), jn_ifeq_mo 1252⟩ : jn_GEm jn_G0 jn_me171 355 (.inl (jn_ifeq 1252))) <|
  jn_cons (⟨jn_iconst_ok (by decide +kernel), jn_iconst_mo 0⟩ : jn_GEm jn_G0 jn_me171 358 (.inl (jn_iconst 0))) <|
  jn_cons (⟨(by decide +kernel), rfl⟩ : jn_GEm jn_G0 jn_me171 359 (.inr (.inr 2))) <| jn_nil
theorem jn_o171_7 : ∀ q ∈ jn_c171_7, jn_GEm jn_G0 jn_me171 q.1 q.2 :=
  jn_cons (⟨jn_aload_n_ok (i := 1) (k := 1) (by decide +kernel) rfl, jn_aload_n_mo 1⟩ : jn_GEm jn_G0 jn_me171 360 (.inl (jn_aload_n 1))) <|
  jn_cons (⟨jn_aload_n_ok (i := 0) (k := 0) (by decide +kernel) rfl, jn_aload_n_mo 0⟩ : jn_GEm jn_G0 jn_me171 361 (.inl (jn_aload_n 0))) <|
  jn_cons (⟨jn_iload_n_ok (i := 3) (k := 3) (by decide +kernel) rfl, jn_iload_n_mo 3⟩ : jn_GEm jn_G0 jn_me171 362 (.inl (jn_iload_n 3))) <|
  jn_cons (⟨jn_iconst_ok (by decide +kernel), jn_iconst_mo 1⟩ : jn_GEm jn_G0 jn_me171 363 (.inl (jn_iconst 1))) <|
  jn_cons (⟨jn_iadd_ok (by decide +kernel), jn_iadd_mo⟩ : jn_GEm jn_G0 jn_me171 364 (.inl jn_iadd)) <|
  jn_cons (⟨jn_iaload_ok (by decide +kernel), jn_iaload_mo⟩ : jn_GEm jn_G0 jn_me171 365 (.inl jn_iaload)) <|
  jn_cons (⟨jn_aload_n_ok (i := 0) (k := 0) (by decide +kernel) rfl, jn_aload_n_mo 0⟩ : jn_GEm jn_G0 jn_me171 366 (.inl (jn_aload_n 0))) <|
  jn_cons (⟨jn_iload_n_ok (i := 3) (k := 3) (by decide +kernel) rfl, jn_iload_n_mo 3⟩ : jn_GEm jn_G0 jn_me171 367 (.inl (jn_iload_n 3))) <|
  jn_cons (⟨jn_iconst_ok (by decide +kernel), jn_iconst_mo 2⟩ : jn_GEm jn_G0 jn_me171 368 (.inl (jn_iconst 2))) <|
  jn_cons (⟨jn_iadd_ok (by decide +kernel), jn_iadd_mo⟩ : jn_GEm jn_G0 jn_me171 369 (.inl jn_iadd)) <|
  jn_cons (⟨jn_iaload_ok (by decide +kernel), jn_iaload_mo⟩ : jn_GEm jn_G0 jn_me171 370 (.inl jn_iaload)) <|
  jn_cons (jn_gc_of jn_G0_51 (jn_callV (i := 38) (na := 2) (ci := 6) (q := (RX6, TX6, 11)) (by decide +kernel) rfl (jn_in 329 (by decide +kernel) rfl) (jn_in 326 (by decide +kernel) rfl) (jn_in 327 (by decide +kernel) rfl) (jn_in 328 (by decide +kernel) rfl) (jn_in 54 (by decide +kernel) rfl) ⟨by decide, by decide, by decide +kernel⟩) : jn_GEm jn_G0 jn_me171 371 (.inr (.inl (51, 8, 3)))) <|
  jn_cons (⟨jn_aload_n_ok (i := 2) (k := 2) (by decide +kernel) rfl, jn_aload_n_mo 2⟩ : jn_GEm jn_G0 jn_me171 374 (.inl (jn_aload_n 2))) <|
  jn_cons (⟨jn_aload_n_ok (i := 0) (k := 0) (by decide +kernel) rfl, jn_aload_n_mo 0⟩ : jn_GEm jn_G0 jn_me171 375 (.inl (jn_aload_n 0))) <|
  jn_cons (⟨jn_iload_n_ok (i := 3) (k := 3) (by decide +kernel) rfl, jn_iload_n_mo 3⟩ : jn_GEm jn_G0 jn_me171 376 (.inl (jn_iload_n 3))) <|
  jn_cons (⟨jn_iconst_ok (by decide +kernel), jn_iconst_mo 1⟩ : jn_GEm jn_G0 jn_me171 377 (.inl (jn_iconst 1))) <|
  jn_cons (⟨jn_iadd_ok (by decide +kernel), jn_iadd_mo⟩ : jn_GEm jn_G0 jn_me171 378 (.inl jn_iadd)) <|
  jn_cons (⟨jn_iaload_ok (by decide +kernel), jn_iaload_mo⟩ : jn_GEm jn_G0 jn_me171 379 (.inl jn_iaload)) <|
  jn_cons (⟨jn_aload_n_ok (i := 0) (k := 0) (by decide +kernel) rfl, jn_aload_n_mo 0⟩ : jn_GEm jn_G0 jn_me171 380 (.inl (jn_aload_n 0))) <|
  jn_cons (⟨jn_iload_n_ok (i := 3) (k := 3) (by decide +kernel) rfl, jn_iload_n_mo 3⟩ : jn_GEm jn_G0 jn_me171 381 (.inl (jn_iload_n 3))) <|
  jn_cons (⟨jn_iconst_ok (by decide +kernel), jn_iconst_mo 2⟩ : jn_GEm jn_G0 jn_me171 382 (.inl (jn_iconst 2))) <|
  jn_cons (⟨jn_iadd_ok (by decide +kernel), jn_iadd_mo⟩ : jn_GEm jn_G0 jn_me171 383 (.inl jn_iadd)) <|
  jn_cons (⟨jn_iaload_ok (by decide +kernel), jn_iaload_mo⟩ : jn_GEm jn_G0 jn_me171 384 (.inl jn_iaload)) <|
  jn_cons (jn_gc_of jn_G0_118 (jn_callV (i := 42) (na := 2) (ci := 7) (q := (RX7, TX7, 22)) (by decide +kernel) rfl (jn_in 769 (by decide +kernel) rfl) (jn_in 766 (by decide +kernel) rfl) (jn_in 767 (by decide +kernel) rfl) (jn_in 768 (by decide +kernel) rfl) (jn_in 60 (by decide +kernel) rfl) ⟨by decide, by decide, by decide +kernel⟩) : jn_GEm jn_G0 jn_me171 385 (.inr (.inl (118, 9, 3)))) <| jn_nil
theorem jn_o171_8 : ∀ q ∈ jn_c171_8, jn_GEm jn_G0 jn_me171 q.1 q.2 :=
  jn_cons (⟨jn_lcmp_ok (by decide +kernel), jn_lcmp_mo⟩ : jn_GEm jn_G0 jn_me171 388 (.inl jn_lcmp)) <|
  jn_cons (⟨jn_ifeq_ok (t := 1252) (off := 863) (by decide +kernel) (by decide), jn_ifeq_mo 1252⟩ : jn_GEm jn_G0 jn_me171 389 (.inl (jn_ifeq 1252))) <|
  jn_cons (⟨jn_iconst_ok (by decide +kernel), jn_iconst_mo 0⟩ : jn_GEm jn_G0 jn_me171 392 (.inl (jn_iconst 0))) <|
  jn_cons (⟨(by decide +kernel), rfl⟩ : jn_GEm jn_G0 jn_me171 393 (.inr (.inr 2))) <|
  jn_cons (⟨jn_aload_n_ok (i := 1) (k := 1) (by decide +kernel) rfl, jn_aload_n_mo 1⟩ : jn_GEm jn_G0 jn_me171 394 (.inl (jn_aload_n 1))) <|
  jn_cons (⟨jn_aload_n_ok (i := 0) (k := 0) (by decide +kernel) rfl, jn_aload_n_mo 0⟩ : jn_GEm jn_G0 jn_me171 395 (.inl (jn_aload_n 0))) <|
  jn_cons (⟨jn_iload_n_ok (i := 3) (k := 3) (by decide +kernel) rfl, jn_iload_n_mo 3⟩ : jn_GEm jn_G0 jn_me171 396 (.inl (jn_iload_n 3))) <|
  jn_cons (⟨jn_iconst_ok (by decide +kernel), jn_iconst_mo 1⟩ : jn_GEm jn_G0 jn_me171 397 (.inl (jn_iconst 1))) <|
  jn_cons (⟨jn_iadd_ok (by decide +kernel), jn_iadd_mo⟩ : jn_GEm jn_G0 jn_me171 398 (.inl jn_iadd)) <|
  jn_cons (⟨jn_iaload_ok (by decide +kernel), jn_iaload_mo⟩ : jn_GEm jn_G0 jn_me171 399 (.inl jn_iaload)) <|
  jn_cons (⟨jn_aload_n_ok (i := 0) (k := 0) (by decide +kernel) rfl, jn_aload_n_mo 0⟩ : jn_GEm jn_G0 jn_me171 400 (.inl (jn_aload_n 0))) <|
  jn_cons (⟨jn_iload_n_ok (i := 3) (k := 3) (by decide +kernel) rfl, jn_iload_n_mo 3⟩ : jn_GEm jn_G0 jn_me171 401 (.inl (jn_iload_n 3))) <|
  jn_cons (⟨jn_iconst_ok (by decide +kernel), jn_iconst_mo 2⟩ : jn_GEm jn_G0 jn_me171 402 (.inl (jn_iconst 2))) <|
  jn_cons (⟨jn_iadd_ok (by decide +kernel), jn_iadd_mo⟩ : jn_GEm jn_G0 jn_me171 403 (.inl jn_iadd)) <|
  jn_cons (⟨jn_iaload_ok (by decide +kernel), jn_iaload_mo⟩ : jn_GEm jn_G0 jn_me171 404 (.inl jn_iaload)) <|
  jn_cons (⟨jn_aload_n_ok (i := 0) (k := 0) (by decide +kernel) rfl, jn_aload_n_mo 0⟩ : jn_GEm jn_G0 jn_me171 405 (.inl (jn_aload_n 0))) <|
  jn_cons (⟨jn_iload_n_ok (i := 3) (k := 3) (by decide +kernel) rfl, jn_iload_n_mo 3⟩ : jn_GEm jn_G0 jn_me171 406 (.inl (jn_iload_n 3))) <|
  jn_cons (⟨jn_iconst_ok (by decide +kernel), jn_iconst_mo 3⟩ : jn_GEm jn_G0 jn_me171 407 (.inl (jn_iconst 3))) <|
  jn_cons (⟨jn_iadd_ok (by decide +kernel), jn_iadd_mo⟩ : jn_GEm jn_G0 jn_me171 408 (.inl jn_iadd)) <|
  jn_cons (⟨jn_iaload_ok (by decide +kernel), jn_iaload_mo⟩ : jn_GEm jn_G0 jn_me171 409 (.inl jn_iaload)) <|
  jn_cons (⟨jn_aload_n_ok (i := 0) (k := 0) (by decide +kernel) rfl, jn_aload_n_mo 0⟩ : jn_GEm jn_G0 jn_me171 410 (.inl (jn_aload_n 0))) <|
  jn_cons (⟨jn_iload_n_ok (i := 3) (k := 3) (by decide +kernel) rfl, jn_iload_n_mo 3⟩ : jn_GEm jn_G0 jn_me171 411 (.inl (jn_iload_n 3))) <|
  jn_cons (⟨jn_iconst_ok (by decide +kernel), jn_iconst_mo 4⟩ : jn_GEm jn_G0 jn_me171 412 (.inl (jn_iconst 4))) <|
  jn_cons (⟨jn_iadd_ok (by decide +kernel), jn_iadd_mo⟩ : jn_GEm jn_G0 jn_me171 413 (.inl jn_iadd)) <| jn_nil
theorem jn_o171_9 : ∀ q ∈ jn_c171_9, jn_GEm jn_G0 jn_me171 q.1 q.2 :=
  jn_cons (⟨jn_iaload_ok (by decide +kernel), jn_iaload_mo⟩ : jn_GEm jn_G0 jn_me171 414 (.inl jn_iaload)) <|
  jn_cons (⟨jn_ifeq_ok (t := 422) (off := 7) (by decide +kernel) (by decide), jn_ifeq_mo 422⟩ : jn_GEm jn_G0 jn_me171 415 (.inl (jn_ifeq 422))) <|
  jn_cons (⟨jn_iconst_ok (by decide +kernel), jn_iconst_mo 1⟩ : jn_GEm jn_G0 jn_me171 418 (.inl (jn_iconst 1))) <|
  jn_cons (⟨jn_goto_ok (t := 423) (off := 4) (by decide +kernel) (by decide), jn_goto_mo 423⟩ : jn_GEm jn_G0 jn_me171 419 (.inl (jn_goto 423))) <|
  jn_cons (⟨jn_iconst_ok (by decide +kernel), jn_iconst_mo 0⟩ : jn_GEm jn_G0 jn_me171 422 (.inl (jn_iconst 0))) <|
  jn_cons (jn_gc_of jn_G0_52 (jn_callV (i := 43) (na := 4) (ci := 6) (q := (RX6, TX6, 11)) (by decide +kernel) rfl (jn_in 351 (by decide +kernel) rfl) (jn_in 348 (by decide +kernel) rfl) (jn_in 349 (by decide +kernel) rfl) (jn_in 350 (by decide +kernel) rfl) (jn_in 54 (by decide +kernel) rfl) ⟨by decide, by decide, by decide +kernel⟩) : jn_GEm jn_G0 jn_me171 423 (.inr (.inl (52, 8, 5)))) <|
  jn_cons (⟨jn_aload_n_ok (i := 2) (k := 2) (by decide +kernel) rfl, jn_aload_n_mo 2⟩ : jn_GEm jn_G0 jn_me171 426 (.inl (jn_aload_n 2))) <|
  jn_cons (⟨jn_aload_n_ok (i := 0) (k := 0) (by decide +kernel) rfl, jn_aload_n_mo 0⟩ : jn_GEm jn_G0 jn_me171 427 (.inl (jn_aload_n 0))) <|
  jn_cons (⟨jn_iload_n_ok (i := 3) (k := 3) (by decide +kernel) rfl, jn_iload_n_mo 3⟩ : jn_GEm jn_G0 jn_me171 428 (.inl (jn_iload_n 3))) <|
  jn_cons (⟨jn_iconst_ok (by decide +kernel), jn_iconst_mo 1⟩ : jn_GEm jn_G0 jn_me171 429 (.inl (jn_iconst 1))) <|
  jn_cons (⟨jn_iadd_ok (by decide +kernel), jn_iadd_mo⟩ : jn_GEm jn_G0 jn_me171 430 (.inl jn_iadd)) <|
  jn_cons (⟨jn_iaload_ok (by decide +kernel), jn_iaload_mo⟩ : jn_GEm jn_G0 jn_me171 431 (.inl jn_iaload)) <|
  jn_cons (⟨jn_aload_n_ok (i := 0) (k := 0) (by decide +kernel) rfl, jn_aload_n_mo 0⟩ : jn_GEm jn_G0 jn_me171 432 (.inl (jn_aload_n 0))) <|
  jn_cons (⟨jn_iload_n_ok (i := 3) (k := 3) (by decide +kernel) rfl, jn_iload_n_mo 3⟩ : jn_GEm jn_G0 jn_me171 433 (.inl (jn_iload_n 3))) <|
  jn_cons (⟨jn_iconst_ok (by decide +kernel), jn_iconst_mo 2⟩ : jn_GEm jn_G0 jn_me171 434 (.inl (jn_iconst 2))) <|
  jn_cons (⟨jn_iadd_ok (by decide +kernel), jn_iadd_mo⟩ : jn_GEm jn_G0 jn_me171 435 (.inl jn_iadd)) <|
  jn_cons (⟨jn_iaload_ok (by decide +kernel), jn_iaload_mo⟩ : jn_GEm jn_G0 jn_me171 436 (.inl jn_iaload)) <|
  jn_cons (⟨jn_aload_n_ok (i := 0) (k := 0) (by decide +kernel) rfl, jn_aload_n_mo 0⟩ : jn_GEm jn_G0 jn_me171 437 (.inl (jn_aload_n 0))) <|
  jn_cons (⟨jn_iload_n_ok (i := 3) (k := 3) (by decide +kernel) rfl, jn_iload_n_mo 3⟩ : jn_GEm jn_G0 jn_me171 438 (.inl (jn_iload_n 3))) <|
  jn_cons (⟨jn_iconst_ok (by decide +kernel), jn_iconst_mo 3⟩ : jn_GEm jn_G0 jn_me171 439 (.inl (jn_iconst 3))) <|
  jn_cons (⟨jn_iadd_ok (by decide +kernel), jn_iadd_mo⟩ : jn_GEm jn_G0 jn_me171 440 (.inl jn_iadd)) <|
  jn_cons (⟨jn_iaload_ok (by decide +kernel), jn_iaload_mo⟩ : jn_GEm jn_G0 jn_me171 441 (.inl jn_iaload)) <|
  jn_cons (⟨jn_aload_n_ok (i := 0) (k := 0) (by decide +kernel) rfl, jn_aload_n_mo 0⟩ : jn_GEm jn_G0 jn_me171 442 (.inl (jn_aload_n 0))) <|
  jn_cons (⟨jn_iload_n_ok (i := 3) (k := 3) (by decide +kernel) rfl, jn_iload_n_mo 3⟩ : jn_GEm jn_G0 jn_me171 443 (.inl (jn_iload_n 3))) <| jn_nil
theorem jn_o171_10 : ∀ q ∈ jn_c171_10, jn_GEm jn_G0 jn_me171 q.1 q.2 :=
  jn_cons (⟨jn_iconst_ok (by decide +kernel), jn_iconst_mo 4⟩ : jn_GEm jn_G0 jn_me171 444 (.inl (jn_iconst 4))) <|
  jn_cons (⟨jn_iadd_ok (by decide +kernel), jn_iadd_mo⟩ : jn_GEm jn_G0 jn_me171 445 (.inl jn_iadd)) <|
  jn_cons (⟨jn_iaload_ok (by decide +kernel), jn_iaload_mo⟩ : jn_GEm jn_G0 jn_me171 446 (.inl jn_iaload)) <|
  jn_cons (⟨jn_ifeq_ok (t := 454) (off := 7) (by decide +kernel) (by decide), jn_ifeq_mo 454⟩ : jn_GEm jn_G0 jn_me171 447 (.inl (jn_ifeq 454))) <|
  jn_cons (⟨jn_iconst_ok (by decide +kernel), jn_iconst_mo 1⟩ : jn_GEm jn_G0 jn_me171 450 (.inl (jn_iconst 1))) <|
  jn_cons (⟨jn_goto_ok (t := 455) (off := 4) (by decide +kernel) (by decide), jn_goto_mo 455⟩ : jn_GEm jn_G0 jn_me171 451 (.inl (jn_goto 455))) <|
  jn_cons (⟨jn_iconst_ok (by decide +kernel), jn_iconst_mo 0⟩ : jn_GEm jn_G0 jn_me171 454 (.inl (jn_iconst 0))) <|
  jn_cons (jn_gc_of jn_G0_119 (jn_callV (i := 47) (na := 4) (ci := 7) (q := (RX7, TX7, 22)) (by decide +kernel) rfl (jn_in 780 (by decide +kernel) rfl) (jn_in 777 (by decide +kernel) rfl) (jn_in 778 (by decide +kernel) rfl) (jn_in 779 (by decide +kernel) rfl) (jn_in 60 (by decide +kernel) rfl) ⟨by decide, by decide, by decide +kernel⟩) : jn_GEm jn_G0 jn_me171 455 (.inr (.inl (119, 9, 5)))) <|
  jn_cons (⟨jn_lcmp_ok (by decide +kernel), jn_lcmp_mo⟩ : jn_GEm jn_G0 jn_me171 458 (.inl jn_lcmp)) <|
  jn_cons (⟨jn_ifeq_ok (t := 1252) (off := 793) (by decide +kernel) (by decide), jn_ifeq_mo 1252⟩ : jn_GEm jn_G0 jn_me171 459 (.inl (jn_ifeq 1252))) <|
  jn_cons (⟨jn_iconst_ok (by decide +kernel), jn_iconst_mo 0⟩ : jn_GEm jn_G0 jn_me171 462 (.inl (jn_iconst 0))) <|
  jn_cons (⟨(by decide +kernel), rfl⟩ : jn_GEm jn_G0 jn_me171 463 (.inr (.inr 2))) <|
  jn_cons (⟨jn_aload_n_ok (i := 1) (k := 1) (by decide +kernel) rfl, jn_aload_n_mo 1⟩ : jn_GEm jn_G0 jn_me171 464 (.inl (jn_aload_n 1))) <|
  jn_cons (⟨jn_aload_n_ok (i := 0) (k := 0) (by decide +kernel) rfl, jn_aload_n_mo 0⟩ : jn_GEm jn_G0 jn_me171 465 (.inl (jn_aload_n 0))) <|
  jn_cons (⟨jn_iload_n_ok (i := 3) (k := 3) (by decide +kernel) rfl, jn_iload_n_mo 3⟩ : jn_GEm jn_G0 jn_me171 466 (.inl (jn_iload_n 3))) <|
  jn_cons (⟨jn_iconst_ok (by decide +kernel), jn_iconst_mo 1⟩ : jn_GEm jn_G0 jn_me171 467 (.inl (jn_iconst 1))) <|
  jn_cons (⟨jn_iadd_ok (by decide +kernel), jn_iadd_mo⟩ : jn_GEm jn_G0 jn_me171 468 (.inl jn_iadd)) <|
  jn_cons (⟨jn_iaload_ok (by decide +kernel), jn_iaload_mo⟩ : jn_GEm jn_G0 jn_me171 469 (.inl jn_iaload)) <|
  jn_cons (jn_gc_of jn_G0_53 (jn_callV (i := 48) (na := 1) (ci := 6) (q := (RX6, TX6, 11)) (by decide +kernel) rfl (jn_in 358 (by decide +kernel) rfl) (jn_in 355 (by decide +kernel) rfl) (jn_in 356 (by decide +kernel) rfl) (jn_in 357 (by decide +kernel) rfl) (jn_in 54 (by decide +kernel) rfl) ⟨by decide, by decide, by decide +kernel⟩) : jn_GEm jn_G0 jn_me171 470 (.inr (.inl (53, 8, 2)))) <|
  jn_cons (⟨jn_aload_n_ok (i := 2) (k := 2) (by decide +kernel) rfl, jn_aload_n_mo 2⟩ : jn_GEm jn_G0 jn_me171 473 (.inl (jn_aload_n 2))) <|
  jn_cons (⟨jn_aload_n_ok (i := 0) (k := 0) (by decide +kernel) rfl, jn_aload_n_mo 0⟩ : jn_GEm jn_G0 jn_me171 474 (.inl (jn_aload_n 0))) <|
  jn_cons (⟨jn_iload_n_ok (i := 3) (k := 3) (by decide +kernel) rfl, jn_iload_n_mo 3⟩ : jn_GEm jn_G0 jn_me171 475 (.inl (jn_iload_n 3))) <|
  jn_cons (⟨jn_iconst_ok (by decide +kernel), jn_iconst_mo 1⟩ : jn_GEm jn_G0 jn_me171 476 (.inl (jn_iconst 1))) <|
  jn_cons (⟨jn_iadd_ok (by decide +kernel), jn_iadd_mo⟩ : jn_GEm jn_G0 jn_me171 477 (.inl jn_iadd)) <| jn_nil
theorem jn_o171_11 : ∀ q ∈ jn_c171_11, jn_GEm jn_G0 jn_me171 q.1 q.2 :=
  jn_cons (⟨jn_iaload_ok (by decide +kernel), jn_iaload_mo⟩ : jn_GEm jn_G0 jn_me171 478 (.inl jn_iaload)) <|
  jn_cons (jn_gc_of jn_G0_156 (jn_callV (i := 51) (na := 1) (ci := 7) (q := (RX7, TX7, 22)) (by decide +kernel) rfl (jn_in 937 (by decide +kernel) rfl) (jn_in 934 (by decide +kernel) rfl) (jn_in 935 (by decide +kernel) rfl) (jn_in 936 (by decide +kernel) rfl) (jn_in 60 (by decide +kernel) rfl) ⟨by decide, by decide, by decide +kernel⟩) : jn_GEm jn_G0 jn_me171 479 (.inr (.inl (156, 9, 2)))) <|
  jn_cons (⟨jn_iceq_ok (t := 1252) (off := 770) (by decide +kernel) (by decide), jn_iceq_mo 1252⟩ : jn_GEm jn_G0 jn_me171 482 (.inl (jn_iceq 1252))) <|
  jn_cons (⟨jn_iconst_ok (by decide +kernel), jn_iconst_mo 0⟩ : jn_GEm jn_G0 jn_me171 485 (.inl (jn_iconst 0))) <|
  jn_cons (⟨(by decide +kernel), rfl⟩ : jn_GEm jn_G0 jn_me171 486 (.inr (.inr 2))) <|
  jn_cons (⟨jn_aload_n_ok (i := 1) (k := 1) (by decide +kernel) rfl, jn_aload_n_mo 1⟩ : jn_GEm jn_G0 jn_me171 487 (.inl (jn_aload_n 1))) <|
  jn_cons (⟨jn_aload_n_ok (i := 0) (k := 0) (by decide +kernel) rfl, jn_aload_n_mo 0⟩ : jn_GEm jn_G0 jn_me171 488 (.inl (jn_aload_n 0))) <|
  jn_cons (⟨jn_iload_n_ok (i := 3) (k := 3) (by decide +kernel) rfl, jn_iload_n_mo 3⟩ : jn_GEm jn_G0 jn_me171 489 (.inl (jn_iload_n 3))) <|
  jn_cons (⟨jn_iconst_ok (by decide +kernel), jn_iconst_mo 1⟩ : jn_GEm jn_G0 jn_me171 490 (.inl (jn_iconst 1))) <|
  jn_cons (⟨jn_iadd_ok (by decide +kernel), jn_iadd_mo⟩ : jn_GEm jn_G0 jn_me171 491 (.inl jn_iadd)) <|
  jn_cons (⟨jn_iaload_ok (by decide +kernel), jn_iaload_mo⟩ : jn_GEm jn_G0 jn_me171 492 (.inl jn_iaload)) <|
  jn_cons (jn_gc_of jn_G0_54 (jn_callV (i := 52) (na := 1) (ci := 6) (q := (RX6, TX6, 11)) (by decide +kernel) rfl (jn_in 413 (by decide +kernel) rfl) (jn_in 410 (by decide +kernel) rfl) (jn_in 411 (by decide +kernel) rfl) (jn_in 412 (by decide +kernel) rfl) (jn_in 54 (by decide +kernel) rfl) ⟨by decide, by decide, by decide +kernel⟩) : jn_GEm jn_G0 jn_me171 493 (.inr (.inl (54, 8, 2)))) <|
  jn_cons (⟨jn_aload_n_ok (i := 2) (k := 2) (by decide +kernel) rfl, jn_aload_n_mo 2⟩ : jn_GEm jn_G0 jn_me171 496 (.inl (jn_aload_n 2))) <|
  jn_cons (⟨jn_aload_n_ok (i := 0) (k := 0) (by decide +kernel) rfl, jn_aload_n_mo 0⟩ : jn_GEm jn_G0 jn_me171 497 (.inl (jn_aload_n 0))) <|
  jn_cons (⟨jn_iload_n_ok (i := 3) (k := 3) (by decide +kernel) rfl, jn_iload_n_mo 3⟩ : jn_GEm jn_G0 jn_me171 498 (.inl (jn_iload_n 3))) <|
  jn_cons (⟨jn_iconst_ok (by decide +kernel), jn_iconst_mo 1⟩ : jn_GEm jn_G0 jn_me171 499 (.inl (jn_iconst 1))) <|
  jn_cons (⟨jn_iadd_ok (by decide +kernel), jn_iadd_mo⟩ : jn_GEm jn_G0 jn_me171 500 (.inl jn_iadd)) <|
  jn_cons (⟨jn_iaload_ok (by decide +kernel), jn_iaload_mo⟩ : jn_GEm jn_G0 jn_me171 501 (.inl jn_iaload)) <|
  jn_cons (jn_gc_of jn_G0_120 (jn_callV (i := 55) (na := 1) (ci := 7) (q := (RX7, TX7, 22)) (by decide +kernel) rfl (jn_in 784 (by decide +kernel) rfl) (jn_in 781 (by decide +kernel) rfl) (jn_in 782 (by decide +kernel) rfl) (jn_in 783 (by decide +kernel) rfl) (jn_in 60 (by decide +kernel) rfl) ⟨by decide, by decide, by decide +kernel⟩) : jn_GEm jn_G0 jn_me171 502 (.inr (.inl (120, 9, 2)))) <|
  jn_cons (⟨jn_iceq_ok (t := 1252) (off := 747) (by decide +kernel) (by decide), jn_iceq_mo 1252⟩ : jn_GEm jn_G0 jn_me171 505 (.inl (jn_iceq 1252))) <|
  jn_cons (⟨jn_iconst_ok (by decide +kernel), jn_iconst_mo 0⟩ : jn_GEm jn_G0 jn_me171 508 (.inl (jn_iconst 0))) <|
  jn_cons (⟨(by decide +kernel), rfl⟩ : jn_GEm jn_G0 jn_me171 509 (.inr (.inr 2))) <|
  jn_cons (⟨jn_aload_n_ok (i := 1) (k := 1) (by decide +kernel) rfl, jn_aload_n_mo 1⟩ : jn_GEm jn_G0 jn_me171 510 (.inl (jn_aload_n 1))) <|
  jn_cons (⟨jn_aload_n_ok (i := 0) (k := 0) (by decide +kernel) rfl, jn_aload_n_mo 0⟩ : jn_GEm jn_G0 jn_me171 511 (.inl (jn_aload_n 0))) <| jn_nil
theorem jn_o171_12 : ∀ q ∈ jn_c171_12, jn_GEm jn_G0 jn_me171 q.1 q.2 :=
  jn_cons (⟨jn_iload_n_ok (i := 3) (k := 3) (by decide +kernel) rfl, jn_iload_n_mo 3⟩ : jn_GEm jn_G0 jn_me171 512 (.inl (jn_iload_n 3))) <|
  jn_cons (⟨jn_iconst_ok (by decide +kernel), jn_iconst_mo 1⟩ : jn_GEm jn_G0 jn_me171 513 (.inl (jn_iconst 1))) <|
  jn_cons (⟨jn_iadd_ok (by decide +kernel), jn_iadd_mo⟩ : jn_GEm jn_G0 jn_me171 514 (.inl jn_iadd)) <|
  jn_cons (⟨jn_iaload_ok (by decide +kernel), jn_iaload_mo⟩ : jn_GEm jn_G0 jn_me171 515 (.inl jn_iaload)) <|
  jn_cons (⟨jn_aload_n_ok (i := 0) (k := 0) (by decide +kernel) rfl, jn_aload_n_mo 0⟩ : jn_GEm jn_G0 jn_me171 516 (.inl (jn_aload_n 0))) <|
  jn_cons (⟨jn_iload_n_ok (i := 3) (k := 3) (by decide +kernel) rfl, jn_iload_n_mo 3⟩ : jn_GEm jn_G0 jn_me171 517 (.inl (jn_iload_n 3))) <|
  jn_cons (⟨jn_iconst_ok (by decide +kernel), jn_iconst_mo 2⟩ : jn_GEm jn_G0 jn_me171 518 (.inl (jn_iconst 2))) <|
  jn_cons (⟨jn_iadd_ok (by decide +kernel), jn_iadd_mo⟩ : jn_GEm jn_G0 jn_me171 519 (.inl jn_iadd)) <|
  jn_cons (⟨jn_iaload_ok (by decide +kernel), jn_iaload_mo⟩ : jn_GEm jn_G0 jn_me171 520 (.inl jn_iaload)) <|
  jn_cons (⟨jn_aload_n_ok (i := 0) (k := 0) (by decide +kernel) rfl, jn_aload_n_mo 0⟩ : jn_GEm jn_G0 jn_me171 521 (.inl (jn_aload_n 0))) <|
  jn_cons (⟨jn_iload_n_ok (i := 3) (k := 3) (by decide +kernel) rfl, jn_iload_n_mo 3⟩ : jn_GEm jn_G0 jn_me171 522 (.inl (jn_iload_n 3))) <|
  jn_cons (⟨jn_iconst_ok (by decide +kernel), jn_iconst_mo 3⟩ : jn_GEm jn_G0 jn_me171 523 (.inl (jn_iconst 3))) <|
  jn_cons (⟨jn_iadd_ok (by decide +kernel), jn_iadd_mo⟩ : jn_GEm jn_G0 jn_me171 524 (.inl jn_iadd)) <|
  jn_cons (⟨jn_iaload_ok (by decide +kernel), jn_iaload_mo⟩ : jn_GEm jn_G0 jn_me171 525 (.inl jn_iaload)) <|
  jn_cons (jn_gc_of jn_G0_55 (jn_callV (i := 56) (na := 3) (ci := 6) (q := (RX6, TX6, 11)) (by decide +kernel) rfl (jn_in 452 (by decide +kernel) rfl) (jn_in 449 (by decide +kernel) rfl) (jn_in 450 (by decide +kernel) rfl) (jn_in 451 (by decide +kernel) rfl) (jn_in 54 (by decide +kernel) rfl) ⟨by decide, by decide, by decide +kernel⟩) : jn_GEm jn_G0 jn_me171 526 (.inr (.inl (55, 8, 4)))) <|
  jn_cons (⟨jn_aload_n_ok (i := 2) (k := 2) (by decide +kernel) rfl, jn_aload_n_mo 2⟩ : jn_GEm jn_G0 jn_me171 529 (.inl (jn_aload_n 2))) <|
  jn_cons (⟨jn_aload_n_ok (i := 0) (k := 0) (by decide +kernel) rfl, jn_aload_n_mo 0⟩ : jn_GEm jn_G0 jn_me171 530 (.inl (jn_aload_n 0))) <|
  jn_cons (⟨jn_iload_n_ok (i := 3) (k := 3) (by decide +kernel) rfl, jn_iload_n_mo 3⟩ : jn_GEm jn_G0 jn_me171 531 (.inl (jn_iload_n 3))) <|
  jn_cons (⟨jn_iconst_ok (by decide +kernel), jn_iconst_mo 1⟩ : jn_GEm jn_G0 jn_me171 532 (.inl (jn_iconst 1))) <|
  jn_cons (⟨jn_iadd_ok (by decide +kernel), jn_iadd_mo⟩ : jn_GEm jn_G0 jn_me171 533 (.inl jn_iadd)) <|
  jn_cons (⟨jn_iaload_ok (by decide +kernel), jn_iaload_mo⟩ : jn_GEm jn_G0 jn_me171 534 (.inl jn_iaload)) <|
  jn_cons (⟨jn_aload_n_ok (i := 0) (k := 0) (by decide +kernel) rfl, jn_aload_n_mo 0⟩ : jn_GEm jn_G0 jn_me171 535 (.inl (jn_aload_n 0))) <|
  jn_cons (⟨jn_iload_n_ok (i := 3) (k := 3) (by decide +kernel) rfl, jn_iload_n_mo 3⟩ : jn_GEm jn_G0 jn_me171 536 (.inl (jn_iload_n 3))) <|
  jn_cons (⟨jn_iconst_ok (by decide +kernel), jn_iconst_mo 2⟩ : jn_GEm jn_G0 jn_me171 537 (.inl (jn_iconst 2))) <| jn_nil
theorem jn_o171_13 : ∀ q ∈ jn_c171_13, jn_GEm jn_G0 jn_me171 q.1 q.2 :=
  jn_cons (⟨jn_iadd_ok (by decide +kernel), jn_iadd_mo⟩ : jn_GEm jn_G0 jn_me171 538 (.inl jn_iadd)) <|
  jn_cons (⟨jn_iaload_ok (by decide +kernel), jn_iaload_mo⟩ : jn_GEm jn_G0 jn_me171 539 (.inl jn_iaload)) <|
  jn_cons (⟨jn_aload_n_ok (i := 0) (k := 0) (by decide +kernel) rfl, jn_aload_n_mo 0⟩ : jn_GEm jn_G0 jn_me171 540 (.inl (jn_aload_n 0))) <|
  jn_cons (⟨jn_iload_n_ok (i := 3) (k := 3) (by decide +kernel) rfl, jn_iload_n_mo 3⟩ : jn_GEm jn_G0 jn_me171 541 (.inl (jn_iload_n 3))) <|
  jn_cons (⟨jn_iconst_ok (by decide +kernel), jn_iconst_mo 3⟩ : jn_GEm jn_G0 jn_me171 542 (.inl (jn_iconst 3))) <|
  jn_cons (⟨jn_iadd_ok (by decide +kernel), jn_iadd_mo⟩ : jn_GEm jn_G0 jn_me171 543 (.inl jn_iadd)) <|
  jn_cons (⟨jn_iaload_ok (by decide +kernel), jn_iaload_mo⟩ : jn_GEm jn_G0 jn_me171 544 (.inl jn_iaload)) <|
  jn_cons (jn_gc_of jn_G0_122 (jn_callV (i := 59) (na := 3) (ci := 7) (q := (RX7, TX7, 22)) (by decide +kernel) rfl (jn_in 788 (by decide +kernel) rfl) (jn_in 785 (by decide +kernel) rfl) (jn_in 786 (by decide +kernel) rfl) (jn_in 787 (by decide +kernel) rfl) (jn_in 60 (by decide +kernel) rfl) ⟨by decide, by decide, by decide +kernel⟩) : jn_GEm jn_G0 jn_me171 545 (.inr (.inl (122, 9, 4)))) <|
  jn_cons (⟨jn_iceq_ok (t := 1252) (off := 704) (by decide +kernel) (by decide), jn_iceq_mo 1252⟩ : jn_GEm jn_G0 jn_me171 548 (.inl (jn_iceq 1252))) <|
  jn_cons (⟨jn_iconst_ok (by decide +kernel), jn_iconst_mo 0⟩ : jn_GEm jn_G0 jn_me171 551 (.inl (jn_iconst 0))) <|
  jn_cons (⟨(by decide +kernel), rfl⟩ : jn_GEm jn_G0 jn_me171 552 (.inr (.inr 2))) <|
  jn_cons (⟨jn_aload_n_ok (i := 1) (k := 1) (by decide +kernel) rfl, jn_aload_n_mo 1⟩ : jn_GEm jn_G0 jn_me171 553 (.inl (jn_aload_n 1))) <|
  jn_cons (⟨jn_aload_n_ok (i := 0) (k := 0) (by decide +kernel) rfl, jn_aload_n_mo 0⟩ : jn_GEm jn_G0 jn_me171 554 (.inl (jn_aload_n 0))) <|
  jn_cons (⟨jn_iload_n_ok (i := 3) (k := 3) (by decide +kernel) rfl, jn_iload_n_mo 3⟩ : jn_GEm jn_G0 jn_me171 555 (.inl (jn_iload_n 3))) <|
  jn_cons (⟨jn_iconst_ok (by decide +kernel), jn_iconst_mo 1⟩ : jn_GEm jn_G0 jn_me171 556 (.inl (jn_iconst 1))) <|
  jn_cons (⟨jn_iadd_ok (by decide +kernel), jn_iadd_mo⟩ : jn_GEm jn_G0 jn_me171 557 (.inl jn_iadd)) <|
  jn_cons (⟨jn_iaload_ok (by decide +kernel), jn_iaload_mo⟩ : jn_GEm jn_G0 jn_me171 558 (.inl jn_iaload)) <|
  jn_cons (⟨jn_aload_n_ok (i := 0) (k := 0) (by decide +kernel) rfl, jn_aload_n_mo 0⟩ : jn_GEm jn_G0 jn_me171 559 (.inl (jn_aload_n 0))) <|
  jn_cons (⟨jn_iload_n_ok (i := 3) (k := 3) (by decide +kernel) rfl, jn_iload_n_mo 3⟩ : jn_GEm jn_G0 jn_me171 560 (.inl (jn_iload_n 3))) <|
  jn_cons (⟨jn_iconst_ok (by decide +kernel), jn_iconst_mo 2⟩ : jn_GEm jn_G0 jn_me171 561 (.inl (jn_iconst 2))) <|
  jn_cons (⟨jn_iadd_ok (by decide +kernel), jn_iadd_mo⟩ : jn_GEm jn_G0 jn_me171 562 (.inl jn_iadd)) <|
  jn_cons (⟨jn_iaload_ok (by decide +kernel), jn_iaload_mo⟩ : jn_GEm jn_G0 jn_me171 563 (.inl jn_iaload)) <|
  jn_cons (jn_gc_of jn_G0_56 (jn_callV (i := 60) (na := 2) (ci := 6) (q := (RX6, TX6, 11)) (by decide +kernel) rfl (jn_in 456 (by decide +kernel) rfl) (jn_in 453 (by decide +kernel) rfl) (jn_in 454 (by decide +kernel) rfl) (jn_in 455 (by decide +kernel) rfl) (jn_in 54 (by decide +kernel) rfl) ⟨by decide, by decide, by decide +kernel⟩) : jn_GEm jn_G0 jn_me171 564 (.inr (.inl (56, 8, 3)))) <|
  jn_cons (⟨jn_aload_n_ok (i := 2) (k := 2) (by decide +kernel) rfl, jn_aload_n_mo 2⟩ : jn_GEm jn_G0 jn_me171 567 (.inl (jn_aload_n 2))) <| jn_nil
theorem jn_o171_14 : ∀ q ∈ jn_c171_14, jn_GEm jn_G0 jn_me171 q.1 q.2 :=
  jn_cons (⟨jn_aload_n_ok (i := 0) (k := 0) (by decide +kernel) rfl, jn_aload_n_mo 0⟩ : jn_GEm jn_G0 jn_me171 568 (.inl (jn_aload_n 0))) <|
  jn_cons (⟨jn_iload_n_ok (i := 3) (k := 3) (by decide +kernel) rfl, jn_iload_n_mo 3⟩ : jn_GEm jn_G0 jn_me171 569 (.inl (jn_iload_n 3))) <|
  jn_cons (⟨jn_iconst_ok (by decide +kernel), jn_iconst_mo 1⟩ : jn_GEm jn_G0 jn_me171 570 (.inl (jn_iconst 1))) <|
  jn_cons (⟨jn_iadd_ok (by decide +kernel), jn_iadd_mo⟩ : jn_GEm jn_G0 jn_me171 571 (.inl jn_iadd)) <|
  jn_cons (⟨jn_iaload_ok (by decide +kernel), jn_iaload_mo⟩ : jn_GEm jn_G0 jn_me171 572 (.inl jn_iaload)) <|
  jn_cons (⟨jn_aload_n_ok (i := 0) (k := 0) (by decide +kernel) rfl, jn_aload_n_mo 0⟩ : jn_GEm jn_G0 jn_me171 573 (.inl (jn_aload_n 0))) <|
  jn_cons (⟨jn_iload_n_ok (i := 3) (k := 3) (by decide +kernel) rfl, jn_iload_n_mo 3⟩ : jn_GEm jn_G0 jn_me171 574 (.inl (jn_iload_n 3))) <|
  jn_cons (⟨jn_iconst_ok (by decide +kernel), jn_iconst_mo 2⟩ : jn_GEm jn_G0 jn_me171 575 (.inl (jn_iconst 2))) <|
  jn_cons (⟨jn_iadd_ok (by decide +kernel), jn_iadd_mo⟩ : jn_GEm jn_G0 jn_me171 576 (.inl jn_iadd)) <|
  jn_cons (⟨jn_iaload_ok (by decide +kernel), jn_iaload_mo⟩ : jn_GEm jn_G0 jn_me171 577 (.inl jn_iaload)) <|
  jn_cons (jn_gc_of jn_G0_123 (jn_callV (i := 63) (na := 2) (ci := 7) (q := (RX7, TX7, 22)) (by decide +kernel) rfl (jn_in 802 (by decide +kernel) rfl) (jn_in 799 (by decide +kernel) rfl) (jn_in 800 (by decide +kernel) rfl) (jn_in 801 (by decide +kernel) rfl) (jn_in 60 (by decide +kernel) rfl) ⟨by decide, by decide, by decide +kernel⟩) : jn_GEm jn_G0 jn_me171 578 (.inr (.inl (123, 9, 3)))) <|
  jn_cons (⟨jn_iceq_ok (t := 1252) (off := 671) (by decide +kernel) (by decide), jn_iceq_mo 1252⟩ : jn_GEm jn_G0 jn_me171 581 (.inl (jn_iceq 1252))) <|
  jn_cons (⟨jn_iconst_ok (by decide +kernel), jn_iconst_mo 0⟩ : jn_GEm jn_G0 jn_me171 584 (.inl (jn_iconst 0))) <|
  jn_cons (⟨(by decide +kernel), rfl⟩ : jn_GEm jn_G0 jn_me171 585 (.inr (.inr 2))) <|
  jn_cons (⟨jn_aload_n_ok (i := 1) (k := 1) (by decide +kernel) rfl, jn_aload_n_mo 1⟩ : jn_GEm jn_G0 jn_me171 586 (.inl (jn_aload_n 1))) <|
  jn_cons (⟨jn_aload_n_ok (i := 0) (k := 0) (by decide +kernel) rfl, jn_aload_n_mo 0⟩ : jn_GEm jn_G0 jn_me171 587 (.inl (jn_aload_n 0))) <|
  jn_cons (⟨jn_iload_n_ok (i := 3) (k := 3) (by decide +kernel) rfl, jn_iload_n_mo 3⟩ : jn_GEm jn_G0 jn_me171 588 (.inl (jn_iload_n 3))) <|
  jn_cons (⟨jn_iconst_ok (by decide +kernel), jn_iconst_mo 1⟩ : jn_GEm jn_G0 jn_me171 589 (.inl (jn_iconst 1))) <|
  jn_cons (⟨jn_iadd_ok (by decide +kernel), jn_iadd_mo⟩ : jn_GEm jn_G0 jn_me171 590 (.inl jn_iadd)) <|
  jn_cons (⟨jn_iaload_ok (by decide +kernel), jn_iaload_mo⟩ : jn_GEm jn_G0 jn_me171 591 (.inl jn_iaload)) <|
  jn_cons (jn_gc_of jn_G0_57 (jn_callV (i := 64) (na := 1) (ci := 6) (q := (RX6, TX6, 11)) (by decide +kernel) rfl (jn_in 460 (by decide +kernel) rfl) (jn_in 457 (by decide +kernel) rfl) (jn_in 458 (by decide +kernel) rfl) (jn_in 459 (by decide +kernel) rfl) (jn_in 54 (by decide +kernel) rfl) ⟨by decide, by decide, by decide +kernel⟩) : jn_GEm jn_G0 jn_me171 592 (.inr (.inl (57, 8, 2)))) <|
  jn_cons (⟨jn_aload_n_ok (i := 2) (k := 2) (by decide +kernel) rfl, jn_aload_n_mo 2⟩ : jn_GEm jn_G0 jn_me171 595 (.inl (jn_aload_n 2))) <|
  jn_cons (⟨jn_aload_n_ok (i := 0) (k := 0) (by decide +kernel) rfl, jn_aload_n_mo 0⟩ : jn_GEm jn_G0 jn_me171 596 (.inl (jn_aload_n 0))) <|
  jn_cons (⟨jn_iload_n_ok (i := 3) (k := 3) (by decide +kernel) rfl, jn_iload_n_mo 3⟩ : jn_GEm jn_G0 jn_me171 597 (.inl (jn_iload_n 3))) <| jn_nil
theorem jn_o171_15 : ∀ q ∈ jn_c171_15, jn_GEm jn_G0 jn_me171 q.1 q.2 :=
  jn_cons (⟨jn_iconst_ok (by decide +kernel), jn_iconst_mo 1⟩ : jn_GEm jn_G0 jn_me171 598 (.inl (jn_iconst 1))) <|
  jn_cons (⟨jn_iadd_ok (by decide +kernel), jn_iadd_mo⟩ : jn_GEm jn_G0 jn_me171 599 (.inl jn_iadd)) <|
  jn_cons (⟨jn_iaload_ok (by decide +kernel), jn_iaload_mo⟩ : jn_GEm jn_G0 jn_me171 600 (.inl jn_iaload)) <|
  jn_cons (jn_gc_of jn_G0_125 (jn_callV (i := 67) (na := 1) (ci := 7) (q := (RX7, TX7, 22)) (by decide +kernel) rfl (jn_in 806 (by decide +kernel) rfl) (jn_in 803 (by decide +kernel) rfl) (jn_in 804 (by decide +kernel) rfl) (jn_in 805 (by decide +kernel) rfl) (jn_in 60 (by decide +kernel) rfl) ⟨by decide, by decide, by decide +kernel⟩) : jn_GEm jn_G0 jn_me171 601 (.inr (.inl (125, 9, 2)))) <|
  jn_cons (⟨jn_iceq_ok (t := 1252) (off := 648) (by decide +kernel) (by decide), jn_iceq_mo 1252⟩ : jn_GEm jn_G0 jn_me171 604 (.inl (jn_iceq 1252))) <|
  jn_cons (⟨jn_iconst_ok (by decide +kernel), jn_iconst_mo 0⟩ : jn_GEm jn_G0 jn_me171 607 (.inl (jn_iconst 0))) <|
  jn_cons (⟨(by decide +kernel), rfl⟩ : jn_GEm jn_G0 jn_me171 608 (.inr (.inr 2))) <|
  jn_cons (⟨jn_aload_n_ok (i := 1) (k := 1) (by decide +kernel) rfl, jn_aload_n_mo 1⟩ : jn_GEm jn_G0 jn_me171 609 (.inl (jn_aload_n 1))) <|
  jn_cons (⟨jn_aload_n_ok (i := 0) (k := 0) (by decide +kernel) rfl, jn_aload_n_mo 0⟩ : jn_GEm jn_G0 jn_me171 610 (.inl (jn_aload_n 0))) <|
  jn_cons (⟨jn_iload_n_ok (i := 3) (k := 3) (by decide +kernel) rfl, jn_iload_n_mo 3⟩ : jn_GEm jn_G0 jn_me171 611 (.inl (jn_iload_n 3))) <|
  jn_cons (⟨jn_iconst_ok (by decide +kernel), jn_iconst_mo 1⟩ : jn_GEm jn_G0 jn_me171 612 (.inl (jn_iconst 1))) <|
  jn_cons (⟨jn_iadd_ok (by decide +kernel), jn_iadd_mo⟩ : jn_GEm jn_G0 jn_me171 613 (.inl jn_iadd)) <|
  jn_cons (⟨jn_iaload_ok (by decide +kernel), jn_iaload_mo⟩ : jn_GEm jn_G0 jn_me171 614 (.inl jn_iaload)) <|
  jn_cons (jn_gc_of jn_G0_58 (jn_callV (i := 68) (na := 1) (ci := 6) (q := (RX6, TX6, 11)) (by decide +kernel) rfl (jn_in 468 (by decide +kernel) rfl) (jn_in 465 (by decide +kernel) rfl) (jn_in 466 (by decide +kernel) rfl) (jn_in 467 (by decide +kernel) rfl) (jn_in 54 (by decide +kernel) rfl) ⟨by decide, by decide, by decide +kernel⟩) : jn_GEm jn_G0 jn_me171 615 (.inr (.inl (58, 8, 2)))) <|
  jn_cons (⟨jn_aload_n_ok (i := 2) (k := 2) (by decide +kernel) rfl, jn_aload_n_mo 2⟩ : jn_GEm jn_G0 jn_me171 618 (.inl (jn_aload_n 2))) <|
  jn_cons (⟨jn_aload_n_ok (i := 0) (k := 0) (by decide +kernel) rfl, jn_aload_n_mo 0⟩ : jn_GEm jn_G0 jn_me171 619 (.inl (jn_aload_n 0))) <|
  jn_cons (⟨jn_iload_n_ok (i := 3) (k := 3) (by decide +kernel) rfl, jn_iload_n_mo 3⟩ : jn_GEm jn_G0 jn_me171 620 (.inl (jn_iload_n 3))) <|
  jn_cons (⟨jn_iconst_ok (by decide +kernel), jn_iconst_mo 1⟩ : jn_GEm jn_G0 jn_me171 621 (.inl (jn_iconst 1))) <|
  jn_cons (⟨jn_iadd_ok (by decide +kernel), jn_iadd_mo⟩ : jn_GEm jn_G0 jn_me171 622 (.inl jn_iadd)) <|
  jn_cons (⟨jn_iaload_ok (by decide +kernel), jn_iaload_mo⟩ : jn_GEm jn_G0 jn_me171 623 (.inl jn_iaload)) <|
  jn_cons (jn_gc_of jn_G0_126 (jn_callV (i := 71) (na := 1) (ci := 7) (q := (RX7, TX7, 22)) (by decide +kernel) rfl (jn_in 814 (by decide +kernel) rfl) (jn_in 811 (by decide +kernel) rfl) (jn_in 812 (by decide +kernel) rfl) (jn_in 813 (by decide +kernel) rfl) (jn_in 60 (by decide +kernel) rfl) ⟨by decide, by decide, by decide +kernel⟩) : jn_GEm jn_G0 jn_me171 624 (.inr (.inl (126, 9, 2)))) <|
  jn_cons (⟨jn_iceq_ok (t := 1252) (off := 625) (by decide +kernel) (by decide), jn_iceq_mo 1252⟩ : jn_GEm jn_G0 jn_me171 627 (.inl (jn_iceq 1252))) <|
  jn_cons (⟨jn_iconst_ok (by decide +kernel), jn_iconst_mo 0⟩ : jn_GEm jn_G0 jn_me171 630 (.inl (jn_iconst 0))) <|
  jn_cons (⟨(by decide +kernel), rfl⟩ : jn_GEm jn_G0 jn_me171 631 (.inr (.inr 2))) <| jn_nil
theorem jn_o171_16 : ∀ q ∈ jn_c171_16, jn_GEm jn_G0 jn_me171 q.1 q.2 :=
  jn_cons (⟨jn_aload_n_ok (i := 1) (k := 1) (by decide +kernel) rfl, jn_aload_n_mo 1⟩ : jn_GEm jn_G0 jn_me171 632 (.inl (jn_aload_n 1))) <|
  jn_cons (⟨jn_aload_n_ok (i := 0) (k := 0) (by decide +kernel) rfl, jn_aload_n_mo 0⟩ : jn_GEm jn_G0 jn_me171 633 (.inl (jn_aload_n 0))) <|
  jn_cons (⟨jn_iload_n_ok (i := 3) (k := 3) (by decide +kernel) rfl, jn_iload_n_mo 3⟩ : jn_GEm jn_G0 jn_me171 634 (.inl (jn_iload_n 3))) <|
  jn_cons (⟨jn_iconst_ok (by decide +kernel), jn_iconst_mo 1⟩ : jn_GEm jn_G0 jn_me171 635 (.inl (jn_iconst 1))) <|
  jn_cons (⟨jn_iadd_ok (by decide +kernel), jn_iadd_mo⟩ : jn_GEm jn_G0 jn_me171 636 (.inl jn_iadd)) <|
  jn_cons (⟨jn_iaload_ok (by decide +kernel), jn_iaload_mo⟩ : jn_GEm jn_G0 jn_me171 637 (.inl jn_iaload)) <|
  jn_cons (⟨jn_aload_n_ok (i := 0) (k := 0) (by decide +kernel) rfl, jn_aload_n_mo 0⟩ : jn_GEm jn_G0 jn_me171 638 (.inl (jn_aload_n 0))) <|
  jn_cons (⟨jn_iload_n_ok (i := 3) (k := 3) (by decide +kernel) rfl, jn_iload_n_mo 3⟩ : jn_GEm jn_G0 jn_me171 639 (.inl (jn_iload_n 3))) <|
  jn_cons (⟨jn_iconst_ok (by decide +kernel), jn_iconst_mo 2⟩ : jn_GEm jn_G0 jn_me171 640 (.inl (jn_iconst 2))) <|
  jn_cons (⟨jn_iadd_ok (by decide +kernel), jn_iadd_mo⟩ : jn_GEm jn_G0 jn_me171 641 (.inl jn_iadd)) <|
  jn_cons (⟨jn_iaload_ok (by decide +kernel), jn_iaload_mo⟩ : jn_GEm jn_G0 jn_me171 642 (.inl jn_iaload)) <|
  jn_cons (⟨jn_aload_n_ok (i := 0) (k := 0) (by decide +kernel) rfl, jn_aload_n_mo 0⟩ : jn_GEm jn_G0 jn_me171 643 (.inl (jn_aload_n 0))) <|
  jn_cons (⟨jn_iload_n_ok (i := 3) (k := 3) (by decide +kernel) rfl, jn_iload_n_mo 3⟩ : jn_GEm jn_G0 jn_me171 644 (.inl (jn_iload_n 3))) <|
  jn_cons (⟨jn_iconst_ok (by decide +kernel), jn_iconst_mo 3⟩ : jn_GEm jn_G0 jn_me171 645 (.inl (jn_iconst 3))) <|
  jn_cons (⟨jn_iadd_ok (by decide +kernel), jn_iadd_mo⟩ : jn_GEm jn_G0 jn_me171 646 (.inl jn_iadd)) <|
  jn_cons (⟨jn_iaload_ok (by decide +kernel), jn_iaload_mo⟩ : jn_GEm jn_G0 jn_me171 647 (.inl jn_iaload)) <|
  jn_cons (jn_gc_of jn_G0_59 (jn_callV (i := 72) (na := 3) (ci := 6) (q := (RX6, TX6, 11)) (by decide +kernel) rfl (jn_in 476 (by decide +kernel) rfl) (jn_in 473 (by decide +kernel) rfl) (jn_in 474 (by decide +kernel) rfl) (jn_in 475 (by decide +kernel) rfl) (jn_in 54 (by decide +kernel) rfl) ⟨by decide, by decide, by decide +kernel⟩) : jn_GEm jn_G0 jn_me171 648 (.inr (.inl (59, 8, 4)))) <|
  jn_cons (⟨jn_aload_n_ok (i := 2) (k := 2) (by decide +kernel) rfl, jn_aload_n_mo 2⟩ : jn_GEm jn_G0 jn_me171 651 (.inl (jn_aload_n 2))) <|
  jn_cons (⟨jn_aload_n_ok (i := 0) (k := 0) (by decide +kernel) rfl, jn_aload_n_mo 0⟩ : jn_GEm jn_G0 jn_me171 652 (.inl (jn_aload_n 0))) <|
  jn_cons (⟨jn_iload_n_ok (i := 3) (k := 3) (by decide +kernel) rfl, jn_iload_n_mo 3⟩ : jn_GEm jn_G0 jn_me171 653 (.inl (jn_iload_n 3))) <|
  jn_cons (⟨jn_iconst_ok (by decide +kernel), jn_iconst_mo 1⟩ : jn_GEm jn_G0 jn_me171 654 (.inl (jn_iconst 1))) <|
  jn_cons (⟨jn_iadd_ok (by decide +kernel), jn_iadd_mo⟩ : jn_GEm jn_G0 jn_me171 655 (.inl jn_iadd)) <|
  jn_cons (⟨jn_iaload_ok (by decide +kernel), jn_iaload_mo⟩ : jn_GEm jn_G0 jn_me171 656 (.inl jn_iaload)) <|
  jn_cons (⟨jn_aload_n_ok (i := 0) (k := 0) (by decide +kernel) rfl, jn_aload_n_mo 0⟩ : jn_GEm jn_G0 jn_me171 657 (.inl (jn_aload_n 0))) <| jn_nil
theorem jn_o171_17 : ∀ q ∈ jn_c171_17, jn_GEm jn_G0 jn_me171 q.1 q.2 :=
  jn_cons (⟨jn_iload_n_ok (i := 3) (k := 3) (by decide +kernel) rfl, jn_iload_n_mo 3⟩ : jn_GEm jn_G0 jn_me171 658 (.inl (jn_iload_n 3))) <|
  jn_cons (⟨jn_iconst_ok (by decide +kernel), jn_iconst_mo 2⟩ : jn_GEm jn_G0 jn_me171 659 (.inl (jn_iconst 2))) <|
  jn_cons (⟨jn_iadd_ok (by decide +kernel), jn_iadd_mo⟩ : jn_GEm jn_G0 jn_me171 660 (.inl jn_iadd)) <|
  jn_cons (⟨jn_iaload_ok (by decide +kernel), jn_iaload_mo⟩ : jn_GEm jn_G0 jn_me171 661 (.inl jn_iaload)) <|
  jn_cons (⟨jn_aload_n_ok (i := 0) (k := 0) (by decide +kernel) rfl, jn_aload_n_mo 0⟩ : jn_GEm jn_G0 jn_me171 662 (.inl (jn_aload_n 0))) <|
  jn_cons (⟨jn_iload_n_ok (i := 3) (k := 3) (by decide +kernel) rfl, jn_iload_n_mo 3⟩ : jn_GEm jn_G0 jn_me171 663 (.inl (jn_iload_n 3))) <|
  jn_cons (⟨jn_iconst_ok (by decide +kernel), jn_iconst_mo 3⟩ : jn_GEm jn_G0 jn_me171 664 (.inl (jn_iconst 3))) <|
  jn_cons (⟨jn_iadd_ok (by decide +kernel), jn_iadd_mo⟩ : jn_GEm jn_G0 jn_me171 665 (.inl jn_iadd)) <|
  jn_cons (⟨jn_iaload_ok (by decide +kernel), jn_iaload_mo⟩ : jn_GEm jn_G0 jn_me171 666 (.inl jn_iaload)) <|
  jn_cons (jn_gc_of jn_G0_130 (jn_callV (i := 75) (na := 3) (ci := 7) (q := (RX7, TX7, 22)) (by decide +kernel) rfl (jn_in 818 (by decide +kernel) rfl) (jn_in 815 (by decide +kernel) rfl) (jn_in 816 (by decide +kernel) rfl) (jn_in 817 (by decide +kernel) rfl) (jn_in 60 (by decide +kernel) rfl) ⟨by decide, by decide, by decide +kernel⟩) : jn_GEm jn_G0 jn_me171 667 (.inr (.inl (130, 9, 4)))) <|
  jn_cons (⟨jn_iceq_ok (t := 1252) (off := 582) (by decide +kernel) (by decide), jn_iceq_mo 1252⟩ : jn_GEm jn_G0 jn_me171 670 (.inl (jn_iceq 1252))) <|
  jn_cons (⟨jn_iconst_ok (by decide +kernel), jn_iconst_mo 0⟩ : jn_GEm jn_G0 jn_me171 673 (.inl (jn_iconst 0))) <|
  jn_cons (⟨(by decide +kernel), rfl⟩ : jn_GEm jn_G0 jn_me171 674 (.inr (.inr 2))) <|
  jn_cons (⟨jn_aload_n_ok (i := 1) (k := 1) (by decide +kernel) rfl, jn_aload_n_mo 1⟩ : jn_GEm jn_G0 jn_me171 675 (.inl (jn_aload_n 1))) <|
  jn_cons (⟨jn_aload_n_ok (i := 0) (k := 0) (by decide +kernel) rfl, jn_aload_n_mo 0⟩ : jn_GEm jn_G0 jn_me171 676 (.inl (jn_aload_n 0))) <|
  jn_cons (⟨jn_iload_n_ok (i := 3) (k := 3) (by decide +kernel) rfl, jn_iload_n_mo 3⟩ : jn_GEm jn_G0 jn_me171 677 (.inl (jn_iload_n 3))) <|
  jn_cons (⟨jn_iconst_ok (by decide +kernel), jn_iconst_mo 1⟩ : jn_GEm jn_G0 jn_me171 678 (.inl (jn_iconst 1))) <|
  jn_cons (⟨jn_iadd_ok (by decide +kernel), jn_iadd_mo⟩ : jn_GEm jn_G0 jn_me171 679 (.inl jn_iadd)) <|
  jn_cons (⟨jn_iaload_ok (by decide +kernel), jn_iaload_mo⟩ : jn_GEm jn_G0 jn_me171 680 (.inl jn_iaload)) <|
  jn_cons (⟨jn_aload_n_ok (i := 0) (k := 0) (by decide +kernel) rfl, jn_aload_n_mo 0⟩ : jn_GEm jn_G0 jn_me171 681 (.inl (jn_aload_n 0))) <|
  jn_cons (⟨jn_iload_n_ok (i := 3) (k := 3) (by decide +kernel) rfl, jn_iload_n_mo 3⟩ : jn_GEm jn_G0 jn_me171 682 (.inl (jn_iload_n 3))) <|
  jn_cons (⟨jn_iconst_ok (by decide +kernel), jn_iconst_mo 2⟩ : jn_GEm jn_G0 jn_me171 683 (.inl (jn_iconst 2))) <|
  jn_cons (⟨jn_iadd_ok (by decide +kernel), jn_iadd_mo⟩ : jn_GEm jn_G0 jn_me171 684 (.inl jn_iadd)) <|
  jn_cons (⟨jn_iaload_ok (by decide +kernel), jn_iaload_mo⟩ : jn_GEm jn_G0 jn_me171 685 (.inl jn_iaload)) <| jn_nil
theorem jn_o171_18 : ∀ q ∈ jn_c171_18, jn_GEm jn_G0 jn_me171 q.1 q.2 :=
  jn_cons (jn_gc_of jn_G0_60 (jn_callV (i := 76) (na := 2) (ci := 6) (q := (RX6, TX6, 11)) (by decide +kernel) rfl (jn_in 491 (by decide +kernel) rfl) (jn_in 488 (by decide +kernel) rfl) (jn_in 489 (by decide +kernel) rfl) (jn_in 490 (by decide +kernel) rfl) (jn_in 54 (by decide +kernel) rfl) ⟨by decide, by decide, by decide +kernel⟩) : jn_GEm jn_G0 jn_me171 686 (.inr (.inl (60, 8, 3)))) <|
  jn_cons (⟨jn_aload_n_ok (i := 2) (k := 2) (by decide +kernel) rfl, jn_aload_n_mo 2⟩ : jn_GEm jn_G0 jn_me171 689 (.inl (jn_aload_n 2))) <|
  jn_cons (⟨jn_aload_n_ok (i := 0) (k := 0) (by decide +kernel) rfl, jn_aload_n_mo 0⟩ : jn_GEm jn_G0 jn_me171 690 (.inl (jn_aload_n 0))) <|
  jn_cons (⟨jn_iload_n_ok (i := 3) (k := 3) (by decide +kernel) rfl, jn_iload_n_mo 3⟩ : jn_GEm jn_G0 jn_me171 691 (.inl (jn_iload_n 3))) <|
  jn_cons (⟨jn_iconst_ok (by decide +kernel), jn_iconst_mo 1⟩ : jn_GEm jn_G0 jn_me171 692 (.inl (jn_iconst 1))) <|
  jn_cons (⟨jn_iadd_ok (by decide +kernel), jn_iadd_mo⟩ : jn_GEm jn_G0 jn_me171 693 (.inl jn_iadd)) <|
  jn_cons (⟨jn_iaload_ok (by decide +kernel), jn_iaload_mo⟩ : jn_GEm jn_G0 jn_me171 694 (.inl jn_iaload)) <|
  jn_cons (⟨jn_aload_n_ok (i := 0) (k := 0) (by decide +kernel) rfl, jn_aload_n_mo 0⟩ : jn_GEm jn_G0 jn_me171 695 (.inl (jn_aload_n 0))) <|
  jn_cons (⟨jn_iload_n_ok (i := 3) (k := 3) (by decide +kernel) rfl, jn_iload_n_mo 3⟩ : jn_GEm jn_G0 jn_me171 696 (.inl (jn_iload_n 3))) <|
  jn_cons (⟨jn_iconst_ok (by decide +kernel), jn_iconst_mo 2⟩ : jn_GEm jn_G0 jn_me171 697 (.inl (jn_iconst 2))) <|
  jn_cons (⟨jn_iadd_ok (by decide +kernel), jn_iadd_mo⟩ : jn_GEm jn_G0 jn_me171 698 (.inl jn_iadd)) <|
  jn_cons (⟨jn_iaload_ok (by decide +kernel), jn_iaload_mo⟩ : jn_GEm jn_G0 jn_me171 699 (.inl jn_iaload)) <|
  jn_cons (jn_gc_of jn_G0_131 (jn_callV (i := 79) (na := 2) (ci := 7) (q := (RX7, TX7, 22)) (by decide +kernel) rfl (jn_in 838 (by decide +kernel) rfl) (jn_in 835 (by decide +kernel) rfl) (jn_in 836 (by decide +kernel) rfl) (jn_in 837 (by decide +kernel) rfl) (jn_in 60 (by decide +kernel) rfl) ⟨by decide, by decide, by decide +kernel⟩) : jn_GEm jn_G0 jn_me171 700 (.inr (.inl (131, 9, 3)))) <|
  jn_cons (⟨jn_iceq_ok (t := 1252) (off := 549) (by decide +kernel) (by decide), jn_iceq_mo 1252⟩ : jn_GEm jn_G0 jn_me171 703 (.inl (jn_iceq 1252))) <|
  jn_cons (⟨jn_iconst_ok (by decide +kernel), jn_iconst_mo 0⟩ : jn_GEm jn_G0 jn_me171 706 (.inl (jn_iconst 0))) <|
  jn_cons (⟨(by decide +kernel), rfl⟩ : jn_GEm jn_G0 jn_me171 707 (.inr (.inr 2))) <|
  jn_cons (⟨jn_aload_n_ok (i := 1) (k := 1) (by decide +kernel) rfl, jn_aload_n_mo 1⟩ : jn_GEm jn_G0 jn_me171 708 (.inl (jn_aload_n 1))) <|
  jn_cons (⟨jn_aload_n_ok (i := 0) (k := 0) (by decide +kernel) rfl, jn_aload_n_mo 0⟩ : jn_GEm jn_G0 jn_me171 709 (.inl (jn_aload_n 0))) <|
  jn_cons (⟨jn_iload_n_ok (i := 3) (k := 3) (by decide +kernel) rfl, jn_iload_n_mo 3⟩ : jn_GEm jn_G0 jn_me171 710 (.inl (jn_iload_n 3))) <|
  jn_cons (⟨jn_iconst_ok (by decide +kernel), jn_iconst_mo 1⟩ : jn_GEm jn_G0 jn_me171 711 (.inl (jn_iconst 1))) <|
  jn_cons (⟨jn_iadd_ok (by decide +kernel), jn_iadd_mo⟩ : jn_GEm jn_G0 jn_me171 712 (.inl jn_iadd)) <|
  jn_cons (⟨jn_iaload_ok (by decide +kernel), jn_iaload_mo⟩ : jn_GEm jn_G0 jn_me171 713 (.inl jn_iaload)) <|
  jn_cons (jn_gc_of jn_G0_61 (jn_callV (i := 80) (na := 1) (ci := 6) (q := (RX6, TX6, 11)) (by decide +kernel) rfl (jn_in 495 (by decide +kernel) rfl) (jn_in 492 (by decide +kernel) rfl) (jn_in 493 (by decide +kernel) rfl) (jn_in 494 (by decide +kernel) rfl) (jn_in 54 (by decide +kernel) rfl) ⟨by decide, by decide, by decide +kernel⟩) : jn_GEm jn_G0 jn_me171 714 (.inr (.inl (61, 8, 2)))) <|
  jn_cons (⟨jn_aload_n_ok (i := 2) (k := 2) (by decide +kernel) rfl, jn_aload_n_mo 2⟩ : jn_GEm jn_G0 jn_me171 717 (.inl (jn_aload_n 2))) <| jn_nil
theorem jn_o171_19 : ∀ q ∈ jn_c171_19, jn_GEm jn_G0 jn_me171 q.1 q.2 :=
  jn_cons (⟨jn_aload_n_ok (i := 0) (k := 0) (by decide +kernel) rfl, jn_aload_n_mo 0⟩ : jn_GEm jn_G0 jn_me171 718 (.inl (jn_aload_n 0))) <|
  jn_cons (⟨jn_iload_n_ok (i := 3) (k := 3) (by decide +kernel) rfl, jn_iload_n_mo 3⟩ : jn_GEm jn_G0 jn_me171 719 (.inl (jn_iload_n 3))) <|
  jn_cons (⟨jn_iconst_ok (by decide +kernel), jn_iconst_mo 1⟩ : jn_GEm jn_G0 jn_me171 720 (.inl (jn_iconst 1))) <|
  jn_cons (⟨jn_iadd_ok (by decide +kernel), jn_iadd_mo⟩ : jn_GEm jn_G0 jn_me171 721 (.inl jn_iadd)) <|
  jn_cons (⟨jn_iaload_ok (by decide +kernel), jn_iaload_mo⟩ : jn_GEm jn_G0 jn_me171 722 (.inl jn_iaload)) <|
  jn_cons (jn_gc_of jn_G0_133 (jn_callV (i := 83) (na := 1) (ci := 7) (q := (RX7, TX7, 22)) (by decide +kernel) rfl (jn_in 842 (by decide +kernel) rfl) (jn_in 839 (by decide +kernel) rfl) (jn_in 840 (by decide +kernel) rfl) (jn_in 841 (by decide +kernel) rfl) (jn_in 60 (by decide +kernel) rfl) ⟨by decide, by decide, by decide +kernel⟩) : jn_GEm jn_G0 jn_me171 723 (.inr (.inl (133, 9, 2)))) <|
  jn_cons (⟨jn_iceq_ok (t := 1252) (off := 526) (by decide +kernel) (by decide), jn_iceq_mo 1252⟩ : jn_GEm jn_G0 jn_me171 726 (.inl (jn_iceq 1252))) <|
  jn_cons (⟨jn_iconst_ok (by decide +kernel), jn_iconst_mo 0⟩ : jn_GEm jn_G0 jn_me171 729 (.inl (jn_iconst 0))) <|
  jn_cons (⟨(by decide +kernel), rfl⟩ : jn_GEm jn_G0 jn_me171 730 (.inr (.inr 2))) <|
  jn_cons (⟨jn_aload_n_ok (i := 1) (k := 1) (by decide +kernel) rfl, jn_aload_n_mo 1⟩ : jn_GEm jn_G0 jn_me171 731 (.inl (jn_aload_n 1))) <|
  jn_cons (⟨jn_aload_n_ok (i := 0) (k := 0) (by decide +kernel) rfl, jn_aload_n_mo 0⟩ : jn_GEm jn_G0 jn_me171 732 (.inl (jn_aload_n 0))) <|
  jn_cons (⟨jn_iload_n_ok (i := 3) (k := 3) (by decide +kernel) rfl, jn_iload_n_mo 3⟩ : jn_GEm jn_G0 jn_me171 733 (.inl (jn_iload_n 3))) <|
  jn_cons (⟨jn_iconst_ok (by decide +kernel), jn_iconst_mo 1⟩ : jn_GEm jn_G0 jn_me171 734 (.inl (jn_iconst 1))) <|
  jn_cons (⟨jn_iadd_ok (by decide +kernel), jn_iadd_mo⟩ : jn_GEm jn_G0 jn_me171 735 (.inl jn_iadd)) <|
  jn_cons (⟨jn_iaload_ok (by decide +kernel), jn_iaload_mo⟩ : jn_GEm jn_G0 jn_me171 736 (.inl jn_iaload)) <|
  jn_cons (⟨jn_aload_n_ok (i := 0) (k := 0) (by decide +kernel) rfl, jn_aload_n_mo 0⟩ : jn_GEm jn_G0 jn_me171 737 (.inl (jn_aload_n 0))) <|
  jn_cons (⟨jn_iload_n_ok (i := 3) (k := 3) (by decide +kernel) rfl, jn_iload_n_mo 3⟩ : jn_GEm jn_G0 jn_me171 738 (.inl (jn_iload_n 3))) <|
  jn_cons (⟨jn_iconst_ok (by decide +kernel), jn_iconst_mo 2⟩ : jn_GEm jn_G0 jn_me171 739 (.inl (jn_iconst 2))) <|
  jn_cons (⟨jn_iadd_ok (by decide +kernel), jn_iadd_mo⟩ : jn_GEm jn_G0 jn_me171 740 (.inl jn_iadd)) <|
  jn_cons (⟨jn_iaload_ok (by decide +kernel), jn_iaload_mo⟩ : jn_GEm jn_G0 jn_me171 741 (.inl jn_iaload)) <|
  jn_cons (⟨jn_aload_n_ok (i := 0) (k := 0) (by decide +kernel) rfl, jn_aload_n_mo 0⟩ : jn_GEm jn_G0 jn_me171 742 (.inl (jn_aload_n 0))) <|
  jn_cons (⟨jn_iload_n_ok (i := 3) (k := 3) (by decide +kernel) rfl, jn_iload_n_mo 3⟩ : jn_GEm jn_G0 jn_me171 743 (.inl (jn_iload_n 3))) <|
  jn_cons (⟨jn_iconst_ok (by decide +kernel), jn_iconst_mo 3⟩ : jn_GEm jn_G0 jn_me171 744 (.inl (jn_iconst 3))) <|
  jn_cons (⟨jn_iadd_ok (by decide +kernel), jn_iadd_mo⟩ : jn_GEm jn_G0 jn_me171 745 (.inl jn_iadd)) <| jn_nil
theorem jn_o171_20 : ∀ q ∈ jn_c171_20, jn_GEm jn_G0 jn_me171 q.1 q.2 :=
  jn_cons (⟨jn_iaload_ok (by decide +kernel), jn_iaload_mo⟩ : jn_GEm jn_G0 jn_me171 746 (.inl jn_iaload)) <|
  jn_cons (⟨jn_ifeq_ok (t := 754) (off := 7) (by decide +kernel) (by decide), jn_ifeq_mo 754⟩ : jn_GEm jn_G0 jn_me171 747 (.inl (jn_ifeq 754))) <|
  jn_cons (⟨jn_iconst_ok (by decide +kernel), jn_iconst_mo 1⟩ : jn_GEm jn_G0 jn_me171 750 (.inl (jn_iconst 1))) <|
  jn_cons (⟨jn_goto_ok (t := 755) (off := 4) (by decide +kernel) (by decide), jn_goto_mo 755⟩ : jn_GEm jn_G0 jn_me171 751 (.inl (jn_goto 755))) <|
  jn_cons (⟨jn_iconst_ok (by decide +kernel), jn_iconst_mo 0⟩ : jn_GEm jn_G0 jn_me171 754 (.inl (jn_iconst 0))) <|
  jn_cons (jn_gc_of jn_G0_62 (jn_callV (i := 84) (na := 3) (ci := 6) (q := (RX6, TX6, 11)) (by decide +kernel) rfl (jn_in 499 (by decide +kernel) rfl) (jn_in 496 (by decide +kernel) rfl) (jn_in 497 (by decide +kernel) rfl) (jn_in 498 (by decide +kernel) rfl) (jn_in 54 (by decide +kernel) rfl) ⟨by decide, by decide, by decide +kernel⟩) : jn_GEm jn_G0 jn_me171 755 (.inr (.inl (62, 8, 4)))) <|
  jn_cons (⟨jn_aload_n_ok (i := 2) (k := 2) (by decide +kernel) rfl, jn_aload_n_mo 2⟩ : jn_GEm jn_G0 jn_me171 758 (.inl (jn_aload_n 2))) <|
  jn_cons (⟨jn_aload_n_ok (i := 0) (k := 0) (by decide +kernel) rfl, jn_aload_n_mo 0⟩ : jn_GEm jn_G0 jn_me171 759 (.inl (jn_aload_n 0))) <|
  jn_cons (⟨jn_iload_n_ok (i := 3) (k := 3) (by decide +kernel) rfl, jn_iload_n_mo 3⟩ : jn_GEm jn_G0 jn_me171 760 (.inl (jn_iload_n 3))) <|
  jn_cons (⟨jn_iconst_ok (by decide +kernel), jn_iconst_mo 1⟩ : jn_GEm jn_G0 jn_me171 761 (.inl (jn_iconst 1))) <|
  jn_cons (⟨jn_iadd_ok (by decide +kernel), jn_iadd_mo⟩ : jn_GEm jn_G0 jn_me171 762 (.inl jn_iadd)) <|
  jn_cons (⟨jn_iaload_ok (by decide +kernel), jn_iaload_mo⟩ : jn_GEm jn_G0 jn_me171 763 (.inl jn_iaload)) <|
  jn_cons (⟨jn_aload_n_ok (i := 0) (k := 0) (by decide +kernel) rfl, jn_aload_n_mo 0⟩ : jn_GEm jn_G0 jn_me171 764 (.inl (jn_aload_n 0))) <|
  jn_cons (⟨jn_iload_n_ok (i := 3) (k := 3) (by decide +kernel) rfl, jn_iload_n_mo 3⟩ : jn_GEm jn_G0 jn_me171 765 (.inl (jn_iload_n 3))) <|
  jn_cons (⟨jn_iconst_ok (by decide +kernel), jn_iconst_mo 2⟩ : jn_GEm jn_G0 jn_me171 766 (.inl (jn_iconst 2))) <|
  jn_cons (⟨jn_iadd_ok (by decide +kernel), jn_iadd_mo⟩ : jn_GEm jn_G0 jn_me171 767 (.inl jn_iadd)) <|
  jn_cons (⟨jn_iaload_ok (by decide +kernel), jn_iaload_mo⟩ : jn_GEm jn_G0 jn_me171 768 (.inl jn_iaload)) <|
  jn_cons (⟨jn_aload_n_ok (i := 0) (k := 0) (by decide +kernel) rfl, jn_aload_n_mo 0⟩ : jn_GEm jn_G0 jn_me171 769 (.inl (jn_aload_n 0))) <|
  jn_cons (⟨jn_iload_n_ok (i := 3) (k := 3) (by decide +kernel) rfl, jn_iload_n_mo 3⟩ : jn_GEm jn_G0 jn_me171 770 (.inl (jn_iload_n 3))) <|
  jn_cons (⟨jn_iconst_ok (by decide +kernel), jn_iconst_mo 3⟩ : jn_GEm jn_G0 jn_me171 771 (.inl (jn_iconst 3))) <|
  jn_cons (⟨jn_iadd_ok (by decide +kernel), jn_iadd_mo⟩ : jn_GEm jn_G0 jn_me171 772 (.inl jn_iadd)) <|
  jn_cons (⟨jn_iaload_ok (by decide +kernel), jn_iaload_mo⟩ : jn_GEm jn_G0 jn_me171 773 (.inl jn_iaload)) <|
  jn_cons (⟨jn_ifeq_ok (t := 781) (off := 7) (by decide +kernel) (by decide), jn_ifeq_mo 781⟩ : jn_GEm jn_G0 jn_me171 774 (.inl (jn_ifeq 781))) <|
  jn_cons (⟨jn_iconst_ok (by decide +kernel), jn_iconst_mo 1⟩ : jn_GEm jn_G0 jn_me171 777 (.inl (jn_iconst 1))) <| jn_nil
theorem jn_o171_21 : ∀ q ∈ jn_c171_21, jn_GEm jn_G0 jn_me171 q.1 q.2 :=
  jn_cons (⟨jn_goto_ok (t := 782) (off := 4) (by decide +kernel) (by decide), jn_goto_mo 782⟩ : jn_GEm jn_G0 jn_me171 778 (.inl (jn_goto 782))) <|
  jn_cons (⟨jn_iconst_ok (by decide +kernel), jn_iconst_mo 0⟩ : jn_GEm jn_G0 jn_me171 781 (.inl (jn_iconst 0))) <|
  jn_cons (jn_gc_of jn_G0_134 (jn_callV (i := 88) (na := 3) (ci := 7) (q := (RX7, TX7, 22)) (by decide +kernel) rfl (jn_in 851 (by decide +kernel) rfl) (jn_in 848 (by decide +kernel) rfl) (jn_in 849 (by decide +kernel) rfl) (jn_in 850 (by decide +kernel) rfl) (jn_in 60 (by decide +kernel) rfl) ⟨by decide, by decide, by decide +kernel⟩) : jn_GEm jn_G0 jn_me171 782 (.inr (.inl (134, 9, 4)))) <|
  jn_cons (⟨jn_iceq_ok (t := 1252) (off := 467) (by decide +kernel) (by decide), jn_iceq_mo 1252⟩ : jn_GEm jn_G0 jn_me171 785 (.inl (jn_iceq 1252))) <|
  jn_cons (⟨jn_iconst_ok (by decide +kernel), jn_iconst_mo 0⟩ : jn_GEm jn_G0 jn_me171 788 (.inl (jn_iconst 0))) <|
  jn_cons (⟨(by decide +kernel), rfl⟩ : jn_GEm jn_G0 jn_me171 789 (.inr (.inr 2))) <|
  jn_cons (⟨jn_aload_n_ok (i := 1) (k := 1) (by decide +kernel) rfl, jn_aload_n_mo 1⟩ : jn_GEm jn_G0 jn_me171 790 (.inl (jn_aload_n 1))) <|
  jn_cons (jn_gc_of jn_G0_63 (jn_callV (i := 89) (na := 0) (ci := 6) (q := (RX6, TX6, 11)) (by decide +kernel) rfl (jn_in 507 (by decide +kernel) rfl) (jn_in 504 (by decide +kernel) rfl) (jn_in 505 (by decide +kernel) rfl) (jn_in 506 (by decide +kernel) rfl) (jn_in 54 (by decide +kernel) rfl) ⟨by decide, by decide, by decide +kernel⟩) : jn_GEm jn_G0 jn_me171 791 (.inr (.inl (63, 8, 1)))) <|
  jn_cons (⟨jn_aload_n_ok (i := 2) (k := 2) (by decide +kernel) rfl, jn_aload_n_mo 2⟩ : jn_GEm jn_G0 jn_me171 794 (.inl (jn_aload_n 2))) <|
  jn_cons (jn_gc_of jn_G0_135 (jn_callV (i := 93) (na := 0) (ci := 7) (q := (RX7, TX7, 22)) (by decide +kernel) rfl (jn_in 856 (by decide +kernel) rfl) (jn_in 853 (by decide +kernel) rfl) (jn_in 854 (by decide +kernel) rfl) (jn_in 855 (by decide +kernel) rfl) (jn_in 60 (by decide +kernel) rfl) ⟨by decide, by decide, by decide +kernel⟩) : jn_GEm jn_G0 jn_me171 795 (.inr (.inl (135, 9, 1)))) <|
  jn_cons (⟨jn_iceq_ok (t := 1252) (off := 454) (by decide +kernel) (by decide), jn_iceq_mo 1252⟩ : jn_GEm jn_G0 jn_me171 798 (.inl (jn_iceq 1252))) <|
  jn_cons (⟨jn_iconst_ok (by decide +kernel), jn_iconst_mo 0⟩ : jn_GEm jn_G0 jn_me171 801 (.inl (jn_iconst 0))) <|
  jn_cons (⟨(by decide +kernel), rfl⟩ : jn_GEm jn_G0 jn_me171 802 (.inr (.inr 2))) <|
  jn_cons (⟨jn_aload_n_ok (i := 1) (k := 1) (by decide +kernel) rfl, jn_aload_n_mo 1⟩ : jn_GEm jn_G0 jn_me171 803 (.inl (jn_aload_n 1))) <|
  jn_cons (⟨jn_aload_n_ok (i := 0) (k := 0) (by decide +kernel) rfl, jn_aload_n_mo 0⟩ : jn_GEm jn_G0 jn_me171 804 (.inl (jn_aload_n 0))) <|
  jn_cons (⟨jn_iload_n_ok (i := 3) (k := 3) (by decide +kernel) rfl, jn_iload_n_mo 3⟩ : jn_GEm jn_G0 jn_me171 805 (.inl (jn_iload_n 3))) <|
  jn_cons (⟨jn_iconst_ok (by decide +kernel), jn_iconst_mo 1⟩ : jn_GEm jn_G0 jn_me171 806 (.inl (jn_iconst 1))) <|
  jn_cons (⟨jn_iadd_ok (by decide +kernel), jn_iadd_mo⟩ : jn_GEm jn_G0 jn_me171 807 (.inl jn_iadd)) <|
  jn_cons (⟨jn_iaload_ok (by decide +kernel), jn_iaload_mo⟩ : jn_GEm jn_G0 jn_me171 808 (.inl jn_iaload)) <|
  jn_cons (⟨jn_aload_n_ok (i := 0) (k := 0) (by decide +kernel) rfl, jn_aload_n_mo 0⟩ : jn_GEm jn_G0 jn_me171 809 (.inl (jn_aload_n 0))) <|
  jn_cons (⟨jn_iload_n_ok (i := 3) (k := 3) (by decide +kernel) rfl, jn_iload_n_mo 3⟩ : jn_GEm jn_G0 jn_me171 810 (.inl (jn_iload_n 3))) <|
  jn_cons (⟨jn_iconst_ok (by decide +kernel), jn_iconst_mo 2⟩ : jn_GEm jn_G0 jn_me171 811 (.inl (jn_iconst 2))) <|
  jn_cons (⟨jn_iadd_ok (by decide +kernel), jn_iadd_mo⟩ : jn_GEm jn_G0 jn_me171 812 (.inl jn_iadd)) <|
  jn_cons (⟨jn_iaload_ok (by decide +kernel), jn_iaload_mo⟩ : jn_GEm jn_G0 jn_me171 813 (.inl jn_iaload)) <| jn_nil
theorem jn_o171_22 : ∀ q ∈ jn_c171_22, jn_GEm jn_G0 jn_me171 q.1 q.2 :=
  jn_cons (jn_gc_of jn_G0_64 (jn_callV (i := 94) (na := 2) (ci := 6) (q := (RX6, TX6, 11)) (by decide +kernel) rfl (jn_in 511 (by decide +kernel) rfl) (jn_in 508 (by decide +kernel) rfl) (jn_in 509 (by decide +kernel) rfl) (jn_in 510 (by decide +kernel) rfl) (jn_in 54 (by decide +kernel) rfl) ⟨by decide, by decide, by decide +kernel⟩) : jn_GEm jn_G0 jn_me171 814 (.inr (.inl (64, 8, 3)))) <|
  jn_cons (⟨jn_aload_n_ok (i := 2) (k := 2) (by decide +kernel) rfl, jn_aload_n_mo 2⟩ : jn_GEm jn_G0 jn_me171 817 (.inl (jn_aload_n 2))) <|
  jn_cons (⟨jn_aload_n_ok (i := 0) (k := 0) (by decide +kernel) rfl, jn_aload_n_mo 0⟩ : jn_GEm jn_G0 jn_me171 818 (.inl (jn_aload_n 0))) <|
  jn_cons (⟨jn_iload_n_ok (i := 3) (k := 3) (by decide +kernel) rfl, jn_iload_n_mo 3⟩ : jn_GEm jn_G0 jn_me171 819 (.inl (jn_iload_n 3))) <|
  jn_cons (⟨jn_iconst_ok (by decide +kernel), jn_iconst_mo 1⟩ : jn_GEm jn_G0 jn_me171 820 (.inl (jn_iconst 1))) <|
  jn_cons (⟨jn_iadd_ok (by decide +kernel), jn_iadd_mo⟩ : jn_GEm jn_G0 jn_me171 821 (.inl jn_iadd)) <|
  jn_cons (⟨jn_iaload_ok (by decide +kernel), jn_iaload_mo⟩ : jn_GEm jn_G0 jn_me171 822 (.inl jn_iaload)) <|
  jn_cons (⟨jn_aload_n_ok (i := 0) (k := 0) (by decide +kernel) rfl, jn_aload_n_mo 0⟩ : jn_GEm jn_G0 jn_me171 823 (.inl (jn_aload_n 0))) <|
  jn_cons (⟨jn_iload_n_ok (i := 3) (k := 3) (by decide +kernel) rfl, jn_iload_n_mo 3⟩ : jn_GEm jn_G0 jn_me171 824 (.inl (jn_iload_n 3))) <|
  jn_cons (⟨jn_iconst_ok (by decide +kernel), jn_iconst_mo 2⟩ : jn_GEm jn_G0 jn_me171 825 (.inl (jn_iconst 2))) <|
  jn_cons (⟨jn_iadd_ok (by decide +kernel), jn_iadd_mo⟩ : jn_GEm jn_G0 jn_me171 826 (.inl jn_iadd)) <|
  jn_cons (⟨jn_iaload_ok (by decide +kernel), jn_iaload_mo⟩ : jn_GEm jn_G0 jn_me171 827 (.inl jn_iaload)) <|
  jn_cons (jn_gc_of jn_G0_136 (jn_callV (i := 97) (na := 2) (ci := 7) (q := (RX7, TX7, 22)) (by decide +kernel) rfl (jn_in 860 (by decide +kernel) rfl) (jn_in 857 (by decide +kernel) rfl) (jn_in 858 (by decide +kernel) rfl) (jn_in 859 (by decide +kernel) rfl) (jn_in 60 (by decide +kernel) rfl) ⟨by decide, by decide, by decide +kernel⟩) : jn_GEm jn_G0 jn_me171 828 (.inr (.inl (136, 9, 3)))) <|
  jn_cons (⟨jn_iceq_ok (t := 1252) (off := 421) (by decide +kernel) (by decide), jn_iceq_mo 1252⟩ : jn_GEm jn_G0 jn_me171 831 (.inl (jn_iceq 1252))) <|
  jn_cons (⟨jn_iconst_ok (by decide +kernel), jn_iconst_mo 0⟩ : jn_GEm jn_G0 jn_me171 834 (.inl (jn_iconst 0))) <|
  jn_cons (⟨(by decide +kernel), rfl⟩ : jn_GEm jn_G0 jn_me171 835 (.inr (.inr 2))) <|
  jn_cons (⟨jn_aload_n_ok (i := 1) (k := 1) (by decide +kernel) rfl, jn_aload_n_mo 1⟩ : jn_GEm jn_G0 jn_me171 836 (.inl (jn_aload_n 1))) <|
  jn_cons (⟨jn_aload_n_ok (i := 0) (k := 0) (by decide +kernel) rfl, jn_aload_n_mo 0⟩ : jn_GEm jn_G0 jn_me171 837 (.inl (jn_aload_n 0))) <|
  jn_cons (⟨jn_iload_n_ok (i := 3) (k := 3) (by decide +kernel) rfl, jn_iload_n_mo 3⟩ : jn_GEm jn_G0 jn_me171 838 (.inl (jn_iload_n 3))) <|
  jn_cons (⟨jn_iconst_ok (by decide +kernel), jn_iconst_mo 1⟩ : jn_GEm jn_G0 jn_me171 839 (.inl (jn_iconst 1))) <|
  jn_cons (⟨jn_iadd_ok (by decide +kernel), jn_iadd_mo⟩ : jn_GEm jn_G0 jn_me171 840 (.inl jn_iadd)) <|
  jn_cons (⟨jn_iaload_ok (by decide +kernel), jn_iaload_mo⟩ : jn_GEm jn_G0 jn_me171 841 (.inl jn_iaload)) <|
  jn_cons (⟨jn_aload_n_ok (i := 0) (k := 0) (by decide +kernel) rfl, jn_aload_n_mo 0⟩ : jn_GEm jn_G0 jn_me171 842 (.inl (jn_aload_n 0))) <|
  jn_cons (⟨jn_iload_n_ok (i := 3) (k := 3) (by decide +kernel) rfl, jn_iload_n_mo 3⟩ : jn_GEm jn_G0 jn_me171 843 (.inl (jn_iload_n 3))) <| jn_nil
theorem jn_o171_23 : ∀ q ∈ jn_c171_23, jn_GEm jn_G0 jn_me171 q.1 q.2 :=
  jn_cons (⟨jn_iconst_ok (by decide +kernel), jn_iconst_mo 2⟩ : jn_GEm jn_G0 jn_me171 844 (.inl (jn_iconst 2))) <|
  jn_cons (⟨jn_iadd_ok (by decide +kernel), jn_iadd_mo⟩ : jn_GEm jn_G0 jn_me171 845 (.inl jn_iadd)) <|
  jn_cons (⟨jn_iaload_ok (by decide +kernel), jn_iaload_mo⟩ : jn_GEm jn_G0 jn_me171 846 (.inl jn_iaload)) <|
  jn_cons (jn_gc_of jn_G0_65 (jn_callV (i := 98) (na := 2) (ci := 6) (q := (RX6, TX6, 11)) (by decide +kernel) rfl (jn_in 520 (by decide +kernel) rfl) (jn_in 517 (by decide +kernel) rfl) (jn_in 518 (by decide +kernel) rfl) (jn_in 519 (by decide +kernel) rfl) (jn_in 54 (by decide +kernel) rfl) ⟨by decide, by decide, by decide +kernel⟩) : jn_GEm jn_G0 jn_me171 847 (.inr (.inl (65, 8, 3)))) <|
  jn_cons (⟨jn_aload_n_ok (i := 2) (k := 2) (by decide +kernel) rfl, jn_aload_n_mo 2⟩ : jn_GEm jn_G0 jn_me171 850 (.inl (jn_aload_n 2))) <|
  jn_cons (⟨jn_aload_n_ok (i := 0) (k := 0) (by decide +kernel) rfl, jn_aload_n_mo 0⟩ : jn_GEm jn_G0 jn_me171 851 (.inl (jn_aload_n 0))) <|
  jn_cons (⟨jn_iload_n_ok (i := 3) (k := 3) (by decide +kernel) rfl, jn_iload_n_mo 3⟩ : jn_GEm jn_G0 jn_me171 852 (.inl (jn_iload_n 3))) <|
  jn_cons (⟨jn_iconst_ok (by decide +kernel), jn_iconst_mo 1⟩ : jn_GEm jn_G0 jn_me171 853 (.inl (jn_iconst 1))) <|
  jn_cons (⟨jn_iadd_ok (by decide +kernel), jn_iadd_mo⟩ : jn_GEm jn_G0 jn_me171 854 (.inl jn_iadd)) <|
  jn_cons (⟨jn_iaload_ok (by decide +kernel), jn_iaload_mo⟩ : jn_GEm jn_G0 jn_me171 855 (.inl jn_iaload)) <|
  jn_cons (⟨jn_aload_n_ok (i := 0) (k := 0) (by decide +kernel) rfl, jn_aload_n_mo 0⟩ : jn_GEm jn_G0 jn_me171 856 (.inl (jn_aload_n 0))) <|
  jn_cons (⟨jn_iload_n_ok (i := 3) (k := 3) (by decide +kernel) rfl, jn_iload_n_mo 3⟩ : jn_GEm jn_G0 jn_me171 857 (.inl (jn_iload_n 3))) <|
  jn_cons (⟨jn_iconst_ok (by decide +kernel), jn_iconst_mo 2⟩ : jn_GEm jn_G0 jn_me171 858 (.inl (jn_iconst 2))) <|
  jn_cons (⟨jn_iadd_ok (by decide +kernel), jn_iadd_mo⟩ : jn_GEm jn_G0 jn_me171 859 (.inl jn_iadd)) <|
  jn_cons (⟨jn_iaload_ok (by decide +kernel), jn_iaload_mo⟩ : jn_GEm jn_G0 jn_me171 860 (.inl jn_iaload)) <|
  jn_cons (jn_gc_of jn_G0_140 (jn_callV (i := 101) (na := 2) (ci := 7) (q := (RX7, TX7, 22)) (by decide +kernel) rfl (jn_in 864 (by decide +kernel) rfl) (jn_in 861 (by decide +kernel) rfl) (jn_in 862 (by decide +kernel) rfl) (jn_in 863 (by decide +kernel) rfl) (jn_in 60 (by decide +kernel) rfl) ⟨by decide, by decide, by decide +kernel⟩) : jn_GEm jn_G0 jn_me171 861 (.inr (.inl (140, 9, 3)))) <|
  jn_cons (⟨jn_iceq_ok (t := 1252) (off := 388) (by decide +kernel) (by decide), jn_iceq_mo 1252⟩ : jn_GEm jn_G0 jn_me171 864 (.inl (jn_iceq 1252))) <|
  jn_cons (⟨jn_iconst_ok (by decide +kernel), jn_iconst_mo 0⟩ : jn_GEm jn_G0 jn_me171 867 (.inl (jn_iconst 0))) <|
  jn_cons (⟨(by decide +kernel), rfl⟩ : jn_GEm jn_G0 jn_me171 868 (.inr (.inr 2))) <|
  jn_cons (⟨jn_aload_n_ok (i := 1) (k := 1) (by decide +kernel) rfl, jn_aload_n_mo 1⟩ : jn_GEm jn_G0 jn_me171 869 (.inl (jn_aload_n 1))) <|
  jn_cons (⟨jn_aload_n_ok (i := 0) (k := 0) (by decide +kernel) rfl, jn_aload_n_mo 0⟩ : jn_GEm jn_G0 jn_me171 870 (.inl (jn_aload_n 0))) <|
  jn_cons (⟨jn_iload_n_ok (i := 3) (k := 3) (by decide +kernel) rfl, jn_iload_n_mo 3⟩ : jn_GEm jn_G0 jn_me171 871 (.inl (jn_iload_n 3))) <|
  jn_cons (⟨jn_iconst_ok (by decide +kernel), jn_iconst_mo 1⟩ : jn_GEm jn_G0 jn_me171 872 (.inl (jn_iconst 1))) <|
  jn_cons (⟨jn_iadd_ok (by decide +kernel), jn_iadd_mo⟩ : jn_GEm jn_G0 jn_me171 873 (.inl jn_iadd)) <| jn_nil
theorem jn_o171_24 : ∀ q ∈ jn_c171_24, jn_GEm jn_G0 jn_me171 q.1 q.2 :=
  jn_cons (⟨jn_iaload_ok (by decide +kernel), jn_iaload_mo⟩ : jn_GEm jn_G0 jn_me171 874 (.inl jn_iaload)) <|
  jn_cons (⟨jn_aload_n_ok (i := 0) (k := 0) (by decide +kernel) rfl, jn_aload_n_mo 0⟩ : jn_GEm jn_G0 jn_me171 875 (.inl (jn_aload_n 0))) <|
  jn_cons (⟨jn_iload_n_ok (i := 3) (k := 3) (by decide +kernel) rfl, jn_iload_n_mo 3⟩ : jn_GEm jn_G0 jn_me171 876 (.inl (jn_iload_n 3))) <|
  jn_cons (⟨jn_iconst_ok (by decide +kernel), jn_iconst_mo 2⟩ : jn_GEm jn_G0 jn_me171 877 (.inl (jn_iconst 2))) <|
  jn_cons (⟨jn_iadd_ok (by decide +kernel), jn_iadd_mo⟩ : jn_GEm jn_G0 jn_me171 878 (.inl jn_iadd)) <|
  jn_cons (⟨jn_iaload_ok (by decide +kernel), jn_iaload_mo⟩ : jn_GEm jn_G0 jn_me171 879 (.inl jn_iaload)) <|
  jn_cons (jn_gc_of jn_G0_66 (jn_callV (i := 102) (na := 2) (ci := 6) (q := (RX6, TX6, 11)) (by decide +kernel) rfl (jn_in 525 (by decide +kernel) rfl) (jn_in 522 (by decide +kernel) rfl) (jn_in 523 (by decide +kernel) rfl) (jn_in 524 (by decide +kernel) rfl) (jn_in 54 (by decide +kernel) rfl) ⟨by decide, by decide, by decide +kernel⟩) : jn_GEm jn_G0 jn_me171 880 (.inr (.inl (66, 8, 3)))) <|
  jn_cons (⟨jn_aload_n_ok (i := 2) (k := 2) (by decide +kernel) rfl, jn_aload_n_mo 2⟩ : jn_GEm jn_G0 jn_me171 883 (.inl (jn_aload_n 2))) <|
  jn_cons (⟨jn_aload_n_ok (i := 0) (k := 0) (by decide +kernel) rfl, jn_aload_n_mo 0⟩ : jn_GEm jn_G0 jn_me171 884 (.inl (jn_aload_n 0))) <|
  jn_cons (⟨jn_iload_n_ok (i := 3) (k := 3) (by decide +kernel) rfl, jn_iload_n_mo 3⟩ : jn_GEm jn_G0 jn_me171 885 (.inl (jn_iload_n 3))) <|
  jn_cons (⟨jn_iconst_ok (by decide +kernel), jn_iconst_mo 1⟩ : jn_GEm jn_G0 jn_me171 886 (.inl (jn_iconst 1))) <|
  jn_cons (⟨jn_iadd_ok (by decide +kernel), jn_iadd_mo⟩ : jn_GEm jn_G0 jn_me171 887 (.inl jn_iadd)) <|
  jn_cons (⟨jn_iaload_ok (by decide +kernel), jn_iaload_mo⟩ : jn_GEm jn_G0 jn_me171 888 (.inl jn_iaload)) <|
  jn_cons (⟨jn_aload_n_ok (i := 0) (k := 0) (by decide +kernel) rfl, jn_aload_n_mo 0⟩ : jn_GEm jn_G0 jn_me171 889 (.inl (jn_aload_n 0))) <|
  jn_cons (⟨jn_iload_n_ok (i := 3) (k := 3) (by decide +kernel) rfl, jn_iload_n_mo 3⟩ : jn_GEm jn_G0 jn_me171 890 (.inl (jn_iload_n 3))) <|
  jn_cons (⟨jn_iconst_ok (by decide +kernel), jn_iconst_mo 2⟩ : jn_GEm jn_G0 jn_me171 891 (.inl (jn_iconst 2))) <|
  jn_cons (⟨jn_iadd_ok (by decide +kernel), jn_iadd_mo⟩ : jn_GEm jn_G0 jn_me171 892 (.inl jn_iadd)) <|
  jn_cons (⟨jn_iaload_ok (by decide +kernel), jn_iaload_mo⟩ : jn_GEm jn_G0 jn_me171 893 (.inl jn_iaload)) <|
  jn_cons (jn_gc_of jn_G0_143 (jn_callV (i := 105) (na := 2) (ci := 7) (q := (RX7, TX7, 22)) (by decide +kernel) rfl (jn_in 880 (by decide +kernel) rfl) (jn_in 877 (by decide +kernel) rfl) (jn_in 878 (by decide +kernel) rfl) (jn_in 879 (by decide +kernel) rfl) (jn_in 60 (by decide +kernel) rfl) ⟨by decide, by decide, by decide +kernel⟩) : jn_GEm jn_G0 jn_me171 894 (.inr (.inl (143, 9, 3)))) <|
  jn_cons (⟨jn_iceq_ok (t := 1252) (off := 355) (by decide +kernel) (by decide), jn_iceq_mo 1252⟩ : jn_GEm jn_G0 jn_me171 897 (.inl (jn_iceq 1252))) <|
  jn_cons (⟨jn_iconst_ok (by decide +kernel), jn_iconst_mo 0⟩ : jn_GEm jn_G0 jn_me171 900 (.inl (jn_iconst 0))) <|
  jn_cons (⟨(by decide +kernel), rfl⟩ : jn_GEm jn_G0 jn_me171 901 (.inr (.inr 2))) <|
  jn_cons (⟨jn_aload_n_ok (i := 1) (k := 1) (by decide +kernel) rfl, jn_aload_n_mo 1⟩ : jn_GEm jn_G0 jn_me171 902 (.inl (jn_aload_n 1))) <|
  jn_cons (⟨jn_aload_n_ok (i := 0) (k := 0) (by decide +kernel) rfl, jn_aload_n_mo 0⟩ : jn_GEm jn_G0 jn_me171 903 (.inl (jn_aload_n 0))) <| jn_nil
theorem jn_o171_25 : ∀ q ∈ jn_c171_25, jn_GEm jn_G0 jn_me171 q.1 q.2 :=
  jn_cons (⟨jn_iload_n_ok (i := 3) (k := 3) (by decide +kernel) rfl, jn_iload_n_mo 3⟩ : jn_GEm jn_G0 jn_me171 904 (.inl (jn_iload_n 3))) <|
  jn_cons (⟨jn_iconst_ok (by decide +kernel), jn_iconst_mo 1⟩ : jn_GEm jn_G0 jn_me171 905 (.inl (jn_iconst 1))) <|
  jn_cons (⟨jn_iadd_ok (by decide +kernel), jn_iadd_mo⟩ : jn_GEm jn_G0 jn_me171 906 (.inl jn_iadd)) <|
  jn_cons (⟨jn_iaload_ok (by decide +kernel), jn_iaload_mo⟩ : jn_GEm jn_G0 jn_me171 907 (.inl jn_iaload)) <|
  jn_cons (⟨jn_aload_n_ok (i := 0) (k := 0) (by decide +kernel) rfl, jn_aload_n_mo 0⟩ : jn_GEm jn_G0 jn_me171 908 (.inl (jn_aload_n 0))) <|
  jn_cons (⟨jn_iload_n_ok (i := 3) (k := 3) (by decide +kernel) rfl, jn_iload_n_mo 3⟩ : jn_GEm jn_G0 jn_me171 909 (.inl (jn_iload_n 3))) <|
  jn_cons (⟨jn_iconst_ok (by decide +kernel), jn_iconst_mo 2⟩ : jn_GEm jn_G0 jn_me171 910 (.inl (jn_iconst 2))) <|
  jn_cons (⟨jn_iadd_ok (by decide +kernel), jn_iadd_mo⟩ : jn_GEm jn_G0 jn_me171 911 (.inl jn_iadd)) <|
  jn_cons (⟨jn_iaload_ok (by decide +kernel), jn_iaload_mo⟩ : jn_GEm jn_G0 jn_me171 912 (.inl jn_iaload)) <|
  jn_cons (jn_gc_of jn_G0_67 (jn_callV (i := 106) (na := 2) (ci := 6) (q := (RX6, TX6, 11)) (by decide +kernel) rfl (jn_in 540 (by decide +kernel) rfl) (jn_in 537 (by decide +kernel) rfl) (jn_in 538 (by decide +kernel) rfl) (jn_in 539 (by decide +kernel) rfl) (jn_in 54 (by decide +kernel) rfl) ⟨by decide, by decide, by decide +kernel⟩) : jn_GEm jn_G0 jn_me171 913 (.inr (.inl (67, 8, 3)))) <|
  jn_cons (⟨jn_aload_n_ok (i := 2) (k := 2) (by decide +kernel) rfl, jn_aload_n_mo 2⟩ : jn_GEm jn_G0 jn_me171 916 (.inl (jn_aload_n 2))) <|
  jn_cons (⟨jn_aload_n_ok (i := 0) (k := 0) (by decide +kernel) rfl, jn_aload_n_mo 0⟩ : jn_GEm jn_G0 jn_me171 917 (.inl (jn_aload_n 0))) <|
  jn_cons (⟨jn_iload_n_ok (i := 3) (k := 3) (by decide +kernel) rfl, jn_iload_n_mo 3⟩ : jn_GEm jn_G0 jn_me171 918 (.inl (jn_iload_n 3))) <|
  jn_cons (⟨jn_iconst_ok (by decide +kernel), jn_iconst_mo 1⟩ : jn_GEm jn_G0 jn_me171 919 (.inl (jn_iconst 1))) <|
  jn_cons (⟨jn_iadd_ok (by decide +kernel), jn_iadd_mo⟩ : jn_GEm jn_G0 jn_me171 920 (.inl jn_iadd)) <|
  jn_cons (⟨jn_iaload_ok (by decide +kernel), jn_iaload_mo⟩ : jn_GEm jn_G0 jn_me171 921 (.inl jn_iaload)) <|
  jn_cons (⟨jn_aload_n_ok (i := 0) (k := 0) (by decide +kernel) rfl, jn_aload_n_mo 0⟩ : jn_GEm jn_G0 jn_me171 922 (.inl (jn_aload_n 0))) <|
  jn_cons (⟨jn_iload_n_ok (i := 3) (k := 3) (by decide +kernel) rfl, jn_iload_n_mo 3⟩ : jn_GEm jn_G0 jn_me171 923 (.inl (jn_iload_n 3))) <|
  jn_cons (⟨jn_iconst_ok (by decide +kernel), jn_iconst_mo 2⟩ : jn_GEm jn_G0 jn_me171 924 (.inl (jn_iconst 2))) <|
  jn_cons (⟨jn_iadd_ok (by decide +kernel), jn_iadd_mo⟩ : jn_GEm jn_G0 jn_me171 925 (.inl jn_iadd)) <|
  jn_cons (⟨jn_iaload_ok (by decide +kernel), jn_iaload_mo⟩ : jn_GEm jn_G0 jn_me171 926 (.inl jn_iaload)) <|
  jn_cons (jn_gc_of jn_G0_144 (jn_callV (i := 109) (na := 2) (ci := 7) (q := (RX7, TX7, 22)) (by decide +kernel) rfl (jn_in 892 (by decide +kernel) rfl) (jn_in 889 (by decide +kernel) rfl) (jn_in 890 (by decide +kernel) rfl) (jn_in 891 (by decide +kernel) rfl) (jn_in 60 (by decide +kernel) rfl) ⟨by decide, by decide, by decide +kernel⟩) : jn_GEm jn_G0 jn_me171 927 (.inr (.inl (144, 9, 3)))) <|
  jn_cons (⟨jn_iceq_ok (t := 1252) (off := 322) (by decide +kernel) (by decide), jn_iceq_mo 1252⟩ : jn_GEm jn_G0 jn_me171 930 (.inl (jn_iceq 1252))) <|
  jn_cons (⟨jn_iconst_ok (by decide +kernel), jn_iconst_mo 0⟩ : jn_GEm jn_G0 jn_me171 933 (.inl (jn_iconst 0))) <| jn_nil
theorem jn_o171_26 : ∀ q ∈ jn_c171_26, jn_GEm jn_G0 jn_me171 q.1 q.2 :=
  jn_cons (⟨(by decide +kernel), rfl⟩ : jn_GEm jn_G0 jn_me171 934 (.inr (.inr 2))) <|
  jn_cons (⟨jn_aload_n_ok (i := 1) (k := 1) (by decide +kernel) rfl, jn_aload_n_mo 1⟩ : jn_GEm jn_G0 jn_me171 935 (.inl (jn_aload_n 1))) <|
  jn_cons (⟨jn_aload_n_ok (i := 0) (k := 0) (by decide +kernel) rfl, jn_aload_n_mo 0⟩ : jn_GEm jn_G0 jn_me171 936 (.inl (jn_aload_n 0))) <|
  jn_cons (⟨jn_iload_n_ok (i := 3) (k := 3) (by decide +kernel) rfl, jn_iload_n_mo 3⟩ : jn_GEm jn_G0 jn_me171 937 (.inl (jn_iload_n 3))) <|
  jn_cons (⟨jn_iconst_ok (by decide +kernel), jn_iconst_mo 1⟩ : jn_GEm jn_G0 jn_me171 938 (.inl (jn_iconst 1))) <|
  jn_cons (⟨jn_iadd_ok (by decide +kernel), jn_iadd_mo⟩ : jn_GEm jn_G0 jn_me171 939 (.inl jn_iadd)) <|
  jn_cons (⟨jn_iaload_ok (by decide +kernel), jn_iaload_mo⟩ : jn_GEm jn_G0 jn_me171 940 (.inl jn_iaload)) <|
  jn_cons (jn_gc_of jn_G0_68 (jn_callV (i := 110) (na := 1) (ci := 6) (q := (RX6, TX6, 11)) (by decide +kernel) rfl (jn_in 547 (by decide +kernel) rfl) (jn_in 544 (by decide +kernel) rfl) (jn_in 545 (by decide +kernel) rfl) (jn_in 546 (by decide +kernel) rfl) (jn_in 54 (by decide +kernel) rfl) ⟨by decide, by decide, by decide +kernel⟩) : jn_GEm jn_G0 jn_me171 941 (.inr (.inl (68, 8, 2)))) <|
  jn_cons (⟨jn_aload_n_ok (i := 2) (k := 2) (by decide +kernel) rfl, jn_aload_n_mo 2⟩ : jn_GEm jn_G0 jn_me171 944 (.inl (jn_aload_n 2))) <|
  jn_cons (⟨jn_aload_n_ok (i := 0) (k := 0) (by decide +kernel) rfl, jn_aload_n_mo 0⟩ : jn_GEm jn_G0 jn_me171 945 (.inl (jn_aload_n 0))) <|
  jn_cons (⟨jn_iload_n_ok (i := 3) (k := 3) (by decide +kernel) rfl, jn_iload_n_mo 3⟩ : jn_GEm jn_G0 jn_me171 946 (.inl (jn_iload_n 3))) <|
  jn_cons (⟨jn_iconst_ok (by decide +kernel), jn_iconst_mo 1⟩ : jn_GEm jn_G0 jn_me171 947 (.inl (jn_iconst 1))) <|
  jn_cons (⟨jn_iadd_ok (by decide +kernel), jn_iadd_mo⟩ : jn_GEm jn_G0 jn_me171 948 (.inl jn_iadd)) <|
  jn_cons (⟨jn_iaload_ok (by decide +kernel), jn_iaload_mo⟩ : jn_GEm jn_G0 jn_me171 949 (.inl jn_iaload)) <|
  jn_cons (jn_gc_of jn_G0_146 (jn_callV (i := 113) (na := 1) (ci := 7) (q := (RX7, TX7, 22)) (by decide +kernel) rfl (jn_in 896 (by decide +kernel) rfl) (jn_in 893 (by decide +kernel) rfl) (jn_in 894 (by decide +kernel) rfl) (jn_in 895 (by decide +kernel) rfl) (jn_in 60 (by decide +kernel) rfl) ⟨by decide, by decide, by decide +kernel⟩) : jn_GEm jn_G0 jn_me171 950 (.inr (.inl (146, 9, 2)))) <|
  jn_cons (⟨jn_iceq_ok (t := 1252) (off := 299) (by decide +kernel) (by decide), jn_iceq_mo 1252⟩ : jn_GEm jn_G0 jn_me171 953 (.inl (jn_iceq 1252))) <|
  jn_cons (⟨jn_iconst_ok (by decide +kernel), jn_iconst_mo 0⟩ : jn_GEm jn_G0 jn_me171 956 (.inl (jn_iconst 0))) <|
  jn_cons (⟨(by decide +kernel), rfl⟩ : jn_GEm jn_G0 jn_me171 957 (.inr (.inr 2))) <|
  jn_cons (⟨jn_aload_n_ok (i := 1) (k := 1) (by decide +kernel) rfl, jn_aload_n_mo 1⟩ : jn_GEm jn_G0 jn_me171 958 (.inl (jn_aload_n 1))) <|
  jn_cons (⟨jn_aload_n_ok (i := 0) (k := 0) (by decide +kernel) rfl, jn_aload_n_mo 0⟩ : jn_GEm jn_G0 jn_me171 959 (.inl (jn_aload_n 0))) <|
  jn_cons (⟨jn_iload_n_ok (i := 3) (k := 3) (by decide +kernel) rfl, jn_iload_n_mo 3⟩ : jn_GEm jn_G0 jn_me171 960 (.inl (jn_iload_n 3))) <|
  jn_cons (⟨jn_iconst_ok (by decide +kernel), jn_iconst_mo 1⟩ : jn_GEm jn_G0 jn_me171 961 (.inl (jn_iconst 1))) <|
  jn_cons (⟨jn_iadd_ok (by decide +kernel), jn_iadd_mo⟩ : jn_GEm jn_G0 jn_me171 962 (.inl jn_iadd)) <|
  jn_cons (⟨jn_iaload_ok (by decide +kernel), jn_iaload_mo⟩ : jn_GEm jn_G0 jn_me171 963 (.inl jn_iaload)) <| jn_nil
theorem jn_o171_27 : ∀ q ∈ jn_c171_27, jn_GEm jn_G0 jn_me171 q.1 q.2 :=
  jn_cons (jn_gc_of jn_G0_69 (jn_callV (i := 114) (na := 1) (ci := 6) (q := (RX6, TX6, 11)) (by decide +kernel) rfl (jn_in 551 (by decide +kernel) rfl) (jn_in 548 (by decide +kernel) rfl) (jn_in 549 (by decide +kernel) rfl) (jn_in 550 (by decide +kernel) rfl) (jn_in 54 (by decide +kernel) rfl) ⟨by decide, by decide, by decide +kernel⟩) : jn_GEm jn_G0 jn_me171 964 (.inr (.inl (69, 8, 2)))) <|
  jn_cons (⟨jn_aload_n_ok (i := 2) (k := 2) (by decide +kernel) rfl, jn_aload_n_mo 2⟩ : jn_GEm jn_G0 jn_me171 967 (.inl (jn_aload_n 2))) <|
  jn_cons (⟨jn_aload_n_ok (i := 0) (k := 0) (by decide +kernel) rfl, jn_aload_n_mo 0⟩ : jn_GEm jn_G0 jn_me171 968 (.inl (jn_aload_n 0))) <|
  jn_cons (⟨jn_iload_n_ok (i := 3) (k := 3) (by decide +kernel) rfl, jn_iload_n_mo 3⟩ : jn_GEm jn_G0 jn_me171 969 (.inl (jn_iload_n 3))) <|
  jn_cons (⟨jn_iconst_ok (by decide +kernel), jn_iconst_mo 1⟩ : jn_GEm jn_G0 jn_me171 970 (.inl (jn_iconst 1))) <|
  jn_cons (⟨jn_iadd_ok (by decide +kernel), jn_iadd_mo⟩ : jn_GEm jn_G0 jn_me171 971 (.inl jn_iadd)) <|
  jn_cons (⟨jn_iaload_ok (by decide +kernel), jn_iaload_mo⟩ : jn_GEm jn_G0 jn_me171 972 (.inl jn_iaload)) <|
  jn_cons (jn_gc_of jn_G0_153 (jn_callV (i := 117) (na := 1) (ci := 7) (q := (RX7, TX7, 22)) (by decide +kernel) rfl (jn_in 904 (by decide +kernel) rfl) (jn_in 901 (by decide +kernel) rfl) (jn_in 902 (by decide +kernel) rfl) (jn_in 903 (by decide +kernel) rfl) (jn_in 60 (by decide +kernel) rfl) ⟨by decide, by decide, by decide +kernel⟩) : jn_GEm jn_G0 jn_me171 973 (.inr (.inl (153, 9, 2)))) <|
  jn_cons (⟨jn_iceq_ok (t := 1252) (off := 276) (by decide +kernel) (by decide), jn_iceq_mo 1252⟩ : jn_GEm jn_G0 jn_me171 976 (.inl (jn_iceq 1252))) <|
  jn_cons (⟨jn_iconst_ok (by decide +kernel), jn_iconst_mo 0⟩ : jn_GEm jn_G0 jn_me171 979 (.inl (jn_iconst 0))) <|
  jn_cons (⟨(by decide +kernel), rfl⟩ : jn_GEm jn_G0 jn_me171 980 (.inr (.inr 2))) <|
  jn_cons (⟨jn_aload_n_ok (i := 1) (k := 1) (by decide +kernel) rfl, jn_aload_n_mo 1⟩ : jn_GEm jn_G0 jn_me171 981 (.inl (jn_aload_n 1))) <|
  jn_cons (⟨jn_aload_n_ok (i := 0) (k := 0) (by decide +kernel) rfl, jn_aload_n_mo 0⟩ : jn_GEm jn_G0 jn_me171 982 (.inl (jn_aload_n 0))) <|
  jn_cons (⟨jn_iload_n_ok (i := 3) (k := 3) (by decide +kernel) rfl, jn_iload_n_mo 3⟩ : jn_GEm jn_G0 jn_me171 983 (.inl (jn_iload_n 3))) <|
  jn_cons (⟨jn_iconst_ok (by decide +kernel), jn_iconst_mo 1⟩ : jn_GEm jn_G0 jn_me171 984 (.inl (jn_iconst 1))) <|
  jn_cons (⟨jn_iadd_ok (by decide +kernel), jn_iadd_mo⟩ : jn_GEm jn_G0 jn_me171 985 (.inl jn_iadd)) <|
  jn_cons (⟨jn_iaload_ok (by decide +kernel), jn_iaload_mo⟩ : jn_GEm jn_G0 jn_me171 986 (.inl jn_iaload)) <|
  jn_cons (jn_gc_of jn_G0_70 (jn_callV (i := 118) (na := 1) (ci := 6) (q := (RX6, TX6, 11)) (by decide +kernel) rfl (jn_in 561 (by decide +kernel) rfl) (jn_in 558 (by decide +kernel) rfl) (jn_in 559 (by decide +kernel) rfl) (jn_in 560 (by decide +kernel) rfl) (jn_in 54 (by decide +kernel) rfl) ⟨by decide, by decide, by decide +kernel⟩) : jn_GEm jn_G0 jn_me171 987 (.inr (.inl (70, 8, 2)))) <|
  jn_cons (⟨jn_aload_n_ok (i := 2) (k := 2) (by decide +kernel) rfl, jn_aload_n_mo 2⟩ : jn_GEm jn_G0 jn_me171 990 (.inl (jn_aload_n 2))) <|
  jn_cons (⟨jn_aload_n_ok (i := 0) (k := 0) (by decide +kernel) rfl, jn_aload_n_mo 0⟩ : jn_GEm jn_G0 jn_me171 991 (.inl (jn_aload_n 0))) <|
  jn_cons (⟨jn_iload_n_ok (i := 3) (k := 3) (by decide +kernel) rfl, jn_iload_n_mo 3⟩ : jn_GEm jn_G0 jn_me171 992 (.inl (jn_iload_n 3))) <|
  jn_cons (⟨jn_iconst_ok (by decide +kernel), jn_iconst_mo 1⟩ : jn_GEm jn_G0 jn_me171 993 (.inl (jn_iconst 1))) <|
  jn_cons (⟨jn_iadd_ok (by decide +kernel), jn_iadd_mo⟩ : jn_GEm jn_G0 jn_me171 994 (.inl jn_iadd)) <|
  jn_cons (⟨jn_iaload_ok (by decide +kernel), jn_iaload_mo⟩ : jn_GEm jn_G0 jn_me171 995 (.inl jn_iaload)) <| jn_nil
theorem jn_o171_28 : ∀ q ∈ jn_c171_28, jn_GEm jn_G0 jn_me171 q.1 q.2 :=
  jn_cons (jn_gc_of jn_G0_154 (jn_callV (i := 121) (na := 1) (ci := 7) (q := (RX7, TX7, 22)) (by decide +kernel) rfl (jn_in 933 (by decide +kernel) rfl) (jn_in 930 (by decide +kernel) rfl) (jn_in 931 (by decide +kernel) rfl) (jn_in 932 (by decide +kernel) rfl) (jn_in 60 (by decide +kernel) rfl) ⟨by decide, by decide, by decide +kernel⟩) : jn_GEm jn_G0 jn_me171 996 (.inr (.inl (154, 9, 2)))) <|
  jn_cons (⟨jn_iceq_ok (t := 1252) (off := 253) (by decide +kernel) (by decide), jn_iceq_mo 1252⟩ : jn_GEm jn_G0 jn_me171 999 (.inl (jn_iceq 1252))) <|
  jn_cons (⟨jn_iconst_ok (by decide +kernel), jn_iconst_mo 0⟩ : jn_GEm jn_G0 jn_me171 1002 (.inl (jn_iconst 0))) <|
  jn_cons (⟨(by decide +kernel), rfl⟩ : jn_GEm jn_G0 jn_me171 1003 (.inr (.inr 2))) <|
  jn_cons (⟨jn_aload_n_ok (i := 1) (k := 1) (by decide +kernel) rfl, jn_aload_n_mo 1⟩ : jn_GEm jn_G0 jn_me171 1004 (.inl (jn_aload_n 1))) <|
  jn_cons (⟨jn_aload_n_ok (i := 0) (k := 0) (by decide +kernel) rfl, jn_aload_n_mo 0⟩ : jn_GEm jn_G0 jn_me171 1005 (.inl (jn_aload_n 0))) <|
  jn_cons (⟨jn_iload_n_ok (i := 3) (k := 3) (by decide +kernel) rfl, jn_iload_n_mo 3⟩ : jn_GEm jn_G0 jn_me171 1006 (.inl (jn_iload_n 3))) <|
  jn_cons (⟨jn_iconst_ok (by decide +kernel), jn_iconst_mo 1⟩ : jn_GEm jn_G0 jn_me171 1007 (.inl (jn_iconst 1))) <|
  jn_cons (⟨jn_iadd_ok (by decide +kernel), jn_iadd_mo⟩ : jn_GEm jn_G0 jn_me171 1008 (.inl jn_iadd)) <|
  jn_cons (⟨jn_iaload_ok (by decide +kernel), jn_iaload_mo⟩ : jn_GEm jn_G0 jn_me171 1009 (.inl jn_iaload)) <|
  jn_cons (jn_gc_of jn_G0_71 (jn_callV (i := 122) (na := 1) (ci := 6) (q := (RX6, TX6, 11)) (by decide +kernel) rfl (jn_in 567 (by decide +kernel) rfl) (jn_in 564 (by decide +kernel) rfl) (jn_in 565 (by decide +kernel) rfl) (jn_in 566 (by decide +kernel) rfl) (jn_in 54 (by decide +kernel) rfl) ⟨by decide, by decide, by decide +kernel⟩) : jn_GEm jn_G0 jn_me171 1010 (.inr (.inl (71, 8, 2)))) <|
  jn_cons (⟨jn_aload_n_ok (i := 2) (k := 2) (by decide +kernel) rfl, jn_aload_n_mo 2⟩ : jn_GEm jn_G0 jn_me171 1013 (.inl (jn_aload_n 2))) <|
  jn_cons (⟨jn_aload_n_ok (i := 0) (k := 0) (by decide +kernel) rfl, jn_aload_n_mo 0⟩ : jn_GEm jn_G0 jn_me171 1014 (.inl (jn_aload_n 0))) <|
  jn_cons (⟨jn_iload_n_ok (i := 3) (k := 3) (by decide +kernel) rfl, jn_iload_n_mo 3⟩ : jn_GEm jn_G0 jn_me171 1015 (.inl (jn_iload_n 3))) <|
  jn_cons (⟨jn_iconst_ok (by decide +kernel), jn_iconst_mo 1⟩ : jn_GEm jn_G0 jn_me171 1016 (.inl (jn_iconst 1))) <|
  jn_cons (⟨jn_iadd_ok (by decide +kernel), jn_iadd_mo⟩ : jn_GEm jn_G0 jn_me171 1017 (.inl jn_iadd)) <|
  jn_cons (⟨jn_iaload_ok (by decide +kernel), jn_iaload_mo⟩ : jn_GEm jn_G0 jn_me171 1018 (.inl jn_iaload)) <|
  jn_cons (jn_gc_of jn_G0_157 (jn_callV (i := 125) (na := 1) (ci := 7) (q := (RX7, TX7, 22)) (by decide +kernel) rfl (jn_in 945 (by decide +kernel) rfl) (jn_in 942 (by decide +kernel) rfl) (jn_in 943 (by decide +kernel) rfl) (jn_in 944 (by decide +kernel) rfl) (jn_in 60 (by decide +kernel) rfl) ⟨by decide, by decide, by decide +kernel⟩) : jn_GEm jn_G0 jn_me171 1019 (.inr (.inl (157, 9, 2)))) <|
  jn_cons (⟨jn_lcmp_ok (by decide +kernel), jn_lcmp_mo⟩ : jn_GEm jn_G0 jn_me171 1022 (.inl jn_lcmp)) <|
  jn_cons (⟨jn_ifeq_ok (t := 1252) (off := 229) (by decide +kernel) (by decide), jn_ifeq_mo 1252⟩ : jn_GEm jn_G0 jn_me171 1023 (.inl (jn_ifeq 1252))) <|
  jn_cons (⟨jn_iconst_ok (by decide +kernel), jn_iconst_mo 0⟩ : jn_GEm jn_G0 jn_me171 1026 (.inl (jn_iconst 0))) <|
  jn_cons (⟨(by decide +kernel), rfl⟩ : jn_GEm jn_G0 jn_me171 1027 (.inr (.inr 2))) <|
  jn_cons (⟨jn_aload_n_ok (i := 1) (k := 1) (by decide +kernel) rfl, jn_aload_n_mo 1⟩ : jn_GEm jn_G0 jn_me171 1028 (.inl (jn_aload_n 1))) <|
  jn_cons (⟨jn_aload_n_ok (i := 0) (k := 0) (by decide +kernel) rfl, jn_aload_n_mo 0⟩ : jn_GEm jn_G0 jn_me171 1029 (.inl (jn_aload_n 0))) <| jn_nil
theorem jn_o171_29 : ∀ q ∈ jn_c171_29, jn_GEm jn_G0 jn_me171 q.1 q.2 :=
  jn_cons (⟨jn_iload_n_ok (i := 3) (k := 3) (by decide +kernel) rfl, jn_iload_n_mo 3⟩ : jn_GEm jn_G0 jn_me171 1030 (.inl (jn_iload_n 3))) <|
  jn_cons (⟨jn_iconst_ok (by decide +kernel), jn_iconst_mo 1⟩ : jn_GEm jn_G0 jn_me171 1031 (.inl (jn_iconst 1))) <|
  jn_cons (⟨jn_iadd_ok (by decide +kernel), jn_iadd_mo⟩ : jn_GEm jn_G0 jn_me171 1032 (.inl jn_iadd)) <|
  jn_cons (⟨jn_iaload_ok (by decide +kernel), jn_iaload_mo⟩ : jn_GEm jn_G0 jn_me171 1033 (.inl jn_iaload)) <|
  jn_cons (⟨jn_aload_n_ok (i := 0) (k := 0) (by decide +kernel) rfl, jn_aload_n_mo 0⟩ : jn_GEm jn_G0 jn_me171 1034 (.inl (jn_aload_n 0))) <|
  jn_cons (⟨jn_iload_n_ok (i := 3) (k := 3) (by decide +kernel) rfl, jn_iload_n_mo 3⟩ : jn_GEm jn_G0 jn_me171 1035 (.inl (jn_iload_n 3))) <|
  jn_cons (⟨jn_iconst_ok (by decide +kernel), jn_iconst_mo 2⟩ : jn_GEm jn_G0 jn_me171 1036 (.inl (jn_iconst 2))) <|
  jn_cons (⟨jn_iadd_ok (by decide +kernel), jn_iadd_mo⟩ : jn_GEm jn_G0 jn_me171 1037 (.inl jn_iadd)) <|
  jn_cons (⟨jn_iaload_ok (by decide +kernel), jn_iaload_mo⟩ : jn_GEm jn_G0 jn_me171 1038 (.inl jn_iaload)) <|
  jn_cons (jn_gc_of jn_G0_72 (jn_callV (i := 126) (na := 2) (ci := 6) (q := (RX6, TX6, 11)) (by decide +kernel) rfl (jn_in 576 (by decide +kernel) rfl) (jn_in 573 (by decide +kernel) rfl) (jn_in 574 (by decide +kernel) rfl) (jn_in 575 (by decide +kernel) rfl) (jn_in 54 (by decide +kernel) rfl) ⟨by decide, by decide, by decide +kernel⟩) : jn_GEm jn_G0 jn_me171 1039 (.inr (.inl (72, 8, 3)))) <|
  jn_cons (⟨jn_aload_n_ok (i := 2) (k := 2) (by decide +kernel) rfl, jn_aload_n_mo 2⟩ : jn_GEm jn_G0 jn_me171 1042 (.inl (jn_aload_n 2))) <|
  jn_cons (⟨jn_aload_n_ok (i := 0) (k := 0) (by decide +kernel) rfl, jn_aload_n_mo 0⟩ : jn_GEm jn_G0 jn_me171 1043 (.inl (jn_aload_n 0))) <|
  jn_cons (⟨jn_iload_n_ok (i := 3) (k := 3) (by decide +kernel) rfl, jn_iload_n_mo 3⟩ : jn_GEm jn_G0 jn_me171 1044 (.inl (jn_iload_n 3))) <|
  jn_cons (⟨jn_iconst_ok (by decide +kernel), jn_iconst_mo 1⟩ : jn_GEm jn_G0 jn_me171 1045 (.inl (jn_iconst 1))) <|
  jn_cons (⟨jn_iadd_ok (by decide +kernel), jn_iadd_mo⟩ : jn_GEm jn_G0 jn_me171 1046 (.inl jn_iadd)) <|
  jn_cons (⟨jn_iaload_ok (by decide +kernel), jn_iaload_mo⟩ : jn_GEm jn_G0 jn_me171 1047 (.inl jn_iaload)) <|
  jn_cons (⟨jn_aload_n_ok (i := 0) (k := 0) (by decide +kernel) rfl, jn_aload_n_mo 0⟩ : jn_GEm jn_G0 jn_me171 1048 (.inl (jn_aload_n 0))) <|
  jn_cons (⟨jn_iload_n_ok (i := 3) (k := 3) (by decide +kernel) rfl, jn_iload_n_mo 3⟩ : jn_GEm jn_G0 jn_me171 1049 (.inl (jn_iload_n 3))) <|
  jn_cons (⟨jn_iconst_ok (by decide +kernel), jn_iconst_mo 2⟩ : jn_GEm jn_G0 jn_me171 1050 (.inl (jn_iconst 2))) <|
  jn_cons (⟨jn_iadd_ok (by decide +kernel), jn_iadd_mo⟩ : jn_GEm jn_G0 jn_me171 1051 (.inl jn_iadd)) <|
  jn_cons (⟨jn_iaload_ok (by decide +kernel), jn_iaload_mo⟩ : jn_GEm jn_G0 jn_me171 1052 (.inl jn_iaload)) <|
  jn_cons (jn_gc_of jn_G0_158 (jn_callV (i := 129) (na := 2) (ci := 7) (q := (RX7, TX7, 22)) (by decide +kernel) rfl (jn_in 949 (by decide +kernel) rfl) (jn_in 946 (by decide +kernel) rfl) (jn_in 947 (by decide +kernel) rfl) (jn_in 948 (by decide +kernel) rfl) (jn_in 60 (by decide +kernel) rfl) ⟨by decide, by decide, by decide +kernel⟩) : jn_GEm jn_G0 jn_me171 1053 (.inr (.inl (158, 9, 3)))) <|
  jn_cons (⟨jn_iceq_ok (t := 1252) (off := 196) (by decide +kernel) (by decide), jn_iceq_mo 1252⟩ : jn_GEm jn_G0 jn_me171 1056 (.inl (jn_iceq 1252))) <|
  jn_cons (⟨jn_iconst_ok (by decide +kernel), jn_iconst_mo 0⟩ : jn_GEm jn_G0 jn_me171 1059 (.inl (jn_iconst 0))) <| jn_nil
theorem jn_o171_30 : ∀ q ∈ jn_c171_30, jn_GEm jn_G0 jn_me171 q.1 q.2 :=
  jn_cons (⟨(by decide +kernel), rfl⟩ : jn_GEm jn_G0 jn_me171 1060 (.inr (.inr 2))) <|
  jn_cons (⟨jn_aload_n_ok (i := 1) (k := 1) (by decide +kernel) rfl, jn_aload_n_mo 1⟩ : jn_GEm jn_G0 jn_me171 1061 (.inl (jn_aload_n 1))) <|
  jn_cons (⟨jn_aload_n_ok (i := 0) (k := 0) (by decide +kernel) rfl, jn_aload_n_mo 0⟩ : jn_GEm jn_G0 jn_me171 1062 (.inl (jn_aload_n 0))) <|
  jn_cons (⟨jn_iload_n_ok (i := 3) (k := 3) (by decide +kernel) rfl, jn_iload_n_mo 3⟩ : jn_GEm jn_G0 jn_me171 1063 (.inl (jn_iload_n 3))) <|
  jn_cons (⟨jn_iconst_ok (by decide +kernel), jn_iconst_mo 1⟩ : jn_GEm jn_G0 jn_me171 1064 (.inl (jn_iconst 1))) <|
  jn_cons (⟨jn_iadd_ok (by decide +kernel), jn_iadd_mo⟩ : jn_GEm jn_G0 jn_me171 1065 (.inl jn_iadd)) <|
  jn_cons (⟨jn_iaload_ok (by decide +kernel), jn_iaload_mo⟩ : jn_GEm jn_G0 jn_me171 1066 (.inl jn_iaload)) <|
  jn_cons (⟨jn_aload_n_ok (i := 0) (k := 0) (by decide +kernel) rfl, jn_aload_n_mo 0⟩ : jn_GEm jn_G0 jn_me171 1067 (.inl (jn_aload_n 0))) <|
  jn_cons (⟨jn_iload_n_ok (i := 3) (k := 3) (by decide +kernel) rfl, jn_iload_n_mo 3⟩ : jn_GEm jn_G0 jn_me171 1068 (.inl (jn_iload_n 3))) <|
  jn_cons (⟨jn_iconst_ok (by decide +kernel), jn_iconst_mo 2⟩ : jn_GEm jn_G0 jn_me171 1069 (.inl (jn_iconst 2))) <|
  jn_cons (⟨jn_iadd_ok (by decide +kernel), jn_iadd_mo⟩ : jn_GEm jn_G0 jn_me171 1070 (.inl jn_iadd)) <|
  jn_cons (⟨jn_iaload_ok (by decide +kernel), jn_iaload_mo⟩ : jn_GEm jn_G0 jn_me171 1071 (.inl jn_iaload)) <|
  jn_cons (jn_gc_of jn_G0_73 (jn_callV (i := 130) (na := 2) (ci := 6) (q := (RX6, TX6, 11)) (by decide +kernel) rfl (jn_in 583 (by decide +kernel) rfl) (jn_in 580 (by decide +kernel) rfl) (jn_in 581 (by decide +kernel) rfl) (jn_in 582 (by decide +kernel) rfl) (jn_in 54 (by decide +kernel) rfl) ⟨by decide, by decide, by decide +kernel⟩) : jn_GEm jn_G0 jn_me171 1072 (.inr (.inl (73, 8, 3)))) <|
  jn_cons (⟨jn_aload_n_ok (i := 2) (k := 2) (by decide +kernel) rfl, jn_aload_n_mo 2⟩ : jn_GEm jn_G0 jn_me171 1075 (.inl (jn_aload_n 2))) <|
  jn_cons (⟨jn_aload_n_ok (i := 0) (k := 0) (by decide +kernel) rfl, jn_aload_n_mo 0⟩ : jn_GEm jn_G0 jn_me171 1076 (.inl (jn_aload_n 0))) <|
  jn_cons (⟨jn_iload_n_ok (i := 3) (k := 3) (by decide +kernel) rfl, jn_iload_n_mo 3⟩ : jn_GEm jn_G0 jn_me171 1077 (.inl (jn_iload_n 3))) <|
  jn_cons (⟨jn_iconst_ok (by decide +kernel), jn_iconst_mo 1⟩ : jn_GEm jn_G0 jn_me171 1078 (.inl (jn_iconst 1))) <|
  jn_cons (⟨jn_iadd_ok (by decide +kernel), jn_iadd_mo⟩ : jn_GEm jn_G0 jn_me171 1079 (.inl jn_iadd)) <|
  jn_cons (⟨jn_iaload_ok (by decide +kernel), jn_iaload_mo⟩ : jn_GEm jn_G0 jn_me171 1080 (.inl jn_iaload)) <|
  jn_cons (⟨jn_aload_n_ok (i := 0) (k := 0) (by decide +kernel) rfl, jn_aload_n_mo 0⟩ : jn_GEm jn_G0 jn_me171 1081 (.inl (jn_aload_n 0))) <|
  jn_cons (⟨jn_iload_n_ok (i := 3) (k := 3) (by decide +kernel) rfl, jn_iload_n_mo 3⟩ : jn_GEm jn_G0 jn_me171 1082 (.inl (jn_iload_n 3))) <|
  jn_cons (⟨jn_iconst_ok (by decide +kernel), jn_iconst_mo 2⟩ : jn_GEm jn_G0 jn_me171 1083 (.inl (jn_iconst 2))) <|
  jn_cons (⟨jn_iadd_ok (by decide +kernel), jn_iadd_mo⟩ : jn_GEm jn_G0 jn_me171 1084 (.inl jn_iadd)) <|
  jn_cons (⟨jn_iaload_ok (by decide +kernel), jn_iaload_mo⟩ : jn_GEm jn_G0 jn_me171 1085 (.inl jn_iaload)) <| jn_nil
theorem jn_o171_31 : ∀ q ∈ jn_c171_31, jn_GEm jn_G0 jn_me171 q.1 q.2 :=
  jn_cons (jn_gc_of jn_G0_159 (jn_callV (i := 133) (na := 2) (ci := 7) (q := (RX7, TX7, 22)) (by decide +kernel) rfl (jn_in 953 (by decide +kernel) rfl) (jn_in 950 (by decide +kernel) rfl) (jn_in 951 (by decide +kernel) rfl) (jn_in 952 (by decide +kernel) rfl) (jn_in 60 (by decide +kernel) rfl) ⟨by decide, by decide, by decide +kernel⟩) : jn_GEm jn_G0 jn_me171 1086 (.inr (.inl (159, 9, 3)))) <|
  jn_cons (⟨jn_iceq_ok (t := 1252) (off := 163) (by decide +kernel) (by decide), jn_iceq_mo 1252⟩ : jn_GEm jn_G0 jn_me171 1089 (.inl (jn_iceq 1252))) <|
  jn_cons (⟨jn_iconst_ok (by decide +kernel), jn_iconst_mo 0⟩ : jn_GEm jn_G0 jn_me171 1092 (.inl (jn_iconst 0))) <|
  jn_cons (⟨(by decide +kernel), rfl⟩ : jn_GEm jn_G0 jn_me171 1093 (.inr (.inr 2))) <|
  jn_cons (⟨jn_aload_n_ok (i := 1) (k := 1) (by decide +kernel) rfl, jn_aload_n_mo 1⟩ : jn_GEm jn_G0 jn_me171 1094 (.inl (jn_aload_n 1))) <|
  jn_cons (⟨jn_aload_n_ok (i := 0) (k := 0) (by decide +kernel) rfl, jn_aload_n_mo 0⟩ : jn_GEm jn_G0 jn_me171 1095 (.inl (jn_aload_n 0))) <|
  jn_cons (⟨jn_iload_n_ok (i := 3) (k := 3) (by decide +kernel) rfl, jn_iload_n_mo 3⟩ : jn_GEm jn_G0 jn_me171 1096 (.inl (jn_iload_n 3))) <|
  jn_cons (⟨jn_iconst_ok (by decide +kernel), jn_iconst_mo 1⟩ : jn_GEm jn_G0 jn_me171 1097 (.inl (jn_iconst 1))) <|
  jn_cons (⟨jn_iadd_ok (by decide +kernel), jn_iadd_mo⟩ : jn_GEm jn_G0 jn_me171 1098 (.inl jn_iadd)) <|
  jn_cons (⟨jn_iaload_ok (by decide +kernel), jn_iaload_mo⟩ : jn_GEm jn_G0 jn_me171 1099 (.inl jn_iaload)) <|
  jn_cons (jn_gc_of jn_G0_74 (jn_callV (i := 134) (na := 1) (ci := 6) (q := (RX6, TX6, 11)) (by decide +kernel) rfl (jn_in 588 (by decide +kernel) rfl) (jn_in 585 (by decide +kernel) rfl) (jn_in 586 (by decide +kernel) rfl) (jn_in 587 (by decide +kernel) rfl) (jn_in 54 (by decide +kernel) rfl) ⟨by decide, by decide, by decide +kernel⟩) : jn_GEm jn_G0 jn_me171 1100 (.inr (.inl (74, 8, 2)))) <|
  jn_cons (⟨jn_aload_n_ok (i := 2) (k := 2) (by decide +kernel) rfl, jn_aload_n_mo 2⟩ : jn_GEm jn_G0 jn_me171 1103 (.inl (jn_aload_n 2))) <|
  jn_cons (⟨jn_aload_n_ok (i := 0) (k := 0) (by decide +kernel) rfl, jn_aload_n_mo 0⟩ : jn_GEm jn_G0 jn_me171 1104 (.inl (jn_aload_n 0))) <|
  jn_cons (⟨jn_iload_n_ok (i := 3) (k := 3) (by decide +kernel) rfl, jn_iload_n_mo 3⟩ : jn_GEm jn_G0 jn_me171 1105 (.inl (jn_iload_n 3))) <|
  jn_cons (⟨jn_iconst_ok (by decide +kernel), jn_iconst_mo 1⟩ : jn_GEm jn_G0 jn_me171 1106 (.inl (jn_iconst 1))) <|
  jn_cons (⟨jn_iadd_ok (by decide +kernel), jn_iadd_mo⟩ : jn_GEm jn_G0 jn_me171 1107 (.inl jn_iadd)) <|
  jn_cons (⟨jn_iaload_ok (by decide +kernel), jn_iaload_mo⟩ : jn_GEm jn_G0 jn_me171 1108 (.inl jn_iaload)) <|
  jn_cons (jn_gc_of jn_G0_160 (jn_callV (i := 137) (na := 1) (ci := 7) (q := (RX7, TX7, 22)) (by decide +kernel) rfl (jn_in 957 (by decide +kernel) rfl) (jn_in 954 (by decide +kernel) rfl) (jn_in 955 (by decide +kernel) rfl) (jn_in 956 (by decide +kernel) rfl) (jn_in 60 (by decide +kernel) rfl) ⟨by decide, by decide, by decide +kernel⟩) : jn_GEm jn_G0 jn_me171 1109 (.inr (.inl (160, 9, 2)))) <|
  jn_cons (⟨jn_iceq_ok (t := 1252) (off := 140) (by decide +kernel) (by decide), jn_iceq_mo 1252⟩ : jn_GEm jn_G0 jn_me171 1112 (.inl (jn_iceq 1252))) <|
  jn_cons (⟨jn_iconst_ok (by decide +kernel), jn_iconst_mo 0⟩ : jn_GEm jn_G0 jn_me171 1115 (.inl (jn_iconst 0))) <|
  jn_cons (⟨(by decide +kernel), rfl⟩ : jn_GEm jn_G0 jn_me171 1116 (.inr (.inr 2))) <|
  jn_cons (⟨jn_aload_n_ok (i := 1) (k := 1) (by decide +kernel) rfl, jn_aload_n_mo 1⟩ : jn_GEm jn_G0 jn_me171 1117 (.inl (jn_aload_n 1))) <|
  jn_cons (⟨jn_aload_n_ok (i := 0) (k := 0) (by decide +kernel) rfl, jn_aload_n_mo 0⟩ : jn_GEm jn_G0 jn_me171 1118 (.inl (jn_aload_n 0))) <|
  jn_cons (⟨jn_iload_n_ok (i := 3) (k := 3) (by decide +kernel) rfl, jn_iload_n_mo 3⟩ : jn_GEm jn_G0 jn_me171 1119 (.inl (jn_iload_n 3))) <| jn_nil
theorem jn_o171_32 : ∀ q ∈ jn_c171_32, jn_GEm jn_G0 jn_me171 q.1 q.2 :=
  jn_cons (⟨jn_iconst_ok (by decide +kernel), jn_iconst_mo 1⟩ : jn_GEm jn_G0 jn_me171 1120 (.inl (jn_iconst 1))) <|
  jn_cons (⟨jn_iadd_ok (by decide +kernel), jn_iadd_mo⟩ : jn_GEm jn_G0 jn_me171 1121 (.inl jn_iadd)) <|
  jn_cons (⟨jn_iaload_ok (by decide +kernel), jn_iaload_mo⟩ : jn_GEm jn_G0 jn_me171 1122 (.inl jn_iaload)) <|
  jn_cons (⟨jn_aload_n_ok (i := 0) (k := 0) (by decide +kernel) rfl, jn_aload_n_mo 0⟩ : jn_GEm jn_G0 jn_me171 1123 (.inl (jn_aload_n 0))) <|
  jn_cons (⟨jn_iload_n_ok (i := 3) (k := 3) (by decide +kernel) rfl, jn_iload_n_mo 3⟩ : jn_GEm jn_G0 jn_me171 1124 (.inl (jn_iload_n 3))) <|
  jn_cons (⟨jn_iconst_ok (by decide +kernel), jn_iconst_mo 2⟩ : jn_GEm jn_G0 jn_me171 1125 (.inl (jn_iconst 2))) <|
  jn_cons (⟨jn_iadd_ok (by decide +kernel), jn_iadd_mo⟩ : jn_GEm jn_G0 jn_me171 1126 (.inl jn_iadd)) <|
  jn_cons (⟨jn_iaload_ok (by decide +kernel), jn_iaload_mo⟩ : jn_GEm jn_G0 jn_me171 1127 (.inl jn_iaload)) <|
  jn_cons (jn_gc_of jn_G0_75 (jn_callV (i := 138) (na := 2) (ci := 6) (q := (RX6, TX6, 11)) (by decide +kernel) rfl (jn_in 592 (by decide +kernel) rfl) (jn_in 589 (by decide +kernel) rfl) (jn_in 590 (by decide +kernel) rfl) (jn_in 591 (by decide +kernel) rfl) (jn_in 54 (by decide +kernel) rfl) ⟨by decide, by decide, by decide +kernel⟩) : jn_GEm jn_G0 jn_me171 1128 (.inr (.inl (75, 8, 3)))) <|
  jn_cons (⟨jn_aload_n_ok (i := 2) (k := 2) (by decide +kernel) rfl, jn_aload_n_mo 2⟩ : jn_GEm jn_G0 jn_me171 1131 (.inl (jn_aload_n 2))) <|
  jn_cons (⟨jn_aload_n_ok (i := 0) (k := 0) (by decide +kernel) rfl, jn_aload_n_mo 0⟩ : jn_GEm jn_G0 jn_me171 1132 (.inl (jn_aload_n 0))) <|
  jn_cons (⟨jn_iload_n_ok (i := 3) (k := 3) (by decide +kernel) rfl, jn_iload_n_mo 3⟩ : jn_GEm jn_G0 jn_me171 1133 (.inl (jn_iload_n 3))) <|
  jn_cons (⟨jn_iconst_ok (by decide +kernel), jn_iconst_mo 1⟩ : jn_GEm jn_G0 jn_me171 1134 (.inl (jn_iconst 1))) <|
  jn_cons (⟨jn_iadd_ok (by decide +kernel), jn_iadd_mo⟩ : jn_GEm jn_G0 jn_me171 1135 (.inl jn_iadd)) <|
  jn_cons (⟨jn_iaload_ok (by decide +kernel), jn_iaload_mo⟩ : jn_GEm jn_G0 jn_me171 1136 (.inl jn_iaload)) <|
  jn_cons (⟨jn_aload_n_ok (i := 0) (k := 0) (by decide +kernel) rfl, jn_aload_n_mo 0⟩ : jn_GEm jn_G0 jn_me171 1137 (.inl (jn_aload_n 0))) <|
  jn_cons (⟨jn_iload_n_ok (i := 3) (k := 3) (by decide +kernel) rfl, jn_iload_n_mo 3⟩ : jn_GEm jn_G0 jn_me171 1138 (.inl (jn_iload_n 3))) <|
  jn_cons (⟨jn_iconst_ok (by decide +kernel), jn_iconst_mo 2⟩ : jn_GEm jn_G0 jn_me171 1139 (.inl (jn_iconst 2))) <|
  jn_cons (⟨jn_iadd_ok (by decide +kernel), jn_iadd_mo⟩ : jn_GEm jn_G0 jn_me171 1140 (.inl jn_iadd)) <|
  jn_cons (⟨jn_iaload_ok (by decide +kernel), jn_iaload_mo⟩ : jn_GEm jn_G0 jn_me171 1141 (.inl jn_iaload)) <|
  jn_cons (jn_gc_of jn_G0_161 (jn_callV (i := 141) (na := 2) (ci := 7) (q := (RX7, TX7, 22)) (by decide +kernel) rfl (jn_in 961 (by decide +kernel) rfl) (jn_in 958 (by decide +kernel) rfl) (jn_in 959 (by decide +kernel) rfl) (jn_in 960 (by decide +kernel) rfl) (jn_in 60 (by decide +kernel) rfl) ⟨by decide, by decide, by decide +kernel⟩) : jn_GEm jn_G0 jn_me171 1142 (.inr (.inl (161, 9, 3)))) <|
  jn_cons (⟨jn_iceq_ok (t := 1252) (off := 107) (by decide +kernel) (by decide), jn_iceq_mo 1252⟩ : jn_GEm jn_G0 jn_me171 1145 (.inl (jn_iceq 1252))) <|
  jn_cons (⟨jn_iconst_ok (by decide +kernel), jn_iconst_mo 0⟩ : jn_GEm jn_G0 jn_me171 1148 (.inl (jn_iconst 0))) <|
  jn_cons (⟨(by decide +kernel), rfl⟩ : jn_GEm jn_G0 jn_me171 1149 (.inr (.inr 2))) <| jn_nil
theorem jn_o171_33 : ∀ q ∈ jn_c171_33, jn_GEm jn_G0 jn_me171 q.1 q.2 :=
  jn_cons (⟨jn_aload_n_ok (i := 1) (k := 1) (by decide +kernel) rfl, jn_aload_n_mo 1⟩ : jn_GEm jn_G0 jn_me171 1150 (.inl (jn_aload_n 1))) <|
  jn_cons (jn_gc_of jn_G0_76 (jn_callV (i := 142) (na := 0) (ci := 6) (q := (RX6, TX6, 11)) (by decide +kernel) rfl (jn_in 596 (by decide +kernel) rfl) (jn_in 593 (by decide +kernel) rfl) (jn_in 594 (by decide +kernel) rfl) (jn_in 595 (by decide +kernel) rfl) (jn_in 54 (by decide +kernel) rfl) ⟨by decide, by decide, by decide +kernel⟩) : jn_GEm jn_G0 jn_me171 1151 (.inr (.inl (76, 8, 1)))) <|
  jn_cons (⟨jn_aload_n_ok (i := 2) (k := 2) (by decide +kernel) rfl, jn_aload_n_mo 2⟩ : jn_GEm jn_G0 jn_me171 1154 (.inl (jn_aload_n 2))) <|
  jn_cons (jn_gc_of jn_G0_162 (jn_callV (i := 145) (na := 0) (ci := 7) (q := (RX7, TX7, 22)) (by decide +kernel) rfl (jn_in 965 (by decide +kernel) rfl) (jn_in 962 (by decide +kernel) rfl) (jn_in 963 (by decide +kernel) rfl) (jn_in 964 (by decide +kernel) rfl) (jn_in 60 (by decide +kernel) rfl) ⟨by decide, by decide, by decide +kernel⟩) : jn_GEm jn_G0 jn_me171 1155 (.inr (.inl (162, 9, 1)))) <|
  jn_cons (⟨jn_iceq_ok (t := 1252) (off := 94) (by decide +kernel) (by decide), jn_iceq_mo 1252⟩ : jn_GEm jn_G0 jn_me171 1158 (.inl (jn_iceq 1252))) <|
  jn_cons (⟨jn_iconst_ok (by decide +kernel), jn_iconst_mo 0⟩ : jn_GEm jn_G0 jn_me171 1161 (.inl (jn_iconst 0))) <|
  jn_cons (⟨(by decide +kernel), rfl⟩ : jn_GEm jn_G0 jn_me171 1162 (.inr (.inr 2))) <|
  jn_cons (⟨jn_aload_n_ok (i := 1) (k := 1) (by decide +kernel) rfl, jn_aload_n_mo 1⟩ : jn_GEm jn_G0 jn_me171 1163 (.inl (jn_aload_n 1))) <|
  jn_cons (⟨jn_aload_n_ok (i := 0) (k := 0) (by decide +kernel) rfl, jn_aload_n_mo 0⟩ : jn_GEm jn_G0 jn_me171 1164 (.inl (jn_aload_n 0))) <|
  jn_cons (⟨jn_iload_n_ok (i := 3) (k := 3) (by decide +kernel) rfl, jn_iload_n_mo 3⟩ : jn_GEm jn_G0 jn_me171 1165 (.inl (jn_iload_n 3))) <|
  jn_cons (⟨jn_iconst_ok (by decide +kernel), jn_iconst_mo 1⟩ : jn_GEm jn_G0 jn_me171 1166 (.inl (jn_iconst 1))) <|
  jn_cons (⟨jn_iadd_ok (by decide +kernel), jn_iadd_mo⟩ : jn_GEm jn_G0 jn_me171 1167 (.inl jn_iadd)) <|
  jn_cons (⟨jn_iaload_ok (by decide +kernel), jn_iaload_mo⟩ : jn_GEm jn_G0 jn_me171 1168 (.inl jn_iaload)) <|
  jn_cons (jn_gc_of jn_G0_77 (jn_callV (i := 146) (na := 1) (ci := 6) (q := (RX6, TX6, 11)) (by decide +kernel) rfl (jn_in 600 (by decide +kernel) rfl) (jn_in 597 (by decide +kernel) rfl) (jn_in 598 (by decide +kernel) rfl) (jn_in 599 (by decide +kernel) rfl) (jn_in 54 (by decide +kernel) rfl) ⟨by decide, by decide, by decide +kernel⟩) : jn_GEm jn_G0 jn_me171 1169 (.inr (.inl (77, 8, 2)))) <|
  jn_cons (⟨jn_aload_n_ok (i := 2) (k := 2) (by decide +kernel) rfl, jn_aload_n_mo 2⟩ : jn_GEm jn_G0 jn_me171 1172 (.inl (jn_aload_n 2))) <|
  jn_cons (⟨jn_aload_n_ok (i := 0) (k := 0) (by decide +kernel) rfl, jn_aload_n_mo 0⟩ : jn_GEm jn_G0 jn_me171 1173 (.inl (jn_aload_n 0))) <|
  jn_cons (⟨jn_iload_n_ok (i := 3) (k := 3) (by decide +kernel) rfl, jn_iload_n_mo 3⟩ : jn_GEm jn_G0 jn_me171 1174 (.inl (jn_iload_n 3))) <|
  jn_cons (⟨jn_iconst_ok (by decide +kernel), jn_iconst_mo 1⟩ : jn_GEm jn_G0 jn_me171 1175 (.inl (jn_iconst 1))) <|
  jn_cons (⟨jn_iadd_ok (by decide +kernel), jn_iadd_mo⟩ : jn_GEm jn_G0 jn_me171 1176 (.inl jn_iadd)) <|
  jn_cons (⟨jn_iaload_ok (by decide +kernel), jn_iaload_mo⟩ : jn_GEm jn_G0 jn_me171 1177 (.inl jn_iaload)) <|
  jn_cons (jn_gc_of jn_G0_163 (jn_callV (i := 149) (na := 1) (ci := 7) (q := (RX7, TX7, 22)) (by decide +kernel) rfl (jn_in 969 (by decide +kernel) rfl) (jn_in 966 (by decide +kernel) rfl) (jn_in 967 (by decide +kernel) rfl) (jn_in 968 (by decide +kernel) rfl) (jn_in 60 (by decide +kernel) rfl) ⟨by decide, by decide, by decide +kernel⟩) : jn_GEm jn_G0 jn_me171 1178 (.inr (.inl (163, 9, 2)))) <|
  jn_cons (⟨jn_iceq_ok (t := 1252) (off := 71) (by decide +kernel) (by decide), jn_iceq_mo 1252⟩ : jn_GEm jn_G0 jn_me171 1181 (.inl (jn_iceq 1252))) <|
  jn_cons (⟨jn_iconst_ok (by decide +kernel), jn_iconst_mo 0⟩ : jn_GEm jn_G0 jn_me171 1184 (.inl (jn_iconst 0))) <|
  jn_cons (⟨(by decide +kernel), rfl⟩ : jn_GEm jn_G0 jn_me171 1185 (.inr (.inr 2))) <| jn_nil
theorem jn_o171_34 : ∀ q ∈ jn_c171_34, jn_GEm jn_G0 jn_me171 q.1 q.2 :=
  jn_cons (⟨jn_aload_n_ok (i := 1) (k := 1) (by decide +kernel) rfl, jn_aload_n_mo 1⟩ : jn_GEm jn_G0 jn_me171 1186 (.inl (jn_aload_n 1))) <|
  jn_cons (⟨jn_aload_n_ok (i := 0) (k := 0) (by decide +kernel) rfl, jn_aload_n_mo 0⟩ : jn_GEm jn_G0 jn_me171 1187 (.inl (jn_aload_n 0))) <|
  jn_cons (⟨jn_iload_n_ok (i := 3) (k := 3) (by decide +kernel) rfl, jn_iload_n_mo 3⟩ : jn_GEm jn_G0 jn_me171 1188 (.inl (jn_iload_n 3))) <|
  jn_cons (⟨jn_iconst_ok (by decide +kernel), jn_iconst_mo 1⟩ : jn_GEm jn_G0 jn_me171 1189 (.inl (jn_iconst 1))) <|
  jn_cons (⟨jn_iadd_ok (by decide +kernel), jn_iadd_mo⟩ : jn_GEm jn_G0 jn_me171 1190 (.inl jn_iadd)) <|
  jn_cons (⟨jn_iaload_ok (by decide +kernel), jn_iaload_mo⟩ : jn_GEm jn_G0 jn_me171 1191 (.inl jn_iaload)) <|
  jn_cons (⟨jn_aload_n_ok (i := 0) (k := 0) (by decide +kernel) rfl, jn_aload_n_mo 0⟩ : jn_GEm jn_G0 jn_me171 1192 (.inl (jn_aload_n 0))) <|
  jn_cons (⟨jn_iload_n_ok (i := 3) (k := 3) (by decide +kernel) rfl, jn_iload_n_mo 3⟩ : jn_GEm jn_G0 jn_me171 1193 (.inl (jn_iload_n 3))) <|
  jn_cons (⟨jn_iconst_ok (by decide +kernel), jn_iconst_mo 2⟩ : jn_GEm jn_G0 jn_me171 1194 (.inl (jn_iconst 2))) <|
  jn_cons (⟨jn_iadd_ok (by decide +kernel), jn_iadd_mo⟩ : jn_GEm jn_G0 jn_me171 1195 (.inl jn_iadd)) <|
  jn_cons (⟨jn_iaload_ok (by decide +kernel), jn_iaload_mo⟩ : jn_GEm jn_G0 jn_me171 1196 (.inl jn_iaload)) <|
  jn_cons (⟨jn_aload_n_ok (i := 0) (k := 0) (by decide +kernel) rfl, jn_aload_n_mo 0⟩ : jn_GEm jn_G0 jn_me171 1197 (.inl (jn_aload_n 0))) <|
  jn_cons (⟨jn_iload_n_ok (i := 3) (k := 3) (by decide +kernel) rfl, jn_iload_n_mo 3⟩ : jn_GEm jn_G0 jn_me171 1198 (.inl (jn_iload_n 3))) <|
  jn_cons (⟨jn_iconst_ok (by decide +kernel), jn_iconst_mo 3⟩ : jn_GEm jn_G0 jn_me171 1199 (.inl (jn_iconst 3))) <|
  jn_cons (⟨jn_iadd_ok (by decide +kernel), jn_iadd_mo⟩ : jn_GEm jn_G0 jn_me171 1200 (.inl jn_iadd)) <|
  jn_cons (⟨jn_iaload_ok (by decide +kernel), jn_iaload_mo⟩ : jn_GEm jn_G0 jn_me171 1201 (.inl jn_iaload)) <|
  jn_cons (jn_gc_of jn_G0_78 (jn_callV (i := 150) (na := 3) (ci := 6) (q := (RX6, TX6, 11)) (by decide +kernel) rfl (jn_in 604 (by decide +kernel) rfl) (jn_in 601 (by decide +kernel) rfl) (jn_in 602 (by decide +kernel) rfl) (jn_in 603 (by decide +kernel) rfl) (jn_in 54 (by decide +kernel) rfl) ⟨by decide, by decide, by decide +kernel⟩) : jn_GEm jn_G0 jn_me171 1202 (.inr (.inl (78, 8, 4)))) <|
  jn_cons (⟨jn_aload_n_ok (i := 2) (k := 2) (by decide +kernel) rfl, jn_aload_n_mo 2⟩ : jn_GEm jn_G0 jn_me171 1205 (.inl (jn_aload_n 2))) <|
  jn_cons (⟨jn_aload_n_ok (i := 0) (k := 0) (by decide +kernel) rfl, jn_aload_n_mo 0⟩ : jn_GEm jn_G0 jn_me171 1206 (.inl (jn_aload_n 0))) <|
  jn_cons (⟨jn_iload_n_ok (i := 3) (k := 3) (by decide +kernel) rfl, jn_iload_n_mo 3⟩ : jn_GEm jn_G0 jn_me171 1207 (.inl (jn_iload_n 3))) <|
  jn_cons (⟨jn_iconst_ok (by decide +kernel), jn_iconst_mo 1⟩ : jn_GEm jn_G0 jn_me171 1208 (.inl (jn_iconst 1))) <|
  jn_cons (⟨jn_iadd_ok (by decide +kernel), jn_iadd_mo⟩ : jn_GEm jn_G0 jn_me171 1209 (.inl jn_iadd)) <|
  jn_cons (⟨jn_iaload_ok (by decide +kernel), jn_iaload_mo⟩ : jn_GEm jn_G0 jn_me171 1210 (.inl jn_iaload)) <|
  jn_cons (⟨jn_aload_n_ok (i := 0) (k := 0) (by decide +kernel) rfl, jn_aload_n_mo 0⟩ : jn_GEm jn_G0 jn_me171 1211 (.inl (jn_aload_n 0))) <| jn_nil
theorem jn_o171_35 : ∀ q ∈ jn_c171_35, jn_GEm jn_G0 jn_me171 q.1 q.2 :=
  jn_cons (⟨jn_iload_n_ok (i := 3) (k := 3) (by decide +kernel) rfl, jn_iload_n_mo 3⟩ : jn_GEm jn_G0 jn_me171 1212 (.inl (jn_iload_n 3))) <|
  jn_cons (⟨jn_iconst_ok (by decide +kernel), jn_iconst_mo 2⟩ : jn_GEm jn_G0 jn_me171 1213 (.inl (jn_iconst 2))) <|
  jn_cons (⟨jn_iadd_ok (by decide +kernel), jn_iadd_mo⟩ : jn_GEm jn_G0 jn_me171 1214 (.inl jn_iadd)) <|
  jn_cons (⟨jn_iaload_ok (by decide +kernel), jn_iaload_mo⟩ : jn_GEm jn_G0 jn_me171 1215 (.inl jn_iaload)) <|
  jn_cons (⟨jn_aload_n_ok (i := 0) (k := 0) (by decide +kernel) rfl, jn_aload_n_mo 0⟩ : jn_GEm jn_G0 jn_me171 1216 (.inl (jn_aload_n 0))) <|
  jn_cons (⟨jn_iload_n_ok (i := 3) (k := 3) (by decide +kernel) rfl, jn_iload_n_mo 3⟩ : jn_GEm jn_G0 jn_me171 1217 (.inl (jn_iload_n 3))) <|
  jn_cons (⟨jn_iconst_ok (by decide +kernel), jn_iconst_mo 3⟩ : jn_GEm jn_G0 jn_me171 1218 (.inl (jn_iconst 3))) <|
  jn_cons (⟨jn_iadd_ok (by decide +kernel), jn_iadd_mo⟩ : jn_GEm jn_G0 jn_me171 1219 (.inl jn_iadd)) <|
  jn_cons (⟨jn_iaload_ok (by decide +kernel), jn_iaload_mo⟩ : jn_GEm jn_G0 jn_me171 1220 (.inl jn_iaload)) <|
  jn_cons (jn_gc_of jn_G0_164 (jn_callV (i := 153) (na := 3) (ci := 7) (q := (RX7, TX7, 22)) (by decide +kernel) rfl (jn_in 973 (by decide +kernel) rfl) (jn_in 970 (by decide +kernel) rfl) (jn_in 971 (by decide +kernel) rfl) (jn_in 972 (by decide +kernel) rfl) (jn_in 60 (by decide +kernel) rfl) ⟨by decide, by decide, by decide +kernel⟩) : jn_GEm jn_G0 jn_me171 1221 (.inr (.inl (164, 9, 4)))) <|
  jn_cons (⟨jn_iceq_ok (t := 1252) (off := 28) (by decide +kernel) (by decide), jn_iceq_mo 1252⟩ : jn_GEm jn_G0 jn_me171 1224 (.inl (jn_iceq 1252))) <|
  jn_cons (⟨jn_iconst_ok (by decide +kernel), jn_iconst_mo 0⟩ : jn_GEm jn_G0 jn_me171 1227 (.inl (jn_iconst 0))) <|
  jn_cons (⟨(by decide +kernel), rfl⟩ : jn_GEm jn_G0 jn_me171 1228 (.inr (.inr 2))) <|
  jn_cons (⟨jn_aload_n_ok (i := 1) (k := 1) (by decide +kernel) rfl, jn_aload_n_mo 1⟩ : jn_GEm jn_G0 jn_me171 1229 (.inl (jn_aload_n 1))) <|
  jn_cons (⟨jn_aload_n_ok (i := 0) (k := 0) (by decide +kernel) rfl, jn_aload_n_mo 0⟩ : jn_GEm jn_G0 jn_me171 1230 (.inl (jn_aload_n 0))) <|
  jn_cons (⟨jn_iload_n_ok (i := 3) (k := 3) (by decide +kernel) rfl, jn_iload_n_mo 3⟩ : jn_GEm jn_G0 jn_me171 1231 (.inl (jn_iload_n 3))) <|
  jn_cons (⟨jn_iconst_ok (by decide +kernel), jn_iconst_mo 1⟩ : jn_GEm jn_G0 jn_me171 1232 (.inl (jn_iconst 1))) <|
  jn_cons (⟨jn_iadd_ok (by decide +kernel), jn_iadd_mo⟩ : jn_GEm jn_G0 jn_me171 1233 (.inl jn_iadd)) <|
  jn_cons (⟨jn_iaload_ok (by decide +kernel), jn_iaload_mo⟩ : jn_GEm jn_G0 jn_me171 1234 (.inl jn_iaload)) <|
  jn_cons (jn_gc_of jn_G0_79 (jn_callV (i := 154) (na := 1) (ci := 6) (q := (RX6, TX6, 11)) (by decide +kernel) rfl (jn_in 608 (by decide +kernel) rfl) (jn_in 605 (by decide +kernel) rfl) (jn_in 606 (by decide +kernel) rfl) (jn_in 607 (by decide +kernel) rfl) (jn_in 54 (by decide +kernel) rfl) ⟨by decide, by decide, by decide +kernel⟩) : jn_GEm jn_G0 jn_me171 1235 (.inr (.inl (79, 8, 2)))) <|
  jn_cons (⟨jn_aload_n_ok (i := 2) (k := 2) (by decide +kernel) rfl, jn_aload_n_mo 2⟩ : jn_GEm jn_G0 jn_me171 1238 (.inl (jn_aload_n 2))) <|
  jn_cons (⟨jn_aload_n_ok (i := 0) (k := 0) (by decide +kernel) rfl, jn_aload_n_mo 0⟩ : jn_GEm jn_G0 jn_me171 1239 (.inl (jn_aload_n 0))) <|
  jn_cons (⟨jn_iload_n_ok (i := 3) (k := 3) (by decide +kernel) rfl, jn_iload_n_mo 3⟩ : jn_GEm jn_G0 jn_me171 1240 (.inl (jn_iload_n 3))) <|
  jn_cons (⟨jn_iconst_ok (by decide +kernel), jn_iconst_mo 1⟩ : jn_GEm jn_G0 jn_me171 1241 (.inl (jn_iconst 1))) <| jn_nil
theorem jn_o171_36 : ∀ q ∈ jn_c171_36, jn_GEm jn_G0 jn_me171 q.1 q.2 :=
  jn_cons (⟨jn_iadd_ok (by decide +kernel), jn_iadd_mo⟩ : jn_GEm jn_G0 jn_me171 1242 (.inl jn_iadd)) <|
  jn_cons (⟨jn_iaload_ok (by decide +kernel), jn_iaload_mo⟩ : jn_GEm jn_G0 jn_me171 1243 (.inl jn_iaload)) <|
  jn_cons (jn_gc_of jn_G0_165 (jn_callV (i := 157) (na := 1) (ci := 7) (q := (RX7, TX7, 22)) (by decide +kernel) rfl (jn_in 977 (by decide +kernel) rfl) (jn_in 974 (by decide +kernel) rfl) (jn_in 975 (by decide +kernel) rfl) (jn_in 976 (by decide +kernel) rfl) (jn_in 60 (by decide +kernel) rfl) ⟨by decide, by decide, by decide +kernel⟩) : jn_GEm jn_G0 jn_me171 1244 (.inr (.inl (165, 9, 2)))) <|
  jn_cons (⟨jn_iceq_ok (t := 1252) (off := 5) (by decide +kernel) (by decide), jn_iceq_mo 1252⟩ : jn_GEm jn_G0 jn_me171 1247 (.inl (jn_iceq 1252))) <|
  jn_cons (⟨jn_iconst_ok (by decide +kernel), jn_iconst_mo 0⟩ : jn_GEm jn_G0 jn_me171 1250 (.inl (jn_iconst 0))) <|
  jn_cons (⟨(by decide +kernel), rfl⟩ : jn_GEm jn_G0 jn_me171 1251 (.inr (.inr 2))) <|
  jn_cons (⟨jn_iinc_ok (i := 3) (n := 5) (by decide +kernel), jn_iinc_mo 3 5⟩ : jn_GEm jn_G0 jn_me171 1252 (.inl (jn_iinc 3 5))) <|
  jn_cons (⟨jn_goto_ok (t := 18) (off := -1237) (by decide +kernel) (by decide), jn_goto_mo 18⟩ : jn_GEm jn_G0 jn_me171 1255 (.inl (jn_goto 18))) <|
  jn_cons (⟨jn_iconst_ok (by decide +kernel), jn_iconst_mo 1⟩ : jn_GEm jn_G0 jn_me171 1258 (.inl (jn_iconst 1))) <|
  jn_cons (⟨(by decide +kernel), rfl⟩ : jn_GEm jn_G0 jn_me171 1259 (.inr (.inr 2))) <| jn_nil
theorem jn_ok171 : jn_GM jn_G0 171 := jn_GM_of jn_G0_171 rfl rfl (by decide +kernel) (by decide) (jn_appd jn_o171_0 (jn_appd jn_o171_1 (jn_appd jn_o171_2 (jn_appd jn_o171_3 (jn_appd jn_o171_4 (jn_appd jn_o171_5 (jn_appd jn_o171_6 (jn_appd jn_o171_7 (jn_appd jn_o171_8 (jn_appd jn_o171_9 (jn_appd jn_o171_10 (jn_appd jn_o171_11 (jn_appd jn_o171_12 (jn_appd jn_o171_13 (jn_appd jn_o171_14 (jn_appd jn_o171_15 (jn_appd jn_o171_16 (jn_appd jn_o171_17 (jn_appd jn_o171_18 (jn_appd jn_o171_19 (jn_appd jn_o171_20 (jn_appd jn_o171_21 (jn_appd jn_o171_22 (jn_appd jn_o171_23 (jn_appd jn_o171_24 (jn_appd jn_o171_25 (jn_appd jn_o171_26 (jn_appd jn_o171_27 (jn_appd jn_o171_28 (jn_appd jn_o171_29 (jn_appd jn_o171_30 (jn_appd jn_o171_31 (jn_appd jn_o171_32 (jn_appd jn_o171_33 (jn_appd jn_o171_34 (jn_appd jn_o171_35 (jn_o171_36)))))))))))))))))))))))))))))))))))))
