theorem jn_o114_0 : ∀ q ∈ jn_c114_0, jn_GEm jn_G0 jn_me114 q.1 q.2 :=
  jn_cons (⟨jn_aload_n_ok (i := 0) (k := 0) (by decide +kernel) rfl, jn_aload_n_mo 0⟩ : jn_GEm jn_G0 jn_me114 0 (.inl (jn_aload_n 0))) <|
  jn_cons (⟨jn_iload_n_ok (i := 1) (k := 1) (by decide +kernel) rfl, jn_iload_n_mo 1⟩ : jn_GEm jn_G0 jn_me114 1 (.inl (jn_iload_n 1))) <|
  jn_cons (⟨jn_aload_n_ok (i := 0) (k := 0) (by decide +kernel) rfl, jn_aload_n_mo 0⟩ : jn_GEm jn_G0 jn_me114 2 (.inl (jn_aload_n 0))) <|
  jn_cons (⟨jn_iload_n_ok (i := 1) (k := 1) (by decide +kernel) rfl, jn_iload_n_mo 1⟩ : jn_GEm jn_G0 jn_me114 3 (.inl (jn_iload_n 1))) <|
  jn_cons (⟨jn_iconst_ok (by decide +kernel), jn_iconst_mo 0⟩ : jn_GEm jn_G0 jn_me114 4 (.inl (jn_iconst 0))) <|
  jn_cons (jn_gc_of jn_G0_113 (jn_callV (i := 126) (na := 2) (ci := 7) (q := (RX7, TX7, 22)) (by decide +kernel) rfl (jn_in 754 (by decide +kernel) rfl) (jn_in 751 (by decide +kernel) rfl) (jn_in 753 (by decide +kernel) rfl) (jn_in 29 (by decide +kernel) rfl) (jn_in 60 (by decide +kernel) rfl) ⟨by decide, by decide, by decide +kernel⟩) : jn_GEm jn_G0 jn_me114 5 (.inr (.inl (113, 9, 3)))) <|
  jn_cons (⟨jn_aload_n_ok (i := 0) (k := 0) (by decide +kernel) rfl, jn_aload_n_mo 0⟩ : jn_GEm jn_G0 jn_me114 8 (.inl (jn_aload_n 0))) <|
  jn_cons (⟨jn_iload_n_ok (i := 1) (k := 1) (by decide +kernel) rfl, jn_iload_n_mo 1⟩ : jn_GEm jn_G0 jn_me114 9 (.inl (jn_iload_n 1))) <|
  jn_cons (⟨jn_iconst_ok (by decide +kernel), jn_iconst_mo 0⟩ : jn_GEm jn_G0 jn_me114 10 (.inl (jn_iconst 0))) <|
  jn_cons (jn_gc_of jn_G0_113 (jn_callV (i := 126) (na := 2) (ci := 7) (q := (RX7, TX7, 22)) (by decide +kernel) rfl (jn_in 754 (by decide +kernel) rfl) (jn_in 751 (by decide +kernel) rfl) (jn_in 753 (by decide +kernel) rfl) (jn_in 29 (by decide +kernel) rfl) (jn_in 60 (by decide +kernel) rfl) ⟨by decide, by decide, by decide +kernel⟩) : jn_GEm jn_G0 jn_me114 11 (.inr (.inl (113, 9, 3)))) <|
  jn_cons (jn_gc_of jn_G0_112 (jn_callV (i := 129) (na := 3) (ci := 7) (q := (RX7, TX7, 22)) (by decide +kernel) rfl (jn_in 758 (by decide +kernel) rfl) (jn_in 755 (by decide +kernel) rfl) (jn_in 757 (by decide +kernel) rfl) (jn_in 30 (by decide +kernel) rfl) (jn_in 60 (by decide +kernel) rfl) ⟨by decide, by decide, by decide +kernel⟩) : jn_GEm jn_G0 jn_me114 14 (.inr (.inl (112, 9, 4)))) <|
  jn_cons (⟨(by decide +kernel), rfl⟩ : jn_GEm jn_G0 jn_me114 17 (.inr (.inr 3))) <| jn_nil
theorem jn_ok114 : jn_GM jn_G0 114 := jn_GM_of jn_G0_114 rfl rfl (by decide +kernel) (by decide) (jn_o114_0)
theorem jn_o115_0 : ∀ q ∈ jn_c115_0, jn_GEm jn_G0 jn_me115 q.1 q.2 :=
  jn_cons (⟨jn_aload_n_ok (i := 0) (k := 0) (by decide +kernel) rfl, jn_aload_n_mo 0⟩ : jn_GEm jn_G0 jn_me115 0 (.inl (jn_aload_n 0))) <|
  jn_cons (⟨jn_iload_n_ok (i := 1) (k := 1) (by decide +kernel) rfl, jn_iload_n_mo 1⟩ : jn_GEm jn_G0 jn_me115 1 (.inl (jn_iload_n 1))) <|
  jn_cons (jn_gc_of jn_G0_97 (jn_callV (i := 80) (na := 1) (ci := 7) (q := (RX7, TX7, 22)) (by decide +kernel) rfl (jn_in 706 (by decide +kernel) rfl) (jn_in 703 (by decide +kernel) rfl) (jn_in 705 (by decide +kernel) rfl) (jn_in 21 (by decide +kernel) rfl) (jn_in 60 (by decide +kernel) rfl) ⟨by decide, by decide, by decide +kernel⟩) : jn_GEm jn_G0 jn_me115 2 (.inr (.inl (97, 9, 2)))) <|
  jn_cons (⟨jn_ifne_ok (t := 16) (off := 11) (by decide +kernel) (by decide), jn_ifne_mo 16⟩ : jn_GEm jn_G0 jn_me115 5 (.inl (jn_ifne 16))) <|
  jn_cons (⟨jn_aload_n_ok (i := 0) (k := 0) (by decide +kernel) rfl, jn_aload_n_mo 0⟩ : jn_GEm jn_G0 jn_me115 8 (.inl (jn_aload_n 0))) <|
  jn_cons (⟨jn_bipush_ok (n := (-3)) (v := (-3)) (by decide +kernel) (by decide), jn_bipush_mo (-3)⟩ : jn_GEm jn_G0 jn_me115 9 (.inl (jn_bipush (-3)))) <|
  jn_cons (jn_gc_of jn_G0_96 (jn_callV (i := 132) (na := 1) (ci := 7) (q := (RX7, TX7, 22)) (by decide +kernel) rfl (jn_in 746 (by decide +kernel) rfl) (jn_in 743 (by decide +kernel) rfl) (jn_in 745 (by decide +kernel) rfl) (jn_in 27 (by decide +kernel) rfl) (jn_in 60 (by decide +kernel) rfl) ⟨by decide, by decide, by decide +kernel⟩) : jn_GEm jn_G0 jn_me115 11 (.inr (.inl (96, 9, 2)))) <|
  jn_cons (⟨jn_i2l_ok (by decide +kernel), jn_i2l_mo⟩ : jn_GEm jn_G0 jn_me115 14 (.inl jn_i2l)) <|
  jn_cons (⟨(by decide +kernel), rfl⟩ : jn_GEm jn_G0 jn_me115 15 (.inr (.inr 3))) <|
  jn_cons (⟨jn_aload_n_ok (i := 0) (k := 0) (by decide +kernel) rfl, jn_aload_n_mo 0⟩ : jn_GEm jn_G0 jn_me115 16 (.inl (jn_aload_n 0))) <|
  jn_cons (⟨jn_iload_n_ok (i := 1) (k := 1) (by decide +kernel) rfl, jn_iload_n_mo 1⟩ : jn_GEm jn_G0 jn_me115 17 (.inl (jn_iload_n 1))) <|
  jn_cons (jn_gc_of jn_G0_106 (jn_callV (i := 110) (na := 1) (ci := 7) (q := (RX7, TX7, 22)) (by decide +kernel) rfl (jn_in 722 (by decide +kernel) rfl) (jn_in 719 (by decide +kernel) rfl) (jn_in 721 (by decide +kernel) rfl) (jn_in 23 (by decide +kernel) rfl) (jn_in 60 (by decide +kernel) rfl) ⟨by decide, by decide, by decide +kernel⟩) : jn_GEm jn_G0 jn_me115 18 (.inr (.inl (106, 9, 2)))) <|
  jn_cons (⟨jn_ifeq_ok (t := 32) (off := 11) (by decide +kernel) (by decide), jn_ifeq_mo 32⟩ : jn_GEm jn_G0 jn_me115 21 (.inl (jn_ifeq 32))) <|
  jn_cons (⟨jn_aload_n_ok (i := 0) (k := 0) (by decide +kernel) rfl, jn_aload_n_mo 0⟩ : jn_GEm jn_G0 jn_me115 24 (.inl (jn_aload_n 0))) <|
  jn_cons (⟨jn_iload_n_ok (i := 1) (k := 1) (by decide +kernel) rfl, jn_iload_n_mo 1⟩ : jn_GEm jn_G0 jn_me115 25 (.inl (jn_iload_n 1))) <|
  jn_cons (jn_gc_of jn_G0_114 (jn_callV (i := 135) (na := 1) (ci := 7) (q := (RX7, TX7, 22)) (by decide +kernel) rfl (jn_in 750 (by decide +kernel) rfl) (jn_in 747 (by decide +kernel) rfl) (jn_in 749 (by decide +kernel) rfl) (jn_in 28 (by decide +kernel) rfl) (jn_in 60 (by decide +kernel) rfl) ⟨by decide, by decide, by decide +kernel⟩) : jn_GEm jn_G0 jn_me115 26 (.inr (.inl (114, 9, 2)))) <|
  jn_cons (⟨jn_goto_ok (t := 39) (off := 10) (by decide +kernel) (by decide), jn_goto_mo 39⟩ : jn_GEm jn_G0 jn_me115 29 (.inl (jn_goto 39))) <|
  jn_cons (⟨jn_aload_n_ok (i := 0) (k := 0) (by decide +kernel) rfl, jn_aload_n_mo 0⟩ : jn_GEm jn_G0 jn_me115 32 (.inl (jn_aload_n 0))) <|
  jn_cons (⟨jn_bipush_ok (n := (-5)) (v := (-5)) (by decide +kernel) (by decide), jn_bipush_mo (-5)⟩ : jn_GEm jn_G0 jn_me115 33 (.inl (jn_bipush (-5)))) <|
  jn_cons (jn_gc_of jn_G0_96 (jn_callV (i := 132) (na := 1) (ci := 7) (q := (RX7, TX7, 22)) (by decide +kernel) rfl (jn_in 746 (by decide +kernel) rfl) (jn_in 743 (by decide +kernel) rfl) (jn_in 745 (by decide +kernel) rfl) (jn_in 27 (by decide +kernel) rfl) (jn_in 60 (by decide +kernel) rfl) ⟨by decide, by decide, by decide +kernel⟩) : jn_GEm jn_G0 jn_me115 35 (.inr (.inl (96, 9, 2)))) <|
  jn_cons (⟨jn_i2l_ok (by decide +kernel), jn_i2l_mo⟩ : jn_GEm jn_G0 jn_me115 38 (.inl jn_i2l)) <|
  jn_cons (⟨(by decide +kernel), rfl⟩ : jn_GEm jn_G0 jn_me115 39 (.inr (.inr 3))) <| jn_nil
theorem jn_ok115 : jn_GM jn_G0 115 := jn_GM_of jn_G0_115 rfl rfl (by decide +kernel) (by decide) (jn_o115_0)
theorem jn_o116_0 : ∀ q ∈ jn_c116_0, jn_GEm jn_G0 jn_me116 q.1 q.2 :=
  jn_cons (⟨jn_lload_n_ok (i := 0) (k := 0) (by decide +kernel) rfl, jn_lload_n_mo 0⟩ : jn_GEm jn_G0 jn_me116 0 (.inl (jn_lload_n 0))) <|
  jn_cons (⟨jn_lconst_ok (n := 0) (v := 0) (by decide +kernel) (by decide), jn_lconst_mo 0⟩ : jn_GEm jn_G0 jn_me116 1 (.inl (jn_lconst 0))) <|
  jn_cons (⟨jn_lcmp_ok (by decide +kernel), jn_lcmp_mo⟩ : jn_GEm jn_G0 jn_me116 2 (.inl jn_lcmp)) <|
  jn_cons (⟨jn_ifge_ok (t := 11) (off := 8) (by decide +kernel) (by decide), jn_ifge_mo 11⟩ : jn_GEm jn_G0 jn_me116 3 (.inl (jn_ifge 11))) <|
  jn_cons (⟨jn_lload_n_ok (i := 0) (k := 0) (by decide +kernel) rfl, jn_lload_n_mo 0⟩ : jn_GEm jn_G0 jn_me116 6 (.inl (jn_lload_n 0))) <|
  jn_cons (⟨jn_lneg_ok (by decide +kernel), jn_lneg_mo⟩ : jn_GEm jn_G0 jn_me116 7 (.inl jn_lneg)) <|
  jn_cons (⟨jn_goto_ok (t := 12) (off := 4) (by decide +kernel) (by decide), jn_goto_mo 12⟩ : jn_GEm jn_G0 jn_me116 8 (.inl (jn_goto 12))) <|
  jn_cons (⟨jn_lload_n_ok (i := 0) (k := 0) (by decide +kernel) rfl, jn_lload_n_mo 0⟩ : jn_GEm jn_G0 jn_me116 11 (.inl (jn_lload_n 0))) <|
  jn_cons (⟨jn_lstore_ok (i := 4) (by decide +kernel), jn_lstore_mo 4⟩ : jn_GEm jn_G0 jn_me116 12 (.inl (jn_lstore 4))) <|
  jn_cons (⟨jn_lload_n_ok (i := 2) (k := 2) (by decide +kernel) rfl, jn_lload_n_mo 2⟩ : jn_GEm jn_G0 jn_me116 14 (.inl (jn_lload_n 2))) <|
  jn_cons (⟨jn_lconst_ok (n := 0) (v := 0) (by decide +kernel) (by decide), jn_lconst_mo 0⟩ : jn_GEm jn_G0 jn_me116 15 (.inl (jn_lconst 0))) <|
  jn_cons (⟨jn_lcmp_ok (by decide +kernel), jn_lcmp_mo⟩ : jn_GEm jn_G0 jn_me116 16 (.inl jn_lcmp)) <|
  jn_cons (⟨jn_ifge_ok (t := 25) (off := 8) (by decide +kernel) (by decide), jn_ifge_mo 25⟩ : jn_GEm jn_G0 jn_me116 17 (.inl (jn_ifge 25))) <|
  jn_cons (⟨jn_lload_n_ok (i := 2) (k := 2) (by decide +kernel) rfl, jn_lload_n_mo 2⟩ : jn_GEm jn_G0 jn_me116 20 (.inl (jn_lload_n 2))) <|
  jn_cons (⟨jn_lneg_ok (by decide +kernel), jn_lneg_mo⟩ : jn_GEm jn_G0 jn_me116 21 (.inl jn_lneg)) <|
  jn_cons (⟨jn_goto_ok (t := 26) (off := 4) (by decide +kernel) (by decide), jn_goto_mo 26⟩ : jn_GEm jn_G0 jn_me116 22 (.inl (jn_goto 26))) <|
  jn_cons (⟨jn_lload_n_ok (i := 2) (k := 2) (by decide +kernel) rfl, jn_lload_n_mo 2⟩ : jn_GEm jn_G0 jn_me116 25 (.inl (jn_lload_n 2))) <|
  jn_cons (⟨jn_lstore_ok (i := 6) (by decide +kernel), jn_lstore_mo 6⟩ : jn_GEm jn_G0 jn_me116 26 (.inl (jn_lstore 6))) <|
  jn_cons (⟨jn_lload_ok (i := 6) (by decide +kernel), jn_lload_mo 6⟩ : jn_GEm jn_G0 jn_me116 28 (.inl (jn_lload 6))) <|
  jn_cons (⟨jn_lconst_ok (n := 0) (v := 0) (by decide +kernel) (by decide), jn_lconst_mo 0⟩ : jn_GEm jn_G0 jn_me116 30 (.inl (jn_lconst 0))) <|
  jn_cons (⟨jn_lcmp_ok (by decide +kernel), jn_lcmp_mo⟩ : jn_GEm jn_G0 jn_me116 31 (.inl jn_lcmp)) <|
  jn_cons (⟨jn_ifeq_ok (t := 53) (off := 21) (by decide +kernel) (by decide), jn_ifeq_mo 53⟩ : jn_GEm jn_G0 jn_me116 32 (.inl (jn_ifeq 53))) <|
  jn_cons (⟨jn_lload_ok (i := 4) (by decide +kernel), jn_lload_mo 4⟩ : jn_GEm jn_G0 jn_me116 35 (.inl (jn_lload 4))) <|
  jn_cons (⟨jn_lload_ok (i := 6) (by decide +kernel), jn_lload_mo 6⟩ : jn_GEm jn_G0 jn_me116 37 (.inl (jn_lload 6))) <| jn_nil
theorem jn_o116_1 : ∀ q ∈ jn_c116_1, jn_GEm jn_G0 jn_me116 q.1 q.2 :=
  jn_cons (⟨jn_lrem_ok (by decide +kernel), jn_lrem_mo⟩ : jn_GEm jn_G0 jn_me116 39 (.inl jn_lrem)) <|
  jn_cons (⟨jn_lstore_ok (i := 8) (by decide +kernel), jn_lstore_mo 8⟩ : jn_GEm jn_G0 jn_me116 40 (.inl (jn_lstore 8))) <|
  jn_cons (⟨jn_lload_ok (i := 6) (by decide +kernel), jn_lload_mo 6⟩ : jn_GEm jn_G0 jn_me116 42 (.inl (jn_lload 6))) <|
  jn_cons (⟨jn_lstore_ok (i := 4) (by decide +kernel), jn_lstore_mo 4⟩ : jn_GEm jn_G0 jn_me116 44 (.inl (jn_lstore 4))) <|
  jn_cons (⟨jn_lload_ok (i := 8) (by decide +kernel), jn_lload_mo 8⟩ : jn_GEm jn_G0 jn_me116 46 (.inl (jn_lload 8))) <|
  jn_cons (⟨jn_lstore_ok (i := 6) (by decide +kernel), jn_lstore_mo 6⟩ : jn_GEm jn_G0 jn_me116 48 (.inl (jn_lstore 6))) <|
  jn_cons (⟨jn_goto_ok (t := 28) (off := -22) (by decide +kernel) (by decide), jn_goto_mo 28⟩ : jn_GEm jn_G0 jn_me116 50 (.inl (jn_goto 28))) <|
  jn_cons (⟨jn_lload_ok (i := 4) (by decide +kernel), jn_lload_mo 4⟩ : jn_GEm jn_G0 jn_me116 53 (.inl (jn_lload 4))) <|
  jn_cons (⟨(by decide +kernel), rfl⟩ : jn_GEm jn_G0 jn_me116 55 (.inr (.inr 3))) <| jn_nil
theorem jn_ok116 : jn_GM jn_G0 116 := jn_GM_of jn_G0_116 rfl rfl (by decide +kernel) (by decide) (jn_appd jn_o116_0 (jn_o116_1))
theorem jn_o117_0 : ∀ q ∈ jn_c117_0, jn_GEm jn_G0 jn_me117 q.1 q.2 :=
  jn_cons (⟨jn_lconst_ok (n := 0) (v := 0) (by decide +kernel) (by decide), jn_lconst_mo 0⟩ : jn_GEm jn_G0 jn_me117 0 (.inl (jn_lconst 0))) <|
  jn_cons (⟨jn_lstore_n_ok (i := 3) (k := 3) (by decide +kernel) rfl, jn_lstore_n_mo 3⟩ : jn_GEm jn_G0 jn_me117 1 (.inl (jn_lstore_n 3))) <|
  jn_cons (⟨jn_iconst_ok (by decide +kernel), jn_iconst_mo 0⟩ : jn_GEm jn_G0 jn_me117 2 (.inl (jn_iconst 0))) <|
  jn_cons (⟨jn_istore_ok (i := 5) (by decide +kernel), jn_istore_mo 5⟩ : jn_GEm jn_G0 jn_me117 3 (.inl (jn_istore 5))) <|
  jn_cons (⟨jn_iload_ok (i := 5) (by decide +kernel), jn_iload_mo 5⟩ : jn_GEm jn_G0 jn_me117 5 (.inl (jn_iload 5))) <|
  jn_cons (⟨jn_bipush_ok (n := 64) (v := 64) (by decide +kernel) (by decide), jn_bipush_mo 64⟩ : jn_GEm jn_G0 jn_me117 7 (.inl (jn_bipush 64))) <|
  jn_cons (⟨jn_icge_ok (t := 94) (off := 85) (by decide +kernel) (by decide), jn_icge_mo 94⟩ : jn_GEm jn_G0 jn_me117 9 (.inl (jn_icge 94))) <|
  jn_cons (⟨jn_iconst_ok (by decide +kernel), jn_iconst_mo 0⟩ : jn_GEm jn_G0 jn_me117 12 (.inl (jn_iconst 0))) <|
  jn_cons (⟨jn_istore_ok (i := 6) (by decide +kernel), jn_istore_mo 6⟩ : jn_GEm jn_G0 jn_me117 13 (.inl (jn_istore 6))) <|
  jn_cons (⟨jn_iload_ok (i := 6) (by decide +kernel), jn_iload_mo 6⟩ : jn_GEm jn_G0 jn_me117 15 (.inl (jn_iload 6))) <|
  jn_cons (⟨jn_bipush_ok (n := 64) (v := 64) (by decide +kernel) (by decide), jn_bipush_mo 64⟩ : jn_GEm jn_G0 jn_me117 17 (.inl (jn_bipush 64))) <|
  jn_cons (⟨jn_icge_ok (t := 88) (off := 69) (by decide +kernel) (by decide), jn_icge_mo 88⟩ : jn_GEm jn_G0 jn_me117 19 (.inl (jn_icge 88))) <|
  jn_cons (⟨jn_iload_ok (i := 5) (by decide +kernel), jn_iload_mo 5⟩ : jn_GEm jn_G0 jn_me117 22 (.inl (jn_iload 5))) <|
  jn_cons (⟨jn_iload_ok (i := 6) (by decide +kernel), jn_iload_mo 6⟩ : jn_GEm jn_G0 jn_me117 24 (.inl (jn_iload 6))) <|
  jn_cons (⟨jn_ior_ok (by decide +kernel), jn_ior_mo⟩ : jn_GEm jn_G0 jn_me117 26 (.inl jn_ior)) <|
  jn_cons (⟨jn_iconst_ok (by decide +kernel), jn_iconst_mo 1⟩ : jn_GEm jn_G0 jn_me117 27 (.inl (jn_iconst 1))) <|
  jn_cons (⟨jn_aload_n_ok (i := 0) (k := 0) (by decide +kernel) rfl, jn_aload_n_mo 0⟩ : jn_GEm jn_G0 jn_me117 28 (.inl (jn_aload_n 0))) <|
  jn_cons (⟨jn_getf_ok (ci := 7) (k := 0) (i := 7) (N := 22) (C := RX7) (T := TX7) (by decide +kernel) rfl (by decide) jn_u7 (jn_in 615 (by decide +kernel) rfl), jn_getf_mo 7 0⟩ : jn_GEm jn_G0 jn_me117 29 (.inl (jn_getf 7 0))) <|
  jn_cons (⟨jn_iload_n_ok (i := 1) (k := 1) (by decide +kernel) rfl, jn_iload_n_mo 1⟩ : jn_GEm jn_G0 jn_me117 32 (.inl (jn_iload_n 1))) <|
  jn_cons (⟨jn_iaload_ok (by decide +kernel), jn_iaload_mo⟩ : jn_GEm jn_G0 jn_me117 33 (.inl jn_iaload)) <|
  jn_cons (⟨jn_ishl_ok (by decide +kernel), jn_ishl_mo⟩ : jn_GEm jn_G0 jn_me117 34 (.inl jn_ishl)) <|
  jn_cons (⟨jn_icge_ok (t := 42) (off := 7) (by decide +kernel) (by decide), jn_icge_mo 42⟩ : jn_GEm jn_G0 jn_me117 35 (.inl (jn_icge 42))) <|
  jn_cons (⟨jn_iconst_ok (by decide +kernel), jn_iconst_mo 1⟩ : jn_GEm jn_G0 jn_me117 38 (.inl (jn_iconst 1))) <|
  jn_cons (⟨jn_goto_ok (t := 43) (off := 4) (by decide +kernel) (by decide), jn_goto_mo 43⟩ : jn_GEm jn_G0 jn_me117 39 (.inl (jn_goto 43))) <| jn_nil
theorem jn_o117_1 : ∀ q ∈ jn_c117_1, jn_GEm jn_G0 jn_me117 q.1 q.2 :=
  jn_cons (⟨jn_iconst_ok (by decide +kernel), jn_iconst_mo 0⟩ : jn_GEm jn_G0 jn_me117 42 (.inl (jn_iconst 0))) <|
  jn_cons (⟨jn_istore_ok (i := 7) (by decide +kernel), jn_istore_mo 7⟩ : jn_GEm jn_G0 jn_me117 43 (.inl (jn_istore 7))) <|
  jn_cons (⟨jn_iload_ok (i := 7) (by decide +kernel), jn_iload_mo 7⟩ : jn_GEm jn_G0 jn_me117 45 (.inl (jn_iload 7))) <|
  jn_cons (⟨jn_ifeq_ok (t := 82) (off := 35) (by decide +kernel) (by decide), jn_ifeq_mo 82⟩ : jn_GEm jn_G0 jn_me117 47 (.inl (jn_ifeq 82))) <|
  jn_cons (⟨jn_iload_ok (i := 5) (by decide +kernel), jn_iload_mo 5⟩ : jn_GEm jn_G0 jn_me117 50 (.inl (jn_iload 5))) <|
  jn_cons (jn_gc_of jn_G0_111 (jn_callS (i := 119) (na := 1) (by decide +kernel) (jn_in 761 (by decide +kernel) rfl) (jn_in 759 (by decide +kernel) rfl) (jn_in 760 (by decide +kernel) rfl) (jn_in 60 (by decide +kernel) rfl) ⟨by decide, by decide, by decide +kernel⟩) : jn_GEm jn_G0 jn_me117 52 (.inr (.inl (111, 0, 1)))) <|
  jn_cons (⟨jn_iload_n_ok (i := 2) (k := 2) (by decide +kernel) rfl, jn_iload_n_mo 2⟩ : jn_GEm jn_G0 jn_me117 55 (.inl (jn_iload_n 2))) <|
  jn_cons (⟨jn_icne_ok (t := 82) (off := 26) (by decide +kernel) (by decide), jn_icne_mo 82⟩ : jn_GEm jn_G0 jn_me117 56 (.inl (jn_icne 82))) <|
  jn_cons (⟨jn_iload_ok (i := 6) (by decide +kernel), jn_iload_mo 6⟩ : jn_GEm jn_G0 jn_me117 59 (.inl (jn_iload 6))) <|
  jn_cons (jn_gc_of jn_G0_111 (jn_callS (i := 119) (na := 1) (by decide +kernel) (jn_in 761 (by decide +kernel) rfl) (jn_in 759 (by decide +kernel) rfl) (jn_in 760 (by decide +kernel) rfl) (jn_in 60 (by decide +kernel) rfl) ⟨by decide, by decide, by decide +kernel⟩) : jn_GEm jn_G0 jn_me117 61 (.inr (.inl (111, 0, 1)))) <|
  jn_cons (⟨jn_iload_n_ok (i := 2) (k := 2) (by decide +kernel) rfl, jn_iload_n_mo 2⟩ : jn_GEm jn_G0 jn_me117 64 (.inl (jn_iload_n 2))) <|
  jn_cons (⟨jn_icne_ok (t := 82) (off := 17) (by decide +kernel) (by decide), jn_icne_mo 82⟩ : jn_GEm jn_G0 jn_me117 65 (.inl (jn_icne 82))) <|
  jn_cons (⟨jn_lload_n_ok (i := 3) (k := 3) (by decide +kernel) rfl, jn_lload_n_mo 3⟩ : jn_GEm jn_G0 jn_me117 68 (.inl (jn_lload_n 3))) <|
  jn_cons (⟨jn_aload_n_ok (i := 0) (k := 0) (by decide +kernel) rfl, jn_aload_n_mo 0⟩ : jn_GEm jn_G0 jn_me117 69 (.inl (jn_aload_n 0))) <|
  jn_cons (⟨jn_iload_n_ok (i := 1) (k := 1) (by decide +kernel) rfl, jn_iload_n_mo 1⟩ : jn_GEm jn_G0 jn_me117 70 (.inl (jn_iload_n 1))) <|
  jn_cons (⟨jn_iload_ok (i := 5) (by decide +kernel), jn_iload_mo 5⟩ : jn_GEm jn_G0 jn_me117 71 (.inl (jn_iload 5))) <|
  jn_cons (⟨jn_iload_ok (i := 6) (by decide +kernel), jn_iload_mo 6⟩ : jn_GEm jn_G0 jn_me117 73 (.inl (jn_iload 6))) <|
  jn_cons (jn_gc_of jn_G0_112 (jn_callV (i := 129) (na := 3) (ci := 7) (q := (RX7, TX7, 22)) (by decide +kernel) rfl (jn_in 758 (by decide +kernel) rfl) (jn_in 755 (by decide +kernel) rfl) (jn_in 757 (by decide +kernel) rfl) (jn_in 30 (by decide +kernel) rfl) (jn_in 60 (by decide +kernel) rfl) ⟨by decide, by decide, by decide +kernel⟩) : jn_GEm jn_G0 jn_me117 75 (.inr (.inl (112, 9, 4)))) <|
  jn_cons (jn_gc_of jn_G0_116 (jn_callS (i := 139) (na := 2) (by decide +kernel) (jn_in 776 (by decide +kernel) rfl) (jn_in 774 (by decide +kernel) rfl) (jn_in 775 (by decide +kernel) rfl) (jn_in 60 (by decide +kernel) rfl) ⟨by decide, by decide, by decide +kernel⟩) : jn_GEm jn_G0 jn_me117 78 (.inr (.inl (116, 0, 2)))) <|
  jn_cons (⟨jn_lstore_n_ok (i := 3) (k := 3) (by decide +kernel) rfl, jn_lstore_n_mo 3⟩ : jn_GEm jn_G0 jn_me117 81 (.inl (jn_lstore_n 3))) <|
  jn_cons (⟨jn_iinc_ok (i := 6) (n := 2) (by decide +kernel), jn_iinc_mo 6 2⟩ : jn_GEm jn_G0 jn_me117 82 (.inl (jn_iinc 6 2))) <|
  jn_cons (⟨jn_goto_ok (t := 15) (off := -70) (by decide +kernel) (by decide), jn_goto_mo 15⟩ : jn_GEm jn_G0 jn_me117 85 (.inl (jn_goto 15))) <|
  jn_cons (⟨jn_iinc_ok (i := 5) (n := 2) (by decide +kernel), jn_iinc_mo 5 2⟩ : jn_GEm jn_G0 jn_me117 88 (.inl (jn_iinc 5 2))) <|
  jn_cons (⟨jn_goto_ok (t := 5) (off := -86) (by decide +kernel) (by decide), jn_goto_mo 5⟩ : jn_GEm jn_G0 jn_me117 91 (.inl (jn_goto 5))) <| jn_nil
theorem jn_o117_2 : ∀ q ∈ jn_c117_2, jn_GEm jn_G0 jn_me117 q.1 q.2 :=
  jn_cons (⟨jn_lload_n_ok (i := 3) (k := 3) (by decide +kernel) rfl, jn_lload_n_mo 3⟩ : jn_GEm jn_G0 jn_me117 94 (.inl (jn_lload_n 3))) <|
  jn_cons (⟨(by decide +kernel), rfl⟩ : jn_GEm jn_G0 jn_me117 95 (.inr (.inr 3))) <| jn_nil
theorem jn_ok117 : jn_GM jn_G0 117 := jn_GM_of jn_G0_117 rfl rfl (by decide +kernel) (by decide) (jn_appd jn_o117_0 (jn_appd jn_o117_1 (jn_o117_2)))
theorem jn_o118_0 : ∀ q ∈ jn_c118_0, jn_GEm jn_G0 jn_me118 q.1 q.2 :=
  jn_cons (⟨jn_aload_n_ok (i := 0) (k := 0) (by decide +kernel) rfl, jn_aload_n_mo 0⟩ : jn_GEm jn_G0 jn_me118 0 (.inl (jn_aload_n 0))) <|
  jn_cons (⟨jn_iload_n_ok (i := 1) (k := 1) (by decide +kernel) rfl, jn_iload_n_mo 1⟩ : jn_GEm jn_G0 jn_me118 1 (.inl (jn_iload_n 1))) <|
  jn_cons (jn_gc_of jn_G0_97 (jn_callV (i := 80) (na := 1) (ci := 7) (q := (RX7, TX7, 22)) (by decide +kernel) rfl (jn_in 706 (by decide +kernel) rfl) (jn_in 703 (by decide +kernel) rfl) (jn_in 705 (by decide +kernel) rfl) (jn_in 21 (by decide +kernel) rfl) (jn_in 60 (by decide +kernel) rfl) ⟨by decide, by decide, by decide +kernel⟩) : jn_GEm jn_G0 jn_me118 2 (.inr (.inl (97, 9, 2)))) <|
  jn_cons (⟨jn_ifne_ok (t := 16) (off := 11) (by decide +kernel) (by decide), jn_ifne_mo 16⟩ : jn_GEm jn_G0 jn_me118 5 (.inl (jn_ifne 16))) <|
  jn_cons (⟨jn_aload_n_ok (i := 0) (k := 0) (by decide +kernel) rfl, jn_aload_n_mo 0⟩ : jn_GEm jn_G0 jn_me118 8 (.inl (jn_aload_n 0))) <|
  jn_cons (⟨jn_bipush_ok (n := (-3)) (v := (-3)) (by decide +kernel) (by decide), jn_bipush_mo (-3)⟩ : jn_GEm jn_G0 jn_me118 9 (.inl (jn_bipush (-3)))) <|
  jn_cons (jn_gc_of jn_G0_96 (jn_callV (i := 132) (na := 1) (ci := 7) (q := (RX7, TX7, 22)) (by decide +kernel) rfl (jn_in 746 (by decide +kernel) rfl) (jn_in 743 (by decide +kernel) rfl) (jn_in 745 (by decide +kernel) rfl) (jn_in 27 (by decide +kernel) rfl) (jn_in 60 (by decide +kernel) rfl) ⟨by decide, by decide, by decide +kernel⟩) : jn_GEm jn_G0 jn_me118 11 (.inr (.inl (96, 9, 2)))) <|
  jn_cons (⟨jn_i2l_ok (by decide +kernel), jn_i2l_mo⟩ : jn_GEm jn_G0 jn_me118 14 (.inl jn_i2l)) <|
  jn_cons (⟨(by decide +kernel), rfl⟩ : jn_GEm jn_G0 jn_me118 15 (.inr (.inr 3))) <|
  jn_cons (⟨jn_aload_n_ok (i := 0) (k := 0) (by decide +kernel) rfl, jn_aload_n_mo 0⟩ : jn_GEm jn_G0 jn_me118 16 (.inl (jn_aload_n 0))) <|
  jn_cons (⟨jn_iload_n_ok (i := 1) (k := 1) (by decide +kernel) rfl, jn_iload_n_mo 1⟩ : jn_GEm jn_G0 jn_me118 17 (.inl (jn_iload_n 1))) <|
  jn_cons (jn_gc_of jn_G0_106 (jn_callV (i := 110) (na := 1) (ci := 7) (q := (RX7, TX7, 22)) (by decide +kernel) rfl (jn_in 722 (by decide +kernel) rfl) (jn_in 719 (by decide +kernel) rfl) (jn_in 721 (by decide +kernel) rfl) (jn_in 23 (by decide +kernel) rfl) (jn_in 60 (by decide +kernel) rfl) ⟨by decide, by decide, by decide +kernel⟩) : jn_GEm jn_G0 jn_me118 18 (.inr (.inl (106, 9, 2)))) <|
  jn_cons (⟨jn_ifne_ok (t := 32) (off := 11) (by decide +kernel) (by decide), jn_ifne_mo 32⟩ : jn_GEm jn_G0 jn_me118 21 (.inl (jn_ifne 32))) <|
  jn_cons (⟨jn_aload_n_ok (i := 0) (k := 0) (by decide +kernel) rfl, jn_aload_n_mo 0⟩ : jn_GEm jn_G0 jn_me118 24 (.inl (jn_aload_n 0))) <|
  jn_cons (⟨jn_bipush_ok (n := (-5)) (v := (-5)) (by decide +kernel) (by decide), jn_bipush_mo (-5)⟩ : jn_GEm jn_G0 jn_me118 25 (.inl (jn_bipush (-5)))) <|
  jn_cons (jn_gc_of jn_G0_96 (jn_callV (i := 132) (na := 1) (ci := 7) (q := (RX7, TX7, 22)) (by decide +kernel) rfl (jn_in 746 (by decide +kernel) rfl) (jn_in 743 (by decide +kernel) rfl) (jn_in 745 (by decide +kernel) rfl) (jn_in 27 (by decide +kernel) rfl) (jn_in 60 (by decide +kernel) rfl) ⟨by decide, by decide, by decide +kernel⟩) : jn_GEm jn_G0 jn_me118 27 (.inr (.inl (96, 9, 2)))) <|
  jn_cons (⟨jn_i2l_ok (by decide +kernel), jn_i2l_mo⟩ : jn_GEm jn_G0 jn_me118 30 (.inl jn_i2l)) <|
  jn_cons (⟨(by decide +kernel), rfl⟩ : jn_GEm jn_G0 jn_me118 31 (.inr (.inr 3))) <|
  jn_cons (⟨jn_iload_n_ok (i := 2) (k := 2) (by decide +kernel) rfl, jn_iload_n_mo 2⟩ : jn_GEm jn_G0 jn_me118 32 (.inl (jn_iload_n 2))) <|
  jn_cons (⟨jn_i2l_ok (by decide +kernel), jn_i2l_mo⟩ : jn_GEm jn_G0 jn_me118 33 (.inl jn_i2l)) <|
  jn_cons (⟨jn_lconst_ok (n := 0) (v := 0) (by decide +kernel) (by decide), jn_lconst_mo 0⟩ : jn_GEm jn_G0 jn_me118 34 (.inl (jn_lconst 0))) <|
  jn_cons (⟨jn_aload_n_ok (i := 0) (k := 0) (by decide +kernel) rfl, jn_aload_n_mo 0⟩ : jn_GEm jn_G0 jn_me118 35 (.inl (jn_aload_n 0))) <|
  jn_cons (⟨jn_getf_ok (ci := 7) (k := 0) (i := 7) (N := 22) (C := RX7) (T := TX7) (by decide +kernel) rfl (by decide) jn_u7 (jn_in 615 (by decide +kernel) rfl), jn_getf_mo 7 0⟩ : jn_GEm jn_G0 jn_me118 36 (.inl (jn_getf 7 0))) <|
  jn_cons (⟨jn_iload_n_ok (i := 1) (k := 1) (by decide +kernel) rfl, jn_iload_n_mo 1⟩ : jn_GEm jn_G0 jn_me118 39 (.inl (jn_iload_n 1))) <| jn_nil
theorem jn_o118_1 : ∀ q ∈ jn_c118_1, jn_GEm jn_G0 jn_me118 q.1 q.2 :=
  jn_cons (⟨jn_iaload_ok (by decide +kernel), jn_iaload_mo⟩ : jn_GEm jn_G0 jn_me118 40 (.inl jn_iaload)) <|
  jn_cons (⟨jn_iconst_ok (by decide +kernel), jn_iconst_mo 2⟩ : jn_GEm jn_G0 jn_me118 41 (.inl (jn_iconst 2))) <|
  jn_cons (⟨jn_isub_ok (by decide +kernel), jn_isub_mo⟩ : jn_GEm jn_G0 jn_me118 42 (.inl jn_isub)) <|
  jn_cons (⟨jn_i2l_ok (by decide +kernel), jn_i2l_mo⟩ : jn_GEm jn_G0 jn_me118 43 (.inl jn_i2l)) <|
  jn_cons (jn_gc_of jn_G0_94 (jn_callS (i := 89) (na := 3) (by decide +kernel) (jn_in 690 (by decide +kernel) rfl) (jn_in 688 (by decide +kernel) rfl) (jn_in 689 (by decide +kernel) rfl) (jn_in 60 (by decide +kernel) rfl) ⟨by decide, by decide, by decide +kernel⟩) : jn_GEm jn_G0 jn_me118 44 (.inr (.inl (94, 0, 3)))) <|
  jn_cons (⟨jn_ifne_ok (t := 58) (off := 11) (by decide +kernel) (by decide), jn_ifne_mo 58⟩ : jn_GEm jn_G0 jn_me118 47 (.inl (jn_ifne 58))) <|
  jn_cons (⟨jn_aload_n_ok (i := 0) (k := 0) (by decide +kernel) rfl, jn_aload_n_mo 0⟩ : jn_GEm jn_G0 jn_me118 50 (.inl (jn_aload_n 0))) <|
  jn_cons (⟨jn_bipush_ok (n := (-3)) (v := (-3)) (by decide +kernel) (by decide), jn_bipush_mo (-3)⟩ : jn_GEm jn_G0 jn_me118 51 (.inl (jn_bipush (-3)))) <|
  jn_cons (jn_gc_of jn_G0_96 (jn_callV (i := 132) (na := 1) (ci := 7) (q := (RX7, TX7, 22)) (by decide +kernel) rfl (jn_in 746 (by decide +kernel) rfl) (jn_in 743 (by decide +kernel) rfl) (jn_in 745 (by decide +kernel) rfl) (jn_in 27 (by decide +kernel) rfl) (jn_in 60 (by decide +kernel) rfl) ⟨by decide, by decide, by decide +kernel⟩) : jn_GEm jn_G0 jn_me118 53 (.inr (.inl (96, 9, 2)))) <|
  jn_cons (⟨jn_i2l_ok (by decide +kernel), jn_i2l_mo⟩ : jn_GEm jn_G0 jn_me118 56 (.inl jn_i2l)) <|
  jn_cons (⟨(by decide +kernel), rfl⟩ : jn_GEm jn_G0 jn_me118 57 (.inr (.inr 3))) <|
  jn_cons (⟨jn_aload_n_ok (i := 0) (k := 0) (by decide +kernel) rfl, jn_aload_n_mo 0⟩ : jn_GEm jn_G0 jn_me118 58 (.inl (jn_aload_n 0))) <|
  jn_cons (⟨jn_iload_n_ok (i := 1) (k := 1) (by decide +kernel) rfl, jn_iload_n_mo 1⟩ : jn_GEm jn_G0 jn_me118 59 (.inl (jn_iload_n 1))) <|
  jn_cons (⟨jn_iload_n_ok (i := 2) (k := 2) (by decide +kernel) rfl, jn_iload_n_mo 2⟩ : jn_GEm jn_G0 jn_me118 60 (.inl (jn_iload_n 2))) <|
  jn_cons (⟨jn_iconst_ok (by decide +kernel), jn_iconst_mo 1⟩ : jn_GEm jn_G0 jn_me118 61 (.inl (jn_iconst 1))) <|
  jn_cons (⟨jn_iadd_ok (by decide +kernel), jn_iadd_mo⟩ : jn_GEm jn_G0 jn_me118 62 (.inl jn_iadd)) <|
  jn_cons (jn_gc_of jn_G0_117 (jn_callV (i := 143) (na := 2) (ci := 7) (q := (RX7, TX7, 22)) (by decide +kernel) rfl (jn_in 773 (by decide +kernel) rfl) (jn_in 770 (by decide +kernel) rfl) (jn_in 772 (by decide +kernel) rfl) (jn_in 32 (by decide +kernel) rfl) (jn_in 60 (by decide +kernel) rfl) ⟨by decide, by decide, by decide +kernel⟩) : jn_GEm jn_G0 jn_me118 63 (.inr (.inl (117, 9, 3)))) <|
  jn_cons (⟨jn_aload_n_ok (i := 0) (k := 0) (by decide +kernel) rfl, jn_aload_n_mo 0⟩ : jn_GEm jn_G0 jn_me118 66 (.inl (jn_aload_n 0))) <|
  jn_cons (⟨jn_iload_n_ok (i := 1) (k := 1) (by decide +kernel) rfl, jn_iload_n_mo 1⟩ : jn_GEm jn_G0 jn_me118 67 (.inl (jn_iload_n 1))) <|
  jn_cons (⟨jn_iload_n_ok (i := 2) (k := 2) (by decide +kernel) rfl, jn_iload_n_mo 2⟩ : jn_GEm jn_G0 jn_me118 68 (.inl (jn_iload_n 2))) <|
  jn_cons (jn_gc_of jn_G0_117 (jn_callV (i := 143) (na := 2) (ci := 7) (q := (RX7, TX7, 22)) (by decide +kernel) rfl (jn_in 773 (by decide +kernel) rfl) (jn_in 770 (by decide +kernel) rfl) (jn_in 772 (by decide +kernel) rfl) (jn_in 32 (by decide +kernel) rfl) (jn_in 60 (by decide +kernel) rfl) ⟨by decide, by decide, by decide +kernel⟩) : jn_GEm jn_G0 jn_me118 69 (.inr (.inl (117, 9, 3)))) <|
  jn_cons (⟨jn_ldiv_ok (by decide +kernel), jn_ldiv_mo⟩ : jn_GEm jn_G0 jn_me118 72 (.inl jn_ldiv)) <|
  jn_cons (⟨(by decide +kernel), rfl⟩ : jn_GEm jn_G0 jn_me118 73 (.inr (.inr 3))) <| jn_nil
theorem jn_ok118 : jn_GM jn_G0 118 := jn_GM_of jn_G0_118 rfl rfl (by decide +kernel) (by decide) (jn_appd jn_o118_0 (jn_o118_1))
theorem jn_o119_0 : ∀ q ∈ jn_c119_0, jn_GEm jn_G0 jn_me119 q.1 q.2 :=
  jn_cons (⟨jn_aload_n_ok (i := 0) (k := 0) (by decide +kernel) rfl, jn_aload_n_mo 0⟩ : jn_GEm jn_G0 jn_me119 0 (.inl (jn_aload_n 0))) <|
  jn_cons (⟨jn_iload_n_ok (i := 1) (k := 1) (by decide +kernel) rfl, jn_iload_n_mo 1⟩ : jn_GEm jn_G0 jn_me119 1 (.inl (jn_iload_n 1))) <|
  jn_cons (⟨jn_iload_n_ok (i := 2) (k := 2) (by decide +kernel) rfl, jn_iload_n_mo 2⟩ : jn_GEm jn_G0 jn_me119 2 (.inl (jn_iload_n 2))) <|
  jn_cons (jn_gc_of jn_G0_98 (jn_callV (i := 93) (na := 2) (ci := 7) (q := (RX7, TX7, 22)) (by decide +kernel) rfl (jn_in 702 (by decide +kernel) rfl) (jn_in 699 (by decide +kernel) rfl) (jn_in 701 (by decide +kernel) rfl) (jn_in 20 (by decide +kernel) rfl) (jn_in 60 (by decide +kernel) rfl) ⟨by decide, by decide, by decide +kernel⟩) : jn_GEm jn_G0 jn_me119 3 (.inr (.inl (98, 9, 3)))) <|
  jn_cons (⟨jn_ifeq_ok (t := 18) (off := 12) (by decide +kernel) (by decide), jn_ifeq_mo 18⟩ : jn_GEm jn_G0 jn_me119 6 (.inl (jn_ifeq 18))) <|
  jn_cons (⟨jn_aload_n_ok (i := 0) (k := 0) (by decide +kernel) rfl, jn_aload_n_mo 0⟩ : jn_GEm jn_G0 jn_me119 9 (.inl (jn_aload_n 0))) <|
  jn_cons (⟨jn_iload_n_ok (i := 1) (k := 1) (by decide +kernel) rfl, jn_iload_n_mo 1⟩ : jn_GEm jn_G0 jn_me119 10 (.inl (jn_iload_n 1))) <|
  jn_cons (⟨jn_iload_n_ok (i := 3) (k := 3) (by decide +kernel) rfl, jn_iload_n_mo 3⟩ : jn_GEm jn_G0 jn_me119 11 (.inl (jn_iload_n 3))) <|
  jn_cons (jn_gc_of jn_G0_98 (jn_callV (i := 93) (na := 2) (ci := 7) (q := (RX7, TX7, 22)) (by decide +kernel) rfl (jn_in 702 (by decide +kernel) rfl) (jn_in 699 (by decide +kernel) rfl) (jn_in 701 (by decide +kernel) rfl) (jn_in 20 (by decide +kernel) rfl) (jn_in 60 (by decide +kernel) rfl) ⟨by decide, by decide, by decide +kernel⟩) : jn_GEm jn_G0 jn_me119 12 (.inr (.inl (98, 9, 3)))) <|
  jn_cons (⟨jn_ifne_ok (t := 26) (off := 11) (by decide +kernel) (by decide), jn_ifne_mo 26⟩ : jn_GEm jn_G0 jn_me119 15 (.inl (jn_ifne 26))) <|
  jn_cons (⟨jn_aload_n_ok (i := 0) (k := 0) (by decide +kernel) rfl, jn_aload_n_mo 0⟩ : jn_GEm jn_G0 jn_me119 18 (.inl (jn_aload_n 0))) <|
  jn_cons (⟨jn_bipush_ok (n := (-3)) (v := (-3)) (by decide +kernel) (by decide), jn_bipush_mo (-3)⟩ : jn_GEm jn_G0 jn_me119 19 (.inl (jn_bipush (-3)))) <|
  jn_cons (jn_gc_of jn_G0_96 (jn_callV (i := 132) (na := 1) (ci := 7) (q := (RX7, TX7, 22)) (by decide +kernel) rfl (jn_in 746 (by decide +kernel) rfl) (jn_in 743 (by decide +kernel) rfl) (jn_in 745 (by decide +kernel) rfl) (jn_in 27 (by decide +kernel) rfl) (jn_in 60 (by decide +kernel) rfl) ⟨by decide, by decide, by decide +kernel⟩) : jn_GEm jn_G0 jn_me119 21 (.inr (.inl (96, 9, 2)))) <|
  jn_cons (⟨jn_i2l_ok (by decide +kernel), jn_i2l_mo⟩ : jn_GEm jn_G0 jn_me119 24 (.inl jn_i2l)) <|
  jn_cons (⟨(by decide +kernel), rfl⟩ : jn_GEm jn_G0 jn_me119 25 (.inr (.inr 3))) <|
  jn_cons (⟨jn_aload_n_ok (i := 0) (k := 0) (by decide +kernel) rfl, jn_aload_n_mo 0⟩ : jn_GEm jn_G0 jn_me119 26 (.inl (jn_aload_n 0))) <|
  jn_cons (⟨jn_iload_n_ok (i := 1) (k := 1) (by decide +kernel) rfl, jn_iload_n_mo 1⟩ : jn_GEm jn_G0 jn_me119 27 (.inl (jn_iload_n 1))) <|
  jn_cons (jn_gc_of jn_G0_106 (jn_callV (i := 110) (na := 1) (ci := 7) (q := (RX7, TX7, 22)) (by decide +kernel) rfl (jn_in 722 (by decide +kernel) rfl) (jn_in 719 (by decide +kernel) rfl) (jn_in 721 (by decide +kernel) rfl) (jn_in 23 (by decide +kernel) rfl) (jn_in 60 (by decide +kernel) rfl) ⟨by decide, by decide, by decide +kernel⟩) : jn_GEm jn_G0 jn_me119 28 (.inr (.inl (106, 9, 2)))) <|
  jn_cons (⟨jn_ifne_ok (t := 42) (off := 11) (by decide +kernel) (by decide), jn_ifne_mo 42⟩ : jn_GEm jn_G0 jn_me119 31 (.inl (jn_ifne 42))) <|
  jn_cons (⟨jn_aload_n_ok (i := 0) (k := 0) (by decide +kernel) rfl, jn_aload_n_mo 0⟩ : jn_GEm jn_G0 jn_me119 34 (.inl (jn_aload_n 0))) <|
  jn_cons (⟨jn_bipush_ok (n := (-5)) (v := (-5)) (by decide +kernel) (by decide), jn_bipush_mo (-5)⟩ : jn_GEm jn_G0 jn_me119 35 (.inl (jn_bipush (-5)))) <|
  jn_cons (jn_gc_of jn_G0_96 (jn_callV (i := 132) (na := 1) (ci := 7) (q := (RX7, TX7, 22)) (by decide +kernel) rfl (jn_in 746 (by decide +kernel) rfl) (jn_in 743 (by decide +kernel) rfl) (jn_in 745 (by decide +kernel) rfl) (jn_in 27 (by decide +kernel) rfl) (jn_in 60 (by decide +kernel) rfl) ⟨by decide, by decide, by decide +kernel⟩) : jn_GEm jn_G0 jn_me119 37 (.inr (.inl (96, 9, 2)))) <|
  jn_cons (⟨jn_i2l_ok (by decide +kernel), jn_i2l_mo⟩ : jn_GEm jn_G0 jn_me119 40 (.inl jn_i2l)) <|
  jn_cons (⟨(by decide +kernel), rfl⟩ : jn_GEm jn_G0 jn_me119 41 (.inr (.inr 3))) <| jn_nil
theorem jn_o119_1 : ∀ q ∈ jn_c119_1, jn_GEm jn_G0 jn_me119 q.1 q.2 :=
  jn_cons (⟨jn_iload_n_ok (i := 2) (k := 2) (by decide +kernel) rfl, jn_iload_n_mo 2⟩ : jn_GEm jn_G0 jn_me119 42 (.inl (jn_iload_n 2))) <|
  jn_cons (⟨jn_iload_n_ok (i := 3) (k := 3) (by decide +kernel) rfl, jn_iload_n_mo 3⟩ : jn_GEm jn_G0 jn_me119 43 (.inl (jn_iload_n 3))) <|
  jn_cons (⟨jn_icne_ok (t := 58) (off := 14) (by decide +kernel) (by decide), jn_icne_mo 58⟩ : jn_GEm jn_G0 jn_me119 44 (.inl (jn_icne 58))) <|
  jn_cons (⟨jn_iload_ok (i := 4) (by decide +kernel), jn_iload_mo 4⟩ : jn_GEm jn_G0 jn_me119 47 (.inl (jn_iload 4))) <|
  jn_cons (⟨jn_ifeq_ok (t := 56) (off := 7) (by decide +kernel) (by decide), jn_ifeq_mo 56⟩ : jn_GEm jn_G0 jn_me119 49 (.inl (jn_ifeq 56))) <|
  jn_cons (⟨jn_lconst_ok (n := 1) (v := 1) (by decide +kernel) (by decide), jn_lconst_mo 1⟩ : jn_GEm jn_G0 jn_me119 52 (.inl (jn_lconst 1))) <|
  jn_cons (⟨jn_goto_ok (t := 57) (off := 4) (by decide +kernel) (by decide), jn_goto_mo 57⟩ : jn_GEm jn_G0 jn_me119 53 (.inl (jn_goto 57))) <|
  jn_cons (⟨jn_lconst_ok (n := 0) (v := 0) (by decide +kernel) (by decide), jn_lconst_mo 0⟩ : jn_GEm jn_G0 jn_me119 56 (.inl (jn_lconst 0))) <|
  jn_cons (⟨(by decide +kernel), rfl⟩ : jn_GEm jn_G0 jn_me119 57 (.inr (.inr 3))) <|
  jn_cons (⟨jn_aload_n_ok (i := 0) (k := 0) (by decide +kernel) rfl, jn_aload_n_mo 0⟩ : jn_GEm jn_G0 jn_me119 58 (.inl (jn_aload_n 0))) <|
  jn_cons (⟨jn_iload_n_ok (i := 1) (k := 1) (by decide +kernel) rfl, jn_iload_n_mo 1⟩ : jn_GEm jn_G0 jn_me119 59 (.inl (jn_iload_n 1))) <|
  jn_cons (⟨jn_iload_n_ok (i := 2) (k := 2) (by decide +kernel) rfl, jn_iload_n_mo 2⟩ : jn_GEm jn_G0 jn_me119 60 (.inl (jn_iload_n 2))) <|
  jn_cons (jn_gc_of jn_G0_113 (jn_callV (i := 126) (na := 2) (ci := 7) (q := (RX7, TX7, 22)) (by decide +kernel) rfl (jn_in 754 (by decide +kernel) rfl) (jn_in 751 (by decide +kernel) rfl) (jn_in 753 (by decide +kernel) rfl) (jn_in 29 (by decide +kernel) rfl) (jn_in 60 (by decide +kernel) rfl) ⟨by decide, by decide, by decide +kernel⟩) : jn_GEm jn_G0 jn_me119 61 (.inr (.inl (113, 9, 3)))) <|
  jn_cons (⟨jn_iconst_ok (by decide +kernel), jn_iconst_mo 1⟩ : jn_GEm jn_G0 jn_me119 64 (.inl (jn_iconst 1))) <|
  jn_cons (⟨jn_iload_n_ok (i := 3) (k := 3) (by decide +kernel) rfl, jn_iload_n_mo 3⟩ : jn_GEm jn_G0 jn_me119 65 (.inl (jn_iload_n 3))) <|
  jn_cons (⟨jn_ishl_ok (by decide +kernel), jn_ishl_mo⟩ : jn_GEm jn_G0 jn_me119 66 (.inl jn_ishl)) <|
  jn_cons (⟨jn_iconst_ok (by decide +kernel), jn_iconst_mo (-1)⟩ : jn_GEm jn_G0 jn_me119 67 (.inl (jn_iconst (-1)))) <|
  jn_cons (⟨jn_ixor_ok (by decide +kernel), jn_ixor_mo⟩ : jn_GEm jn_G0 jn_me119 68 (.inl jn_ixor)) <|
  jn_cons (⟨jn_iand_ok (by decide +kernel), jn_iand_mo⟩ : jn_GEm jn_G0 jn_me119 69 (.inl jn_iand)) <|
  jn_cons (⟨jn_istore_ok (i := 5) (by decide +kernel), jn_istore_mo 5⟩ : jn_GEm jn_G0 jn_me119 70 (.inl (jn_istore 5))) <|
  jn_cons (⟨jn_aload_n_ok (i := 0) (k := 0) (by decide +kernel) rfl, jn_aload_n_mo 0⟩ : jn_GEm jn_G0 jn_me119 72 (.inl (jn_aload_n 0))) <|
  jn_cons (⟨jn_iload_n_ok (i := 1) (k := 1) (by decide +kernel) rfl, jn_iload_n_mo 1⟩ : jn_GEm jn_G0 jn_me119 73 (.inl (jn_iload_n 1))) <|
  jn_cons (⟨jn_iload_ok (i := 5) (by decide +kernel), jn_iload_mo 5⟩ : jn_GEm jn_G0 jn_me119 74 (.inl (jn_iload 5))) <|
  jn_cons (⟨jn_iload_ok (i := 5) (by decide +kernel), jn_iload_mo 5⟩ : jn_GEm jn_G0 jn_me119 76 (.inl (jn_iload 5))) <| jn_nil
theorem jn_o119_2 : ∀ q ∈ jn_c119_2, jn_GEm jn_G0 jn_me119 q.1 q.2 :=
  jn_cons (jn_gc_of jn_G0_112 (jn_callV (i := 129) (na := 3) (ci := 7) (q := (RX7, TX7, 22)) (by decide +kernel) rfl (jn_in 758 (by decide +kernel) rfl) (jn_in 755 (by decide +kernel) rfl) (jn_in 757 (by decide +kernel) rfl) (jn_in 30 (by decide +kernel) rfl) (jn_in 60 (by decide +kernel) rfl) ⟨by decide, by decide, by decide +kernel⟩) : jn_GEm jn_G0 jn_me119 78 (.inr (.inl (112, 9, 4)))) <|
  jn_cons (⟨jn_lstore_ok (i := 6) (by decide +kernel), jn_lstore_mo 6⟩ : jn_GEm jn_G0 jn_me119 81 (.inl (jn_lstore 6))) <|
  jn_cons (⟨jn_aload_n_ok (i := 0) (k := 0) (by decide +kernel) rfl, jn_aload_n_mo 0⟩ : jn_GEm jn_G0 jn_me119 83 (.inl (jn_aload_n 0))) <|
  jn_cons (⟨jn_iload_n_ok (i := 1) (k := 1) (by decide +kernel) rfl, jn_iload_n_mo 1⟩ : jn_GEm jn_G0 jn_me119 84 (.inl (jn_iload_n 1))) <|
  jn_cons (jn_gc_of jn_G0_114 (jn_callV (i := 135) (na := 1) (ci := 7) (q := (RX7, TX7, 22)) (by decide +kernel) rfl (jn_in 750 (by decide +kernel) rfl) (jn_in 747 (by decide +kernel) rfl) (jn_in 749 (by decide +kernel) rfl) (jn_in 28 (by decide +kernel) rfl) (jn_in 60 (by decide +kernel) rfl) ⟨by decide, by decide, by decide +kernel⟩) : jn_GEm jn_G0 jn_me119 85 (.inr (.inl (114, 9, 2)))) <|
  jn_cons (⟨jn_lstore_ok (i := 8) (by decide +kernel), jn_lstore_mo 8⟩ : jn_GEm jn_G0 jn_me119 88 (.inl (jn_lstore 8))) <|
  jn_cons (⟨jn_lload_ok (i := 6) (by decide +kernel), jn_lload_mo 6⟩ : jn_GEm jn_G0 jn_me119 90 (.inl (jn_lload 6))) <|
  jn_cons (⟨jn_lload_ok (i := 8) (by decide +kernel), jn_lload_mo 8⟩ : jn_GEm jn_G0 jn_me119 92 (.inl (jn_lload 8))) <|
  jn_cons (jn_gc_of jn_G0_116 (jn_callS (i := 139) (na := 2) (by decide +kernel) (jn_in 776 (by decide +kernel) rfl) (jn_in 774 (by decide +kernel) rfl) (jn_in 775 (by decide +kernel) rfl) (jn_in 60 (by decide +kernel) rfl) ⟨by decide, by decide, by decide +kernel⟩) : jn_GEm jn_G0 jn_me119 94 (.inr (.inl (116, 0, 2)))) <|
  jn_cons (⟨jn_lstore_ok (i := 10) (by decide +kernel), jn_lstore_mo 10⟩ : jn_GEm jn_G0 jn_me119 97 (.inl (jn_lstore 10))) <|
  jn_cons (⟨jn_iload_ok (i := 4) (by decide +kernel), jn_iload_mo 4⟩ : jn_GEm jn_G0 jn_me119 99 (.inl (jn_iload 4))) <|
  jn_cons (⟨jn_ifeq_ok (t := 112) (off := 11) (by decide +kernel) (by decide), jn_ifeq_mo 112⟩ : jn_GEm jn_G0 jn_me119 101 (.inl (jn_ifeq 112))) <|
  jn_cons (⟨jn_lload_ok (i := 8) (by decide +kernel), jn_lload_mo 8⟩ : jn_GEm jn_G0 jn_me119 104 (.inl (jn_lload 8))) <|
  jn_cons (⟨jn_lload_ok (i := 10) (by decide +kernel), jn_lload_mo 10⟩ : jn_GEm jn_G0 jn_me119 106 (.inl (jn_lload 10))) <|
  jn_cons (⟨jn_ldiv_ok (by decide +kernel), jn_ldiv_mo⟩ : jn_GEm jn_G0 jn_me119 108 (.inl jn_ldiv)) <|
  jn_cons (⟨jn_goto_ok (t := 117) (off := 8) (by decide +kernel) (by decide), jn_goto_mo 117⟩ : jn_GEm jn_G0 jn_me119 109 (.inl (jn_goto 117))) <|
  jn_cons (⟨jn_lload_ok (i := 6) (by decide +kernel), jn_lload_mo 6⟩ : jn_GEm jn_G0 jn_me119 112 (.inl (jn_lload 6))) <|
  jn_cons (⟨jn_lload_ok (i := 10) (by decide +kernel), jn_lload_mo 10⟩ : jn_GEm jn_G0 jn_me119 114 (.inl (jn_lload 10))) <|
  jn_cons (⟨jn_ldiv_ok (by decide +kernel), jn_ldiv_mo⟩ : jn_GEm jn_G0 jn_me119 116 (.inl jn_ldiv)) <|
  jn_cons (⟨(by decide +kernel), rfl⟩ : jn_GEm jn_G0 jn_me119 117 (.inr (.inr 3))) <| jn_nil
theorem jn_ok119 : jn_GM jn_G0 119 := jn_GM_of jn_G0_119 rfl rfl (by decide +kernel) (by decide) (jn_appd jn_o119_0 (jn_appd jn_o119_1 (jn_o119_2)))
theorem jn_o120_0 : ∀ q ∈ jn_c120_0, jn_GEm jn_G0 jn_me120 q.1 q.2 :=
  jn_cons (⟨jn_aload_n_ok (i := 0) (k := 0) (by decide +kernel) rfl, jn_aload_n_mo 0⟩ : jn_GEm jn_G0 jn_me120 0 (.inl (jn_aload_n 0))) <|
  jn_cons (⟨jn_iload_n_ok (i := 1) (k := 1) (by decide +kernel) rfl, jn_iload_n_mo 1⟩ : jn_GEm jn_G0 jn_me120 1 (.inl (jn_iload_n 1))) <|
  jn_cons (jn_gc_of jn_G0_97 (jn_callV (i := 80) (na := 1) (ci := 7) (q := (RX7, TX7, 22)) (by decide +kernel) rfl (jn_in 706 (by decide +kernel) rfl) (jn_in 703 (by decide +kernel) rfl) (jn_in 705 (by decide +kernel) rfl) (jn_in 21 (by decide +kernel) rfl) (jn_in 60 (by decide +kernel) rfl) ⟨by decide, by decide, by decide +kernel⟩) : jn_GEm jn_G0 jn_me120 2 (.inr (.inl (97, 9, 2)))) <|
  jn_cons (⟨jn_ifne_ok (t := 15) (off := 10) (by decide +kernel) (by decide), jn_ifne_mo 15⟩ : jn_GEm jn_G0 jn_me120 5 (.inl (jn_ifne 15))) <|
  jn_cons (⟨jn_aload_n_ok (i := 0) (k := 0) (by decide +kernel) rfl, jn_aload_n_mo 0⟩ : jn_GEm jn_G0 jn_me120 8 (.inl (jn_aload_n 0))) <|
  jn_cons (⟨jn_bipush_ok (n := (-3)) (v := (-3)) (by decide +kernel) (by decide), jn_bipush_mo (-3)⟩ : jn_GEm jn_G0 jn_me120 9 (.inl (jn_bipush (-3)))) <|
  jn_cons (jn_gc_of jn_G0_95 (jn_callV (i := 73) (na := 1) (ci := 7) (q := (RX7, TX7, 22)) (by decide +kernel) rfl (jn_in 694 (by decide +kernel) rfl) (jn_in 691 (by decide +kernel) rfl) (jn_in 693 (by decide +kernel) rfl) (jn_in 19 (by decide +kernel) rfl) (jn_in 60 (by decide +kernel) rfl) ⟨by decide, by decide, by decide +kernel⟩) : jn_GEm jn_G0 jn_me120 11 (.inr (.inl (95, 9, 2)))) <|
  jn_cons (⟨(by decide +kernel), rfl⟩ : jn_GEm jn_G0 jn_me120 14 (.inr (.inr 1))) <|
  jn_cons (⟨jn_aload_n_ok (i := 0) (k := 0) (by decide +kernel) rfl, jn_aload_n_mo 0⟩ : jn_GEm jn_G0 jn_me120 15 (.inl (jn_aload_n 0))) <|
  jn_cons (⟨jn_getf_ok (ci := 7) (k := 3) (i := 84) (N := 22) (C := RX7) (T := TX7) (by decide +kernel) rfl (by decide) jn_u7 (jn_in 618 (by decide +kernel) rfl), jn_getf_mo 7 3⟩ : jn_GEm jn_G0 jn_me120 16 (.inl (jn_getf 7 3))) <|
  jn_cons (⟨jn_bipush_ok (n := 10) (v := 10) (by decide +kernel) (by decide), jn_bipush_mo 10⟩ : jn_GEm jn_G0 jn_me120 19 (.inl (jn_bipush 10))) <|
  jn_cons (⟨jn_icne_ok (t := 31) (off := 10) (by decide +kernel) (by decide), jn_icne_mo 31⟩ : jn_GEm jn_G0 jn_me120 21 (.inl (jn_icne 31))) <|
  jn_cons (⟨jn_aload_n_ok (i := 0) (k := 0) (by decide +kernel) rfl, jn_aload_n_mo 0⟩ : jn_GEm jn_G0 jn_me120 24 (.inl (jn_aload_n 0))) <|
  jn_cons (⟨jn_bipush_ok (n := (-8)) (v := (-8)) (by decide +kernel) (by decide), jn_bipush_mo (-8)⟩ : jn_GEm jn_G0 jn_me120 25 (.inl (jn_bipush (-8)))) <|
  jn_cons (jn_gc_of jn_G0_95 (jn_callV (i := 73) (na := 1) (ci := 7) (q := (RX7, TX7, 22)) (by decide +kernel) rfl (jn_in 694 (by decide +kernel) rfl) (jn_in 691 (by decide +kernel) rfl) (jn_in 693 (by decide +kernel) rfl) (jn_in 19 (by decide +kernel) rfl) (jn_in 60 (by decide +kernel) rfl) ⟨by decide, by decide, by decide +kernel⟩) : jn_GEm jn_G0 jn_me120 27 (.inr (.inl (95, 9, 2)))) <|
  jn_cons (⟨(by decide +kernel), rfl⟩ : jn_GEm jn_G0 jn_me120 30 (.inr (.inr 1))) <|
  jn_cons (⟨jn_aload_n_ok (i := 0) (k := 0) (by decide +kernel) rfl, jn_aload_n_mo 0⟩ : jn_GEm jn_G0 jn_me120 31 (.inl (jn_aload_n 0))) <|
  jn_cons (⟨jn_getf_ok (ci := 7) (k := 4) (i := 16) (N := 22) (C := RX7) (T := TX7) (by decide +kernel) rfl (by decide) jn_u7 (jn_in 619 (by decide +kernel) rfl), jn_getf_mo 7 4⟩ : jn_GEm jn_G0 jn_me120 32 (.inl (jn_getf 7 4))) <|
  jn_cons (⟨jn_aload_n_ok (i := 0) (k := 0) (by decide +kernel) rfl, jn_aload_n_mo 0⟩ : jn_GEm jn_G0 jn_me120 35 (.inl (jn_aload_n 0))) <|
  jn_cons (⟨jn_getf_ok (ci := 7) (k := 3) (i := 84) (N := 22) (C := RX7) (T := TX7) (by decide +kernel) rfl (by decide) jn_u7 (jn_in 618 (by decide +kernel) rfl), jn_getf_mo 7 3⟩ : jn_GEm jn_G0 jn_me120 36 (.inl (jn_getf 7 3))) <|
  jn_cons (⟨jn_iload_n_ok (i := 1) (k := 1) (by decide +kernel) rfl, jn_iload_n_mo 1⟩ : jn_GEm jn_G0 jn_me120 39 (.inl (jn_iload_n 1))) <|
  jn_cons (⟨jn_iastore_ok (by decide +kernel), jn_iastore_mo⟩ : jn_GEm jn_G0 jn_me120 40 (.inl jn_iastore)) <|
  jn_cons (⟨jn_iconst_ok (by decide +kernel), jn_iconst_mo 0⟩ : jn_GEm jn_G0 jn_me120 41 (.inl (jn_iconst 0))) <|
  jn_cons (⟨jn_istore_n_ok (i := 2) (k := 2) (by decide +kernel) rfl, jn_istore_n_mo 2⟩ : jn_GEm jn_G0 jn_me120 42 (.inl (jn_istore_n 2))) <| jn_nil
theorem jn_o120_1 : ∀ q ∈ jn_c120_1, jn_GEm jn_G0 jn_me120 q.1 q.2 :=
  jn_cons (⟨jn_iload_n_ok (i := 2) (k := 2) (by decide +kernel) rfl, jn_iload_n_mo 2⟩ : jn_GEm jn_G0 jn_me120 43 (.inl (jn_iload_n 2))) <|
  jn_cons (⟨jn_bipush_ok (n := 6) (v := 6) (by decide +kernel) (by decide), jn_bipush_mo 6⟩ : jn_GEm jn_G0 jn_me120 44 (.inl (jn_bipush 6))) <|
  jn_cons (⟨jn_icge_ok (t := 70) (off := 24) (by decide +kernel) (by decide), jn_icge_mo 70⟩ : jn_GEm jn_G0 jn_me120 46 (.inl (jn_icge 70))) <|
  jn_cons (⟨jn_aload_n_ok (i := 0) (k := 0) (by decide +kernel) rfl, jn_aload_n_mo 0⟩ : jn_GEm jn_G0 jn_me120 49 (.inl (jn_aload_n 0))) <|
  jn_cons (⟨jn_getf_ok (ci := 7) (k := 5) (i := 19) (N := 22) (C := RX7) (T := TX7) (by decide +kernel) rfl (by decide) jn_u7 (jn_in 620 (by decide +kernel) rfl), jn_getf_mo 7 5⟩ : jn_GEm jn_G0 jn_me120 50 (.inl (jn_getf 7 5))) <|
  jn_cons (⟨jn_bipush_ok (n := 6) (v := 6) (by decide +kernel) (by decide), jn_bipush_mo 6⟩ : jn_GEm jn_G0 jn_me120 53 (.inl (jn_bipush 6))) <|
  jn_cons (⟨jn_aload_n_ok (i := 0) (k := 0) (by decide +kernel) rfl, jn_aload_n_mo 0⟩ : jn_GEm jn_G0 jn_me120 55 (.inl (jn_aload_n 0))) <|
  jn_cons (⟨jn_getf_ok (ci := 7) (k := 3) (i := 84) (N := 22) (C := RX7) (T := TX7) (by decide +kernel) rfl (by decide) jn_u7 (jn_in 618 (by decide +kernel) rfl), jn_getf_mo 7 3⟩ : jn_GEm jn_G0 jn_me120 56 (.inl (jn_getf 7 3))) <|
  jn_cons (⟨jn_imul_ok (by decide +kernel), jn_imul_mo⟩ : jn_GEm jn_G0 jn_me120 59 (.inl jn_imul)) <|
  jn_cons (⟨jn_iload_n_ok (i := 2) (k := 2) (by decide +kernel) rfl, jn_iload_n_mo 2⟩ : jn_GEm jn_G0 jn_me120 60 (.inl (jn_iload_n 2))) <|
  jn_cons (⟨jn_iadd_ok (by decide +kernel), jn_iadd_mo⟩ : jn_GEm jn_G0 jn_me120 61 (.inl jn_iadd)) <|
  jn_cons (⟨jn_iconst_ok (by decide +kernel), jn_iconst_mo 0⟩ : jn_GEm jn_G0 jn_me120 62 (.inl (jn_iconst 0))) <|
  jn_cons (⟨jn_iastore_ok (by decide +kernel), jn_iastore_mo⟩ : jn_GEm jn_G0 jn_me120 63 (.inl jn_iastore)) <|
  jn_cons (⟨jn_iinc_ok (i := 2) (n := 1) (by decide +kernel), jn_iinc_mo 2 1⟩ : jn_GEm jn_G0 jn_me120 64 (.inl (jn_iinc 2 1))) <|
  jn_cons (⟨jn_goto_ok (t := 43) (off := -24) (by decide +kernel) (by decide), jn_goto_mo 43⟩ : jn_GEm jn_G0 jn_me120 67 (.inl (jn_goto 43))) <|
  jn_cons (⟨jn_aload_n_ok (i := 0) (k := 0) (by decide +kernel) rfl, jn_aload_n_mo 0⟩ : jn_GEm jn_G0 jn_me120 70 (.inl (jn_aload_n 0))) <|
  jn_cons (⟨jn_dup_ok (by decide +kernel), jn_dup_mo⟩ : jn_GEm jn_G0 jn_me120 71 (.inl jn_dup)) <|
  jn_cons (⟨jn_getf_ok (ci := 7) (k := 3) (i := 84) (N := 22) (C := RX7) (T := TX7) (by decide +kernel) rfl (by decide) jn_u7 (jn_in 618 (by decide +kernel) rfl), jn_getf_mo 7 3⟩ : jn_GEm jn_G0 jn_me120 72 (.inl (jn_getf 7 3))) <|
  jn_cons (⟨jn_iconst_ok (by decide +kernel), jn_iconst_mo 1⟩ : jn_GEm jn_G0 jn_me120 75 (.inl (jn_iconst 1))) <|
  jn_cons (⟨jn_iadd_ok (by decide +kernel), jn_iadd_mo⟩ : jn_GEm jn_G0 jn_me120 76 (.inl jn_iadd)) <|
  jn_cons (⟨jn_putf_ok (ci := 7) (k := 3) (κ := 0) (i := 84) (N := 22) (C := RX7) (T := TX7) (ty0 := tyX7) (ty := .int) (by decide +kernel) rfl (by decide) jn_u7 (jn_in 618 (by decide +kernel) rfl) tyX7_ok nmX7 rfl (by decide +kernel) jn_po_int, jn_putf_mo 7 3 0⟩ : jn_GEm jn_G0 jn_me120 77 (.inl (jn_putf 7 3 0))) <|
  jn_cons (⟨jn_aload_n_ok (i := 0) (k := 0) (by decide +kernel) rfl, jn_aload_n_mo 0⟩ : jn_GEm jn_G0 jn_me120 80 (.inl (jn_aload_n 0))) <|
  jn_cons (⟨jn_getf_ok (ci := 7) (k := 3) (i := 84) (N := 22) (C := RX7) (T := TX7) (by decide +kernel) rfl (by decide) jn_u7 (jn_in 618 (by decide +kernel) rfl), jn_getf_mo 7 3⟩ : jn_GEm jn_G0 jn_me120 81 (.inl (jn_getf 7 3))) <|
  jn_cons (⟨jn_iconst_ok (by decide +kernel), jn_iconst_mo 1⟩ : jn_GEm jn_G0 jn_me120 84 (.inl (jn_iconst 1))) <| jn_nil
theorem jn_o120_2 : ∀ q ∈ jn_c120_2, jn_GEm jn_G0 jn_me120 q.1 q.2 :=
  jn_cons (⟨jn_isub_ok (by decide +kernel), jn_isub_mo⟩ : jn_GEm jn_G0 jn_me120 85 (.inl jn_isub)) <|
  jn_cons (⟨(by decide +kernel), rfl⟩ : jn_GEm jn_G0 jn_me120 86 (.inr (.inr 1))) <| jn_nil
theorem jn_ok120 : jn_GM jn_G0 120 := jn_GM_of jn_G0_120 rfl rfl (by decide +kernel) (by decide) (jn_appd jn_o120_0 (jn_appd jn_o120_1 (jn_o120_2)))
theorem jn_o121_0 : ∀ q ∈ jn_c121_0, jn_GEm jn_G0 jn_me121 q.1 q.2 :=
  jn_cons (⟨jn_aload_n_ok (i := 0) (k := 0) (by decide +kernel) rfl, jn_aload_n_mo 0⟩ : jn_GEm jn_G0 jn_me121 0 (.inl (jn_aload_n 0))) <|
  jn_cons (⟨jn_iload_n_ok (i := 1) (k := 1) (by decide +kernel) rfl, jn_iload_n_mo 1⟩ : jn_GEm jn_G0 jn_me121 1 (.inl (jn_iload_n 1))) <|
  jn_cons (jn_gc_of jn_G0_99 (jn_callV (i := 147) (na := 1) (ci := 7) (q := (RX7, TX7, 22)) (by decide +kernel) rfl (jn_in 796 (by decide +kernel) rfl) (jn_in 793 (by decide +kernel) rfl) (jn_in 795 (by decide +kernel) rfl) (jn_in 34 (by decide +kernel) rfl) (jn_in 60 (by decide +kernel) rfl) ⟨by decide, by decide, by decide +kernel⟩) : jn_GEm jn_G0 jn_me121 2 (.inr (.inl (99, 9, 2)))) <|
  jn_cons (⟨jn_ifeq_ok (t := 26) (off := 21) (by decide +kernel) (by decide), jn_ifeq_mo 26⟩ : jn_GEm jn_G0 jn_me121 5 (.inl (jn_ifeq 26))) <|
  jn_cons (⟨jn_aload_n_ok (i := 0) (k := 0) (by decide +kernel) rfl, jn_aload_n_mo 0⟩ : jn_GEm jn_G0 jn_me121 8 (.inl (jn_aload_n 0))) <|
  jn_cons (⟨jn_aload_n_ok (i := 0) (k := 0) (by decide +kernel) rfl, jn_aload_n_mo 0⟩ : jn_GEm jn_G0 jn_me121 9 (.inl (jn_aload_n 0))) <|
  jn_cons (⟨jn_getf_ok (ci := 7) (k := 4) (i := 16) (N := 22) (C := RX7) (T := TX7) (by decide +kernel) rfl (by decide) jn_u7 (jn_in 619 (by decide +kernel) rfl), jn_getf_mo 7 4⟩ : jn_GEm jn_G0 jn_me121 10 (.inl (jn_getf 7 4))) <|
  jn_cons (⟨jn_iload_n_ok (i := 1) (k := 1) (by decide +kernel) rfl, jn_iload_n_mo 1⟩ : jn_GEm jn_G0 jn_me121 13 (.inl (jn_iload_n 1))) <|
  jn_cons (⟨jn_iaload_ok (by decide +kernel), jn_iaload_mo⟩ : jn_GEm jn_G0 jn_me121 14 (.inl jn_iaload)) <|
  jn_cons (⟨jn_iload_n_ok (i := 2) (k := 2) (by decide +kernel) rfl, jn_iload_n_mo 2⟩ : jn_GEm jn_G0 jn_me121 15 (.inl (jn_iload_n 2))) <|
  jn_cons (jn_gc_of jn_G0_98 (jn_callV (i := 93) (na := 2) (ci := 7) (q := (RX7, TX7, 22)) (by decide +kernel) rfl (jn_in 702 (by decide +kernel) rfl) (jn_in 699 (by decide +kernel) rfl) (jn_in 701 (by decide +kernel) rfl) (jn_in 20 (by decide +kernel) rfl) (jn_in 60 (by decide +kernel) rfl) ⟨by decide, by decide, by decide +kernel⟩) : jn_GEm jn_G0 jn_me121 16 (.inr (.inl (98, 9, 3)))) <|
  jn_cons (⟨jn_ifeq_ok (t := 26) (off := 7) (by decide +kernel) (by decide), jn_ifeq_mo 26⟩ : jn_GEm jn_G0 jn_me121 19 (.inl (jn_ifeq 26))) <|
  jn_cons (⟨jn_iconst_ok (by decide +kernel), jn_iconst_mo 1⟩ : jn_GEm jn_G0 jn_me121 22 (.inl (jn_iconst 1))) <|
  jn_cons (⟨jn_goto_ok (t := 27) (off := 4) (by decide +kernel) (by decide), jn_goto_mo 27⟩ : jn_GEm jn_G0 jn_me121 23 (.inl (jn_goto 27))) <|
  jn_cons (⟨jn_iconst_ok (by decide +kernel), jn_iconst_mo 0⟩ : jn_GEm jn_G0 jn_me121 26 (.inl (jn_iconst 0))) <|
  jn_cons (⟨(by decide +kernel), rfl⟩ : jn_GEm jn_G0 jn_me121 27 (.inr (.inr 2))) <| jn_nil
theorem jn_ok121 : jn_GM jn_G0 121 := jn_GM_of jn_G0_121 rfl rfl (by decide +kernel) (by decide) (jn_o121_0)
theorem jn_o122_0 : ∀ q ∈ jn_c122_0, jn_GEm jn_G0 jn_me122 q.1 q.2 :=
  jn_cons (⟨jn_aload_n_ok (i := 0) (k := 0) (by decide +kernel) rfl, jn_aload_n_mo 0⟩ : jn_GEm jn_G0 jn_me122 0 (.inl (jn_aload_n 0))) <|
  jn_cons (⟨jn_iload_n_ok (i := 1) (k := 1) (by decide +kernel) rfl, jn_iload_n_mo 1⟩ : jn_GEm jn_G0 jn_me122 1 (.inl (jn_iload_n 1))) <|
  jn_cons (⟨jn_iload_n_ok (i := 2) (k := 2) (by decide +kernel) rfl, jn_iload_n_mo 2⟩ : jn_GEm jn_G0 jn_me122 2 (.inl (jn_iload_n 2))) <|
  jn_cons (jn_gc_of jn_G0_121 (jn_callV (i := 150) (na := 2) (ci := 7) (q := (RX7, TX7, 22)) (by decide +kernel) rfl (jn_in 792 (by decide +kernel) rfl) (jn_in 789 (by decide +kernel) rfl) (jn_in 791 (by decide +kernel) rfl) (jn_in 33 (by decide +kernel) rfl) (jn_in 60 (by decide +kernel) rfl) ⟨by decide, by decide, by decide +kernel⟩) : jn_GEm jn_G0 jn_me122 3 (.inr (.inl (121, 9, 3)))) <|
  jn_cons (⟨jn_ifne_ok (t := 16) (off := 10) (by decide +kernel) (by decide), jn_ifne_mo 16⟩ : jn_GEm jn_G0 jn_me122 6 (.inl (jn_ifne 16))) <|
  jn_cons (⟨jn_aload_n_ok (i := 0) (k := 0) (by decide +kernel) rfl, jn_aload_n_mo 0⟩ : jn_GEm jn_G0 jn_me122 9 (.inl (jn_aload_n 0))) <|
  jn_cons (⟨jn_bipush_ok (n := (-3)) (v := (-3)) (by decide +kernel) (by decide), jn_bipush_mo (-3)⟩ : jn_GEm jn_G0 jn_me122 10 (.inl (jn_bipush (-3)))) <|
  jn_cons (jn_gc_of jn_G0_96 (jn_callV (i := 132) (na := 1) (ci := 7) (q := (RX7, TX7, 22)) (by decide +kernel) rfl (jn_in 746 (by decide +kernel) rfl) (jn_in 743 (by decide +kernel) rfl) (jn_in 745 (by decide +kernel) rfl) (jn_in 27 (by decide +kernel) rfl) (jn_in 60 (by decide +kernel) rfl) ⟨by decide, by decide, by decide +kernel⟩) : jn_GEm jn_G0 jn_me122 12 (.inr (.inl (96, 9, 2)))) <|
  jn_cons (⟨(by decide +kernel), rfl⟩ : jn_GEm jn_G0 jn_me122 15 (.inr (.inr 1))) <|
  jn_cons (⟨jn_iload_n_ok (i := 3) (k := 3) (by decide +kernel) rfl, jn_iload_n_mo 3⟩ : jn_GEm jn_G0 jn_me122 16 (.inl (jn_iload_n 3))) <|
  jn_cons (⟨jn_i2l_ok (by decide +kernel), jn_i2l_mo⟩ : jn_GEm jn_G0 jn_me122 17 (.inl jn_i2l)) <|
  jn_cons (⟨jn_ldc2_ok (i := 153) (v := (-300)) (by decide +kernel) (jn_in 797 (by decide +kernel) rfl), jn_ldc2_mo (-300)⟩ : jn_GEm jn_G0 jn_me122 18 (.inl (jn_ldc2 (-300)))) <|
  jn_cons (⟨jn_ldc2_ok (i := 155) (v := 300) (by decide +kernel) (jn_in 798 (by decide +kernel) rfl), jn_ldc2_mo 300⟩ : jn_GEm jn_G0 jn_me122 21 (.inl (jn_ldc2 300))) <|
  jn_cons (jn_gc_of jn_G0_94 (jn_callS (i := 89) (na := 3) (by decide +kernel) (jn_in 690 (by decide +kernel) rfl) (jn_in 688 (by decide +kernel) rfl) (jn_in 689 (by decide +kernel) rfl) (jn_in 60 (by decide +kernel) rfl) ⟨by decide, by decide, by decide +kernel⟩) : jn_GEm jn_G0 jn_me122 24 (.inr (.inl (94, 0, 3)))) <|
  jn_cons (⟨jn_ifne_ok (t := 37) (off := 10) (by decide +kernel) (by decide), jn_ifne_mo 37⟩ : jn_GEm jn_G0 jn_me122 27 (.inl (jn_ifne 37))) <|
  jn_cons (⟨jn_aload_n_ok (i := 0) (k := 0) (by decide +kernel) rfl, jn_aload_n_mo 0⟩ : jn_GEm jn_G0 jn_me122 30 (.inl (jn_aload_n 0))) <|
  jn_cons (⟨jn_bipush_ok (n := (-7)) (v := (-7)) (by decide +kernel) (by decide), jn_bipush_mo (-7)⟩ : jn_GEm jn_G0 jn_me122 31 (.inl (jn_bipush (-7)))) <|
  jn_cons (jn_gc_of jn_G0_96 (jn_callV (i := 132) (na := 1) (ci := 7) (q := (RX7, TX7, 22)) (by decide +kernel) rfl (jn_in 746 (by decide +kernel) rfl) (jn_in 743 (by decide +kernel) rfl) (jn_in 745 (by decide +kernel) rfl) (jn_in 27 (by decide +kernel) rfl) (jn_in 60 (by decide +kernel) rfl) ⟨by decide, by decide, by decide +kernel⟩) : jn_GEm jn_G0 jn_me122 33 (.inr (.inl (96, 9, 2)))) <|
  jn_cons (⟨(by decide +kernel), rfl⟩ : jn_GEm jn_G0 jn_me122 36 (.inr (.inr 1))) <|
  jn_cons (⟨jn_aload_n_ok (i := 0) (k := 0) (by decide +kernel) rfl, jn_aload_n_mo 0⟩ : jn_GEm jn_G0 jn_me122 37 (.inl (jn_aload_n 0))) <|
  jn_cons (⟨jn_getf_ok (ci := 7) (k := 5) (i := 19) (N := 22) (C := RX7) (T := TX7) (by decide +kernel) rfl (by decide) jn_u7 (jn_in 620 (by decide +kernel) rfl), jn_getf_mo 7 5⟩ : jn_GEm jn_G0 jn_me122 38 (.inl (jn_getf 7 5))) <|
  jn_cons (⟨jn_bipush_ok (n := 6) (v := 6) (by decide +kernel) (by decide), jn_bipush_mo 6⟩ : jn_GEm jn_G0 jn_me122 41 (.inl (jn_bipush 6))) <|
  jn_cons (⟨jn_iload_n_ok (i := 1) (k := 1) (by decide +kernel) rfl, jn_iload_n_mo 1⟩ : jn_GEm jn_G0 jn_me122 43 (.inl (jn_iload_n 1))) <|
  jn_cons (⟨jn_imul_ok (by decide +kernel), jn_imul_mo⟩ : jn_GEm jn_G0 jn_me122 44 (.inl jn_imul)) <| jn_nil
theorem jn_o122_1 : ∀ q ∈ jn_c122_1, jn_GEm jn_G0 jn_me122 q.1 q.2 :=
  jn_cons (⟨jn_iload_n_ok (i := 2) (k := 2) (by decide +kernel) rfl, jn_iload_n_mo 2⟩ : jn_GEm jn_G0 jn_me122 45 (.inl (jn_iload_n 2))) <|
  jn_cons (⟨jn_iadd_ok (by decide +kernel), jn_iadd_mo⟩ : jn_GEm jn_G0 jn_me122 46 (.inl jn_iadd)) <|
  jn_cons (⟨jn_iaload_ok (by decide +kernel), jn_iaload_mo⟩ : jn_GEm jn_G0 jn_me122 47 (.inl jn_iaload)) <|
  jn_cons (⟨jn_istore_ok (i := 4) (by decide +kernel), jn_istore_mo 4⟩ : jn_GEm jn_G0 jn_me122 48 (.inl (jn_istore 4))) <|
  jn_cons (⟨jn_aload_n_ok (i := 0) (k := 0) (by decide +kernel) rfl, jn_aload_n_mo 0⟩ : jn_GEm jn_G0 jn_me122 50 (.inl (jn_aload_n 0))) <|
  jn_cons (⟨jn_getf_ok (ci := 7) (k := 5) (i := 19) (N := 22) (C := RX7) (T := TX7) (by decide +kernel) rfl (by decide) jn_u7 (jn_in 620 (by decide +kernel) rfl), jn_getf_mo 7 5⟩ : jn_GEm jn_G0 jn_me122 51 (.inl (jn_getf 7 5))) <|
  jn_cons (⟨jn_bipush_ok (n := 6) (v := 6) (by decide +kernel) (by decide), jn_bipush_mo 6⟩ : jn_GEm jn_G0 jn_me122 54 (.inl (jn_bipush 6))) <|
  jn_cons (⟨jn_iload_n_ok (i := 1) (k := 1) (by decide +kernel) rfl, jn_iload_n_mo 1⟩ : jn_GEm jn_G0 jn_me122 56 (.inl (jn_iload_n 1))) <|
  jn_cons (⟨jn_imul_ok (by decide +kernel), jn_imul_mo⟩ : jn_GEm jn_G0 jn_me122 57 (.inl jn_imul)) <|
  jn_cons (⟨jn_iload_n_ok (i := 2) (k := 2) (by decide +kernel) rfl, jn_iload_n_mo 2⟩ : jn_GEm jn_G0 jn_me122 58 (.inl (jn_iload_n 2))) <|
  jn_cons (⟨jn_iadd_ok (by decide +kernel), jn_iadd_mo⟩ : jn_GEm jn_G0 jn_me122 59 (.inl jn_iadd)) <|
  jn_cons (⟨jn_iload_n_ok (i := 3) (k := 3) (by decide +kernel) rfl, jn_iload_n_mo 3⟩ : jn_GEm jn_G0 jn_me122 60 (.inl (jn_iload_n 3))) <|
  jn_cons (⟨jn_iastore_ok (by decide +kernel), jn_iastore_mo⟩ : jn_GEm jn_G0 jn_me122 61 (.inl jn_iastore)) <|
  jn_cons (⟨jn_iload_ok (i := 4) (by decide +kernel), jn_iload_mo 4⟩ : jn_GEm jn_G0 jn_me122 62 (.inl (jn_iload 4))) <|
  jn_cons (⟨(by decide +kernel), rfl⟩ : jn_GEm jn_G0 jn_me122 64 (.inr (.inr 1))) <| jn_nil
theorem jn_ok122 : jn_GM jn_G0 122 := jn_GM_of jn_G0_122 rfl rfl (by decide +kernel) (by decide) (jn_appd jn_o122_0 (jn_o122_1))
theorem jn_o123_0 : ∀ q ∈ jn_c123_0, jn_GEm jn_G0 jn_me123 q.1 q.2 :=
  jn_cons (⟨jn_aload_n_ok (i := 0) (k := 0) (by decide +kernel) rfl, jn_aload_n_mo 0⟩ : jn_GEm jn_G0 jn_me123 0 (.inl (jn_aload_n 0))) <|
  jn_cons (⟨jn_iload_n_ok (i := 1) (k := 1) (by decide +kernel) rfl, jn_iload_n_mo 1⟩ : jn_GEm jn_G0 jn_me123 1 (.inl (jn_iload_n 1))) <|
  jn_cons (⟨jn_iload_n_ok (i := 2) (k := 2) (by decide +kernel) rfl, jn_iload_n_mo 2⟩ : jn_GEm jn_G0 jn_me123 2 (.inl (jn_iload_n 2))) <|
  jn_cons (jn_gc_of jn_G0_121 (jn_callV (i := 150) (na := 2) (ci := 7) (q := (RX7, TX7, 22)) (by decide +kernel) rfl (jn_in 792 (by decide +kernel) rfl) (jn_in 789 (by decide +kernel) rfl) (jn_in 791 (by decide +kernel) rfl) (jn_in 33 (by decide +kernel) rfl) (jn_in 60 (by decide +kernel) rfl) ⟨by decide, by decide, by decide +kernel⟩) : jn_GEm jn_G0 jn_me123 3 (.inr (.inl (121, 9, 3)))) <|
  jn_cons (⟨jn_ifeq_ok (t := 23) (off := 17) (by decide +kernel) (by decide), jn_ifeq_mo 23⟩ : jn_GEm jn_G0 jn_me123 6 (.inl (jn_ifeq 23))) <|
  jn_cons (⟨jn_aload_n_ok (i := 0) (k := 0) (by decide +kernel) rfl, jn_aload_n_mo 0⟩ : jn_GEm jn_G0 jn_me123 9 (.inl (jn_aload_n 0))) <|
  jn_cons (⟨jn_getf_ok (ci := 7) (k := 5) (i := 19) (N := 22) (C := RX7) (T := TX7) (by decide +kernel) rfl (by decide) jn_u7 (jn_in 620 (by decide +kernel) rfl), jn_getf_mo 7 5⟩ : jn_GEm jn_G0 jn_me123 10 (.inl (jn_getf 7 5))) <|
  jn_cons (⟨jn_bipush_ok (n := 6) (v := 6) (by decide +kernel) (by decide), jn_bipush_mo 6⟩ : jn_GEm jn_G0 jn_me123 13 (.inl (jn_bipush 6))) <|
  jn_cons (⟨jn_iload_n_ok (i := 1) (k := 1) (by decide +kernel) rfl, jn_iload_n_mo 1⟩ : jn_GEm jn_G0 jn_me123 15 (.inl (jn_iload_n 1))) <|
  jn_cons (⟨jn_imul_ok (by decide +kernel), jn_imul_mo⟩ : jn_GEm jn_G0 jn_me123 16 (.inl jn_imul)) <|
  jn_cons (⟨jn_iload_n_ok (i := 2) (k := 2) (by decide +kernel) rfl, jn_iload_n_mo 2⟩ : jn_GEm jn_G0 jn_me123 17 (.inl (jn_iload_n 2))) <|
  jn_cons (⟨jn_iadd_ok (by decide +kernel), jn_iadd_mo⟩ : jn_GEm jn_G0 jn_me123 18 (.inl jn_iadd)) <|
  jn_cons (⟨jn_iaload_ok (by decide +kernel), jn_iaload_mo⟩ : jn_GEm jn_G0 jn_me123 19 (.inl jn_iaload)) <|
  jn_cons (⟨jn_goto_ok (t := 29) (off := 9) (by decide +kernel) (by decide), jn_goto_mo 29⟩ : jn_GEm jn_G0 jn_me123 20 (.inl (jn_goto 29))) <|
  jn_cons (⟨jn_aload_n_ok (i := 0) (k := 0) (by decide +kernel) rfl, jn_aload_n_mo 0⟩ : jn_GEm jn_G0 jn_me123 23 (.inl (jn_aload_n 0))) <|
  jn_cons (⟨jn_bipush_ok (n := (-3)) (v := (-3)) (by decide +kernel) (by decide), jn_bipush_mo (-3)⟩ : jn_GEm jn_G0 jn_me123 24 (.inl (jn_bipush (-3)))) <|
  jn_cons (jn_gc_of jn_G0_96 (jn_callV (i := 132) (na := 1) (ci := 7) (q := (RX7, TX7, 22)) (by decide +kernel) rfl (jn_in 746 (by decide +kernel) rfl) (jn_in 743 (by decide +kernel) rfl) (jn_in 745 (by decide +kernel) rfl) (jn_in 27 (by decide +kernel) rfl) (jn_in 60 (by decide +kernel) rfl) ⟨by decide, by decide, by decide +kernel⟩) : jn_GEm jn_G0 jn_me123 26 (.inr (.inl (96, 9, 2)))) <|
  jn_cons (⟨(by decide +kernel), rfl⟩ : jn_GEm jn_G0 jn_me123 29 (.inr (.inr 1))) <| jn_nil
theorem jn_ok123 : jn_GM jn_G0 123 := jn_GM_of jn_G0_123 rfl rfl (by decide +kernel) (by decide) (jn_o123_0)
theorem jn_o124_0 : ∀ q ∈ jn_c124_0, jn_GEm jn_G0 jn_me124 q.1 q.2 :=
  jn_cons (⟨jn_iconst_ok (by decide +kernel), jn_iconst_mo 0⟩ : jn_GEm jn_G0 jn_me124 0 (.inl (jn_iconst 0))) <|
  jn_cons (⟨jn_istore_n_ok (i := 2) (k := 2) (by decide +kernel) rfl, jn_istore_n_mo 2⟩ : jn_GEm jn_G0 jn_me124 1 (.inl (jn_istore_n 2))) <|
  jn_cons (⟨jn_iconst_ok (by decide +kernel), jn_iconst_mo 0⟩ : jn_GEm jn_G0 jn_me124 2 (.inl (jn_iconst 0))) <|
  jn_cons (⟨jn_istore_n_ok (i := 3) (k := 3) (by decide +kernel) rfl, jn_istore_n_mo 3⟩ : jn_GEm jn_G0 jn_me124 3 (.inl (jn_istore_n 3))) <|
  jn_cons (⟨jn_iload_n_ok (i := 3) (k := 3) (by decide +kernel) rfl, jn_iload_n_mo 3⟩ : jn_GEm jn_G0 jn_me124 4 (.inl (jn_iload_n 3))) <|
  jn_cons (⟨jn_bipush_ok (n := 6) (v := 6) (by decide +kernel) (by decide), jn_bipush_mo 6⟩ : jn_GEm jn_G0 jn_me124 5 (.inl (jn_bipush 6))) <|
  jn_cons (⟨jn_icge_ok (t := 30) (off := 23) (by decide +kernel) (by decide), jn_icge_mo 30⟩ : jn_GEm jn_G0 jn_me124 7 (.inl (jn_icge 30))) <|
  jn_cons (⟨jn_iload_n_ok (i := 2) (k := 2) (by decide +kernel) rfl, jn_iload_n_mo 2⟩ : jn_GEm jn_G0 jn_me124 10 (.inl (jn_iload_n 2))) <|
  jn_cons (⟨jn_aload_n_ok (i := 0) (k := 0) (by decide +kernel) rfl, jn_aload_n_mo 0⟩ : jn_GEm jn_G0 jn_me124 11 (.inl (jn_aload_n 0))) <|
  jn_cons (⟨jn_getf_ok (ci := 7) (k := 5) (i := 19) (N := 22) (C := RX7) (T := TX7) (by decide +kernel) rfl (by decide) jn_u7 (jn_in 620 (by decide +kernel) rfl), jn_getf_mo 7 5⟩ : jn_GEm jn_G0 jn_me124 12 (.inl (jn_getf 7 5))) <|
  jn_cons (⟨jn_bipush_ok (n := 6) (v := 6) (by decide +kernel) (by decide), jn_bipush_mo 6⟩ : jn_GEm jn_G0 jn_me124 15 (.inl (jn_bipush 6))) <|
  jn_cons (⟨jn_iload_n_ok (i := 1) (k := 1) (by decide +kernel) rfl, jn_iload_n_mo 1⟩ : jn_GEm jn_G0 jn_me124 17 (.inl (jn_iload_n 1))) <|
  jn_cons (⟨jn_imul_ok (by decide +kernel), jn_imul_mo⟩ : jn_GEm jn_G0 jn_me124 18 (.inl jn_imul)) <|
  jn_cons (⟨jn_iload_n_ok (i := 3) (k := 3) (by decide +kernel) rfl, jn_iload_n_mo 3⟩ : jn_GEm jn_G0 jn_me124 19 (.inl (jn_iload_n 3))) <|
  jn_cons (⟨jn_iadd_ok (by decide +kernel), jn_iadd_mo⟩ : jn_GEm jn_G0 jn_me124 20 (.inl jn_iadd)) <|
  jn_cons (⟨jn_iaload_ok (by decide +kernel), jn_iaload_mo⟩ : jn_GEm jn_G0 jn_me124 21 (.inl jn_iaload)) <|
  jn_cons (⟨jn_iadd_ok (by decide +kernel), jn_iadd_mo⟩ : jn_GEm jn_G0 jn_me124 22 (.inl jn_iadd)) <|
  jn_cons (⟨jn_istore_n_ok (i := 2) (k := 2) (by decide +kernel) rfl, jn_istore_n_mo 2⟩ : jn_GEm jn_G0 jn_me124 23 (.inl (jn_istore_n 2))) <|
  jn_cons (⟨jn_iinc_ok (i := 3) (n := 1) (by decide +kernel), jn_iinc_mo 3 1⟩ : jn_GEm jn_G0 jn_me124 24 (.inl (jn_iinc 3 1))) <|
  jn_cons (⟨jn_goto_ok (t := 4) (off := -23) (by decide +kernel) (by decide), jn_goto_mo 4⟩ : jn_GEm jn_G0 jn_me124 27 (.inl (jn_goto 4))) <|
  jn_cons (⟨jn_iload_n_ok (i := 2) (k := 2) (by decide +kernel) rfl, jn_iload_n_mo 2⟩ : jn_GEm jn_G0 jn_me124 30 (.inl (jn_iload_n 2))) <|
  jn_cons (⟨(by decide +kernel), rfl⟩ : jn_GEm jn_G0 jn_me124 31 (.inr (.inr 1))) <| jn_nil
theorem jn_ok124 : jn_GM jn_G0 124 := jn_GM_of jn_G0_124 rfl rfl (by decide +kernel) (by decide) (jn_o124_0)
theorem jn_o125_0 : ∀ q ∈ jn_c125_0, jn_GEm jn_G0 jn_me125 q.1 q.2 :=
  jn_cons (⟨jn_aload_n_ok (i := 0) (k := 0) (by decide +kernel) rfl, jn_aload_n_mo 0⟩ : jn_GEm jn_G0 jn_me125 0 (.inl (jn_aload_n 0))) <|
  jn_cons (⟨jn_iload_n_ok (i := 1) (k := 1) (by decide +kernel) rfl, jn_iload_n_mo 1⟩ : jn_GEm jn_G0 jn_me125 1 (.inl (jn_iload_n 1))) <|
  jn_cons (jn_gc_of jn_G0_99 (jn_callV (i := 147) (na := 1) (ci := 7) (q := (RX7, TX7, 22)) (by decide +kernel) rfl (jn_in 796 (by decide +kernel) rfl) (jn_in 793 (by decide +kernel) rfl) (jn_in 795 (by decide +kernel) rfl) (jn_in 34 (by decide +kernel) rfl) (jn_in 60 (by decide +kernel) rfl) ⟨by decide, by decide, by decide +kernel⟩) : jn_GEm jn_G0 jn_me125 2 (.inr (.inl (99, 9, 2)))) <|
  jn_cons (⟨jn_ifeq_ok (t := 16) (off := 11) (by decide +kernel) (by decide), jn_ifeq_mo 16⟩ : jn_GEm jn_G0 jn_me125 5 (.inl (jn_ifeq 16))) <|
  jn_cons (⟨jn_aload_n_ok (i := 0) (k := 0) (by decide +kernel) rfl, jn_aload_n_mo 0⟩ : jn_GEm jn_G0 jn_me125 8 (.inl (jn_aload_n 0))) <|
  jn_cons (⟨jn_iload_n_ok (i := 1) (k := 1) (by decide +kernel) rfl, jn_iload_n_mo 1⟩ : jn_GEm jn_G0 jn_me125 9 (.inl (jn_iload_n 1))) <|
  jn_cons (jn_gc_of jn_G0_124 (jn_callV (i := 157) (na := 1) (ci := 7) (q := (RX7, TX7, 22)) (by decide +kernel) rfl (jn_in 810 (by decide +kernel) rfl) (jn_in 807 (by decide +kernel) rfl) (jn_in 809 (by decide +kernel) rfl) (jn_in 35 (by decide +kernel) rfl) (jn_in 60 (by decide +kernel) rfl) ⟨by decide, by decide, by decide +kernel⟩) : jn_GEm jn_G0 jn_me125 10 (.inr (.inl (124, 9, 2)))) <|
  jn_cons (⟨jn_goto_ok (t := 22) (off := 9) (by decide +kernel) (by decide), jn_goto_mo 22⟩ : jn_GEm jn_G0 jn_me125 13 (.inl (jn_goto 22))) <|
  jn_cons (⟨jn_aload_n_ok (i := 0) (k := 0) (by decide +kernel) rfl, jn_aload_n_mo 0⟩ : jn_GEm jn_G0 jn_me125 16 (.inl (jn_aload_n 0))) <|
  jn_cons (⟨jn_bipush_ok (n := (-3)) (v := (-3)) (by decide +kernel) (by decide), jn_bipush_mo (-3)⟩ : jn_GEm jn_G0 jn_me125 17 (.inl (jn_bipush (-3)))) <|
  jn_cons (jn_gc_of jn_G0_96 (jn_callV (i := 132) (na := 1) (ci := 7) (q := (RX7, TX7, 22)) (by decide +kernel) rfl (jn_in 746 (by decide +kernel) rfl) (jn_in 743 (by decide +kernel) rfl) (jn_in 745 (by decide +kernel) rfl) (jn_in 27 (by decide +kernel) rfl) (jn_in 60 (by decide +kernel) rfl) ⟨by decide, by decide, by decide +kernel⟩) : jn_GEm jn_G0 jn_me125 19 (.inr (.inl (96, 9, 2)))) <|
  jn_cons (⟨(by decide +kernel), rfl⟩ : jn_GEm jn_G0 jn_me125 22 (.inr (.inr 1))) <| jn_nil
theorem jn_ok125 : jn_GM jn_G0 125 := jn_GM_of jn_G0_125 rfl rfl (by decide +kernel) (by decide) (jn_o125_0)
theorem jn_o126_0 : ∀ q ∈ jn_c126_0, jn_GEm jn_G0 jn_me126 q.1 q.2 :=
  jn_cons (⟨jn_aload_n_ok (i := 0) (k := 0) (by decide +kernel) rfl, jn_aload_n_mo 0⟩ : jn_GEm jn_G0 jn_me126 0 (.inl (jn_aload_n 0))) <|
  jn_cons (⟨jn_iload_n_ok (i := 1) (k := 1) (by decide +kernel) rfl, jn_iload_n_mo 1⟩ : jn_GEm jn_G0 jn_me126 1 (.inl (jn_iload_n 1))) <|
  jn_cons (jn_gc_of jn_G0_99 (jn_callV (i := 147) (na := 1) (ci := 7) (q := (RX7, TX7, 22)) (by decide +kernel) rfl (jn_in 796 (by decide +kernel) rfl) (jn_in 793 (by decide +kernel) rfl) (jn_in 795 (by decide +kernel) rfl) (jn_in 34 (by decide +kernel) rfl) (jn_in 60 (by decide +kernel) rfl) ⟨by decide, by decide, by decide +kernel⟩) : jn_GEm jn_G0 jn_me126 2 (.inr (.inl (99, 9, 2)))) <|
  jn_cons (⟨jn_ifne_ok (t := 15) (off := 10) (by decide +kernel) (by decide), jn_ifne_mo 15⟩ : jn_GEm jn_G0 jn_me126 5 (.inl (jn_ifne 15))) <|
  jn_cons (⟨jn_aload_n_ok (i := 0) (k := 0) (by decide +kernel) rfl, jn_aload_n_mo 0⟩ : jn_GEm jn_G0 jn_me126 8 (.inl (jn_aload_n 0))) <|
  jn_cons (⟨jn_bipush_ok (n := (-3)) (v := (-3)) (by decide +kernel) (by decide), jn_bipush_mo (-3)⟩ : jn_GEm jn_G0 jn_me126 9 (.inl (jn_bipush (-3)))) <|
  jn_cons (jn_gc_of jn_G0_95 (jn_callV (i := 73) (na := 1) (ci := 7) (q := (RX7, TX7, 22)) (by decide +kernel) rfl (jn_in 694 (by decide +kernel) rfl) (jn_in 691 (by decide +kernel) rfl) (jn_in 693 (by decide +kernel) rfl) (jn_in 19 (by decide +kernel) rfl) (jn_in 60 (by decide +kernel) rfl) ⟨by decide, by decide, by decide +kernel⟩) : jn_GEm jn_G0 jn_me126 11 (.inr (.inl (95, 9, 2)))) <|
  jn_cons (⟨(by decide +kernel), rfl⟩ : jn_GEm jn_G0 jn_me126 14 (.inr (.inr 1))) <|
  jn_cons (⟨jn_iconst_ok (by decide +kernel), jn_iconst_mo 1⟩ : jn_GEm jn_G0 jn_me126 15 (.inl (jn_iconst 1))) <|
  jn_cons (⟨jn_istore_n_ok (i := 2) (k := 2) (by decide +kernel) rfl, jn_istore_n_mo 2⟩ : jn_GEm jn_G0 jn_me126 16 (.inl (jn_istore_n 2))) <|
  jn_cons (⟨jn_iconst_ok (by decide +kernel), jn_iconst_mo 0⟩ : jn_GEm jn_G0 jn_me126 17 (.inl (jn_iconst 0))) <|
  jn_cons (⟨jn_istore_n_ok (i := 3) (k := 3) (by decide +kernel) rfl, jn_istore_n_mo 3⟩ : jn_GEm jn_G0 jn_me126 18 (.inl (jn_istore_n 3))) <|
  jn_cons (⟨jn_iload_n_ok (i := 3) (k := 3) (by decide +kernel) rfl, jn_iload_n_mo 3⟩ : jn_GEm jn_G0 jn_me126 19 (.inl (jn_iload_n 3))) <|
  jn_cons (⟨jn_bipush_ok (n := 6) (v := 6) (by decide +kernel) (by decide), jn_bipush_mo 6⟩ : jn_GEm jn_G0 jn_me126 20 (.inl (jn_bipush 6))) <|
  jn_cons (⟨jn_icge_ok (t := 55) (off := 33) (by decide +kernel) (by decide), jn_icge_mo 55⟩ : jn_GEm jn_G0 jn_me126 22 (.inl (jn_icge 55))) <|
  jn_cons (⟨jn_iload_n_ok (i := 2) (k := 2) (by decide +kernel) rfl, jn_iload_n_mo 2⟩ : jn_GEm jn_G0 jn_me126 25 (.inl (jn_iload_n 2))) <|
  jn_cons (⟨jn_ifeq_ok (t := 47) (off := 21) (by decide +kernel) (by decide), jn_ifeq_mo 47⟩ : jn_GEm jn_G0 jn_me126 26 (.inl (jn_ifeq 47))) <|
  jn_cons (⟨jn_aload_n_ok (i := 0) (k := 0) (by decide +kernel) rfl, jn_aload_n_mo 0⟩ : jn_GEm jn_G0 jn_me126 29 (.inl (jn_aload_n 0))) <|
  jn_cons (⟨jn_getf_ok (ci := 7) (k := 5) (i := 19) (N := 22) (C := RX7) (T := TX7) (by decide +kernel) rfl (by decide) jn_u7 (jn_in 620 (by decide +kernel) rfl), jn_getf_mo 7 5⟩ : jn_GEm jn_G0 jn_me126 30 (.inl (jn_getf 7 5))) <|
  jn_cons (⟨jn_bipush_ok (n := 6) (v := 6) (by decide +kernel) (by decide), jn_bipush_mo 6⟩ : jn_GEm jn_G0 jn_me126 33 (.inl (jn_bipush 6))) <|
  jn_cons (⟨jn_iload_n_ok (i := 1) (k := 1) (by decide +kernel) rfl, jn_iload_n_mo 1⟩ : jn_GEm jn_G0 jn_me126 35 (.inl (jn_iload_n 1))) <|
  jn_cons (⟨jn_imul_ok (by decide +kernel), jn_imul_mo⟩ : jn_GEm jn_G0 jn_me126 36 (.inl jn_imul)) <|
  jn_cons (⟨jn_iload_n_ok (i := 3) (k := 3) (by decide +kernel) rfl, jn_iload_n_mo 3⟩ : jn_GEm jn_G0 jn_me126 37 (.inl (jn_iload_n 3))) <|
  jn_cons (⟨jn_iadd_ok (by decide +kernel), jn_iadd_mo⟩ : jn_GEm jn_G0 jn_me126 38 (.inl jn_iadd)) <| jn_nil
theorem jn_o126_1 : ∀ q ∈ jn_c126_1, jn_GEm jn_G0 jn_me126 q.1 q.2 :=
  jn_cons (⟨jn_iaload_ok (by decide +kernel), jn_iaload_mo⟩ : jn_GEm jn_G0 jn_me126 39 (.inl jn_iaload)) <|
  jn_cons (⟨jn_iflt_ok (t := 47) (off := 7) (by decide +kernel) (by decide), jn_iflt_mo 47⟩ : jn_GEm jn_G0 jn_me126 40 (.inl (jn_iflt 47))) <|
  jn_cons (⟨jn_iconst_ok (by decide +kernel), jn_iconst_mo 1⟩ : jn_GEm jn_G0 jn_me126 43 (.inl (jn_iconst 1))) <|
  jn_cons (⟨jn_goto_ok (t := 48) (off := 4) (by decide +kernel) (by decide), jn_goto_mo 48⟩ : jn_GEm jn_G0 jn_me126 44 (.inl (jn_goto 48))) <|
  jn_cons (⟨jn_iconst_ok (by decide +kernel), jn_iconst_mo 0⟩ : jn_GEm jn_G0 jn_me126 47 (.inl (jn_iconst 0))) <|
  jn_cons (⟨jn_istore_n_ok (i := 2) (k := 2) (by decide +kernel) rfl, jn_istore_n_mo 2⟩ : jn_GEm jn_G0 jn_me126 48 (.inl (jn_istore_n 2))) <|
  jn_cons (⟨jn_iinc_ok (i := 3) (n := 1) (by decide +kernel), jn_iinc_mo 3 1⟩ : jn_GEm jn_G0 jn_me126 49 (.inl (jn_iinc 3 1))) <|
  jn_cons (⟨jn_goto_ok (t := 19) (off := -33) (by decide +kernel) (by decide), jn_goto_mo 19⟩ : jn_GEm jn_G0 jn_me126 52 (.inl (jn_goto 19))) <|
  jn_cons (⟨jn_iload_n_ok (i := 2) (k := 2) (by decide +kernel) rfl, jn_iload_n_mo 2⟩ : jn_GEm jn_G0 jn_me126 55 (.inl (jn_iload_n 2))) <|
  jn_cons (⟨jn_ifeq_ok (t := 63) (off := 7) (by decide +kernel) (by decide), jn_ifeq_mo 63⟩ : jn_GEm jn_G0 jn_me126 56 (.inl (jn_ifeq 63))) <|
  jn_cons (⟨jn_iconst_ok (by decide +kernel), jn_iconst_mo 1⟩ : jn_GEm jn_G0 jn_me126 59 (.inl (jn_iconst 1))) <|
  jn_cons (⟨jn_goto_ok (t := 64) (off := 4) (by decide +kernel) (by decide), jn_goto_mo 64⟩ : jn_GEm jn_G0 jn_me126 60 (.inl (jn_goto 64))) <|
  jn_cons (⟨jn_iconst_ok (by decide +kernel), jn_iconst_mo 0⟩ : jn_GEm jn_G0 jn_me126 63 (.inl (jn_iconst 0))) <|
  jn_cons (⟨(by decide +kernel), rfl⟩ : jn_GEm jn_G0 jn_me126 64 (.inr (.inr 1))) <| jn_nil
theorem jn_ok126 : jn_GM jn_G0 126 := jn_GM_of jn_G0_126 rfl rfl (by decide +kernel) (by decide) (jn_appd jn_o126_0 (jn_o126_1))
theorem jn_o127_0 : ∀ q ∈ jn_c127_0, jn_GEm jn_G0 jn_me127 q.1 q.2 :=
  jn_cons (⟨jn_iconst_ok (by decide +kernel), jn_iconst_mo 0⟩ : jn_GEm jn_G0 jn_me127 0 (.inl (jn_iconst 0))) <|
  jn_cons (⟨jn_istore_n_ok (i := 2) (k := 2) (by decide +kernel) rfl, jn_istore_n_mo 2⟩ : jn_GEm jn_G0 jn_me127 1 (.inl (jn_istore_n 2))) <|
  jn_cons (⟨jn_iload_n_ok (i := 2) (k := 2) (by decide +kernel) rfl, jn_iload_n_mo 2⟩ : jn_GEm jn_G0 jn_me127 2 (.inl (jn_iload_n 2))) <|
  jn_cons (⟨jn_bipush_ok (n := 6) (v := 6) (by decide +kernel) (by decide), jn_bipush_mo 6⟩ : jn_GEm jn_G0 jn_me127 3 (.inl (jn_bipush 6))) <|
  jn_cons (⟨jn_icge_ok (t := 32) (off := 27) (by decide +kernel) (by decide), jn_icge_mo 32⟩ : jn_GEm jn_G0 jn_me127 5 (.inl (jn_icge 32))) <|
  jn_cons (⟨jn_aload_n_ok (i := 0) (k := 0) (by decide +kernel) rfl, jn_aload_n_mo 0⟩ : jn_GEm jn_G0 jn_me127 8 (.inl (jn_aload_n 0))) <|
  jn_cons (⟨jn_getf_ok (ci := 7) (k := 8) (i := 29) (N := 22) (C := RX7) (T := TX7) (by decide +kernel) rfl (by decide) jn_u7 (jn_in 623 (by decide +kernel) rfl), jn_getf_mo 7 8⟩ : jn_GEm jn_G0 jn_me127 9 (.inl (jn_getf 7 8))) <|
  jn_cons (⟨jn_iload_n_ok (i := 2) (k := 2) (by decide +kernel) rfl, jn_iload_n_mo 2⟩ : jn_GEm jn_G0 jn_me127 12 (.inl (jn_iload_n 2))) <|
  jn_cons (⟨jn_aload_n_ok (i := 0) (k := 0) (by decide +kernel) rfl, jn_aload_n_mo 0⟩ : jn_GEm jn_G0 jn_me127 13 (.inl (jn_aload_n 0))) <|
  jn_cons (⟨jn_getf_ok (ci := 7) (k := 5) (i := 19) (N := 22) (C := RX7) (T := TX7) (by decide +kernel) rfl (by decide) jn_u7 (jn_in 620 (by decide +kernel) rfl), jn_getf_mo 7 5⟩ : jn_GEm jn_G0 jn_me127 14 (.inl (jn_getf 7 5))) <|
  jn_cons (⟨jn_bipush_ok (n := 6) (v := 6) (by decide +kernel) (by decide), jn_bipush_mo 6⟩ : jn_GEm jn_G0 jn_me127 17 (.inl (jn_bipush 6))) <|
  jn_cons (⟨jn_iload_n_ok (i := 1) (k := 1) (by decide +kernel) rfl, jn_iload_n_mo 1⟩ : jn_GEm jn_G0 jn_me127 19 (.inl (jn_iload_n 1))) <|
  jn_cons (⟨jn_imul_ok (by decide +kernel), jn_imul_mo⟩ : jn_GEm jn_G0 jn_me127 20 (.inl jn_imul)) <|
  jn_cons (⟨jn_iload_n_ok (i := 2) (k := 2) (by decide +kernel) rfl, jn_iload_n_mo 2⟩ : jn_GEm jn_G0 jn_me127 21 (.inl (jn_iload_n 2))) <|
  jn_cons (⟨jn_iadd_ok (by decide +kernel), jn_iadd_mo⟩ : jn_GEm jn_G0 jn_me127 22 (.inl jn_iadd)) <|
  jn_cons (⟨jn_iaload_ok (by decide +kernel), jn_iaload_mo⟩ : jn_GEm jn_G0 jn_me127 23 (.inl jn_iaload)) <|
  jn_cons (⟨jn_i2l_ok (by decide +kernel), jn_i2l_mo⟩ : jn_GEm jn_G0 jn_me127 24 (.inl jn_i2l)) <|
  jn_cons (⟨jn_lastore_ok (by decide +kernel), jn_lastore_mo⟩ : jn_GEm jn_G0 jn_me127 25 (.inl jn_lastore)) <|
  jn_cons (⟨jn_iinc_ok (i := 2) (n := 1) (by decide +kernel), jn_iinc_mo 2 1⟩ : jn_GEm jn_G0 jn_me127 26 (.inl (jn_iinc 2 1))) <|
  jn_cons (⟨jn_goto_ok (t := 2) (off := -27) (by decide +kernel) (by decide), jn_goto_mo 2⟩ : jn_GEm jn_G0 jn_me127 29 (.inl (jn_goto 2))) <|
  jn_cons (⟨(by decide +kernel), rfl⟩ : jn_GEm jn_G0 jn_me127 32 (.inr (.inr 0))) <| jn_nil
theorem jn_ok127 : jn_GM jn_G0 127 := jn_GM_of jn_G0_127 rfl rfl (by decide +kernel) (by decide) (jn_o127_0)
theorem jn_o128_0 : ∀ q ∈ jn_c128_0, jn_GEm jn_G0 jn_me128 q.1 q.2 :=
  jn_cons (⟨jn_iconst_ok (by decide +kernel), jn_iconst_mo 0⟩ : jn_GEm jn_G0 jn_me128 0 (.inl (jn_iconst 0))) <|
  jn_cons (⟨jn_istore_ok (i := 5) (by decide +kernel), jn_istore_mo 5⟩ : jn_GEm jn_G0 jn_me128 1 (.inl (jn_istore 5))) <|
  jn_cons (⟨jn_iload_ok (i := 5) (by decide +kernel), jn_iload_mo 5⟩ : jn_GEm jn_G0 jn_me128 3 (.inl (jn_iload 5))) <|
  jn_cons (⟨jn_aload_n_ok (i := 0) (k := 0) (by decide +kernel) rfl, jn_aload_n_mo 0⟩ : jn_GEm jn_G0 jn_me128 5 (.inl (jn_aload_n 0))) <|
  jn_cons (⟨jn_getf_ok (ci := 7) (k := 0) (i := 7) (N := 22) (C := RX7) (T := TX7) (by decide +kernel) rfl (by decide) jn_u7 (jn_in 615 (by decide +kernel) rfl), jn_getf_mo 7 0⟩ : jn_GEm jn_G0 jn_me128 6 (.inl (jn_getf 7 0))) <|
  jn_cons (⟨jn_iload_n_ok (i := 1) (k := 1) (by decide +kernel) rfl, jn_iload_n_mo 1⟩ : jn_GEm jn_G0 jn_me128 9 (.inl (jn_iload_n 1))) <|
  jn_cons (⟨jn_iaload_ok (by decide +kernel), jn_iaload_mo⟩ : jn_GEm jn_G0 jn_me128 10 (.inl jn_iaload)) <|
  jn_cons (⟨jn_icge_ok (t := 64) (off := 53) (by decide +kernel) (by decide), jn_icge_mo 64⟩ : jn_GEm jn_G0 jn_me128 11 (.inl (jn_icge 64))) <|
  jn_cons (⟨jn_aload_n_ok (i := 0) (k := 0) (by decide +kernel) rfl, jn_aload_n_mo 0⟩ : jn_GEm jn_G0 jn_me128 14 (.inl (jn_aload_n 0))) <|
  jn_cons (⟨jn_getf_ok (ci := 7) (k := 8) (i := 29) (N := 22) (C := RX7) (T := TX7) (by decide +kernel) rfl (by decide) jn_u7 (jn_in 623 (by decide +kernel) rfl), jn_getf_mo 7 8⟩ : jn_GEm jn_G0 jn_me128 15 (.inl (jn_getf 7 8))) <|
  jn_cons (⟨jn_iload_ok (i := 5) (by decide +kernel), jn_iload_mo 5⟩ : jn_GEm jn_G0 jn_me128 18 (.inl (jn_iload 5))) <|
  jn_cons (⟨jn_dup2_ok (by decide +kernel), jn_dup2_mo⟩ : jn_GEm jn_G0 jn_me128 20 (.inl jn_dup2)) <|
  jn_cons (⟨jn_laload_ok (by decide +kernel), jn_laload_mo⟩ : jn_GEm jn_G0 jn_me128 21 (.inl jn_laload)) <|
  jn_cons (⟨jn_iload_ok (i := 5) (by decide +kernel), jn_iload_mo 5⟩ : jn_GEm jn_G0 jn_me128 22 (.inl (jn_iload 5))) <|
  jn_cons (⟨jn_iload_n_ok (i := 2) (k := 2) (by decide +kernel) rfl, jn_iload_n_mo 2⟩ : jn_GEm jn_G0 jn_me128 24 (.inl (jn_iload_n 2))) <|
  jn_cons (⟨jn_icne_ok (t := 41) (off := 16) (by decide +kernel) (by decide), jn_icne_mo 41⟩ : jn_GEm jn_G0 jn_me128 25 (.inl (jn_icne 41))) <|
  jn_cons (⟨jn_lload_n_ok (i := 3) (k := 3) (by decide +kernel) rfl, jn_lload_n_mo 3⟩ : jn_GEm jn_G0 jn_me128 28 (.inl (jn_lload_n 3))) <|
  jn_cons (⟨jn_lneg_ok (by decide +kernel), jn_lneg_mo⟩ : jn_GEm jn_G0 jn_me128 29 (.inl jn_lneg)) <|
  jn_cons (⟨jn_aload_n_ok (i := 0) (k := 0) (by decide +kernel) rfl, jn_aload_n_mo 0⟩ : jn_GEm jn_G0 jn_me128 30 (.inl (jn_aload_n 0))) <|
  jn_cons (⟨jn_iload_n_ok (i := 1) (k := 1) (by decide +kernel) rfl, jn_iload_n_mo 1⟩ : jn_GEm jn_G0 jn_me128 31 (.inl (jn_iload_n 1))) <|
  jn_cons (⟨jn_iload_n_ok (i := 2) (k := 2) (by decide +kernel) rfl, jn_iload_n_mo 2⟩ : jn_GEm jn_G0 jn_me128 32 (.inl (jn_iload_n 2))) <|
  jn_cons (jn_gc_of jn_G0_103 (jn_callV (i := 103) (na := 2) (ci := 7) (q := (RX7, TX7, 22)) (by decide +kernel) rfl (jn_in 734 (by decide +kernel) rfl) (jn_in 731 (by decide +kernel) rfl) (jn_in 733 (by decide +kernel) rfl) (jn_in 26 (by decide +kernel) rfl) (jn_in 60 (by decide +kernel) rfl) ⟨by decide, by decide, by decide +kernel⟩) : jn_GEm jn_G0 jn_me128 33 (.inr (.inl (103, 9, 3)))) <|
  jn_cons (⟨jn_i2l_ok (by decide +kernel), jn_i2l_mo⟩ : jn_GEm jn_G0 jn_me128 36 (.inl jn_i2l)) <|
  jn_cons (⟨jn_lmul_ok (by decide +kernel), jn_lmul_mo⟩ : jn_GEm jn_G0 jn_me128 37 (.inl jn_lmul)) <| jn_nil
theorem jn_o128_1 : ∀ q ∈ jn_c128_1, jn_GEm jn_G0 jn_me128 q.1 q.2 :=
  jn_cons (⟨jn_goto_ok (t := 56) (off := 18) (by decide +kernel) (by decide), jn_goto_mo 56⟩ : jn_GEm jn_G0 jn_me128 38 (.inl (jn_goto 56))) <|
  jn_cons (⟨jn_lload_n_ok (i := 3) (k := 3) (by decide +kernel) rfl, jn_lload_n_mo 3⟩ : jn_GEm jn_G0 jn_me128 41 (.inl (jn_lload_n 3))) <|
  jn_cons (⟨jn_aload_n_ok (i := 0) (k := 0) (by decide +kernel) rfl, jn_aload_n_mo 0⟩ : jn_GEm jn_G0 jn_me128 42 (.inl (jn_aload_n 0))) <|
  jn_cons (⟨jn_getf_ok (ci := 7) (k := 1) (i := 13) (N := 22) (C := RX7) (T := TX7) (by decide +kernel) rfl (by decide) jn_u7 (jn_in 616 (by decide +kernel) rfl), jn_getf_mo 7 1⟩ : jn_GEm jn_G0 jn_me128 43 (.inl (jn_getf 7 1))) <|
  jn_cons (⟨jn_iload_n_ok (i := 1) (k := 1) (by decide +kernel) rfl, jn_iload_n_mo 1⟩ : jn_GEm jn_G0 jn_me128 46 (.inl (jn_iload_n 1))) <|
  jn_cons (⟨jn_iload_n_ok (i := 2) (k := 2) (by decide +kernel) rfl, jn_iload_n_mo 2⟩ : jn_GEm jn_G0 jn_me128 47 (.inl (jn_iload_n 2))) <|
  jn_cons (⟨jn_iload_ok (i := 5) (by decide +kernel), jn_iload_mo 5⟩ : jn_GEm jn_G0 jn_me128 48 (.inl (jn_iload 5))) <|
  jn_cons (jn_gc_of jn_G0_100 (jn_callS (i := 99) (na := 3) (by decide +kernel) (jn_in 710 (by decide +kernel) rfl) (jn_in 708 (by decide +kernel) rfl) (jn_in 709 (by decide +kernel) rfl) (jn_in 60 (by decide +kernel) rfl) ⟨by decide, by decide, by decide +kernel⟩) : jn_GEm jn_G0 jn_me128 50 (.inr (.inl (100, 0, 3)))) <|
  jn_cons (⟨jn_iaload_ok (by decide +kernel), jn_iaload_mo⟩ : jn_GEm jn_G0 jn_me128 53 (.inl jn_iaload)) <|
  jn_cons (⟨jn_i2l_ok (by decide +kernel), jn_i2l_mo⟩ : jn_GEm jn_G0 jn_me128 54 (.inl jn_i2l)) <|
  jn_cons (⟨jn_lmul_ok (by decide +kernel), jn_lmul_mo⟩ : jn_GEm jn_G0 jn_me128 55 (.inl jn_lmul)) <|
  jn_cons (⟨jn_ladd_ok (by decide +kernel), jn_ladd_mo⟩ : jn_GEm jn_G0 jn_me128 56 (.inl jn_ladd)) <|
  jn_cons (⟨jn_lastore_ok (by decide +kernel), jn_lastore_mo⟩ : jn_GEm jn_G0 jn_me128 57 (.inl jn_lastore)) <|
  jn_cons (⟨jn_iinc_ok (i := 5) (n := 1) (by decide +kernel), jn_iinc_mo 5 1⟩ : jn_GEm jn_G0 jn_me128 58 (.inl (jn_iinc 5 1))) <|
  jn_cons (⟨jn_goto_ok (t := 3) (off := -58) (by decide +kernel) (by decide), jn_goto_mo 3⟩ : jn_GEm jn_G0 jn_me128 61 (.inl (jn_goto 3))) <|
  jn_cons (⟨(by decide +kernel), rfl⟩ : jn_GEm jn_G0 jn_me128 64 (.inr (.inr 0))) <| jn_nil
theorem jn_ok128 : jn_GM jn_G0 128 := jn_GM_of jn_G0_128 rfl rfl (by decide +kernel) (by decide) (jn_appd jn_o128_0 (jn_o128_1))
theorem jn_o129_0 : ∀ q ∈ jn_c129_0, jn_GEm jn_G0 jn_me129 q.1 q.2 :=
  jn_cons (⟨jn_iconst_ok (by decide +kernel), jn_iconst_mo 0⟩ : jn_GEm jn_G0 jn_me129 0 (.inl (jn_iconst 0))) <|
  jn_cons (⟨jn_istore_n_ok (i := 2) (k := 2) (by decide +kernel) rfl, jn_istore_n_mo 2⟩ : jn_GEm jn_G0 jn_me129 1 (.inl (jn_istore_n 2))) <|
  jn_cons (⟨jn_iload_n_ok (i := 2) (k := 2) (by decide +kernel) rfl, jn_iload_n_mo 2⟩ : jn_GEm jn_G0 jn_me129 2 (.inl (jn_iload_n 2))) <|
  jn_cons (⟨jn_bipush_ok (n := 6) (v := 6) (by decide +kernel) (by decide), jn_bipush_mo 6⟩ : jn_GEm jn_G0 jn_me129 3 (.inl (jn_bipush 6))) <|
  jn_cons (⟨jn_icge_ok (t := 34) (off := 29) (by decide +kernel) (by decide), jn_icge_mo 34⟩ : jn_GEm jn_G0 jn_me129 5 (.inl (jn_icge 34))) <|
  jn_cons (⟨jn_aload_n_ok (i := 0) (k := 0) (by decide +kernel) rfl, jn_aload_n_mo 0⟩ : jn_GEm jn_G0 jn_me129 8 (.inl (jn_aload_n 0))) <|
  jn_cons (⟨jn_getf_ok (ci := 7) (k := 8) (i := 29) (N := 22) (C := RX7) (T := TX7) (by decide +kernel) rfl (by decide) jn_u7 (jn_in 623 (by decide +kernel) rfl), jn_getf_mo 7 8⟩ : jn_GEm jn_G0 jn_me129 9 (.inl (jn_getf 7 8))) <|
  jn_cons (⟨jn_iload_n_ok (i := 2) (k := 2) (by decide +kernel) rfl, jn_iload_n_mo 2⟩ : jn_GEm jn_G0 jn_me129 12 (.inl (jn_iload_n 2))) <|
  jn_cons (⟨jn_laload_ok (by decide +kernel), jn_laload_mo⟩ : jn_GEm jn_G0 jn_me129 13 (.inl jn_laload)) <|
  jn_cons (⟨jn_ldc2_ok (i := 160) (v := (-100000)) (by decide +kernel) (jn_in 833 (by decide +kernel) rfl), jn_ldc2_mo (-100000)⟩ : jn_GEm jn_G0 jn_me129 14 (.inl (jn_ldc2 (-100000)))) <|
  jn_cons (⟨jn_ldc2_ok (i := 162) (v := 100000) (by decide +kernel) (jn_in 834 (by decide +kernel) rfl), jn_ldc2_mo 100000⟩ : jn_GEm jn_G0 jn_me129 17 (.inl (jn_ldc2 100000))) <|
  jn_cons (jn_gc_of jn_G0_94 (jn_callS (i := 89) (na := 3) (by decide +kernel) (jn_in 690 (by decide +kernel) rfl) (jn_in 688 (by decide +kernel) rfl) (jn_in 689 (by decide +kernel) rfl) (jn_in 60 (by decide +kernel) rfl) ⟨by decide, by decide, by decide +kernel⟩) : jn_GEm jn_G0 jn_me129 20 (.inr (.inl (94, 0, 3)))) <|
  jn_cons (⟨jn_ifne_ok (t := 28) (off := 5) (by decide +kernel) (by decide), jn_ifne_mo 28⟩ : jn_GEm jn_G0 jn_me129 23 (.inl (jn_ifne 28))) <|
  jn_cons (⟨jn_iconst_ok (by decide +kernel), jn_iconst_mo (-1)⟩ : jn_GEm jn_G0 jn_me129 26 (.inl (jn_iconst (-1)))) <|
  jn_cons (⟨(by decide +kernel), rfl⟩ : jn_GEm jn_G0 jn_me129 27 (.inr (.inr 1))) <|
  jn_cons (⟨jn_iinc_ok (i := 2) (n := 1) (by decide +kernel), jn_iinc_mo 2 1⟩ : jn_GEm jn_G0 jn_me129 28 (.inl (jn_iinc 2 1))) <|
  jn_cons (⟨jn_goto_ok (t := 2) (off := -29) (by decide +kernel) (by decide), jn_goto_mo 2⟩ : jn_GEm jn_G0 jn_me129 31 (.inl (jn_goto 2))) <|
  jn_cons (⟨jn_iconst_ok (by decide +kernel), jn_iconst_mo 0⟩ : jn_GEm jn_G0 jn_me129 34 (.inl (jn_iconst 0))) <|
  jn_cons (⟨jn_istore_n_ok (i := 2) (k := 2) (by decide +kernel) rfl, jn_istore_n_mo 2⟩ : jn_GEm jn_G0 jn_me129 35 (.inl (jn_istore_n 2))) <|
  jn_cons (⟨jn_iconst_ok (by decide +kernel), jn_iconst_mo 0⟩ : jn_GEm jn_G0 jn_me129 36 (.inl (jn_iconst 0))) <|
  jn_cons (⟨jn_istore_n_ok (i := 3) (k := 3) (by decide +kernel) rfl, jn_istore_n_mo 3⟩ : jn_GEm jn_G0 jn_me129 37 (.inl (jn_istore_n 3))) <|
  jn_cons (⟨jn_iload_n_ok (i := 3) (k := 3) (by decide +kernel) rfl, jn_iload_n_mo 3⟩ : jn_GEm jn_G0 jn_me129 38 (.inl (jn_iload_n 3))) <|
  jn_cons (⟨jn_bipush_ok (n := 6) (v := 6) (by decide +kernel) (by decide), jn_bipush_mo 6⟩ : jn_GEm jn_G0 jn_me129 39 (.inl (jn_bipush 6))) <|
  jn_cons (⟨jn_icge_ok (t := 98) (off := 57) (by decide +kernel) (by decide), jn_icge_mo 98⟩ : jn_GEm jn_G0 jn_me129 41 (.inl (jn_icge 98))) <| jn_nil
theorem jn_o129_1 : ∀ q ∈ jn_c129_1, jn_GEm jn_G0 jn_me129 q.1 q.2 :=
  jn_cons (⟨jn_iload_n_ok (i := 2) (k := 2) (by decide +kernel) rfl, jn_iload_n_mo 2⟩ : jn_GEm jn_G0 jn_me129 44 (.inl (jn_iload_n 2))) <|
  jn_cons (⟨jn_aload_n_ok (i := 0) (k := 0) (by decide +kernel) rfl, jn_aload_n_mo 0⟩ : jn_GEm jn_G0 jn_me129 45 (.inl (jn_aload_n 0))) <|
  jn_cons (⟨jn_getf_ok (ci := 7) (k := 5) (i := 19) (N := 22) (C := RX7) (T := TX7) (by decide +kernel) rfl (by decide) jn_u7 (jn_in 620 (by decide +kernel) rfl), jn_getf_mo 7 5⟩ : jn_GEm jn_G0 jn_me129 46 (.inl (jn_getf 7 5))) <|
  jn_cons (⟨jn_bipush_ok (n := 6) (v := 6) (by decide +kernel) (by decide), jn_bipush_mo 6⟩ : jn_GEm jn_G0 jn_me129 49 (.inl (jn_bipush 6))) <|
  jn_cons (⟨jn_iload_n_ok (i := 1) (k := 1) (by decide +kernel) rfl, jn_iload_n_mo 1⟩ : jn_GEm jn_G0 jn_me129 51 (.inl (jn_iload_n 1))) <|
  jn_cons (⟨jn_imul_ok (by decide +kernel), jn_imul_mo⟩ : jn_GEm jn_G0 jn_me129 52 (.inl jn_imul)) <|
  jn_cons (⟨jn_iload_n_ok (i := 3) (k := 3) (by decide +kernel) rfl, jn_iload_n_mo 3⟩ : jn_GEm jn_G0 jn_me129 53 (.inl (jn_iload_n 3))) <|
  jn_cons (⟨jn_iadd_ok (by decide +kernel), jn_iadd_mo⟩ : jn_GEm jn_G0 jn_me129 54 (.inl jn_iadd)) <|
  jn_cons (⟨jn_iaload_ok (by decide +kernel), jn_iaload_mo⟩ : jn_GEm jn_G0 jn_me129 55 (.inl jn_iaload)) <|
  jn_cons (⟨jn_i2l_ok (by decide +kernel), jn_i2l_mo⟩ : jn_GEm jn_G0 jn_me129 56 (.inl jn_i2l)) <|
  jn_cons (⟨jn_aload_n_ok (i := 0) (k := 0) (by decide +kernel) rfl, jn_aload_n_mo 0⟩ : jn_GEm jn_G0 jn_me129 57 (.inl (jn_aload_n 0))) <|
  jn_cons (⟨jn_getf_ok (ci := 7) (k := 8) (i := 29) (N := 22) (C := RX7) (T := TX7) (by decide +kernel) rfl (by decide) jn_u7 (jn_in 623 (by decide +kernel) rfl), jn_getf_mo 7 8⟩ : jn_GEm jn_G0 jn_me129 58 (.inl (jn_getf 7 8))) <|
  jn_cons (⟨jn_iload_n_ok (i := 3) (k := 3) (by decide +kernel) rfl, jn_iload_n_mo 3⟩ : jn_GEm jn_G0 jn_me129 61 (.inl (jn_iload_n 3))) <|
  jn_cons (⟨jn_laload_ok (by decide +kernel), jn_laload_mo⟩ : jn_GEm jn_G0 jn_me129 62 (.inl jn_laload)) <|
  jn_cons (⟨jn_lcmp_ok (by decide +kernel), jn_lcmp_mo⟩ : jn_GEm jn_G0 jn_me129 63 (.inl jn_lcmp)) <|
  jn_cons (⟨jn_ifeq_ok (t := 71) (off := 7) (by decide +kernel) (by decide), jn_ifeq_mo 71⟩ : jn_GEm jn_G0 jn_me129 64 (.inl (jn_ifeq 71))) <|
  jn_cons (⟨jn_iconst_ok (by decide +kernel), jn_iconst_mo 1⟩ : jn_GEm jn_G0 jn_me129 67 (.inl (jn_iconst 1))) <|
  jn_cons (⟨jn_goto_ok (t := 72) (off := 4) (by decide +kernel) (by decide), jn_goto_mo 72⟩ : jn_GEm jn_G0 jn_me129 68 (.inl (jn_goto 72))) <|
  jn_cons (⟨jn_iconst_ok (by decide +kernel), jn_iconst_mo 0⟩ : jn_GEm jn_G0 jn_me129 71 (.inl (jn_iconst 0))) <|
  jn_cons (⟨jn_iadd_ok (by decide +kernel), jn_iadd_mo⟩ : jn_GEm jn_G0 jn_me129 72 (.inl jn_iadd)) <|
  jn_cons (⟨jn_istore_n_ok (i := 2) (k := 2) (by decide +kernel) rfl, jn_istore_n_mo 2⟩ : jn_GEm jn_G0 jn_me129 73 (.inl (jn_istore_n 2))) <|
  jn_cons (⟨jn_aload_n_ok (i := 0) (k := 0) (by decide +kernel) rfl, jn_aload_n_mo 0⟩ : jn_GEm jn_G0 jn_me129 74 (.inl (jn_aload_n 0))) <|
  jn_cons (⟨jn_getf_ok (ci := 7) (k := 5) (i := 19) (N := 22) (C := RX7) (T := TX7) (by decide +kernel) rfl (by decide) jn_u7 (jn_in 620 (by decide +kernel) rfl), jn_getf_mo 7 5⟩ : jn_GEm jn_G0 jn_me129 75 (.inl (jn_getf 7 5))) <|
  jn_cons (⟨jn_bipush_ok (n := 6) (v := 6) (by decide +kernel) (by decide), jn_bipush_mo 6⟩ : jn_GEm jn_G0 jn_me129 78 (.inl (jn_bipush 6))) <| jn_nil
theorem jn_o129_2 : ∀ q ∈ jn_c129_2, jn_GEm jn_G0 jn_me129 q.1 q.2 :=
  jn_cons (⟨jn_iload_n_ok (i := 1) (k := 1) (by decide +kernel) rfl, jn_iload_n_mo 1⟩ : jn_GEm jn_G0 jn_me129 80 (.inl (jn_iload_n 1))) <|
  jn_cons (⟨jn_imul_ok (by decide +kernel), jn_imul_mo⟩ : jn_GEm jn_G0 jn_me129 81 (.inl jn_imul)) <|
  jn_cons (⟨jn_iload_n_ok (i := 3) (k := 3) (by decide +kernel) rfl, jn_iload_n_mo 3⟩ : jn_GEm jn_G0 jn_me129 82 (.inl (jn_iload_n 3))) <|
  jn_cons (⟨jn_iadd_ok (by decide +kernel), jn_iadd_mo⟩ : jn_GEm jn_G0 jn_me129 83 (.inl jn_iadd)) <|
  jn_cons (⟨jn_aload_n_ok (i := 0) (k := 0) (by decide +kernel) rfl, jn_aload_n_mo 0⟩ : jn_GEm jn_G0 jn_me129 84 (.inl (jn_aload_n 0))) <|
  jn_cons (⟨jn_getf_ok (ci := 7) (k := 8) (i := 29) (N := 22) (C := RX7) (T := TX7) (by decide +kernel) rfl (by decide) jn_u7 (jn_in 623 (by decide +kernel) rfl), jn_getf_mo 7 8⟩ : jn_GEm jn_G0 jn_me129 85 (.inl (jn_getf 7 8))) <|
  jn_cons (⟨jn_iload_n_ok (i := 3) (k := 3) (by decide +kernel) rfl, jn_iload_n_mo 3⟩ : jn_GEm jn_G0 jn_me129 88 (.inl (jn_iload_n 3))) <|
  jn_cons (⟨jn_laload_ok (by decide +kernel), jn_laload_mo⟩ : jn_GEm jn_G0 jn_me129 89 (.inl jn_laload)) <|
  jn_cons (⟨jn_l2i_ok (by decide +kernel), jn_l2i_mo⟩ : jn_GEm jn_G0 jn_me129 90 (.inl jn_l2i)) <|
  jn_cons (⟨jn_iastore_ok (by decide +kernel), jn_iastore_mo⟩ : jn_GEm jn_G0 jn_me129 91 (.inl jn_iastore)) <|
  jn_cons (⟨jn_iinc_ok (i := 3) (n := 1) (by decide +kernel), jn_iinc_mo 3 1⟩ : jn_GEm jn_G0 jn_me129 92 (.inl (jn_iinc 3 1))) <|
  jn_cons (⟨jn_goto_ok (t := 38) (off := -57) (by decide +kernel) (by decide), jn_goto_mo 38⟩ : jn_GEm jn_G0 jn_me129 95 (.inl (jn_goto 38))) <|
  jn_cons (⟨jn_iload_n_ok (i := 2) (k := 2) (by decide +kernel) rfl, jn_iload_n_mo 2⟩ : jn_GEm jn_G0 jn_me129 98 (.inl (jn_iload_n 2))) <|
  jn_cons (⟨(by decide +kernel), rfl⟩ : jn_GEm jn_G0 jn_me129 99 (.inr (.inr 1))) <| jn_nil
theorem jn_ok129 : jn_GM jn_G0 129 := jn_GM_of jn_G0_129 rfl rfl (by decide +kernel) (by decide) (jn_appd jn_o129_0 (jn_appd jn_o129_1 (jn_o129_2)))
theorem jn_o130_0 : ∀ q ∈ jn_c130_0, jn_GEm jn_G0 jn_me130 q.1 q.2 :=
  jn_cons (⟨jn_aload_n_ok (i := 0) (k := 0) (by decide +kernel) rfl, jn_aload_n_mo 0⟩ : jn_GEm jn_G0 jn_me130 0 (.inl (jn_aload_n 0))) <|
  jn_cons (⟨jn_iload_n_ok (i := 1) (k := 1) (by decide +kernel) rfl, jn_iload_n_mo 1⟩ : jn_GEm jn_G0 jn_me130 1 (.inl (jn_iload_n 1))) <|
  jn_cons (⟨jn_iload_n_ok (i := 2) (k := 2) (by decide +kernel) rfl, jn_iload_n_mo 2⟩ : jn_GEm jn_G0 jn_me130 2 (.inl (jn_iload_n 2))) <|
  jn_cons (jn_gc_of jn_G0_121 (jn_callV (i := 150) (na := 2) (ci := 7) (q := (RX7, TX7, 22)) (by decide +kernel) rfl (jn_in 792 (by decide +kernel) rfl) (jn_in 789 (by decide +kernel) rfl) (jn_in 791 (by decide +kernel) rfl) (jn_in 33 (by decide +kernel) rfl) (jn_in 60 (by decide +kernel) rfl) ⟨by decide, by decide, by decide +kernel⟩) : jn_GEm jn_G0 jn_me130 3 (.inr (.inl (121, 9, 3)))) <|
  jn_cons (⟨jn_ifne_ok (t := 16) (off := 10) (by decide +kernel) (by decide), jn_ifne_mo 16⟩ : jn_GEm jn_G0 jn_me130 6 (.inl (jn_ifne 16))) <|
  jn_cons (⟨jn_aload_n_ok (i := 0) (k := 0) (by decide +kernel) rfl, jn_aload_n_mo 0⟩ : jn_GEm jn_G0 jn_me130 9 (.inl (jn_aload_n 0))) <|
  jn_cons (⟨jn_bipush_ok (n := (-3)) (v := (-3)) (by decide +kernel) (by decide), jn_bipush_mo (-3)⟩ : jn_GEm jn_G0 jn_me130 10 (.inl (jn_bipush (-3)))) <|
  jn_cons (jn_gc_of jn_G0_96 (jn_callV (i := 132) (na := 1) (ci := 7) (q := (RX7, TX7, 22)) (by decide +kernel) rfl (jn_in 746 (by decide +kernel) rfl) (jn_in 743 (by decide +kernel) rfl) (jn_in 745 (by decide +kernel) rfl) (jn_in 27 (by decide +kernel) rfl) (jn_in 60 (by decide +kernel) rfl) ⟨by decide, by decide, by decide +kernel⟩) : jn_GEm jn_G0 jn_me130 12 (.inr (.inl (96, 9, 2)))) <|
  jn_cons (⟨(by decide +kernel), rfl⟩ : jn_GEm jn_G0 jn_me130 15 (.inr (.inr 1))) <|
  jn_cons (⟨jn_iload_n_ok (i := 3) (k := 3) (by decide +kernel) rfl, jn_iload_n_mo 3⟩ : jn_GEm jn_G0 jn_me130 16 (.inl (jn_iload_n 3))) <|
  jn_cons (⟨jn_i2l_ok (by decide +kernel), jn_i2l_mo⟩ : jn_GEm jn_G0 jn_me130 17 (.inl jn_i2l)) <|
  jn_cons (⟨jn_ldc2_ok (i := 164) (v := (-100)) (by decide +kernel) (jn_in 819 (by decide +kernel) rfl), jn_ldc2_mo (-100)⟩ : jn_GEm jn_G0 jn_me130 18 (.inl (jn_ldc2 (-100)))) <|
  jn_cons (⟨jn_ldc2_ok (i := 166) (v := 100) (by decide +kernel) (jn_in 820 (by decide +kernel) rfl), jn_ldc2_mo 100⟩ : jn_GEm jn_G0 jn_me130 21 (.inl (jn_ldc2 100))) <|
  jn_cons (jn_gc_of jn_G0_94 (jn_callS (i := 89) (na := 3) (by decide +kernel) (jn_in 690 (by decide +kernel) rfl) (jn_in 688 (by decide +kernel) rfl) (jn_in 689 (by decide +kernel) rfl) (jn_in 60 (by decide +kernel) rfl) ⟨by decide, by decide, by decide +kernel⟩) : jn_GEm jn_G0 jn_me130 24 (.inr (.inl (94, 0, 3)))) <|
  jn_cons (⟨jn_ifne_ok (t := 37) (off := 10) (by decide +kernel) (by decide), jn_ifne_mo 37⟩ : jn_GEm jn_G0 jn_me130 27 (.inl (jn_ifne 37))) <|
  jn_cons (⟨jn_aload_n_ok (i := 0) (k := 0) (by decide +kernel) rfl, jn_aload_n_mo 0⟩ : jn_GEm jn_G0 jn_me130 30 (.inl (jn_aload_n 0))) <|
  jn_cons (⟨jn_bipush_ok (n := (-7)) (v := (-7)) (by decide +kernel) (by decide), jn_bipush_mo (-7)⟩ : jn_GEm jn_G0 jn_me130 31 (.inl (jn_bipush (-7)))) <|
  jn_cons (jn_gc_of jn_G0_96 (jn_callV (i := 132) (na := 1) (ci := 7) (q := (RX7, TX7, 22)) (by decide +kernel) rfl (jn_in 746 (by decide +kernel) rfl) (jn_in 743 (by decide +kernel) rfl) (jn_in 745 (by decide +kernel) rfl) (jn_in 27 (by decide +kernel) rfl) (jn_in 60 (by decide +kernel) rfl) ⟨by decide, by decide, by decide +kernel⟩) : jn_GEm jn_G0 jn_me130 33 (.inr (.inl (96, 9, 2)))) <|
  jn_cons (⟨(by decide +kernel), rfl⟩ : jn_GEm jn_G0 jn_me130 36 (.inr (.inr 1))) <|
  jn_cons (⟨jn_aload_n_ok (i := 0) (k := 0) (by decide +kernel) rfl, jn_aload_n_mo 0⟩ : jn_GEm jn_G0 jn_me130 37 (.inl (jn_aload_n 0))) <|
  jn_cons (⟨jn_iload_n_ok (i := 1) (k := 1) (by decide +kernel) rfl, jn_iload_n_mo 1⟩ : jn_GEm jn_G0 jn_me130 38 (.inl (jn_iload_n 1))) <|
  jn_cons (jn_gc_of jn_G0_127 (jn_callV (i := 168) (na := 1) (ci := 7) (q := (RX7, TX7, 22)) (by decide +kernel) rfl (jn_in 824 (by decide +kernel) rfl) (jn_in 821 (by decide +kernel) rfl) (jn_in 823 (by decide +kernel) rfl) (jn_in 36 (by decide +kernel) rfl) (jn_in 60 (by decide +kernel) rfl) ⟨by decide, by decide, by decide +kernel⟩) : jn_GEm jn_G0 jn_me130 39 (.inr (.inl (127, 9, 2)))) <|
  jn_cons (⟨jn_aload_n_ok (i := 0) (k := 0) (by decide +kernel) rfl, jn_aload_n_mo 0⟩ : jn_GEm jn_G0 jn_me130 42 (.inl (jn_aload_n 0))) <|
  jn_cons (⟨jn_aload_n_ok (i := 0) (k := 0) (by decide +kernel) rfl, jn_aload_n_mo 0⟩ : jn_GEm jn_G0 jn_me130 43 (.inl (jn_aload_n 0))) <| jn_nil
theorem jn_o130_1 : ∀ q ∈ jn_c130_1, jn_GEm jn_G0 jn_me130 q.1 q.2 :=
  jn_cons (⟨jn_getf_ok (ci := 7) (k := 4) (i := 16) (N := 22) (C := RX7) (T := TX7) (by decide +kernel) rfl (by decide) jn_u7 (jn_in 619 (by decide +kernel) rfl), jn_getf_mo 7 4⟩ : jn_GEm jn_G0 jn_me130 44 (.inl (jn_getf 7 4))) <|
  jn_cons (⟨jn_iload_n_ok (i := 1) (k := 1) (by decide +kernel) rfl, jn_iload_n_mo 1⟩ : jn_GEm jn_G0 jn_me130 47 (.inl (jn_iload_n 1))) <|
  jn_cons (⟨jn_iaload_ok (by decide +kernel), jn_iaload_mo⟩ : jn_GEm jn_G0 jn_me130 48 (.inl jn_iaload)) <|
  jn_cons (⟨jn_iload_n_ok (i := 2) (k := 2) (by decide +kernel) rfl, jn_iload_n_mo 2⟩ : jn_GEm jn_G0 jn_me130 49 (.inl (jn_iload_n 2))) <|
  jn_cons (⟨jn_iload_n_ok (i := 3) (k := 3) (by decide +kernel) rfl, jn_iload_n_mo 3⟩ : jn_GEm jn_G0 jn_me130 50 (.inl (jn_iload_n 3))) <|
  jn_cons (⟨jn_i2l_ok (by decide +kernel), jn_i2l_mo⟩ : jn_GEm jn_G0 jn_me130 51 (.inl jn_i2l)) <|
  jn_cons (jn_gc_of jn_G0_128 (jn_callV (i := 172) (na := 3) (ci := 7) (q := (RX7, TX7, 22)) (by decide +kernel) rfl (jn_in 828 (by decide +kernel) rfl) (jn_in 825 (by decide +kernel) rfl) (jn_in 827 (by decide +kernel) rfl) (jn_in 37 (by decide +kernel) rfl) (jn_in 60 (by decide +kernel) rfl) ⟨by decide, by decide, by decide +kernel⟩) : jn_GEm jn_G0 jn_me130 52 (.inr (.inl (128, 9, 4)))) <|
  jn_cons (⟨jn_aload_n_ok (i := 0) (k := 0) (by decide +kernel) rfl, jn_aload_n_mo 0⟩ : jn_GEm jn_G0 jn_me130 55 (.inl (jn_aload_n 0))) <|
  jn_cons (⟨jn_iload_n_ok (i := 1) (k := 1) (by decide +kernel) rfl, jn_iload_n_mo 1⟩ : jn_GEm jn_G0 jn_me130 56 (.inl (jn_iload_n 1))) <|
  jn_cons (jn_gc_of jn_G0_129 (jn_callV (i := 176) (na := 1) (ci := 7) (q := (RX7, TX7, 22)) (by decide +kernel) rfl (jn_in 832 (by decide +kernel) rfl) (jn_in 829 (by decide +kernel) rfl) (jn_in 831 (by decide +kernel) rfl) (jn_in 38 (by decide +kernel) rfl) (jn_in 60 (by decide +kernel) rfl) ⟨by decide, by decide, by decide +kernel⟩) : jn_GEm jn_G0 jn_me130 57 (.inr (.inl (129, 9, 2)))) <|
  jn_cons (⟨jn_ifge_ok (t := 72) (off := 12) (by decide +kernel) (by decide), jn_ifge_mo 72⟩ : jn_GEm jn_G0 jn_me130 60 (.inl (jn_ifge 72))) <|
  jn_cons (⟨jn_aload_n_ok (i := 0) (k := 0) (by decide +kernel) rfl, jn_aload_n_mo 0⟩ : jn_GEm jn_G0 jn_me130 63 (.inl (jn_aload_n 0))) <|
  jn_cons (⟨jn_bipush_ok (n := (-8)) (v := (-8)) (by decide +kernel) (by decide), jn_bipush_mo (-8)⟩ : jn_GEm jn_G0 jn_me130 64 (.inl (jn_bipush (-8)))) <|
  jn_cons (jn_gc_of jn_G0_96 (jn_callV (i := 132) (na := 1) (ci := 7) (q := (RX7, TX7, 22)) (by decide +kernel) rfl (jn_in 746 (by decide +kernel) rfl) (jn_in 743 (by decide +kernel) rfl) (jn_in 745 (by decide +kernel) rfl) (jn_in 27 (by decide +kernel) rfl) (jn_in 60 (by decide +kernel) rfl) ⟨by decide, by decide, by decide +kernel⟩) : jn_GEm jn_G0 jn_me130 66 (.inr (.inl (96, 9, 2)))) <|
  jn_cons (⟨jn_goto_ok (t := 83) (off := 14) (by decide +kernel) (by decide), jn_goto_mo 83⟩ : jn_GEm jn_G0 jn_me130 69 (.inl (jn_goto 83))) <|
  jn_cons (⟨jn_aload_n_ok (i := 0) (k := 0) (by decide +kernel) rfl, jn_aload_n_mo 0⟩ : jn_GEm jn_G0 jn_me130 72 (.inl (jn_aload_n 0))) <|
  jn_cons (⟨jn_getf_ok (ci := 7) (k := 5) (i := 19) (N := 22) (C := RX7) (T := TX7) (by decide +kernel) rfl (by decide) jn_u7 (jn_in 620 (by decide +kernel) rfl), jn_getf_mo 7 5⟩ : jn_GEm jn_G0 jn_me130 73 (.inl (jn_getf 7 5))) <|
  jn_cons (⟨jn_bipush_ok (n := 6) (v := 6) (by decide +kernel) (by decide), jn_bipush_mo 6⟩ : jn_GEm jn_G0 jn_me130 76 (.inl (jn_bipush 6))) <|
  jn_cons (⟨jn_iload_n_ok (i := 1) (k := 1) (by decide +kernel) rfl, jn_iload_n_mo 1⟩ : jn_GEm jn_G0 jn_me130 78 (.inl (jn_iload_n 1))) <|
  jn_cons (⟨jn_imul_ok (by decide +kernel), jn_imul_mo⟩ : jn_GEm jn_G0 jn_me130 79 (.inl jn_imul)) <|
  jn_cons (⟨jn_iload_n_ok (i := 2) (k := 2) (by decide +kernel) rfl, jn_iload_n_mo 2⟩ : jn_GEm jn_G0 jn_me130 80 (.inl (jn_iload_n 2))) <|
  jn_cons (⟨jn_iadd_ok (by decide +kernel), jn_iadd_mo⟩ : jn_GEm jn_G0 jn_me130 81 (.inl jn_iadd)) <|
  jn_cons (⟨jn_iaload_ok (by decide +kernel), jn_iaload_mo⟩ : jn_GEm jn_G0 jn_me130 82 (.inl jn_iaload)) <|
  jn_cons (⟨(by decide +kernel), rfl⟩ : jn_GEm jn_G0 jn_me130 83 (.inr (.inr 1))) <| jn_nil
theorem jn_ok130 : jn_GM jn_G0 130 := jn_GM_of jn_G0_130 rfl rfl (by decide +kernel) (by decide) (jn_appd jn_o130_0 (jn_o130_1))
theorem jn_o131_0 : ∀ q ∈ jn_c131_0, jn_GEm jn_G0 jn_me131 q.1 q.2 :=
  jn_cons (⟨jn_aload_n_ok (i := 0) (k := 0) (by decide +kernel) rfl, jn_aload_n_mo 0⟩ : jn_GEm jn_G0 jn_me131 0 (.inl (jn_aload_n 0))) <|
  jn_cons (⟨jn_iload_n_ok (i := 1) (k := 1) (by decide +kernel) rfl, jn_iload_n_mo 1⟩ : jn_GEm jn_G0 jn_me131 1 (.inl (jn_iload_n 1))) <|
  jn_cons (jn_gc_of jn_G0_99 (jn_callV (i := 147) (na := 1) (ci := 7) (q := (RX7, TX7, 22)) (by decide +kernel) rfl (jn_in 796 (by decide +kernel) rfl) (jn_in 793 (by decide +kernel) rfl) (jn_in 795 (by decide +kernel) rfl) (jn_in 34 (by decide +kernel) rfl) (jn_in 60 (by decide +kernel) rfl) ⟨by decide, by decide, by decide +kernel⟩) : jn_GEm jn_G0 jn_me131 2 (.inr (.inl (99, 9, 2)))) <|
  jn_cons (⟨jn_ifeq_ok (t := 29) (off := 24) (by decide +kernel) (by decide), jn_ifeq_mo 29⟩ : jn_GEm jn_G0 jn_me131 5 (.inl (jn_ifeq 29))) <|
  jn_cons (⟨jn_iload_n_ok (i := 2) (k := 2) (by decide +kernel) rfl, jn_iload_n_mo 2⟩ : jn_GEm jn_G0 jn_me131 8 (.inl (jn_iload_n 2))) <|
  jn_cons (⟨jn_iflt_ok (t := 29) (off := 20) (by decide +kernel) (by decide), jn_iflt_mo 29⟩ : jn_GEm jn_G0 jn_me131 9 (.inl (jn_iflt 29))) <|
  jn_cons (⟨jn_iload_n_ok (i := 2) (k := 2) (by decide +kernel) rfl, jn_iload_n_mo 2⟩ : jn_GEm jn_G0 jn_me131 12 (.inl (jn_iload_n 2))) <|
  jn_cons (⟨jn_iconst_ok (by decide +kernel), jn_iconst_mo 1⟩ : jn_GEm jn_G0 jn_me131 13 (.inl (jn_iconst 1))) <|
  jn_cons (⟨jn_aload_n_ok (i := 0) (k := 0) (by decide +kernel) rfl, jn_aload_n_mo 0⟩ : jn_GEm jn_G0 jn_me131 14 (.inl (jn_aload_n 0))) <|
  jn_cons (⟨jn_getf_ok (ci := 7) (k := 0) (i := 7) (N := 22) (C := RX7) (T := TX7) (by decide +kernel) rfl (by decide) jn_u7 (jn_in 615 (by decide +kernel) rfl), jn_getf_mo 7 0⟩ : jn_GEm jn_G0 jn_me131 15 (.inl (jn_getf 7 0))) <|
  jn_cons (⟨jn_aload_n_ok (i := 0) (k := 0) (by decide +kernel) rfl, jn_aload_n_mo 0⟩ : jn_GEm jn_G0 jn_me131 18 (.inl (jn_aload_n 0))) <|
  jn_cons (⟨jn_getf_ok (ci := 7) (k := 4) (i := 16) (N := 22) (C := RX7) (T := TX7) (by decide +kernel) rfl (by decide) jn_u7 (jn_in 619 (by decide +kernel) rfl), jn_getf_mo 7 4⟩ : jn_GEm jn_G0 jn_me131 19 (.inl (jn_getf 7 4))) <|
  jn_cons (⟨jn_iload_n_ok (i := 1) (k := 1) (by decide +kernel) rfl, jn_iload_n_mo 1⟩ : jn_GEm jn_G0 jn_me131 22 (.inl (jn_iload_n 1))) <|
  jn_cons (⟨jn_iaload_ok (by decide +kernel), jn_iaload_mo⟩ : jn_GEm jn_G0 jn_me131 23 (.inl jn_iaload)) <|
  jn_cons (⟨jn_iaload_ok (by decide +kernel), jn_iaload_mo⟩ : jn_GEm jn_G0 jn_me131 24 (.inl jn_iaload)) <|
  jn_cons (⟨jn_ishl_ok (by decide +kernel), jn_ishl_mo⟩ : jn_GEm jn_G0 jn_me131 25 (.inl jn_ishl)) <|
  jn_cons (⟨jn_iclt_ok (t := 36) (off := 10) (by decide +kernel) (by decide), jn_iclt_mo 36⟩ : jn_GEm jn_G0 jn_me131 26 (.inl (jn_iclt 36))) <|
  jn_cons (⟨jn_aload_n_ok (i := 0) (k := 0) (by decide +kernel) rfl, jn_aload_n_mo 0⟩ : jn_GEm jn_G0 jn_me131 29 (.inl (jn_aload_n 0))) <|
  jn_cons (⟨jn_bipush_ok (n := (-3)) (v := (-3)) (by decide +kernel) (by decide), jn_bipush_mo (-3)⟩ : jn_GEm jn_G0 jn_me131 30 (.inl (jn_bipush (-3)))) <|
  jn_cons (jn_gc_of jn_G0_95 (jn_callV (i := 73) (na := 1) (ci := 7) (q := (RX7, TX7, 22)) (by decide +kernel) rfl (jn_in 694 (by decide +kernel) rfl) (jn_in 691 (by decide +kernel) rfl) (jn_in 693 (by decide +kernel) rfl) (jn_in 19 (by decide +kernel) rfl) (jn_in 60 (by decide +kernel) rfl) ⟨by decide, by decide, by decide +kernel⟩) : jn_GEm jn_G0 jn_me131 32 (.inr (.inl (95, 9, 2)))) <|
  jn_cons (⟨(by decide +kernel), rfl⟩ : jn_GEm jn_G0 jn_me131 35 (.inr (.inr 1))) <|
  jn_cons (⟨jn_aload_n_ok (i := 0) (k := 0) (by decide +kernel) rfl, jn_aload_n_mo 0⟩ : jn_GEm jn_G0 jn_me131 36 (.inl (jn_aload_n 0))) <|
  jn_cons (⟨jn_iload_n_ok (i := 1) (k := 1) (by decide +kernel) rfl, jn_iload_n_mo 1⟩ : jn_GEm jn_G0 jn_me131 37 (.inl (jn_iload_n 1))) <|
  jn_cons (jn_gc_of jn_G0_127 (jn_callV (i := 168) (na := 1) (ci := 7) (q := (RX7, TX7, 22)) (by decide +kernel) rfl (jn_in 824 (by decide +kernel) rfl) (jn_in 821 (by decide +kernel) rfl) (jn_in 823 (by decide +kernel) rfl) (jn_in 36 (by decide +kernel) rfl) (jn_in 60 (by decide +kernel) rfl) ⟨by decide, by decide, by decide +kernel⟩) : jn_GEm jn_G0 jn_me131 38 (.inr (.inl (127, 9, 2)))) <| jn_nil
theorem jn_o131_1 : ∀ q ∈ jn_c131_1, jn_GEm jn_G0 jn_me131 q.1 q.2 :=
  jn_cons (⟨jn_iconst_ok (by decide +kernel), jn_iconst_mo 0⟩ : jn_GEm jn_G0 jn_me131 41 (.inl (jn_iconst 0))) <|
  jn_cons (⟨jn_istore_n_ok (i := 3) (k := 3) (by decide +kernel) rfl, jn_istore_n_mo 3⟩ : jn_GEm jn_G0 jn_me131 42 (.inl (jn_istore_n 3))) <|
  jn_cons (⟨jn_iload_n_ok (i := 3) (k := 3) (by decide +kernel) rfl, jn_iload_n_mo 3⟩ : jn_GEm jn_G0 jn_me131 43 (.inl (jn_iload_n 3))) <|
  jn_cons (⟨jn_bipush_ok (n := 6) (v := 6) (by decide +kernel) (by decide), jn_bipush_mo 6⟩ : jn_GEm jn_G0 jn_me131 44 (.inl (jn_bipush 6))) <|
  jn_cons (⟨jn_icge_ok (t := 76) (off := 30) (by decide +kernel) (by decide), jn_icge_mo 76⟩ : jn_GEm jn_G0 jn_me131 46 (.inl (jn_icge 76))) <|
  jn_cons (⟨jn_iload_n_ok (i := 2) (k := 2) (by decide +kernel) rfl, jn_iload_n_mo 2⟩ : jn_GEm jn_G0 jn_me131 49 (.inl (jn_iload_n 2))) <|
  jn_cons (⟨jn_iload_n_ok (i := 3) (k := 3) (by decide +kernel) rfl, jn_iload_n_mo 3⟩ : jn_GEm jn_G0 jn_me131 50 (.inl (jn_iload_n 3))) <|
  jn_cons (⟨jn_ishr_ok (by decide +kernel), jn_ishr_mo⟩ : jn_GEm jn_G0 jn_me131 51 (.inl jn_ishr)) <|
  jn_cons (⟨jn_iconst_ok (by decide +kernel), jn_iconst_mo 1⟩ : jn_GEm jn_G0 jn_me131 52 (.inl (jn_iconst 1))) <|
  jn_cons (⟨jn_iand_ok (by decide +kernel), jn_iand_mo⟩ : jn_GEm jn_G0 jn_me131 53 (.inl jn_iand)) <|
  jn_cons (⟨jn_iconst_ok (by decide +kernel), jn_iconst_mo 1⟩ : jn_GEm jn_G0 jn_me131 54 (.inl (jn_iconst 1))) <|
  jn_cons (⟨jn_icne_ok (t := 70) (off := 15) (by decide +kernel) (by decide), jn_icne_mo 70⟩ : jn_GEm jn_G0 jn_me131 55 (.inl (jn_icne 70))) <|
  jn_cons (⟨jn_aload_n_ok (i := 0) (k := 0) (by decide +kernel) rfl, jn_aload_n_mo 0⟩ : jn_GEm jn_G0 jn_me131 58 (.inl (jn_aload_n 0))) <|
  jn_cons (⟨jn_aload_n_ok (i := 0) (k := 0) (by decide +kernel) rfl, jn_aload_n_mo 0⟩ : jn_GEm jn_G0 jn_me131 59 (.inl (jn_aload_n 0))) <|
  jn_cons (⟨jn_getf_ok (ci := 7) (k := 4) (i := 16) (N := 22) (C := RX7) (T := TX7) (by decide +kernel) rfl (by decide) jn_u7 (jn_in 619 (by decide +kernel) rfl), jn_getf_mo 7 4⟩ : jn_GEm jn_G0 jn_me131 60 (.inl (jn_getf 7 4))) <|
  jn_cons (⟨jn_iload_n_ok (i := 1) (k := 1) (by decide +kernel) rfl, jn_iload_n_mo 1⟩ : jn_GEm jn_G0 jn_me131 63 (.inl (jn_iload_n 1))) <|
  jn_cons (⟨jn_iaload_ok (by decide +kernel), jn_iaload_mo⟩ : jn_GEm jn_G0 jn_me131 64 (.inl jn_iaload)) <|
  jn_cons (⟨jn_iload_n_ok (i := 3) (k := 3) (by decide +kernel) rfl, jn_iload_n_mo 3⟩ : jn_GEm jn_G0 jn_me131 65 (.inl (jn_iload_n 3))) <|
  jn_cons (⟨jn_lconst_ok (n := 1) (v := 1) (by decide +kernel) (by decide), jn_lconst_mo 1⟩ : jn_GEm jn_G0 jn_me131 66 (.inl (jn_lconst 1))) <|
  jn_cons (jn_gc_of jn_G0_128 (jn_callV (i := 172) (na := 3) (ci := 7) (q := (RX7, TX7, 22)) (by decide +kernel) rfl (jn_in 828 (by decide +kernel) rfl) (jn_in 825 (by decide +kernel) rfl) (jn_in 827 (by decide +kernel) rfl) (jn_in 37 (by decide +kernel) rfl) (jn_in 60 (by decide +kernel) rfl) ⟨by decide, by decide, by decide +kernel⟩) : jn_GEm jn_G0 jn_me131 67 (.inr (.inl (128, 9, 4)))) <|
  jn_cons (⟨jn_iinc_ok (i := 3) (n := 1) (by decide +kernel), jn_iinc_mo 3 1⟩ : jn_GEm jn_G0 jn_me131 70 (.inl (jn_iinc 3 1))) <|
  jn_cons (⟨jn_goto_ok (t := 43) (off := -30) (by decide +kernel) (by decide), jn_goto_mo 43⟩ : jn_GEm jn_G0 jn_me131 73 (.inl (jn_goto 43))) <|
  jn_cons (⟨jn_aload_n_ok (i := 0) (k := 0) (by decide +kernel) rfl, jn_aload_n_mo 0⟩ : jn_GEm jn_G0 jn_me131 76 (.inl (jn_aload_n 0))) <|
  jn_cons (⟨jn_iload_n_ok (i := 1) (k := 1) (by decide +kernel) rfl, jn_iload_n_mo 1⟩ : jn_GEm jn_G0 jn_me131 77 (.inl (jn_iload_n 1))) <| jn_nil
theorem jn_o131_2 : ∀ q ∈ jn_c131_2, jn_GEm jn_G0 jn_me131 q.1 q.2 :=
  jn_cons (jn_gc_of jn_G0_129 (jn_callV (i := 176) (na := 1) (ci := 7) (q := (RX7, TX7, 22)) (by decide +kernel) rfl (jn_in 832 (by decide +kernel) rfl) (jn_in 829 (by decide +kernel) rfl) (jn_in 831 (by decide +kernel) rfl) (jn_in 38 (by decide +kernel) rfl) (jn_in 60 (by decide +kernel) rfl) ⟨by decide, by decide, by decide +kernel⟩) : jn_GEm jn_G0 jn_me131 78 (.inr (.inl (129, 9, 2)))) <|
  jn_cons (⟨jn_istore_n_ok (i := 3) (k := 3) (by decide +kernel) rfl, jn_istore_n_mo 3⟩ : jn_GEm jn_G0 jn_me131 81 (.inl (jn_istore_n 3))) <|
  jn_cons (⟨jn_iload_n_ok (i := 3) (k := 3) (by decide +kernel) rfl, jn_iload_n_mo 3⟩ : jn_GEm jn_G0 jn_me131 82 (.inl (jn_iload_n 3))) <|
  jn_cons (⟨jn_ifge_ok (t := 95) (off := 12) (by decide +kernel) (by decide), jn_ifge_mo 95⟩ : jn_GEm jn_G0 jn_me131 83 (.inl (jn_ifge 95))) <|
  jn_cons (⟨jn_aload_n_ok (i := 0) (k := 0) (by decide +kernel) rfl, jn_aload_n_mo 0⟩ : jn_GEm jn_G0 jn_me131 86 (.inl (jn_aload_n 0))) <|
  jn_cons (⟨jn_bipush_ok (n := (-8)) (v := (-8)) (by decide +kernel) (by decide), jn_bipush_mo (-8)⟩ : jn_GEm jn_G0 jn_me131 87 (.inl (jn_bipush (-8)))) <|
  jn_cons (jn_gc_of jn_G0_95 (jn_callV (i := 73) (na := 1) (ci := 7) (q := (RX7, TX7, 22)) (by decide +kernel) rfl (jn_in 694 (by decide +kernel) rfl) (jn_in 691 (by decide +kernel) rfl) (jn_in 693 (by decide +kernel) rfl) (jn_in 19 (by decide +kernel) rfl) (jn_in 60 (by decide +kernel) rfl) ⟨by decide, by decide, by decide +kernel⟩) : jn_GEm jn_G0 jn_me131 89 (.inr (.inl (95, 9, 2)))) <|
  jn_cons (⟨jn_goto_ok (t := 96) (off := 4) (by decide +kernel) (by decide), jn_goto_mo 96⟩ : jn_GEm jn_G0 jn_me131 92 (.inl (jn_goto 96))) <|
  jn_cons (⟨jn_iload_n_ok (i := 3) (k := 3) (by decide +kernel) rfl, jn_iload_n_mo 3⟩ : jn_GEm jn_G0 jn_me131 95 (.inl (jn_iload_n 3))) <|
  jn_cons (⟨(by decide +kernel), rfl⟩ : jn_GEm jn_G0 jn_me131 96 (.inr (.inr 1))) <| jn_nil
theorem jn_ok131 : jn_GM jn_G0 131 := jn_GM_of jn_G0_131 rfl rfl (by decide +kernel) (by decide) (jn_appd jn_o131_0 (jn_appd jn_o131_1 (jn_o131_2)))
theorem jn_o132_0 : ∀ q ∈ jn_c132_0, jn_GEm jn_G0 jn_me132 q.1 q.2 :=
  jn_cons (⟨jn_iconst_ok (by decide +kernel), jn_iconst_mo 0⟩ : jn_GEm jn_G0 jn_me132 0 (.inl (jn_iconst 0))) <|
  jn_cons (⟨jn_istore_n_ok (i := 2) (k := 2) (by decide +kernel) rfl, jn_istore_n_mo 2⟩ : jn_GEm jn_G0 jn_me132 1 (.inl (jn_istore_n 2))) <|
  jn_cons (⟨jn_iload_n_ok (i := 2) (k := 2) (by decide +kernel) rfl, jn_iload_n_mo 2⟩ : jn_GEm jn_G0 jn_me132 2 (.inl (jn_iload_n 2))) <|
  jn_cons (⟨jn_bipush_ok (n := 6) (v := 6) (by decide +kernel) (by decide), jn_bipush_mo 6⟩ : jn_GEm jn_G0 jn_me132 3 (.inl (jn_bipush 6))) <|
  jn_cons (⟨jn_icge_ok (t := 39) (off := 34) (by decide +kernel) (by decide), jn_icge_mo 39⟩ : jn_GEm jn_G0 jn_me132 5 (.inl (jn_icge 39))) <|
  jn_cons (⟨jn_aload_n_ok (i := 0) (k := 0) (by decide +kernel) rfl, jn_aload_n_mo 0⟩ : jn_GEm jn_G0 jn_me132 8 (.inl (jn_aload_n 0))) <|
  jn_cons (⟨jn_getf_ok (ci := 7) (k := 8) (i := 29) (N := 22) (C := RX7) (T := TX7) (by decide +kernel) rfl (by decide) jn_u7 (jn_in 623 (by decide +kernel) rfl), jn_getf_mo 7 8⟩ : jn_GEm jn_G0 jn_me132 9 (.inl (jn_getf 7 8))) <|
  jn_cons (⟨jn_iload_n_ok (i := 2) (k := 2) (by decide +kernel) rfl, jn_iload_n_mo 2⟩ : jn_GEm jn_G0 jn_me132 12 (.inl (jn_iload_n 2))) <|
  jn_cons (⟨jn_laload_ok (by decide +kernel), jn_laload_mo⟩ : jn_GEm jn_G0 jn_me132 13 (.inl jn_laload)) <|
  jn_cons (⟨jn_ldc2_ok (i := 160) (v := (-100000)) (by decide +kernel) (jn_in 833 (by decide +kernel) rfl), jn_ldc2_mo (-100000)⟩ : jn_GEm jn_G0 jn_me132 14 (.inl (jn_ldc2 (-100000)))) <|
  jn_cons (⟨jn_ldc2_ok (i := 162) (v := 100000) (by decide +kernel) (jn_in 834 (by decide +kernel) rfl), jn_ldc2_mo 100000⟩ : jn_GEm jn_G0 jn_me132 17 (.inl (jn_ldc2 100000))) <|
  jn_cons (jn_gc_of jn_G0_94 (jn_callS (i := 89) (na := 3) (by decide +kernel) (jn_in 690 (by decide +kernel) rfl) (jn_in 688 (by decide +kernel) rfl) (jn_in 689 (by decide +kernel) rfl) (jn_in 60 (by decide +kernel) rfl) ⟨by decide, by decide, by decide +kernel⟩) : jn_GEm jn_G0 jn_me132 20 (.inr (.inl (94, 0, 3)))) <|
  jn_cons (⟨jn_ifne_ok (t := 33) (off := 10) (by decide +kernel) (by decide), jn_ifne_mo 33⟩ : jn_GEm jn_G0 jn_me132 23 (.inl (jn_ifne 33))) <|
  jn_cons (⟨jn_aload_n_ok (i := 0) (k := 0) (by decide +kernel) rfl, jn_aload_n_mo 0⟩ : jn_GEm jn_G0 jn_me132 26 (.inl (jn_aload_n 0))) <|
  jn_cons (⟨jn_bipush_ok (n := (-8)) (v := (-8)) (by decide +kernel) (by decide), jn_bipush_mo (-8)⟩ : jn_GEm jn_G0 jn_me132 27 (.inl (jn_bipush (-8)))) <|
  jn_cons (jn_gc_of jn_G0_95 (jn_callV (i := 73) (na := 1) (ci := 7) (q := (RX7, TX7, 22)) (by decide +kernel) rfl (jn_in 694 (by decide +kernel) rfl) (jn_in 691 (by decide +kernel) rfl) (jn_in 693 (by decide +kernel) rfl) (jn_in 19 (by decide +kernel) rfl) (jn_in 60 (by decide +kernel) rfl) ⟨by decide, by decide, by decide +kernel⟩) : jn_GEm jn_G0 jn_me132 29 (.inr (.inl (95, 9, 2)))) <|
  jn_cons (⟨(by decide +kernel), rfl⟩ : jn_GEm jn_G0 jn_me132 32 (.inr (.inr 1))) <|
  jn_cons (⟨jn_iinc_ok (i := 2) (n := 1) (by decide +kernel), jn_iinc_mo 2 1⟩ : jn_GEm jn_G0 jn_me132 33 (.inl (jn_iinc 2 1))) <|
  jn_cons (⟨jn_goto_ok (t := 2) (off := -34) (by decide +kernel) (by decide), jn_goto_mo 2⟩ : jn_GEm jn_G0 jn_me132 36 (.inl (jn_goto 2))) <|
  jn_cons (⟨jn_aload_n_ok (i := 0) (k := 0) (by decide +kernel) rfl, jn_aload_n_mo 0⟩ : jn_GEm jn_G0 jn_me132 39 (.inl (jn_aload_n 0))) <|
  jn_cons (⟨jn_iload_n_ok (i := 1) (k := 1) (by decide +kernel) rfl, jn_iload_n_mo 1⟩ : jn_GEm jn_G0 jn_me132 40 (.inl (jn_iload_n 1))) <|
  jn_cons (jn_gc_of jn_G0_120 (jn_callV (i := 179) (na := 1) (ci := 7) (q := (RX7, TX7, 22)) (by decide +kernel) rfl (jn_in 784 (by decide +kernel) rfl) (jn_in 847 (by decide +kernel) rfl) (jn_in 782 (by decide +kernel) rfl) (jn_in 783 (by decide +kernel) rfl) (jn_in 60 (by decide +kernel) rfl) ⟨by decide, by decide, by decide +kernel⟩) : jn_GEm jn_G0 jn_me132 41 (.inr (.inl (120, 9, 2)))) <|
  jn_cons (⟨jn_istore_n_ok (i := 2) (k := 2) (by decide +kernel) rfl, jn_istore_n_mo 2⟩ : jn_GEm jn_G0 jn_me132 44 (.inl (jn_istore_n 2))) <|
  jn_cons (⟨jn_iconst_ok (by decide +kernel), jn_iconst_mo 0⟩ : jn_GEm jn_G0 jn_me132 45 (.inl (jn_iconst 0))) <| jn_nil
theorem jn_o132_1 : ∀ q ∈ jn_c132_1, jn_GEm jn_G0 jn_me132 q.1 q.2 :=
  jn_cons (⟨jn_istore_n_ok (i := 3) (k := 3) (by decide +kernel) rfl, jn_istore_n_mo 3⟩ : jn_GEm jn_G0 jn_me132 46 (.inl (jn_istore_n 3))) <|
  jn_cons (⟨jn_iload_n_ok (i := 3) (k := 3) (by decide +kernel) rfl, jn_iload_n_mo 3⟩ : jn_GEm jn_G0 jn_me132 47 (.inl (jn_iload_n 3))) <|
  jn_cons (⟨jn_bipush_ok (n := 6) (v := 6) (by decide +kernel) (by decide), jn_bipush_mo 6⟩ : jn_GEm jn_G0 jn_me132 48 (.inl (jn_bipush 6))) <|
  jn_cons (⟨jn_icge_ok (t := 81) (off := 31) (by decide +kernel) (by decide), jn_icge_mo 81⟩ : jn_GEm jn_G0 jn_me132 50 (.inl (jn_icge 81))) <|
  jn_cons (⟨jn_iload_n_ok (i := 2) (k := 2) (by decide +kernel) rfl, jn_iload_n_mo 2⟩ : jn_GEm jn_G0 jn_me132 53 (.inl (jn_iload_n 2))) <|
  jn_cons (⟨jn_iflt_ok (t := 81) (off := 27) (by decide +kernel) (by decide), jn_iflt_mo 81⟩ : jn_GEm jn_G0 jn_me132 54 (.inl (jn_iflt 81))) <|
  jn_cons (⟨jn_aload_n_ok (i := 0) (k := 0) (by decide +kernel) rfl, jn_aload_n_mo 0⟩ : jn_GEm jn_G0 jn_me132 57 (.inl (jn_aload_n 0))) <|
  jn_cons (⟨jn_getf_ok (ci := 7) (k := 5) (i := 19) (N := 22) (C := RX7) (T := TX7) (by decide +kernel) rfl (by decide) jn_u7 (jn_in 620 (by decide +kernel) rfl), jn_getf_mo 7 5⟩ : jn_GEm jn_G0 jn_me132 58 (.inl (jn_getf 7 5))) <|
  jn_cons (⟨jn_bipush_ok (n := 6) (v := 6) (by decide +kernel) (by decide), jn_bipush_mo 6⟩ : jn_GEm jn_G0 jn_me132 61 (.inl (jn_bipush 6))) <|
  jn_cons (⟨jn_iload_n_ok (i := 2) (k := 2) (by decide +kernel) rfl, jn_iload_n_mo 2⟩ : jn_GEm jn_G0 jn_me132 63 (.inl (jn_iload_n 2))) <|
  jn_cons (⟨jn_imul_ok (by decide +kernel), jn_imul_mo⟩ : jn_GEm jn_G0 jn_me132 64 (.inl jn_imul)) <|
  jn_cons (⟨jn_iload_n_ok (i := 3) (k := 3) (by decide +kernel) rfl, jn_iload_n_mo 3⟩ : jn_GEm jn_G0 jn_me132 65 (.inl (jn_iload_n 3))) <|
  jn_cons (⟨jn_iadd_ok (by decide +kernel), jn_iadd_mo⟩ : jn_GEm jn_G0 jn_me132 66 (.inl jn_iadd)) <|
  jn_cons (⟨jn_aload_n_ok (i := 0) (k := 0) (by decide +kernel) rfl, jn_aload_n_mo 0⟩ : jn_GEm jn_G0 jn_me132 67 (.inl (jn_aload_n 0))) <|
  jn_cons (⟨jn_getf_ok (ci := 7) (k := 8) (i := 29) (N := 22) (C := RX7) (T := TX7) (by decide +kernel) rfl (by decide) jn_u7 (jn_in 623 (by decide +kernel) rfl), jn_getf_mo 7 8⟩ : jn_GEm jn_G0 jn_me132 68 (.inl (jn_getf 7 8))) <|
  jn_cons (⟨jn_iload_n_ok (i := 3) (k := 3) (by decide +kernel) rfl, jn_iload_n_mo 3⟩ : jn_GEm jn_G0 jn_me132 71 (.inl (jn_iload_n 3))) <|
  jn_cons (⟨jn_laload_ok (by decide +kernel), jn_laload_mo⟩ : jn_GEm jn_G0 jn_me132 72 (.inl jn_laload)) <|
  jn_cons (⟨jn_l2i_ok (by decide +kernel), jn_l2i_mo⟩ : jn_GEm jn_G0 jn_me132 73 (.inl jn_l2i)) <|
  jn_cons (⟨jn_iastore_ok (by decide +kernel), jn_iastore_mo⟩ : jn_GEm jn_G0 jn_me132 74 (.inl jn_iastore)) <|
  jn_cons (⟨jn_iinc_ok (i := 3) (n := 1) (by decide +kernel), jn_iinc_mo 3 1⟩ : jn_GEm jn_G0 jn_me132 75 (.inl (jn_iinc 3 1))) <|
  jn_cons (⟨jn_goto_ok (t := 47) (off := -31) (by decide +kernel) (by decide), jn_goto_mo 47⟩ : jn_GEm jn_G0 jn_me132 78 (.inl (jn_goto 47))) <|
  jn_cons (⟨jn_iload_n_ok (i := 2) (k := 2) (by decide +kernel) rfl, jn_iload_n_mo 2⟩ : jn_GEm jn_G0 jn_me132 81 (.inl (jn_iload_n 2))) <|
  jn_cons (⟨(by decide +kernel), rfl⟩ : jn_GEm jn_G0 jn_me132 82 (.inr (.inr 1))) <| jn_nil
theorem jn_ok132 : jn_GM jn_G0 132 := jn_GM_of jn_G0_132 rfl rfl (by decide +kernel) (by decide) (jn_appd jn_o132_0 (jn_o132_1))
theorem jn_o133_0 : ∀ q ∈ jn_c133_0, jn_GEm jn_G0 jn_me133 q.1 q.2 :=
  jn_cons (⟨jn_aload_n_ok (i := 0) (k := 0) (by decide +kernel) rfl, jn_aload_n_mo 0⟩ : jn_GEm jn_G0 jn_me133 0 (.inl (jn_aload_n 0))) <|
  jn_cons (⟨jn_iload_n_ok (i := 1) (k := 1) (by decide +kernel) rfl, jn_iload_n_mo 1⟩ : jn_GEm jn_G0 jn_me133 1 (.inl (jn_iload_n 1))) <|
  jn_cons (jn_gc_of jn_G0_97 (jn_callV (i := 80) (na := 1) (ci := 7) (q := (RX7, TX7, 22)) (by decide +kernel) rfl (jn_in 706 (by decide +kernel) rfl) (jn_in 703 (by decide +kernel) rfl) (jn_in 705 (by decide +kernel) rfl) (jn_in 21 (by decide +kernel) rfl) (jn_in 60 (by decide +kernel) rfl) ⟨by decide, by decide, by decide +kernel⟩) : jn_GEm jn_G0 jn_me133 2 (.inr (.inl (97, 9, 2)))) <|
  jn_cons (⟨jn_ifne_ok (t := 15) (off := 10) (by decide +kernel) (by decide), jn_ifne_mo 15⟩ : jn_GEm jn_G0 jn_me133 5 (.inl (jn_ifne 15))) <|
  jn_cons (⟨jn_aload_n_ok (i := 0) (k := 0) (by decide +kernel) rfl, jn_aload_n_mo 0⟩ : jn_GEm jn_G0 jn_me133 8 (.inl (jn_aload_n 0))) <|
  jn_cons (⟨jn_bipush_ok (n := (-3)) (v := (-3)) (by decide +kernel) (by decide), jn_bipush_mo (-3)⟩ : jn_GEm jn_G0 jn_me133 9 (.inl (jn_bipush (-3)))) <|
  jn_cons (jn_gc_of jn_G0_95 (jn_callV (i := 73) (na := 1) (ci := 7) (q := (RX7, TX7, 22)) (by decide +kernel) rfl (jn_in 694 (by decide +kernel) rfl) (jn_in 691 (by decide +kernel) rfl) (jn_in 693 (by decide +kernel) rfl) (jn_in 19 (by decide +kernel) rfl) (jn_in 60 (by decide +kernel) rfl) ⟨by decide, by decide, by decide +kernel⟩) : jn_GEm jn_G0 jn_me133 11 (.inr (.inl (95, 9, 2)))) <|
  jn_cons (⟨(by decide +kernel), rfl⟩ : jn_GEm jn_G0 jn_me133 14 (.inr (.inr 1))) <|
  jn_cons (⟨jn_iconst_ok (by decide +kernel), jn_iconst_mo 0⟩ : jn_GEm jn_G0 jn_me133 15 (.inl (jn_iconst 0))) <|
  jn_cons (⟨jn_istore_n_ok (i := 2) (k := 2) (by decide +kernel) rfl, jn_istore_n_mo 2⟩ : jn_GEm jn_G0 jn_me133 16 (.inl (jn_istore_n 2))) <|
  jn_cons (⟨jn_iload_n_ok (i := 2) (k := 2) (by decide +kernel) rfl, jn_iload_n_mo 2⟩ : jn_GEm jn_G0 jn_me133 17 (.inl (jn_iload_n 2))) <|
  jn_cons (⟨jn_bipush_ok (n := 6) (v := 6) (by decide +kernel) (by decide), jn_bipush_mo 6⟩ : jn_GEm jn_G0 jn_me133 18 (.inl (jn_bipush 6))) <|
  jn_cons (⟨jn_icge_ok (t := 58) (off := 38) (by decide +kernel) (by decide), jn_icge_mo 58⟩ : jn_GEm jn_G0 jn_me133 20 (.inl (jn_icge 58))) <|
  jn_cons (⟨jn_aload_n_ok (i := 0) (k := 0) (by decide +kernel) rfl, jn_aload_n_mo 0⟩ : jn_GEm jn_G0 jn_me133 23 (.inl (jn_aload_n 0))) <|
  jn_cons (⟨jn_getf_ok (ci := 7) (k := 8) (i := 29) (N := 22) (C := RX7) (T := TX7) (by decide +kernel) rfl (by decide) jn_u7 (jn_in 623 (by decide +kernel) rfl), jn_getf_mo 7 8⟩ : jn_GEm jn_G0 jn_me133 24 (.inl (jn_getf 7 8))) <|
  jn_cons (⟨jn_iload_n_ok (i := 2) (k := 2) (by decide +kernel) rfl, jn_iload_n_mo 2⟩ : jn_GEm jn_G0 jn_me133 27 (.inl (jn_iload_n 2))) <|
  jn_cons (⟨jn_iload_n_ok (i := 2) (k := 2) (by decide +kernel) rfl, jn_iload_n_mo 2⟩ : jn_GEm jn_G0 jn_me133 28 (.inl (jn_iload_n 2))) <|
  jn_cons (⟨jn_aload_n_ok (i := 0) (k := 0) (by decide +kernel) rfl, jn_aload_n_mo 0⟩ : jn_GEm jn_G0 jn_me133 29 (.inl (jn_aload_n 0))) <|
  jn_cons (⟨jn_getf_ok (ci := 7) (k := 0) (i := 7) (N := 22) (C := RX7) (T := TX7) (by decide +kernel) rfl (by decide) jn_u7 (jn_in 615 (by decide +kernel) rfl), jn_getf_mo 7 0⟩ : jn_GEm jn_G0 jn_me133 30 (.inl (jn_getf 7 0))) <|
  jn_cons (⟨jn_iload_n_ok (i := 1) (k := 1) (by decide +kernel) rfl, jn_iload_n_mo 1⟩ : jn_GEm jn_G0 jn_me133 33 (.inl (jn_iload_n 1))) <|
  jn_cons (⟨jn_iaload_ok (by decide +kernel), jn_iaload_mo⟩ : jn_GEm jn_G0 jn_me133 34 (.inl jn_iaload)) <|
  jn_cons (⟨jn_icge_ok (t := 50) (off := 15) (by decide +kernel) (by decide), jn_icge_mo 50⟩ : jn_GEm jn_G0 jn_me133 35 (.inl (jn_icge 50))) <|
  jn_cons (⟨jn_aload_n_ok (i := 0) (k := 0) (by decide +kernel) rfl, jn_aload_n_mo 0⟩ : jn_GEm jn_G0 jn_me133 38 (.inl (jn_aload_n 0))) <|
  jn_cons (⟨jn_iload_n_ok (i := 1) (k := 1) (by decide +kernel) rfl, jn_iload_n_mo 1⟩ : jn_GEm jn_G0 jn_me133 39 (.inl (jn_iload_n 1))) <| jn_nil
theorem jn_o133_1 : ∀ q ∈ jn_c133_1, jn_GEm jn_G0 jn_me133 q.1 q.2 :=
  jn_cons (⟨jn_iload_n_ok (i := 2) (k := 2) (by decide +kernel) rfl, jn_iload_n_mo 2⟩ : jn_GEm jn_G0 jn_me133 40 (.inl (jn_iload_n 2))) <|
  jn_cons (jn_gc_of jn_G0_103 (jn_callV (i := 103) (na := 2) (ci := 7) (q := (RX7, TX7, 22)) (by decide +kernel) rfl (jn_in 734 (by decide +kernel) rfl) (jn_in 731 (by decide +kernel) rfl) (jn_in 733 (by decide +kernel) rfl) (jn_in 26 (by decide +kernel) rfl) (jn_in 60 (by decide +kernel) rfl) ⟨by decide, by decide, by decide +kernel⟩) : jn_GEm jn_G0 jn_me133 41 (.inr (.inl (103, 9, 3)))) <|
  jn_cons (⟨jn_iconst_ok (by decide +kernel), jn_iconst_mo 2⟩ : jn_GEm jn_G0 jn_me133 44 (.inl (jn_iconst 2))) <|
  jn_cons (⟨jn_isub_ok (by decide +kernel), jn_isub_mo⟩ : jn_GEm jn_G0 jn_me133 45 (.inl jn_isub)) <|
  jn_cons (⟨jn_i2l_ok (by decide +kernel), jn_i2l_mo⟩ : jn_GEm jn_G0 jn_me133 46 (.inl jn_i2l)) <|
  jn_cons (⟨jn_goto_ok (t := 51) (off := 4) (by decide +kernel) (by decide), jn_goto_mo 51⟩ : jn_GEm jn_G0 jn_me133 47 (.inl (jn_goto 51))) <|
  jn_cons (⟨jn_lconst_ok (n := 0) (v := 0) (by decide +kernel) (by decide), jn_lconst_mo 0⟩ : jn_GEm jn_G0 jn_me133 50 (.inl (jn_lconst 0))) <|
  jn_cons (⟨jn_lastore_ok (by decide +kernel), jn_lastore_mo⟩ : jn_GEm jn_G0 jn_me133 51 (.inl jn_lastore)) <|
  jn_cons (⟨jn_iinc_ok (i := 2) (n := 1) (by decide +kernel), jn_iinc_mo 2 1⟩ : jn_GEm jn_G0 jn_me133 52 (.inl (jn_iinc 2 1))) <|
  jn_cons (⟨jn_goto_ok (t := 17) (off := -38) (by decide +kernel) (by decide), jn_goto_mo 17⟩ : jn_GEm jn_G0 jn_me133 55 (.inl (jn_goto 17))) <|
  jn_cons (⟨jn_aload_n_ok (i := 0) (k := 0) (by decide +kernel) rfl, jn_aload_n_mo 0⟩ : jn_GEm jn_G0 jn_me133 58 (.inl (jn_aload_n 0))) <|
  jn_cons (⟨jn_iload_n_ok (i := 1) (k := 1) (by decide +kernel) rfl, jn_iload_n_mo 1⟩ : jn_GEm jn_G0 jn_me133 59 (.inl (jn_iload_n 1))) <|
  jn_cons (jn_gc_of jn_G0_132 (jn_callV (i := 182) (na := 1) (ci := 7) (q := (RX7, TX7, 22)) (by decide +kernel) rfl (jn_in 846 (by decide +kernel) rfl) (jn_in 843 (by decide +kernel) rfl) (jn_in 845 (by decide +kernel) rfl) (jn_in 39 (by decide +kernel) rfl) (jn_in 60 (by decide +kernel) rfl) ⟨by decide, by decide, by decide +kernel⟩) : jn_GEm jn_G0 jn_me133 60 (.inr (.inl (132, 9, 2)))) <|
  jn_cons (⟨(by decide +kernel), rfl⟩ : jn_GEm jn_G0 jn_me133 63 (.inr (.inr 1))) <| jn_nil
theorem jn_ok133 : jn_GM jn_G0 133 := jn_GM_of jn_G0_133 rfl rfl (by decide +kernel) (by decide) (jn_appd jn_o133_0 (jn_o133_1))
theorem jn_o134_0 : ∀ q ∈ jn_c134_0, jn_GEm jn_G0 jn_me134 q.1 q.2 :=
  jn_cons (⟨jn_aload_n_ok (i := 0) (k := 0) (by decide +kernel) rfl, jn_aload_n_mo 0⟩ : jn_GEm jn_G0 jn_me134 0 (.inl (jn_aload_n 0))) <|
  jn_cons (⟨jn_iload_n_ok (i := 1) (k := 1) (by decide +kernel) rfl, jn_iload_n_mo 1⟩ : jn_GEm jn_G0 jn_me134 1 (.inl (jn_iload_n 1))) <|
  jn_cons (jn_gc_of jn_G0_99 (jn_callV (i := 147) (na := 1) (ci := 7) (q := (RX7, TX7, 22)) (by decide +kernel) rfl (jn_in 796 (by decide +kernel) rfl) (jn_in 793 (by decide +kernel) rfl) (jn_in 795 (by decide +kernel) rfl) (jn_in 34 (by decide +kernel) rfl) (jn_in 60 (by decide +kernel) rfl) ⟨by decide, by decide, by decide +kernel⟩) : jn_GEm jn_G0 jn_me134 2 (.inr (.inl (99, 9, 2)))) <|
  jn_cons (⟨jn_ifeq_ok (t := 16) (off := 11) (by decide +kernel) (by decide), jn_ifeq_mo 16⟩ : jn_GEm jn_G0 jn_me134 5 (.inl (jn_ifeq 16))) <|
  jn_cons (⟨jn_aload_n_ok (i := 0) (k := 0) (by decide +kernel) rfl, jn_aload_n_mo 0⟩ : jn_GEm jn_G0 jn_me134 8 (.inl (jn_aload_n 0))) <|
  jn_cons (⟨jn_iload_n_ok (i := 2) (k := 2) (by decide +kernel) rfl, jn_iload_n_mo 2⟩ : jn_GEm jn_G0 jn_me134 9 (.inl (jn_iload_n 2))) <|
  jn_cons (jn_gc_of jn_G0_99 (jn_callV (i := 147) (na := 1) (ci := 7) (q := (RX7, TX7, 22)) (by decide +kernel) rfl (jn_in 796 (by decide +kernel) rfl) (jn_in 793 (by decide +kernel) rfl) (jn_in 795 (by decide +kernel) rfl) (jn_in 34 (by decide +kernel) rfl) (jn_in 60 (by decide +kernel) rfl) ⟨by decide, by decide, by decide +kernel⟩) : jn_GEm jn_G0 jn_me134 10 (.inr (.inl (99, 9, 2)))) <|
  jn_cons (⟨jn_ifne_ok (t := 23) (off := 10) (by decide +kernel) (by decide), jn_ifne_mo 23⟩ : jn_GEm jn_G0 jn_me134 13 (.inl (jn_ifne 23))) <|
  jn_cons (⟨jn_aload_n_ok (i := 0) (k := 0) (by decide +kernel) rfl, jn_aload_n_mo 0⟩ : jn_GEm jn_G0 jn_me134 16 (.inl (jn_aload_n 0))) <|
  jn_cons (⟨jn_bipush_ok (n := (-3)) (v := (-3)) (by decide +kernel) (by decide), jn_bipush_mo (-3)⟩ : jn_GEm jn_G0 jn_me134 17 (.inl (jn_bipush (-3)))) <|
  jn_cons (jn_gc_of jn_G0_95 (jn_callV (i := 73) (na := 1) (ci := 7) (q := (RX7, TX7, 22)) (by decide +kernel) rfl (jn_in 694 (by decide +kernel) rfl) (jn_in 691 (by decide +kernel) rfl) (jn_in 693 (by decide +kernel) rfl) (jn_in 19 (by decide +kernel) rfl) (jn_in 60 (by decide +kernel) rfl) ⟨by decide, by decide, by decide +kernel⟩) : jn_GEm jn_G0 jn_me134 19 (.inr (.inl (95, 9, 2)))) <|
  jn_cons (⟨(by decide +kernel), rfl⟩ : jn_GEm jn_G0 jn_me134 22 (.inr (.inr 1))) <|
  jn_cons (⟨jn_aload_n_ok (i := 0) (k := 0) (by decide +kernel) rfl, jn_aload_n_mo 0⟩ : jn_GEm jn_G0 jn_me134 23 (.inl (jn_aload_n 0))) <|
  jn_cons (⟨jn_getf_ok (ci := 7) (k := 4) (i := 16) (N := 22) (C := RX7) (T := TX7) (by decide +kernel) rfl (by decide) jn_u7 (jn_in 619 (by decide +kernel) rfl), jn_getf_mo 7 4⟩ : jn_GEm jn_G0 jn_me134 24 (.inl (jn_getf 7 4))) <|
  jn_cons (⟨jn_iload_n_ok (i := 1) (k := 1) (by decide +kernel) rfl, jn_iload_n_mo 1⟩ : jn_GEm jn_G0 jn_me134 27 (.inl (jn_iload_n 1))) <|
  jn_cons (⟨jn_iaload_ok (by decide +kernel), jn_iaload_mo⟩ : jn_GEm jn_G0 jn_me134 28 (.inl jn_iaload)) <|
  jn_cons (⟨jn_aload_n_ok (i := 0) (k := 0) (by decide +kernel) rfl, jn_aload_n_mo 0⟩ : jn_GEm jn_G0 jn_me134 29 (.inl (jn_aload_n 0))) <|
  jn_cons (⟨jn_getf_ok (ci := 7) (k := 4) (i := 16) (N := 22) (C := RX7) (T := TX7) (by decide +kernel) rfl (by decide) jn_u7 (jn_in 619 (by decide +kernel) rfl), jn_getf_mo 7 4⟩ : jn_GEm jn_G0 jn_me134 30 (.inl (jn_getf 7 4))) <|
  jn_cons (⟨jn_iload_n_ok (i := 2) (k := 2) (by decide +kernel) rfl, jn_iload_n_mo 2⟩ : jn_GEm jn_G0 jn_me134 33 (.inl (jn_iload_n 2))) <|
  jn_cons (⟨jn_iaload_ok (by decide +kernel), jn_iaload_mo⟩ : jn_GEm jn_G0 jn_me134 34 (.inl jn_iaload)) <|
  jn_cons (⟨jn_iceq_ok (t := 45) (off := 10) (by decide +kernel) (by decide), jn_iceq_mo 45⟩ : jn_GEm jn_G0 jn_me134 35 (.inl (jn_iceq 45))) <|
  jn_cons (⟨jn_aload_n_ok (i := 0) (k := 0) (by decide +kernel) rfl, jn_aload_n_mo 0⟩ : jn_GEm jn_G0 jn_me134 38 (.inl (jn_aload_n 0))) <|
  jn_cons (⟨jn_bipush_ok (n := (-7)) (v := (-7)) (by decide +kernel) (by decide), jn_bipush_mo (-7)⟩ : jn_GEm jn_G0 jn_me134 39 (.inl (jn_bipush (-7)))) <|
  jn_cons (jn_gc_of jn_G0_95 (jn_callV (i := 73) (na := 1) (ci := 7) (q := (RX7, TX7, 22)) (by decide +kernel) rfl (jn_in 694 (by decide +kernel) rfl) (jn_in 691 (by decide +kernel) rfl) (jn_in 693 (by decide +kernel) rfl) (jn_in 19 (by decide +kernel) rfl) (jn_in 60 (by decide +kernel) rfl) ⟨by decide, by decide, by decide +kernel⟩) : jn_GEm jn_G0 jn_me134 41 (.inr (.inl (95, 9, 2)))) <| jn_nil
theorem jn_o134_1 : ∀ q ∈ jn_c134_1, jn_GEm jn_G0 jn_me134 q.1 q.2 :=
  jn_cons (⟨(by decide +kernel), rfl⟩ : jn_GEm jn_G0 jn_me134 44 (.inr (.inr 1))) <|
  jn_cons (⟨jn_iconst_ok (by decide +kernel), jn_iconst_mo 0⟩ : jn_GEm jn_G0 jn_me134 45 (.inl (jn_iconst 0))) <|
  jn_cons (⟨jn_istore_ok (i := 4) (by decide +kernel), jn_istore_mo 4⟩ : jn_GEm jn_G0 jn_me134 46 (.inl (jn_istore 4))) <|
  jn_cons (⟨jn_iload_ok (i := 4) (by decide +kernel), jn_iload_mo 4⟩ : jn_GEm jn_G0 jn_me134 48 (.inl (jn_iload 4))) <|
  jn_cons (⟨jn_bipush_ok (n := 6) (v := 6) (by decide +kernel) (by decide), jn_bipush_mo 6⟩ : jn_GEm jn_G0 jn_me134 50 (.inl (jn_bipush 6))) <|
  jn_cons (⟨jn_icge_ok (t := 107) (off := 55) (by decide +kernel) (by decide), jn_icge_mo 107⟩ : jn_GEm jn_G0 jn_me134 52 (.inl (jn_icge 107))) <|
  jn_cons (⟨jn_aload_n_ok (i := 0) (k := 0) (by decide +kernel) rfl, jn_aload_n_mo 0⟩ : jn_GEm jn_G0 jn_me134 55 (.inl (jn_aload_n 0))) <|
  jn_cons (⟨jn_getf_ok (ci := 7) (k := 8) (i := 29) (N := 22) (C := RX7) (T := TX7) (by decide +kernel) rfl (by decide) jn_u7 (jn_in 623 (by decide +kernel) rfl), jn_getf_mo 7 8⟩ : jn_GEm jn_G0 jn_me134 56 (.inl (jn_getf 7 8))) <|
  jn_cons (⟨jn_iload_ok (i := 4) (by decide +kernel), jn_iload_mo 4⟩ : jn_GEm jn_G0 jn_me134 59 (.inl (jn_iload 4))) <|
  jn_cons (⟨jn_aload_n_ok (i := 0) (k := 0) (by decide +kernel) rfl, jn_aload_n_mo 0⟩ : jn_GEm jn_G0 jn_me134 61 (.inl (jn_aload_n 0))) <|
  jn_cons (⟨jn_getf_ok (ci := 7) (k := 5) (i := 19) (N := 22) (C := RX7) (T := TX7) (by decide +kernel) rfl (by decide) jn_u7 (jn_in 620 (by decide +kernel) rfl), jn_getf_mo 7 5⟩ : jn_GEm jn_G0 jn_me134 62 (.inl (jn_getf 7 5))) <|
  jn_cons (⟨jn_bipush_ok (n := 6) (v := 6) (by decide +kernel) (by decide), jn_bipush_mo 6⟩ : jn_GEm jn_G0 jn_me134 65 (.inl (jn_bipush 6))) <|
  jn_cons (⟨jn_iload_n_ok (i := 1) (k := 1) (by decide +kernel) rfl, jn_iload_n_mo 1⟩ : jn_GEm jn_G0 jn_me134 67 (.inl (jn_iload_n 1))) <|
  jn_cons (⟨jn_imul_ok (by decide +kernel), jn_imul_mo⟩ : jn_GEm jn_G0 jn_me134 68 (.inl jn_imul)) <|
  jn_cons (⟨jn_iload_ok (i := 4) (by decide +kernel), jn_iload_mo 4⟩ : jn_GEm jn_G0 jn_me134 69 (.inl (jn_iload 4))) <|
  jn_cons (⟨jn_iadd_ok (by decide +kernel), jn_iadd_mo⟩ : jn_GEm jn_G0 jn_me134 71 (.inl jn_iadd)) <|
  jn_cons (⟨jn_iaload_ok (by decide +kernel), jn_iaload_mo⟩ : jn_GEm jn_G0 jn_me134 72 (.inl jn_iaload)) <|
  jn_cons (⟨jn_i2l_ok (by decide +kernel), jn_i2l_mo⟩ : jn_GEm jn_G0 jn_me134 73 (.inl jn_i2l)) <|
  jn_cons (⟨jn_iload_n_ok (i := 3) (k := 3) (by decide +kernel) rfl, jn_iload_n_mo 3⟩ : jn_GEm jn_G0 jn_me134 74 (.inl (jn_iload_n 3))) <|
  jn_cons (⟨jn_ifeq_ok (t := 84) (off := 9) (by decide +kernel) (by decide), jn_ifeq_mo 84⟩ : jn_GEm jn_G0 jn_me134 75 (.inl (jn_ifeq 84))) <|
  jn_cons (⟨jn_ldc2_ok (i := 185) (v := (-1)) (by decide +kernel) (jn_in 852 (by decide +kernel) rfl), jn_ldc2_mo (-1)⟩ : jn_GEm jn_G0 jn_me134 78 (.inl (jn_ldc2 (-1)))) <|
  jn_cons (⟨jn_goto_ok (t := 85) (off := 4) (by decide +kernel) (by decide), jn_goto_mo 85⟩ : jn_GEm jn_G0 jn_me134 81 (.inl (jn_goto 85))) <|
  jn_cons (⟨jn_lconst_ok (n := 1) (v := 1) (by decide +kernel) (by decide), jn_lconst_mo 1⟩ : jn_GEm jn_G0 jn_me134 84 (.inl (jn_lconst 1))) <|
  jn_cons (⟨jn_aload_n_ok (i := 0) (k := 0) (by decide +kernel) rfl, jn_aload_n_mo 0⟩ : jn_GEm jn_G0 jn_me134 85 (.inl (jn_aload_n 0))) <| jn_nil
theorem jn_o134_2 : ∀ q ∈ jn_c134_2, jn_GEm jn_G0 jn_me134 q.1 q.2 :=
  jn_cons (⟨jn_getf_ok (ci := 7) (k := 5) (i := 19) (N := 22) (C := RX7) (T := TX7) (by decide +kernel) rfl (by decide) jn_u7 (jn_in 620 (by decide +kernel) rfl), jn_getf_mo 7 5⟩ : jn_GEm jn_G0 jn_me134 86 (.inl (jn_getf 7 5))) <|
  jn_cons (⟨jn_bipush_ok (n := 6) (v := 6) (by decide +kernel) (by decide), jn_bipush_mo 6⟩ : jn_GEm jn_G0 jn_me134 89 (.inl (jn_bipush 6))) <|
  jn_cons (⟨jn_iload_n_ok (i := 2) (k := 2) (by decide +kernel) rfl, jn_iload_n_mo 2⟩ : jn_GEm jn_G0 jn_me134 91 (.inl (jn_iload_n 2))) <|
  jn_cons (⟨jn_imul_ok (by decide +kernel), jn_imul_mo⟩ : jn_GEm jn_G0 jn_me134 92 (.inl jn_imul)) <|
  jn_cons (⟨jn_iload_ok (i := 4) (by decide +kernel), jn_iload_mo 4⟩ : jn_GEm jn_G0 jn_me134 93 (.inl (jn_iload 4))) <|
  jn_cons (⟨jn_iadd_ok (by decide +kernel), jn_iadd_mo⟩ : jn_GEm jn_G0 jn_me134 95 (.inl jn_iadd)) <|
  jn_cons (⟨jn_iaload_ok (by decide +kernel), jn_iaload_mo⟩ : jn_GEm jn_G0 jn_me134 96 (.inl jn_iaload)) <|
  jn_cons (⟨jn_i2l_ok (by decide +kernel), jn_i2l_mo⟩ : jn_GEm jn_G0 jn_me134 97 (.inl jn_i2l)) <|
  jn_cons (⟨jn_lmul_ok (by decide +kernel), jn_lmul_mo⟩ : jn_GEm jn_G0 jn_me134 98 (.inl jn_lmul)) <|
  jn_cons (⟨jn_ladd_ok (by decide +kernel), jn_ladd_mo⟩ : jn_GEm jn_G0 jn_me134 99 (.inl jn_ladd)) <|
  jn_cons (⟨jn_lastore_ok (by decide +kernel), jn_lastore_mo⟩ : jn_GEm jn_G0 jn_me134 100 (.inl jn_lastore)) <|
  jn_cons (⟨jn_iinc_ok (i := 4) (n := 1) (by decide +kernel), jn_iinc_mo 4 1⟩ : jn_GEm jn_G0 jn_me134 101 (.inl (jn_iinc 4 1))) <|
  jn_cons (⟨jn_goto_ok (t := 48) (off := -56) (by decide +kernel) (by decide), jn_goto_mo 48⟩ : jn_GEm jn_G0 jn_me134 104 (.inl (jn_goto 48))) <|
  jn_cons (⟨jn_aload_n_ok (i := 0) (k := 0) (by decide +kernel) rfl, jn_aload_n_mo 0⟩ : jn_GEm jn_G0 jn_me134 107 (.inl (jn_aload_n 0))) <|
  jn_cons (⟨jn_aload_n_ok (i := 0) (k := 0) (by decide +kernel) rfl, jn_aload_n_mo 0⟩ : jn_GEm jn_G0 jn_me134 108 (.inl (jn_aload_n 0))) <|
  jn_cons (⟨jn_getf_ok (ci := 7) (k := 4) (i := 16) (N := 22) (C := RX7) (T := TX7) (by decide +kernel) rfl (by decide) jn_u7 (jn_in 619 (by decide +kernel) rfl), jn_getf_mo 7 4⟩ : jn_GEm jn_G0 jn_me134 109 (.inl (jn_getf 7 4))) <|
  jn_cons (⟨jn_iload_n_ok (i := 1) (k := 1) (by decide +kernel) rfl, jn_iload_n_mo 1⟩ : jn_GEm jn_G0 jn_me134 112 (.inl (jn_iload_n 1))) <|
  jn_cons (⟨jn_iaload_ok (by decide +kernel), jn_iaload_mo⟩ : jn_GEm jn_G0 jn_me134 113 (.inl jn_iaload)) <|
  jn_cons (jn_gc_of jn_G0_132 (jn_callV (i := 182) (na := 1) (ci := 7) (q := (RX7, TX7, 22)) (by decide +kernel) rfl (jn_in 846 (by decide +kernel) rfl) (jn_in 843 (by decide +kernel) rfl) (jn_in 845 (by decide +kernel) rfl) (jn_in 39 (by decide +kernel) rfl) (jn_in 60 (by decide +kernel) rfl) ⟨by decide, by decide, by decide +kernel⟩) : jn_GEm jn_G0 jn_me134 114 (.inr (.inl (132, 9, 2)))) <|
  jn_cons (⟨(by decide +kernel), rfl⟩ : jn_GEm jn_G0 jn_me134 117 (.inr (.inr 1))) <| jn_nil
theorem jn_ok134 : jn_GM jn_G0 134 := jn_GM_of jn_G0_134 rfl rfl (by decide +kernel) (by decide) (jn_appd jn_o134_0 (jn_appd jn_o134_1 (jn_o134_2)))
theorem jn_o135_0 : ∀ q ∈ jn_c135_0, jn_GEm jn_G0 jn_me135 q.1 q.2 :=
  jn_cons (⟨jn_aload_n_ok (i := 0) (k := 0) (by decide +kernel) rfl, jn_aload_n_mo 0⟩ : jn_GEm jn_G0 jn_me135 0 (.inl (jn_aload_n 0))) <|
  jn_cons (⟨jn_getf_ok (ci := 7) (k := 3) (i := 84) (N := 22) (C := RX7) (T := TX7) (by decide +kernel) rfl (by decide) jn_u7 (jn_in 618 (by decide +kernel) rfl), jn_getf_mo 7 3⟩ : jn_GEm jn_G0 jn_me135 1 (.inl (jn_getf 7 3))) <|
  jn_cons (⟨jn_ifne_ok (t := 14) (off := 10) (by decide +kernel) (by decide), jn_ifne_mo 14⟩ : jn_GEm jn_G0 jn_me135 4 (.inl (jn_ifne 14))) <|
  jn_cons (⟨jn_aload_n_ok (i := 0) (k := 0) (by decide +kernel) rfl, jn_aload_n_mo 0⟩ : jn_GEm jn_G0 jn_me135 7 (.inl (jn_aload_n 0))) <|
  jn_cons (⟨jn_bipush_ok (n := (-2)) (v := (-2)) (by decide +kernel) (by decide), jn_bipush_mo (-2)⟩ : jn_GEm jn_G0 jn_me135 8 (.inl (jn_bipush (-2)))) <|
  jn_cons (jn_gc_of jn_G0_95 (jn_callV (i := 73) (na := 1) (ci := 7) (q := (RX7, TX7, 22)) (by decide +kernel) rfl (jn_in 694 (by decide +kernel) rfl) (jn_in 691 (by decide +kernel) rfl) (jn_in 693 (by decide +kernel) rfl) (jn_in 19 (by decide +kernel) rfl) (jn_in 60 (by decide +kernel) rfl) ⟨by decide, by decide, by decide +kernel⟩) : jn_GEm jn_G0 jn_me135 10 (.inr (.inl (95, 9, 2)))) <|
  jn_cons (⟨(by decide +kernel), rfl⟩ : jn_GEm jn_G0 jn_me135 13 (.inr (.inr 1))) <|
  jn_cons (⟨jn_aload_n_ok (i := 0) (k := 0) (by decide +kernel) rfl, jn_aload_n_mo 0⟩ : jn_GEm jn_G0 jn_me135 14 (.inl (jn_aload_n 0))) <|
  jn_cons (⟨jn_dup_ok (by decide +kernel), jn_dup_mo⟩ : jn_GEm jn_G0 jn_me135 15 (.inl jn_dup)) <|
  jn_cons (⟨jn_getf_ok (ci := 7) (k := 3) (i := 84) (N := 22) (C := RX7) (T := TX7) (by decide +kernel) rfl (by decide) jn_u7 (jn_in 618 (by decide +kernel) rfl), jn_getf_mo 7 3⟩ : jn_GEm jn_G0 jn_me135 16 (.inl (jn_getf 7 3))) <|
  jn_cons (⟨jn_iconst_ok (by decide +kernel), jn_iconst_mo 1⟩ : jn_GEm jn_G0 jn_me135 19 (.inl (jn_iconst 1))) <|
  jn_cons (⟨jn_isub_ok (by decide +kernel), jn_isub_mo⟩ : jn_GEm jn_G0 jn_me135 20 (.inl jn_isub)) <|
  jn_cons (⟨jn_putf_ok (ci := 7) (k := 3) (κ := 0) (i := 84) (N := 22) (C := RX7) (T := TX7) (ty0 := tyX7) (ty := .int) (by decide +kernel) rfl (by decide) jn_u7 (jn_in 618 (by decide +kernel) rfl) tyX7_ok nmX7 rfl (by decide +kernel) jn_po_int, jn_putf_mo 7 3 0⟩ : jn_GEm jn_G0 jn_me135 21 (.inl (jn_putf 7 3 0))) <|
  jn_cons (⟨jn_aload_n_ok (i := 0) (k := 0) (by decide +kernel) rfl, jn_aload_n_mo 0⟩ : jn_GEm jn_G0 jn_me135 24 (.inl (jn_aload_n 0))) <|
  jn_cons (⟨jn_getf_ok (ci := 7) (k := 3) (i := 84) (N := 22) (C := RX7) (T := TX7) (by decide +kernel) rfl (by decide) jn_u7 (jn_in 618 (by decide +kernel) rfl), jn_getf_mo 7 3⟩ : jn_GEm jn_G0 jn_me135 25 (.inl (jn_getf 7 3))) <|
  jn_cons (⟨(by decide +kernel), rfl⟩ : jn_GEm jn_G0 jn_me135 28 (.inr (.inr 1))) <| jn_nil
theorem jn_ok135 : jn_GM jn_G0 135 := jn_GM_of jn_G0_135 rfl rfl (by decide +kernel) (by decide) (jn_o135_0)
theorem jn_o136_0 : ∀ q ∈ jn_c136_0, jn_GEm jn_G0 jn_me136 q.1 q.2 :=
  jn_cons (⟨jn_aload_n_ok (i := 0) (k := 0) (by decide +kernel) rfl, jn_aload_n_mo 0⟩ : jn_GEm jn_G0 jn_me136 0 (.inl (jn_aload_n 0))) <|
  jn_cons (⟨jn_iload_n_ok (i := 1) (k := 1) (by decide +kernel) rfl, jn_iload_n_mo 1⟩ : jn_GEm jn_G0 jn_me136 1 (.inl (jn_iload_n 1))) <|
  jn_cons (⟨jn_iload_n_ok (i := 2) (k := 2) (by decide +kernel) rfl, jn_iload_n_mo 2⟩ : jn_GEm jn_G0 jn_me136 2 (.inl (jn_iload_n 2))) <|
  jn_cons (jn_gc_of jn_G0_121 (jn_callV (i := 150) (na := 2) (ci := 7) (q := (RX7, TX7, 22)) (by decide +kernel) rfl (jn_in 792 (by decide +kernel) rfl) (jn_in 789 (by decide +kernel) rfl) (jn_in 791 (by decide +kernel) rfl) (jn_in 33 (by decide +kernel) rfl) (jn_in 60 (by decide +kernel) rfl) ⟨by decide, by decide, by decide +kernel⟩) : jn_GEm jn_G0 jn_me136 3 (.inr (.inl (121, 9, 3)))) <|
  jn_cons (⟨jn_ifne_ok (t := 16) (off := 10) (by decide +kernel) (by decide), jn_ifne_mo 16⟩ : jn_GEm jn_G0 jn_me136 6 (.inl (jn_ifne 16))) <|
  jn_cons (⟨jn_aload_n_ok (i := 0) (k := 0) (by decide +kernel) rfl, jn_aload_n_mo 0⟩ : jn_GEm jn_G0 jn_me136 9 (.inl (jn_aload_n 0))) <|
  jn_cons (⟨jn_bipush_ok (n := (-3)) (v := (-3)) (by decide +kernel) (by decide), jn_bipush_mo (-3)⟩ : jn_GEm jn_G0 jn_me136 10 (.inl (jn_bipush (-3)))) <|
  jn_cons (jn_gc_of jn_G0_95 (jn_callV (i := 73) (na := 1) (ci := 7) (q := (RX7, TX7, 22)) (by decide +kernel) rfl (jn_in 694 (by decide +kernel) rfl) (jn_in 691 (by decide +kernel) rfl) (jn_in 693 (by decide +kernel) rfl) (jn_in 19 (by decide +kernel) rfl) (jn_in 60 (by decide +kernel) rfl) ⟨by decide, by decide, by decide +kernel⟩) : jn_GEm jn_G0 jn_me136 12 (.inr (.inl (95, 9, 2)))) <|
  jn_cons (⟨(by decide +kernel), rfl⟩ : jn_GEm jn_G0 jn_me136 15 (.inr (.inr 1))) <|
  jn_cons (⟨jn_aload_n_ok (i := 0) (k := 0) (by decide +kernel) rfl, jn_aload_n_mo 0⟩ : jn_GEm jn_G0 jn_me136 16 (.inl (jn_aload_n 0))) <|
  jn_cons (⟨jn_getf_ok (ci := 7) (k := 4) (i := 16) (N := 22) (C := RX7) (T := TX7) (by decide +kernel) rfl (by decide) jn_u7 (jn_in 619 (by decide +kernel) rfl), jn_getf_mo 7 4⟩ : jn_GEm jn_G0 jn_me136 17 (.inl (jn_getf 7 4))) <|
  jn_cons (⟨jn_iload_n_ok (i := 1) (k := 1) (by decide +kernel) rfl, jn_iload_n_mo 1⟩ : jn_GEm jn_G0 jn_me136 20 (.inl (jn_iload_n 1))) <|
  jn_cons (⟨jn_iaload_ok (by decide +kernel), jn_iaload_mo⟩ : jn_GEm jn_G0 jn_me136 21 (.inl jn_iaload)) <|
  jn_cons (⟨jn_istore_n_ok (i := 3) (k := 3) (by decide +kernel) rfl, jn_istore_n_mo 3⟩ : jn_GEm jn_G0 jn_me136 22 (.inl (jn_istore_n 3))) <|
  jn_cons (⟨jn_iconst_ok (by decide +kernel), jn_iconst_mo 1⟩ : jn_GEm jn_G0 jn_me136 23 (.inl (jn_iconst 1))) <|
  jn_cons (⟨jn_iload_n_ok (i := 2) (k := 2) (by decide +kernel) rfl, jn_iload_n_mo 2⟩ : jn_GEm jn_G0 jn_me136 24 (.inl (jn_iload_n 2))) <|
  jn_cons (⟨jn_ishl_ok (by decide +kernel), jn_ishl_mo⟩ : jn_GEm jn_G0 jn_me136 25 (.inl jn_ishl)) <|
  jn_cons (⟨jn_istore_ok (i := 4) (by decide +kernel), jn_istore_mo 4⟩ : jn_GEm jn_G0 jn_me136 26 (.inl (jn_istore 4))) <|
  jn_cons (⟨jn_iconst_ok (by decide +kernel), jn_iconst_mo 0⟩ : jn_GEm jn_G0 jn_me136 28 (.inl (jn_iconst 0))) <|
  jn_cons (⟨jn_istore_ok (i := 5) (by decide +kernel), jn_istore_mo 5⟩ : jn_GEm jn_G0 jn_me136 29 (.inl (jn_istore 5))) <|
  jn_cons (⟨jn_iload_ok (i := 5) (by decide +kernel), jn_iload_mo 5⟩ : jn_GEm jn_G0 jn_me136 31 (.inl (jn_iload 5))) <|
  jn_cons (⟨jn_bipush_ok (n := 6) (v := 6) (by decide +kernel) (by decide), jn_bipush_mo 6⟩ : jn_GEm jn_G0 jn_me136 33 (.inl (jn_bipush 6))) <|
  jn_cons (⟨jn_icge_ok (t := 146) (off := 111) (by decide +kernel) (by decide), jn_icge_mo 146⟩ : jn_GEm jn_G0 jn_me136 35 (.inl (jn_icge 146))) <|
  jn_cons (⟨jn_iconst_ok (by decide +kernel), jn_iconst_mo 0⟩ : jn_GEm jn_G0 jn_me136 38 (.inl (jn_iconst 0))) <| jn_nil
theorem jn_o136_1 : ∀ q ∈ jn_c136_1, jn_GEm jn_G0 jn_me136 q.1 q.2 :=
  jn_cons (⟨jn_istore_ok (i := 6) (by decide +kernel), jn_istore_mo 6⟩ : jn_GEm jn_G0 jn_me136 39 (.inl (jn_istore 6))) <|
  jn_cons (⟨jn_iload_ok (i := 6) (by decide +kernel), jn_iload_mo 6⟩ : jn_GEm jn_G0 jn_me136 41 (.inl (jn_iload 6))) <|
  jn_cons (⟨jn_aload_n_ok (i := 0) (k := 0) (by decide +kernel) rfl, jn_aload_n_mo 0⟩ : jn_GEm jn_G0 jn_me136 43 (.inl (jn_aload_n 0))) <|
  jn_cons (⟨jn_getf_ok (ci := 7) (k := 0) (i := 7) (N := 22) (C := RX7) (T := TX7) (by decide +kernel) rfl (by decide) jn_u7 (jn_in 615 (by decide +kernel) rfl), jn_getf_mo 7 0⟩ : jn_GEm jn_G0 jn_me136 44 (.inl (jn_getf 7 0))) <|
  jn_cons (⟨jn_iload_n_ok (i := 3) (k := 3) (by decide +kernel) rfl, jn_iload_n_mo 3⟩ : jn_GEm jn_G0 jn_me136 47 (.inl (jn_iload_n 3))) <|
  jn_cons (⟨jn_iaload_ok (by decide +kernel), jn_iaload_mo⟩ : jn_GEm jn_G0 jn_me136 48 (.inl jn_iaload)) <|
  jn_cons (⟨jn_icge_ok (t := 140) (off := 91) (by decide +kernel) (by decide), jn_icge_mo 140⟩ : jn_GEm jn_G0 jn_me136 49 (.inl (jn_icge 140))) <|
  jn_cons (⟨jn_iconst_ok (by decide +kernel), jn_iconst_mo 0⟩ : jn_GEm jn_G0 jn_me136 52 (.inl (jn_iconst 0))) <|
  jn_cons (⟨jn_istore_ok (i := 7) (by decide +kernel), jn_istore_mo 7⟩ : jn_GEm jn_G0 jn_me136 53 (.inl (jn_istore 7))) <|
  jn_cons (⟨jn_iconst_ok (by decide +kernel), jn_iconst_mo 0⟩ : jn_GEm jn_G0 jn_me136 55 (.inl (jn_iconst 0))) <|
  jn_cons (⟨jn_istore_ok (i := 8) (by decide +kernel), jn_istore_mo 8⟩ : jn_GEm jn_G0 jn_me136 56 (.inl (jn_istore 8))) <|
  jn_cons (⟨jn_iload_ok (i := 8) (by decide +kernel), jn_iload_mo 8⟩ : jn_GEm jn_G0 jn_me136 58 (.inl (jn_iload 8))) <|
  jn_cons (⟨jn_aload_n_ok (i := 0) (k := 0) (by decide +kernel) rfl, jn_aload_n_mo 0⟩ : jn_GEm jn_G0 jn_me136 60 (.inl (jn_aload_n 0))) <|
  jn_cons (⟨jn_getf_ok (ci := 7) (k := 0) (i := 7) (N := 22) (C := RX7) (T := TX7) (by decide +kernel) rfl (by decide) jn_u7 (jn_in 615 (by decide +kernel) rfl), jn_getf_mo 7 0⟩ : jn_GEm jn_G0 jn_me136 61 (.inl (jn_getf 7 0))) <|
  jn_cons (⟨jn_iload_n_ok (i := 3) (k := 3) (by decide +kernel) rfl, jn_iload_n_mo 3⟩ : jn_GEm jn_G0 jn_me136 64 (.inl (jn_iload_n 3))) <|
  jn_cons (⟨jn_iaload_ok (by decide +kernel), jn_iaload_mo⟩ : jn_GEm jn_G0 jn_me136 65 (.inl jn_iaload)) <|
  jn_cons (⟨jn_icge_ok (t := 108) (off := 42) (by decide +kernel) (by decide), jn_icge_mo 108⟩ : jn_GEm jn_G0 jn_me136 66 (.inl (jn_icge 108))) <|
  jn_cons (⟨jn_iload_ok (i := 7) (by decide +kernel), jn_iload_mo 7⟩ : jn_GEm jn_G0 jn_me136 69 (.inl (jn_iload 7))) <|
  jn_cons (⟨jn_iload_ok (i := 4) (by decide +kernel), jn_iload_mo 4⟩ : jn_GEm jn_G0 jn_me136 71 (.inl (jn_iload 4))) <|
  jn_cons (⟨jn_iload_ok (i := 8) (by decide +kernel), jn_iload_mo 8⟩ : jn_GEm jn_G0 jn_me136 73 (.inl (jn_iload 8))) <|
  jn_cons (⟨jn_ishr_ok (by decide +kernel), jn_ishr_mo⟩ : jn_GEm jn_G0 jn_me136 75 (.inl jn_ishr)) <|
  jn_cons (⟨jn_iconst_ok (by decide +kernel), jn_iconst_mo 1⟩ : jn_GEm jn_G0 jn_me136 76 (.inl (jn_iconst 1))) <|
  jn_cons (⟨jn_iand_ok (by decide +kernel), jn_iand_mo⟩ : jn_GEm jn_G0 jn_me136 77 (.inl jn_iand)) <|
  jn_cons (⟨jn_iconst_ok (by decide +kernel), jn_iconst_mo 1⟩ : jn_GEm jn_G0 jn_me136 78 (.inl (jn_iconst 1))) <| jn_nil
theorem jn_o136_2 : ∀ q ∈ jn_c136_2, jn_GEm jn_G0 jn_me136 q.1 q.2 :=
  jn_cons (⟨jn_icne_ok (t := 98) (off := 19) (by decide +kernel) (by decide), jn_icne_mo 98⟩ : jn_GEm jn_G0 jn_me136 79 (.inl (jn_icne 98))) <|
  jn_cons (⟨jn_aload_n_ok (i := 0) (k := 0) (by decide +kernel) rfl, jn_aload_n_mo 0⟩ : jn_GEm jn_G0 jn_me136 82 (.inl (jn_aload_n 0))) <|
  jn_cons (⟨jn_getf_ok (ci := 7) (k := 1) (i := 13) (N := 22) (C := RX7) (T := TX7) (by decide +kernel) rfl (by decide) jn_u7 (jn_in 616 (by decide +kernel) rfl), jn_getf_mo 7 1⟩ : jn_GEm jn_G0 jn_me136 83 (.inl (jn_getf 7 1))) <|
  jn_cons (⟨jn_iload_n_ok (i := 3) (k := 3) (by decide +kernel) rfl, jn_iload_n_mo 3⟩ : jn_GEm jn_G0 jn_me136 86 (.inl (jn_iload_n 3))) <|
  jn_cons (⟨jn_iload_ok (i := 6) (by decide +kernel), jn_iload_mo 6⟩ : jn_GEm jn_G0 jn_me136 87 (.inl (jn_iload 6))) <|
  jn_cons (⟨jn_iload_ok (i := 8) (by decide +kernel), jn_iload_mo 8⟩ : jn_GEm jn_G0 jn_me136 89 (.inl (jn_iload 8))) <|
  jn_cons (jn_gc_of jn_G0_100 (jn_callS (i := 99) (na := 3) (by decide +kernel) (jn_in 710 (by decide +kernel) rfl) (jn_in 708 (by decide +kernel) rfl) (jn_in 709 (by decide +kernel) rfl) (jn_in 60 (by decide +kernel) rfl) ⟨by decide, by decide, by decide +kernel⟩) : jn_GEm jn_G0 jn_me136 91 (.inr (.inl (100, 0, 3)))) <|
  jn_cons (⟨jn_iaload_ok (by decide +kernel), jn_iaload_mo⟩ : jn_GEm jn_G0 jn_me136 94 (.inl jn_iaload)) <|
  jn_cons (⟨jn_goto_ok (t := 99) (off := 4) (by decide +kernel) (by decide), jn_goto_mo 99⟩ : jn_GEm jn_G0 jn_me136 95 (.inl (jn_goto 99))) <|
  jn_cons (⟨jn_iconst_ok (by decide +kernel), jn_iconst_mo 0⟩ : jn_GEm jn_G0 jn_me136 98 (.inl (jn_iconst 0))) <|
  jn_cons (⟨jn_iadd_ok (by decide +kernel), jn_iadd_mo⟩ : jn_GEm jn_G0 jn_me136 99 (.inl jn_iadd)) <|
  jn_cons (⟨jn_istore_ok (i := 7) (by decide +kernel), jn_istore_mo 7⟩ : jn_GEm jn_G0 jn_me136 100 (.inl (jn_istore 7))) <|
  jn_cons (⟨jn_iinc_ok (i := 8) (n := 1) (by decide +kernel), jn_iinc_mo 8 1⟩ : jn_GEm jn_G0 jn_me136 102 (.inl (jn_iinc 8 1))) <|
  jn_cons (⟨jn_goto_ok (t := 58) (off := -47) (by decide +kernel) (by decide), jn_goto_mo 58⟩ : jn_GEm jn_G0 jn_me136 105 (.inl (jn_goto 58))) <|
  jn_cons (⟨jn_iload_ok (i := 7) (by decide +kernel), jn_iload_mo 7⟩ : jn_GEm jn_G0 jn_me136 108 (.inl (jn_iload 7))) <|
  jn_cons (⟨jn_aload_n_ok (i := 0) (k := 0) (by decide +kernel) rfl, jn_aload_n_mo 0⟩ : jn_GEm jn_G0 jn_me136 110 (.inl (jn_aload_n 0))) <|
  jn_cons (⟨jn_getf_ok (ci := 7) (k := 5) (i := 19) (N := 22) (C := RX7) (T := TX7) (by decide +kernel) rfl (by decide) jn_u7 (jn_in 620 (by decide +kernel) rfl), jn_getf_mo 7 5⟩ : jn_GEm jn_G0 jn_me136 111 (.inl (jn_getf 7 5))) <|
  jn_cons (⟨jn_bipush_ok (n := 6) (v := 6) (by decide +kernel) (by decide), jn_bipush_mo 6⟩ : jn_GEm jn_G0 jn_me136 114 (.inl (jn_bipush 6))) <|
  jn_cons (⟨jn_iload_n_ok (i := 1) (k := 1) (by decide +kernel) rfl, jn_iload_n_mo 1⟩ : jn_GEm jn_G0 jn_me136 116 (.inl (jn_iload_n 1))) <|
  jn_cons (⟨jn_imul_ok (by decide +kernel), jn_imul_mo⟩ : jn_GEm jn_G0 jn_me136 117 (.inl jn_imul)) <|
  jn_cons (⟨jn_iload_ok (i := 6) (by decide +kernel), jn_iload_mo 6⟩ : jn_GEm jn_G0 jn_me136 118 (.inl (jn_iload 6))) <|
  jn_cons (⟨jn_iadd_ok (by decide +kernel), jn_iadd_mo⟩ : jn_GEm jn_G0 jn_me136 120 (.inl jn_iadd)) <|
  jn_cons (⟨jn_iaload_ok (by decide +kernel), jn_iaload_mo⟩ : jn_GEm jn_G0 jn_me136 121 (.inl jn_iaload)) <|
  jn_cons (⟨jn_icle_ok (t := 134) (off := 12) (by decide +kernel) (by decide), jn_icle_mo 134⟩ : jn_GEm jn_G0 jn_me136 122 (.inl (jn_icle 134))) <| jn_nil
theorem jn_o136_3 : ∀ q ∈ jn_c136_3, jn_GEm jn_G0 jn_me136 q.1 q.2 :=
  jn_cons (⟨jn_iload_ok (i := 4) (by decide +kernel), jn_iload_mo 4⟩ : jn_GEm jn_G0 jn_me136 125 (.inl (jn_iload 4))) <|
  jn_cons (⟨jn_iconst_ok (by decide +kernel), jn_iconst_mo 1⟩ : jn_GEm jn_G0 jn_me136 127 (.inl (jn_iconst 1))) <|
  jn_cons (⟨jn_iload_ok (i := 6) (by decide +kernel), jn_iload_mo 6⟩ : jn_GEm jn_G0 jn_me136 128 (.inl (jn_iload 6))) <|
  jn_cons (⟨jn_ishl_ok (by decide +kernel), jn_ishl_mo⟩ : jn_GEm jn_G0 jn_me136 130 (.inl jn_ishl)) <|
  jn_cons (⟨jn_ior_ok (by decide +kernel), jn_ior_mo⟩ : jn_GEm jn_G0 jn_me136 131 (.inl jn_ior)) <|
  jn_cons (⟨jn_istore_ok (i := 4) (by decide +kernel), jn_istore_mo 4⟩ : jn_GEm jn_G0 jn_me136 132 (.inl (jn_istore 4))) <|
  jn_cons (⟨jn_iinc_ok (i := 6) (n := 1) (by decide +kernel), jn_iinc_mo 6 1⟩ : jn_GEm jn_G0 jn_me136 134 (.inl (jn_iinc 6 1))) <|
  jn_cons (⟨jn_goto_ok (t := 41) (off := -96) (by decide +kernel) (by decide), jn_goto_mo 41⟩ : jn_GEm jn_G0 jn_me136 137 (.inl (jn_goto 41))) <|
  jn_cons (⟨jn_iinc_ok (i := 5) (n := 1) (by decide +kernel), jn_iinc_mo 5 1⟩ : jn_GEm jn_G0 jn_me136 140 (.inl (jn_iinc 5 1))) <|
  jn_cons (⟨jn_goto_ok (t := 31) (off := -112) (by decide +kernel) (by decide), jn_goto_mo 31⟩ : jn_GEm jn_G0 jn_me136 143 (.inl (jn_goto 31))) <|
  jn_cons (⟨jn_iload_ok (i := 4) (by decide +kernel), jn_iload_mo 4⟩ : jn_GEm jn_G0 jn_me136 146 (.inl (jn_iload 4))) <|
  jn_cons (⟨(by decide +kernel), rfl⟩ : jn_GEm jn_G0 jn_me136 148 (.inr (.inr 1))) <| jn_nil
theorem jn_ok136 : jn_GM jn_G0 136 := jn_GM_of jn_G0_136 rfl rfl (by decide +kernel) (by decide) (jn_appd jn_o136_0 (jn_appd jn_o136_1 (jn_appd jn_o136_2 (jn_o136_3))))
