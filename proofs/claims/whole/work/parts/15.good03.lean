theorem jn_o85_0 : ∀ q ∈ jn_c85_0, jn_GEm jn_G0 jn_me85 q.1 q.2 :=
  jn_cons (⟨jn_aload_n_ok (i := 0) (k := 0) (by decide +kernel) rfl, jn_aload_n_mo 0⟩ : jn_GEm jn_G0 jn_me85 0 (.inl (jn_aload_n 0))) <|
  jn_cons (⟨jn_ifnonnull_ok (t := 7) (off := 6) (by decide +kernel) (by decide), jn_ifnonnull_mo 7⟩ : jn_GEm jn_G0 jn_me85 1 (.inl (jn_ifnonnull 7))) <|
  jn_cons (⟨jn_bipush_ok (n := (-3)) (v := (-3)) (by decide +kernel) (by decide), jn_bipush_mo (-3)⟩ : jn_GEm jn_G0 jn_me85 4 (.inl (jn_bipush (-3)))) <|
  jn_cons (⟨(by decide +kernel), rfl⟩ : jn_GEm jn_G0 jn_me85 6 (.inr (.inr 1))) <|
  jn_cons (⟨jn_aload_n_ok (i := 0) (k := 0) (by decide +kernel) rfl, jn_aload_n_mo 0⟩ : jn_GEm jn_G0 jn_me85 7 (.inl (jn_aload_n 0))) <|
  jn_cons (jn_gc_of jn_G0_20 (jn_callV (i := 106) (na := 0) (ci := 2) (q := (RX2, TX2, 3)) (by decide +kernel) rfl (jn_in 251 (by decide +kernel) rfl) (jn_in 278 (by decide +kernel) rfl) (jn_in 249 (by decide +kernel) rfl) (jn_in 250 (by decide +kernel) rfl) (jn_in 57 (by decide +kernel) rfl) ⟨by decide, by decide, by decide +kernel⟩) : jn_GEm jn_G0 jn_me85 8 (.inr (.inl (20, 4, 1)))) <|
  jn_cons (⟨jn_ifne_ok (t := 17) (off := 6) (by decide +kernel) (by decide), jn_ifne_mo 17⟩ : jn_GEm jn_G0 jn_me85 11 (.inl (jn_ifne 17))) <|
  jn_cons (⟨jn_bipush_ok (n := (-5)) (v := (-5)) (by decide +kernel) (by decide), jn_bipush_mo (-5)⟩ : jn_GEm jn_G0 jn_me85 14 (.inl (jn_bipush (-5)))) <|
  jn_cons (⟨(by decide +kernel), rfl⟩ : jn_GEm jn_G0 jn_me85 16 (.inr (.inr 1))) <|
  jn_cons (⟨jn_aload_n_ok (i := 0) (k := 0) (by decide +kernel) rfl, jn_aload_n_mo 0⟩ : jn_GEm jn_G0 jn_me85 17 (.inl (jn_aload_n 0))) <|
  jn_cons (jn_gc_of jn_G0_19 (jn_callV (i := 103) (na := 0) (ci := 2) (q := (RX2, TX2, 3)) (by decide +kernel) rfl (jn_in 263 (by decide +kernel) rfl) (jn_in 277 (by decide +kernel) rfl) (jn_in 261 (by decide +kernel) rfl) (jn_in 262 (by decide +kernel) rfl) (jn_in 57 (by decide +kernel) rfl) ⟨by decide, by decide, by decide +kernel⟩) : jn_GEm jn_G0 jn_me85 18 (.inr (.inl (19, 4, 1)))) <|
  jn_cons (⟨jn_iconst_ok (by decide +kernel), jn_iconst_mo 4⟩ : jn_GEm jn_G0 jn_me85 21 (.inl (jn_iconst 4))) <|
  jn_cons (⟨jn_icle_ok (t := 30) (off := 8) (by decide +kernel) (by decide), jn_icle_mo 30⟩ : jn_GEm jn_G0 jn_me85 22 (.inl (jn_icle 30))) <|
  jn_cons (⟨jn_bipush_ok (n := (-7)) (v := (-7)) (by decide +kernel) (by decide), jn_bipush_mo (-7)⟩ : jn_GEm jn_G0 jn_me85 25 (.inl (jn_bipush (-7)))) <|
  jn_cons (⟨jn_goto_ok (t := 31) (off := 4) (by decide +kernel) (by decide), jn_goto_mo 31⟩ : jn_GEm jn_G0 jn_me85 27 (.inl (jn_goto 31))) <|
  jn_cons (⟨jn_iconst_ok (by decide +kernel), jn_iconst_mo 0⟩ : jn_GEm jn_G0 jn_me85 30 (.inl (jn_iconst 0))) <|
  jn_cons (⟨(by decide +kernel), rfl⟩ : jn_GEm jn_G0 jn_me85 31 (.inr (.inr 1))) <| jn_nil
theorem jn_ok85 : jn_GM jn_G0 85 := jn_GM_of jn_G0_85 rfl rfl (by decide +kernel) (by decide) (jn_o85_0)
theorem jn_o86_0 : ∀ q ∈ jn_c86_0, jn_GEm jn_G0 jn_me86 q.1 q.2 :=
  jn_cons (⟨jn_aload_n_ok (i := 0) (k := 0) (by decide +kernel) rfl, jn_aload_n_mo 0⟩ : jn_GEm jn_G0 jn_me86 0 (.inl (jn_aload_n 0))) <|
  jn_cons (⟨jn_ifnull_ok (t := 8) (off := 7) (by decide +kernel) (by decide), jn_ifnull_mo 8⟩ : jn_GEm jn_G0 jn_me86 1 (.inl (jn_ifnull 8))) <|
  jn_cons (⟨jn_aload_n_ok (i := 1) (k := 1) (by decide +kernel) rfl, jn_aload_n_mo 1⟩ : jn_GEm jn_G0 jn_me86 4 (.inl (jn_aload_n 1))) <|
  jn_cons (⟨jn_ifnonnull_ok (t := 11) (off := 6) (by decide +kernel) (by decide), jn_ifnonnull_mo 11⟩ : jn_GEm jn_G0 jn_me86 5 (.inl (jn_ifnonnull 11))) <|
  jn_cons (⟨jn_bipush_ok (n := (-3)) (v := (-3)) (by decide +kernel) (by decide), jn_bipush_mo (-3)⟩ : jn_GEm jn_G0 jn_me86 8 (.inl (jn_bipush (-3)))) <|
  jn_cons (⟨(by decide +kernel), rfl⟩ : jn_GEm jn_G0 jn_me86 10 (.inr (.inr 1))) <|
  jn_cons (⟨jn_aload_n_ok (i := 0) (k := 0) (by decide +kernel) rfl, jn_aload_n_mo 0⟩ : jn_GEm jn_G0 jn_me86 11 (.inl (jn_aload_n 0))) <|
  jn_cons (⟨jn_getf_ok (ci := 0) (k := 0) (i := 157) (N := 2) (C := RX0) (T := TX0) (by decide +kernel) rfl (by decide) jn_u0 (jn_in 429 (by decide +kernel) rfl), jn_getf_mo 0 0⟩ : jn_GEm jn_G0 jn_me86 12 (.inl (jn_getf 0 0))) <|
  jn_cons (⟨jn_getf_ok (ci := 2) (k := 0) (i := 185) (N := 3) (C := RX2) (T := TX2) (by decide +kernel) rfl (by decide) jn_u2 (jn_in 102 (by decide +kernel) rfl), jn_getf_mo 2 0⟩ : jn_GEm jn_G0 jn_me86 15 (.inl (jn_getf 2 0))) <|
  jn_cons (⟨jn_aload_n_ok (i := 1) (k := 1) (by decide +kernel) rfl, jn_aload_n_mo 1⟩ : jn_GEm jn_G0 jn_me86 18 (.inl (jn_aload_n 1))) <|
  jn_cons (⟨jn_getf_ok (ci := 0) (k := 0) (i := 157) (N := 2) (C := RX0) (T := TX0) (by decide +kernel) rfl (by decide) jn_u0 (jn_in 429 (by decide +kernel) rfl), jn_getf_mo 0 0⟩ : jn_GEm jn_G0 jn_me86 19 (.inl (jn_getf 0 0))) <|
  jn_cons (⟨jn_getf_ok (ci := 2) (k := 0) (i := 185) (N := 3) (C := RX2) (T := TX2) (by decide +kernel) rfl (by decide) jn_u2 (jn_in 102 (by decide +kernel) rfl), jn_getf_mo 2 0⟩ : jn_GEm jn_G0 jn_me86 22 (.inl (jn_getf 2 0))) <|
  jn_cons (⟨jn_iceq_ok (t := 31) (off := 6) (by decide +kernel) (by decide), jn_iceq_mo 31⟩ : jn_GEm jn_G0 jn_me86 25 (.inl (jn_iceq 31))) <|
  jn_cons (⟨jn_bipush_ok (n := (-7)) (v := (-7)) (by decide +kernel) (by decide), jn_bipush_mo (-7)⟩ : jn_GEm jn_G0 jn_me86 28 (.inl (jn_bipush (-7)))) <|
  jn_cons (⟨(by decide +kernel), rfl⟩ : jn_GEm jn_G0 jn_me86 30 (.inr (.inr 1))) <|
  jn_cons (⟨jn_aload_n_ok (i := 0) (k := 0) (by decide +kernel) rfl, jn_aload_n_mo 0⟩ : jn_GEm jn_G0 jn_me86 31 (.inl (jn_aload_n 0))) <|
  jn_cons (⟨jn_getf_ok (ci := 0) (k := 0) (i := 157) (N := 2) (C := RX0) (T := TX0) (by decide +kernel) rfl (by decide) jn_u0 (jn_in 429 (by decide +kernel) rfl), jn_getf_mo 0 0⟩ : jn_GEm jn_G0 jn_me86 32 (.inl (jn_getf 0 0))) <|
  jn_cons (jn_gc_of jn_G0_20 (jn_callV (i := 106) (na := 0) (ci := 2) (q := (RX2, TX2, 3)) (by decide +kernel) rfl (jn_in 251 (by decide +kernel) rfl) (jn_in 278 (by decide +kernel) rfl) (jn_in 249 (by decide +kernel) rfl) (jn_in 250 (by decide +kernel) rfl) (jn_in 57 (by decide +kernel) rfl) ⟨by decide, by decide, by decide +kernel⟩) : jn_GEm jn_G0 jn_me86 35 (.inr (.inl (20, 4, 1)))) <|
  jn_cons (⟨jn_ifeq_ok (t := 45) (off := 7) (by decide +kernel) (by decide), jn_ifeq_mo 45⟩ : jn_GEm jn_G0 jn_me86 38 (.inl (jn_ifeq 45))) <|
  jn_cons (⟨jn_iconst_ok (by decide +kernel), jn_iconst_mo 0⟩ : jn_GEm jn_G0 jn_me86 41 (.inl (jn_iconst 0))) <|
  jn_cons (⟨jn_goto_ok (t := 47) (off := 5) (by decide +kernel) (by decide), jn_goto_mo 47⟩ : jn_GEm jn_G0 jn_me86 42 (.inl (jn_goto 47))) <|
  jn_cons (⟨jn_bipush_ok (n := (-5)) (v := (-5)) (by decide +kernel) (by decide), jn_bipush_mo (-5)⟩ : jn_GEm jn_G0 jn_me86 45 (.inl (jn_bipush (-5)))) <|
  jn_cons (⟨(by decide +kernel), rfl⟩ : jn_GEm jn_G0 jn_me86 47 (.inr (.inr 1))) <| jn_nil
theorem jn_ok86 : jn_GM jn_G0 86 := jn_GM_of jn_G0_86 rfl rfl (by decide +kernel) (by decide) (jn_o86_0)
theorem jn_o87_0 : ∀ q ∈ jn_c87_0, jn_GEm jn_G0 jn_me87 q.1 q.2 :=
  jn_cons (⟨jn_aload_n_ok (i := 0) (k := 0) (by decide +kernel) rfl, jn_aload_n_mo 0⟩ : jn_GEm jn_G0 jn_me87 0 (.inl (jn_aload_n 0))) <|
  jn_cons (⟨jn_aload_n_ok (i := 1) (k := 1) (by decide +kernel) rfl, jn_aload_n_mo 1⟩ : jn_GEm jn_G0 jn_me87 1 (.inl (jn_aload_n 1))) <|
  jn_cons (⟨jn_aload_n_ok (i := 2) (k := 2) (by decide +kernel) rfl, jn_aload_n_mo 2⟩ : jn_GEm jn_G0 jn_me87 2 (.inl (jn_aload_n 2))) <|
  jn_cons (⟨jn_iconst_ok (by decide +kernel), jn_iconst_mo (-1)⟩ : jn_GEm jn_G0 jn_me87 3 (.inl (jn_iconst (-1)))) <|
  jn_cons (jn_gc_of jn_G0_90 (jn_callV (i := 188) (na := 3) (ci := 6) (q := (RX6, TX6, 11)) (by decide +kernel) rfl (jn_in 503 (by decide +kernel) rfl) (jn_in 500 (by decide +kernel) rfl) (jn_in 502 (by decide +kernel) rfl) (jn_in 17 (by decide +kernel) rfl) (jn_in 54 (by decide +kernel) rfl) ⟨by decide, by decide, by decide +kernel⟩) : jn_GEm jn_G0 jn_me87 4 (.inr (.inl (90, 8, 4)))) <|
  jn_cons (⟨jn_aload_n_ok (i := 0) (k := 0) (by decide +kernel) rfl, jn_aload_n_mo 0⟩ : jn_GEm jn_G0 jn_me87 7 (.inl (jn_aload_n 0))) <|
  jn_cons (⟨jn_getf_ok (ci := 6) (k := 9) (i := 53) (N := 11) (C := RX6) (T := TX6) (by decide +kernel) rfl (by decide) jn_u6 (jn_in 178 (by decide +kernel) rfl), jn_getf_mo 6 9⟩ : jn_GEm jn_G0 jn_me87 8 (.inl (jn_getf 6 9))) <|
  jn_cons (⟨jn_aload_n_ok (i := 1) (k := 1) (by decide +kernel) rfl, jn_aload_n_mo 1⟩ : jn_GEm jn_G0 jn_me87 11 (.inl (jn_aload_n 1))) <|
  jn_cons (⟨jn_getf_ok (ci := 0) (k := 0) (i := 157) (N := 2) (C := RX0) (T := TX0) (by decide +kernel) rfl (by decide) jn_u0 (jn_in 429 (by decide +kernel) rfl), jn_getf_mo 0 0⟩ : jn_GEm jn_G0 jn_me87 12 (.inl (jn_getf 0 0))) <|
  jn_cons (⟨jn_iconst_ok (by decide +kernel), jn_iconst_mo 0⟩ : jn_GEm jn_G0 jn_me87 15 (.inl (jn_iconst 0))) <|
  jn_cons (jn_gc_of jn_G0_25 (jn_callV (i := 139) (na := 2) (ci := 3) (q := (RX3, TX3, 6)) (by decide +kernel) rfl (jn_in 365 (by decide +kernel) rfl) (jn_in 362 (by decide +kernel) rfl) (jn_in 363 (by decide +kernel) rfl) (jn_in 364 (by decide +kernel) rfl) (jn_in 56 (by decide +kernel) rfl) ⟨by decide, by decide, by decide +kernel⟩) : jn_GEm jn_G0 jn_me87 16 (.inr (.inl (25, 5, 3)))) <|
  jn_cons (⟨jn_aload_n_ok (i := 0) (k := 0) (by decide +kernel) rfl, jn_aload_n_mo 0⟩ : jn_GEm jn_G0 jn_me87 19 (.inl (jn_aload_n 0))) <|
  jn_cons (⟨jn_getf_ok (ci := 6) (k := 9) (i := 53) (N := 11) (C := RX6) (T := TX6) (by decide +kernel) rfl (by decide) jn_u6 (jn_in 178 (by decide +kernel) rfl), jn_getf_mo 6 9⟩ : jn_GEm jn_G0 jn_me87 20 (.inl (jn_getf 6 9))) <|
  jn_cons (⟨jn_aload_n_ok (i := 0) (k := 0) (by decide +kernel) rfl, jn_aload_n_mo 0⟩ : jn_GEm jn_G0 jn_me87 23 (.inl (jn_aload_n 0))) <|
  jn_cons (⟨jn_getf_ok (ci := 6) (k := 7) (i := 38) (N := 11) (C := RX6) (T := TX6) (by decide +kernel) rfl (by decide) jn_u6 (jn_in 176 (by decide +kernel) rfl), jn_getf_mo 6 7⟩ : jn_GEm jn_G0 jn_me87 24 (.inl (jn_getf 6 7))) <|
  jn_cons (jn_gc_of jn_G0_27 (jn_callV (i := 249) (na := 1) (ci := 3) (q := (RX3, TX3, 6)) (by decide +kernel) rfl (jn_in 536 (by decide +kernel) rfl) (jn_in 533 (by decide +kernel) rfl) (jn_in 534 (by decide +kernel) rfl) (jn_in 535 (by decide +kernel) rfl) (jn_in 56 (by decide +kernel) rfl) ⟨by decide, by decide, by decide +kernel⟩) : jn_GEm jn_G0 jn_me87 27 (.inr (.inl (27, 5, 2)))) <|
  jn_cons (⟨(by decide +kernel), rfl⟩ : jn_GEm jn_G0 jn_me87 30 (.inr (.inr 2))) <| jn_nil
theorem jn_ok87 : jn_GM jn_G0 87 := jn_GM_of jn_G0_87 rfl rfl (by decide +kernel) (by decide) (jn_o87_0)
theorem jn_o88_0 : ∀ q ∈ jn_c88_0, jn_GEm jn_G0 jn_me88 q.1 q.2 :=
  jn_cons (⟨jn_aload_n_ok (i := 0) (k := 0) (by decide +kernel) rfl, jn_aload_n_mo 0⟩ : jn_GEm jn_G0 jn_me88 0 (.inl (jn_aload_n 0))) <|
  jn_cons (⟨jn_getf_ok (ci := 6) (k := 3) (i := 25) (N := 11) (C := RX6) (T := TX6) (by decide +kernel) rfl (by decide) jn_u6 (jn_in 172 (by decide +kernel) rfl), jn_getf_mo 6 3⟩ : jn_GEm jn_G0 jn_me88 1 (.inl (jn_getf 6 3))) <|
  jn_cons (⟨jn_bipush_ok (n := 10) (v := 10) (by decide +kernel) (by decide), jn_bipush_mo 10⟩ : jn_GEm jn_G0 jn_me88 4 (.inl (jn_bipush 10))) <|
  jn_cons (⟨jn_iclt_ok (t := 16) (off := 10) (by decide +kernel) (by decide), jn_iclt_mo 16⟩ : jn_GEm jn_G0 jn_me88 6 (.inl (jn_iclt 16))) <|
  jn_cons (⟨jn_aload_n_ok (i := 0) (k := 0) (by decide +kernel) rfl, jn_aload_n_mo 0⟩ : jn_GEm jn_G0 jn_me88 9 (.inl (jn_aload_n 0))) <|
  jn_cons (⟨jn_bipush_ok (n := (-8)) (v := (-8)) (by decide +kernel) (by decide), jn_bipush_mo (-8)⟩ : jn_GEm jn_G0 jn_me88 10 (.inl (jn_bipush (-8)))) <|
  jn_cons (jn_gc_of jn_G0_80 (jn_callV (i := 66) (na := 1) (ci := 6) (q := (RX6, TX6, 11)) (by decide +kernel) rfl (jn_in 210 (by decide +kernel) rfl) (jn_in 207 (by decide +kernel) rfl) (jn_in 209 (by decide +kernel) rfl) (jn_in 0 (by decide +kernel) rfl) (jn_in 54 (by decide +kernel) rfl) ⟨by decide, by decide, by decide +kernel⟩) : jn_GEm jn_G0 jn_me88 12 (.inr (.inl (80, 8, 2)))) <|
  jn_cons (⟨(by decide +kernel), rfl⟩ : jn_GEm jn_G0 jn_me88 15 (.inr (.inr 1))) <|
  jn_cons (⟨jn_new_ok (ci := 0) (i := 19) (N := 2) (fs := [.null, .null]) (C := RX0) (T := TX0) (ty0 := tyX0) (by decide +kernel) rfl jn_u0 tyX0_ok (jn_in 75 (by decide +kernel) rfl) (jn_in 422 (by decide +kernel) rfl) (jn_in 63 (by decide +kernel) rfl) (by decide +kernel), jn_new_mo 0 2 [.null, .null]⟩ : jn_GEm jn_G0 jn_me88 16 (.inl (jn_new 0 2 [.null, .null]))) <|
  jn_cons (⟨jn_dup_ok (by decide +kernel), jn_dup_mo⟩ : jn_GEm jn_G0 jn_me88 19 (.inl jn_dup)) <|
  jn_cons (⟨jn_aload_n_ok (i := 1) (k := 1) (by decide +kernel) rfl, jn_aload_n_mo 1⟩ : jn_GEm jn_G0 jn_me88 20 (.inl (jn_aload_n 1))) <|
  jn_cons (jn_gc_of jn_G0_0 (jn_callI (i := 253) (na := 1) (by decide +kernel) rfl (jn_in 425 (by decide +kernel) rfl) (jn_in 423 (by decide +kernel) rfl) (jn_in 424 (by decide +kernel) rfl) (jn_in 63 (by decide +kernel) rfl) rfl ⟨by decide, by decide, by decide +kernel⟩) : jn_GEm jn_G0 jn_me88 21 (.inr (.inl (0, 1, 2)))) <|
  jn_cons (⟨jn_astore_n_ok (i := 2) (k := 2) (by decide +kernel) rfl, jn_astore_n_mo 2⟩ : jn_GEm jn_G0 jn_me88 24 (.inl (jn_astore_n 2))) <|
  jn_cons (⟨jn_aload_n_ok (i := 2) (k := 2) (by decide +kernel) rfl, jn_aload_n_mo 2⟩ : jn_GEm jn_G0 jn_me88 25 (.inl (jn_aload_n 2))) <|
  jn_cons (⟨jn_aload_n_ok (i := 0) (k := 0) (by decide +kernel) rfl, jn_aload_n_mo 0⟩ : jn_GEm jn_G0 jn_me88 26 (.inl (jn_aload_n 0))) <|
  jn_cons (⟨jn_getf_ok (ci := 6) (k := 7) (i := 38) (N := 11) (C := RX6) (T := TX6) (by decide +kernel) rfl (by decide) jn_u6 (jn_in 176 (by decide +kernel) rfl), jn_getf_mo 6 7⟩ : jn_GEm jn_G0 jn_me88 27 (.inl (jn_getf 6 7))) <|
  jn_cons (jn_gc_of jn_G0_5 (jn_callV (i := 181) (na := 1) (ci := 0) (q := (RX0, TX0, 2)) (by decide +kernel) rfl (jn_in 441 (by decide +kernel) rfl) (jn_in 438 (by decide +kernel) rfl) (jn_in 439 (by decide +kernel) rfl) (jn_in 440 (by decide +kernel) rfl) (jn_in 63 (by decide +kernel) rfl) ⟨by decide, by decide, by decide +kernel⟩) : jn_GEm jn_G0 jn_me88 30 (.inr (.inl (5, 2, 2)))) <|
  jn_cons (⟨jn_pop_ok (by decide +kernel), jn_pop_mo⟩ : jn_GEm jn_G0 jn_me88 33 (.inl jn_pop)) <|
  jn_cons (⟨jn_aload_n_ok (i := 0) (k := 0) (by decide +kernel) rfl, jn_aload_n_mo 0⟩ : jn_GEm jn_G0 jn_me88 34 (.inl (jn_aload_n 0))) <|
  jn_cons (⟨jn_getf_ok (ci := 6) (k := 2) (i := 21) (N := 11) (C := RX6) (T := TX6) (by decide +kernel) rfl (by decide) jn_u6 (jn_in 171 (by decide +kernel) rfl), jn_getf_mo 6 2⟩ : jn_GEm jn_G0 jn_me88 35 (.inl (jn_getf 6 2))) <|
  jn_cons (⟨jn_aload_n_ok (i := 0) (k := 0) (by decide +kernel) rfl, jn_aload_n_mo 0⟩ : jn_GEm jn_G0 jn_me88 38 (.inl (jn_aload_n 0))) <|
  jn_cons (⟨jn_getf_ok (ci := 6) (k := 3) (i := 25) (N := 11) (C := RX6) (T := TX6) (by decide +kernel) rfl (by decide) jn_u6 (jn_in 172 (by decide +kernel) rfl), jn_getf_mo 6 3⟩ : jn_GEm jn_G0 jn_me88 39 (.inl (jn_getf 6 3))) <|
  jn_cons (⟨jn_aload_n_ok (i := 2) (k := 2) (by decide +kernel) rfl, jn_aload_n_mo 2⟩ : jn_GEm jn_G0 jn_me88 42 (.inl (jn_aload_n 2))) <|
  jn_cons (⟨jn_aastore_ok (by decide +kernel), jn_aastore_mo⟩ : jn_GEm jn_G0 jn_me88 43 (.inl jn_aastore)) <| jn_nil
theorem jn_o88_1 : ∀ q ∈ jn_c88_1, jn_GEm jn_G0 jn_me88 q.1 q.2 :=
  jn_cons (⟨jn_aload_n_ok (i := 0) (k := 0) (by decide +kernel) rfl, jn_aload_n_mo 0⟩ : jn_GEm jn_G0 jn_me88 44 (.inl (jn_aload_n 0))) <|
  jn_cons (⟨jn_dup_ok (by decide +kernel), jn_dup_mo⟩ : jn_GEm jn_G0 jn_me88 45 (.inl jn_dup)) <|
  jn_cons (⟨jn_getf_ok (ci := 6) (k := 3) (i := 25) (N := 11) (C := RX6) (T := TX6) (by decide +kernel) rfl (by decide) jn_u6 (jn_in 172 (by decide +kernel) rfl), jn_getf_mo 6 3⟩ : jn_GEm jn_G0 jn_me88 46 (.inl (jn_getf 6 3))) <|
  jn_cons (⟨jn_iconst_ok (by decide +kernel), jn_iconst_mo 1⟩ : jn_GEm jn_G0 jn_me88 49 (.inl (jn_iconst 1))) <|
  jn_cons (⟨jn_iadd_ok (by decide +kernel), jn_iadd_mo⟩ : jn_GEm jn_G0 jn_me88 50 (.inl jn_iadd)) <|
  jn_cons (⟨jn_putf_ok (ci := 6) (k := 3) (κ := 0) (i := 25) (N := 11) (C := RX6) (T := TX6) (ty0 := tyX6) (ty := .int) (by decide +kernel) rfl (by decide) jn_u6 (jn_in 172 (by decide +kernel) rfl) tyX6_ok nmX6 rfl (by decide +kernel) jn_po_int, jn_putf_mo 6 3 0⟩ : jn_GEm jn_G0 jn_me88 51 (.inl (jn_putf 6 3 0))) <|
  jn_cons (⟨jn_aload_n_ok (i := 0) (k := 0) (by decide +kernel) rfl, jn_aload_n_mo 0⟩ : jn_GEm jn_G0 jn_me88 54 (.inl (jn_aload_n 0))) <|
  jn_cons (⟨jn_getf_ok (ci := 6) (k := 3) (i := 25) (N := 11) (C := RX6) (T := TX6) (by decide +kernel) rfl (by decide) jn_u6 (jn_in 172 (by decide +kernel) rfl), jn_getf_mo 6 3⟩ : jn_GEm jn_G0 jn_me88 55 (.inl (jn_getf 6 3))) <|
  jn_cons (⟨jn_iconst_ok (by decide +kernel), jn_iconst_mo 1⟩ : jn_GEm jn_G0 jn_me88 58 (.inl (jn_iconst 1))) <|
  jn_cons (⟨jn_isub_ok (by decide +kernel), jn_isub_mo⟩ : jn_GEm jn_G0 jn_me88 59 (.inl jn_isub)) <|
  jn_cons (⟨(by decide +kernel), rfl⟩ : jn_GEm jn_G0 jn_me88 60 (.inr (.inr 1))) <| jn_nil
theorem jn_ok88 : jn_GM jn_G0 88 := jn_GM_of jn_G0_88 rfl rfl (by decide +kernel) (by decide) (jn_appd jn_o88_0 (jn_o88_1))
theorem jn_o89_0 : ∀ q ∈ jn_c89_0, jn_GEm jn_G0 jn_me89 q.1 q.2 :=
  jn_cons (⟨jn_iconst_ok (by decide +kernel), jn_iconst_mo 0⟩ : jn_GEm jn_G0 jn_me89 0 (.inl (jn_iconst 0))) <|
  jn_cons (⟨jn_istore_n_ok (i := 1) (k := 1) (by decide +kernel) rfl, jn_istore_n_mo 1⟩ : jn_GEm jn_G0 jn_me89 1 (.inl (jn_istore_n 1))) <|
  jn_cons (⟨jn_iload_n_ok (i := 1) (k := 1) (by decide +kernel) rfl, jn_iload_n_mo 1⟩ : jn_GEm jn_G0 jn_me89 2 (.inl (jn_iload_n 1))) <|
  jn_cons (⟨jn_bipush_ok (n := 6) (v := 6) (by decide +kernel) (by decide), jn_bipush_mo 6⟩ : jn_GEm jn_G0 jn_me89 3 (.inl (jn_bipush 6))) <|
  jn_cons (⟨jn_icge_ok (t := 21) (off := 16) (by decide +kernel) (by decide), jn_icge_mo 21⟩ : jn_GEm jn_G0 jn_me89 5 (.inl (jn_icge 21))) <|
  jn_cons (⟨jn_aload_n_ok (i := 0) (k := 0) (by decide +kernel) rfl, jn_aload_n_mo 0⟩ : jn_GEm jn_G0 jn_me89 8 (.inl (jn_aload_n 0))) <|
  jn_cons (⟨jn_getf_ok (ci := 6) (k := 7) (i := 38) (N := 11) (C := RX6) (T := TX6) (by decide +kernel) rfl (by decide) jn_u6 (jn_in 176 (by decide +kernel) rfl), jn_getf_mo 6 7⟩ : jn_GEm jn_G0 jn_me89 9 (.inl (jn_getf 6 7))) <|
  jn_cons (⟨jn_iload_n_ok (i := 1) (k := 1) (by decide +kernel) rfl, jn_iload_n_mo 1⟩ : jn_GEm jn_G0 jn_me89 12 (.inl (jn_iload_n 1))) <|
  jn_cons (⟨jn_iconst_ok (by decide +kernel), jn_iconst_mo 0⟩ : jn_GEm jn_G0 jn_me89 13 (.inl (jn_iconst 0))) <|
  jn_cons (⟨jn_iastore_ok (by decide +kernel), jn_iastore_mo⟩ : jn_GEm jn_G0 jn_me89 14 (.inl jn_iastore)) <|
  jn_cons (⟨jn_iinc_ok (i := 1) (n := 1) (by decide +kernel), jn_iinc_mo 1 1⟩ : jn_GEm jn_G0 jn_me89 15 (.inl (jn_iinc 1 1))) <|
  jn_cons (⟨jn_goto_ok (t := 2) (off := -16) (by decide +kernel) (by decide), jn_goto_mo 2⟩ : jn_GEm jn_G0 jn_me89 18 (.inl (jn_goto 2))) <|
  jn_cons (⟨(by decide +kernel), rfl⟩ : jn_GEm jn_G0 jn_me89 21 (.inr (.inr 0))) <| jn_nil
theorem jn_ok89 : jn_GM jn_G0 89 := jn_GM_of jn_G0_89 rfl rfl (by decide +kernel) (by decide) (jn_o89_0)
theorem jn_o90_0 : ∀ q ∈ jn_c90_0, jn_GEm jn_G0 jn_me90 q.1 q.2 :=
  jn_cons (⟨jn_iconst_ok (by decide +kernel), jn_iconst_mo 0⟩ : jn_GEm jn_G0 jn_me90 0 (.inl (jn_iconst 0))) <|
  jn_cons (⟨jn_istore_ok (i := 4) (by decide +kernel), jn_istore_mo 4⟩ : jn_GEm jn_G0 jn_me90 1 (.inl (jn_istore 4))) <|
  jn_cons (⟨jn_iload_ok (i := 4) (by decide +kernel), jn_iload_mo 4⟩ : jn_GEm jn_G0 jn_me90 3 (.inl (jn_iload 4))) <|
  jn_cons (⟨jn_bipush_ok (n := 6) (v := 6) (by decide +kernel) (by decide), jn_bipush_mo 6⟩ : jn_GEm jn_G0 jn_me90 5 (.inl (jn_bipush 6))) <|
  jn_cons (⟨jn_icge_ok (t := 40) (off := 33) (by decide +kernel) (by decide), jn_icge_mo 40⟩ : jn_GEm jn_G0 jn_me90 7 (.inl (jn_icge 40))) <|
  jn_cons (⟨jn_aload_n_ok (i := 0) (k := 0) (by decide +kernel) rfl, jn_aload_n_mo 0⟩ : jn_GEm jn_G0 jn_me90 10 (.inl (jn_aload_n 0))) <|
  jn_cons (⟨jn_getf_ok (ci := 6) (k := 7) (i := 38) (N := 11) (C := RX6) (T := TX6) (by decide +kernel) rfl (by decide) jn_u6 (jn_in 176 (by decide +kernel) rfl), jn_getf_mo 6 7⟩ : jn_GEm jn_G0 jn_me90 11 (.inl (jn_getf 6 7))) <|
  jn_cons (⟨jn_iload_ok (i := 4) (by decide +kernel), jn_iload_mo 4⟩ : jn_GEm jn_G0 jn_me90 14 (.inl (jn_iload 4))) <|
  jn_cons (⟨jn_aload_n_ok (i := 1) (k := 1) (by decide +kernel) rfl, jn_aload_n_mo 1⟩ : jn_GEm jn_G0 jn_me90 16 (.inl (jn_aload_n 1))) <|
  jn_cons (⟨jn_getf_ok (ci := 0) (k := 1) (i := 161) (N := 2) (C := RX0) (T := TX0) (by decide +kernel) rfl (by decide) jn_u0 (jn_in 432 (by decide +kernel) rfl), jn_getf_mo 0 1⟩ : jn_GEm jn_G0 jn_me90 17 (.inl (jn_getf 0 1))) <|
  jn_cons (⟨jn_iload_ok (i := 4) (by decide +kernel), jn_iload_mo 4⟩ : jn_GEm jn_G0 jn_me90 20 (.inl (jn_iload 4))) <|
  jn_cons (⟨jn_iaload_ok (by decide +kernel), jn_iaload_mo⟩ : jn_GEm jn_G0 jn_me90 22 (.inl jn_iaload)) <|
  jn_cons (⟨jn_iload_n_ok (i := 3) (k := 3) (by decide +kernel) rfl, jn_iload_n_mo 3⟩ : jn_GEm jn_G0 jn_me90 23 (.inl (jn_iload_n 3))) <|
  jn_cons (⟨jn_aload_n_ok (i := 2) (k := 2) (by decide +kernel) rfl, jn_aload_n_mo 2⟩ : jn_GEm jn_G0 jn_me90 24 (.inl (jn_aload_n 2))) <|
  jn_cons (⟨jn_getf_ok (ci := 0) (k := 1) (i := 161) (N := 2) (C := RX0) (T := TX0) (by decide +kernel) rfl (by decide) jn_u0 (jn_in 432 (by decide +kernel) rfl), jn_getf_mo 0 1⟩ : jn_GEm jn_G0 jn_me90 25 (.inl (jn_getf 0 1))) <|
  jn_cons (⟨jn_iload_ok (i := 4) (by decide +kernel), jn_iload_mo 4⟩ : jn_GEm jn_G0 jn_me90 28 (.inl (jn_iload 4))) <|
  jn_cons (⟨jn_iaload_ok (by decide +kernel), jn_iaload_mo⟩ : jn_GEm jn_G0 jn_me90 30 (.inl jn_iaload)) <|
  jn_cons (⟨jn_imul_ok (by decide +kernel), jn_imul_mo⟩ : jn_GEm jn_G0 jn_me90 31 (.inl jn_imul)) <|
  jn_cons (⟨jn_iadd_ok (by decide +kernel), jn_iadd_mo⟩ : jn_GEm jn_G0 jn_me90 32 (.inl jn_iadd)) <|
  jn_cons (⟨jn_iastore_ok (by decide +kernel), jn_iastore_mo⟩ : jn_GEm jn_G0 jn_me90 33 (.inl jn_iastore)) <|
  jn_cons (⟨jn_iinc_ok (i := 4) (n := 1) (by decide +kernel), jn_iinc_mo 4 1⟩ : jn_GEm jn_G0 jn_me90 34 (.inl (jn_iinc 4 1))) <|
  jn_cons (⟨jn_goto_ok (t := 3) (off := -34) (by decide +kernel) (by decide), jn_goto_mo 3⟩ : jn_GEm jn_G0 jn_me90 37 (.inl (jn_goto 3))) <|
  jn_cons (⟨(by decide +kernel), rfl⟩ : jn_GEm jn_G0 jn_me90 40 (.inr (.inr 0))) <| jn_nil
theorem jn_ok90 : jn_GM jn_G0 90 := jn_GM_of jn_G0_90 rfl rfl (by decide +kernel) (by decide) (jn_o90_0)
theorem jn_o91_0 : ∀ q ∈ jn_c91_0, jn_GEm jn_G0 jn_me91 q.1 q.2 :=
  jn_cons (⟨jn_iconst_ok (by decide +kernel), jn_iconst_mo 0⟩ : jn_GEm jn_G0 jn_me91 0 (.inl (jn_iconst 0))) <|
  jn_cons (⟨jn_istore_n_ok (i := 1) (k := 1) (by decide +kernel) rfl, jn_istore_n_mo 1⟩ : jn_GEm jn_G0 jn_me91 1 (.inl (jn_istore_n 1))) <|
  jn_cons (⟨jn_iload_n_ok (i := 1) (k := 1) (by decide +kernel) rfl, jn_iload_n_mo 1⟩ : jn_GEm jn_G0 jn_me91 2 (.inl (jn_iload_n 1))) <|
  jn_cons (⟨jn_bipush_ok (n := 6) (v := 6) (by decide +kernel) (by decide), jn_bipush_mo 6⟩ : jn_GEm jn_G0 jn_me91 3 (.inl (jn_bipush 6))) <|
  jn_cons (⟨jn_icge_ok (t := 39) (off := 34) (by decide +kernel) (by decide), jn_icge_mo 39⟩ : jn_GEm jn_G0 jn_me91 5 (.inl (jn_icge 39))) <|
  jn_cons (⟨jn_aload_n_ok (i := 0) (k := 0) (by decide +kernel) rfl, jn_aload_n_mo 0⟩ : jn_GEm jn_G0 jn_me91 8 (.inl (jn_aload_n 0))) <|
  jn_cons (⟨jn_getf_ok (ci := 6) (k := 7) (i := 38) (N := 11) (C := RX6) (T := TX6) (by decide +kernel) rfl (by decide) jn_u6 (jn_in 176 (by decide +kernel) rfl), jn_getf_mo 6 7⟩ : jn_GEm jn_G0 jn_me91 9 (.inl (jn_getf 6 7))) <|
  jn_cons (⟨jn_iload_n_ok (i := 1) (k := 1) (by decide +kernel) rfl, jn_iload_n_mo 1⟩ : jn_GEm jn_G0 jn_me91 12 (.inl (jn_iload_n 1))) <|
  jn_cons (⟨jn_iaload_ok (by decide +kernel), jn_iaload_mo⟩ : jn_GEm jn_G0 jn_me91 13 (.inl jn_iaload)) <|
  jn_cons (⟨jn_ldcw_ok (i := 256) (v := (-100000)) (by decide +kernel) (jn_in 486 (by decide +kernel) rfl), jn_ldcw_mo (-100000)⟩ : jn_GEm jn_G0 jn_me91 14 (.inl (jn_ldcw (-100000)))) <|
  jn_cons (⟨jn_iclt_ok (t := 31) (off := 14) (by decide +kernel) (by decide), jn_iclt_mo 31⟩ : jn_GEm jn_G0 jn_me91 17 (.inl (jn_iclt 31))) <|
  jn_cons (⟨jn_aload_n_ok (i := 0) (k := 0) (by decide +kernel) rfl, jn_aload_n_mo 0⟩ : jn_GEm jn_G0 jn_me91 20 (.inl (jn_aload_n 0))) <|
  jn_cons (⟨jn_getf_ok (ci := 6) (k := 7) (i := 38) (N := 11) (C := RX6) (T := TX6) (by decide +kernel) rfl (by decide) jn_u6 (jn_in 176 (by decide +kernel) rfl), jn_getf_mo 6 7⟩ : jn_GEm jn_G0 jn_me91 21 (.inl (jn_getf 6 7))) <|
  jn_cons (⟨jn_iload_n_ok (i := 1) (k := 1) (by decide +kernel) rfl, jn_iload_n_mo 1⟩ : jn_GEm jn_G0 jn_me91 24 (.inl (jn_iload_n 1))) <|
  jn_cons (⟨jn_iaload_ok (by decide +kernel), jn_iaload_mo⟩ : jn_GEm jn_G0 jn_me91 25 (.inl jn_iaload)) <|
  jn_cons (⟨jn_ldc_ok (i := 245) (v := 100000) (by decide +kernel) (jn_in 487 (by decide +kernel) rfl), jn_ldc_mo 100000⟩ : jn_GEm jn_G0 jn_me91 26 (.inl (jn_ldc 100000))) <|
  jn_cons (⟨jn_icle_ok (t := 33) (off := 5) (by decide +kernel) (by decide), jn_icle_mo 33⟩ : jn_GEm jn_G0 jn_me91 28 (.inl (jn_icle 33))) <|
  jn_cons (⟨jn_iconst_ok (by decide +kernel), jn_iconst_mo 0⟩ : jn_GEm jn_G0 jn_me91 31 (.inl (jn_iconst 0))) <|
  jn_cons (⟨(by decide +kernel), rfl⟩ : jn_GEm jn_G0 jn_me91 32 (.inr (.inr 2))) <|
  jn_cons (⟨jn_iinc_ok (i := 1) (n := 1) (by decide +kernel), jn_iinc_mo 1 1⟩ : jn_GEm jn_G0 jn_me91 33 (.inl (jn_iinc 1 1))) <|
  jn_cons (⟨jn_goto_ok (t := 2) (off := -34) (by decide +kernel) (by decide), jn_goto_mo 2⟩ : jn_GEm jn_G0 jn_me91 36 (.inl (jn_goto 2))) <|
  jn_cons (⟨jn_iconst_ok (by decide +kernel), jn_iconst_mo 1⟩ : jn_GEm jn_G0 jn_me91 39 (.inl (jn_iconst 1))) <|
  jn_cons (⟨(by decide +kernel), rfl⟩ : jn_GEm jn_G0 jn_me91 40 (.inr (.inr 2))) <| jn_nil
theorem jn_ok91 : jn_GM jn_G0 91 := jn_GM_of jn_G0_91 rfl rfl (by decide +kernel) (by decide) (jn_o91_0)
theorem jn_o92_0 : ∀ q ∈ jn_c92_0, jn_GEm jn_G0 jn_me92 q.1 q.2 :=
  jn_cons (⟨jn_iconst_ok (by decide +kernel), jn_iconst_mo 0⟩ : jn_GEm jn_G0 jn_me92 0 (.inl (jn_iconst 0))) <|
  jn_cons (⟨jn_istore_n_ok (i := 3) (k := 3) (by decide +kernel) rfl, jn_istore_n_mo 3⟩ : jn_GEm jn_G0 jn_me92 1 (.inl (jn_istore_n 3))) <|
  jn_cons (⟨jn_iconst_ok (by decide +kernel), jn_iconst_mo 1⟩ : jn_GEm jn_G0 jn_me92 2 (.inl (jn_iconst 1))) <|
  jn_cons (⟨jn_istore_ok (i := 4) (by decide +kernel), jn_istore_mo 4⟩ : jn_GEm jn_G0 jn_me92 3 (.inl (jn_istore 4))) <|
  jn_cons (⟨jn_iconst_ok (by decide +kernel), jn_iconst_mo 0⟩ : jn_GEm jn_G0 jn_me92 5 (.inl (jn_iconst 0))) <|
  jn_cons (⟨jn_istore_ok (i := 5) (by decide +kernel), jn_istore_mo 5⟩ : jn_GEm jn_G0 jn_me92 6 (.inl (jn_istore 5))) <|
  jn_cons (⟨jn_iload_ok (i := 5) (by decide +kernel), jn_iload_mo 5⟩ : jn_GEm jn_G0 jn_me92 8 (.inl (jn_iload 5))) <|
  jn_cons (⟨jn_ldc_ok (i := 245) (v := 100000) (by decide +kernel) (jn_in 487 (by decide +kernel) rfl), jn_ldc_mo 100000⟩ : jn_GEm jn_G0 jn_me92 10 (.inl (jn_ldc 100000))) <|
  jn_cons (⟨jn_icgt_ok (t := 107) (off := 95) (by decide +kernel) (by decide), jn_icgt_mo 107⟩ : jn_GEm jn_G0 jn_me92 12 (.inl (jn_icgt 107))) <|
  jn_cons (⟨jn_iload_ok (i := 4) (by decide +kernel), jn_iload_mo 4⟩ : jn_GEm jn_G0 jn_me92 15 (.inl (jn_iload 4))) <|
  jn_cons (⟨jn_ifeq_ok (t := 107) (off := 90) (by decide +kernel) (by decide), jn_ifeq_mo 107⟩ : jn_GEm jn_G0 jn_me92 17 (.inl (jn_ifeq 107))) <|
  jn_cons (⟨jn_iload_n_ok (i := 3) (k := 3) (by decide +kernel) rfl, jn_iload_n_mo 3⟩ : jn_GEm jn_G0 jn_me92 20 (.inl (jn_iload_n 3))) <|
  jn_cons (⟨jn_ldc_ok (i := 245) (v := 100000) (by decide +kernel) (jn_in 487 (by decide +kernel) rfl), jn_ldc_mo 100000⟩ : jn_GEm jn_G0 jn_me92 21 (.inl (jn_ldc 100000))) <|
  jn_cons (⟨jn_icgt_ok (t := 107) (off := 84) (by decide +kernel) (by decide), jn_icgt_mo 107⟩ : jn_GEm jn_G0 jn_me92 23 (.inl (jn_icgt 107))) <|
  jn_cons (⟨jn_iconst_ok (by decide +kernel), jn_iconst_mo 0⟩ : jn_GEm jn_G0 jn_me92 26 (.inl (jn_iconst 0))) <|
  jn_cons (⟨jn_istore_ok (i := 4) (by decide +kernel), jn_istore_mo 4⟩ : jn_GEm jn_G0 jn_me92 27 (.inl (jn_istore 4))) <|
  jn_cons (⟨jn_iconst_ok (by decide +kernel), jn_iconst_mo 0⟩ : jn_GEm jn_G0 jn_me92 29 (.inl (jn_iconst 0))) <|
  jn_cons (⟨jn_istore_ok (i := 6) (by decide +kernel), jn_istore_mo 6⟩ : jn_GEm jn_G0 jn_me92 30 (.inl (jn_istore 6))) <|
  jn_cons (⟨jn_iload_ok (i := 6) (by decide +kernel), jn_iload_mo 6⟩ : jn_GEm jn_G0 jn_me92 32 (.inl (jn_iload 6))) <|
  jn_cons (⟨jn_aload_n_ok (i := 0) (k := 0) (by decide +kernel) rfl, jn_aload_n_mo 0⟩ : jn_GEm jn_G0 jn_me92 34 (.inl (jn_aload_n 0))) <|
  jn_cons (⟨jn_getf_ok (ci := 2) (k := 1) (i := 97) (N := 3) (C := RX2) (T := TX2) (by decide +kernel) rfl (by decide) jn_u2 (jn_in 106 (by decide +kernel) rfl), jn_getf_mo 2 1⟩ : jn_GEm jn_G0 jn_me92 35 (.inl (jn_getf 2 1))) <|
  jn_cons (⟨jn_icge_ok (t := 101) (off := 63) (by decide +kernel) (by decide), jn_icge_mo 101⟩ : jn_GEm jn_G0 jn_me92 38 (.inl (jn_icge 101))) <|
  jn_cons (⟨jn_aload_n_ok (i := 0) (k := 0) (by decide +kernel) rfl, jn_aload_n_mo 0⟩ : jn_GEm jn_G0 jn_me92 41 (.inl (jn_aload_n 0))) <|
  jn_cons (⟨jn_iload_ok (i := 6) (by decide +kernel), jn_iload_mo 6⟩ : jn_GEm jn_G0 jn_me92 42 (.inl (jn_iload 6))) <| jn_nil
theorem jn_o92_1 : ∀ q ∈ jn_c92_1, jn_GEm jn_G0 jn_me92 q.1 q.2 :=
  jn_cons (jn_gc_of jn_G0_16 (jn_callV (i := 110) (na := 1) (ci := 2) (q := (RX2, TX2, 3)) (by decide +kernel) rfl (jn_in 271 (by decide +kernel) rfl) (jn_in 283 (by decide +kernel) rfl) (jn_in 269 (by decide +kernel) rfl) (jn_in 270 (by decide +kernel) rfl) (jn_in 57 (by decide +kernel) rfl) ⟨by decide, by decide, by decide +kernel⟩) : jn_GEm jn_G0 jn_me92 44 (.inr (.inl (16, 4, 2)))) <|
  jn_cons (⟨jn_istore_ok (i := 7) (by decide +kernel), jn_istore_mo 7⟩ : jn_GEm jn_G0 jn_me92 47 (.inl (jn_istore 7))) <|
  jn_cons (⟨jn_iload_ok (i := 6) (by decide +kernel), jn_iload_mo 6⟩ : jn_GEm jn_G0 jn_me92 49 (.inl (jn_iload 6))) <|
  jn_cons (⟨jn_iload_n_ok (i := 2) (k := 2) (by decide +kernel) rfl, jn_iload_n_mo 2⟩ : jn_GEm jn_G0 jn_me92 51 (.inl (jn_iload_n 2))) <|
  jn_cons (⟨jn_iceq_ok (t := 95) (off := 43) (by decide +kernel) (by decide), jn_iceq_mo 95⟩ : jn_GEm jn_G0 jn_me92 52 (.inl (jn_iceq 95))) <|
  jn_cons (⟨jn_iload_ok (i := 7) (by decide +kernel), jn_iload_mo 7⟩ : jn_GEm jn_G0 jn_me92 55 (.inl (jn_iload 7))) <|
  jn_cons (⟨jn_ifle_ok (t := 95) (off := 38) (by decide +kernel) (by decide), jn_ifle_mo 95⟩ : jn_GEm jn_G0 jn_me92 57 (.inl (jn_ifle 95))) <|
  jn_cons (⟨jn_aload_n_ok (i := 1) (k := 1) (by decide +kernel) rfl, jn_aload_n_mo 1⟩ : jn_GEm jn_G0 jn_me92 60 (.inl (jn_aload_n 1))) <|
  jn_cons (⟨jn_iload_ok (i := 6) (by decide +kernel), jn_iload_mo 6⟩ : jn_GEm jn_G0 jn_me92 61 (.inl (jn_iload 6))) <|
  jn_cons (⟨jn_iaload_ok (by decide +kernel), jn_iaload_mo⟩ : jn_GEm jn_G0 jn_me92 63 (.inl jn_iaload)) <|
  jn_cons (⟨jn_iload_ok (i := 7) (by decide +kernel), jn_iload_mo 7⟩ : jn_GEm jn_G0 jn_me92 64 (.inl (jn_iload 7))) <|
  jn_cons (⟨jn_iclt_ok (t := 95) (off := 29) (by decide +kernel) (by decide), jn_iclt_mo 95⟩ : jn_GEm jn_G0 jn_me92 66 (.inl (jn_iclt 95))) <|
  jn_cons (⟨jn_aload_n_ok (i := 1) (k := 1) (by decide +kernel) rfl, jn_aload_n_mo 1⟩ : jn_GEm jn_G0 jn_me92 69 (.inl (jn_aload_n 1))) <|
  jn_cons (⟨jn_iload_ok (i := 6) (by decide +kernel), jn_iload_mo 6⟩ : jn_GEm jn_G0 jn_me92 70 (.inl (jn_iload 6))) <|
  jn_cons (⟨jn_iaload_ok (by decide +kernel), jn_iaload_mo⟩ : jn_GEm jn_G0 jn_me92 72 (.inl jn_iaload)) <|
  jn_cons (⟨jn_iload_ok (i := 7) (by decide +kernel), jn_iload_mo 7⟩ : jn_GEm jn_G0 jn_me92 73 (.inl (jn_iload 7))) <|
  jn_cons (⟨jn_idiv_ok (by decide +kernel), jn_idiv_mo⟩ : jn_GEm jn_G0 jn_me92 75 (.inl jn_idiv)) <|
  jn_cons (⟨jn_istore_ok (i := 8) (by decide +kernel), jn_istore_mo 8⟩ : jn_GEm jn_G0 jn_me92 76 (.inl (jn_istore 8))) <|
  jn_cons (⟨jn_aload_n_ok (i := 0) (k := 0) (by decide +kernel) rfl, jn_aload_n_mo 0⟩ : jn_GEm jn_G0 jn_me92 78 (.inl (jn_aload_n 0))) <|
  jn_cons (⟨jn_aload_n_ok (i := 1) (k := 1) (by decide +kernel) rfl, jn_aload_n_mo 1⟩ : jn_GEm jn_G0 jn_me92 79 (.inl (jn_aload_n 1))) <|
  jn_cons (⟨jn_iload_ok (i := 6) (by decide +kernel), jn_iload_mo 6⟩ : jn_GEm jn_G0 jn_me92 80 (.inl (jn_iload 6))) <|
  jn_cons (⟨jn_iload_ok (i := 8) (by decide +kernel), jn_iload_mo 8⟩ : jn_GEm jn_G0 jn_me92 82 (.inl (jn_iload 8))) <|
  jn_cons (jn_gc_of jn_G0_23 (jn_callV (i := 174) (na := 3) (ci := 2) (q := (RX2, TX2, 3)) (by decide +kernel) rfl (jn_in 395 (by decide +kernel) rfl) (jn_in 481 (by decide +kernel) rfl) (jn_in 393 (by decide +kernel) rfl) (jn_in 394 (by decide +kernel) rfl) (jn_in 57 (by decide +kernel) rfl) ⟨by decide, by decide, by decide +kernel⟩) : jn_GEm jn_G0 jn_me92 84 (.inr (.inl (23, 4, 4)))) <|
  jn_cons (⟨jn_iload_n_ok (i := 3) (k := 3) (by decide +kernel) rfl, jn_iload_n_mo 3⟩ : jn_GEm jn_G0 jn_me92 87 (.inl (jn_iload_n 3))) <| jn_nil
theorem jn_o92_2 : ∀ q ∈ jn_c92_2, jn_GEm jn_G0 jn_me92 q.1 q.2 :=
  jn_cons (⟨jn_iload_ok (i := 8) (by decide +kernel), jn_iload_mo 8⟩ : jn_GEm jn_G0 jn_me92 88 (.inl (jn_iload 8))) <|
  jn_cons (⟨jn_iadd_ok (by decide +kernel), jn_iadd_mo⟩ : jn_GEm jn_G0 jn_me92 90 (.inl jn_iadd)) <|
  jn_cons (⟨jn_istore_n_ok (i := 3) (k := 3) (by decide +kernel) rfl, jn_istore_n_mo 3⟩ : jn_GEm jn_G0 jn_me92 91 (.inl (jn_istore_n 3))) <|
  jn_cons (⟨jn_iconst_ok (by decide +kernel), jn_iconst_mo 1⟩ : jn_GEm jn_G0 jn_me92 92 (.inl (jn_iconst 1))) <|
  jn_cons (⟨jn_istore_ok (i := 4) (by decide +kernel), jn_istore_mo 4⟩ : jn_GEm jn_G0 jn_me92 93 (.inl (jn_istore 4))) <|
  jn_cons (⟨jn_iinc_ok (i := 6) (n := 1) (by decide +kernel), jn_iinc_mo 6 1⟩ : jn_GEm jn_G0 jn_me92 95 (.inl (jn_iinc 6 1))) <|
  jn_cons (⟨jn_goto_ok (t := 32) (off := -66) (by decide +kernel) (by decide), jn_goto_mo 32⟩ : jn_GEm jn_G0 jn_me92 98 (.inl (jn_goto 32))) <|
  jn_cons (⟨jn_iinc_ok (i := 5) (n := 1) (by decide +kernel), jn_iinc_mo 5 1⟩ : jn_GEm jn_G0 jn_me92 101 (.inl (jn_iinc 5 1))) <|
  jn_cons (⟨jn_goto_ok (t := 8) (off := -96) (by decide +kernel) (by decide), jn_goto_mo 8⟩ : jn_GEm jn_G0 jn_me92 104 (.inl (jn_goto 8))) <|
  jn_cons (⟨jn_iload_n_ok (i := 3) (k := 3) (by decide +kernel) rfl, jn_iload_n_mo 3⟩ : jn_GEm jn_G0 jn_me92 107 (.inl (jn_iload_n 3))) <|
  jn_cons (⟨(by decide +kernel), rfl⟩ : jn_GEm jn_G0 jn_me92 108 (.inr (.inr 1))) <| jn_nil
theorem jn_ok92 : jn_GM jn_G0 92 := jn_GM_of jn_G0_92 rfl rfl (by decide +kernel) (by decide) (jn_appd jn_o92_0 (jn_appd jn_o92_1 (jn_o92_2)))
theorem jn_o93_0 : ∀ q ∈ jn_c93_0, jn_GEm jn_G0 jn_me93 q.1 q.2 :=
  jn_cons (⟨jn_aload_n_ok (i := 0) (k := 0) (by decide +kernel) rfl, jn_aload_n_mo 0⟩ : jn_GEm jn_G0 jn_me93 0 (.inl (jn_aload_n 0))) <|
  jn_cons (⟨jn_oinit_ok (i := 1) (by decide +kernel) (jn_in 614 (by decide +kernel) rfl) (jn_in 71 (by decide +kernel) rfl) (jn_in 72 (by decide +kernel) rfl), jn_oinit_mo⟩ : jn_GEm jn_G0 jn_me93 1 (.inl jn_oinit)) <|
  jn_cons (⟨jn_aload_n_ok (i := 0) (k := 0) (by decide +kernel) rfl, jn_aload_n_mo 0⟩ : jn_GEm jn_G0 jn_me93 4 (.inl (jn_aload_n 0))) <|
  jn_cons (⟨jn_iconst_ok (by decide +kernel), jn_iconst_mo 4⟩ : jn_GEm jn_G0 jn_me93 5 (.inl (jn_iconst 4))) <|
  jn_cons (⟨jn_newI_ok (by decide +kernel) (jn_in 87 (by decide +kernel) rfl), jn_newI_mo⟩ : jn_GEm jn_G0 jn_me93 6 (.inl jn_newI)) <|
  jn_cons (⟨jn_putF_ok (ci := 7) (k := 0) (κ := 2) (i := 7) (N := 22) (C := RX7) (T := TX7) (ty0 := tyX7) (ty := .array .int) (by decide +kernel) rfl (by decide) jn_u7 (jn_in 615 (by decide +kernel) rfl) tyX7_ok nmX7 rfl (by decide +kernel) (jn_po_arr _) rfl rfl, jn_putF_mo 7 0 2⟩ : jn_GEm jn_G0 jn_me93 8 (.inl (jn_putF 7 0 2))) <|
  jn_cons (⟨jn_aload_n_ok (i := 0) (k := 0) (by decide +kernel) rfl, jn_aload_n_mo 0⟩ : jn_GEm jn_G0 jn_me93 11 (.inl (jn_aload_n 0))) <|
  jn_cons (⟨jn_sipush_ok (n := 144) (v := 144) (by decide +kernel) (by decide), jn_sipush_mo 144⟩ : jn_GEm jn_G0 jn_me93 12 (.inl (jn_sipush 144))) <|
  jn_cons (⟨jn_newI_ok (by decide +kernel) (jn_in 87 (by decide +kernel) rfl), jn_newI_mo⟩ : jn_GEm jn_G0 jn_me93 15 (.inl jn_newI)) <|
  jn_cons (⟨jn_putF_ok (ci := 7) (k := 1) (κ := 2) (i := 13) (N := 22) (C := RX7) (T := TX7) (ty0 := tyX7) (ty := .array .int) (by decide +kernel) rfl (by decide) jn_u7 (jn_in 616 (by decide +kernel) rfl) tyX7_ok nmX7 rfl (by decide +kernel) (jn_po_arr _) rfl rfl, jn_putF_mo 7 1 2⟩ : jn_GEm jn_G0 jn_me93 17 (.inl (jn_putF 7 1 2))) <|
  jn_cons (⟨jn_aload_n_ok (i := 0) (k := 0) (by decide +kernel) rfl, jn_aload_n_mo 0⟩ : jn_GEm jn_G0 jn_me93 20 (.inl (jn_aload_n 0))) <|
  jn_cons (⟨jn_bipush_ok (n := 10) (v := 10) (by decide +kernel) (by decide), jn_bipush_mo 10⟩ : jn_GEm jn_G0 jn_me93 21 (.inl (jn_bipush 10))) <|
  jn_cons (⟨jn_newI_ok (by decide +kernel) (jn_in 87 (by decide +kernel) rfl), jn_newI_mo⟩ : jn_GEm jn_G0 jn_me93 23 (.inl jn_newI)) <|
  jn_cons (⟨jn_putF_ok (ci := 7) (k := 4) (κ := 2) (i := 16) (N := 22) (C := RX7) (T := TX7) (ty0 := tyX7) (ty := .array .int) (by decide +kernel) rfl (by decide) jn_u7 (jn_in 619 (by decide +kernel) rfl) tyX7_ok nmX7 rfl (by decide +kernel) (jn_po_arr _) rfl rfl, jn_putF_mo 7 4 2⟩ : jn_GEm jn_G0 jn_me93 25 (.inl (jn_putF 7 4 2))) <|
  jn_cons (⟨jn_aload_n_ok (i := 0) (k := 0) (by decide +kernel) rfl, jn_aload_n_mo 0⟩ : jn_GEm jn_G0 jn_me93 28 (.inl (jn_aload_n 0))) <|
  jn_cons (⟨jn_bipush_ok (n := 60) (v := 60) (by decide +kernel) (by decide), jn_bipush_mo 60⟩ : jn_GEm jn_G0 jn_me93 29 (.inl (jn_bipush 60))) <|
  jn_cons (⟨jn_newI_ok (by decide +kernel) (jn_in 87 (by decide +kernel) rfl), jn_newI_mo⟩ : jn_GEm jn_G0 jn_me93 31 (.inl jn_newI)) <|
  jn_cons (⟨jn_putF_ok (ci := 7) (k := 5) (κ := 2) (i := 19) (N := 22) (C := RX7) (T := TX7) (ty0 := tyX7) (ty := .array .int) (by decide +kernel) rfl (by decide) jn_u7 (jn_in 620 (by decide +kernel) rfl) tyX7_ok nmX7 rfl (by decide +kernel) (jn_po_arr _) rfl rfl, jn_putF_mo 7 5 2⟩ : jn_GEm jn_G0 jn_me93 33 (.inl (jn_putF 7 5 2))) <|
  jn_cons (⟨jn_aload_n_ok (i := 0) (k := 0) (by decide +kernel) rfl, jn_aload_n_mo 0⟩ : jn_GEm jn_G0 jn_me93 36 (.inl (jn_aload_n 0))) <|
  jn_cons (⟨jn_bipush_ok (n := 10) (v := 10) (by decide +kernel) (by decide), jn_bipush_mo 10⟩ : jn_GEm jn_G0 jn_me93 37 (.inl (jn_bipush 10))) <|
  jn_cons (⟨jn_newI_ok (by decide +kernel) (jn_in 87 (by decide +kernel) rfl), jn_newI_mo⟩ : jn_GEm jn_G0 jn_me93 39 (.inl jn_newI)) <|
  jn_cons (⟨jn_putF_ok (ci := 7) (k := 6) (κ := 2) (i := 22) (N := 22) (C := RX7) (T := TX7) (ty0 := tyX7) (ty := .array .int) (by decide +kernel) rfl (by decide) jn_u7 (jn_in 621 (by decide +kernel) rfl) tyX7_ok nmX7 rfl (by decide +kernel) (jn_po_arr _) rfl rfl, jn_putF_mo 7 6 2⟩ : jn_GEm jn_G0 jn_me93 41 (.inl (jn_putF 7 6 2))) <|
  jn_cons (⟨jn_aload_n_ok (i := 0) (k := 0) (by decide +kernel) rfl, jn_aload_n_mo 0⟩ : jn_GEm jn_G0 jn_me93 44 (.inl (jn_aload_n 0))) <|
  jn_cons (⟨jn_bipush_ok (n := 64) (v := 64) (by decide +kernel) (by decide), jn_bipush_mo 64⟩ : jn_GEm jn_G0 jn_me93 45 (.inl (jn_bipush 64))) <| jn_nil
theorem jn_o93_1 : ∀ q ∈ jn_c93_1, jn_GEm jn_G0 jn_me93 q.1 q.2 :=
  jn_cons (⟨jn_newL_ok (by decide +kernel) (jn_in 88 (by decide +kernel) rfl), jn_newL_mo⟩ : jn_GEm jn_G0 jn_me93 47 (.inl jn_newL)) <|
  jn_cons (⟨jn_putF_ok (ci := 7) (k := 7) (κ := 2) (i := 25) (N := 22) (C := RX7) (T := TX7) (ty0 := tyX7) (ty := .array .long) (by decide +kernel) rfl (by decide) jn_u7 (jn_in 622 (by decide +kernel) rfl) tyX7_ok nmX7 rfl (by decide +kernel) (jn_po_arr _) rfl rfl, jn_putF_mo 7 7 2⟩ : jn_GEm jn_G0 jn_me93 49 (.inl (jn_putF 7 7 2))) <|
  jn_cons (⟨jn_aload_n_ok (i := 0) (k := 0) (by decide +kernel) rfl, jn_aload_n_mo 0⟩ : jn_GEm jn_G0 jn_me93 52 (.inl (jn_aload_n 0))) <|
  jn_cons (⟨jn_bipush_ok (n := 6) (v := 6) (by decide +kernel) (by decide), jn_bipush_mo 6⟩ : jn_GEm jn_G0 jn_me93 53 (.inl (jn_bipush 6))) <|
  jn_cons (⟨jn_newL_ok (by decide +kernel) (jn_in 88 (by decide +kernel) rfl), jn_newL_mo⟩ : jn_GEm jn_G0 jn_me93 55 (.inl jn_newL)) <|
  jn_cons (⟨jn_putF_ok (ci := 7) (k := 8) (κ := 2) (i := 29) (N := 22) (C := RX7) (T := TX7) (ty0 := tyX7) (ty := .array .long) (by decide +kernel) rfl (by decide) jn_u7 (jn_in 623 (by decide +kernel) rfl) tyX7_ok nmX7 rfl (by decide +kernel) (jn_po_arr _) rfl rfl, jn_putF_mo 7 8 2⟩ : jn_GEm jn_G0 jn_me93 57 (.inl (jn_putF 7 8 2))) <|
  jn_cons (⟨jn_aload_n_ok (i := 0) (k := 0) (by decide +kernel) rfl, jn_aload_n_mo 0⟩ : jn_GEm jn_G0 jn_me93 60 (.inl (jn_aload_n 0))) <|
  jn_cons (⟨jn_bipush_ok (n := 6) (v := 6) (by decide +kernel) (by decide), jn_bipush_mo 6⟩ : jn_GEm jn_G0 jn_me93 61 (.inl (jn_bipush 6))) <|
  jn_cons (⟨jn_newL_ok (by decide +kernel) (jn_in 88 (by decide +kernel) rfl), jn_newL_mo⟩ : jn_GEm jn_G0 jn_me93 63 (.inl jn_newL)) <|
  jn_cons (⟨jn_putF_ok (ci := 7) (k := 9) (κ := 2) (i := 32) (N := 22) (C := RX7) (T := TX7) (ty0 := tyX7) (ty := .array .long) (by decide +kernel) rfl (by decide) jn_u7 (jn_in 624 (by decide +kernel) rfl) tyX7_ok nmX7 rfl (by decide +kernel) (jn_po_arr _) rfl rfl, jn_putF_mo 7 9 2⟩ : jn_GEm jn_G0 jn_me93 65 (.inl (jn_putF 7 9 2))) <|
  jn_cons (⟨jn_aload_n_ok (i := 0) (k := 0) (by decide +kernel) rfl, jn_aload_n_mo 0⟩ : jn_GEm jn_G0 jn_me93 68 (.inl (jn_aload_n 0))) <|
  jn_cons (⟨jn_bipush_ok (n := 6) (v := 6) (by decide +kernel) (by decide), jn_bipush_mo 6⟩ : jn_GEm jn_G0 jn_me93 69 (.inl (jn_bipush 6))) <|
  jn_cons (⟨jn_newL_ok (by decide +kernel) (jn_in 88 (by decide +kernel) rfl), jn_newL_mo⟩ : jn_GEm jn_G0 jn_me93 71 (.inl jn_newL)) <|
  jn_cons (⟨jn_putF_ok (ci := 7) (k := 10) (κ := 2) (i := 35) (N := 22) (C := RX7) (T := TX7) (ty0 := tyX7) (ty := .array .long) (by decide +kernel) rfl (by decide) jn_u7 (jn_in 625 (by decide +kernel) rfl) tyX7_ok nmX7 rfl (by decide +kernel) (jn_po_arr _) rfl rfl, jn_putF_mo 7 10 2⟩ : jn_GEm jn_G0 jn_me93 73 (.inl (jn_putF 7 10 2))) <|
  jn_cons (⟨jn_aload_n_ok (i := 0) (k := 0) (by decide +kernel) rfl, jn_aload_n_mo 0⟩ : jn_GEm jn_G0 jn_me93 76 (.inl (jn_aload_n 0))) <|
  jn_cons (⟨jn_sipush_ok (n := 864) (v := 864) (by decide +kernel) (by decide), jn_sipush_mo 864⟩ : jn_GEm jn_G0 jn_me93 77 (.inl (jn_sipush 864))) <|
  jn_cons (⟨jn_newL_ok (by decide +kernel) (jn_in 88 (by decide +kernel) rfl), jn_newL_mo⟩ : jn_GEm jn_G0 jn_me93 80 (.inl jn_newL)) <|
  jn_cons (⟨jn_putF_ok (ci := 7) (k := 11) (κ := 2) (i := 38) (N := 22) (C := RX7) (T := TX7) (ty0 := tyX7) (ty := .array .long) (by decide +kernel) rfl (by decide) jn_u7 (jn_in 626 (by decide +kernel) rfl) tyX7_ok nmX7 rfl (by decide +kernel) (jn_po_arr _) rfl rfl, jn_putF_mo 7 11 2⟩ : jn_GEm jn_G0 jn_me93 82 (.inl (jn_putF 7 11 2))) <|
  jn_cons (⟨jn_aload_n_ok (i := 0) (k := 0) (by decide +kernel) rfl, jn_aload_n_mo 0⟩ : jn_GEm jn_G0 jn_me93 85 (.inl (jn_aload_n 0))) <|
  jn_cons (⟨jn_bipush_ok (n := 24) (v := 24) (by decide +kernel) (by decide), jn_bipush_mo 24⟩ : jn_GEm jn_G0 jn_me93 86 (.inl (jn_bipush 24))) <|
  jn_cons (⟨jn_newL_ok (by decide +kernel) (jn_in 88 (by decide +kernel) rfl), jn_newL_mo⟩ : jn_GEm jn_G0 jn_me93 88 (.inl jn_newL)) <|
  jn_cons (⟨jn_putF_ok (ci := 7) (k := 12) (κ := 2) (i := 41) (N := 22) (C := RX7) (T := TX7) (ty0 := tyX7) (ty := .array .long) (by decide +kernel) rfl (by decide) jn_u7 (jn_in 627 (by decide +kernel) rfl) tyX7_ok nmX7 rfl (by decide +kernel) (jn_po_arr _) rfl rfl, jn_putF_mo 7 12 2⟩ : jn_GEm jn_G0 jn_me93 90 (.inl (jn_putF 7 12 2))) <|
  jn_cons (⟨jn_aload_n_ok (i := 0) (k := 0) (by decide +kernel) rfl, jn_aload_n_mo 0⟩ : jn_GEm jn_G0 jn_me93 93 (.inl (jn_aload_n 0))) <|
  jn_cons (⟨jn_bipush_ok (n := 24) (v := 24) (by decide +kernel) (by decide), jn_bipush_mo 24⟩ : jn_GEm jn_G0 jn_me93 94 (.inl (jn_bipush 24))) <| jn_nil
theorem jn_o93_2 : ∀ q ∈ jn_c93_2, jn_GEm jn_G0 jn_me93 q.1 q.2 :=
  jn_cons (⟨jn_newZ_ok (by decide +kernel) (jn_in 682 (by decide +kernel) rfl), jn_newZ_mo⟩ : jn_GEm jn_G0 jn_me93 96 (.inl jn_newZ)) <|
  jn_cons (⟨jn_putF_ok (ci := 7) (k := 13) (κ := 2) (i := 44) (N := 22) (C := RX7) (T := TX7) (ty0 := tyX7) (ty := .array .boolean) (by decide +kernel) rfl (by decide) jn_u7 (jn_in 628 (by decide +kernel) rfl) tyX7_ok nmX7 rfl (by decide +kernel) (jn_po_arr _) rfl rfl, jn_putF_mo 7 13 2⟩ : jn_GEm jn_G0 jn_me93 98 (.inl (jn_putF 7 13 2))) <|
  jn_cons (⟨jn_aload_n_ok (i := 0) (k := 0) (by decide +kernel) rfl, jn_aload_n_mo 0⟩ : jn_GEm jn_G0 jn_me93 101 (.inl (jn_aload_n 0))) <|
  jn_cons (⟨jn_bipush_ok (n := 6) (v := 6) (by decide +kernel) (by decide), jn_bipush_mo 6⟩ : jn_GEm jn_G0 jn_me93 102 (.inl (jn_bipush 6))) <|
  jn_cons (⟨jn_newL_ok (by decide +kernel) (jn_in 88 (by decide +kernel) rfl), jn_newL_mo⟩ : jn_GEm jn_G0 jn_me93 104 (.inl jn_newL)) <|
  jn_cons (⟨jn_putF_ok (ci := 7) (k := 14) (κ := 2) (i := 48) (N := 22) (C := RX7) (T := TX7) (ty0 := tyX7) (ty := .array .long) (by decide +kernel) rfl (by decide) jn_u7 (jn_in 629 (by decide +kernel) rfl) tyX7_ok nmX7 rfl (by decide +kernel) (jn_po_arr _) rfl rfl, jn_putF_mo 7 14 2⟩ : jn_GEm jn_G0 jn_me93 106 (.inl (jn_putF 7 14 2))) <|
  jn_cons (⟨jn_aload_n_ok (i := 0) (k := 0) (by decide +kernel) rfl, jn_aload_n_mo 0⟩ : jn_GEm jn_G0 jn_me93 109 (.inl (jn_aload_n 0))) <|
  jn_cons (⟨jn_bipush_ok (n := 6) (v := 6) (by decide +kernel) (by decide), jn_bipush_mo 6⟩ : jn_GEm jn_G0 jn_me93 110 (.inl (jn_bipush 6))) <|
  jn_cons (⟨jn_newL_ok (by decide +kernel) (jn_in 88 (by decide +kernel) rfl), jn_newL_mo⟩ : jn_GEm jn_G0 jn_me93 112 (.inl jn_newL)) <|
  jn_cons (⟨jn_putF_ok (ci := 7) (k := 15) (κ := 2) (i := 51) (N := 22) (C := RX7) (T := TX7) (ty0 := tyX7) (ty := .array .long) (by decide +kernel) rfl (by decide) jn_u7 (jn_in 630 (by decide +kernel) rfl) tyX7_ok nmX7 rfl (by decide +kernel) (jn_po_arr _) rfl rfl, jn_putF_mo 7 15 2⟩ : jn_GEm jn_G0 jn_me93 114 (.inl (jn_putF 7 15 2))) <|
  jn_cons (⟨jn_aload_n_ok (i := 0) (k := 0) (by decide +kernel) rfl, jn_aload_n_mo 0⟩ : jn_GEm jn_G0 jn_me93 117 (.inl (jn_aload_n 0))) <|
  jn_cons (⟨jn_bipush_ok (n := 6) (v := 6) (by decide +kernel) (by decide), jn_bipush_mo 6⟩ : jn_GEm jn_G0 jn_me93 118 (.inl (jn_bipush 6))) <|
  jn_cons (⟨jn_newI_ok (by decide +kernel) (jn_in 87 (by decide +kernel) rfl), jn_newI_mo⟩ : jn_GEm jn_G0 jn_me93 120 (.inl jn_newI)) <|
  jn_cons (⟨jn_putF_ok (ci := 7) (k := 16) (κ := 2) (i := 54) (N := 22) (C := RX7) (T := TX7) (ty0 := tyX7) (ty := .array .int) (by decide +kernel) rfl (by decide) jn_u7 (jn_in 631 (by decide +kernel) rfl) tyX7_ok nmX7 rfl (by decide +kernel) (jn_po_arr _) rfl rfl, jn_putF_mo 7 16 2⟩ : jn_GEm jn_G0 jn_me93 122 (.inl (jn_putF 7 16 2))) <|
  jn_cons (⟨jn_aload_n_ok (i := 0) (k := 0) (by decide +kernel) rfl, jn_aload_n_mo 0⟩ : jn_GEm jn_G0 jn_me93 125 (.inl (jn_aload_n 0))) <|
  jn_cons (⟨jn_bipush_ok (n := 6) (v := 6) (by decide +kernel) (by decide), jn_bipush_mo 6⟩ : jn_GEm jn_G0 jn_me93 126 (.inl (jn_bipush 6))) <|
  jn_cons (⟨jn_newL_ok (by decide +kernel) (jn_in 88 (by decide +kernel) rfl), jn_newL_mo⟩ : jn_GEm jn_G0 jn_me93 128 (.inl jn_newL)) <|
  jn_cons (⟨jn_putF_ok (ci := 7) (k := 17) (κ := 2) (i := 57) (N := 22) (C := RX7) (T := TX7) (ty0 := tyX7) (ty := .array .long) (by decide +kernel) rfl (by decide) jn_u7 (jn_in 632 (by decide +kernel) rfl) tyX7_ok nmX7 rfl (by decide +kernel) (jn_po_arr _) rfl rfl, jn_putF_mo 7 17 2⟩ : jn_GEm jn_G0 jn_me93 130 (.inl (jn_putF 7 17 2))) <|
  jn_cons (⟨jn_aload_n_ok (i := 0) (k := 0) (by decide +kernel) rfl, jn_aload_n_mo 0⟩ : jn_GEm jn_G0 jn_me93 133 (.inl (jn_aload_n 0))) <|
  jn_cons (⟨jn_bipush_ok (n := 6) (v := 6) (by decide +kernel) (by decide), jn_bipush_mo 6⟩ : jn_GEm jn_G0 jn_me93 134 (.inl (jn_bipush 6))) <|
  jn_cons (⟨jn_newI_ok (by decide +kernel) (jn_in 87 (by decide +kernel) rfl), jn_newI_mo⟩ : jn_GEm jn_G0 jn_me93 136 (.inl jn_newI)) <|
  jn_cons (⟨jn_putF_ok (ci := 7) (k := 18) (κ := 2) (i := 60) (N := 22) (C := RX7) (T := TX7) (ty0 := tyX7) (ty := .array .int) (by decide +kernel) rfl (by decide) jn_u7 (jn_in 633 (by decide +kernel) rfl) tyX7_ok nmX7 rfl (by decide +kernel) (jn_po_arr _) rfl rfl, jn_putF_mo 7 18 2⟩ : jn_GEm jn_G0 jn_me93 138 (.inl (jn_putF 7 18 2))) <|
  jn_cons (⟨jn_aload_n_ok (i := 0) (k := 0) (by decide +kernel) rfl, jn_aload_n_mo 0⟩ : jn_GEm jn_G0 jn_me93 141 (.inl (jn_aload_n 0))) <|
  jn_cons (⟨jn_bipush_ok (n := 6) (v := 6) (by decide +kernel) (by decide), jn_bipush_mo 6⟩ : jn_GEm jn_G0 jn_me93 142 (.inl (jn_bipush 6))) <| jn_nil
theorem jn_o93_3 : ∀ q ∈ jn_c93_3, jn_GEm jn_G0 jn_me93 q.1 q.2 :=
  jn_cons (⟨jn_newI_ok (by decide +kernel) (jn_in 87 (by decide +kernel) rfl), jn_newI_mo⟩ : jn_GEm jn_G0 jn_me93 144 (.inl jn_newI)) <|
  jn_cons (⟨jn_putF_ok (ci := 7) (k := 19) (κ := 2) (i := 63) (N := 22) (C := RX7) (T := TX7) (ty0 := tyX7) (ty := .array .int) (by decide +kernel) rfl (by decide) jn_u7 (jn_in 634 (by decide +kernel) rfl) tyX7_ok nmX7 rfl (by decide +kernel) (jn_po_arr _) rfl rfl, jn_putF_mo 7 19 2⟩ : jn_GEm jn_G0 jn_me93 146 (.inl (jn_putF 7 19 2))) <|
  jn_cons (⟨jn_aload_n_ok (i := 0) (k := 0) (by decide +kernel) rfl, jn_aload_n_mo 0⟩ : jn_GEm jn_G0 jn_me93 149 (.inl (jn_aload_n 0))) <|
  jn_cons (⟨jn_bipush_ok (n := 6) (v := 6) (by decide +kernel) (by decide), jn_bipush_mo 6⟩ : jn_GEm jn_G0 jn_me93 150 (.inl (jn_bipush 6))) <|
  jn_cons (⟨jn_newI_ok (by decide +kernel) (jn_in 87 (by decide +kernel) rfl), jn_newI_mo⟩ : jn_GEm jn_G0 jn_me93 152 (.inl jn_newI)) <|
  jn_cons (⟨jn_putF_ok (ci := 7) (k := 20) (κ := 2) (i := 66) (N := 22) (C := RX7) (T := TX7) (ty0 := tyX7) (ty := .array .int) (by decide +kernel) rfl (by decide) jn_u7 (jn_in 635 (by decide +kernel) rfl) tyX7_ok nmX7 rfl (by decide +kernel) (jn_po_arr _) rfl rfl, jn_putF_mo 7 20 2⟩ : jn_GEm jn_G0 jn_me93 154 (.inl (jn_putF 7 20 2))) <|
  jn_cons (⟨jn_aload_n_ok (i := 0) (k := 0) (by decide +kernel) rfl, jn_aload_n_mo 0⟩ : jn_GEm jn_G0 jn_me93 157 (.inl (jn_aload_n 0))) <|
  jn_cons (⟨jn_iconst_ok (by decide +kernel), jn_iconst_mo (-1)⟩ : jn_GEm jn_G0 jn_me93 158 (.inl (jn_iconst (-1)))) <|
  jn_cons (⟨jn_putf_ok (ci := 7) (k := 21) (κ := 0) (i := 69) (N := 22) (C := RX7) (T := TX7) (ty0 := tyX7) (ty := .int) (by decide +kernel) rfl (by decide) jn_u7 (jn_in 636 (by decide +kernel) rfl) tyX7_ok nmX7 rfl (by decide +kernel) jn_po_int, jn_putf_mo 7 21 0⟩ : jn_GEm jn_G0 jn_me93 159 (.inl (jn_putf 7 21 0))) <|
  jn_cons (⟨(by decide +kernel), rfl⟩ : jn_GEm jn_G0 jn_me93 162 (.inr (.inr 0))) <| jn_nil
theorem jn_ok93 : jn_GM jn_G0 93 := jn_GM_of jn_G0_93 rfl rfl (by decide +kernel) (by decide) (jn_appd jn_o93_0 (jn_appd jn_o93_1 (jn_appd jn_o93_2 (jn_o93_3))))
theorem jn_o94_0 : ∀ q ∈ jn_c94_0, jn_GEm jn_G0 jn_me94 q.1 q.2 :=
  jn_cons (⟨jn_lload_n_ok (i := 0) (k := 0) (by decide +kernel) rfl, jn_lload_n_mo 0⟩ : jn_GEm jn_G0 jn_me94 0 (.inl (jn_lload_n 0))) <|
  jn_cons (⟨jn_lload_n_ok (i := 2) (k := 2) (by decide +kernel) rfl, jn_lload_n_mo 2⟩ : jn_GEm jn_G0 jn_me94 1 (.inl (jn_lload_n 2))) <|
  jn_cons (⟨jn_lcmp_ok (by decide +kernel), jn_lcmp_mo⟩ : jn_GEm jn_G0 jn_me94 2 (.inl jn_lcmp)) <|
  jn_cons (⟨jn_iflt_ok (t := 17) (off := 14) (by decide +kernel) (by decide), jn_iflt_mo 17⟩ : jn_GEm jn_G0 jn_me94 3 (.inl (jn_iflt 17))) <|
  jn_cons (⟨jn_lload_n_ok (i := 0) (k := 0) (by decide +kernel) rfl, jn_lload_n_mo 0⟩ : jn_GEm jn_G0 jn_me94 6 (.inl (jn_lload_n 0))) <|
  jn_cons (⟨jn_lload_ok (i := 4) (by decide +kernel), jn_lload_mo 4⟩ : jn_GEm jn_G0 jn_me94 7 (.inl (jn_lload 4))) <|
  jn_cons (⟨jn_lcmp_ok (by decide +kernel), jn_lcmp_mo⟩ : jn_GEm jn_G0 jn_me94 9 (.inl jn_lcmp)) <|
  jn_cons (⟨jn_ifgt_ok (t := 17) (off := 7) (by decide +kernel) (by decide), jn_ifgt_mo 17⟩ : jn_GEm jn_G0 jn_me94 10 (.inl (jn_ifgt 17))) <|
  jn_cons (⟨jn_iconst_ok (by decide +kernel), jn_iconst_mo 1⟩ : jn_GEm jn_G0 jn_me94 13 (.inl (jn_iconst 1))) <|
  jn_cons (⟨jn_goto_ok (t := 18) (off := 4) (by decide +kernel) (by decide), jn_goto_mo 18⟩ : jn_GEm jn_G0 jn_me94 14 (.inl (jn_goto 18))) <|
  jn_cons (⟨jn_iconst_ok (by decide +kernel), jn_iconst_mo 0⟩ : jn_GEm jn_G0 jn_me94 17 (.inl (jn_iconst 0))) <|
  jn_cons (⟨(by decide +kernel), rfl⟩ : jn_GEm jn_G0 jn_me94 18 (.inr (.inr 2))) <| jn_nil
theorem jn_ok94 : jn_GM jn_G0 94 := jn_GM_of jn_G0_94 rfl rfl (by decide +kernel) (by decide) (jn_o94_0)
theorem jn_o95_0 : ∀ q ∈ jn_c95_0, jn_GEm jn_G0 jn_me95 q.1 q.2 :=
  jn_cons (⟨jn_aload_n_ok (i := 0) (k := 0) (by decide +kernel) rfl, jn_aload_n_mo 0⟩ : jn_GEm jn_G0 jn_me95 0 (.inl (jn_aload_n 0))) <|
  jn_cons (⟨jn_getf_ok (ci := 7) (k := 6) (i := 22) (N := 22) (C := RX7) (T := TX7) (by decide +kernel) rfl (by decide) jn_u7 (jn_in 621 (by decide +kernel) rfl), jn_getf_mo 7 6⟩ : jn_GEm jn_G0 jn_me95 1 (.inl (jn_getf 7 6))) <|
  jn_cons (⟨jn_iload_n_ok (i := 1) (k := 1) (by decide +kernel) rfl, jn_iload_n_mo 1⟩ : jn_GEm jn_G0 jn_me95 4 (.inl (jn_iload_n 1))) <|
  jn_cons (⟨jn_ineg_ok (by decide +kernel), jn_ineg_mo⟩ : jn_GEm jn_G0 jn_me95 5 (.inl jn_ineg)) <|
  jn_cons (⟨jn_dup2_ok (by decide +kernel), jn_dup2_mo⟩ : jn_GEm jn_G0 jn_me95 6 (.inl jn_dup2)) <|
  jn_cons (⟨jn_iaload_ok (by decide +kernel), jn_iaload_mo⟩ : jn_GEm jn_G0 jn_me95 7 (.inl jn_iaload)) <|
  jn_cons (⟨jn_iconst_ok (by decide +kernel), jn_iconst_mo 1⟩ : jn_GEm jn_G0 jn_me95 8 (.inl (jn_iconst 1))) <|
  jn_cons (⟨jn_iadd_ok (by decide +kernel), jn_iadd_mo⟩ : jn_GEm jn_G0 jn_me95 9 (.inl jn_iadd)) <|
  jn_cons (⟨jn_iastore_ok (by decide +kernel), jn_iastore_mo⟩ : jn_GEm jn_G0 jn_me95 10 (.inl jn_iastore)) <|
  jn_cons (⟨jn_iload_n_ok (i := 1) (k := 1) (by decide +kernel) rfl, jn_iload_n_mo 1⟩ : jn_GEm jn_G0 jn_me95 11 (.inl (jn_iload_n 1))) <|
  jn_cons (⟨(by decide +kernel), rfl⟩ : jn_GEm jn_G0 jn_me95 12 (.inr (.inr 1))) <| jn_nil
theorem jn_ok95 : jn_GM jn_G0 95 := jn_GM_of jn_G0_95 rfl rfl (by decide +kernel) (by decide) (jn_o95_0)
theorem jn_o96_0 : ∀ q ∈ jn_c96_0, jn_GEm jn_G0 jn_me96 q.1 q.2 :=
  jn_cons (⟨jn_aload_n_ok (i := 0) (k := 0) (by decide +kernel) rfl, jn_aload_n_mo 0⟩ : jn_GEm jn_G0 jn_me96 0 (.inl (jn_aload_n 0))) <|
  jn_cons (⟨jn_iload_n_ok (i := 1) (k := 1) (by decide +kernel) rfl, jn_iload_n_mo 1⟩ : jn_GEm jn_G0 jn_me96 1 (.inl (jn_iload_n 1))) <|
  jn_cons (jn_gc_of jn_G0_95 (jn_callV (i := 73) (na := 1) (ci := 7) (q := (RX7, TX7, 22)) (by decide +kernel) rfl (jn_in 694 (by decide +kernel) rfl) (jn_in 691 (by decide +kernel) rfl) (jn_in 693 (by decide +kernel) rfl) (jn_in 19 (by decide +kernel) rfl) (jn_in 60 (by decide +kernel) rfl) ⟨by decide, by decide, by decide +kernel⟩) : jn_GEm jn_G0 jn_me96 2 (.inr (.inl (95, 9, 2)))) <|
  jn_cons (⟨jn_istore_n_ok (i := 2) (k := 2) (by decide +kernel) rfl, jn_istore_n_mo 2⟩ : jn_GEm jn_G0 jn_me96 5 (.inl (jn_istore_n 2))) <|
  jn_cons (⟨jn_iconst_ok (by decide +kernel), jn_iconst_mo 0⟩ : jn_GEm jn_G0 jn_me96 6 (.inl (jn_iconst 0))) <|
  jn_cons (⟨(by decide +kernel), rfl⟩ : jn_GEm jn_G0 jn_me96 7 (.inr (.inr 1))) <| jn_nil
theorem jn_ok96 : jn_GM jn_G0 96 := jn_GM_of jn_G0_96 rfl rfl (by decide +kernel) (by decide) (jn_o96_0)
theorem jn_o97_0 : ∀ q ∈ jn_c97_0, jn_GEm jn_G0 jn_me97 q.1 q.2 :=
  jn_cons (⟨jn_iload_n_ok (i := 1) (k := 1) (by decide +kernel) rfl, jn_iload_n_mo 1⟩ : jn_GEm jn_G0 jn_me97 0 (.inl (jn_iload_n 1))) <|
  jn_cons (⟨jn_iflt_ok (t := 16) (off := 15) (by decide +kernel) (by decide), jn_iflt_mo 16⟩ : jn_GEm jn_G0 jn_me97 1 (.inl (jn_iflt 16))) <|
  jn_cons (⟨jn_iload_n_ok (i := 1) (k := 1) (by decide +kernel) rfl, jn_iload_n_mo 1⟩ : jn_GEm jn_G0 jn_me97 4 (.inl (jn_iload_n 1))) <|
  jn_cons (⟨jn_aload_n_ok (i := 0) (k := 0) (by decide +kernel) rfl, jn_aload_n_mo 0⟩ : jn_GEm jn_G0 jn_me97 5 (.inl (jn_aload_n 0))) <|
  jn_cons (⟨jn_getf_ok (ci := 7) (k := 2) (i := 77) (N := 22) (C := RX7) (T := TX7) (by decide +kernel) rfl (by decide) jn_u7 (jn_in 617 (by decide +kernel) rfl), jn_getf_mo 7 2⟩ : jn_GEm jn_G0 jn_me97 6 (.inl (jn_getf 7 2))) <|
  jn_cons (⟨jn_icge_ok (t := 16) (off := 7) (by decide +kernel) (by decide), jn_icge_mo 16⟩ : jn_GEm jn_G0 jn_me97 9 (.inl (jn_icge 16))) <|
  jn_cons (⟨jn_iconst_ok (by decide +kernel), jn_iconst_mo 1⟩ : jn_GEm jn_G0 jn_me97 12 (.inl (jn_iconst 1))) <|
  jn_cons (⟨jn_goto_ok (t := 17) (off := 4) (by decide +kernel) (by decide), jn_goto_mo 17⟩ : jn_GEm jn_G0 jn_me97 13 (.inl (jn_goto 17))) <|
  jn_cons (⟨jn_iconst_ok (by decide +kernel), jn_iconst_mo 0⟩ : jn_GEm jn_G0 jn_me97 16 (.inl (jn_iconst 0))) <|
  jn_cons (⟨(by decide +kernel), rfl⟩ : jn_GEm jn_G0 jn_me97 17 (.inr (.inr 2))) <| jn_nil
theorem jn_ok97 : jn_GM jn_G0 97 := jn_GM_of jn_G0_97 rfl rfl (by decide +kernel) (by decide) (jn_o97_0)
theorem jn_o98_0 : ∀ q ∈ jn_c98_0, jn_GEm jn_G0 jn_me98 q.1 q.2 :=
  jn_cons (⟨jn_aload_n_ok (i := 0) (k := 0) (by decide +kernel) rfl, jn_aload_n_mo 0⟩ : jn_GEm jn_G0 jn_me98 0 (.inl (jn_aload_n 0))) <|
  jn_cons (⟨jn_iload_n_ok (i := 1) (k := 1) (by decide +kernel) rfl, jn_iload_n_mo 1⟩ : jn_GEm jn_G0 jn_me98 1 (.inl (jn_iload_n 1))) <|
  jn_cons (jn_gc_of jn_G0_97 (jn_callV (i := 80) (na := 1) (ci := 7) (q := (RX7, TX7, 22)) (by decide +kernel) rfl (jn_in 706 (by decide +kernel) rfl) (jn_in 703 (by decide +kernel) rfl) (jn_in 705 (by decide +kernel) rfl) (jn_in 21 (by decide +kernel) rfl) (jn_in 60 (by decide +kernel) rfl) ⟨by decide, by decide, by decide +kernel⟩) : jn_GEm jn_G0 jn_me98 2 (.inr (.inl (97, 9, 2)))) <|
  jn_cons (⟨jn_ifeq_ok (t := 26) (off := 21) (by decide +kernel) (by decide), jn_ifeq_mo 26⟩ : jn_GEm jn_G0 jn_me98 5 (.inl (jn_ifeq 26))) <|
  jn_cons (⟨jn_iload_n_ok (i := 2) (k := 2) (by decide +kernel) rfl, jn_iload_n_mo 2⟩ : jn_GEm jn_G0 jn_me98 8 (.inl (jn_iload_n 2))) <|
  jn_cons (⟨jn_iflt_ok (t := 26) (off := 17) (by decide +kernel) (by decide), jn_iflt_mo 26⟩ : jn_GEm jn_G0 jn_me98 9 (.inl (jn_iflt 26))) <|
  jn_cons (⟨jn_iload_n_ok (i := 2) (k := 2) (by decide +kernel) rfl, jn_iload_n_mo 2⟩ : jn_GEm jn_G0 jn_me98 12 (.inl (jn_iload_n 2))) <|
  jn_cons (⟨jn_aload_n_ok (i := 0) (k := 0) (by decide +kernel) rfl, jn_aload_n_mo 0⟩ : jn_GEm jn_G0 jn_me98 13 (.inl (jn_aload_n 0))) <|
  jn_cons (⟨jn_getf_ok (ci := 7) (k := 0) (i := 7) (N := 22) (C := RX7) (T := TX7) (by decide +kernel) rfl (by decide) jn_u7 (jn_in 615 (by decide +kernel) rfl), jn_getf_mo 7 0⟩ : jn_GEm jn_G0 jn_me98 14 (.inl (jn_getf 7 0))) <|
  jn_cons (⟨jn_iload_n_ok (i := 1) (k := 1) (by decide +kernel) rfl, jn_iload_n_mo 1⟩ : jn_GEm jn_G0 jn_me98 17 (.inl (jn_iload_n 1))) <|
  jn_cons (⟨jn_iaload_ok (by decide +kernel), jn_iaload_mo⟩ : jn_GEm jn_G0 jn_me98 18 (.inl jn_iaload)) <|
  jn_cons (⟨jn_icge_ok (t := 26) (off := 7) (by decide +kernel) (by decide), jn_icge_mo 26⟩ : jn_GEm jn_G0 jn_me98 19 (.inl (jn_icge 26))) <|
  jn_cons (⟨jn_iconst_ok (by decide +kernel), jn_iconst_mo 1⟩ : jn_GEm jn_G0 jn_me98 22 (.inl (jn_iconst 1))) <|
  jn_cons (⟨jn_goto_ok (t := 27) (off := 4) (by decide +kernel) (by decide), jn_goto_mo 27⟩ : jn_GEm jn_G0 jn_me98 23 (.inl (jn_goto 27))) <|
  jn_cons (⟨jn_iconst_ok (by decide +kernel), jn_iconst_mo 0⟩ : jn_GEm jn_G0 jn_me98 26 (.inl (jn_iconst 0))) <|
  jn_cons (⟨(by decide +kernel), rfl⟩ : jn_GEm jn_G0 jn_me98 27 (.inr (.inr 2))) <| jn_nil
theorem jn_ok98 : jn_GM jn_G0 98 := jn_GM_of jn_G0_98 rfl rfl (by decide +kernel) (by decide) (jn_o98_0)
theorem jn_o99_0 : ∀ q ∈ jn_c99_0, jn_GEm jn_G0 jn_me99 q.1 q.2 :=
  jn_cons (⟨jn_iload_n_ok (i := 1) (k := 1) (by decide +kernel) rfl, jn_iload_n_mo 1⟩ : jn_GEm jn_G0 jn_me99 0 (.inl (jn_iload_n 1))) <|
  jn_cons (⟨jn_iflt_ok (t := 16) (off := 15) (by decide +kernel) (by decide), jn_iflt_mo 16⟩ : jn_GEm jn_G0 jn_me99 1 (.inl (jn_iflt 16))) <|
  jn_cons (⟨jn_iload_n_ok (i := 1) (k := 1) (by decide +kernel) rfl, jn_iload_n_mo 1⟩ : jn_GEm jn_G0 jn_me99 4 (.inl (jn_iload_n 1))) <|
  jn_cons (⟨jn_aload_n_ok (i := 0) (k := 0) (by decide +kernel) rfl, jn_aload_n_mo 0⟩ : jn_GEm jn_G0 jn_me99 5 (.inl (jn_aload_n 0))) <|
  jn_cons (⟨jn_getf_ok (ci := 7) (k := 3) (i := 84) (N := 22) (C := RX7) (T := TX7) (by decide +kernel) rfl (by decide) jn_u7 (jn_in 618 (by decide +kernel) rfl), jn_getf_mo 7 3⟩ : jn_GEm jn_G0 jn_me99 6 (.inl (jn_getf 7 3))) <|
  jn_cons (⟨jn_icge_ok (t := 16) (off := 7) (by decide +kernel) (by decide), jn_icge_mo 16⟩ : jn_GEm jn_G0 jn_me99 9 (.inl (jn_icge 16))) <|
  jn_cons (⟨jn_iconst_ok (by decide +kernel), jn_iconst_mo 1⟩ : jn_GEm jn_G0 jn_me99 12 (.inl (jn_iconst 1))) <|
  jn_cons (⟨jn_goto_ok (t := 17) (off := 4) (by decide +kernel) (by decide), jn_goto_mo 17⟩ : jn_GEm jn_G0 jn_me99 13 (.inl (jn_goto 17))) <|
  jn_cons (⟨jn_iconst_ok (by decide +kernel), jn_iconst_mo 0⟩ : jn_GEm jn_G0 jn_me99 16 (.inl (jn_iconst 0))) <|
  jn_cons (⟨(by decide +kernel), rfl⟩ : jn_GEm jn_G0 jn_me99 17 (.inr (.inr 2))) <| jn_nil
theorem jn_ok99 : jn_GM jn_G0 99 := jn_GM_of jn_G0_99 rfl rfl (by decide +kernel) (by decide) (jn_o99_0)
theorem jn_o100_0 : ∀ q ∈ jn_c100_0, jn_GEm jn_G0 jn_me100 q.1 q.2 :=
  jn_cons (⟨jn_bipush_ok (n := 36) (v := 36) (by decide +kernel) (by decide), jn_bipush_mo 36⟩ : jn_GEm jn_G0 jn_me100 0 (.inl (jn_bipush 36))) <|
  jn_cons (⟨jn_iload_n_ok (i := 0) (k := 0) (by decide +kernel) rfl, jn_iload_n_mo 0⟩ : jn_GEm jn_G0 jn_me100 2 (.inl (jn_iload_n 0))) <|
  jn_cons (⟨jn_imul_ok (by decide +kernel), jn_imul_mo⟩ : jn_GEm jn_G0 jn_me100 3 (.inl jn_imul)) <|
  jn_cons (⟨jn_bipush_ok (n := 6) (v := 6) (by decide +kernel) (by decide), jn_bipush_mo 6⟩ : jn_GEm jn_G0 jn_me100 4 (.inl (jn_bipush 6))) <|
  jn_cons (⟨jn_iload_n_ok (i := 1) (k := 1) (by decide +kernel) rfl, jn_iload_n_mo 1⟩ : jn_GEm jn_G0 jn_me100 6 (.inl (jn_iload_n 1))) <|
  jn_cons (⟨jn_imul_ok (by decide +kernel), jn_imul_mo⟩ : jn_GEm jn_G0 jn_me100 7 (.inl jn_imul)) <|
  jn_cons (⟨jn_iadd_ok (by decide +kernel), jn_iadd_mo⟩ : jn_GEm jn_G0 jn_me100 8 (.inl jn_iadd)) <|
  jn_cons (⟨jn_iload_n_ok (i := 2) (k := 2) (by decide +kernel) rfl, jn_iload_n_mo 2⟩ : jn_GEm jn_G0 jn_me100 9 (.inl (jn_iload_n 2))) <|
  jn_cons (⟨jn_iadd_ok (by decide +kernel), jn_iadd_mo⟩ : jn_GEm jn_G0 jn_me100 10 (.inl jn_iadd)) <|
  jn_cons (⟨(by decide +kernel), rfl⟩ : jn_GEm jn_G0 jn_me100 11 (.inr (.inr 1))) <| jn_nil
theorem jn_ok100 : jn_GM jn_G0 100 := jn_GM_of jn_G0_100 rfl rfl (by decide +kernel) (by decide) (jn_o100_0)
theorem jn_o101_0 : ∀ q ∈ jn_c101_0, jn_GEm jn_G0 jn_me101 q.1 q.2 :=
  jn_cons (⟨jn_iload_n_ok (i := 1) (k := 1) (by decide +kernel) rfl, jn_iload_n_mo 1⟩ : jn_GEm jn_G0 jn_me101 0 (.inl (jn_iload_n 1))) <|
  jn_cons (⟨jn_i2l_ok (by decide +kernel), jn_i2l_mo⟩ : jn_GEm jn_G0 jn_me101 1 (.inl jn_i2l)) <|
  jn_cons (⟨jn_lconst_ok (n := 1) (v := 1) (by decide +kernel) (by decide), jn_lconst_mo 1⟩ : jn_GEm jn_G0 jn_me101 2 (.inl (jn_lconst 1))) <|
  jn_cons (⟨jn_ldc2_ok (i := 87) (v := 6) (by decide +kernel) (jn_in 687 (by decide +kernel) rfl), jn_ldc2_mo 6⟩ : jn_GEm jn_G0 jn_me101 3 (.inl (jn_ldc2 6))) <|
  jn_cons (jn_gc_of jn_G0_94 (jn_callS (i := 89) (na := 3) (by decide +kernel) (jn_in 690 (by decide +kernel) rfl) (jn_in 688 (by decide +kernel) rfl) (jn_in 689 (by decide +kernel) rfl) (jn_in 60 (by decide +kernel) rfl) ⟨by decide, by decide, by decide +kernel⟩) : jn_GEm jn_G0 jn_me101 6 (.inr (.inl (94, 0, 3)))) <|
  jn_cons (⟨jn_ifne_ok (t := 19) (off := 10) (by decide +kernel) (by decide), jn_ifne_mo 19⟩ : jn_GEm jn_G0 jn_me101 9 (.inl (jn_ifne 19))) <|
  jn_cons (⟨jn_aload_n_ok (i := 0) (k := 0) (by decide +kernel) rfl, jn_aload_n_mo 0⟩ : jn_GEm jn_G0 jn_me101 12 (.inl (jn_aload_n 0))) <|
  jn_cons (⟨jn_bipush_ok (n := (-7)) (v := (-7)) (by decide +kernel) (by decide), jn_bipush_mo (-7)⟩ : jn_GEm jn_G0 jn_me101 13 (.inl (jn_bipush (-7)))) <|
  jn_cons (jn_gc_of jn_G0_95 (jn_callV (i := 73) (na := 1) (ci := 7) (q := (RX7, TX7, 22)) (by decide +kernel) rfl (jn_in 694 (by decide +kernel) rfl) (jn_in 691 (by decide +kernel) rfl) (jn_in 693 (by decide +kernel) rfl) (jn_in 19 (by decide +kernel) rfl) (jn_in 60 (by decide +kernel) rfl) ⟨by decide, by decide, by decide +kernel⟩) : jn_GEm jn_G0 jn_me101 15 (.inr (.inl (95, 9, 2)))) <|
  jn_cons (⟨(by decide +kernel), rfl⟩ : jn_GEm jn_G0 jn_me101 18 (.inr (.inr 1))) <|
  jn_cons (⟨jn_aload_n_ok (i := 0) (k := 0) (by decide +kernel) rfl, jn_aload_n_mo 0⟩ : jn_GEm jn_G0 jn_me101 19 (.inl (jn_aload_n 0))) <|
  jn_cons (⟨jn_getf_ok (ci := 7) (k := 2) (i := 77) (N := 22) (C := RX7) (T := TX7) (by decide +kernel) rfl (by decide) jn_u7 (jn_in 617 (by decide +kernel) rfl), jn_getf_mo 7 2⟩ : jn_GEm jn_G0 jn_me101 20 (.inl (jn_getf 7 2))) <|
  jn_cons (⟨jn_iconst_ok (by decide +kernel), jn_iconst_mo 4⟩ : jn_GEm jn_G0 jn_me101 23 (.inl (jn_iconst 4))) <|
  jn_cons (⟨jn_icne_ok (t := 34) (off := 10) (by decide +kernel) (by decide), jn_icne_mo 34⟩ : jn_GEm jn_G0 jn_me101 24 (.inl (jn_icne 34))) <|
  jn_cons (⟨jn_aload_n_ok (i := 0) (k := 0) (by decide +kernel) rfl, jn_aload_n_mo 0⟩ : jn_GEm jn_G0 jn_me101 27 (.inl (jn_aload_n 0))) <|
  jn_cons (⟨jn_bipush_ok (n := (-8)) (v := (-8)) (by decide +kernel) (by decide), jn_bipush_mo (-8)⟩ : jn_GEm jn_G0 jn_me101 28 (.inl (jn_bipush (-8)))) <|
  jn_cons (jn_gc_of jn_G0_95 (jn_callV (i := 73) (na := 1) (ci := 7) (q := (RX7, TX7, 22)) (by decide +kernel) rfl (jn_in 694 (by decide +kernel) rfl) (jn_in 691 (by decide +kernel) rfl) (jn_in 693 (by decide +kernel) rfl) (jn_in 19 (by decide +kernel) rfl) (jn_in 60 (by decide +kernel) rfl) ⟨by decide, by decide, by decide +kernel⟩) : jn_GEm jn_G0 jn_me101 30 (.inr (.inl (95, 9, 2)))) <|
  jn_cons (⟨(by decide +kernel), rfl⟩ : jn_GEm jn_G0 jn_me101 33 (.inr (.inr 1))) <|
  jn_cons (⟨jn_aload_n_ok (i := 0) (k := 0) (by decide +kernel) rfl, jn_aload_n_mo 0⟩ : jn_GEm jn_G0 jn_me101 34 (.inl (jn_aload_n 0))) <|
  jn_cons (⟨jn_getf_ok (ci := 7) (k := 0) (i := 7) (N := 22) (C := RX7) (T := TX7) (by decide +kernel) rfl (by decide) jn_u7 (jn_in 615 (by decide +kernel) rfl), jn_getf_mo 7 0⟩ : jn_GEm jn_G0 jn_me101 35 (.inl (jn_getf 7 0))) <|
  jn_cons (⟨jn_aload_n_ok (i := 0) (k := 0) (by decide +kernel) rfl, jn_aload_n_mo 0⟩ : jn_GEm jn_G0 jn_me101 38 (.inl (jn_aload_n 0))) <|
  jn_cons (⟨jn_getf_ok (ci := 7) (k := 2) (i := 77) (N := 22) (C := RX7) (T := TX7) (by decide +kernel) rfl (by decide) jn_u7 (jn_in 617 (by decide +kernel) rfl), jn_getf_mo 7 2⟩ : jn_GEm jn_G0 jn_me101 39 (.inl (jn_getf 7 2))) <|
  jn_cons (⟨jn_iload_n_ok (i := 1) (k := 1) (by decide +kernel) rfl, jn_iload_n_mo 1⟩ : jn_GEm jn_G0 jn_me101 42 (.inl (jn_iload_n 1))) <|
  jn_cons (⟨jn_iastore_ok (by decide +kernel), jn_iastore_mo⟩ : jn_GEm jn_G0 jn_me101 43 (.inl jn_iastore)) <| jn_nil
theorem jn_o101_1 : ∀ q ∈ jn_c101_1, jn_GEm jn_G0 jn_me101 q.1 q.2 :=
  jn_cons (⟨jn_aload_n_ok (i := 0) (k := 0) (by decide +kernel) rfl, jn_aload_n_mo 0⟩ : jn_GEm jn_G0 jn_me101 44 (.inl (jn_aload_n 0))) <|
  jn_cons (⟨jn_dup_ok (by decide +kernel), jn_dup_mo⟩ : jn_GEm jn_G0 jn_me101 45 (.inl jn_dup)) <|
  jn_cons (⟨jn_getf_ok (ci := 7) (k := 2) (i := 77) (N := 22) (C := RX7) (T := TX7) (by decide +kernel) rfl (by decide) jn_u7 (jn_in 617 (by decide +kernel) rfl), jn_getf_mo 7 2⟩ : jn_GEm jn_G0 jn_me101 46 (.inl (jn_getf 7 2))) <|
  jn_cons (⟨jn_iconst_ok (by decide +kernel), jn_iconst_mo 1⟩ : jn_GEm jn_G0 jn_me101 49 (.inl (jn_iconst 1))) <|
  jn_cons (⟨jn_iadd_ok (by decide +kernel), jn_iadd_mo⟩ : jn_GEm jn_G0 jn_me101 50 (.inl jn_iadd)) <|
  jn_cons (⟨jn_putf_ok (ci := 7) (k := 2) (κ := 0) (i := 77) (N := 22) (C := RX7) (T := TX7) (ty0 := tyX7) (ty := .int) (by decide +kernel) rfl (by decide) jn_u7 (jn_in 617 (by decide +kernel) rfl) tyX7_ok nmX7 rfl (by decide +kernel) jn_po_int, jn_putf_mo 7 2 0⟩ : jn_GEm jn_G0 jn_me101 51 (.inl (jn_putf 7 2 0))) <|
  jn_cons (⟨jn_aload_n_ok (i := 0) (k := 0) (by decide +kernel) rfl, jn_aload_n_mo 0⟩ : jn_GEm jn_G0 jn_me101 54 (.inl (jn_aload_n 0))) <|
  jn_cons (⟨jn_getf_ok (ci := 7) (k := 2) (i := 77) (N := 22) (C := RX7) (T := TX7) (by decide +kernel) rfl (by decide) jn_u7 (jn_in 617 (by decide +kernel) rfl), jn_getf_mo 7 2⟩ : jn_GEm jn_G0 jn_me101 55 (.inl (jn_getf 7 2))) <|
  jn_cons (⟨jn_iconst_ok (by decide +kernel), jn_iconst_mo 1⟩ : jn_GEm jn_G0 jn_me101 58 (.inl (jn_iconst 1))) <|
  jn_cons (⟨jn_isub_ok (by decide +kernel), jn_isub_mo⟩ : jn_GEm jn_G0 jn_me101 59 (.inl jn_isub)) <|
  jn_cons (⟨(by decide +kernel), rfl⟩ : jn_GEm jn_G0 jn_me101 60 (.inr (.inr 1))) <| jn_nil
theorem jn_ok101 : jn_GM jn_G0 101 := jn_GM_of jn_G0_101 rfl rfl (by decide +kernel) (by decide) (jn_appd jn_o101_0 (jn_o101_1))
theorem jn_o102_0 : ∀ q ∈ jn_c102_0, jn_GEm jn_G0 jn_me102 q.1 q.2 :=
  jn_cons (⟨jn_aload_n_ok (i := 0) (k := 0) (by decide +kernel) rfl, jn_aload_n_mo 0⟩ : jn_GEm jn_G0 jn_me102 0 (.inl (jn_aload_n 0))) <|
  jn_cons (⟨jn_iload_n_ok (i := 1) (k := 1) (by decide +kernel) rfl, jn_iload_n_mo 1⟩ : jn_GEm jn_G0 jn_me102 1 (.inl (jn_iload_n 1))) <|
  jn_cons (⟨jn_iload_n_ok (i := 2) (k := 2) (by decide +kernel) rfl, jn_iload_n_mo 2⟩ : jn_GEm jn_G0 jn_me102 2 (.inl (jn_iload_n 2))) <|
  jn_cons (jn_gc_of jn_G0_98 (jn_callV (i := 93) (na := 2) (ci := 7) (q := (RX7, TX7, 22)) (by decide +kernel) rfl (jn_in 702 (by decide +kernel) rfl) (jn_in 699 (by decide +kernel) rfl) (jn_in 701 (by decide +kernel) rfl) (jn_in 20 (by decide +kernel) rfl) (jn_in 60 (by decide +kernel) rfl) ⟨by decide, by decide, by decide +kernel⟩) : jn_GEm jn_G0 jn_me102 3 (.inr (.inl (98, 9, 3)))) <|
  jn_cons (⟨jn_ifeq_ok (t := 18) (off := 12) (by decide +kernel) (by decide), jn_ifeq_mo 18⟩ : jn_GEm jn_G0 jn_me102 6 (.inl (jn_ifeq 18))) <|
  jn_cons (⟨jn_aload_n_ok (i := 0) (k := 0) (by decide +kernel) rfl, jn_aload_n_mo 0⟩ : jn_GEm jn_G0 jn_me102 9 (.inl (jn_aload_n 0))) <|
  jn_cons (⟨jn_iload_n_ok (i := 1) (k := 1) (by decide +kernel) rfl, jn_iload_n_mo 1⟩ : jn_GEm jn_G0 jn_me102 10 (.inl (jn_iload_n 1))) <|
  jn_cons (⟨jn_iload_n_ok (i := 3) (k := 3) (by decide +kernel) rfl, jn_iload_n_mo 3⟩ : jn_GEm jn_G0 jn_me102 11 (.inl (jn_iload_n 3))) <|
  jn_cons (jn_gc_of jn_G0_98 (jn_callV (i := 93) (na := 2) (ci := 7) (q := (RX7, TX7, 22)) (by decide +kernel) rfl (jn_in 702 (by decide +kernel) rfl) (jn_in 699 (by decide +kernel) rfl) (jn_in 701 (by decide +kernel) rfl) (jn_in 20 (by decide +kernel) rfl) (jn_in 60 (by decide +kernel) rfl) ⟨by decide, by decide, by decide +kernel⟩) : jn_GEm jn_G0 jn_me102 12 (.inr (.inl (98, 9, 3)))) <|
  jn_cons (⟨jn_ifne_ok (t := 25) (off := 10) (by decide +kernel) (by decide), jn_ifne_mo 25⟩ : jn_GEm jn_G0 jn_me102 15 (.inl (jn_ifne 25))) <|
  jn_cons (⟨jn_aload_n_ok (i := 0) (k := 0) (by decide +kernel) rfl, jn_aload_n_mo 0⟩ : jn_GEm jn_G0 jn_me102 18 (.inl (jn_aload_n 0))) <|
  jn_cons (⟨jn_bipush_ok (n := (-3)) (v := (-3)) (by decide +kernel) (by decide), jn_bipush_mo (-3)⟩ : jn_GEm jn_G0 jn_me102 19 (.inl (jn_bipush (-3)))) <|
  jn_cons (jn_gc_of jn_G0_95 (jn_callV (i := 73) (na := 1) (ci := 7) (q := (RX7, TX7, 22)) (by decide +kernel) rfl (jn_in 694 (by decide +kernel) rfl) (jn_in 691 (by decide +kernel) rfl) (jn_in 693 (by decide +kernel) rfl) (jn_in 19 (by decide +kernel) rfl) (jn_in 60 (by decide +kernel) rfl) ⟨by decide, by decide, by decide +kernel⟩) : jn_GEm jn_G0 jn_me102 21 (.inr (.inl (95, 9, 2)))) <|
  jn_cons (⟨(by decide +kernel), rfl⟩ : jn_GEm jn_G0 jn_me102 24 (.inr (.inr 1))) <|
  jn_cons (⟨jn_iconst_ok (by decide +kernel), jn_iconst_mo 0⟩ : jn_GEm jn_G0 jn_me102 25 (.inl (jn_iconst 0))) <|
  jn_cons (⟨jn_istore_ok (i := 5) (by decide +kernel), jn_istore_mo 5⟩ : jn_GEm jn_G0 jn_me102 26 (.inl (jn_istore 5))) <|
  jn_cons (⟨jn_iconst_ok (by decide +kernel), jn_iconst_mo 0⟩ : jn_GEm jn_G0 jn_me102 28 (.inl (jn_iconst 0))) <|
  jn_cons (⟨jn_istore_ok (i := 6) (by decide +kernel), jn_istore_mo 6⟩ : jn_GEm jn_G0 jn_me102 29 (.inl (jn_istore 6))) <|
  jn_cons (⟨jn_iload_ok (i := 6) (by decide +kernel), jn_iload_mo 6⟩ : jn_GEm jn_G0 jn_me102 31 (.inl (jn_iload 6))) <|
  jn_cons (⟨jn_aload_n_ok (i := 0) (k := 0) (by decide +kernel) rfl, jn_aload_n_mo 0⟩ : jn_GEm jn_G0 jn_me102 33 (.inl (jn_aload_n 0))) <|
  jn_cons (⟨jn_getf_ok (ci := 7) (k := 3) (i := 84) (N := 22) (C := RX7) (T := TX7) (by decide +kernel) rfl (by decide) jn_u7 (jn_in 618 (by decide +kernel) rfl), jn_getf_mo 7 3⟩ : jn_GEm jn_G0 jn_me102 34 (.inl (jn_getf 7 3))) <|
  jn_cons (⟨jn_icge_ok (t := 69) (off := 32) (by decide +kernel) (by decide), jn_icge_mo 69⟩ : jn_GEm jn_G0 jn_me102 37 (.inl (jn_icge 69))) <|
  jn_cons (⟨jn_iload_ok (i := 5) (by decide +kernel), jn_iload_mo 5⟩ : jn_GEm jn_G0 jn_me102 40 (.inl (jn_iload 5))) <|
  jn_cons (⟨jn_ifne_ok (t := 56) (off := 14) (by decide +kernel) (by decide), jn_ifne_mo 56⟩ : jn_GEm jn_G0 jn_me102 42 (.inl (jn_ifne 56))) <| jn_nil
theorem jn_o102_1 : ∀ q ∈ jn_c102_1, jn_GEm jn_G0 jn_me102 q.1 q.2 :=
  jn_cons (⟨jn_aload_n_ok (i := 0) (k := 0) (by decide +kernel) rfl, jn_aload_n_mo 0⟩ : jn_GEm jn_G0 jn_me102 45 (.inl (jn_aload_n 0))) <|
  jn_cons (⟨jn_getf_ok (ci := 7) (k := 4) (i := 16) (N := 22) (C := RX7) (T := TX7) (by decide +kernel) rfl (by decide) jn_u7 (jn_in 619 (by decide +kernel) rfl), jn_getf_mo 7 4⟩ : jn_GEm jn_G0 jn_me102 46 (.inl (jn_getf 7 4))) <|
  jn_cons (⟨jn_iload_ok (i := 6) (by decide +kernel), jn_iload_mo 6⟩ : jn_GEm jn_G0 jn_me102 49 (.inl (jn_iload 6))) <|
  jn_cons (⟨jn_iaload_ok (by decide +kernel), jn_iaload_mo⟩ : jn_GEm jn_G0 jn_me102 51 (.inl jn_iaload)) <|
  jn_cons (⟨jn_iload_n_ok (i := 1) (k := 1) (by decide +kernel) rfl, jn_iload_n_mo 1⟩ : jn_GEm jn_G0 jn_me102 52 (.inl (jn_iload_n 1))) <|
  jn_cons (⟨jn_icne_ok (t := 60) (off := 7) (by decide +kernel) (by decide), jn_icne_mo 60⟩ : jn_GEm jn_G0 jn_me102 53 (.inl (jn_icne 60))) <|
  jn_cons (⟨jn_iconst_ok (by decide +kernel), jn_iconst_mo 1⟩ : jn_GEm jn_G0 jn_me102 56 (.inl (jn_iconst 1))) <|
  jn_cons (⟨jn_goto_ok (t := 61) (off := 4) (by decide +kernel) (by decide), jn_goto_mo 61⟩ : jn_GEm jn_G0 jn_me102 57 (.inl (jn_goto 61))) <|
  jn_cons (⟨jn_iconst_ok (by decide +kernel), jn_iconst_mo 0⟩ : jn_GEm jn_G0 jn_me102 60 (.inl (jn_iconst 0))) <|
  jn_cons (⟨jn_istore_ok (i := 5) (by decide +kernel), jn_istore_mo 5⟩ : jn_GEm jn_G0 jn_me102 61 (.inl (jn_istore 5))) <|
  jn_cons (⟨jn_iinc_ok (i := 6) (n := 1) (by decide +kernel), jn_iinc_mo 6 1⟩ : jn_GEm jn_G0 jn_me102 63 (.inl (jn_iinc 6 1))) <|
  jn_cons (⟨jn_goto_ok (t := 31) (off := -35) (by decide +kernel) (by decide), jn_goto_mo 31⟩ : jn_GEm jn_G0 jn_me102 66 (.inl (jn_goto 31))) <|
  jn_cons (⟨jn_iload_ok (i := 4) (by decide +kernel), jn_iload_mo 4⟩ : jn_GEm jn_G0 jn_me102 69 (.inl (jn_iload 4))) <|
  jn_cons (⟨jn_i2l_ok (by decide +kernel), jn_i2l_mo⟩ : jn_GEm jn_G0 jn_me102 71 (.inl jn_i2l)) <|
  jn_cons (⟨jn_lconst_ok (n := 0) (v := 0) (by decide +kernel) (by decide), jn_lconst_mo 0⟩ : jn_GEm jn_G0 jn_me102 72 (.inl (jn_lconst 0))) <|
  jn_cons (⟨jn_ldc2_ok (i := 97) (v := 4) (by decide +kernel) (jn_in 707 (by decide +kernel) rfl), jn_ldc2_mo 4⟩ : jn_GEm jn_G0 jn_me102 73 (.inl (jn_ldc2 4))) <|
  jn_cons (jn_gc_of jn_G0_94 (jn_callS (i := 89) (na := 3) (by decide +kernel) (jn_in 690 (by decide +kernel) rfl) (jn_in 688 (by decide +kernel) rfl) (jn_in 689 (by decide +kernel) rfl) (jn_in 60 (by decide +kernel) rfl) ⟨by decide, by decide, by decide +kernel⟩) : jn_GEm jn_G0 jn_me102 76 (.inr (.inl (94, 0, 3)))) <|
  jn_cons (⟨jn_ifeq_ok (t := 92) (off := 13) (by decide +kernel) (by decide), jn_ifeq_mo 92⟩ : jn_GEm jn_G0 jn_me102 79 (.inl (jn_ifeq 92))) <|
  jn_cons (⟨jn_iload_n_ok (i := 2) (k := 2) (by decide +kernel) rfl, jn_iload_n_mo 2⟩ : jn_GEm jn_G0 jn_me102 82 (.inl (jn_iload_n 2))) <|
  jn_cons (⟨jn_iload_n_ok (i := 3) (k := 3) (by decide +kernel) rfl, jn_iload_n_mo 3⟩ : jn_GEm jn_G0 jn_me102 83 (.inl (jn_iload_n 3))) <|
  jn_cons (⟨jn_iceq_ok (t := 92) (off := 8) (by decide +kernel) (by decide), jn_iceq_mo 92⟩ : jn_GEm jn_G0 jn_me102 84 (.inl (jn_iceq 92))) <|
  jn_cons (⟨jn_iload_ok (i := 5) (by decide +kernel), jn_iload_mo 5⟩ : jn_GEm jn_G0 jn_me102 87 (.inl (jn_iload 5))) <|
  jn_cons (⟨jn_ifeq_ok (t := 99) (off := 10) (by decide +kernel) (by decide), jn_ifeq_mo 99⟩ : jn_GEm jn_G0 jn_me102 89 (.inl (jn_ifeq 99))) <|
  jn_cons (⟨jn_aload_n_ok (i := 0) (k := 0) (by decide +kernel) rfl, jn_aload_n_mo 0⟩ : jn_GEm jn_G0 jn_me102 92 (.inl (jn_aload_n 0))) <| jn_nil
theorem jn_o102_2 : ∀ q ∈ jn_c102_2, jn_GEm jn_G0 jn_me102 q.1 q.2 :=
  jn_cons (⟨jn_bipush_ok (n := (-7)) (v := (-7)) (by decide +kernel) (by decide), jn_bipush_mo (-7)⟩ : jn_GEm jn_G0 jn_me102 93 (.inl (jn_bipush (-7)))) <|
  jn_cons (jn_gc_of jn_G0_95 (jn_callV (i := 73) (na := 1) (ci := 7) (q := (RX7, TX7, 22)) (by decide +kernel) rfl (jn_in 694 (by decide +kernel) rfl) (jn_in 691 (by decide +kernel) rfl) (jn_in 693 (by decide +kernel) rfl) (jn_in 19 (by decide +kernel) rfl) (jn_in 60 (by decide +kernel) rfl) ⟨by decide, by decide, by decide +kernel⟩) : jn_GEm jn_G0 jn_me102 95 (.inr (.inl (95, 9, 2)))) <|
  jn_cons (⟨(by decide +kernel), rfl⟩ : jn_GEm jn_G0 jn_me102 98 (.inr (.inr 1))) <|
  jn_cons (⟨jn_aload_n_ok (i := 0) (k := 0) (by decide +kernel) rfl, jn_aload_n_mo 0⟩ : jn_GEm jn_G0 jn_me102 99 (.inl (jn_aload_n 0))) <|
  jn_cons (⟨jn_getf_ok (ci := 7) (k := 1) (i := 13) (N := 22) (C := RX7) (T := TX7) (by decide +kernel) rfl (by decide) jn_u7 (jn_in 616 (by decide +kernel) rfl), jn_getf_mo 7 1⟩ : jn_GEm jn_G0 jn_me102 100 (.inl (jn_getf 7 1))) <|
  jn_cons (⟨jn_iload_n_ok (i := 1) (k := 1) (by decide +kernel) rfl, jn_iload_n_mo 1⟩ : jn_GEm jn_G0 jn_me102 103 (.inl (jn_iload_n 1))) <|
  jn_cons (⟨jn_iload_n_ok (i := 2) (k := 2) (by decide +kernel) rfl, jn_iload_n_mo 2⟩ : jn_GEm jn_G0 jn_me102 104 (.inl (jn_iload_n 2))) <|
  jn_cons (⟨jn_iload_n_ok (i := 3) (k := 3) (by decide +kernel) rfl, jn_iload_n_mo 3⟩ : jn_GEm jn_G0 jn_me102 105 (.inl (jn_iload_n 3))) <|
  jn_cons (jn_gc_of jn_G0_100 (jn_callS (i := 99) (na := 3) (by decide +kernel) (jn_in 710 (by decide +kernel) rfl) (jn_in 708 (by decide +kernel) rfl) (jn_in 709 (by decide +kernel) rfl) (jn_in 60 (by decide +kernel) rfl) ⟨by decide, by decide, by decide +kernel⟩) : jn_GEm jn_G0 jn_me102 106 (.inr (.inl (100, 0, 3)))) <|
  jn_cons (⟨jn_iaload_ok (by decide +kernel), jn_iaload_mo⟩ : jn_GEm jn_G0 jn_me102 109 (.inl jn_iaload)) <|
  jn_cons (⟨jn_istore_ok (i := 6) (by decide +kernel), jn_istore_mo 6⟩ : jn_GEm jn_G0 jn_me102 110 (.inl (jn_istore 6))) <|
  jn_cons (⟨jn_aload_n_ok (i := 0) (k := 0) (by decide +kernel) rfl, jn_aload_n_mo 0⟩ : jn_GEm jn_G0 jn_me102 112 (.inl (jn_aload_n 0))) <|
  jn_cons (⟨jn_getf_ok (ci := 7) (k := 1) (i := 13) (N := 22) (C := RX7) (T := TX7) (by decide +kernel) rfl (by decide) jn_u7 (jn_in 616 (by decide +kernel) rfl), jn_getf_mo 7 1⟩ : jn_GEm jn_G0 jn_me102 113 (.inl (jn_getf 7 1))) <|
  jn_cons (⟨jn_iload_n_ok (i := 1) (k := 1) (by decide +kernel) rfl, jn_iload_n_mo 1⟩ : jn_GEm jn_G0 jn_me102 116 (.inl (jn_iload_n 1))) <|
  jn_cons (⟨jn_iload_n_ok (i := 2) (k := 2) (by decide +kernel) rfl, jn_iload_n_mo 2⟩ : jn_GEm jn_G0 jn_me102 117 (.inl (jn_iload_n 2))) <|
  jn_cons (⟨jn_iload_n_ok (i := 3) (k := 3) (by decide +kernel) rfl, jn_iload_n_mo 3⟩ : jn_GEm jn_G0 jn_me102 118 (.inl (jn_iload_n 3))) <|
  jn_cons (jn_gc_of jn_G0_100 (jn_callS (i := 99) (na := 3) (by decide +kernel) (jn_in 710 (by decide +kernel) rfl) (jn_in 708 (by decide +kernel) rfl) (jn_in 709 (by decide +kernel) rfl) (jn_in 60 (by decide +kernel) rfl) ⟨by decide, by decide, by decide +kernel⟩) : jn_GEm jn_G0 jn_me102 119 (.inr (.inl (100, 0, 3)))) <|
  jn_cons (⟨jn_iload_ok (i := 4) (by decide +kernel), jn_iload_mo 4⟩ : jn_GEm jn_G0 jn_me102 122 (.inl (jn_iload 4))) <|
  jn_cons (⟨jn_iastore_ok (by decide +kernel), jn_iastore_mo⟩ : jn_GEm jn_G0 jn_me102 124 (.inl jn_iastore)) <|
  jn_cons (⟨jn_aload_n_ok (i := 0) (k := 0) (by decide +kernel) rfl, jn_aload_n_mo 0⟩ : jn_GEm jn_G0 jn_me102 125 (.inl (jn_aload_n 0))) <|
  jn_cons (⟨jn_getf_ok (ci := 7) (k := 1) (i := 13) (N := 22) (C := RX7) (T := TX7) (by decide +kernel) rfl (by decide) jn_u7 (jn_in 616 (by decide +kernel) rfl), jn_getf_mo 7 1⟩ : jn_GEm jn_G0 jn_me102 126 (.inl (jn_getf 7 1))) <|
  jn_cons (⟨jn_iload_n_ok (i := 1) (k := 1) (by decide +kernel) rfl, jn_iload_n_mo 1⟩ : jn_GEm jn_G0 jn_me102 129 (.inl (jn_iload_n 1))) <|
  jn_cons (⟨jn_iload_n_ok (i := 3) (k := 3) (by decide +kernel) rfl, jn_iload_n_mo 3⟩ : jn_GEm jn_G0 jn_me102 130 (.inl (jn_iload_n 3))) <|
  jn_cons (⟨jn_iload_n_ok (i := 2) (k := 2) (by decide +kernel) rfl, jn_iload_n_mo 2⟩ : jn_GEm jn_G0 jn_me102 131 (.inl (jn_iload_n 2))) <| jn_nil
theorem jn_o102_3 : ∀ q ∈ jn_c102_3, jn_GEm jn_G0 jn_me102 q.1 q.2 :=
  jn_cons (jn_gc_of jn_G0_100 (jn_callS (i := 99) (na := 3) (by decide +kernel) (jn_in 710 (by decide +kernel) rfl) (jn_in 708 (by decide +kernel) rfl) (jn_in 709 (by decide +kernel) rfl) (jn_in 60 (by decide +kernel) rfl) ⟨by decide, by decide, by decide +kernel⟩) : jn_GEm jn_G0 jn_me102 132 (.inr (.inl (100, 0, 3)))) <|
  jn_cons (⟨jn_iload_ok (i := 4) (by decide +kernel), jn_iload_mo 4⟩ : jn_GEm jn_G0 jn_me102 135 (.inl (jn_iload 4))) <|
  jn_cons (⟨jn_iastore_ok (by decide +kernel), jn_iastore_mo⟩ : jn_GEm jn_G0 jn_me102 137 (.inl jn_iastore)) <|
  jn_cons (⟨jn_iconst_ok (by decide +kernel), jn_iconst_mo 0⟩ : jn_GEm jn_G0 jn_me102 138 (.inl (jn_iconst 0))) <|
  jn_cons (⟨jn_istore_ok (i := 7) (by decide +kernel), jn_istore_mo 7⟩ : jn_GEm jn_G0 jn_me102 139 (.inl (jn_istore 7))) <|
  jn_cons (⟨jn_iload_ok (i := 7) (by decide +kernel), jn_iload_mo 7⟩ : jn_GEm jn_G0 jn_me102 141 (.inl (jn_iload 7))) <|
  jn_cons (⟨jn_bipush_ok (n := 6) (v := 6) (by decide +kernel) (by decide), jn_bipush_mo 6⟩ : jn_GEm jn_G0 jn_me102 143 (.inl (jn_bipush 6))) <|
  jn_cons (⟨jn_icge_ok (t := 167) (off := 22) (by decide +kernel) (by decide), jn_icge_mo 167⟩ : jn_GEm jn_G0 jn_me102 145 (.inl (jn_icge 167))) <|
  jn_cons (⟨jn_aload_n_ok (i := 0) (k := 0) (by decide +kernel) rfl, jn_aload_n_mo 0⟩ : jn_GEm jn_G0 jn_me102 148 (.inl (jn_aload_n 0))) <|
  jn_cons (⟨jn_getf_ok (ci := 7) (k := 13) (i := 44) (N := 22) (C := RX7) (T := TX7) (by decide +kernel) rfl (by decide) jn_u7 (jn_in 628 (by decide +kernel) rfl), jn_getf_mo 7 13⟩ : jn_GEm jn_G0 jn_me102 149 (.inl (jn_getf 7 13))) <|
  jn_cons (⟨jn_bipush_ok (n := 6) (v := 6) (by decide +kernel) (by decide), jn_bipush_mo 6⟩ : jn_GEm jn_G0 jn_me102 152 (.inl (jn_bipush 6))) <|
  jn_cons (⟨jn_iload_n_ok (i := 1) (k := 1) (by decide +kernel) rfl, jn_iload_n_mo 1⟩ : jn_GEm jn_G0 jn_me102 154 (.inl (jn_iload_n 1))) <|
  jn_cons (⟨jn_imul_ok (by decide +kernel), jn_imul_mo⟩ : jn_GEm jn_G0 jn_me102 155 (.inl jn_imul)) <|
  jn_cons (⟨jn_iload_ok (i := 7) (by decide +kernel), jn_iload_mo 7⟩ : jn_GEm jn_G0 jn_me102 156 (.inl (jn_iload 7))) <|
  jn_cons (⟨jn_iadd_ok (by decide +kernel), jn_iadd_mo⟩ : jn_GEm jn_G0 jn_me102 158 (.inl jn_iadd)) <|
  jn_cons (⟨jn_iconst_ok (by decide +kernel), jn_iconst_mo 0⟩ : jn_GEm jn_G0 jn_me102 159 (.inl (jn_iconst 0))) <|
  jn_cons (⟨jn_zastore_ok (by decide +kernel), jn_zastore_mo⟩ : jn_GEm jn_G0 jn_me102 160 (.inl jn_zastore)) <|
  jn_cons (⟨jn_iinc_ok (i := 7) (n := 1) (by decide +kernel), jn_iinc_mo 7 1⟩ : jn_GEm jn_G0 jn_me102 161 (.inl (jn_iinc 7 1))) <|
  jn_cons (⟨jn_goto_ok (t := 141) (off := -23) (by decide +kernel) (by decide), jn_goto_mo 141⟩ : jn_GEm jn_G0 jn_me102 164 (.inl (jn_goto 141))) <|
  jn_cons (⟨jn_iload_ok (i := 6) (by decide +kernel), jn_iload_mo 6⟩ : jn_GEm jn_G0 jn_me102 167 (.inl (jn_iload 6))) <|
  jn_cons (⟨(by decide +kernel), rfl⟩ : jn_GEm jn_G0 jn_me102 169 (.inr (.inr 1))) <| jn_nil
theorem jn_ok102 : jn_GM jn_G0 102 := jn_GM_of jn_G0_102 rfl rfl (by decide +kernel) (by decide) (jn_appd jn_o102_0 (jn_appd jn_o102_1 (jn_appd jn_o102_2 (jn_o102_3))))
theorem jn_o103_0 : ∀ q ∈ jn_c103_0, jn_GEm jn_G0 jn_me103 q.1 q.2 :=
  jn_cons (⟨jn_iconst_ok (by decide +kernel), jn_iconst_mo 0⟩ : jn_GEm jn_G0 jn_me103 0 (.inl (jn_iconst 0))) <|
  jn_cons (⟨jn_istore_n_ok (i := 3) (k := 3) (by decide +kernel) rfl, jn_istore_n_mo 3⟩ : jn_GEm jn_G0 jn_me103 1 (.inl (jn_istore_n 3))) <|
  jn_cons (⟨jn_iconst_ok (by decide +kernel), jn_iconst_mo 0⟩ : jn_GEm jn_G0 jn_me103 2 (.inl (jn_iconst 0))) <|
  jn_cons (⟨jn_istore_ok (i := 4) (by decide +kernel), jn_istore_mo 4⟩ : jn_GEm jn_G0 jn_me103 3 (.inl (jn_istore 4))) <|
  jn_cons (⟨jn_iload_ok (i := 4) (by decide +kernel), jn_iload_mo 4⟩ : jn_GEm jn_G0 jn_me103 5 (.inl (jn_iload 4))) <|
  jn_cons (⟨jn_aload_n_ok (i := 0) (k := 0) (by decide +kernel) rfl, jn_aload_n_mo 0⟩ : jn_GEm jn_G0 jn_me103 7 (.inl (jn_aload_n 0))) <|
  jn_cons (⟨jn_getf_ok (ci := 7) (k := 0) (i := 7) (N := 22) (C := RX7) (T := TX7) (by decide +kernel) rfl (by decide) jn_u7 (jn_in 615 (by decide +kernel) rfl), jn_getf_mo 7 0⟩ : jn_GEm jn_G0 jn_me103 8 (.inl (jn_getf 7 0))) <|
  jn_cons (⟨jn_iload_n_ok (i := 1) (k := 1) (by decide +kernel) rfl, jn_iload_n_mo 1⟩ : jn_GEm jn_G0 jn_me103 11 (.inl (jn_iload_n 1))) <|
  jn_cons (⟨jn_iaload_ok (by decide +kernel), jn_iaload_mo⟩ : jn_GEm jn_G0 jn_me103 12 (.inl jn_iaload)) <|
  jn_cons (⟨jn_icge_ok (t := 37) (off := 24) (by decide +kernel) (by decide), jn_icge_mo 37⟩ : jn_GEm jn_G0 jn_me103 13 (.inl (jn_icge 37))) <|
  jn_cons (⟨jn_iload_n_ok (i := 3) (k := 3) (by decide +kernel) rfl, jn_iload_n_mo 3⟩ : jn_GEm jn_G0 jn_me103 16 (.inl (jn_iload_n 3))) <|
  jn_cons (⟨jn_aload_n_ok (i := 0) (k := 0) (by decide +kernel) rfl, jn_aload_n_mo 0⟩ : jn_GEm jn_G0 jn_me103 17 (.inl (jn_aload_n 0))) <|
  jn_cons (⟨jn_getf_ok (ci := 7) (k := 1) (i := 13) (N := 22) (C := RX7) (T := TX7) (by decide +kernel) rfl (by decide) jn_u7 (jn_in 616 (by decide +kernel) rfl), jn_getf_mo 7 1⟩ : jn_GEm jn_G0 jn_me103 18 (.inl (jn_getf 7 1))) <|
  jn_cons (⟨jn_iload_n_ok (i := 1) (k := 1) (by decide +kernel) rfl, jn_iload_n_mo 1⟩ : jn_GEm jn_G0 jn_me103 21 (.inl (jn_iload_n 1))) <|
  jn_cons (⟨jn_iload_n_ok (i := 2) (k := 2) (by decide +kernel) rfl, jn_iload_n_mo 2⟩ : jn_GEm jn_G0 jn_me103 22 (.inl (jn_iload_n 2))) <|
  jn_cons (⟨jn_iload_ok (i := 4) (by decide +kernel), jn_iload_mo 4⟩ : jn_GEm jn_G0 jn_me103 23 (.inl (jn_iload 4))) <|
  jn_cons (jn_gc_of jn_G0_100 (jn_callS (i := 99) (na := 3) (by decide +kernel) (jn_in 710 (by decide +kernel) rfl) (jn_in 708 (by decide +kernel) rfl) (jn_in 709 (by decide +kernel) rfl) (jn_in 60 (by decide +kernel) rfl) ⟨by decide, by decide, by decide +kernel⟩) : jn_GEm jn_G0 jn_me103 25 (.inr (.inl (100, 0, 3)))) <|
  jn_cons (⟨jn_iaload_ok (by decide +kernel), jn_iaload_mo⟩ : jn_GEm jn_G0 jn_me103 28 (.inl jn_iaload)) <|
  jn_cons (⟨jn_iadd_ok (by decide +kernel), jn_iadd_mo⟩ : jn_GEm jn_G0 jn_me103 29 (.inl jn_iadd)) <|
  jn_cons (⟨jn_istore_n_ok (i := 3) (k := 3) (by decide +kernel) rfl, jn_istore_n_mo 3⟩ : jn_GEm jn_G0 jn_me103 30 (.inl (jn_istore_n 3))) <|
  jn_cons (⟨jn_iinc_ok (i := 4) (n := 1) (by decide +kernel), jn_iinc_mo 4 1⟩ : jn_GEm jn_G0 jn_me103 31 (.inl (jn_iinc 4 1))) <|
  jn_cons (⟨jn_goto_ok (t := 5) (off := -29) (by decide +kernel) (by decide), jn_goto_mo 5⟩ : jn_GEm jn_G0 jn_me103 34 (.inl (jn_goto 5))) <|
  jn_cons (⟨jn_iload_n_ok (i := 3) (k := 3) (by decide +kernel) rfl, jn_iload_n_mo 3⟩ : jn_GEm jn_G0 jn_me103 37 (.inl (jn_iload_n 3))) <|
  jn_cons (⟨(by decide +kernel), rfl⟩ : jn_GEm jn_G0 jn_me103 38 (.inr (.inr 1))) <| jn_nil
theorem jn_ok103 : jn_GM jn_G0 103 := jn_GM_of jn_G0_103 rfl rfl (by decide +kernel) (by decide) (jn_o103_0)
theorem jn_o104_0 : ∀ q ∈ jn_c104_0, jn_GEm jn_G0 jn_me104 q.1 q.2 :=
  jn_cons (⟨jn_iconst_ok (by decide +kernel), jn_iconst_mo 0⟩ : jn_GEm jn_G0 jn_me104 0 (.inl (jn_iconst 0))) <|
  jn_cons (⟨jn_istore_n_ok (i := 2) (k := 2) (by decide +kernel) rfl, jn_istore_n_mo 2⟩ : jn_GEm jn_G0 jn_me104 1 (.inl (jn_istore_n 2))) <|
  jn_cons (⟨jn_iconst_ok (by decide +kernel), jn_iconst_mo 0⟩ : jn_GEm jn_G0 jn_me104 2 (.inl (jn_iconst 0))) <|
  jn_cons (⟨jn_istore_n_ok (i := 3) (k := 3) (by decide +kernel) rfl, jn_istore_n_mo 3⟩ : jn_GEm jn_G0 jn_me104 3 (.inl (jn_istore_n 3))) <|
  jn_cons (⟨jn_iload_n_ok (i := 3) (k := 3) (by decide +kernel) rfl, jn_iload_n_mo 3⟩ : jn_GEm jn_G0 jn_me104 4 (.inl (jn_iload_n 3))) <|
  jn_cons (⟨jn_aload_n_ok (i := 0) (k := 0) (by decide +kernel) rfl, jn_aload_n_mo 0⟩ : jn_GEm jn_G0 jn_me104 5 (.inl (jn_aload_n 0))) <|
  jn_cons (⟨jn_getf_ok (ci := 7) (k := 0) (i := 7) (N := 22) (C := RX7) (T := TX7) (by decide +kernel) rfl (by decide) jn_u7 (jn_in 615 (by decide +kernel) rfl), jn_getf_mo 7 0⟩ : jn_GEm jn_G0 jn_me104 6 (.inl (jn_getf 7 0))) <|
  jn_cons (⟨jn_iload_n_ok (i := 1) (k := 1) (by decide +kernel) rfl, jn_iload_n_mo 1⟩ : jn_GEm jn_G0 jn_me104 9 (.inl (jn_iload_n 1))) <|
  jn_cons (⟨jn_iaload_ok (by decide +kernel), jn_iaload_mo⟩ : jn_GEm jn_G0 jn_me104 10 (.inl jn_iaload)) <|
  jn_cons (⟨jn_icge_ok (t := 29) (off := 18) (by decide +kernel) (by decide), jn_icge_mo 29⟩ : jn_GEm jn_G0 jn_me104 11 (.inl (jn_icge 29))) <|
  jn_cons (⟨jn_iload_n_ok (i := 2) (k := 2) (by decide +kernel) rfl, jn_iload_n_mo 2⟩ : jn_GEm jn_G0 jn_me104 14 (.inl (jn_iload_n 2))) <|
  jn_cons (⟨jn_aload_n_ok (i := 0) (k := 0) (by decide +kernel) rfl, jn_aload_n_mo 0⟩ : jn_GEm jn_G0 jn_me104 15 (.inl (jn_aload_n 0))) <|
  jn_cons (⟨jn_iload_n_ok (i := 1) (k := 1) (by decide +kernel) rfl, jn_iload_n_mo 1⟩ : jn_GEm jn_G0 jn_me104 16 (.inl (jn_iload_n 1))) <|
  jn_cons (⟨jn_iload_n_ok (i := 3) (k := 3) (by decide +kernel) rfl, jn_iload_n_mo 3⟩ : jn_GEm jn_G0 jn_me104 17 (.inl (jn_iload_n 3))) <|
  jn_cons (jn_gc_of jn_G0_103 (jn_callV (i := 103) (na := 2) (ci := 7) (q := (RX7, TX7, 22)) (by decide +kernel) rfl (jn_in 734 (by decide +kernel) rfl) (jn_in 731 (by decide +kernel) rfl) (jn_in 733 (by decide +kernel) rfl) (jn_in 26 (by decide +kernel) rfl) (jn_in 60 (by decide +kernel) rfl) ⟨by decide, by decide, by decide +kernel⟩) : jn_GEm jn_G0 jn_me104 18 (.inr (.inl (103, 9, 3)))) <|
  jn_cons (⟨jn_iadd_ok (by decide +kernel), jn_iadd_mo⟩ : jn_GEm jn_G0 jn_me104 21 (.inl jn_iadd)) <|
  jn_cons (⟨jn_istore_n_ok (i := 2) (k := 2) (by decide +kernel) rfl, jn_istore_n_mo 2⟩ : jn_GEm jn_G0 jn_me104 22 (.inl (jn_istore_n 2))) <|
  jn_cons (⟨jn_iinc_ok (i := 3) (n := 1) (by decide +kernel), jn_iinc_mo 3 1⟩ : jn_GEm jn_G0 jn_me104 23 (.inl (jn_iinc 3 1))) <|
  jn_cons (⟨jn_goto_ok (t := 4) (off := -22) (by decide +kernel) (by decide), jn_goto_mo 4⟩ : jn_GEm jn_G0 jn_me104 26 (.inl (jn_goto 4))) <|
  jn_cons (⟨jn_iload_n_ok (i := 2) (k := 2) (by decide +kernel) rfl, jn_iload_n_mo 2⟩ : jn_GEm jn_G0 jn_me104 29 (.inl (jn_iload_n 2))) <|
  jn_cons (⟨jn_iconst_ok (by decide +kernel), jn_iconst_mo 2⟩ : jn_GEm jn_G0 jn_me104 30 (.inl (jn_iconst 2))) <|
  jn_cons (⟨jn_idiv_ok (by decide +kernel), jn_idiv_mo⟩ : jn_GEm jn_G0 jn_me104 31 (.inl jn_idiv)) <|
  jn_cons (⟨(by decide +kernel), rfl⟩ : jn_GEm jn_G0 jn_me104 32 (.inr (.inr 1))) <| jn_nil
theorem jn_ok104 : jn_GM jn_G0 104 := jn_GM_of jn_G0_104 rfl rfl (by decide +kernel) (by decide) (jn_o104_0)
theorem jn_o105_0 : ∀ q ∈ jn_c105_0, jn_GEm jn_G0 jn_me105 q.1 q.2 :=
  jn_cons (⟨jn_aload_n_ok (i := 0) (k := 0) (by decide +kernel) rfl, jn_aload_n_mo 0⟩ : jn_GEm jn_G0 jn_me105 0 (.inl (jn_aload_n 0))) <|
  jn_cons (⟨jn_iload_n_ok (i := 1) (k := 1) (by decide +kernel) rfl, jn_iload_n_mo 1⟩ : jn_GEm jn_G0 jn_me105 1 (.inl (jn_iload_n 1))) <|
  jn_cons (jn_gc_of jn_G0_104 (jn_callV (i := 107) (na := 1) (ci := 7) (q := (RX7, TX7, 22)) (by decide +kernel) rfl (jn_in 730 (by decide +kernel) rfl) (jn_in 727 (by decide +kernel) rfl) (jn_in 729 (by decide +kernel) rfl) (jn_in 25 (by decide +kernel) rfl) (jn_in 60 (by decide +kernel) rfl) ⟨by decide, by decide, by decide +kernel⟩) : jn_GEm jn_G0 jn_me105 2 (.inr (.inl (104, 9, 2)))) <|
  jn_cons (⟨jn_aload_n_ok (i := 0) (k := 0) (by decide +kernel) rfl, jn_aload_n_mo 0⟩ : jn_GEm jn_G0 jn_me105 5 (.inl (jn_aload_n 0))) <|
  jn_cons (⟨jn_getf_ok (ci := 7) (k := 0) (i := 7) (N := 22) (C := RX7) (T := TX7) (by decide +kernel) rfl (by decide) jn_u7 (jn_in 615 (by decide +kernel) rfl), jn_getf_mo 7 0⟩ : jn_GEm jn_G0 jn_me105 6 (.inl (jn_getf 7 0))) <|
  jn_cons (⟨jn_iload_n_ok (i := 1) (k := 1) (by decide +kernel) rfl, jn_iload_n_mo 1⟩ : jn_GEm jn_G0 jn_me105 9 (.inl (jn_iload_n 1))) <|
  jn_cons (⟨jn_iaload_ok (by decide +kernel), jn_iaload_mo⟩ : jn_GEm jn_G0 jn_me105 10 (.inl jn_iaload)) <|
  jn_cons (⟨jn_isub_ok (by decide +kernel), jn_isub_mo⟩ : jn_GEm jn_G0 jn_me105 11 (.inl jn_isub)) <|
  jn_cons (⟨jn_iconst_ok (by decide +kernel), jn_iconst_mo 1⟩ : jn_GEm jn_G0 jn_me105 12 (.inl (jn_iconst 1))) <|
  jn_cons (⟨jn_iadd_ok (by decide +kernel), jn_iadd_mo⟩ : jn_GEm jn_G0 jn_me105 13 (.inl jn_iadd)) <|
  jn_cons (⟨(by decide +kernel), rfl⟩ : jn_GEm jn_G0 jn_me105 14 (.inr (.inr 1))) <| jn_nil
theorem jn_ok105 : jn_GM jn_G0 105 := jn_GM_of jn_G0_105 rfl rfl (by decide +kernel) (by decide) (jn_o105_0)
theorem jn_o106_0 : ∀ q ∈ jn_c106_0, jn_GEm jn_G0 jn_me106 q.1 q.2 :=
  jn_cons (⟨jn_iconst_ok (by decide +kernel), jn_iconst_mo 1⟩ : jn_GEm jn_G0 jn_me106 0 (.inl (jn_iconst 1))) <|
  jn_cons (⟨jn_istore_n_ok (i := 2) (k := 2) (by decide +kernel) rfl, jn_istore_n_mo 2⟩ : jn_GEm jn_G0 jn_me106 1 (.inl (jn_istore_n 2))) <|
  jn_cons (⟨jn_iconst_ok (by decide +kernel), jn_iconst_mo 0⟩ : jn_GEm jn_G0 jn_me106 2 (.inl (jn_iconst 0))) <|
  jn_cons (⟨jn_istore_n_ok (i := 3) (k := 3) (by decide +kernel) rfl, jn_istore_n_mo 3⟩ : jn_GEm jn_G0 jn_me106 3 (.inl (jn_istore_n 3))) <|
  jn_cons (⟨jn_iload_n_ok (i := 3) (k := 3) (by decide +kernel) rfl, jn_iload_n_mo 3⟩ : jn_GEm jn_G0 jn_me106 4 (.inl (jn_iload_n 3))) <|
  jn_cons (⟨jn_bipush_ok (n := 6) (v := 6) (by decide +kernel) (by decide), jn_bipush_mo 6⟩ : jn_GEm jn_G0 jn_me106 5 (.inl (jn_bipush 6))) <|
  jn_cons (⟨jn_icge_ok (t := 89) (off := 82) (by decide +kernel) (by decide), jn_icge_mo 89⟩ : jn_GEm jn_G0 jn_me106 7 (.inl (jn_icge 89))) <|
  jn_cons (⟨jn_iconst_ok (by decide +kernel), jn_iconst_mo 0⟩ : jn_GEm jn_G0 jn_me106 10 (.inl (jn_iconst 0))) <|
  jn_cons (⟨jn_istore_ok (i := 4) (by decide +kernel), jn_istore_mo 4⟩ : jn_GEm jn_G0 jn_me106 11 (.inl (jn_istore 4))) <|
  jn_cons (⟨jn_iload_ok (i := 4) (by decide +kernel), jn_iload_mo 4⟩ : jn_GEm jn_G0 jn_me106 13 (.inl (jn_iload 4))) <|
  jn_cons (⟨jn_aload_n_ok (i := 0) (k := 0) (by decide +kernel) rfl, jn_aload_n_mo 0⟩ : jn_GEm jn_G0 jn_me106 15 (.inl (jn_aload_n 0))) <|
  jn_cons (⟨jn_getf_ok (ci := 7) (k := 0) (i := 7) (N := 22) (C := RX7) (T := TX7) (by decide +kernel) rfl (by decide) jn_u7 (jn_in 615 (by decide +kernel) rfl), jn_getf_mo 7 0⟩ : jn_GEm jn_G0 jn_me106 16 (.inl (jn_getf 7 0))) <|
  jn_cons (⟨jn_iload_n_ok (i := 1) (k := 1) (by decide +kernel) rfl, jn_iload_n_mo 1⟩ : jn_GEm jn_G0 jn_me106 19 (.inl (jn_iload_n 1))) <|
  jn_cons (⟨jn_iaload_ok (by decide +kernel), jn_iaload_mo⟩ : jn_GEm jn_G0 jn_me106 20 (.inl jn_iaload)) <|
  jn_cons (⟨jn_icge_ok (t := 83) (off := 62) (by decide +kernel) (by decide), jn_icge_mo 83⟩ : jn_GEm jn_G0 jn_me106 21 (.inl (jn_icge 83))) <|
  jn_cons (⟨jn_iconst_ok (by decide +kernel), jn_iconst_mo 0⟩ : jn_GEm jn_G0 jn_me106 24 (.inl (jn_iconst 0))) <|
  jn_cons (⟨jn_istore_ok (i := 5) (by decide +kernel), jn_istore_mo 5⟩ : jn_GEm jn_G0 jn_me106 25 (.inl (jn_istore 5))) <|
  jn_cons (⟨jn_iload_ok (i := 5) (by decide +kernel), jn_iload_mo 5⟩ : jn_GEm jn_G0 jn_me106 27 (.inl (jn_iload 5))) <|
  jn_cons (⟨jn_aload_n_ok (i := 0) (k := 0) (by decide +kernel) rfl, jn_aload_n_mo 0⟩ : jn_GEm jn_G0 jn_me106 29 (.inl (jn_aload_n 0))) <|
  jn_cons (⟨jn_getf_ok (ci := 7) (k := 0) (i := 7) (N := 22) (C := RX7) (T := TX7) (by decide +kernel) rfl (by decide) jn_u7 (jn_in 615 (by decide +kernel) rfl), jn_getf_mo 7 0⟩ : jn_GEm jn_G0 jn_me106 30 (.inl (jn_getf 7 0))) <|
  jn_cons (⟨jn_iload_n_ok (i := 1) (k := 1) (by decide +kernel) rfl, jn_iload_n_mo 1⟩ : jn_GEm jn_G0 jn_me106 33 (.inl (jn_iload_n 1))) <|
  jn_cons (⟨jn_iaload_ok (by decide +kernel), jn_iaload_mo⟩ : jn_GEm jn_G0 jn_me106 34 (.inl jn_iaload)) <|
  jn_cons (⟨jn_icge_ok (t := 77) (off := 42) (by decide +kernel) (by decide), jn_icge_mo 77⟩ : jn_GEm jn_G0 jn_me106 35 (.inl (jn_icge 77))) <|
  jn_cons (⟨jn_iload_n_ok (i := 2) (k := 2) (by decide +kernel) rfl, jn_iload_n_mo 2⟩ : jn_GEm jn_G0 jn_me106 38 (.inl (jn_iload_n 2))) <| jn_nil
theorem jn_o106_1 : ∀ q ∈ jn_c106_1, jn_GEm jn_G0 jn_me106 q.1 q.2 :=
  jn_cons (⟨jn_iload_ok (i := 4) (by decide +kernel), jn_iload_mo 4⟩ : jn_GEm jn_G0 jn_me106 39 (.inl (jn_iload 4))) <|
  jn_cons (⟨jn_ishr_ok (by decide +kernel), jn_ishr_mo⟩ : jn_GEm jn_G0 jn_me106 41 (.inl jn_ishr)) <|
  jn_cons (⟨jn_iconst_ok (by decide +kernel), jn_iconst_mo 1⟩ : jn_GEm jn_G0 jn_me106 42 (.inl (jn_iconst 1))) <|
  jn_cons (⟨jn_iand_ok (by decide +kernel), jn_iand_mo⟩ : jn_GEm jn_G0 jn_me106 43 (.inl jn_iand)) <|
  jn_cons (⟨jn_iconst_ok (by decide +kernel), jn_iconst_mo 1⟩ : jn_GEm jn_G0 jn_me106 44 (.inl (jn_iconst 1))) <|
  jn_cons (⟨jn_icne_ok (t := 71) (off := 26) (by decide +kernel) (by decide), jn_icne_mo 71⟩ : jn_GEm jn_G0 jn_me106 45 (.inl (jn_icne 71))) <|
  jn_cons (⟨jn_aload_n_ok (i := 0) (k := 0) (by decide +kernel) rfl, jn_aload_n_mo 0⟩ : jn_GEm jn_G0 jn_me106 48 (.inl (jn_aload_n 0))) <|
  jn_cons (⟨jn_getf_ok (ci := 7) (k := 1) (i := 13) (N := 22) (C := RX7) (T := TX7) (by decide +kernel) rfl (by decide) jn_u7 (jn_in 616 (by decide +kernel) rfl), jn_getf_mo 7 1⟩ : jn_GEm jn_G0 jn_me106 49 (.inl (jn_getf 7 1))) <|
  jn_cons (⟨jn_iload_n_ok (i := 1) (k := 1) (by decide +kernel) rfl, jn_iload_n_mo 1⟩ : jn_GEm jn_G0 jn_me106 52 (.inl (jn_iload_n 1))) <|
  jn_cons (⟨jn_iload_ok (i := 4) (by decide +kernel), jn_iload_mo 4⟩ : jn_GEm jn_G0 jn_me106 53 (.inl (jn_iload 4))) <|
  jn_cons (⟨jn_iload_ok (i := 5) (by decide +kernel), jn_iload_mo 5⟩ : jn_GEm jn_G0 jn_me106 55 (.inl (jn_iload 5))) <|
  jn_cons (jn_gc_of jn_G0_100 (jn_callS (i := 99) (na := 3) (by decide +kernel) (jn_in 710 (by decide +kernel) rfl) (jn_in 708 (by decide +kernel) rfl) (jn_in 709 (by decide +kernel) rfl) (jn_in 60 (by decide +kernel) rfl) ⟨by decide, by decide, by decide +kernel⟩) : jn_GEm jn_G0 jn_me106 57 (.inr (.inl (100, 0, 3)))) <|
  jn_cons (⟨jn_iaload_ok (by decide +kernel), jn_iaload_mo⟩ : jn_GEm jn_G0 jn_me106 60 (.inl jn_iaload)) <|
  jn_cons (⟨jn_ifle_ok (t := 71) (off := 10) (by decide +kernel) (by decide), jn_ifle_mo 71⟩ : jn_GEm jn_G0 jn_me106 61 (.inl (jn_ifle 71))) <|
  jn_cons (⟨jn_iload_n_ok (i := 2) (k := 2) (by decide +kernel) rfl, jn_iload_n_mo 2⟩ : jn_GEm jn_G0 jn_me106 64 (.inl (jn_iload_n 2))) <|
  jn_cons (⟨jn_iconst_ok (by decide +kernel), jn_iconst_mo 1⟩ : jn_GEm jn_G0 jn_me106 65 (.inl (jn_iconst 1))) <|
  jn_cons (⟨jn_iload_ok (i := 5) (by decide +kernel), jn_iload_mo 5⟩ : jn_GEm jn_G0 jn_me106 66 (.inl (jn_iload 5))) <|
  jn_cons (⟨jn_ishl_ok (by decide +kernel), jn_ishl_mo⟩ : jn_GEm jn_G0 jn_me106 68 (.inl jn_ishl)) <|
  jn_cons (⟨jn_ior_ok (by decide +kernel), jn_ior_mo⟩ : jn_GEm jn_G0 jn_me106 69 (.inl jn_ior)) <|
  jn_cons (⟨jn_istore_n_ok (i := 2) (k := 2) (by decide +kernel) rfl, jn_istore_n_mo 2⟩ : jn_GEm jn_G0 jn_me106 70 (.inl (jn_istore_n 2))) <|
  jn_cons (⟨jn_iinc_ok (i := 5) (n := 1) (by decide +kernel), jn_iinc_mo 5 1⟩ : jn_GEm jn_G0 jn_me106 71 (.inl (jn_iinc 5 1))) <|
  jn_cons (⟨jn_goto_ok (t := 27) (off := -47) (by decide +kernel) (by decide), jn_goto_mo 27⟩ : jn_GEm jn_G0 jn_me106 74 (.inl (jn_goto 27))) <|
  jn_cons (⟨jn_iinc_ok (i := 4) (n := 1) (by decide +kernel), jn_iinc_mo 4 1⟩ : jn_GEm jn_G0 jn_me106 77 (.inl (jn_iinc 4 1))) <|
  jn_cons (⟨jn_goto_ok (t := 13) (off := -67) (by decide +kernel) (by decide), jn_goto_mo 13⟩ : jn_GEm jn_G0 jn_me106 80 (.inl (jn_goto 13))) <| jn_nil
theorem jn_o106_2 : ∀ q ∈ jn_c106_2, jn_GEm jn_G0 jn_me106 q.1 q.2 :=
  jn_cons (⟨jn_iinc_ok (i := 3) (n := 1) (by decide +kernel), jn_iinc_mo 3 1⟩ : jn_GEm jn_G0 jn_me106 83 (.inl (jn_iinc 3 1))) <|
  jn_cons (⟨jn_goto_ok (t := 4) (off := -82) (by decide +kernel) (by decide), jn_goto_mo 4⟩ : jn_GEm jn_G0 jn_me106 86 (.inl (jn_goto 4))) <|
  jn_cons (⟨jn_iload_n_ok (i := 2) (k := 2) (by decide +kernel) rfl, jn_iload_n_mo 2⟩ : jn_GEm jn_G0 jn_me106 89 (.inl (jn_iload_n 2))) <|
  jn_cons (⟨jn_iconst_ok (by decide +kernel), jn_iconst_mo 1⟩ : jn_GEm jn_G0 jn_me106 90 (.inl (jn_iconst 1))) <|
  jn_cons (⟨jn_aload_n_ok (i := 0) (k := 0) (by decide +kernel) rfl, jn_aload_n_mo 0⟩ : jn_GEm jn_G0 jn_me106 91 (.inl (jn_aload_n 0))) <|
  jn_cons (⟨jn_getf_ok (ci := 7) (k := 0) (i := 7) (N := 22) (C := RX7) (T := TX7) (by decide +kernel) rfl (by decide) jn_u7 (jn_in 615 (by decide +kernel) rfl), jn_getf_mo 7 0⟩ : jn_GEm jn_G0 jn_me106 92 (.inl (jn_getf 7 0))) <|
  jn_cons (⟨jn_iload_n_ok (i := 1) (k := 1) (by decide +kernel) rfl, jn_iload_n_mo 1⟩ : jn_GEm jn_G0 jn_me106 95 (.inl (jn_iload_n 1))) <|
  jn_cons (⟨jn_iaload_ok (by decide +kernel), jn_iaload_mo⟩ : jn_GEm jn_G0 jn_me106 96 (.inl jn_iaload)) <|
  jn_cons (⟨jn_ishl_ok (by decide +kernel), jn_ishl_mo⟩ : jn_GEm jn_G0 jn_me106 97 (.inl jn_ishl)) <|
  jn_cons (⟨jn_iconst_ok (by decide +kernel), jn_iconst_mo 1⟩ : jn_GEm jn_G0 jn_me106 98 (.inl (jn_iconst 1))) <|
  jn_cons (⟨jn_isub_ok (by decide +kernel), jn_isub_mo⟩ : jn_GEm jn_G0 jn_me106 99 (.inl jn_isub)) <|
  jn_cons (⟨jn_icne_ok (t := 107) (off := 7) (by decide +kernel) (by decide), jn_icne_mo 107⟩ : jn_GEm jn_G0 jn_me106 100 (.inl (jn_icne 107))) <|
  jn_cons (⟨jn_iconst_ok (by decide +kernel), jn_iconst_mo 1⟩ : jn_GEm jn_G0 jn_me106 103 (.inl (jn_iconst 1))) <|
  jn_cons (⟨jn_goto_ok (t := 108) (off := 4) (by decide +kernel) (by decide), jn_goto_mo 108⟩ : jn_GEm jn_G0 jn_me106 104 (.inl (jn_goto 108))) <|
  jn_cons (⟨jn_iconst_ok (by decide +kernel), jn_iconst_mo 0⟩ : jn_GEm jn_G0 jn_me106 107 (.inl (jn_iconst 0))) <|
  jn_cons (⟨(by decide +kernel), rfl⟩ : jn_GEm jn_G0 jn_me106 108 (.inr (.inr 2))) <| jn_nil
theorem jn_ok106 : jn_GM jn_G0 106 := jn_GM_of jn_G0_106 rfl rfl (by decide +kernel) (by decide) (jn_appd jn_o106_0 (jn_appd jn_o106_1 (jn_o106_2)))
theorem jn_o107_0 : ∀ q ∈ jn_c107_0, jn_GEm jn_G0 jn_me107 q.1 q.2 :=
  jn_cons (⟨jn_aload_n_ok (i := 0) (k := 0) (by decide +kernel) rfl, jn_aload_n_mo 0⟩ : jn_GEm jn_G0 jn_me107 0 (.inl (jn_aload_n 0))) <|
  jn_cons (⟨jn_iload_n_ok (i := 1) (k := 1) (by decide +kernel) rfl, jn_iload_n_mo 1⟩ : jn_GEm jn_G0 jn_me107 1 (.inl (jn_iload_n 1))) <|
  jn_cons (jn_gc_of jn_G0_106 (jn_callV (i := 110) (na := 1) (ci := 7) (q := (RX7, TX7, 22)) (by decide +kernel) rfl (jn_in 722 (by decide +kernel) rfl) (jn_in 719 (by decide +kernel) rfl) (jn_in 721 (by decide +kernel) rfl) (jn_in 23 (by decide +kernel) rfl) (jn_in 60 (by decide +kernel) rfl) ⟨by decide, by decide, by decide +kernel⟩) : jn_GEm jn_G0 jn_me107 2 (.inr (.inl (106, 9, 2)))) <|
  jn_cons (⟨jn_ifne_ok (t := 10) (off := 5) (by decide +kernel) (by decide), jn_ifne_mo 10⟩ : jn_GEm jn_G0 jn_me107 5 (.inl (jn_ifne 10))) <|
  jn_cons (⟨jn_iconst_ok (by decide +kernel), jn_iconst_mo 3⟩ : jn_GEm jn_G0 jn_me107 8 (.inl (jn_iconst 3))) <|
  jn_cons (⟨(by decide +kernel), rfl⟩ : jn_GEm jn_G0 jn_me107 9 (.inr (.inr 1))) <|
  jn_cons (⟨jn_aload_n_ok (i := 0) (k := 0) (by decide +kernel) rfl, jn_aload_n_mo 0⟩ : jn_GEm jn_G0 jn_me107 10 (.inl (jn_aload_n 0))) <|
  jn_cons (⟨jn_iload_n_ok (i := 1) (k := 1) (by decide +kernel) rfl, jn_iload_n_mo 1⟩ : jn_GEm jn_G0 jn_me107 11 (.inl (jn_iload_n 1))) <|
  jn_cons (jn_gc_of jn_G0_105 (jn_callV (i := 113) (na := 1) (ci := 7) (q := (RX7, TX7, 22)) (by decide +kernel) rfl (jn_in 726 (by decide +kernel) rfl) (jn_in 723 (by decide +kernel) rfl) (jn_in 725 (by decide +kernel) rfl) (jn_in 24 (by decide +kernel) rfl) (jn_in 60 (by decide +kernel) rfl) ⟨by decide, by decide, by decide +kernel⟩) : jn_GEm jn_G0 jn_me107 12 (.inr (.inl (105, 9, 2)))) <|
  jn_cons (⟨jn_ifne_ok (t := 20) (off := 5) (by decide +kernel) (by decide), jn_ifne_mo 20⟩ : jn_GEm jn_G0 jn_me107 15 (.inl (jn_ifne 20))) <|
  jn_cons (⟨jn_iconst_ok (by decide +kernel), jn_iconst_mo 0⟩ : jn_GEm jn_G0 jn_me107 18 (.inl (jn_iconst 0))) <|
  jn_cons (⟨(by decide +kernel), rfl⟩ : jn_GEm jn_G0 jn_me107 19 (.inr (.inr 1))) <|
  jn_cons (⟨jn_iconst_ok (by decide +kernel), jn_iconst_mo 1⟩ : jn_GEm jn_G0 jn_me107 20 (.inl (jn_iconst 1))) <|
  jn_cons (⟨jn_istore_n_ok (i := 2) (k := 2) (by decide +kernel) rfl, jn_istore_n_mo 2⟩ : jn_GEm jn_G0 jn_me107 21 (.inl (jn_istore_n 2))) <|
  jn_cons (⟨jn_iconst_ok (by decide +kernel), jn_iconst_mo 0⟩ : jn_GEm jn_G0 jn_me107 22 (.inl (jn_iconst 0))) <|
  jn_cons (⟨jn_istore_n_ok (i := 3) (k := 3) (by decide +kernel) rfl, jn_istore_n_mo 3⟩ : jn_GEm jn_G0 jn_me107 23 (.inl (jn_istore_n 3))) <|
  jn_cons (⟨jn_iload_n_ok (i := 3) (k := 3) (by decide +kernel) rfl, jn_iload_n_mo 3⟩ : jn_GEm jn_G0 jn_me107 24 (.inl (jn_iload_n 3))) <|
  jn_cons (⟨jn_aload_n_ok (i := 0) (k := 0) (by decide +kernel) rfl, jn_aload_n_mo 0⟩ : jn_GEm jn_G0 jn_me107 25 (.inl (jn_aload_n 0))) <|
  jn_cons (⟨jn_getf_ok (ci := 7) (k := 0) (i := 7) (N := 22) (C := RX7) (T := TX7) (by decide +kernel) rfl (by decide) jn_u7 (jn_in 615 (by decide +kernel) rfl), jn_getf_mo 7 0⟩ : jn_GEm jn_G0 jn_me107 26 (.inl (jn_getf 7 0))) <|
  jn_cons (⟨jn_iload_n_ok (i := 1) (k := 1) (by decide +kernel) rfl, jn_iload_n_mo 1⟩ : jn_GEm jn_G0 jn_me107 29 (.inl (jn_iload_n 1))) <|
  jn_cons (⟨jn_iaload_ok (by decide +kernel), jn_iaload_mo⟩ : jn_GEm jn_G0 jn_me107 30 (.inl jn_iaload)) <|
  jn_cons (⟨jn_icge_ok (t := 60) (off := 29) (by decide +kernel) (by decide), jn_icge_mo 60⟩ : jn_GEm jn_G0 jn_me107 31 (.inl (jn_icge 60))) <|
  jn_cons (⟨jn_iload_n_ok (i := 2) (k := 2) (by decide +kernel) rfl, jn_iload_n_mo 2⟩ : jn_GEm jn_G0 jn_me107 34 (.inl (jn_iload_n 2))) <|
  jn_cons (⟨jn_ifeq_ok (t := 52) (off := 17) (by decide +kernel) (by decide), jn_ifeq_mo 52⟩ : jn_GEm jn_G0 jn_me107 35 (.inl (jn_ifeq 52))) <| jn_nil
theorem jn_o107_1 : ∀ q ∈ jn_c107_1, jn_GEm jn_G0 jn_me107 q.1 q.2 :=
  jn_cons (⟨jn_aload_n_ok (i := 0) (k := 0) (by decide +kernel) rfl, jn_aload_n_mo 0⟩ : jn_GEm jn_G0 jn_me107 38 (.inl (jn_aload_n 0))) <|
  jn_cons (⟨jn_iload_n_ok (i := 1) (k := 1) (by decide +kernel) rfl, jn_iload_n_mo 1⟩ : jn_GEm jn_G0 jn_me107 39 (.inl (jn_iload_n 1))) <|
  jn_cons (⟨jn_iload_n_ok (i := 3) (k := 3) (by decide +kernel) rfl, jn_iload_n_mo 3⟩ : jn_GEm jn_G0 jn_me107 40 (.inl (jn_iload_n 3))) <|
  jn_cons (jn_gc_of jn_G0_103 (jn_callV (i := 103) (na := 2) (ci := 7) (q := (RX7, TX7, 22)) (by decide +kernel) rfl (jn_in 734 (by decide +kernel) rfl) (jn_in 731 (by decide +kernel) rfl) (jn_in 733 (by decide +kernel) rfl) (jn_in 26 (by decide +kernel) rfl) (jn_in 60 (by decide +kernel) rfl) ⟨by decide, by decide, by decide +kernel⟩) : jn_GEm jn_G0 jn_me107 41 (.inr (.inl (103, 9, 3)))) <|
  jn_cons (⟨jn_iconst_ok (by decide +kernel), jn_iconst_mo 2⟩ : jn_GEm jn_G0 jn_me107 44 (.inl (jn_iconst 2))) <|
  jn_cons (⟨jn_icne_ok (t := 52) (off := 7) (by decide +kernel) (by decide), jn_icne_mo 52⟩ : jn_GEm jn_G0 jn_me107 45 (.inl (jn_icne 52))) <|
  jn_cons (⟨jn_iconst_ok (by decide +kernel), jn_iconst_mo 1⟩ : jn_GEm jn_G0 jn_me107 48 (.inl (jn_iconst 1))) <|
  jn_cons (⟨jn_goto_ok (t := 53) (off := 4) (by decide +kernel) (by decide), jn_goto_mo 53⟩ : jn_GEm jn_G0 jn_me107 49 (.inl (jn_goto 53))) <|
  jn_cons (⟨jn_iconst_ok (by decide +kernel), jn_iconst_mo 0⟩ : jn_GEm jn_G0 jn_me107 52 (.inl (jn_iconst 0))) <|
  jn_cons (⟨jn_istore_n_ok (i := 2) (k := 2) (by decide +kernel) rfl, jn_istore_n_mo 2⟩ : jn_GEm jn_G0 jn_me107 53 (.inl (jn_istore_n 2))) <|
  jn_cons (⟨jn_iinc_ok (i := 3) (n := 1) (by decide +kernel), jn_iinc_mo 3 1⟩ : jn_GEm jn_G0 jn_me107 54 (.inl (jn_iinc 3 1))) <|
  jn_cons (⟨jn_goto_ok (t := 24) (off := -33) (by decide +kernel) (by decide), jn_goto_mo 24⟩ : jn_GEm jn_G0 jn_me107 57 (.inl (jn_goto 24))) <|
  jn_cons (⟨jn_iload_n_ok (i := 2) (k := 2) (by decide +kernel) rfl, jn_iload_n_mo 2⟩ : jn_GEm jn_G0 jn_me107 60 (.inl (jn_iload_n 2))) <|
  jn_cons (⟨jn_ifeq_ok (t := 68) (off := 7) (by decide +kernel) (by decide), jn_ifeq_mo 68⟩ : jn_GEm jn_G0 jn_me107 61 (.inl (jn_ifeq 68))) <|
  jn_cons (⟨jn_iconst_ok (by decide +kernel), jn_iconst_mo 1⟩ : jn_GEm jn_G0 jn_me107 64 (.inl (jn_iconst 1))) <|
  jn_cons (⟨jn_goto_ok (t := 83) (off := 18) (by decide +kernel) (by decide), jn_goto_mo 83⟩ : jn_GEm jn_G0 jn_me107 65 (.inl (jn_goto 83))) <|
  jn_cons (⟨jn_aload_n_ok (i := 0) (k := 0) (by decide +kernel) rfl, jn_aload_n_mo 0⟩ : jn_GEm jn_G0 jn_me107 68 (.inl (jn_aload_n 0))) <|
  jn_cons (⟨jn_getf_ok (ci := 7) (k := 0) (i := 7) (N := 22) (C := RX7) (T := TX7) (by decide +kernel) rfl (by decide) jn_u7 (jn_in 615 (by decide +kernel) rfl), jn_getf_mo 7 0⟩ : jn_GEm jn_G0 jn_me107 69 (.inl (jn_getf 7 0))) <|
  jn_cons (⟨jn_iload_n_ok (i := 1) (k := 1) (by decide +kernel) rfl, jn_iload_n_mo 1⟩ : jn_GEm jn_G0 jn_me107 72 (.inl (jn_iload_n 1))) <|
  jn_cons (⟨jn_iaload_ok (by decide +kernel), jn_iaload_mo⟩ : jn_GEm jn_G0 jn_me107 73 (.inl jn_iaload)) <|
  jn_cons (⟨jn_iconst_ok (by decide +kernel), jn_iconst_mo 2⟩ : jn_GEm jn_G0 jn_me107 74 (.inl (jn_iconst 2))) <|
  jn_cons (⟨jn_icne_ok (t := 82) (off := 7) (by decide +kernel) (by decide), jn_icne_mo 82⟩ : jn_GEm jn_G0 jn_me107 75 (.inl (jn_icne 82))) <|
  jn_cons (⟨jn_iconst_ok (by decide +kernel), jn_iconst_mo 2⟩ : jn_GEm jn_G0 jn_me107 78 (.inl (jn_iconst 2))) <|
  jn_cons (⟨jn_goto_ok (t := 83) (off := 4) (by decide +kernel) (by decide), jn_goto_mo 83⟩ : jn_GEm jn_G0 jn_me107 79 (.inl (jn_goto 83))) <| jn_nil
theorem jn_o107_2 : ∀ q ∈ jn_c107_2, jn_GEm jn_G0 jn_me107 q.1 q.2 :=
  jn_cons (⟨jn_iconst_ok (by decide +kernel), jn_iconst_mo 3⟩ : jn_GEm jn_G0 jn_me107 82 (.inl (jn_iconst 3))) <|
  jn_cons (⟨(by decide +kernel), rfl⟩ : jn_GEm jn_G0 jn_me107 83 (.inr (.inr 1))) <| jn_nil
theorem jn_ok107 : jn_GM jn_G0 107 := jn_GM_of jn_G0_107 rfl rfl (by decide +kernel) (by decide) (jn_appd jn_o107_0 (jn_appd jn_o107_1 (jn_o107_2)))
theorem jn_o108_0 : ∀ q ∈ jn_c108_0, jn_GEm jn_G0 jn_me108 q.1 q.2 :=
  jn_cons (⟨jn_aload_n_ok (i := 0) (k := 0) (by decide +kernel) rfl, jn_aload_n_mo 0⟩ : jn_GEm jn_G0 jn_me108 0 (.inl (jn_aload_n 0))) <|
  jn_cons (⟨jn_iload_n_ok (i := 1) (k := 1) (by decide +kernel) rfl, jn_iload_n_mo 1⟩ : jn_GEm jn_G0 jn_me108 1 (.inl (jn_iload_n 1))) <|
  jn_cons (jn_gc_of jn_G0_97 (jn_callV (i := 80) (na := 1) (ci := 7) (q := (RX7, TX7, 22)) (by decide +kernel) rfl (jn_in 706 (by decide +kernel) rfl) (jn_in 703 (by decide +kernel) rfl) (jn_in 705 (by decide +kernel) rfl) (jn_in 21 (by decide +kernel) rfl) (jn_in 60 (by decide +kernel) rfl) ⟨by decide, by decide, by decide +kernel⟩) : jn_GEm jn_G0 jn_me108 2 (.inr (.inl (97, 9, 2)))) <|
  jn_cons (⟨jn_ifne_ok (t := 15) (off := 10) (by decide +kernel) (by decide), jn_ifne_mo 15⟩ : jn_GEm jn_G0 jn_me108 5 (.inl (jn_ifne 15))) <|
  jn_cons (⟨jn_aload_n_ok (i := 0) (k := 0) (by decide +kernel) rfl, jn_aload_n_mo 0⟩ : jn_GEm jn_G0 jn_me108 8 (.inl (jn_aload_n 0))) <|
  jn_cons (⟨jn_bipush_ok (n := (-3)) (v := (-3)) (by decide +kernel) (by decide), jn_bipush_mo (-3)⟩ : jn_GEm jn_G0 jn_me108 9 (.inl (jn_bipush (-3)))) <|
  jn_cons (jn_gc_of jn_G0_95 (jn_callV (i := 73) (na := 1) (ci := 7) (q := (RX7, TX7, 22)) (by decide +kernel) rfl (jn_in 694 (by decide +kernel) rfl) (jn_in 691 (by decide +kernel) rfl) (jn_in 693 (by decide +kernel) rfl) (jn_in 19 (by decide +kernel) rfl) (jn_in 60 (by decide +kernel) rfl) ⟨by decide, by decide, by decide +kernel⟩) : jn_GEm jn_G0 jn_me108 11 (.inr (.inl (95, 9, 2)))) <|
  jn_cons (⟨(by decide +kernel), rfl⟩ : jn_GEm jn_G0 jn_me108 14 (.inr (.inr 1))) <|
  jn_cons (⟨jn_iload_n_ok (i := 2) (k := 2) (by decide +kernel) rfl, jn_iload_n_mo 2⟩ : jn_GEm jn_G0 jn_me108 15 (.inl (jn_iload_n 2))) <|
  jn_cons (⟨jn_table_ok (dflt := 75) (lo := 0) (hi := 4) (offs := #[36, 42, 49, 55, 61]) (len := 36) (by decide +kernel) (by decide) (by decide), jn_table_mo 0 4 [52, 58, 65, 71, 77] 91⟩ : jn_GEm jn_G0 jn_me108 16 (.inl (jn_table 0 4 [52, 58, 65, 71, 77] 91))) <|
  jn_cons (⟨jn_aload_n_ok (i := 0) (k := 0) (by decide +kernel) rfl, jn_aload_n_mo 0⟩ : jn_GEm jn_G0 jn_me108 52 (.inl (jn_aload_n 0))) <|
  jn_cons (⟨jn_iload_n_ok (i := 1) (k := 1) (by decide +kernel) rfl, jn_iload_n_mo 1⟩ : jn_GEm jn_G0 jn_me108 53 (.inl (jn_iload_n 1))) <|
  jn_cons (jn_gc_of jn_G0_107 (jn_callV (i := 116) (na := 1) (ci := 7) (q := (RX7, TX7, 22)) (by decide +kernel) rfl (jn_in 718 (by decide +kernel) rfl) (jn_in 715 (by decide +kernel) rfl) (jn_in 717 (by decide +kernel) rfl) (jn_in 22 (by decide +kernel) rfl) (jn_in 60 (by decide +kernel) rfl) ⟨by decide, by decide, by decide +kernel⟩) : jn_GEm jn_G0 jn_me108 54 (.inr (.inl (107, 9, 2)))) <|
  jn_cons (⟨(by decide +kernel), rfl⟩ : jn_GEm jn_G0 jn_me108 57 (.inr (.inr 1))) <|
  jn_cons (⟨jn_aload_n_ok (i := 0) (k := 0) (by decide +kernel) rfl, jn_aload_n_mo 0⟩ : jn_GEm jn_G0 jn_me108 58 (.inl (jn_aload_n 0))) <|
  jn_cons (⟨jn_getf_ok (ci := 7) (k := 0) (i := 7) (N := 22) (C := RX7) (T := TX7) (by decide +kernel) rfl (by decide) jn_u7 (jn_in 615 (by decide +kernel) rfl), jn_getf_mo 7 0⟩ : jn_GEm jn_G0 jn_me108 59 (.inl (jn_getf 7 0))) <|
  jn_cons (⟨jn_iload_n_ok (i := 1) (k := 1) (by decide +kernel) rfl, jn_iload_n_mo 1⟩ : jn_GEm jn_G0 jn_me108 62 (.inl (jn_iload_n 1))) <|
  jn_cons (⟨jn_iaload_ok (by decide +kernel), jn_iaload_mo⟩ : jn_GEm jn_G0 jn_me108 63 (.inl jn_iaload)) <|
  jn_cons (⟨(by decide +kernel), rfl⟩ : jn_GEm jn_G0 jn_me108 64 (.inr (.inr 1))) <|
  jn_cons (⟨jn_aload_n_ok (i := 0) (k := 0) (by decide +kernel) rfl, jn_aload_n_mo 0⟩ : jn_GEm jn_G0 jn_me108 65 (.inl (jn_aload_n 0))) <|
  jn_cons (⟨jn_iload_n_ok (i := 1) (k := 1) (by decide +kernel) rfl, jn_iload_n_mo 1⟩ : jn_GEm jn_G0 jn_me108 66 (.inl (jn_iload_n 1))) <|
  jn_cons (jn_gc_of jn_G0_104 (jn_callV (i := 107) (na := 1) (ci := 7) (q := (RX7, TX7, 22)) (by decide +kernel) rfl (jn_in 730 (by decide +kernel) rfl) (jn_in 727 (by decide +kernel) rfl) (jn_in 729 (by decide +kernel) rfl) (jn_in 25 (by decide +kernel) rfl) (jn_in 60 (by decide +kernel) rfl) ⟨by decide, by decide, by decide +kernel⟩) : jn_GEm jn_G0 jn_me108 67 (.inr (.inl (104, 9, 2)))) <|
  jn_cons (⟨(by decide +kernel), rfl⟩ : jn_GEm jn_G0 jn_me108 70 (.inr (.inr 1))) <|
  jn_cons (⟨jn_aload_n_ok (i := 0) (k := 0) (by decide +kernel) rfl, jn_aload_n_mo 0⟩ : jn_GEm jn_G0 jn_me108 71 (.inl (jn_aload_n 0))) <| jn_nil
theorem jn_o108_1 : ∀ q ∈ jn_c108_1, jn_GEm jn_G0 jn_me108 q.1 q.2 :=
  jn_cons (⟨jn_iload_n_ok (i := 1) (k := 1) (by decide +kernel) rfl, jn_iload_n_mo 1⟩ : jn_GEm jn_G0 jn_me108 72 (.inl (jn_iload_n 1))) <|
  jn_cons (jn_gc_of jn_G0_105 (jn_callV (i := 113) (na := 1) (ci := 7) (q := (RX7, TX7, 22)) (by decide +kernel) rfl (jn_in 726 (by decide +kernel) rfl) (jn_in 723 (by decide +kernel) rfl) (jn_in 725 (by decide +kernel) rfl) (jn_in 24 (by decide +kernel) rfl) (jn_in 60 (by decide +kernel) rfl) ⟨by decide, by decide, by decide +kernel⟩) : jn_GEm jn_G0 jn_me108 73 (.inr (.inl (105, 9, 2)))) <|
  jn_cons (⟨(by decide +kernel), rfl⟩ : jn_GEm jn_G0 jn_me108 76 (.inr (.inr 1))) <|
  jn_cons (⟨jn_aload_n_ok (i := 0) (k := 0) (by decide +kernel) rfl, jn_aload_n_mo 0⟩ : jn_GEm jn_G0 jn_me108 77 (.inl (jn_aload_n 0))) <|
  jn_cons (⟨jn_iload_n_ok (i := 1) (k := 1) (by decide +kernel) rfl, jn_iload_n_mo 1⟩ : jn_GEm jn_G0 jn_me108 78 (.inl (jn_iload_n 1))) <|
  jn_cons (jn_gc_of jn_G0_106 (jn_callV (i := 110) (na := 1) (ci := 7) (q := (RX7, TX7, 22)) (by decide +kernel) rfl (jn_in 722 (by decide +kernel) rfl) (jn_in 719 (by decide +kernel) rfl) (jn_in 721 (by decide +kernel) rfl) (jn_in 23 (by decide +kernel) rfl) (jn_in 60 (by decide +kernel) rfl) ⟨by decide, by decide, by decide +kernel⟩) : jn_GEm jn_G0 jn_me108 79 (.inr (.inl (106, 9, 2)))) <|
  jn_cons (⟨jn_ifeq_ok (t := 89) (off := 7) (by decide +kernel) (by decide), jn_ifeq_mo 89⟩ : jn_GEm jn_G0 jn_me108 82 (.inl (jn_ifeq 89))) <|
  jn_cons (⟨jn_iconst_ok (by decide +kernel), jn_iconst_mo 1⟩ : jn_GEm jn_G0 jn_me108 85 (.inl (jn_iconst 1))) <|
  jn_cons (⟨jn_goto_ok (t := 90) (off := 4) (by decide +kernel) (by decide), jn_goto_mo 90⟩ : jn_GEm jn_G0 jn_me108 86 (.inl (jn_goto 90))) <|
  jn_cons (⟨jn_iconst_ok (by decide +kernel), jn_iconst_mo 0⟩ : jn_GEm jn_G0 jn_me108 89 (.inl (jn_iconst 0))) <|
  jn_cons (⟨(by decide +kernel), rfl⟩ : jn_GEm jn_G0 jn_me108 90 (.inr (.inr 1))) <|
  jn_cons (⟨jn_aload_n_ok (i := 0) (k := 0) (by decide +kernel) rfl, jn_aload_n_mo 0⟩ : jn_GEm jn_G0 jn_me108 91 (.inl (jn_aload_n 0))) <|
  jn_cons (⟨jn_bipush_ok (n := (-7)) (v := (-7)) (by decide +kernel) (by decide), jn_bipush_mo (-7)⟩ : jn_GEm jn_G0 jn_me108 92 (.inl (jn_bipush (-7)))) <|
  jn_cons (jn_gc_of jn_G0_95 (jn_callV (i := 73) (na := 1) (ci := 7) (q := (RX7, TX7, 22)) (by decide +kernel) rfl (jn_in 694 (by decide +kernel) rfl) (jn_in 691 (by decide +kernel) rfl) (jn_in 693 (by decide +kernel) rfl) (jn_in 19 (by decide +kernel) rfl) (jn_in 60 (by decide +kernel) rfl) ⟨by decide, by decide, by decide +kernel⟩) : jn_GEm jn_G0 jn_me108 94 (.inr (.inl (95, 9, 2)))) <|
  jn_cons (⟨(by decide +kernel), rfl⟩ : jn_GEm jn_G0 jn_me108 97 (.inr (.inr 1))) <| jn_nil
theorem jn_ok108 : jn_GM jn_G0 108 := jn_GM_of jn_G0_108 rfl rfl (by decide +kernel) (by decide) (jn_appd jn_o108_0 (jn_o108_1))
theorem jn_o109_0 : ∀ q ∈ jn_c109_0, jn_GEm jn_G0 jn_me109 q.1 q.2 :=
  jn_cons (⟨jn_aload_n_ok (i := 0) (k := 0) (by decide +kernel) rfl, jn_aload_n_mo 0⟩ : jn_GEm jn_G0 jn_me109 0 (.inl (jn_aload_n 0))) <|
  jn_cons (⟨jn_iload_n_ok (i := 1) (k := 1) (by decide +kernel) rfl, jn_iload_n_mo 1⟩ : jn_GEm jn_G0 jn_me109 1 (.inl (jn_iload_n 1))) <|
  jn_cons (⟨jn_iload_n_ok (i := 2) (k := 2) (by decide +kernel) rfl, jn_iload_n_mo 2⟩ : jn_GEm jn_G0 jn_me109 2 (.inl (jn_iload_n 2))) <|
  jn_cons (jn_gc_of jn_G0_98 (jn_callV (i := 93) (na := 2) (ci := 7) (q := (RX7, TX7, 22)) (by decide +kernel) rfl (jn_in 702 (by decide +kernel) rfl) (jn_in 699 (by decide +kernel) rfl) (jn_in 701 (by decide +kernel) rfl) (jn_in 20 (by decide +kernel) rfl) (jn_in 60 (by decide +kernel) rfl) ⟨by decide, by decide, by decide +kernel⟩) : jn_GEm jn_G0 jn_me109 3 (.inr (.inl (98, 9, 3)))) <|
  jn_cons (⟨jn_ifeq_ok (t := 23) (off := 17) (by decide +kernel) (by decide), jn_ifeq_mo 23⟩ : jn_GEm jn_G0 jn_me109 6 (.inl (jn_ifeq 23))) <|
  jn_cons (⟨jn_iload_n_ok (i := 3) (k := 3) (by decide +kernel) rfl, jn_iload_n_mo 3⟩ : jn_GEm jn_G0 jn_me109 9 (.inl (jn_iload_n 3))) <|
  jn_cons (⟨jn_iconst_ok (by decide +kernel), jn_iconst_mo (-1)⟩ : jn_GEm jn_G0 jn_me109 10 (.inl (jn_iconst (-1)))) <|
  jn_cons (⟨jn_iceq_ok (t := 30) (off := 19) (by decide +kernel) (by decide), jn_iceq_mo 30⟩ : jn_GEm jn_G0 jn_me109 11 (.inl (jn_iceq 30))) <|
  jn_cons (⟨jn_aload_n_ok (i := 0) (k := 0) (by decide +kernel) rfl, jn_aload_n_mo 0⟩ : jn_GEm jn_G0 jn_me109 14 (.inl (jn_aload_n 0))) <|
  jn_cons (⟨jn_iload_n_ok (i := 1) (k := 1) (by decide +kernel) rfl, jn_iload_n_mo 1⟩ : jn_GEm jn_G0 jn_me109 15 (.inl (jn_iload_n 1))) <|
  jn_cons (⟨jn_iload_n_ok (i := 3) (k := 3) (by decide +kernel) rfl, jn_iload_n_mo 3⟩ : jn_GEm jn_G0 jn_me109 16 (.inl (jn_iload_n 3))) <|
  jn_cons (jn_gc_of jn_G0_98 (jn_callV (i := 93) (na := 2) (ci := 7) (q := (RX7, TX7, 22)) (by decide +kernel) rfl (jn_in 702 (by decide +kernel) rfl) (jn_in 699 (by decide +kernel) rfl) (jn_in 701 (by decide +kernel) rfl) (jn_in 20 (by decide +kernel) rfl) (jn_in 60 (by decide +kernel) rfl) ⟨by decide, by decide, by decide +kernel⟩) : jn_GEm jn_G0 jn_me109 17 (.inr (.inl (98, 9, 3)))) <|
  jn_cons (⟨jn_ifne_ok (t := 30) (off := 10) (by decide +kernel) (by decide), jn_ifne_mo 30⟩ : jn_GEm jn_G0 jn_me109 20 (.inl (jn_ifne 30))) <|
  jn_cons (⟨jn_aload_n_ok (i := 0) (k := 0) (by decide +kernel) rfl, jn_aload_n_mo 0⟩ : jn_GEm jn_G0 jn_me109 23 (.inl (jn_aload_n 0))) <|
  jn_cons (⟨jn_bipush_ok (n := (-3)) (v := (-3)) (by decide +kernel) (by decide), jn_bipush_mo (-3)⟩ : jn_GEm jn_G0 jn_me109 24 (.inl (jn_bipush (-3)))) <|
  jn_cons (jn_gc_of jn_G0_95 (jn_callV (i := 73) (na := 1) (ci := 7) (q := (RX7, TX7, 22)) (by decide +kernel) rfl (jn_in 694 (by decide +kernel) rfl) (jn_in 691 (by decide +kernel) rfl) (jn_in 693 (by decide +kernel) rfl) (jn_in 19 (by decide +kernel) rfl) (jn_in 60 (by decide +kernel) rfl) ⟨by decide, by decide, by decide +kernel⟩) : jn_GEm jn_G0 jn_me109 26 (.inr (.inl (95, 9, 2)))) <|
  jn_cons (⟨(by decide +kernel), rfl⟩ : jn_GEm jn_G0 jn_me109 29 (.inr (.inr 1))) <|
  jn_cons (⟨jn_iload_n_ok (i := 3) (k := 3) (by decide +kernel) rfl, jn_iload_n_mo 3⟩ : jn_GEm jn_G0 jn_me109 30 (.inl (jn_iload_n 3))) <|
  jn_cons (⟨jn_iconst_ok (by decide +kernel), jn_iconst_mo (-1)⟩ : jn_GEm jn_G0 jn_me109 31 (.inl (jn_iconst (-1)))) <|
  jn_cons (⟨jn_icne_ok (t := 44) (off := 12) (by decide +kernel) (by decide), jn_icne_mo 44⟩ : jn_GEm jn_G0 jn_me109 32 (.inl (jn_icne 44))) <|
  jn_cons (⟨jn_aload_n_ok (i := 0) (k := 0) (by decide +kernel) rfl, jn_aload_n_mo 0⟩ : jn_GEm jn_G0 jn_me109 35 (.inl (jn_aload_n 0))) <|
  jn_cons (⟨jn_iload_n_ok (i := 1) (k := 1) (by decide +kernel) rfl, jn_iload_n_mo 1⟩ : jn_GEm jn_G0 jn_me109 36 (.inl (jn_iload_n 1))) <|
  jn_cons (⟨jn_iload_n_ok (i := 2) (k := 2) (by decide +kernel) rfl, jn_iload_n_mo 2⟩ : jn_GEm jn_G0 jn_me109 37 (.inl (jn_iload_n 2))) <|
  jn_cons (jn_gc_of jn_G0_103 (jn_callV (i := 103) (na := 2) (ci := 7) (q := (RX7, TX7, 22)) (by decide +kernel) rfl (jn_in 734 (by decide +kernel) rfl) (jn_in 731 (by decide +kernel) rfl) (jn_in 733 (by decide +kernel) rfl) (jn_in 26 (by decide +kernel) rfl) (jn_in 60 (by decide +kernel) rfl) ⟨by decide, by decide, by decide +kernel⟩) : jn_GEm jn_G0 jn_me109 38 (.inr (.inl (103, 9, 3)))) <| jn_nil
theorem jn_o109_1 : ∀ q ∈ jn_c109_1, jn_GEm jn_G0 jn_me109 q.1 q.2 :=
  jn_cons (⟨jn_goto_ok (t := 55) (off := 14) (by decide +kernel) (by decide), jn_goto_mo 55⟩ : jn_GEm jn_G0 jn_me109 41 (.inl (jn_goto 55))) <|
  jn_cons (⟨jn_aload_n_ok (i := 0) (k := 0) (by decide +kernel) rfl, jn_aload_n_mo 0⟩ : jn_GEm jn_G0 jn_me109 44 (.inl (jn_aload_n 0))) <|
  jn_cons (⟨jn_getf_ok (ci := 7) (k := 1) (i := 13) (N := 22) (C := RX7) (T := TX7) (by decide +kernel) rfl (by decide) jn_u7 (jn_in 616 (by decide +kernel) rfl), jn_getf_mo 7 1⟩ : jn_GEm jn_G0 jn_me109 45 (.inl (jn_getf 7 1))) <|
  jn_cons (⟨jn_iload_n_ok (i := 1) (k := 1) (by decide +kernel) rfl, jn_iload_n_mo 1⟩ : jn_GEm jn_G0 jn_me109 48 (.inl (jn_iload_n 1))) <|
  jn_cons (⟨jn_iload_n_ok (i := 2) (k := 2) (by decide +kernel) rfl, jn_iload_n_mo 2⟩ : jn_GEm jn_G0 jn_me109 49 (.inl (jn_iload_n 2))) <|
  jn_cons (⟨jn_iload_n_ok (i := 3) (k := 3) (by decide +kernel) rfl, jn_iload_n_mo 3⟩ : jn_GEm jn_G0 jn_me109 50 (.inl (jn_iload_n 3))) <|
  jn_cons (jn_gc_of jn_G0_100 (jn_callS (i := 99) (na := 3) (by decide +kernel) (jn_in 710 (by decide +kernel) rfl) (jn_in 708 (by decide +kernel) rfl) (jn_in 709 (by decide +kernel) rfl) (jn_in 60 (by decide +kernel) rfl) ⟨by decide, by decide, by decide +kernel⟩) : jn_GEm jn_G0 jn_me109 51 (.inr (.inl (100, 0, 3)))) <|
  jn_cons (⟨jn_iaload_ok (by decide +kernel), jn_iaload_mo⟩ : jn_GEm jn_G0 jn_me109 54 (.inl jn_iaload)) <|
  jn_cons (⟨(by decide +kernel), rfl⟩ : jn_GEm jn_G0 jn_me109 55 (.inr (.inr 1))) <| jn_nil
theorem jn_ok109 : jn_GM jn_G0 109 := jn_GM_of jn_G0_109 rfl rfl (by decide +kernel) (by decide) (jn_appd jn_o109_0 (jn_o109_1))
theorem jn_o110_0 : ∀ q ∈ jn_c110_0, jn_GEm jn_G0 jn_me110 q.1 q.2 :=
  jn_cons (⟨jn_iload_n_ok (i := 2) (k := 2) (by decide +kernel) rfl, jn_iload_n_mo 2⟩ : jn_GEm jn_G0 jn_me110 0 (.inl (jn_iload_n 2))) <|
  jn_cons (⟨jn_iload_n_ok (i := 3) (k := 3) (by decide +kernel) rfl, jn_iload_n_mo 3⟩ : jn_GEm jn_G0 jn_me110 1 (.inl (jn_iload_n 3))) <|
  jn_cons (⟨jn_icne_ok (t := 15) (off := 13) (by decide +kernel) (by decide), jn_icne_mo 15⟩ : jn_GEm jn_G0 jn_me110 2 (.inl (jn_icne 15))) <|
  jn_cons (⟨jn_aload_n_ok (i := 0) (k := 0) (by decide +kernel) rfl, jn_aload_n_mo 0⟩ : jn_GEm jn_G0 jn_me110 5 (.inl (jn_aload_n 0))) <|
  jn_cons (⟨jn_iload_n_ok (i := 1) (k := 1) (by decide +kernel) rfl, jn_iload_n_mo 1⟩ : jn_GEm jn_G0 jn_me110 6 (.inl (jn_iload_n 1))) <|
  jn_cons (⟨jn_iload_n_ok (i := 2) (k := 2) (by decide +kernel) rfl, jn_iload_n_mo 2⟩ : jn_GEm jn_G0 jn_me110 7 (.inl (jn_iload_n 2))) <|
  jn_cons (jn_gc_of jn_G0_103 (jn_callV (i := 103) (na := 2) (ci := 7) (q := (RX7, TX7, 22)) (by decide +kernel) rfl (jn_in 734 (by decide +kernel) rfl) (jn_in 731 (by decide +kernel) rfl) (jn_in 733 (by decide +kernel) rfl) (jn_in 26 (by decide +kernel) rfl) (jn_in 60 (by decide +kernel) rfl) ⟨by decide, by decide, by decide +kernel⟩) : jn_GEm jn_G0 jn_me110 8 (.inr (.inl (103, 9, 3)))) <|
  jn_cons (⟨jn_i2l_ok (by decide +kernel), jn_i2l_mo⟩ : jn_GEm jn_G0 jn_me110 11 (.inl jn_i2l)) <|
  jn_cons (⟨jn_goto_ok (t := 28) (off := 16) (by decide +kernel) (by decide), jn_goto_mo 28⟩ : jn_GEm jn_G0 jn_me110 12 (.inl (jn_goto 28))) <|
  jn_cons (⟨jn_aload_n_ok (i := 0) (k := 0) (by decide +kernel) rfl, jn_aload_n_mo 0⟩ : jn_GEm jn_G0 jn_me110 15 (.inl (jn_aload_n 0))) <|
  jn_cons (⟨jn_getf_ok (ci := 7) (k := 1) (i := 13) (N := 22) (C := RX7) (T := TX7) (by decide +kernel) rfl (by decide) jn_u7 (jn_in 616 (by decide +kernel) rfl), jn_getf_mo 7 1⟩ : jn_GEm jn_G0 jn_me110 16 (.inl (jn_getf 7 1))) <|
  jn_cons (⟨jn_iload_n_ok (i := 1) (k := 1) (by decide +kernel) rfl, jn_iload_n_mo 1⟩ : jn_GEm jn_G0 jn_me110 19 (.inl (jn_iload_n 1))) <|
  jn_cons (⟨jn_iload_n_ok (i := 2) (k := 2) (by decide +kernel) rfl, jn_iload_n_mo 2⟩ : jn_GEm jn_G0 jn_me110 20 (.inl (jn_iload_n 2))) <|
  jn_cons (⟨jn_iload_n_ok (i := 3) (k := 3) (by decide +kernel) rfl, jn_iload_n_mo 3⟩ : jn_GEm jn_G0 jn_me110 21 (.inl (jn_iload_n 3))) <|
  jn_cons (jn_gc_of jn_G0_100 (jn_callS (i := 99) (na := 3) (by decide +kernel) (jn_in 710 (by decide +kernel) rfl) (jn_in 708 (by decide +kernel) rfl) (jn_in 709 (by decide +kernel) rfl) (jn_in 60 (by decide +kernel) rfl) ⟨by decide, by decide, by decide +kernel⟩) : jn_GEm jn_G0 jn_me110 22 (.inr (.inl (100, 0, 3)))) <|
  jn_cons (⟨jn_iaload_ok (by decide +kernel), jn_iaload_mo⟩ : jn_GEm jn_G0 jn_me110 25 (.inl jn_iaload)) <|
  jn_cons (⟨jn_ineg_ok (by decide +kernel), jn_ineg_mo⟩ : jn_GEm jn_G0 jn_me110 26 (.inl jn_ineg)) <|
  jn_cons (⟨jn_i2l_ok (by decide +kernel), jn_i2l_mo⟩ : jn_GEm jn_G0 jn_me110 27 (.inl jn_i2l)) <|
  jn_cons (⟨(by decide +kernel), rfl⟩ : jn_GEm jn_G0 jn_me110 28 (.inr (.inr 3))) <| jn_nil
theorem jn_ok110 : jn_GM jn_G0 110 := jn_GM_of jn_G0_110 rfl rfl (by decide +kernel) (by decide) (jn_o110_0)
theorem jn_o111_0 : ∀ q ∈ jn_c111_0, jn_GEm jn_G0 jn_me111 q.1 q.2 :=
  jn_cons (⟨jn_iconst_ok (by decide +kernel), jn_iconst_mo 0⟩ : jn_GEm jn_G0 jn_me111 0 (.inl (jn_iconst 0))) <|
  jn_cons (⟨jn_istore_n_ok (i := 1) (k := 1) (by decide +kernel) rfl, jn_istore_n_mo 1⟩ : jn_GEm jn_G0 jn_me111 1 (.inl (jn_istore_n 1))) <|
  jn_cons (⟨jn_iconst_ok (by decide +kernel), jn_iconst_mo 0⟩ : jn_GEm jn_G0 jn_me111 2 (.inl (jn_iconst 0))) <|
  jn_cons (⟨jn_istore_n_ok (i := 2) (k := 2) (by decide +kernel) rfl, jn_istore_n_mo 2⟩ : jn_GEm jn_G0 jn_me111 3 (.inl (jn_istore_n 2))) <|
  jn_cons (⟨jn_iload_n_ok (i := 2) (k := 2) (by decide +kernel) rfl, jn_iload_n_mo 2⟩ : jn_GEm jn_G0 jn_me111 4 (.inl (jn_iload_n 2))) <|
  jn_cons (⟨jn_bipush_ok (n := 6) (v := 6) (by decide +kernel) (by decide), jn_bipush_mo 6⟩ : jn_GEm jn_G0 jn_me111 5 (.inl (jn_bipush 6))) <|
  jn_cons (⟨jn_icge_ok (t := 24) (off := 17) (by decide +kernel) (by decide), jn_icge_mo 24⟩ : jn_GEm jn_G0 jn_me111 7 (.inl (jn_icge 24))) <|
  jn_cons (⟨jn_iload_n_ok (i := 1) (k := 1) (by decide +kernel) rfl, jn_iload_n_mo 1⟩ : jn_GEm jn_G0 jn_me111 10 (.inl (jn_iload_n 1))) <|
  jn_cons (⟨jn_iload_n_ok (i := 0) (k := 0) (by decide +kernel) rfl, jn_iload_n_mo 0⟩ : jn_GEm jn_G0 jn_me111 11 (.inl (jn_iload_n 0))) <|
  jn_cons (⟨jn_iload_n_ok (i := 2) (k := 2) (by decide +kernel) rfl, jn_iload_n_mo 2⟩ : jn_GEm jn_G0 jn_me111 12 (.inl (jn_iload_n 2))) <|
  jn_cons (⟨jn_ishr_ok (by decide +kernel), jn_ishr_mo⟩ : jn_GEm jn_G0 jn_me111 13 (.inl jn_ishr)) <|
  jn_cons (⟨jn_iconst_ok (by decide +kernel), jn_iconst_mo 1⟩ : jn_GEm jn_G0 jn_me111 14 (.inl (jn_iconst 1))) <|
  jn_cons (⟨jn_iand_ok (by decide +kernel), jn_iand_mo⟩ : jn_GEm jn_G0 jn_me111 15 (.inl jn_iand)) <|
  jn_cons (⟨jn_iadd_ok (by decide +kernel), jn_iadd_mo⟩ : jn_GEm jn_G0 jn_me111 16 (.inl jn_iadd)) <|
  jn_cons (⟨jn_istore_n_ok (i := 1) (k := 1) (by decide +kernel) rfl, jn_istore_n_mo 1⟩ : jn_GEm jn_G0 jn_me111 17 (.inl (jn_istore_n 1))) <|
  jn_cons (⟨jn_iinc_ok (i := 2) (n := 1) (by decide +kernel), jn_iinc_mo 2 1⟩ : jn_GEm jn_G0 jn_me111 18 (.inl (jn_iinc 2 1))) <|
  jn_cons (⟨jn_goto_ok (t := 4) (off := -17) (by decide +kernel) (by decide), jn_goto_mo 4⟩ : jn_GEm jn_G0 jn_me111 21 (.inl (jn_goto 4))) <|
  jn_cons (⟨jn_iload_n_ok (i := 1) (k := 1) (by decide +kernel) rfl, jn_iload_n_mo 1⟩ : jn_GEm jn_G0 jn_me111 24 (.inl (jn_iload_n 1))) <|
  jn_cons (⟨(by decide +kernel), rfl⟩ : jn_GEm jn_G0 jn_me111 25 (.inr (.inr 1))) <| jn_nil
theorem jn_ok111 : jn_GM jn_G0 111 := jn_GM_of jn_G0_111 rfl rfl (by decide +kernel) (by decide) (jn_o111_0)
theorem jn_o112_0 : ∀ q ∈ jn_c112_0, jn_GEm jn_G0 jn_me112 q.1 q.2 :=
  jn_cons (⟨jn_iconst_ok (by decide +kernel), jn_iconst_mo 0⟩ : jn_GEm jn_G0 jn_me112 0 (.inl (jn_iconst 0))) <|
  jn_cons (⟨jn_istore_ok (i := 4) (by decide +kernel), jn_istore_mo 4⟩ : jn_GEm jn_G0 jn_me112 1 (.inl (jn_istore 4))) <|
  jn_cons (⟨jn_iload_ok (i := 4) (by decide +kernel), jn_iload_mo 4⟩ : jn_GEm jn_G0 jn_me112 3 (.inl (jn_iload 4))) <|
  jn_cons (⟨jn_bipush_ok (n := 64) (v := 64) (by decide +kernel) (by decide), jn_bipush_mo 64⟩ : jn_GEm jn_G0 jn_me112 5 (.inl (jn_bipush 64))) <|
  jn_cons (⟨jn_icge_ok (t := 33) (off := 26) (by decide +kernel) (by decide), jn_icge_mo 33⟩ : jn_GEm jn_G0 jn_me112 7 (.inl (jn_icge 33))) <|
  jn_cons (⟨jn_aload_n_ok (i := 0) (k := 0) (by decide +kernel) rfl, jn_aload_n_mo 0⟩ : jn_GEm jn_G0 jn_me112 10 (.inl (jn_aload_n 0))) <|
  jn_cons (⟨jn_getf_ok (ci := 7) (k := 7) (i := 25) (N := 22) (C := RX7) (T := TX7) (by decide +kernel) rfl (by decide) jn_u7 (jn_in 622 (by decide +kernel) rfl), jn_getf_mo 7 7⟩ : jn_GEm jn_G0 jn_me112 11 (.inl (jn_getf 7 7))) <|
  jn_cons (⟨jn_iload_ok (i := 4) (by decide +kernel), jn_iload_mo 4⟩ : jn_GEm jn_G0 jn_me112 14 (.inl (jn_iload 4))) <|
  jn_cons (⟨jn_iload_ok (i := 4) (by decide +kernel), jn_iload_mo 4⟩ : jn_GEm jn_G0 jn_me112 16 (.inl (jn_iload 4))) <|
  jn_cons (⟨jn_ifne_ok (t := 25) (off := 7) (by decide +kernel) (by decide), jn_ifne_mo 25⟩ : jn_GEm jn_G0 jn_me112 18 (.inl (jn_ifne 25))) <|
  jn_cons (⟨jn_lconst_ok (n := 1) (v := 1) (by decide +kernel) (by decide), jn_lconst_mo 1⟩ : jn_GEm jn_G0 jn_me112 21 (.inl (jn_lconst 1))) <|
  jn_cons (⟨jn_goto_ok (t := 26) (off := 4) (by decide +kernel) (by decide), jn_goto_mo 26⟩ : jn_GEm jn_G0 jn_me112 22 (.inl (jn_goto 26))) <|
  jn_cons (⟨jn_lconst_ok (n := 0) (v := 0) (by decide +kernel) (by decide), jn_lconst_mo 0⟩ : jn_GEm jn_G0 jn_me112 25 (.inl (jn_lconst 0))) <|
  jn_cons (⟨jn_lastore_ok (by decide +kernel), jn_lastore_mo⟩ : jn_GEm jn_G0 jn_me112 26 (.inl jn_lastore)) <|
  jn_cons (⟨jn_iinc_ok (i := 4) (n := 1) (by decide +kernel), jn_iinc_mo 4 1⟩ : jn_GEm jn_G0 jn_me112 27 (.inl (jn_iinc 4 1))) <|
  jn_cons (⟨jn_goto_ok (t := 3) (off := -27) (by decide +kernel) (by decide), jn_goto_mo 3⟩ : jn_GEm jn_G0 jn_me112 30 (.inl (jn_goto 3))) <|
  jn_cons (⟨jn_iconst_ok (by decide +kernel), jn_iconst_mo 0⟩ : jn_GEm jn_G0 jn_me112 33 (.inl (jn_iconst 0))) <|
  jn_cons (⟨jn_istore_ok (i := 4) (by decide +kernel), jn_istore_mo 4⟩ : jn_GEm jn_G0 jn_me112 34 (.inl (jn_istore 4))) <|
  jn_cons (⟨jn_iconst_ok (by decide +kernel), jn_iconst_mo 0⟩ : jn_GEm jn_G0 jn_me112 36 (.inl (jn_iconst 0))) <|
  jn_cons (⟨jn_istore_ok (i := 5) (by decide +kernel), jn_istore_mo 5⟩ : jn_GEm jn_G0 jn_me112 37 (.inl (jn_istore 5))) <|
  jn_cons (⟨jn_iload_ok (i := 5) (by decide +kernel), jn_iload_mo 5⟩ : jn_GEm jn_G0 jn_me112 39 (.inl (jn_iload 5))) <|
  jn_cons (⟨jn_bipush_ok (n := 6) (v := 6) (by decide +kernel) (by decide), jn_bipush_mo 6⟩ : jn_GEm jn_G0 jn_me112 41 (.inl (jn_bipush 6))) <|
  jn_cons (⟨jn_icge_ok (t := 213) (off := 170) (by decide +kernel) (by decide), jn_icge_mo 213⟩ : jn_GEm jn_G0 jn_me112 43 (.inl (jn_icge 213))) <|
  jn_cons (⟨jn_iload_n_ok (i := 2) (k := 2) (by decide +kernel) rfl, jn_iload_n_mo 2⟩ : jn_GEm jn_G0 jn_me112 46 (.inl (jn_iload_n 2))) <| jn_nil
theorem jn_o112_1 : ∀ q ∈ jn_c112_1, jn_GEm jn_G0 jn_me112 q.1 q.2 :=
  jn_cons (⟨jn_iload_ok (i := 5) (by decide +kernel), jn_iload_mo 5⟩ : jn_GEm jn_G0 jn_me112 47 (.inl (jn_iload 5))) <|
  jn_cons (⟨jn_ishr_ok (by decide +kernel), jn_ishr_mo⟩ : jn_GEm jn_G0 jn_me112 49 (.inl jn_ishr)) <|
  jn_cons (⟨jn_iconst_ok (by decide +kernel), jn_iconst_mo 1⟩ : jn_GEm jn_G0 jn_me112 50 (.inl (jn_iconst 1))) <|
  jn_cons (⟨jn_iand_ok (by decide +kernel), jn_iand_mo⟩ : jn_GEm jn_G0 jn_me112 51 (.inl jn_iand)) <|
  jn_cons (⟨jn_ifne_ok (t := 58) (off := 6) (by decide +kernel) (by decide), jn_ifne_mo 58⟩ : jn_GEm jn_G0 jn_me112 52 (.inl (jn_ifne 58))) <|
  jn_cons (⟨jn_goto_ok (t := 207) (off := 152) (by decide +kernel) (by decide), jn_goto_mo 207⟩ : jn_GEm jn_G0 jn_me112 55 (.inl (jn_goto 207))) <|
  jn_cons (⟨jn_bipush_ok (n := 63) (v := 63) (by decide +kernel) (by decide), jn_bipush_mo 63⟩ : jn_GEm jn_G0 jn_me112 58 (.inl (jn_bipush 63))) <|
  jn_cons (⟨jn_istore_ok (i := 6) (by decide +kernel), jn_istore_mo 6⟩ : jn_GEm jn_G0 jn_me112 60 (.inl (jn_istore 6))) <|
  jn_cons (⟨jn_iload_ok (i := 6) (by decide +kernel), jn_iload_mo 6⟩ : jn_GEm jn_G0 jn_me112 62 (.inl (jn_iload 6))) <|
  jn_cons (⟨jn_iflt_ok (t := 204) (off := 140) (by decide +kernel) (by decide), jn_iflt_mo 204⟩ : jn_GEm jn_G0 jn_me112 64 (.inl (jn_iflt 204))) <|
  jn_cons (⟨jn_iload_ok (i := 6) (by decide +kernel), jn_iload_mo 6⟩ : jn_GEm jn_G0 jn_me112 67 (.inl (jn_iload 6))) <|
  jn_cons (jn_gc_of jn_G0_111 (jn_callS (i := 119) (na := 1) (by decide +kernel) (jn_in 761 (by decide +kernel) rfl) (jn_in 759 (by decide +kernel) rfl) (jn_in 760 (by decide +kernel) rfl) (jn_in 60 (by decide +kernel) rfl) ⟨by decide, by decide, by decide +kernel⟩) : jn_GEm jn_G0 jn_me112 69 (.inr (.inl (111, 0, 1)))) <|
  jn_cons (⟨jn_iload_ok (i := 4) (by decide +kernel), jn_iload_mo 4⟩ : jn_GEm jn_G0 jn_me112 72 (.inl (jn_iload 4))) <|
  jn_cons (⟨jn_icne_ok (t := 198) (off := 124) (by decide +kernel) (by decide), jn_icne_mo 198⟩ : jn_GEm jn_G0 jn_me112 74 (.inl (jn_icne 198))) <|
  jn_cons (⟨jn_aload_n_ok (i := 0) (k := 0) (by decide +kernel) rfl, jn_aload_n_mo 0⟩ : jn_GEm jn_G0 jn_me112 77 (.inl (jn_aload_n 0))) <|
  jn_cons (⟨jn_getf_ok (ci := 7) (k := 7) (i := 25) (N := 22) (C := RX7) (T := TX7) (by decide +kernel) rfl (by decide) jn_u7 (jn_in 622 (by decide +kernel) rfl), jn_getf_mo 7 7⟩ : jn_GEm jn_G0 jn_me112 78 (.inl (jn_getf 7 7))) <|
  jn_cons (⟨jn_iload_ok (i := 6) (by decide +kernel), jn_iload_mo 6⟩ : jn_GEm jn_G0 jn_me112 81 (.inl (jn_iload 6))) <|
  jn_cons (⟨jn_laload_ok (by decide +kernel), jn_laload_mo⟩ : jn_GEm jn_G0 jn_me112 83 (.inl jn_laload)) <|
  jn_cons (⟨jn_lconst_ok (n := 0) (v := 0) (by decide +kernel) (by decide), jn_lconst_mo 0⟩ : jn_GEm jn_G0 jn_me112 84 (.inl (jn_lconst 0))) <|
  jn_cons (⟨jn_lcmp_ok (by decide +kernel), jn_lcmp_mo⟩ : jn_GEm jn_G0 jn_me112 85 (.inl jn_lcmp)) <|
  jn_cons (⟨jn_ifeq_ok (t := 198) (off := 112) (by decide +kernel) (by decide), jn_ifeq_mo 198⟩ : jn_GEm jn_G0 jn_me112 86 (.inl (jn_ifeq 198))) <|
  jn_cons (⟨jn_iload_ok (i := 6) (by decide +kernel), jn_iload_mo 6⟩ : jn_GEm jn_G0 jn_me112 89 (.inl (jn_iload 6))) <|
  jn_cons (⟨jn_iload_n_ok (i := 3) (k := 3) (by decide +kernel) rfl, jn_iload_n_mo 3⟩ : jn_GEm jn_G0 jn_me112 91 (.inl (jn_iload_n 3))) <|
  jn_cons (⟨jn_iconst_ok (by decide +kernel), jn_iconst_mo (-1)⟩ : jn_GEm jn_G0 jn_me112 92 (.inl (jn_iconst (-1)))) <| jn_nil
theorem jn_o112_2 : ∀ q ∈ jn_c112_2, jn_GEm jn_G0 jn_me112 q.1 q.2 :=
  jn_cons (⟨jn_ixor_ok (by decide +kernel), jn_ixor_mo⟩ : jn_GEm jn_G0 jn_me112 93 (.inl jn_ixor)) <|
  jn_cons (⟨jn_iand_ok (by decide +kernel), jn_iand_mo⟩ : jn_GEm jn_G0 jn_me112 94 (.inl jn_iand)) <|
  jn_cons (⟨jn_ifeq_ok (t := 101) (off := 6) (by decide +kernel) (by decide), jn_ifeq_mo 101⟩ : jn_GEm jn_G0 jn_me112 95 (.inl (jn_ifeq 101))) <|
  jn_cons (⟨jn_goto_ok (t := 198) (off := 100) (by decide +kernel) (by decide), jn_goto_mo 198⟩ : jn_GEm jn_G0 jn_me112 98 (.inl (jn_goto 198))) <|
  jn_cons (⟨jn_iconst_ok (by decide +kernel), jn_iconst_mo 0⟩ : jn_GEm jn_G0 jn_me112 101 (.inl (jn_iconst 0))) <|
  jn_cons (⟨jn_istore_ok (i := 7) (by decide +kernel), jn_istore_mo 7⟩ : jn_GEm jn_G0 jn_me112 102 (.inl (jn_istore 7))) <|
  jn_cons (⟨jn_iload_ok (i := 7) (by decide +kernel), jn_iload_mo 7⟩ : jn_GEm jn_G0 jn_me112 104 (.inl (jn_iload 7))) <|
  jn_cons (⟨jn_bipush_ok (n := 6) (v := 6) (by decide +kernel) (by decide), jn_bipush_mo 6⟩ : jn_GEm jn_G0 jn_me112 106 (.inl (jn_bipush 6))) <|
  jn_cons (⟨jn_icge_ok (t := 198) (off := 90) (by decide +kernel) (by decide), jn_icge_mo 198⟩ : jn_GEm jn_G0 jn_me112 108 (.inl (jn_icge 198))) <|
  jn_cons (⟨jn_iload_n_ok (i := 3) (k := 3) (by decide +kernel) rfl, jn_iload_n_mo 3⟩ : jn_GEm jn_G0 jn_me112 111 (.inl (jn_iload_n 3))) <|
  jn_cons (⟨jn_iload_ok (i := 7) (by decide +kernel), jn_iload_mo 7⟩ : jn_GEm jn_G0 jn_me112 112 (.inl (jn_iload 7))) <|
  jn_cons (⟨jn_ishr_ok (by decide +kernel), jn_ishr_mo⟩ : jn_GEm jn_G0 jn_me112 114 (.inl jn_ishr)) <|
  jn_cons (⟨jn_iconst_ok (by decide +kernel), jn_iconst_mo 1⟩ : jn_GEm jn_G0 jn_me112 115 (.inl (jn_iconst 1))) <|
  jn_cons (⟨jn_iand_ok (by decide +kernel), jn_iand_mo⟩ : jn_GEm jn_G0 jn_me112 116 (.inl jn_iand)) <|
  jn_cons (⟨jn_ifeq_ok (t := 192) (off := 75) (by decide +kernel) (by decide), jn_ifeq_mo 192⟩ : jn_GEm jn_G0 jn_me112 117 (.inl (jn_ifeq 192))) <|
  jn_cons (⟨jn_iload_ok (i := 6) (by decide +kernel), jn_iload_mo 6⟩ : jn_GEm jn_G0 jn_me112 120 (.inl (jn_iload 6))) <|
  jn_cons (⟨jn_iload_ok (i := 7) (by decide +kernel), jn_iload_mo 7⟩ : jn_GEm jn_G0 jn_me112 122 (.inl (jn_iload 7))) <|
  jn_cons (⟨jn_ishr_ok (by decide +kernel), jn_ishr_mo⟩ : jn_GEm jn_G0 jn_me112 124 (.inl jn_ishr)) <|
  jn_cons (⟨jn_iconst_ok (by decide +kernel), jn_iconst_mo 1⟩ : jn_GEm jn_G0 jn_me112 125 (.inl (jn_iconst 1))) <|
  jn_cons (⟨jn_iand_ok (by decide +kernel), jn_iand_mo⟩ : jn_GEm jn_G0 jn_me112 126 (.inl jn_iand)) <|
  jn_cons (⟨jn_iconst_ok (by decide +kernel), jn_iconst_mo 1⟩ : jn_GEm jn_G0 jn_me112 127 (.inl (jn_iconst 1))) <|
  jn_cons (⟨jn_icne_ok (t := 134) (off := 6) (by decide +kernel) (by decide), jn_icne_mo 134⟩ : jn_GEm jn_G0 jn_me112 128 (.inl (jn_icne 134))) <|
  jn_cons (⟨jn_goto_ok (t := 192) (off := 61) (by decide +kernel) (by decide), jn_goto_mo 192⟩ : jn_GEm jn_G0 jn_me112 131 (.inl (jn_goto 192))) <|
  jn_cons (⟨jn_aload_n_ok (i := 0) (k := 0) (by decide +kernel) rfl, jn_aload_n_mo 0⟩ : jn_GEm jn_G0 jn_me112 134 (.inl (jn_aload_n 0))) <| jn_nil
theorem jn_o112_3 : ∀ q ∈ jn_c112_3, jn_GEm jn_G0 jn_me112 q.1 q.2 :=
  jn_cons (⟨jn_getf_ok (ci := 7) (k := 7) (i := 25) (N := 22) (C := RX7) (T := TX7) (by decide +kernel) rfl (by decide) jn_u7 (jn_in 622 (by decide +kernel) rfl), jn_getf_mo 7 7⟩ : jn_GEm jn_G0 jn_me112 135 (.inl (jn_getf 7 7))) <|
  jn_cons (⟨jn_iload_ok (i := 6) (by decide +kernel), jn_iload_mo 6⟩ : jn_GEm jn_G0 jn_me112 138 (.inl (jn_iload 6))) <|
  jn_cons (⟨jn_laload_ok (by decide +kernel), jn_laload_mo⟩ : jn_GEm jn_G0 jn_me112 140 (.inl jn_laload)) <|
  jn_cons (⟨jn_aload_n_ok (i := 0) (k := 0) (by decide +kernel) rfl, jn_aload_n_mo 0⟩ : jn_GEm jn_G0 jn_me112 141 (.inl (jn_aload_n 0))) <|
  jn_cons (⟨jn_iload_n_ok (i := 1) (k := 1) (by decide +kernel) rfl, jn_iload_n_mo 1⟩ : jn_GEm jn_G0 jn_me112 142 (.inl (jn_iload_n 1))) <|
  jn_cons (⟨jn_iload_ok (i := 5) (by decide +kernel), jn_iload_mo 5⟩ : jn_GEm jn_G0 jn_me112 143 (.inl (jn_iload 5))) <|
  jn_cons (⟨jn_iload_ok (i := 7) (by decide +kernel), jn_iload_mo 7⟩ : jn_GEm jn_G0 jn_me112 145 (.inl (jn_iload 7))) <|
  jn_cons (jn_gc_of jn_G0_110 (jn_callV (i := 122) (na := 3) (ci := 7) (q := (RX7, TX7, 22)) (by decide +kernel) rfl (jn_in 765 (by decide +kernel) rfl) (jn_in 762 (by decide +kernel) rfl) (jn_in 764 (by decide +kernel) rfl) (jn_in 31 (by decide +kernel) rfl) (jn_in 60 (by decide +kernel) rfl) ⟨by decide, by decide, by decide +kernel⟩) : jn_GEm jn_G0 jn_me112 147 (.inr (.inl (110, 9, 4)))) <|
  jn_cons (⟨jn_lmul_ok (by decide +kernel), jn_lmul_mo⟩ : jn_GEm jn_G0 jn_me112 150 (.inl jn_lmul)) <|
  jn_cons (⟨jn_lstore_ok (i := 8) (by decide +kernel), jn_lstore_mo 8⟩ : jn_GEm jn_G0 jn_me112 151 (.inl (jn_lstore 8))) <|
  jn_cons (⟨jn_aload_n_ok (i := 0) (k := 0) (by decide +kernel) rfl, jn_aload_n_mo 0⟩ : jn_GEm jn_G0 jn_me112 153 (.inl (jn_aload_n 0))) <|
  jn_cons (⟨jn_getf_ok (ci := 7) (k := 7) (i := 25) (N := 22) (C := RX7) (T := TX7) (by decide +kernel) rfl (by decide) jn_u7 (jn_in 622 (by decide +kernel) rfl), jn_getf_mo 7 7⟩ : jn_GEm jn_G0 jn_me112 154 (.inl (jn_getf 7 7))) <|
  jn_cons (⟨jn_iload_ok (i := 6) (by decide +kernel), jn_iload_mo 6⟩ : jn_GEm jn_G0 jn_me112 157 (.inl (jn_iload 6))) <|
  jn_cons (⟨jn_iconst_ok (by decide +kernel), jn_iconst_mo 1⟩ : jn_GEm jn_G0 jn_me112 159 (.inl (jn_iconst 1))) <|
  jn_cons (⟨jn_iload_ok (i := 7) (by decide +kernel), jn_iload_mo 7⟩ : jn_GEm jn_G0 jn_me112 160 (.inl (jn_iload 7))) <|
  jn_cons (⟨jn_ishl_ok (by decide +kernel), jn_ishl_mo⟩ : jn_GEm jn_G0 jn_me112 162 (.inl jn_ishl)) <|
  jn_cons (⟨jn_ior_ok (by decide +kernel), jn_ior_mo⟩ : jn_GEm jn_G0 jn_me112 163 (.inl jn_ior)) <|
  jn_cons (⟨jn_dup2_ok (by decide +kernel), jn_dup2_mo⟩ : jn_GEm jn_G0 jn_me112 164 (.inl jn_dup2)) <|
  jn_cons (⟨jn_laload_ok (by decide +kernel), jn_laload_mo⟩ : jn_GEm jn_G0 jn_me112 165 (.inl jn_laload)) <|
  jn_cons (⟨jn_iload_ok (i := 6) (by decide +kernel), jn_iload_mo 6⟩ : jn_GEm jn_G0 jn_me112 166 (.inl (jn_iload 6))) <|
  jn_cons (⟨jn_iload_ok (i := 7) (by decide +kernel), jn_iload_mo 7⟩ : jn_GEm jn_G0 jn_me112 168 (.inl (jn_iload 7))) <|
  jn_cons (⟨jn_iconst_ok (by decide +kernel), jn_iconst_mo 1⟩ : jn_GEm jn_G0 jn_me112 170 (.inl (jn_iconst 1))) <|
  jn_cons (⟨jn_iadd_ok (by decide +kernel), jn_iadd_mo⟩ : jn_GEm jn_G0 jn_me112 171 (.inl jn_iadd)) <|
  jn_cons (⟨jn_ishr_ok (by decide +kernel), jn_ishr_mo⟩ : jn_GEm jn_G0 jn_me112 172 (.inl jn_ishr)) <| jn_nil
theorem jn_o112_4 : ∀ q ∈ jn_c112_4, jn_GEm jn_G0 jn_me112 q.1 q.2 :=
  jn_cons (jn_gc_of jn_G0_111 (jn_callS (i := 119) (na := 1) (by decide +kernel) (jn_in 761 (by decide +kernel) rfl) (jn_in 759 (by decide +kernel) rfl) (jn_in 760 (by decide +kernel) rfl) (jn_in 60 (by decide +kernel) rfl) ⟨by decide, by decide, by decide +kernel⟩) : jn_GEm jn_G0 jn_me112 173 (.inr (.inl (111, 0, 1)))) <|
  jn_cons (⟨jn_iconst_ok (by decide +kernel), jn_iconst_mo 2⟩ : jn_GEm jn_G0 jn_me112 176 (.inl (jn_iconst 2))) <|
  jn_cons (⟨jn_irem_ok (by decide +kernel), jn_irem_mo⟩ : jn_GEm jn_G0 jn_me112 177 (.inl jn_irem)) <|
  jn_cons (⟨jn_iconst_ok (by decide +kernel), jn_iconst_mo 1⟩ : jn_GEm jn_G0 jn_me112 178 (.inl (jn_iconst 1))) <|
  jn_cons (⟨jn_icne_ok (t := 188) (off := 9) (by decide +kernel) (by decide), jn_icne_mo 188⟩ : jn_GEm jn_G0 jn_me112 179 (.inl (jn_icne 188))) <|
  jn_cons (⟨jn_lload_ok (i := 8) (by decide +kernel), jn_lload_mo 8⟩ : jn_GEm jn_G0 jn_me112 182 (.inl (jn_lload 8))) <|
  jn_cons (⟨jn_lneg_ok (by decide +kernel), jn_lneg_mo⟩ : jn_GEm jn_G0 jn_me112 184 (.inl jn_lneg)) <|
  jn_cons (⟨jn_goto_ok (t := 190) (off := 5) (by decide +kernel) (by decide), jn_goto_mo 190⟩ : jn_GEm jn_G0 jn_me112 185 (.inl (jn_goto 190))) <|
  jn_cons (⟨jn_lload_ok (i := 8) (by decide +kernel), jn_lload_mo 8⟩ : jn_GEm jn_G0 jn_me112 188 (.inl (jn_lload 8))) <|
  jn_cons (⟨jn_ladd_ok (by decide +kernel), jn_ladd_mo⟩ : jn_GEm jn_G0 jn_me112 190 (.inl jn_ladd)) <|
  jn_cons (⟨jn_lastore_ok (by decide +kernel), jn_lastore_mo⟩ : jn_GEm jn_G0 jn_me112 191 (.inl jn_lastore)) <|
  jn_cons (⟨jn_iinc_ok (i := 7) (n := 1) (by decide +kernel), jn_iinc_mo 7 1⟩ : jn_GEm jn_G0 jn_me112 192 (.inl (jn_iinc 7 1))) <|
  jn_cons (⟨jn_goto_ok (t := 104) (off := -91) (by decide +kernel) (by decide), jn_goto_mo 104⟩ : jn_GEm jn_G0 jn_me112 195 (.inl (jn_goto 104))) <|
  jn_cons (⟨jn_iinc_ok (i := 6) (n := -1) (by decide +kernel), jn_iinc_mo 6 (-1)⟩ : jn_GEm jn_G0 jn_me112 198 (.inl (jn_iinc 6 (-1)))) <|
  jn_cons (⟨jn_goto_ok (t := 62) (off := -139) (by decide +kernel) (by decide), jn_goto_mo 62⟩ : jn_GEm jn_G0 jn_me112 201 (.inl (jn_goto 62))) <|
  jn_cons (⟨jn_iinc_ok (i := 4) (n := 1) (by decide +kernel), jn_iinc_mo 4 1⟩ : jn_GEm jn_G0 jn_me112 204 (.inl (jn_iinc 4 1))) <|
  jn_cons (⟨jn_iinc_ok (i := 5) (n := 1) (by decide +kernel), jn_iinc_mo 5 1⟩ : jn_GEm jn_G0 jn_me112 207 (.inl (jn_iinc 5 1))) <|
  jn_cons (⟨jn_goto_ok (t := 39) (off := -171) (by decide +kernel) (by decide), jn_goto_mo 39⟩ : jn_GEm jn_G0 jn_me112 210 (.inl (jn_goto 39))) <|
  jn_cons (⟨jn_aload_n_ok (i := 0) (k := 0) (by decide +kernel) rfl, jn_aload_n_mo 0⟩ : jn_GEm jn_G0 jn_me112 213 (.inl (jn_aload_n 0))) <|
  jn_cons (⟨jn_getf_ok (ci := 7) (k := 7) (i := 25) (N := 22) (C := RX7) (T := TX7) (by decide +kernel) rfl (by decide) jn_u7 (jn_in 622 (by decide +kernel) rfl), jn_getf_mo 7 7⟩ : jn_GEm jn_G0 jn_me112 214 (.inl (jn_getf 7 7))) <|
  jn_cons (⟨jn_iload_n_ok (i := 3) (k := 3) (by decide +kernel) rfl, jn_iload_n_mo 3⟩ : jn_GEm jn_G0 jn_me112 217 (.inl (jn_iload_n 3))) <|
  jn_cons (⟨jn_laload_ok (by decide +kernel), jn_laload_mo⟩ : jn_GEm jn_G0 jn_me112 218 (.inl jn_laload)) <|
  jn_cons (⟨(by decide +kernel), rfl⟩ : jn_GEm jn_G0 jn_me112 219 (.inr (.inr 3))) <| jn_nil
theorem jn_ok112 : jn_GM jn_G0 112 := jn_GM_of jn_G0_112 rfl rfl (by decide +kernel) (by decide) (jn_appd jn_o112_0 (jn_appd jn_o112_1 (jn_appd jn_o112_2 (jn_appd jn_o112_3 (jn_o112_4)))))
theorem jn_o113_0 : ∀ q ∈ jn_c113_0, jn_GEm jn_G0 jn_me113 q.1 q.2 :=
  jn_cons (⟨jn_iconst_ok (by decide +kernel), jn_iconst_mo 1⟩ : jn_GEm jn_G0 jn_me113 0 (.inl (jn_iconst 1))) <|
  jn_cons (⟨jn_aload_n_ok (i := 0) (k := 0) (by decide +kernel) rfl, jn_aload_n_mo 0⟩ : jn_GEm jn_G0 jn_me113 1 (.inl (jn_aload_n 0))) <|
  jn_cons (⟨jn_getf_ok (ci := 7) (k := 0) (i := 7) (N := 22) (C := RX7) (T := TX7) (by decide +kernel) rfl (by decide) jn_u7 (jn_in 615 (by decide +kernel) rfl), jn_getf_mo 7 0⟩ : jn_GEm jn_G0 jn_me113 2 (.inl (jn_getf 7 0))) <|
  jn_cons (⟨jn_iload_n_ok (i := 1) (k := 1) (by decide +kernel) rfl, jn_iload_n_mo 1⟩ : jn_GEm jn_G0 jn_me113 5 (.inl (jn_iload_n 1))) <|
  jn_cons (⟨jn_iaload_ok (by decide +kernel), jn_iaload_mo⟩ : jn_GEm jn_G0 jn_me113 6 (.inl jn_iaload)) <|
  jn_cons (⟨jn_ishl_ok (by decide +kernel), jn_ishl_mo⟩ : jn_GEm jn_G0 jn_me113 7 (.inl jn_ishl)) <|
  jn_cons (⟨jn_iconst_ok (by decide +kernel), jn_iconst_mo 1⟩ : jn_GEm jn_G0 jn_me113 8 (.inl (jn_iconst 1))) <|
  jn_cons (⟨jn_isub_ok (by decide +kernel), jn_isub_mo⟩ : jn_GEm jn_G0 jn_me113 9 (.inl jn_isub)) <|
  jn_cons (⟨jn_iconst_ok (by decide +kernel), jn_iconst_mo 1⟩ : jn_GEm jn_G0 jn_me113 10 (.inl (jn_iconst 1))) <|
  jn_cons (⟨jn_iload_n_ok (i := 2) (k := 2) (by decide +kernel) rfl, jn_iload_n_mo 2⟩ : jn_GEm jn_G0 jn_me113 11 (.inl (jn_iload_n 2))) <|
  jn_cons (⟨jn_ishl_ok (by decide +kernel), jn_ishl_mo⟩ : jn_GEm jn_G0 jn_me113 12 (.inl jn_ishl)) <|
  jn_cons (⟨jn_iconst_ok (by decide +kernel), jn_iconst_mo (-1)⟩ : jn_GEm jn_G0 jn_me113 13 (.inl (jn_iconst (-1)))) <|
  jn_cons (⟨jn_ixor_ok (by decide +kernel), jn_ixor_mo⟩ : jn_GEm jn_G0 jn_me113 14 (.inl jn_ixor)) <|
  jn_cons (⟨jn_iand_ok (by decide +kernel), jn_iand_mo⟩ : jn_GEm jn_G0 jn_me113 15 (.inl jn_iand)) <|
  jn_cons (⟨(by decide +kernel), rfl⟩ : jn_GEm jn_G0 jn_me113 16 (.inr (.inr 1))) <| jn_nil
theorem jn_ok113 : jn_GM jn_G0 113 := jn_GM_of jn_G0_113 rfl rfl (by decide +kernel) (by decide) (jn_o113_0)
