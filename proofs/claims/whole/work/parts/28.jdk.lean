/-! the JDK's methods, the greatest divisors -/
theorem jn_absJ {M : jn_M} {z : Int} (hz : -9223372036854775808 < z ∧ z < 9223372036854775808) : jn_V 169 1 [.long (jL z)] M (some (.long (lN z.natAbs))) M := by
  (refine jn_V_of (fun d Q hd hQ => ?_); rw [show jn_en (jn_G0 169).1.2.2.1 [.long (jL z)] = [some (.long (jL z)), none] from rfl])
  simp (disch := omega) only [jn_w169_0, jn_w169_1, jn_w169_2, jn_w169_3, jn_w169_6, jn_w169_7, jn_w169_8, jn_w169_11, jn_w169_12, jn_kk_n, jn_kk_i, jn_kk_r, jn_kk_u, jn_kk_l, jn_sm_0, jn_sm_i, jn_sm_l, jn_sm_r, jn_sm_u, jn_zb_0, jn_zb_1, jn_zb_b, jn_bI_0, and_true, true_and, and_self, Bool.and_true, Bool.true_and, decide_eq_true_eq, Option.toList_some, Option.toList_none, List.cons_append, List.nil_append, not_true_eq_false, not_false_eq_true, if_true, if_false, jn_oNet_o0, jn_oNet_v0, jn_oNet_o1, jn_oNet_v1, jn_oNet_o2, jn_oNet_v2, jn_oBook_o0, jn_oBook_v0, jn_oBook_o1, jn_oBook_v1, jn_oTab_o0, jn_oTab_v0, jn_oTak_o0, jn_oTak_v0, jn_oRed_o0, jn_oRed_v0, jn_oRed_o1, jn_oRed_v1, jn_oRed_s1, jn_oRed_o2, jn_oRed_v2, jn_oRed_s2, jn_oRed_o3, jn_oRed_v3, jn_oRed_s3, jn_oRed_o4, jn_oRed_v4, jn_oRed_o5, jn_oRed_v5, jn_oBrk_o0, jn_oBrk_v0, jn_oBrk_o1, jn_oBrk_v1, jn_oBrk_o2, jn_oBrk_v2, jn_oBrk_o3, jn_oBrk_v3, jn_oD_o0, jn_oD_v0, jn_oD_o1, jn_oD_v1, jn_oD_s1, jn_oD_o2, jn_oD_v2, jn_oD_o3, jn_oD_v3, jn_oD_s3, jn_oD_o4, jn_oD_v4, jn_oD_o5, jn_oD_v5, jn_oD_s5, jn_oD_o6, jn_oD_v6, jn_oD_o7, jn_oD_v7, jn_oD_o8, jn_oD_v8, jn_oD_o9, jn_oD_v9, jn_oD_o10, jn_oD_v10, jn_oM_o0, jn_oM_v0, jn_oM_o1, jn_oM_v1, jn_oM_o2, jn_oM_v2, jn_oM_s2, jn_oM_o3, jn_oM_v3, jn_oM_s3, jn_oM_o4, jn_oM_v4, jn_oM_o5, jn_oM_v5, jn_oM_o6, jn_oM_v6, jn_oM_o7, jn_oM_v7, jn_oM_o8, jn_oM_v8, jn_oM_o9, jn_oM_v9, jn_oM_o10, jn_oM_v10, jn_oM_o11, jn_oM_v11, jn_oM_o12, jn_oM_v12, jn_oM_o13, jn_oM_v13, jn_oM_o14, jn_oM_v14, jn_oM_o15, jn_oM_v15, jn_oM_o16, jn_oM_v16, jn_oM_o17, jn_oM_v17, jn_oM_o18, jn_oM_v18, jn_oM_o19, jn_oM_v19, jn_oM_o20, jn_oM_v20, jn_oM_o21, jn_oM_v21, jn_oM_s21, jn_aI_o, jn_aI_v, jn_aI_s, jn_aZ_o, jn_aZ_v, jn_aZ_s, jn_aL_o, jn_aL_v, jn_aL_s, jn_aN_o, jn_aN_v, jn_aN_s, jn_aN_p, jn_aB_o, jn_aB_v, jn_aB_s, jn_aB_p, jn_cp_on, jn_cp_sn, jn_io_n, jn_io_j, jn_cl_n, jn_cl_j, jI_add, nIadd, njIadd, jnIadd, jL_add, nLadd, njLadd, jnLadd, jI_sub, nIsub, njIsub, jnIsub, jL_sub, nLsub, njLsub, jnLsub, jI_mul, nImul, njImul, jnImul, jL_mul, nLmul, njLmul, jnLmul, jI_neg, nIneg, jL_neg, nLneg, jn_cmp_ge, jLle_nj]
  by_cases h : ((0 : Nat) : Int) ≤ z
  · rw [if_pos h]
    rw [← jL_nat, show ((z.natAbs : Nat) : Int) = z by omega] at hQ
    exact hQ
  · rw [if_neg h]
    rw [← jL_nat, show ((z.natAbs : Nat) : Int) = -z by omega] at hQ
    exact hQ
theorem jm_gcd_rec (a b : Nat) : Nat.gcd a b = Nat.gcd b (a % b) := by rw [Nat.gcd_comm a b, Nat.gcd_rec b a, Nat.gcd_comm]
theorem jm_mod_half {a b : Nat} (hr : ¬ a % b = 0) (hb : 0 < b) : b % (a % b) * 2 < b := by
  have h1 := Nat.mod_lt a hb
  have h2 := Nat.mod_lt b (show 0 < a % b by omega)
  have h3 := Nat.div_add_mod b (a % b)
  have h4 : 1 ≤ b / (a % b) := (Nat.le_div_iff_mul_le (by omega)).mpr (by omega)
  have h5 : a % b * 1 ≤ a % b * (b / (a % b)) := Nat.mul_le_mul_left _ h4
  omega
theorem jn_Table_gcd {M : jn_M} {x y : Int} (hx : -9223372036854775808 < x ∧ x < 9223372036854775808) (hy : -9223372036854775808 < y ∧ y < 9223372036854775808) : jn_V 32 2 [.long (jL x), .long (jL y)] M (some (.long (lN (Nat.gcd x.natAbs y.natAbs)))) M := by
  (refine jn_V_of (fun d Q hd hQ => ?_); rw [show jn_en (jn_G0 32).1.2.2.1 [.long (jL x), .long (jL y)] = [some (.long (jL x)), none, some (.long (jL y)), none, none, none, none, none, none, none, none] from rfl])
  simp (disch := omega) only [jn_w32_0, jn_w32_4, jn_w32_6, jn_w32_10, jn_w32_12, jn_w32_13, jn_w32_17, jn_w32_19, jn_w32_22, jn_w32_24, jn_w32_25, jn_w32_26, jn_w32_29, jn_w32_31, jn_w32_33, jn_w32_34, jn_w32_36, jn_w32_38, jn_w32_40, jn_w32_42, jn_w32_44, jn_w32_47, jn_w32_50, jn_w32_52, jn_kk_n, jn_kk_i, jn_kk_r, jn_kk_u, jn_kk_l, jn_sm_0, jn_sm_i, jn_sm_l, jn_sm_r, jn_sm_u, jn_zb_0, jn_zb_1, jn_zb_b, jn_bI_0, and_true, true_and, and_self, Bool.and_true, Bool.true_and, decide_eq_true_eq, Option.toList_some, Option.toList_none, List.cons_append, List.nil_append, not_true_eq_false, not_false_eq_true, if_true, if_false, jn_oNet_o0, jn_oNet_v0, jn_oNet_o1, jn_oNet_v1, jn_oNet_o2, jn_oNet_v2, jn_oBook_o0, jn_oBook_v0, jn_oBook_o1, jn_oBook_v1, jn_oTab_o0, jn_oTab_v0, jn_oTak_o0, jn_oTak_v0, jn_oRed_o0, jn_oRed_v0, jn_oRed_o1, jn_oRed_v1, jn_oRed_s1, jn_oRed_o2, jn_oRed_v2, jn_oRed_s2, jn_oRed_o3, jn_oRed_v3, jn_oRed_s3, jn_oRed_o4, jn_oRed_v4, jn_oRed_o5, jn_oRed_v5, jn_oBrk_o0, jn_oBrk_v0, jn_oBrk_o1, jn_oBrk_v1, jn_oBrk_o2, jn_oBrk_v2, jn_oBrk_o3, jn_oBrk_v3, jn_oD_o0, jn_oD_v0, jn_oD_o1, jn_oD_v1, jn_oD_s1, jn_oD_o2, jn_oD_v2, jn_oD_o3, jn_oD_v3, jn_oD_s3, jn_oD_o4, jn_oD_v4, jn_oD_o5, jn_oD_v5, jn_oD_s5, jn_oD_o6, jn_oD_v6, jn_oD_o7, jn_oD_v7, jn_oD_o8, jn_oD_v8, jn_oD_o9, jn_oD_v9, jn_oD_o10, jn_oD_v10, jn_oM_o0, jn_oM_v0, jn_oM_o1, jn_oM_v1, jn_oM_o2, jn_oM_v2, jn_oM_s2, jn_oM_o3, jn_oM_v3, jn_oM_s3, jn_oM_o4, jn_oM_v4, jn_oM_o5, jn_oM_v5, jn_oM_o6, jn_oM_v6, jn_oM_o7, jn_oM_v7, jn_oM_o8, jn_oM_v8, jn_oM_o9, jn_oM_v9, jn_oM_o10, jn_oM_v10, jn_oM_o11, jn_oM_v11, jn_oM_o12, jn_oM_v12, jn_oM_o13, jn_oM_v13, jn_oM_o14, jn_oM_v14, jn_oM_o15, jn_oM_v15, jn_oM_o16, jn_oM_v16, jn_oM_o17, jn_oM_v17, jn_oM_o18, jn_oM_v18, jn_oM_o19, jn_oM_v19, jn_oM_o20, jn_oM_v20, jn_oM_o21, jn_oM_v21, jn_oM_s21, jn_aI_o, jn_aI_v, jn_aI_s, jn_aZ_o, jn_aZ_v, jn_aZ_s, jn_aL_o, jn_aL_v, jn_aL_s, jn_aN_o, jn_aN_v, jn_aN_s, jn_aN_p, jn_aB_o, jn_aB_v, jn_aB_s, jn_aB_p, jn_cp_on, jn_cp_sn, jn_io_n, jn_io_j, jn_cl_n, jn_cl_j, jI_add, nIadd, njIadd, jnIadd, jL_add, nLadd, njLadd, jnLadd, jI_sub, nIsub, njIsub, jnIsub, jL_sub, nLsub, njLsub, jnLsub, jI_mul, nImul, njImul, jnImul, jL_mul, nLmul, njLmul, jnLmul, jI_neg, nIneg, jL_neg, nLneg, jn_w32_1 (d := d) (jn_absJ hx) ⟨by omega, by omega⟩, jn_w32_7 (d := d) (jn_absJ hy) ⟨by omega, by omega⟩, jn_rc0]
  have stop : ∀ (i a : Nat) (l9 l10 : Option Value), i ≤ 1000000 → Q (some (.long (lN a))) M → jn_W d 32 15 [some (.long (jL x)), none, some (.long (jL y)), none, some (.long (lN a)), none, some (.long (lN 0)), none, some (.int (nI i)), l9, l10] [] M Q := by
    intro i a l9 l10 hi hq
    rw [jn_w32_15]
    simp (disch := omega) only [jn_w32_0, jn_w32_4, jn_w32_6, jn_w32_10, jn_w32_12, jn_w32_13, jn_w32_17, jn_w32_19, jn_w32_22, jn_w32_24, jn_w32_25, jn_w32_26, jn_w32_29, jn_w32_31, jn_w32_33, jn_w32_34, jn_w32_36, jn_w32_38, jn_w32_40, jn_w32_42, jn_w32_44, jn_w32_47, jn_w32_50, jn_w32_52, jn_kk_n, jn_kk_i, jn_kk_r, jn_kk_u, jn_kk_l, jn_sm_0, jn_sm_i, jn_sm_l, jn_sm_r, jn_sm_u, jn_zb_0, jn_zb_1, jn_zb_b, jn_bI_0, and_true, true_and, and_self, Bool.and_true, Bool.true_and, decide_eq_true_eq, Option.toList_some, Option.toList_none, List.cons_append, List.nil_append, not_true_eq_false, not_false_eq_true, if_true, if_false, jn_oNet_o0, jn_oNet_v0, jn_oNet_o1, jn_oNet_v1, jn_oNet_o2, jn_oNet_v2, jn_oBook_o0, jn_oBook_v0, jn_oBook_o1, jn_oBook_v1, jn_oTab_o0, jn_oTab_v0, jn_oTak_o0, jn_oTak_v0, jn_oRed_o0, jn_oRed_v0, jn_oRed_o1, jn_oRed_v1, jn_oRed_s1, jn_oRed_o2, jn_oRed_v2, jn_oRed_s2, jn_oRed_o3, jn_oRed_v3, jn_oRed_s3, jn_oRed_o4, jn_oRed_v4, jn_oRed_o5, jn_oRed_v5, jn_oBrk_o0, jn_oBrk_v0, jn_oBrk_o1, jn_oBrk_v1, jn_oBrk_o2, jn_oBrk_v2, jn_oBrk_o3, jn_oBrk_v3, jn_oD_o0, jn_oD_v0, jn_oD_o1, jn_oD_v1, jn_oD_s1, jn_oD_o2, jn_oD_v2, jn_oD_o3, jn_oD_v3, jn_oD_s3, jn_oD_o4, jn_oD_v4, jn_oD_o5, jn_oD_v5, jn_oD_s5, jn_oD_o6, jn_oD_v6, jn_oD_o7, jn_oD_v7, jn_oD_o8, jn_oD_v8, jn_oD_o9, jn_oD_v9, jn_oD_o10, jn_oD_v10, jn_oM_o0, jn_oM_v0, jn_oM_o1, jn_oM_v1, jn_oM_o2, jn_oM_v2, jn_oM_s2, jn_oM_o3, jn_oM_v3, jn_oM_s3, jn_oM_o4, jn_oM_v4, jn_oM_o5, jn_oM_v5, jn_oM_o6, jn_oM_v6, jn_oM_o7, jn_oM_v7, jn_oM_o8, jn_oM_v8, jn_oM_o9, jn_oM_v9, jn_oM_o10, jn_oM_v10, jn_oM_o11, jn_oM_v11, jn_oM_o12, jn_oM_v12, jn_oM_o13, jn_oM_v13, jn_oM_o14, jn_oM_v14, jn_oM_o15, jn_oM_v15, jn_oM_o16, jn_oM_v16, jn_oM_o17, jn_oM_v17, jn_oM_o18, jn_oM_v18, jn_oM_o19, jn_oM_v19, jn_oM_o20, jn_oM_v20, jn_oM_o21, jn_oM_v21, jn_oM_s21, jn_aI_o, jn_aI_v, jn_aI_s, jn_aZ_o, jn_aZ_v, jn_aZ_s, jn_aL_o, jn_aL_v, jn_aL_s, jn_aN_o, jn_aN_v, jn_aN_s, jn_aN_p, jn_aB_o, jn_aB_v, jn_aB_s, jn_aB_p, jn_cp_on, jn_cp_sn, jn_io_n, jn_io_j, jn_cl_n, jn_cl_j, jI_add, nIadd, njIadd, jnIadd, jL_add, nLadd, njLadd, jnLadd, jI_sub, nIsub, njIsub, jnIsub, jL_sub, nLsub, njLsub, jnLsub, jI_mul, nImul, njImul, jnImul, jL_mul, nLmul, njLmul, jnLmul, jI_neg, nIneg, jL_neg, nLneg, jIle_nn, jn_cmp_eq]
    split
    · exact hq
    · exact hq
  have step : ∀ (i a b : Nat) (l9 l10 : Option Value), i < 1000000 → a < 9223372036854775808 → b < 9223372036854775808 → ¬ b = 0 → (∀ l9 l10 : Option Value, jn_W d 32 15 [some (.long (jL x)), none, some (.long (jL y)), none, some (.long (lN b)), none, some (.long (lN (a % b))), none, some (.int (nI (i + 1))), l9, l10] [] M Q) → jn_W d 32 15 [some (.long (jL x)), none, some (.long (jL y)), none, some (.long (lN a)), none, some (.long (lN b)), none, some (.int (nI i)), l9, l10] [] M Q := by
    intro i a b l9 l10 hi ha hb hb0 hk
    rw [jn_w32_15]
    simp (disch := omega) only [jn_w32_0, jn_w32_4, jn_w32_6, jn_w32_10, jn_w32_12, jn_w32_13, jn_w32_17, jn_w32_19, jn_w32_22, jn_w32_24, jn_w32_25, jn_w32_26, jn_w32_29, jn_w32_31, jn_w32_33, jn_w32_34, jn_w32_36, jn_w32_38, jn_w32_40, jn_w32_42, jn_w32_44, jn_w32_47, jn_w32_50, jn_w32_52, jn_kk_n, jn_kk_i, jn_kk_r, jn_kk_u, jn_kk_l, jn_sm_0, jn_sm_i, jn_sm_l, jn_sm_r, jn_sm_u, jn_zb_0, jn_zb_1, jn_zb_b, jn_bI_0, and_true, true_and, and_self, Bool.and_true, Bool.true_and, decide_eq_true_eq, Option.toList_some, Option.toList_none, List.cons_append, List.nil_append, not_true_eq_false, not_false_eq_true, if_true, if_false, jn_oNet_o0, jn_oNet_v0, jn_oNet_o1, jn_oNet_v1, jn_oNet_o2, jn_oNet_v2, jn_oBook_o0, jn_oBook_v0, jn_oBook_o1, jn_oBook_v1, jn_oTab_o0, jn_oTab_v0, jn_oTak_o0, jn_oTak_v0, jn_oRed_o0, jn_oRed_v0, jn_oRed_o1, jn_oRed_v1, jn_oRed_s1, jn_oRed_o2, jn_oRed_v2, jn_oRed_s2, jn_oRed_o3, jn_oRed_v3, jn_oRed_s3, jn_oRed_o4, jn_oRed_v4, jn_oRed_o5, jn_oRed_v5, jn_oBrk_o0, jn_oBrk_v0, jn_oBrk_o1, jn_oBrk_v1, jn_oBrk_o2, jn_oBrk_v2, jn_oBrk_o3, jn_oBrk_v3, jn_oD_o0, jn_oD_v0, jn_oD_o1, jn_oD_v1, jn_oD_s1, jn_oD_o2, jn_oD_v2, jn_oD_o3, jn_oD_v3, jn_oD_s3, jn_oD_o4, jn_oD_v4, jn_oD_o5, jn_oD_v5, jn_oD_s5, jn_oD_o6, jn_oD_v6, jn_oD_o7, jn_oD_v7, jn_oD_o8, jn_oD_v8, jn_oD_o9, jn_oD_v9, jn_oD_o10, jn_oD_v10, jn_oM_o0, jn_oM_v0, jn_oM_o1, jn_oM_v1, jn_oM_o2, jn_oM_v2, jn_oM_s2, jn_oM_o3, jn_oM_v3, jn_oM_s3, jn_oM_o4, jn_oM_v4, jn_oM_o5, jn_oM_v5, jn_oM_o6, jn_oM_v6, jn_oM_o7, jn_oM_v7, jn_oM_o8, jn_oM_v8, jn_oM_o9, jn_oM_v9, jn_oM_o10, jn_oM_v10, jn_oM_o11, jn_oM_v11, jn_oM_o12, jn_oM_v12, jn_oM_o13, jn_oM_v13, jn_oM_o14, jn_oM_v14, jn_oM_o15, jn_oM_v15, jn_oM_o16, jn_oM_v16, jn_oM_o17, jn_oM_v17, jn_oM_o18, jn_oM_v18, jn_oM_o19, jn_oM_v19, jn_oM_o20, jn_oM_v20, jn_oM_o21, jn_oM_v21, jn_oM_s21, jn_aI_o, jn_aI_v, jn_aI_s, jn_aZ_o, jn_aZ_v, jn_aZ_s, jn_aL_o, jn_aL_v, jn_aL_s, jn_aN_o, jn_aN_v, jn_aN_s, jn_aN_p, jn_aB_o, jn_aB_v, jn_aB_s, jn_aB_p, jn_cp_on, jn_cp_sn, jn_io_n, jn_io_j, jn_cl_n, jn_cl_j, jI_add, nIadd, njIadd, jnIadd, jL_add, nLadd, njLadd, jnLadd, jI_sub, nIsub, njIsub, jnIsub, jL_sub, nLsub, njLsub, jnLsub, jI_mul, nImul, njImul, jnImul, jL_mul, nLmul, njLmul, jnLmul, jI_neg, nIneg, jL_neg, nLneg, jIle_nn, jn_cmp_eq, jLeq_nn, pk_lRem, show ¬ 1000000 ≤ i by omega]
    rw [if_neg hb0]
    exact ⟨hb0, hk _ _⟩
  have key : ∀ k i a b : Nat, ∀ l9 l10 : Option Value, b < 2 ^ k → i + 2 * k ≤ 1000000 → a < 9223372036854775808 → b < 9223372036854775808 → Q (some (.long (lN (Nat.gcd a b)))) M → jn_W d 32 15 [some (.long (jL x)), none, some (.long (jL y)), none, some (.long (lN a)), none, some (.long (lN b)), none, some (.int (nI i)), l9, l10] [] M Q := by
    intro k
    induction k with
    | zero =>
      intro i a b l9 l10 hb hi ha hb2 hq
      have : b = 0 := by omega
      subst this
      rw [Nat.gcd_zero_right] at hq
      exact stop i a l9 l10 (by omega) hq
    | succ k ih =>
      intro i a b l9 l10 hb hi ha hb2 hq
      by_cases hb0 : b = 0
      · subst hb0
        rw [Nat.gcd_zero_right] at hq
        exact stop i a l9 l10 (by omega) hq
      · have hm := Nat.mod_lt a (show 0 < b by omega)
        refine step i a b l9 l10 (by omega) ha hb2 hb0 (fun m9 m10 => ?_)
        rw [jm_gcd_rec] at hq
        by_cases hr : a % b = 0
        · rw [hr] at hq ⊢
          rw [Nat.gcd_zero_right] at hq
          exact stop _ b m9 m10 (by omega) hq
        · have hh := jm_mod_half hr (by omega)
          refine step (i + 1) b (a % b) m9 m10 (by omega) hb2 (by omega) hr (fun n9 n10 => ?_)
          rw [jm_gcd_rec] at hq
          exact ih (i + 1 + 1) (a % b) (b % (a % b)) n9 n10 (by rw [Nat.pow_succ] at hb; omega) (by omega) (by omega) (by omega) hq
  exact key 63 0 x.natAbs y.natAbs none none (by show _ < 9223372036854775808; omega) (by omega) (by omega) (by omega) hQ
theorem jn_M_divisor {M : jn_M} {x y : Int} (hx : -9223372036854775808 < x ∧ x < 9223372036854775808) (hy : -9223372036854775808 < y ∧ y < 9223372036854775808) : jn_V 116 1 [.long (jL x), .long (jL y)] M (some (.long (lN (Nat.gcd x.natAbs y.natAbs)))) M := by
  (refine jn_V_of (fun d Q hd hQ => ?_); rw [show jn_en (jn_G0 116).1.2.2.1 [.long (jL x), .long (jL y)] = [some (.long (jL x)), none, some (.long (jL y)), none, none, none, none, none, none, none] from rfl])
  have key : ∀ (w0 w2 : Int64) (n a b : Nat) (l8 l9 : Option Value), b ≤ n → a < 9223372036854775808 → b < 9223372036854775808 → Q (some (.long (lN (Nat.gcd a b)))) M → jn_W d 116 28 [some (.long w0), none, some (.long w2), none, some (.long (lN a)), none, some (.long (lN b)), none, l8, l9] [] M Q := by
    intro w0 w2 n
    induction n with
    | zero =>
      intro a b l8 l9 hbn ha hb hq
      have : b = 0 := by omega
      subst this
      rw [Nat.gcd_zero_right] at hq
      rw [jn_w116_28]
      simp (disch := omega) only [jn_w116_0, jn_w116_1, jn_w116_2, jn_w116_3, jn_w116_6, jn_w116_7, jn_w116_8, jn_w116_11, jn_w116_12, jn_w116_14, jn_w116_15, jn_w116_16, jn_w116_17, jn_w116_20, jn_w116_21, jn_w116_22, jn_w116_25, jn_w116_26, jn_w116_30, jn_w116_31, jn_w116_32, jn_w116_35, jn_w116_37, jn_w116_39, jn_w116_40, jn_w116_42, jn_w116_44, jn_w116_46, jn_w116_48, jn_w116_50, jn_w116_53, jn_w116_55, jn_kk_n, jn_kk_i, jn_kk_r, jn_kk_u, jn_kk_l, jn_sm_0, jn_sm_i, jn_sm_l, jn_sm_r, jn_sm_u, jn_zb_0, jn_zb_1, jn_zb_b, jn_bI_0, and_true, true_and, and_self, Bool.and_true, Bool.true_and, decide_eq_true_eq, Option.toList_some, Option.toList_none, List.cons_append, List.nil_append, not_true_eq_false, not_false_eq_true, if_true, if_false, jn_oNet_o0, jn_oNet_v0, jn_oNet_o1, jn_oNet_v1, jn_oNet_o2, jn_oNet_v2, jn_oBook_o0, jn_oBook_v0, jn_oBook_o1, jn_oBook_v1, jn_oTab_o0, jn_oTab_v0, jn_oTak_o0, jn_oTak_v0, jn_oRed_o0, jn_oRed_v0, jn_oRed_o1, jn_oRed_v1, jn_oRed_s1, jn_oRed_o2, jn_oRed_v2, jn_oRed_s2, jn_oRed_o3, jn_oRed_v3, jn_oRed_s3, jn_oRed_o4, jn_oRed_v4, jn_oRed_o5, jn_oRed_v5, jn_oBrk_o0, jn_oBrk_v0, jn_oBrk_o1, jn_oBrk_v1, jn_oBrk_o2, jn_oBrk_v2, jn_oBrk_o3, jn_oBrk_v3, jn_oD_o0, jn_oD_v0, jn_oD_o1, jn_oD_v1, jn_oD_s1, jn_oD_o2, jn_oD_v2, jn_oD_o3, jn_oD_v3, jn_oD_s3, jn_oD_o4, jn_oD_v4, jn_oD_o5, jn_oD_v5, jn_oD_s5, jn_oD_o6, jn_oD_v6, jn_oD_o7, jn_oD_v7, jn_oD_o8, jn_oD_v8, jn_oD_o9, jn_oD_v9, jn_oD_o10, jn_oD_v10, jn_oM_o0, jn_oM_v0, jn_oM_o1, jn_oM_v1, jn_oM_o2, jn_oM_v2, jn_oM_s2, jn_oM_o3, jn_oM_v3, jn_oM_s3, jn_oM_o4, jn_oM_v4, jn_oM_o5, jn_oM_v5, jn_oM_o6, jn_oM_v6, jn_oM_o7, jn_oM_v7, jn_oM_o8, jn_oM_v8, jn_oM_o9, jn_oM_v9, jn_oM_o10, jn_oM_v10, jn_oM_o11, jn_oM_v11, jn_oM_o12, jn_oM_v12, jn_oM_o13, jn_oM_v13, jn_oM_o14, jn_oM_v14, jn_oM_o15, jn_oM_v15, jn_oM_o16, jn_oM_v16, jn_oM_o17, jn_oM_v17, jn_oM_o18, jn_oM_v18, jn_oM_o19, jn_oM_v19, jn_oM_o20, jn_oM_v20, jn_oM_o21, jn_oM_v21, jn_oM_s21, jn_aI_o, jn_aI_v, jn_aI_s, jn_aZ_o, jn_aZ_v, jn_aZ_s, jn_aL_o, jn_aL_v, jn_aL_s, jn_aN_o, jn_aN_v, jn_aN_s, jn_aN_p, jn_aB_o, jn_aB_v, jn_aB_s, jn_aB_p, jn_cp_on, jn_cp_sn, jn_io_n, jn_io_j, jn_cl_n, jn_cl_j, jI_add, nIadd, njIadd, jnIadd, jL_add, nLadd, njLadd, jnLadd, jI_sub, nIsub, njIsub, jnIsub, jL_sub, nLsub, njLsub, jnLsub, jI_mul, nImul, njImul, jnImul, jL_mul, nLmul, njLmul, jnLmul, jI_neg, nIneg, jL_neg, nLneg, jn_cmp_eq]
      exact hq
    | succ n ih =>
      intro a b l8 l9 hbn ha hb hq
      by_cases hb0 : b = 0
      · subst hb0
        rw [Nat.gcd_zero_right] at hq
        rw [jn_w116_28]
        simp (disch := omega) only [jn_w116_0, jn_w116_1, jn_w116_2, jn_w116_3, jn_w116_6, jn_w116_7, jn_w116_8, jn_w116_11, jn_w116_12, jn_w116_14, jn_w116_15, jn_w116_16, jn_w116_17, jn_w116_20, jn_w116_21, jn_w116_22, jn_w116_25, jn_w116_26, jn_w116_30, jn_w116_31, jn_w116_32, jn_w116_35, jn_w116_37, jn_w116_39, jn_w116_40, jn_w116_42, jn_w116_44, jn_w116_46, jn_w116_48, jn_w116_50, jn_w116_53, jn_w116_55, jn_kk_n, jn_kk_i, jn_kk_r, jn_kk_u, jn_kk_l, jn_sm_0, jn_sm_i, jn_sm_l, jn_sm_r, jn_sm_u, jn_zb_0, jn_zb_1, jn_zb_b, jn_bI_0, and_true, true_and, and_self, Bool.and_true, Bool.true_and, decide_eq_true_eq, Option.toList_some, Option.toList_none, List.cons_append, List.nil_append, not_true_eq_false, not_false_eq_true, if_true, if_false, jn_oNet_o0, jn_oNet_v0, jn_oNet_o1, jn_oNet_v1, jn_oNet_o2, jn_oNet_v2, jn_oBook_o0, jn_oBook_v0, jn_oBook_o1, jn_oBook_v1, jn_oTab_o0, jn_oTab_v0, jn_oTak_o0, jn_oTak_v0, jn_oRed_o0, jn_oRed_v0, jn_oRed_o1, jn_oRed_v1, jn_oRed_s1, jn_oRed_o2, jn_oRed_v2, jn_oRed_s2, jn_oRed_o3, jn_oRed_v3, jn_oRed_s3, jn_oRed_o4, jn_oRed_v4, jn_oRed_o5, jn_oRed_v5, jn_oBrk_o0, jn_oBrk_v0, jn_oBrk_o1, jn_oBrk_v1, jn_oBrk_o2, jn_oBrk_v2, jn_oBrk_o3, jn_oBrk_v3, jn_oD_o0, jn_oD_v0, jn_oD_o1, jn_oD_v1, jn_oD_s1, jn_oD_o2, jn_oD_v2, jn_oD_o3, jn_oD_v3, jn_oD_s3, jn_oD_o4, jn_oD_v4, jn_oD_o5, jn_oD_v5, jn_oD_s5, jn_oD_o6, jn_oD_v6, jn_oD_o7, jn_oD_v7, jn_oD_o8, jn_oD_v8, jn_oD_o9, jn_oD_v9, jn_oD_o10, jn_oD_v10, jn_oM_o0, jn_oM_v0, jn_oM_o1, jn_oM_v1, jn_oM_o2, jn_oM_v2, jn_oM_s2, jn_oM_o3, jn_oM_v3, jn_oM_s3, jn_oM_o4, jn_oM_v4, jn_oM_o5, jn_oM_v5, jn_oM_o6, jn_oM_v6, jn_oM_o7, jn_oM_v7, jn_oM_o8, jn_oM_v8, jn_oM_o9, jn_oM_v9, jn_oM_o10, jn_oM_v10, jn_oM_o11, jn_oM_v11, jn_oM_o12, jn_oM_v12, jn_oM_o13, jn_oM_v13, jn_oM_o14, jn_oM_v14, jn_oM_o15, jn_oM_v15, jn_oM_o16, jn_oM_v16, jn_oM_o17, jn_oM_v17, jn_oM_o18, jn_oM_v18, jn_oM_o19, jn_oM_v19, jn_oM_o20, jn_oM_v20, jn_oM_o21, jn_oM_v21, jn_oM_s21, jn_aI_o, jn_aI_v, jn_aI_s, jn_aZ_o, jn_aZ_v, jn_aZ_s, jn_aL_o, jn_aL_v, jn_aL_s, jn_aN_o, jn_aN_v, jn_aN_s, jn_aN_p, jn_aB_o, jn_aB_v, jn_aB_s, jn_aB_p, jn_cp_on, jn_cp_sn, jn_io_n, jn_io_j, jn_cl_n, jn_cl_j, jI_add, nIadd, njIadd, jnIadd, jL_add, nLadd, njLadd, jnLadd, jI_sub, nIsub, njIsub, jnIsub, jL_sub, nLsub, njLsub, jnLsub, jI_mul, nImul, njImul, jnImul, jL_mul, nLmul, njLmul, jnLmul, jI_neg, nIneg, jL_neg, nLneg, jn_cmp_eq]
        exact hq
      · have hm := Nat.mod_lt a (show 0 < b by omega)
        rw [jm_gcd_rec] at hq
        rw [jn_w116_28]
        simp (disch := omega) only [jn_w116_0, jn_w116_1, jn_w116_2, jn_w116_3, jn_w116_6, jn_w116_7, jn_w116_8, jn_w116_11, jn_w116_12, jn_w116_14, jn_w116_15, jn_w116_16, jn_w116_17, jn_w116_20, jn_w116_21, jn_w116_22, jn_w116_25, jn_w116_26, jn_w116_30, jn_w116_31, jn_w116_32, jn_w116_35, jn_w116_37, jn_w116_39, jn_w116_40, jn_w116_42, jn_w116_44, jn_w116_46, jn_w116_48, jn_w116_50, jn_w116_53, jn_w116_55, jn_kk_n, jn_kk_i, jn_kk_r, jn_kk_u, jn_kk_l, jn_sm_0, jn_sm_i, jn_sm_l, jn_sm_r, jn_sm_u, jn_zb_0, jn_zb_1, jn_zb_b, jn_bI_0, and_true, true_and, and_self, Bool.and_true, Bool.true_and, decide_eq_true_eq, Option.toList_some, Option.toList_none, List.cons_append, List.nil_append, not_true_eq_false, not_false_eq_true, if_true, if_false, jn_oNet_o0, jn_oNet_v0, jn_oNet_o1, jn_oNet_v1, jn_oNet_o2, jn_oNet_v2, jn_oBook_o0, jn_oBook_v0, jn_oBook_o1, jn_oBook_v1, jn_oTab_o0, jn_oTab_v0, jn_oTak_o0, jn_oTak_v0, jn_oRed_o0, jn_oRed_v0, jn_oRed_o1, jn_oRed_v1, jn_oRed_s1, jn_oRed_o2, jn_oRed_v2, jn_oRed_s2, jn_oRed_o3, jn_oRed_v3, jn_oRed_s3, jn_oRed_o4, jn_oRed_v4, jn_oRed_o5, jn_oRed_v5, jn_oBrk_o0, jn_oBrk_v0, jn_oBrk_o1, jn_oBrk_v1, jn_oBrk_o2, jn_oBrk_v2, jn_oBrk_o3, jn_oBrk_v3, jn_oD_o0, jn_oD_v0, jn_oD_o1, jn_oD_v1, jn_oD_s1, jn_oD_o2, jn_oD_v2, jn_oD_o3, jn_oD_v3, jn_oD_s3, jn_oD_o4, jn_oD_v4, jn_oD_o5, jn_oD_v5, jn_oD_s5, jn_oD_o6, jn_oD_v6, jn_oD_o7, jn_oD_v7, jn_oD_o8, jn_oD_v8, jn_oD_o9, jn_oD_v9, jn_oD_o10, jn_oD_v10, jn_oM_o0, jn_oM_v0, jn_oM_o1, jn_oM_v1, jn_oM_o2, jn_oM_v2, jn_oM_s2, jn_oM_o3, jn_oM_v3, jn_oM_s3, jn_oM_o4, jn_oM_v4, jn_oM_o5, jn_oM_v5, jn_oM_o6, jn_oM_v6, jn_oM_o7, jn_oM_v7, jn_oM_o8, jn_oM_v8, jn_oM_o9, jn_oM_v9, jn_oM_o10, jn_oM_v10, jn_oM_o11, jn_oM_v11, jn_oM_o12, jn_oM_v12, jn_oM_o13, jn_oM_v13, jn_oM_o14, jn_oM_v14, jn_oM_o15, jn_oM_v15, jn_oM_o16, jn_oM_v16, jn_oM_o17, jn_oM_v17, jn_oM_o18, jn_oM_v18, jn_oM_o19, jn_oM_v19, jn_oM_o20, jn_oM_v20, jn_oM_o21, jn_oM_v21, jn_oM_s21, jn_aI_o, jn_aI_v, jn_aI_s, jn_aZ_o, jn_aZ_v, jn_aZ_s, jn_aL_o, jn_aL_v, jn_aL_s, jn_aN_o, jn_aN_v, jn_aN_s, jn_aN_p, jn_aB_o, jn_aB_v, jn_aB_s, jn_aB_p, jn_cp_on, jn_cp_sn, jn_io_n, jn_io_j, jn_cl_n, jn_cl_j, jI_add, nIadd, njIadd, jnIadd, jL_add, nLadd, njLadd, jnLadd, jI_sub, nIsub, njIsub, jnIsub, jL_sub, nLsub, njLsub, jnLsub, jI_mul, nImul, njImul, jnImul, jL_mul, nLmul, njLmul, jnLmul, jI_neg, nIneg, jL_neg, nLneg, jn_cmp_eq, jLeq_nn, pk_lRem]
        rw [if_neg hb0]
        exact ⟨hb0, ih b (a % b) _ _ (by omega) hb (by omega) hq⟩
  have kx : ∀ z : Int, (-9223372036854775808 < z ∧ z < 9223372036854775808) → (z < ((0 : Nat) : Int) → jL (-z) = lN z.natAbs) ∧ (¬ z < ((0 : Nat) : Int) → jL z = lN z.natAbs) := by
    intro z hz
    refine ⟨fun h => ?_, fun h => ?_⟩
    · rw [← jL_nat, show ((z.natAbs : Nat) : Int) = -z by omega]
    · rw [← jL_nat, show ((z.natAbs : Nat) : Int) = z by omega]
  have e1 := kx x hx
  have e2 := kx y hy
  simp (disch := omega) only [jn_w116_0, jn_w116_1, jn_w116_2, jn_w116_3, jn_w116_6, jn_w116_7, jn_w116_8, jn_w116_11, jn_w116_12, jn_w116_14, jn_w116_15, jn_w116_16, jn_w116_17, jn_w116_20, jn_w116_21, jn_w116_22, jn_w116_25, jn_w116_26, jn_w116_30, jn_w116_31, jn_w116_32, jn_w116_35, jn_w116_37, jn_w116_39, jn_w116_40, jn_w116_42, jn_w116_44, jn_w116_46, jn_w116_48, jn_w116_50, jn_w116_53, jn_w116_55, jn_kk_n, jn_kk_i, jn_kk_r, jn_kk_u, jn_kk_l, jn_sm_0, jn_sm_i, jn_sm_l, jn_sm_r, jn_sm_u, jn_zb_0, jn_zb_1, jn_zb_b, jn_bI_0, and_true, true_and, and_self, Bool.and_true, Bool.true_and, decide_eq_true_eq, Option.toList_some, Option.toList_none, List.cons_append, List.nil_append, not_true_eq_false, not_false_eq_true, if_true, if_false, jn_oNet_o0, jn_oNet_v0, jn_oNet_o1, jn_oNet_v1, jn_oNet_o2, jn_oNet_v2, jn_oBook_o0, jn_oBook_v0, jn_oBook_o1, jn_oBook_v1, jn_oTab_o0, jn_oTab_v0, jn_oTak_o0, jn_oTak_v0, jn_oRed_o0, jn_oRed_v0, jn_oRed_o1, jn_oRed_v1, jn_oRed_s1, jn_oRed_o2, jn_oRed_v2, jn_oRed_s2, jn_oRed_o3, jn_oRed_v3, jn_oRed_s3, jn_oRed_o4, jn_oRed_v4, jn_oRed_o5, jn_oRed_v5, jn_oBrk_o0, jn_oBrk_v0, jn_oBrk_o1, jn_oBrk_v1, jn_oBrk_o2, jn_oBrk_v2, jn_oBrk_o3, jn_oBrk_v3, jn_oD_o0, jn_oD_v0, jn_oD_o1, jn_oD_v1, jn_oD_s1, jn_oD_o2, jn_oD_v2, jn_oD_o3, jn_oD_v3, jn_oD_s3, jn_oD_o4, jn_oD_v4, jn_oD_o5, jn_oD_v5, jn_oD_s5, jn_oD_o6, jn_oD_v6, jn_oD_o7, jn_oD_v7, jn_oD_o8, jn_oD_v8, jn_oD_o9, jn_oD_v9, jn_oD_o10, jn_oD_v10, jn_oM_o0, jn_oM_v0, jn_oM_o1, jn_oM_v1, jn_oM_o2, jn_oM_v2, jn_oM_s2, jn_oM_o3, jn_oM_v3, jn_oM_s3, jn_oM_o4, jn_oM_v4, jn_oM_o5, jn_oM_v5, jn_oM_o6, jn_oM_v6, jn_oM_o7, jn_oM_v7, jn_oM_o8, jn_oM_v8, jn_oM_o9, jn_oM_v9, jn_oM_o10, jn_oM_v10, jn_oM_o11, jn_oM_v11, jn_oM_o12, jn_oM_v12, jn_oM_o13, jn_oM_v13, jn_oM_o14, jn_oM_v14, jn_oM_o15, jn_oM_v15, jn_oM_o16, jn_oM_v16, jn_oM_o17, jn_oM_v17, jn_oM_o18, jn_oM_v18, jn_oM_o19, jn_oM_v19, jn_oM_o20, jn_oM_v20, jn_oM_o21, jn_oM_v21, jn_oM_s21, jn_aI_o, jn_aI_v, jn_aI_s, jn_aZ_o, jn_aZ_v, jn_aZ_s, jn_aL_o, jn_aL_v, jn_aL_s, jn_aN_o, jn_aN_v, jn_aN_s, jn_aN_p, jn_aB_o, jn_aB_v, jn_aB_s, jn_aB_p, jn_cp_on, jn_cp_sn, jn_io_n, jn_io_j, jn_cl_n, jn_cl_j, jI_add, nIadd, njIadd, jnIadd, jL_add, nLadd, njLadd, jnLadd, jI_sub, nIsub, njIsub, jnIsub, jL_sub, nLsub, njLsub, jnLsub, jI_mul, nImul, njImul, jnImul, jL_mul, nLmul, njLmul, jnLmul, jI_neg, nIneg, jL_neg, nLneg, jn_cmp_ge, jLle_nj]
  by_cases c1 : ((0 : Nat) : Int) ≤ x
  · by_cases c2 : ((0 : Nat) : Int) ≤ y
    · rw [if_pos c1, if_pos c2, e1.2 (by omega), e2.2 (by omega)]
      exact key _ _ y.natAbs _ _ _ _ (Nat.le_refl _) (by omega) (by omega) hQ
    · rw [if_pos c1, if_neg c2, e1.2 (by omega), e2.1 (by omega)]
      exact key _ _ y.natAbs _ _ _ _ (Nat.le_refl _) (by omega) (by omega) hQ
  · by_cases c2 : ((0 : Nat) : Int) ≤ y
    · rw [if_neg c1, if_pos c2, e1.1 (by omega), e2.2 (by omega)]
      exact key _ _ y.natAbs _ _ _ _ (Nat.le_refl _) (by omega) (by omega) hQ
    · rw [if_neg c1, if_neg c2, e1.1 (by omega), e2.1 (by omega)]
      exact key _ _ y.natAbs _ _ _ _ (Nat.le_refl _) (by omega) (by omega) hQ
theorem jn_xor_neg {z : Int} {n : Nat} (h1 : -2147483648 ≤ z) (h2 : z < 2147483648) (hn : n < 2147483648) : (nI 0 ≤ jI z ^^^ nI n) = (0 ≤ z) := by
  apply propext
  have e : ∀ x : Int32, (nI 0 ≤ x) ↔ x.toBitVec.msb = false := by
    intro x
    rw [Int32.le_iff_toInt_le, jI_toIntN (by omega), BitVec.msb_eq_toInt]
    simp
  rw [e, Int32.toBitVec_xor, BitVec.msb_xor]
  have e1 : (jI z).toBitVec.msb = decide (z < 0) := by rw [BitVec.msb_eq_toInt]; show decide ((jI z).toInt < 0) = _; rw [jI_toInt h1 h2]
  have e2 : (nI n).toBitVec.msb = false := by rw [BitVec.msb_eq_toInt]; show decide ((nI n).toInt < 0) = _; rw [jI_toIntN hn]; simp
  rw [e1, e2]
  simp
theorem jn_xorL_neg {z : Int} {n : Nat} (h1 : -9223372036854775808 ≤ z) (h2 : z < 9223372036854775808) (hn : n < 9223372036854775808) : (lN 0 ≤ jL z ^^^ lN n) = (0 ≤ z) := by
  apply propext
  have e : ∀ x : Int64, (lN 0 ≤ x) ↔ x.toBitVec.msb = false := by
    intro x
    rw [Int64.le_iff_toInt_le, jL_toIntN (by omega), BitVec.msb_eq_toInt]
    simp
  rw [e, Int64.toBitVec_xor, BitVec.msb_xor]
  have e1 : (jL z).toBitVec.msb = decide (z < 0) := by rw [BitVec.msb_eq_toInt]; show decide ((jL z).toInt < 0) = _; rw [jL_toInt h1 h2]
  have e2 : (lN n).toBitVec.msb = false := by rw [BitVec.msb_eq_toInt]; show decide ((lN n).toInt < 0) = _; rw [jL_toIntN hn]; simp
  rw [e1, e2]
  simp
theorem jn_div_j {z : Int} {n : Nat} (h1 : -2147483648 ≤ z) (h2 : z < 2147483648) (hn : n < 2147483648) : jI z / nI n = jI (z.tdiv n) := by
  rw [← jI_nat]
  exact (Int32.ofInt_tdiv h1 (by show z ≤ 2147483647; omega) (by show -2147483648 ≤ (n : Int); omega) (by show (n : Int) ≤ 2147483647; omega)).symm
theorem jn_divL_j {z : Int} {n : Nat} (h1 : -9223372036854775808 ≤ z) (h2 : z < 9223372036854775808) (hn : n < 9223372036854775808) : jL z / lN n = jL (z.tdiv n) := by
  rw [← jL_nat]
  exact (Int64.ofInt_tdiv h1 (by show z ≤ 9223372036854775807; omega) (by show -9223372036854775808 ≤ (n : Int); omega) (by show (n : Int) ≤ 9223372036854775807; omega)).symm
theorem jm_tdiv {z d : Int} (hd : 0 < d) : z / d = if 0 ≤ z then z.tdiv d else if z.tdiv d * d = z then z.tdiv d else z.tdiv d - 1 := by
  by_cases h : 0 ≤ z
  · rw [if_pos h, Int.tdiv_eq_ediv_of_nonneg h]
  · rw [if_neg h]
    have e : z.tdiv d = -((-z) / d) := by
      rw [← Int.tdiv_eq_ediv_of_nonneg (show 0 ≤ -z by omega), Int.neg_tdiv, Int.neg_neg]
    rw [e]
    have h1 := Int.emod_add_mul_ediv z d
    have h2 := Int.emod_nonneg z (show d ≠ 0 by omega)
    have h3 := Int.emod_lt_of_pos z hd
    have g1 := Int.emod_add_mul_ediv (-z) d
    have g2 := Int.emod_nonneg (-z) (show d ≠ 0 by omega)
    have g3 := Int.emod_lt_of_pos (-z) hd
    generalize hq : z / d = q at *
    generalize hp : -z / d = p at *
    generalize z % d = r at *
    generalize -z % d = s at *
    have hs : d * (q + p) = -(r + s) := by rw [Int.mul_add]; omega
    have hpd : -p * d = -(d * p) := by rw [Int.neg_mul, Int.mul_comm]
    by_cases c : -p * d = z
    · rw [if_pos c]
      have : s = 0 := by omega
      have hr : r = 0 := by
        have h5 : d * (q + p) = -r := by omega
        by_cases hqp : q + p = 0
        · rw [hqp] at h5; omega
        · have : d * 1 ≤ d * (if 0 < q + p then q + p else -(q + p)) := Int.mul_le_mul_of_nonneg_left (by split <;> omega) (by omega)
          split at this
          · omega
          · rw [Int.mul_neg] at this
            omega
      have h5 : d * (q + p) = 0 := by omega
      have h6 : q + p = 0 := by
        rcases Int.mul_eq_zero.mp h5 with h7 | h7
        · omega
        · exact h7
      omega
    · rw [if_neg c]
      have hs0 : 0 < s := by omega
      have h6 : q + p = -1 := by
        have a1 : d * (q + p) < 0 := by omega
        have a2 : d * (q + p) > -(2 * d) := by omega
        have b1 : q + p < 0 := by
          by_cases hc : q + p < 0
          · exact hc
          · have := Int.mul_nonneg (show 0 ≤ d by omega) (show 0 ≤ q + p by omega)
            omega
        have b2 : q + p > -2 := by
          by_cases hc : q + p > -2
          · exact hc
          · have : d * (q + p) ≤ d * (-2) := Int.mul_le_mul_of_nonneg_left (by omega) (by omega)
            omega
        omega
      omega
theorem jn_floorDivI {M : jn_M} {z : Int} {n : Nat} (hz : -2147483648 ≤ z ∧ z < 2147483648) (hn : 0 < n ∧ n < 2147483648) : jn_V 167 1 [.int (jI z), .int (nI n)] M (some (.int (jI (z / (n : Int))))) M := by
  (refine jn_V_of (fun d Q hd hQ => ?_); rw [show jn_en (jn_G0 167).1.2.2.1 [.int (jI z), .int (nI n)] = [some (.int (jI z)), some (.int (nI n)), none] from rfl])
  have e := jm_tdiv (z := z) (d := (n : Int)) (by omega)
  have hb : -2147483648 ≤ z.tdiv n * n ∧ z.tdiv n * n < 2147483648 := by
    have h1 := Int.tdiv_mul_add_tmod z n
    have h2 := Int.tmod_lt_of_pos z (show (0 : Int) < n by omega)
    have h3 := Int.lt_tmod_of_pos z (show (0 : Int) < n by omega)
    by_cases h0 : 0 ≤ z
    · have := Int.tmod_nonneg (n : Int) h0
      omega
    · have := Int.tmod_nonneg (n : Int) (show 0 ≤ -z by omega)
      rw [Int.neg_tmod] at this
      omega
  simp (disch := omega) only [jn_w167_0, jn_w167_1, jn_w167_2, jn_w167_3, jn_w167_4, jn_w167_5, jn_w167_6, jn_w167_7, jn_w167_10, jn_w167_11, jn_w167_12, jn_w167_13, jn_w167_14, jn_w167_17, jn_w167_18, jn_w167_19, jn_w167_20, jn_w167_21, jn_w167_22, jn_kk_n, jn_kk_i, jn_kk_r, jn_kk_u, jn_kk_l, jn_sm_0, jn_sm_i, jn_sm_l, jn_sm_r, jn_sm_u, jn_zb_0, jn_zb_1, jn_zb_b, jn_bI_0, and_true, true_and, and_self, Bool.and_true, Bool.true_and, decide_eq_true_eq, Option.toList_some, Option.toList_none, List.cons_append, List.nil_append, not_true_eq_false, not_false_eq_true, if_true, if_false, jn_oNet_o0, jn_oNet_v0, jn_oNet_o1, jn_oNet_v1, jn_oNet_o2, jn_oNet_v2, jn_oBook_o0, jn_oBook_v0, jn_oBook_o1, jn_oBook_v1, jn_oTab_o0, jn_oTab_v0, jn_oTak_o0, jn_oTak_v0, jn_oRed_o0, jn_oRed_v0, jn_oRed_o1, jn_oRed_v1, jn_oRed_s1, jn_oRed_o2, jn_oRed_v2, jn_oRed_s2, jn_oRed_o3, jn_oRed_v3, jn_oRed_s3, jn_oRed_o4, jn_oRed_v4, jn_oRed_o5, jn_oRed_v5, jn_oBrk_o0, jn_oBrk_v0, jn_oBrk_o1, jn_oBrk_v1, jn_oBrk_o2, jn_oBrk_v2, jn_oBrk_o3, jn_oBrk_v3, jn_oD_o0, jn_oD_v0, jn_oD_o1, jn_oD_v1, jn_oD_s1, jn_oD_o2, jn_oD_v2, jn_oD_o3, jn_oD_v3, jn_oD_s3, jn_oD_o4, jn_oD_v4, jn_oD_o5, jn_oD_v5, jn_oD_s5, jn_oD_o6, jn_oD_v6, jn_oD_o7, jn_oD_v7, jn_oD_o8, jn_oD_v8, jn_oD_o9, jn_oD_v9, jn_oD_o10, jn_oD_v10, jn_oM_o0, jn_oM_v0, jn_oM_o1, jn_oM_v1, jn_oM_o2, jn_oM_v2, jn_oM_s2, jn_oM_o3, jn_oM_v3, jn_oM_s3, jn_oM_o4, jn_oM_v4, jn_oM_o5, jn_oM_v5, jn_oM_o6, jn_oM_v6, jn_oM_o7, jn_oM_v7, jn_oM_o8, jn_oM_v8, jn_oM_o9, jn_oM_v9, jn_oM_o10, jn_oM_v10, jn_oM_o11, jn_oM_v11, jn_oM_o12, jn_oM_v12, jn_oM_o13, jn_oM_v13, jn_oM_o14, jn_oM_v14, jn_oM_o15, jn_oM_v15, jn_oM_o16, jn_oM_v16, jn_oM_o17, jn_oM_v17, jn_oM_o18, jn_oM_v18, jn_oM_o19, jn_oM_v19, jn_oM_o20, jn_oM_v20, jn_oM_o21, jn_oM_v21, jn_oM_s21, jn_aI_o, jn_aI_v, jn_aI_s, jn_aZ_o, jn_aZ_v, jn_aZ_s, jn_aL_o, jn_aL_v, jn_aL_s, jn_aN_o, jn_aN_v, jn_aN_s, jn_aN_p, jn_aB_o, jn_aB_v, jn_aB_s, jn_aB_p, jn_cp_on, jn_cp_sn, jn_io_n, jn_io_j, jn_cl_n, jn_cl_j, jI_add, nIadd, njIadd, jnIadd, jL_add, nLadd, njLadd, jnLadd, jI_sub, nIsub, njIsub, jnIsub, jL_sub, nLsub, njLsub, jnLsub, jI_mul, nImul, njImul, jnImul, jL_mul, nLmul, njLmul, jnLmul, jI_neg, nIneg, jL_neg, nLneg, jIeq_nn, jn_div_j, jn_xor_neg, jIeq_jj]
  refine ⟨by omega, ?_⟩
  by_cases c : 0 ≤ z
  · rw [if_pos c]
    rw [e, if_pos c] at hQ
    exact hQ
  · rw [if_neg c]
    rw [e, if_neg c] at hQ
    by_cases c2 : z.tdiv n * n = z
    · rw [if_pos c2]
      rw [if_pos c2] at hQ
      exact hQ
    · rw [if_neg c2]
      rw [if_neg c2] at hQ
      exact hQ
theorem jn_floorDivJ {M : jn_M} {z : Int} {n : Nat} (hz : -9223372036854775808 ≤ z ∧ z < 9223372036854775808) (hn : 0 < n ∧ n < 9223372036854775808) : jn_V 168 1 [.long (jL z), .long (lN n)] M (some (.long (jL (z / (n : Int))))) M := by
  (refine jn_V_of (fun d Q hd hQ => ?_); rw [show jn_en (jn_G0 168).1.2.2.1 [.long (jL z), .long (lN n)] = [some (.long (jL z)), none, some (.long (lN n)), none, none, none] from rfl])
  have e := jm_tdiv (z := z) (d := (n : Int)) (by omega)
  have hb : -9223372036854775808 ≤ z.tdiv n * n ∧ z.tdiv n * n < 9223372036854775808 := by
    have h1 := Int.tdiv_mul_add_tmod z n
    have h2 := Int.tmod_lt_of_pos z (show (0 : Int) < n by omega)
    have h3 := Int.lt_tmod_of_pos z (show (0 : Int) < n by omega)
    by_cases h0 : 0 ≤ z
    · have := Int.tmod_nonneg (n : Int) h0
      omega
    · have := Int.tmod_nonneg (n : Int) (show 0 ≤ -z by omega)
      rw [Int.neg_tmod] at this
      omega
  simp (disch := omega) only [jn_w168_0, jn_w168_1, jn_w168_2, jn_w168_3, jn_w168_5, jn_w168_6, jn_w168_7, jn_w168_8, jn_w168_9, jn_w168_10, jn_w168_13, jn_w168_15, jn_w168_16, jn_w168_17, jn_w168_18, jn_w168_19, jn_w168_22, jn_w168_24, jn_w168_25, jn_w168_26, jn_w168_27, jn_w168_29, jn_kk_n, jn_kk_i, jn_kk_r, jn_kk_u, jn_kk_l, jn_sm_0, jn_sm_i, jn_sm_l, jn_sm_r, jn_sm_u, jn_zb_0, jn_zb_1, jn_zb_b, jn_bI_0, and_true, true_and, and_self, Bool.and_true, Bool.true_and, decide_eq_true_eq, Option.toList_some, Option.toList_none, List.cons_append, List.nil_append, not_true_eq_false, not_false_eq_true, if_true, if_false, jn_oNet_o0, jn_oNet_v0, jn_oNet_o1, jn_oNet_v1, jn_oNet_o2, jn_oNet_v2, jn_oBook_o0, jn_oBook_v0, jn_oBook_o1, jn_oBook_v1, jn_oTab_o0, jn_oTab_v0, jn_oTak_o0, jn_oTak_v0, jn_oRed_o0, jn_oRed_v0, jn_oRed_o1, jn_oRed_v1, jn_oRed_s1, jn_oRed_o2, jn_oRed_v2, jn_oRed_s2, jn_oRed_o3, jn_oRed_v3, jn_oRed_s3, jn_oRed_o4, jn_oRed_v4, jn_oRed_o5, jn_oRed_v5, jn_oBrk_o0, jn_oBrk_v0, jn_oBrk_o1, jn_oBrk_v1, jn_oBrk_o2, jn_oBrk_v2, jn_oBrk_o3, jn_oBrk_v3, jn_oD_o0, jn_oD_v0, jn_oD_o1, jn_oD_v1, jn_oD_s1, jn_oD_o2, jn_oD_v2, jn_oD_o3, jn_oD_v3, jn_oD_s3, jn_oD_o4, jn_oD_v4, jn_oD_o5, jn_oD_v5, jn_oD_s5, jn_oD_o6, jn_oD_v6, jn_oD_o7, jn_oD_v7, jn_oD_o8, jn_oD_v8, jn_oD_o9, jn_oD_v9, jn_oD_o10, jn_oD_v10, jn_oM_o0, jn_oM_v0, jn_oM_o1, jn_oM_v1, jn_oM_o2, jn_oM_v2, jn_oM_s2, jn_oM_o3, jn_oM_v3, jn_oM_s3, jn_oM_o4, jn_oM_v4, jn_oM_o5, jn_oM_v5, jn_oM_o6, jn_oM_v6, jn_oM_o7, jn_oM_v7, jn_oM_o8, jn_oM_v8, jn_oM_o9, jn_oM_v9, jn_oM_o10, jn_oM_v10, jn_oM_o11, jn_oM_v11, jn_oM_o12, jn_oM_v12, jn_oM_o13, jn_oM_v13, jn_oM_o14, jn_oM_v14, jn_oM_o15, jn_oM_v15, jn_oM_o16, jn_oM_v16, jn_oM_o17, jn_oM_v17, jn_oM_o18, jn_oM_v18, jn_oM_o19, jn_oM_v19, jn_oM_o20, jn_oM_v20, jn_oM_o21, jn_oM_v21, jn_oM_s21, jn_aI_o, jn_aI_v, jn_aI_s, jn_aZ_o, jn_aZ_v, jn_aZ_s, jn_aL_o, jn_aL_v, jn_aL_s, jn_aN_o, jn_aN_v, jn_aN_s, jn_aN_p, jn_aB_o, jn_aB_v, jn_aB_s, jn_aB_p, jn_cp_on, jn_cp_sn, jn_io_n, jn_io_j, jn_cl_n, jn_cl_j, jI_add, nIadd, njIadd, jnIadd, jL_add, nLadd, njLadd, jnLadd, jI_sub, nIsub, njIsub, jnIsub, jL_sub, nLsub, njLsub, jnLsub, jI_mul, nImul, njImul, jnImul, jL_mul, nLmul, njLmul, jnLmul, jI_neg, nIneg, jL_neg, nLneg, jLeq_nn, jn_divL_j, jn_cmp_ge, jn_cmp_eq, jn_xorL_neg, jLeq_jj]
  refine ⟨by omega, ?_⟩
  by_cases c : 0 ≤ z
  · rw [if_pos c]
    rw [e, if_pos c] at hQ
    exact hQ
  · rw [if_neg c]
    rw [e, if_neg c] at hQ
    by_cases c2 : z.tdiv n * n = z
    · rw [if_pos c2]
      rw [if_pos c2] at hQ
      exact hQ
    · rw [if_neg c2]
      rw [if_neg c2] at hQ
      exact hQ
theorem jn_minI {M : jn_M} {a b : Int} (ha : -2147483648 ≤ a ∧ a < 2147483648) (hb : -2147483648 ≤ b ∧ b < 2147483648) : jn_V 170 1 [.int (jI a), .int (jI b)] M (some (.int (jI (if b < a then b else a)))) M := by
  (refine jn_V_of (fun d Q hd hQ => ?_); rw [show jn_en (jn_G0 170).1.2.2.1 [.int (jI a), .int (jI b)] = [some (.int (jI a)), some (.int (jI b))] from rfl])
  simp (disch := omega) only [jn_w170_0, jn_w170_1, jn_w170_2, jn_w170_5, jn_w170_6, jn_w170_9, jn_w170_10, jn_kk_n, jn_kk_i, jn_kk_r, jn_kk_u, jn_kk_l, jn_sm_0, jn_sm_i, jn_sm_l, jn_sm_r, jn_sm_u, jn_zb_0, jn_zb_1, jn_zb_b, jn_bI_0, and_true, true_and, and_self, Bool.and_true, Bool.true_and, decide_eq_true_eq, Option.toList_some, Option.toList_none, List.cons_append, List.nil_append, not_true_eq_false, not_false_eq_true, if_true, if_false, jn_oNet_o0, jn_oNet_v0, jn_oNet_o1, jn_oNet_v1, jn_oNet_o2, jn_oNet_v2, jn_oBook_o0, jn_oBook_v0, jn_oBook_o1, jn_oBook_v1, jn_oTab_o0, jn_oTab_v0, jn_oTak_o0, jn_oTak_v0, jn_oRed_o0, jn_oRed_v0, jn_oRed_o1, jn_oRed_v1, jn_oRed_s1, jn_oRed_o2, jn_oRed_v2, jn_oRed_s2, jn_oRed_o3, jn_oRed_v3, jn_oRed_s3, jn_oRed_o4, jn_oRed_v4, jn_oRed_o5, jn_oRed_v5, jn_oBrk_o0, jn_oBrk_v0, jn_oBrk_o1, jn_oBrk_v1, jn_oBrk_o2, jn_oBrk_v2, jn_oBrk_o3, jn_oBrk_v3, jn_oD_o0, jn_oD_v0, jn_oD_o1, jn_oD_v1, jn_oD_s1, jn_oD_o2, jn_oD_v2, jn_oD_o3, jn_oD_v3, jn_oD_s3, jn_oD_o4, jn_oD_v4, jn_oD_o5, jn_oD_v5, jn_oD_s5, jn_oD_o6, jn_oD_v6, jn_oD_o7, jn_oD_v7, jn_oD_o8, jn_oD_v8, jn_oD_o9, jn_oD_v9, jn_oD_o10, jn_oD_v10, jn_oM_o0, jn_oM_v0, jn_oM_o1, jn_oM_v1, jn_oM_o2, jn_oM_v2, jn_oM_s2, jn_oM_o3, jn_oM_v3, jn_oM_s3, jn_oM_o4, jn_oM_v4, jn_oM_o5, jn_oM_v5, jn_oM_o6, jn_oM_v6, jn_oM_o7, jn_oM_v7, jn_oM_o8, jn_oM_v8, jn_oM_o9, jn_oM_v9, jn_oM_o10, jn_oM_v10, jn_oM_o11, jn_oM_v11, jn_oM_o12, jn_oM_v12, jn_oM_o13, jn_oM_v13, jn_oM_o14, jn_oM_v14, jn_oM_o15, jn_oM_v15, jn_oM_o16, jn_oM_v16, jn_oM_o17, jn_oM_v17, jn_oM_o18, jn_oM_v18, jn_oM_o19, jn_oM_v19, jn_oM_o20, jn_oM_v20, jn_oM_o21, jn_oM_v21, jn_oM_s21, jn_aI_o, jn_aI_v, jn_aI_s, jn_aZ_o, jn_aZ_v, jn_aZ_s, jn_aL_o, jn_aL_v, jn_aL_s, jn_aN_o, jn_aN_v, jn_aN_s, jn_aN_p, jn_aB_o, jn_aB_v, jn_aB_s, jn_aB_p, jn_cp_on, jn_cp_sn, jn_io_n, jn_io_j, jn_cl_n, jn_cl_j, jI_add, nIadd, njIadd, jnIadd, jL_add, nLadd, njLadd, jnLadd, jI_sub, nIsub, njIsub, jnIsub, jL_sub, nLsub, njLsub, jnLsub, jI_mul, nImul, njImul, jnImul, jL_mul, nLmul, njLmul, jnLmul, jI_neg, nIneg, jL_neg, nLneg, jIlt_jj]
  by_cases c : b < a
  · rw [if_pos c]
    rw [if_pos c] at hQ
    exact hQ
  · rw [if_neg c]
    rw [if_neg c] at hQ
    exact hQ
theorem jm_bc_e : ∀ s, s < 64 → jn_su (fun k => s / 2 ^ k % 2) 6 ≤ 6 := fun s _ => jm_pc_le s
