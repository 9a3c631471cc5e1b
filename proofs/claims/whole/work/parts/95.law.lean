/-! The law: each call. -/
theorem jn_I_sc {sc : Nat × Nat × (Nat → Int32)} {bs c : Nat} {M : jn_M} (h : jn_I sc bs c M) : M.1 = sc := by
  obtain ⟨nets, books, theRow, rL, refusals, draft, cells, rnet, rbase, rtrees, shares, lends, taken, held, left, rowSize, posts, road, netOf, number, refused, used, now, lent, share, cofactor, trees, isKnown, first, firstLent, goods, base, kept, row, moved, D, N, K, nn, RR, jp, nf, bt, BB, jq, bg, rfl, hNI, hBI, hWI, hFI, hLI⟩ := h
  rfl
theorem jn_I_rc {sc : Nat × Nat × (Nat → Int32)} {bs c : Nat} {M : jn_M} (h : jn_I sc bs c M) (l : List Value) : jn_rc 8 M (.ref bs :: l) = true := by
  obtain ⟨nets, books, theRow, rL, refusals, draft, cells, rnet, rbase, rtrees, shares, lends, taken, held, left, rowSize, posts, road, netOf, number, refused, used, now, lent, share, cofactor, trees, isKnown, first, firstLent, goods, base, kept, row, moved, D, N, K, nn, RR, jp, nf, bt, BB, jq, bg, rfl, hNI, hBI, hWI, hFI, hLI⟩ := h
  exact jn_kD_rc
theorem jn_I_s {sc : Nat × Nat × (Nat → Int32)} {bs c : Nat} {M : jn_M} (h : jn_I sc bs c M) : jn_I sc bs (c + 1) M := by
  obtain ⟨nets, books, theRow, rL, refusals, draft, cells, rnet, rbase, rtrees, shares, lends, taken, held, left, rowSize, posts, road, netOf, number, refused, used, now, lent, share, cofactor, trees, isKnown, first, firstLent, goods, base, kept, row, moved, D, N, K, nn, RR, jp, nf, bt, BB, jq, bg, rfl, hNI, hBI, hWI, hFI, hLI⟩ := h
  exact ⟨nets, books, theRow, rL, refusals, draft, cells, rnet, rbase, rtrees, shares, lends, taken, held, left, rowSize, posts, road, netOf, number, refused, used, now, lent, share, cofactor, trees, isKnown, first, firstLent, goods, base, kept, row, moved, D, N, K, nn, RR, jp, nf, bt, BB, jq, bg, rfl, hNI, hBI, hWI, hFI, jn_LI_s hLI⟩
theorem jn_rs_sc {b L : Nat} {xs : Nat → Int32} {M : jn_M} (h : M.1 = (b, L, xs)) : jn_rs M b = some (jn_aI L xs) := by
  unfold jn_rs
  rw [h, if_pos rfl]
  rfl
/-- the calls go on -/
def jn_Nx (b L : Nat) (xs : Nat → Int32) (bs d i c : Nat) (Q : Option Value → jn_M → Prop) : Prop := ∀ M' : jn_M, jn_I (b, L, xs) bs (c + 1) M' → jn_W d 171 18 [some (.ref b), some (.ref bs), some (.ref (bs + 19)), some (.int (nI (i + 5)))] [] M' Q
theorem jn_lw0 {b L i c d bs : Nat} {xs : Nat → Int32} {M : jn_M} {Q : Option Value → jn_M → Prop} (hb : b < bs) (hd : 12 ≤ d) (hi : i + 5 ≤ L) (hL : L ≤ 2560) (h : jn_I (b, L, xs) bs c M) (next : jn_Nx b L xs bs d i c Q) : jn_W d 171 184 [some (.ref b), some (.ref bs), some (.ref (bs + 19)), some (.int (nI i))] [] M Q := by
  obtain ⟨z1, x1, r1⟩ := jn_of_int (xs (i + 1))
  obtain ⟨x, M1, M2, hv1, ⟨hs1, hr1, hv2⟩, hI⟩ := jn_op_net (sc := (b, L, xs)) (bs := bs) (c := c) (M := M) hb r1 h
  have hn := next M2 hI
  have hrs : jn_rs M b = some (jn_aI L xs) := jn_rs_sc (jn_I_sc h)
  have hrs1 : jn_rs M1 b = some (jn_aI L xs) := jn_rs_sc hs1
  have hr0 := jn_I_rc h
  clear h next hI hs1
  simp (disch := omega) only [jn_w171_184, jn_w171_184n, jn_w171_185, jn_w171_185n, jn_w171_186, jn_w171_187, jn_w171_188, jn_w171_189, jn_w171_193, jn_w171_193n, jn_w171_194, jn_w171_194n, jn_w171_195, jn_w171_196, jn_w171_197, jn_w171_198, jn_w171_202, jn_w171_205, jn_w171_206, jn_w171_1252, jn_w171_1255, jn_kk_n, jn_kk_i, jn_kk_r, jn_kk_u, jn_kk_l, jn_sm_0, jn_sm_i, jn_sm_l, jn_sm_r, jn_sm_u, jn_zb_0, jn_zb_1, jn_zb_b, jn_bI_0, and_true, true_and, and_self, Bool.and_true, Bool.true_and, decide_eq_true_eq, Option.toList_some, Option.toList_none, List.cons_append, List.nil_append, not_true_eq_false, not_false_eq_true, if_true, if_false, jn_aI_o, jn_aI_v, jn_io_n, jn_cl_n, nIadd, jn_w171_190 (d := d) (hv1) ⟨by omega, by omega⟩, jn_w171_199 (d := d) (hv2) ⟨by omega, by omega⟩, hr0, hr1, hrs, hrs1, eq_self, x1]
  repeat first | exact hn | refine ⟨by omega, ?_⟩
theorem jn_lw1 {b L i c d bs : Nat} {xs : Nat → Int32} {M : jn_M} {Q : Option Value → jn_M → Prop} (hb : b < bs) (hd : 12 ≤ d) (hi : i + 5 ≤ L) (hL : L ≤ 2560) (h : jn_I (b, L, xs) bs c M) (next : jn_Nx b L xs bs d i c Q) : jn_W d 171 207 [some (.ref b), some (.ref bs), some (.ref (bs + 19)), some (.int (nI i))] [] M Q := by
  obtain ⟨z1, x1, r1⟩ := jn_of_int (xs (i + 1))
  obtain ⟨z2, x2, r2⟩ := jn_of_int (xs (i + 2))
  obtain ⟨z3, x3, r3⟩ := jn_of_int (xs (i + 3))
  obtain ⟨z4, x4, r4⟩ := jn_of_int (xs (i + 4))
  obtain ⟨x, M1, M2, hv1, ⟨hs1, hr1, hv2⟩, hI⟩ := jn_op_road (sc := (b, L, xs)) (bs := bs) (c := c) (M := M) hb r1 r2 r3 r4 h
  have hn := next M2 hI
  have hrs : jn_rs M b = some (jn_aI L xs) := jn_rs_sc (jn_I_sc h)
  have hrs1 : jn_rs M1 b = some (jn_aI L xs) := jn_rs_sc hs1
  have hr0 := jn_I_rc h
  clear h next hI hs1
  simp (disch := omega) only [jn_w171_207, jn_w171_207n, jn_w171_208, jn_w171_208n, jn_w171_209, jn_w171_210, jn_w171_211, jn_w171_212, jn_w171_213, jn_w171_213n, jn_w171_214, jn_w171_215, jn_w171_216, jn_w171_217, jn_w171_218, jn_w171_218n, jn_w171_219, jn_w171_220, jn_w171_221, jn_w171_222, jn_w171_223, jn_w171_223n, jn_w171_224, jn_w171_225, jn_w171_226, jn_w171_227, jn_w171_231, jn_w171_231n, jn_w171_232, jn_w171_232n, jn_w171_233, jn_w171_234, jn_w171_235, jn_w171_236, jn_w171_237, jn_w171_237n, jn_w171_238, jn_w171_239, jn_w171_240, jn_w171_241, jn_w171_242, jn_w171_242n, jn_w171_243, jn_w171_244, jn_w171_245, jn_w171_246, jn_w171_247, jn_w171_247n, jn_w171_248, jn_w171_249, jn_w171_250, jn_w171_251, jn_w171_255, jn_w171_258, jn_w171_259, jn_w171_1252, jn_w171_1255, jn_kk_n, jn_kk_i, jn_kk_r, jn_kk_u, jn_kk_l, jn_sm_0, jn_sm_i, jn_sm_l, jn_sm_r, jn_sm_u, jn_zb_0, jn_zb_1, jn_zb_b, jn_bI_0, and_true, true_and, and_self, Bool.and_true, Bool.true_and, decide_eq_true_eq, Option.toList_some, Option.toList_none, List.cons_append, List.nil_append, not_true_eq_false, not_false_eq_true, if_true, if_false, jn_aI_o, jn_aI_v, jn_io_n, jn_cl_n, nIadd, jn_w171_228 (d := d) (hv1) ⟨by omega, by omega⟩, jn_w171_252 (d := d) (hv2) ⟨by omega, by omega⟩, hr0, hr1, hrs, hrs1, eq_self, x1, x2, x3, x4]
  repeat first | exact hn | refine ⟨by omega, ?_⟩
theorem jn_lw2 {b L i c d bs : Nat} {xs : Nat → Int32} {M : jn_M} {Q : Option Value → jn_M → Prop} (hb : b < bs) (hd : 12 ≤ d) (hi : i + 5 ≤ L) (hL : L ≤ 2560) (h : jn_I (b, L, xs) bs c M) (next : jn_Nx b L xs bs d i c Q) : jn_W d 171 260 [some (.ref b), some (.ref bs), some (.ref (bs + 19)), some (.int (nI i))] [] M Q := by
  obtain ⟨z1, x1, r1⟩ := jn_of_int (xs (i + 1))
  obtain ⟨z2, x2, r2⟩ := jn_of_int (xs (i + 2))
  obtain ⟨x, M1, M2, hv1, ⟨hs1, hr1, hv2⟩, hI⟩ := jn_op_look (sc := (b, L, xs)) (bs := bs) (c := c) (M := M) hb r1 r2 h
  have hn := next M2 hI
  have hrs : jn_rs M b = some (jn_aI L xs) := jn_rs_sc (jn_I_sc h)
  have hrs1 : jn_rs M1 b = some (jn_aI L xs) := jn_rs_sc hs1
  have hr0 := jn_I_rc h
  clear h next hI hs1
  simp (disch := omega) only [jn_w171_260, jn_w171_260n, jn_w171_261, jn_w171_261n, jn_w171_262, jn_w171_263, jn_w171_264, jn_w171_265, jn_w171_266, jn_w171_266n, jn_w171_267, jn_w171_268, jn_w171_269, jn_w171_270, jn_w171_274, jn_w171_274n, jn_w171_275, jn_w171_275n, jn_w171_276, jn_w171_277, jn_w171_278, jn_w171_279, jn_w171_280, jn_w171_280n, jn_w171_281, jn_w171_282, jn_w171_283, jn_w171_284, jn_w171_288, jn_w171_291, jn_w171_292, jn_w171_1252, jn_w171_1255, jn_kk_n, jn_kk_i, jn_kk_r, jn_kk_u, jn_kk_l, jn_sm_0, jn_sm_i, jn_sm_l, jn_sm_r, jn_sm_u, jn_zb_0, jn_zb_1, jn_zb_b, jn_bI_0, and_true, true_and, and_self, Bool.and_true, Bool.true_and, decide_eq_true_eq, Option.toList_some, Option.toList_none, List.cons_append, List.nil_append, not_true_eq_false, not_false_eq_true, if_true, if_false, jn_aI_o, jn_aI_v, jn_io_n, jn_cl_n, nIadd, jn_w171_271 (d := d) (hv1) ⟨by omega, by omega⟩, jn_w171_285 (d := d) (hv2) ⟨by omega, by omega⟩, hr0, hr1, hrs, hrs1, eq_self, x1, x2]
  repeat first | exact hn | refine ⟨by omega, ?_⟩
theorem jn_lw3 {b L i c d bs : Nat} {xs : Nat → Int32} {M : jn_M} {Q : Option Value → jn_M → Prop} (hb : b < bs) (hd : 12 ≤ d) (hi : i + 5 ≤ L) (hL : L ≤ 2560) (h : jn_I (b, L, xs) bs c M) (next : jn_Nx b L xs bs d i c Q) : jn_W d 171 293 [some (.ref b), some (.ref bs), some (.ref (bs + 19)), some (.int (nI i))] [] M Q := by
  obtain ⟨z1, x1, r1⟩ := jn_of_int (xs (i + 1))
  obtain ⟨z2, x2, r2⟩ := jn_of_int (xs (i + 2))
  obtain ⟨z3, x3, r3⟩ := jn_of_int (xs (i + 3))
  obtain ⟨x, M1, M2, hv1, ⟨hs1, hr1, hv2⟩, hI⟩ := jn_op_roads (sc := (b, L, xs)) (bs := bs) (c := c) (M := M) hb r1 r2 r3 h
  have hn := next M2 hI
  have hrs : jn_rs M b = some (jn_aI L xs) := jn_rs_sc (jn_I_sc h)
  have hrs1 : jn_rs M1 b = some (jn_aI L xs) := jn_rs_sc hs1
  have hr0 := jn_I_rc h
  clear h next hI hs1
  simp (disch := omega) only [jn_w171_293, jn_w171_293n, jn_w171_294, jn_w171_294n, jn_w171_295, jn_w171_296, jn_w171_297, jn_w171_298, jn_w171_299, jn_w171_299n, jn_w171_300, jn_w171_301, jn_w171_302, jn_w171_303, jn_w171_304, jn_w171_304n, jn_w171_305, jn_w171_306, jn_w171_307, jn_w171_308, jn_w171_312, jn_w171_312n, jn_w171_313, jn_w171_313n, jn_w171_314, jn_w171_315, jn_w171_316, jn_w171_317, jn_w171_318, jn_w171_318n, jn_w171_319, jn_w171_320, jn_w171_321, jn_w171_322, jn_w171_323, jn_w171_323n, jn_w171_324, jn_w171_325, jn_w171_326, jn_w171_327, jn_w171_331, jn_w171_334, jn_w171_335, jn_w171_1252, jn_w171_1255, jn_kk_n, jn_kk_i, jn_kk_r, jn_kk_u, jn_kk_l, jn_sm_0, jn_sm_i, jn_sm_l, jn_sm_r, jn_sm_u, jn_zb_0, jn_zb_1, jn_zb_b, jn_bI_0, and_true, true_and, and_self, Bool.and_true, Bool.true_and, decide_eq_true_eq, Option.toList_some, Option.toList_none, List.cons_append, List.nil_append, not_true_eq_false, not_false_eq_true, if_true, if_false, jn_aI_o, jn_aI_v, jn_io_n, jn_cl_n, nIadd, jn_w171_309 (d := d) (hv1) ⟨by omega, by omega⟩, jn_w171_328 (d := d) (hv2) ⟨by omega, by omega⟩, hr0, hr1, hrs, hrs1, eq_self, x1, x2, x3]
  repeat first | exact hn | refine ⟨by omega, ?_⟩
theorem jn_lw4 {b L i c d bs : Nat} {xs : Nat → Int32} {M : jn_M} {Q : Option Value → jn_M → Prop} (hb : b < bs) (hd : 12 ≤ d) (hi : i + 5 ≤ L) (hL : L ≤ 2560) (h : jn_I (b, L, xs) bs c M) (next : jn_Nx b L xs bs d i c Q) : jn_W d 171 336 [some (.ref b), some (.ref bs), some (.ref (bs + 19)), some (.int (nI i))] [] M Q := by
  obtain ⟨z1, x1, r1⟩ := jn_of_int (xs (i + 1))
  obtain ⟨x, M1, M2, hv1, ⟨hs1, hr1, hv2⟩, hI⟩ := jn_op_trees (sc := (b, L, xs)) (bs := bs) (c := c) (M := M) hb r1 h
  have hn := next M2 hI
  have hrs : jn_rs M b = some (jn_aI L xs) := jn_rs_sc (jn_I_sc h)
  have hrs1 : jn_rs M1 b = some (jn_aI L xs) := jn_rs_sc hs1
  have hr0 := jn_I_rc h
  clear h next hI hs1
  simp (disch := omega) only [jn_w171_336, jn_w171_336n, jn_w171_337, jn_w171_337n, jn_w171_338, jn_w171_339, jn_w171_340, jn_w171_341, jn_w171_345, jn_w171_345n, jn_w171_346, jn_w171_346n, jn_w171_347, jn_w171_348, jn_w171_349, jn_w171_350, jn_w171_354, jn_w171_355, jn_w171_358, jn_w171_359, jn_w171_1252, jn_w171_1255, jn_kk_n, jn_kk_i, jn_kk_r, jn_kk_u, jn_kk_l, jn_sm_0, jn_sm_i, jn_sm_l, jn_sm_r, jn_sm_u, jn_zb_0, jn_zb_1, jn_zb_b, jn_bI_0, and_true, true_and, and_self, Bool.and_true, Bool.true_and, decide_eq_true_eq, Option.toList_some, Option.toList_none, List.cons_append, List.nil_append, not_true_eq_false, not_false_eq_true, if_true, if_false, jn_aI_o, jn_aI_v, jn_io_n, jn_cl_n, nIadd, jn_w171_342 (d := d) (hv1) ⟨by omega, by omega⟩, jn_w171_351 (d := d) (hv2) ⟨by omega, by omega⟩, hr0, hr1, hrs, hrs1, eq_self, x1, jn_cmp_eq]
  repeat first | exact hn | refine ⟨by omega, ?_⟩
theorem jn_lw5 {b L i c d bs : Nat} {xs : Nat → Int32} {M : jn_M} {Q : Option Value → jn_M → Prop} (hb : b < bs) (hd : 12 ≤ d) (hi : i + 5 ≤ L) (hL : L ≤ 2560) (h : jn_I (b, L, xs) bs c M) (next : jn_Nx b L xs bs d i c Q) : jn_W d 171 360 [some (.ref b), some (.ref bs), some (.ref (bs + 19)), some (.int (nI i))] [] M Q := by
  obtain ⟨z1, x1, r1⟩ := jn_of_int (xs (i + 1))
  obtain ⟨z2, x2, r2⟩ := jn_of_int (xs (i + 2))
  obtain ⟨x, M1, M2, hv1, ⟨hs1, hr1, hv2⟩, hI⟩ := jn_op_factor (sc := (b, L, xs)) (bs := bs) (c := c) (M := M) hb r1 r2 h
  have hn := next M2 hI
  have hrs : jn_rs M b = some (jn_aI L xs) := jn_rs_sc (jn_I_sc h)
  have hrs1 : jn_rs M1 b = some (jn_aI L xs) := jn_rs_sc hs1
  have hr0 := jn_I_rc h
  clear h next hI hs1
  simp (disch := omega) only [jn_w171_360, jn_w171_360n, jn_w171_361, jn_w171_361n, jn_w171_362, jn_w171_363, jn_w171_364, jn_w171_365, jn_w171_366, jn_w171_366n, jn_w171_367, jn_w171_368, jn_w171_369, jn_w171_370, jn_w171_374, jn_w171_374n, jn_w171_375, jn_w171_375n, jn_w171_376, jn_w171_377, jn_w171_378, jn_w171_379, jn_w171_380, jn_w171_380n, jn_w171_381, jn_w171_382, jn_w171_383, jn_w171_384, jn_w171_388, jn_w171_389, jn_w171_392, jn_w171_393, jn_w171_1252, jn_w171_1255, jn_kk_n, jn_kk_i, jn_kk_r, jn_kk_u, jn_kk_l, jn_sm_0, jn_sm_i, jn_sm_l, jn_sm_r, jn_sm_u, jn_zb_0, jn_zb_1, jn_zb_b, jn_bI_0, and_true, true_and, and_self, Bool.and_true, Bool.true_and, decide_eq_true_eq, Option.toList_some, Option.toList_none, List.cons_append, List.nil_append, not_true_eq_false, not_false_eq_true, if_true, if_false, jn_aI_o, jn_aI_v, jn_io_n, jn_cl_n, nIadd, jn_w171_371 (d := d) (hv1) ⟨by omega, by omega⟩, jn_w171_385 (d := d) (hv2) ⟨by omega, by omega⟩, hr0, hr1, hrs, hrs1, eq_self, x1, x2, jn_cmp_eq]
  repeat first | exact hn | refine ⟨by omega, ?_⟩
theorem jn_lw6 {b L i c d bs : Nat} {xs : Nat → Int32} {M : jn_M} {Q : Option Value → jn_M → Prop} (hb : b < bs) (hd : 12 ≤ d) (hi : i + 5 ≤ L) (hL : L ≤ 2560) (h : jn_I (b, L, xs) bs c M) (next : jn_Nx b L xs bs d i c Q) : jn_W d 171 394 [some (.ref b), some (.ref bs), some (.ref (bs + 19)), some (.int (nI i))] [] M Q := by
  obtain ⟨z1, x1, r1⟩ := jn_of_int (xs (i + 1))
  obtain ⟨z2, x2, r2⟩ := jn_of_int (xs (i + 2))
  obtain ⟨z3, x3, r3⟩ := jn_of_int (xs (i + 3))
  obtain ⟨z4, x4, r4⟩ := jn_of_int (xs (i + 4))
  by_cases cb : z4 = ((0 : Nat) : Int)
  · skip
    obtain ⟨x, M1, M2, hv1, ⟨hs1, hr1, hv2⟩, hI⟩ := jn_op_resist (sc := (b, L, xs)) (bs := bs) (c := c) (M := M) (bl := false) hb r1 r2 r3 h
    simp only [jn_bI_f] at hv1 hr1 hv2
    have hn := next M2 hI
    have hrs : jn_rs M b = some (jn_aI L xs) := jn_rs_sc (jn_I_sc h)
    have hrs1 : jn_rs M1 b = some (jn_aI L xs) := jn_rs_sc hs1
    have hr0 := jn_I_rc h
    clear h next hI hs1
    simp (disch := omega) only [jn_w171_394, jn_w171_394n, jn_w171_395, jn_w171_395n, jn_w171_396, jn_w171_397, jn_w171_398, jn_w171_399, jn_w171_400, jn_w171_400n, jn_w171_401, jn_w171_402, jn_w171_403, jn_w171_404, jn_w171_405, jn_w171_405n, jn_w171_406, jn_w171_407, jn_w171_408, jn_w171_409, jn_w171_410, jn_w171_410n, jn_w171_411, jn_w171_412, jn_w171_413, jn_w171_414, jn_w171_415, jn_w171_418, jn_w171_419, jn_w171_422, jn_w171_426, jn_w171_426n, jn_w171_427, jn_w171_427n, jn_w171_428, jn_w171_429, jn_w171_430, jn_w171_431, jn_w171_432, jn_w171_432n, jn_w171_433, jn_w171_434, jn_w171_435, jn_w171_436, jn_w171_437, jn_w171_437n, jn_w171_438, jn_w171_439, jn_w171_440, jn_w171_441, jn_w171_442, jn_w171_442n, jn_w171_443, jn_w171_444, jn_w171_445, jn_w171_446, jn_w171_447, jn_w171_450, jn_w171_451, jn_w171_454, jn_w171_458, jn_w171_459, jn_w171_462, jn_w171_463, jn_w171_1252, jn_w171_1255, jn_kk_n, jn_kk_i, jn_kk_r, jn_kk_u, jn_kk_l, jn_sm_0, jn_sm_i, jn_sm_l, jn_sm_r, jn_sm_u, jn_zb_0, jn_zb_1, jn_zb_b, jn_bI_0, and_true, true_and, and_self, Bool.and_true, Bool.true_and, decide_eq_true_eq, Option.toList_some, Option.toList_none, List.cons_append, List.nil_append, not_true_eq_false, not_false_eq_true, if_true, if_false, jn_aI_o, jn_aI_v, jn_io_n, jn_cl_n, nIadd, jn_w171_423 (d := d) (hv1) ⟨by omega, by omega⟩, jn_w171_455 (d := d) (hv2) ⟨by omega, by omega⟩, hr0, hr1, hrs, hrs1, eq_self, x1, x2, x3, x4, jn_cmp_eq, jIeq_jn, cb]
    repeat first | exact hn | refine ⟨by omega, ?_⟩
  · skip
    obtain ⟨x, M1, M2, hv1, ⟨hs1, hr1, hv2⟩, hI⟩ := jn_op_resist (sc := (b, L, xs)) (bs := bs) (c := c) (M := M) (bl := true) hb r1 r2 r3 h
    simp only [jn_bI_t] at hv1 hr1 hv2
    have hn := next M2 hI
    have hrs : jn_rs M b = some (jn_aI L xs) := jn_rs_sc (jn_I_sc h)
    have hrs1 : jn_rs M1 b = some (jn_aI L xs) := jn_rs_sc hs1
    have hr0 := jn_I_rc h
    clear h next hI hs1
    simp (disch := omega) only [jn_w171_394, jn_w171_394n, jn_w171_395, jn_w171_395n, jn_w171_396, jn_w171_397, jn_w171_398, jn_w171_399, jn_w171_400, jn_w171_400n, jn_w171_401, jn_w171_402, jn_w171_403, jn_w171_404, jn_w171_405, jn_w171_405n, jn_w171_406, jn_w171_407, jn_w171_408, jn_w171_409, jn_w171_410, jn_w171_410n, jn_w171_411, jn_w171_412, jn_w171_413, jn_w171_414, jn_w171_415, jn_w171_418, jn_w171_419, jn_w171_422, jn_w171_426, jn_w171_426n, jn_w171_427, jn_w171_427n, jn_w171_428, jn_w171_429, jn_w171_430, jn_w171_431, jn_w171_432, jn_w171_432n, jn_w171_433, jn_w171_434, jn_w171_435, jn_w171_436, jn_w171_437, jn_w171_437n, jn_w171_438, jn_w171_439, jn_w171_440, jn_w171_441, jn_w171_442, jn_w171_442n, jn_w171_443, jn_w171_444, jn_w171_445, jn_w171_446, jn_w171_447, jn_w171_450, jn_w171_451, jn_w171_454, jn_w171_458, jn_w171_459, jn_w171_462, jn_w171_463, jn_w171_1252, jn_w171_1255, jn_kk_n, jn_kk_i, jn_kk_r, jn_kk_u, jn_kk_l, jn_sm_0, jn_sm_i, jn_sm_l, jn_sm_r, jn_sm_u, jn_zb_0, jn_zb_1, jn_zb_b, jn_bI_0, and_true, true_and, and_self, Bool.and_true, Bool.true_and, decide_eq_true_eq, Option.toList_some, Option.toList_none, List.cons_append, List.nil_append, not_true_eq_false, not_false_eq_true, if_true, if_false, jn_aI_o, jn_aI_v, jn_io_n, jn_cl_n, nIadd, jn_w171_423 (d := d) (hv1) ⟨by omega, by omega⟩, jn_w171_455 (d := d) (hv2) ⟨by omega, by omega⟩, hr0, hr1, hrs, hrs1, eq_self, x1, x2, x3, x4, jn_cmp_eq, jIeq_jn, cb]
    repeat first | exact hn | refine ⟨by omega, ?_⟩
theorem jn_lw7 {b L i c d bs : Nat} {xs : Nat → Int32} {M : jn_M} {Q : Option Value → jn_M → Prop} (hb : b < bs) (hd : 12 ≤ d) (hi : i + 5 ≤ L) (hL : L ≤ 2560) (h : jn_I (b, L, xs) bs c M) (next : jn_Nx b L xs bs d i c Q) : jn_W d 171 464 [some (.ref b), some (.ref bs), some (.ref (bs + 19)), some (.int (nI i))] [] M Q := by
  obtain ⟨z1, x1, r1⟩ := jn_of_int (xs (i + 1))
  obtain ⟨x, M1, M2, hv1, ⟨hs1, hr1, hv2⟩, hI⟩ := jn_op_gonality (sc := (b, L, xs)) (bs := bs) (c := c) (M := M) hb r1 h
  have hn := next M2 hI
  have hrs : jn_rs M b = some (jn_aI L xs) := jn_rs_sc (jn_I_sc h)
  have hrs1 : jn_rs M1 b = some (jn_aI L xs) := jn_rs_sc hs1
  have hr0 := jn_I_rc h
  clear h next hI hs1
  simp (disch := omega) only [jn_w171_464, jn_w171_464n, jn_w171_465, jn_w171_465n, jn_w171_466, jn_w171_467, jn_w171_468, jn_w171_469, jn_w171_473, jn_w171_473n, jn_w171_474, jn_w171_474n, jn_w171_475, jn_w171_476, jn_w171_477, jn_w171_478, jn_w171_482, jn_w171_485, jn_w171_486, jn_w171_1252, jn_w171_1255, jn_kk_n, jn_kk_i, jn_kk_r, jn_kk_u, jn_kk_l, jn_sm_0, jn_sm_i, jn_sm_l, jn_sm_r, jn_sm_u, jn_zb_0, jn_zb_1, jn_zb_b, jn_bI_0, and_true, true_and, and_self, Bool.and_true, Bool.true_and, decide_eq_true_eq, Option.toList_some, Option.toList_none, List.cons_append, List.nil_append, not_true_eq_false, not_false_eq_true, if_true, if_false, jn_aI_o, jn_aI_v, jn_io_n, jn_cl_n, nIadd, jn_w171_470 (d := d) (hv1) ⟨by omega, by omega⟩, jn_w171_479 (d := d) (hv2) ⟨by omega, by omega⟩, hr0, hr1, hrs, hrs1, eq_self, x1]
  repeat first | exact hn | refine ⟨by omega, ?_⟩
theorem jn_lw8 {b L i c d bs : Nat} {xs : Nat → Int32} {M : jn_M} {Q : Option Value → jn_M → Prop} (hb : b < bs) (hd : 12 ≤ d) (hi : i + 5 ≤ L) (hL : L ≤ 2560) (h : jn_I (b, L, xs) bs c M) (next : jn_Nx b L xs bs d i c Q) : jn_W d 171 487 [some (.ref b), some (.ref bs), some (.ref (bs + 19)), some (.int (nI i))] [] M Q := by
  obtain ⟨z1, x1, r1⟩ := jn_of_int (xs (i + 1))
  obtain ⟨x, M1, M2, hv1, ⟨hs1, hr1, hv2⟩, hI⟩ := jn_op_book (sc := (b, L, xs)) (bs := bs) (c := c) (M := M) hb r1 h
  have hn := next M2 hI
  have hrs : jn_rs M b = some (jn_aI L xs) := jn_rs_sc (jn_I_sc h)
  have hrs1 : jn_rs M1 b = some (jn_aI L xs) := jn_rs_sc hs1
  have hr0 := jn_I_rc h
  clear h next hI hs1
  simp (disch := omega) only [jn_w171_487, jn_w171_487n, jn_w171_488, jn_w171_488n, jn_w171_489, jn_w171_490, jn_w171_491, jn_w171_492, jn_w171_496, jn_w171_496n, jn_w171_497, jn_w171_497n, jn_w171_498, jn_w171_499, jn_w171_500, jn_w171_501, jn_w171_505, jn_w171_508, jn_w171_509, jn_w171_1252, jn_w171_1255, jn_kk_n, jn_kk_i, jn_kk_r, jn_kk_u, jn_kk_l, jn_sm_0, jn_sm_i, jn_sm_l, jn_sm_r, jn_sm_u, jn_zb_0, jn_zb_1, jn_zb_b, jn_bI_0, and_true, true_and, and_self, Bool.and_true, Bool.true_and, decide_eq_true_eq, Option.toList_some, Option.toList_none, List.cons_append, List.nil_append, not_true_eq_false, not_false_eq_true, if_true, if_false, jn_aI_o, jn_aI_v, jn_io_n, jn_cl_n, nIadd, jn_w171_493 (d := d) (hv1) ⟨by omega, by omega⟩, jn_w171_502 (d := d) (hv2) ⟨by omega, by omega⟩, hr0, hr1, hrs, hrs1, eq_self, x1]
  repeat first | exact hn | refine ⟨by omega, ?_⟩
theorem jn_lw9 {b L i c d bs : Nat} {xs : Nat → Int32} {M : jn_M} {Q : Option Value → jn_M → Prop} (hb : b < bs) (hd : 12 ≤ d) (hi : i + 5 ≤ L) (hL : L ≤ 2560) (h : jn_I (b, L, xs) bs c M) (next : jn_Nx b L xs bs d i c Q) : jn_W d 171 510 [some (.ref b), some (.ref bs), some (.ref (bs + 19)), some (.int (nI i))] [] M Q := by
  obtain ⟨z1, x1, r1⟩ := jn_of_int (xs (i + 1))
  obtain ⟨z2, x2, r2⟩ := jn_of_int (xs (i + 2))
  obtain ⟨z3, x3, r3⟩ := jn_of_int (xs (i + 3))
  obtain ⟨x, M1, M2, hv1, ⟨hs1, hr1, hv2⟩, hI⟩ := jn_op_put (sc := (b, L, xs)) (bs := bs) (c := c) (M := M) hb r1 r2 r3 h
  have hn := next M2 hI
  have hrs : jn_rs M b = some (jn_aI L xs) := jn_rs_sc (jn_I_sc h)
  have hrs1 : jn_rs M1 b = some (jn_aI L xs) := jn_rs_sc hs1
  have hr0 := jn_I_rc h
  clear h next hI hs1
  simp (disch := omega) only [jn_w171_510, jn_w171_510n, jn_w171_511, jn_w171_511n, jn_w171_512, jn_w171_513, jn_w171_514, jn_w171_515, jn_w171_516, jn_w171_516n, jn_w171_517, jn_w171_518, jn_w171_519, jn_w171_520, jn_w171_521, jn_w171_521n, jn_w171_522, jn_w171_523, jn_w171_524, jn_w171_525, jn_w171_529, jn_w171_529n, jn_w171_530, jn_w171_530n, jn_w171_531, jn_w171_532, jn_w171_533, jn_w171_534, jn_w171_535, jn_w171_535n, jn_w171_536, jn_w171_537, jn_w171_538, jn_w171_539, jn_w171_540, jn_w171_540n, jn_w171_541, jn_w171_542, jn_w171_543, jn_w171_544, jn_w171_548, jn_w171_551, jn_w171_552, jn_w171_1252, jn_w171_1255, jn_kk_n, jn_kk_i, jn_kk_r, jn_kk_u, jn_kk_l, jn_sm_0, jn_sm_i, jn_sm_l, jn_sm_r, jn_sm_u, jn_zb_0, jn_zb_1, jn_zb_b, jn_bI_0, and_true, true_and, and_self, Bool.and_true, Bool.true_and, decide_eq_true_eq, Option.toList_some, Option.toList_none, List.cons_append, List.nil_append, not_true_eq_false, not_false_eq_true, if_true, if_false, jn_aI_o, jn_aI_v, jn_io_n, jn_cl_n, nIadd, jn_w171_526 (d := d) (hv1) ⟨by omega, by omega⟩, jn_w171_545 (d := d) (hv2) ⟨by omega, by omega⟩, hr0, hr1, hrs, hrs1, eq_self, x1, x2, x3]
  repeat first | exact hn | refine ⟨by omega, ?_⟩
theorem jn_lw10 {b L i c d bs : Nat} {xs : Nat → Int32} {M : jn_M} {Q : Option Value → jn_M → Prop} (hb : b < bs) (hd : 12 ≤ d) (hi : i + 5 ≤ L) (hL : L ≤ 2560) (h : jn_I (b, L, xs) bs c M) (next : jn_Nx b L xs bs d i c Q) : jn_W d 171 553 [some (.ref b), some (.ref bs), some (.ref (bs + 19)), some (.int (nI i))] [] M Q := by
  obtain ⟨z1, x1, r1⟩ := jn_of_int (xs (i + 1))
  obtain ⟨z2, x2, r2⟩ := jn_of_int (xs (i + 2))
  obtain ⟨x, M1, M2, hv1, ⟨hs1, hr1, hv2⟩, hI⟩ := jn_op_at (sc := (b, L, xs)) (bs := bs) (c := c) (M := M) hb r1 r2 h
  have hn := next M2 hI
  have hrs : jn_rs M b = some (jn_aI L xs) := jn_rs_sc (jn_I_sc h)
  have hrs1 : jn_rs M1 b = some (jn_aI L xs) := jn_rs_sc hs1
  have hr0 := jn_I_rc h
  clear h next hI hs1
  simp (disch := omega) only [jn_w171_553, jn_w171_553n, jn_w171_554, jn_w171_554n, jn_w171_555, jn_w171_556, jn_w171_557, jn_w171_558, jn_w171_559, jn_w171_559n, jn_w171_560, jn_w171_561, jn_w171_562, jn_w171_563, jn_w171_567, jn_w171_567n, jn_w171_568, jn_w171_568n, jn_w171_569, jn_w171_570, jn_w171_571, jn_w171_572, jn_w171_573, jn_w171_573n, jn_w171_574, jn_w171_575, jn_w171_576, jn_w171_577, jn_w171_581, jn_w171_584, jn_w171_585, jn_w171_1252, jn_w171_1255, jn_kk_n, jn_kk_i, jn_kk_r, jn_kk_u, jn_kk_l, jn_sm_0, jn_sm_i, jn_sm_l, jn_sm_r, jn_sm_u, jn_zb_0, jn_zb_1, jn_zb_b, jn_bI_0, and_true, true_and, and_self, Bool.and_true, Bool.true_and, decide_eq_true_eq, Option.toList_some, Option.toList_none, List.cons_append, List.nil_append, not_true_eq_false, not_false_eq_true, if_true, if_false, jn_aI_o, jn_aI_v, jn_io_n, jn_cl_n, nIadd, jn_w171_564 (d := d) (hv1) ⟨by omega, by omega⟩, jn_w171_578 (d := d) (hv2) ⟨by omega, by omega⟩, hr0, hr1, hrs, hrs1, eq_self, x1, x2]
  repeat first | exact hn | refine ⟨by omega, ?_⟩
theorem jn_lw11 {b L i c d bs : Nat} {xs : Nat → Int32} {M : jn_M} {Q : Option Value → jn_M → Prop} (hb : b < bs) (hd : 12 ≤ d) (hi : i + 5 ≤ L) (hL : L ≤ 2560) (h : jn_I (b, L, xs) bs c M) (next : jn_Nx b L xs bs d i c Q) : jn_W d 171 586 [some (.ref b), some (.ref bs), some (.ref (bs + 19)), some (.int (nI i))] [] M Q := by
  obtain ⟨z1, x1, r1⟩ := jn_of_int (xs (i + 1))
  obtain ⟨x, M1, M2, hv1, ⟨hs1, hr1, hv2⟩, hI⟩ := jn_op_degree (sc := (b, L, xs)) (bs := bs) (c := c) (M := M) hb r1 h
  have hn := next M2 hI
  have hrs : jn_rs M b = some (jn_aI L xs) := jn_rs_sc (jn_I_sc h)
  have hrs1 : jn_rs M1 b = some (jn_aI L xs) := jn_rs_sc hs1
  have hr0 := jn_I_rc h
  clear h next hI hs1
  simp (disch := omega) only [jn_w171_586, jn_w171_586n, jn_w171_587, jn_w171_587n, jn_w171_588, jn_w171_589, jn_w171_590, jn_w171_591, jn_w171_595, jn_w171_595n, jn_w171_596, jn_w171_596n, jn_w171_597, jn_w171_598, jn_w171_599, jn_w171_600, jn_w171_604, jn_w171_607, jn_w171_608, jn_w171_1252, jn_w171_1255, jn_kk_n, jn_kk_i, jn_kk_r, jn_kk_u, jn_kk_l, jn_sm_0, jn_sm_i, jn_sm_l, jn_sm_r, jn_sm_u, jn_zb_0, jn_zb_1, jn_zb_b, jn_bI_0, and_true, true_and, and_self, Bool.and_true, Bool.true_and, decide_eq_true_eq, Option.toList_some, Option.toList_none, List.cons_append, List.nil_append, not_true_eq_false, not_false_eq_true, if_true, if_false, jn_aI_o, jn_aI_v, jn_io_n, jn_cl_n, nIadd, jn_w171_592 (d := d) (hv1) ⟨by omega, by omega⟩, jn_w171_601 (d := d) (hv2) ⟨by omega, by omega⟩, hr0, hr1, hrs, hrs1, eq_self, x1]
  repeat first | exact hn | refine ⟨by omega, ?_⟩
theorem jn_lw12 {b L i c d bs : Nat} {xs : Nat → Int32} {M : jn_M} {Q : Option Value → jn_M → Prop} (hb : b < bs) (hd : 12 ≤ d) (hi : i + 5 ≤ L) (hL : L ≤ 2560) (h : jn_I (b, L, xs) bs c M) (next : jn_Nx b L xs bs d i c Q) : jn_W d 171 609 [some (.ref b), some (.ref bs), some (.ref (bs + 19)), some (.int (nI i))] [] M Q := by
  obtain ⟨z1, x1, r1⟩ := jn_of_int (xs (i + 1))
  obtain ⟨x, M1, M2, hv1, ⟨hs1, hr1, hv2⟩, hI⟩ := jn_op_good (sc := (b, L, xs)) (bs := bs) (c := c) (M := M) hb r1 h
  have hn := next M2 hI
  have hrs : jn_rs M b = some (jn_aI L xs) := jn_rs_sc (jn_I_sc h)
  have hrs1 : jn_rs M1 b = some (jn_aI L xs) := jn_rs_sc hs1
  have hr0 := jn_I_rc h
  clear h next hI hs1
  simp (disch := omega) only [jn_w171_609, jn_w171_609n, jn_w171_610, jn_w171_610n, jn_w171_611, jn_w171_612, jn_w171_613, jn_w171_614, jn_w171_618, jn_w171_618n, jn_w171_619, jn_w171_619n, jn_w171_620, jn_w171_621, jn_w171_622, jn_w171_623, jn_w171_627, jn_w171_630, jn_w171_631, jn_w171_1252, jn_w171_1255, jn_kk_n, jn_kk_i, jn_kk_r, jn_kk_u, jn_kk_l, jn_sm_0, jn_sm_i, jn_sm_l, jn_sm_r, jn_sm_u, jn_zb_0, jn_zb_1, jn_zb_b, jn_bI_0, and_true, true_and, and_self, Bool.and_true, Bool.true_and, decide_eq_true_eq, Option.toList_some, Option.toList_none, List.cons_append, List.nil_append, not_true_eq_false, not_false_eq_true, if_true, if_false, jn_aI_o, jn_aI_v, jn_io_n, jn_cl_n, nIadd, jn_w171_615 (d := d) (hv1) ⟨by omega, by omega⟩, jn_w171_624 (d := d) (hv2) ⟨by omega, by omega⟩, hr0, hr1, hrs, hrs1, eq_self, x1]
  repeat first | exact hn | refine ⟨by omega, ?_⟩
theorem jn_lw13 {b L i c d bs : Nat} {xs : Nat → Int32} {M : jn_M} {Q : Option Value → jn_M → Prop} (hb : b < bs) (hd : 12 ≤ d) (hi : i + 5 ≤ L) (hL : L ≤ 2560) (h : jn_I (b, L, xs) bs c M) (next : jn_Nx b L xs bs d i c Q) : jn_W d 171 632 [some (.ref b), some (.ref bs), some (.ref (bs + 19)), some (.int (nI i))] [] M Q := by
  obtain ⟨z1, x1, r1⟩ := jn_of_int (xs (i + 1))
  obtain ⟨z2, x2, r2⟩ := jn_of_int (xs (i + 2))
  obtain ⟨z3, x3, r3⟩ := jn_of_int (xs (i + 3))
  obtain ⟨x, M1, M2, hv1, ⟨hs1, hr1, hv2⟩, hI⟩ := jn_op_lend (sc := (b, L, xs)) (bs := bs) (c := c) (M := M) hb r1 r2 r3 h
  have hn := next M2 hI
  have hrs : jn_rs M b = some (jn_aI L xs) := jn_rs_sc (jn_I_sc h)
  have hrs1 : jn_rs M1 b = some (jn_aI L xs) := jn_rs_sc hs1
  have hr0 := jn_I_rc h
  clear h next hI hs1
  simp (disch := omega) only [jn_w171_632, jn_w171_632n, jn_w171_633, jn_w171_633n, jn_w171_634, jn_w171_635, jn_w171_636, jn_w171_637, jn_w171_638, jn_w171_638n, jn_w171_639, jn_w171_640, jn_w171_641, jn_w171_642, jn_w171_643, jn_w171_643n, jn_w171_644, jn_w171_645, jn_w171_646, jn_w171_647, jn_w171_651, jn_w171_651n, jn_w171_652, jn_w171_652n, jn_w171_653, jn_w171_654, jn_w171_655, jn_w171_656, jn_w171_657, jn_w171_657n, jn_w171_658, jn_w171_659, jn_w171_660, jn_w171_661, jn_w171_662, jn_w171_662n, jn_w171_663, jn_w171_664, jn_w171_665, jn_w171_666, jn_w171_670, jn_w171_673, jn_w171_674, jn_w171_1252, jn_w171_1255, jn_kk_n, jn_kk_i, jn_kk_r, jn_kk_u, jn_kk_l, jn_sm_0, jn_sm_i, jn_sm_l, jn_sm_r, jn_sm_u, jn_zb_0, jn_zb_1, jn_zb_b, jn_bI_0, and_true, true_and, and_self, Bool.and_true, Bool.true_and, decide_eq_true_eq, Option.toList_some, Option.toList_none, List.cons_append, List.nil_append, not_true_eq_false, not_false_eq_true, if_true, if_false, jn_aI_o, jn_aI_v, jn_io_n, jn_cl_n, nIadd, jn_w171_648 (d := d) (hv1) ⟨by omega, by omega⟩, jn_w171_667 (d := d) (hv2) ⟨by omega, by omega⟩, hr0, hr1, hrs, hrs1, eq_self, x1, x2, x3]
  repeat first | exact hn | refine ⟨by omega, ?_⟩
theorem jn_lw14 {b L i c d bs : Nat} {xs : Nat → Int32} {M : jn_M} {Q : Option Value → jn_M → Prop} (hb : b < bs) (hd : 12 ≤ d) (hi : i + 5 ≤ L) (hL : L ≤ 2560) (h : jn_I (b, L, xs) bs c M) (next : jn_Nx b L xs bs d i c Q) : jn_W d 171 675 [some (.ref b), some (.ref bs), some (.ref (bs + 19)), some (.int (nI i))] [] M Q := by
  obtain ⟨z1, x1, r1⟩ := jn_of_int (xs (i + 1))
  obtain ⟨z2, x2, r2⟩ := jn_of_int (xs (i + 2))
  obtain ⟨x, M1, M2, hv1, ⟨hs1, hr1, hv2⟩, hI⟩ := jn_op_lendAll (sc := (b, L, xs)) (bs := bs) (c := c) (M := M) hb r1 r2 h
  have hn := next M2 hI
  have hrs : jn_rs M b = some (jn_aI L xs) := jn_rs_sc (jn_I_sc h)
  have hrs1 : jn_rs M1 b = some (jn_aI L xs) := jn_rs_sc hs1
  have hr0 := jn_I_rc h
  clear h next hI hs1
  simp (disch := omega) only [jn_w171_675, jn_w171_675n, jn_w171_676, jn_w171_676n, jn_w171_677, jn_w171_678, jn_w171_679, jn_w171_680, jn_w171_681, jn_w171_681n, jn_w171_682, jn_w171_683, jn_w171_684, jn_w171_685, jn_w171_689, jn_w171_689n, jn_w171_690, jn_w171_690n, jn_w171_691, jn_w171_692, jn_w171_693, jn_w171_694, jn_w171_695, jn_w171_695n, jn_w171_696, jn_w171_697, jn_w171_698, jn_w171_699, jn_w171_703, jn_w171_706, jn_w171_707, jn_w171_1252, jn_w171_1255, jn_kk_n, jn_kk_i, jn_kk_r, jn_kk_u, jn_kk_l, jn_sm_0, jn_sm_i, jn_sm_l, jn_sm_r, jn_sm_u, jn_zb_0, jn_zb_1, jn_zb_b, jn_bI_0, and_true, true_and, and_self, Bool.and_true, Bool.true_and, decide_eq_true_eq, Option.toList_some, Option.toList_none, List.cons_append, List.nil_append, not_true_eq_false, not_false_eq_true, if_true, if_false, jn_aI_o, jn_aI_v, jn_io_n, jn_cl_n, nIadd, jn_w171_686 (d := d) (hv1) ⟨by omega, by omega⟩, jn_w171_700 (d := d) (hv2) ⟨by omega, by omega⟩, hr0, hr1, hrs, hrs1, eq_self, x1, x2]
  repeat first | exact hn | refine ⟨by omega, ?_⟩
theorem jn_lw15 {b L i c d bs : Nat} {xs : Nat → Int32} {M : jn_M} {Q : Option Value → jn_M → Prop} (hb : b < bs) (hd : 12 ≤ d) (hi : i + 5 ≤ L) (hL : L ≤ 2560) (h : jn_I (b, L, xs) bs c M) (next : jn_Nx b L xs bs d i c Q) : jn_W d 171 708 [some (.ref b), some (.ref bs), some (.ref (bs + 19)), some (.int (nI i))] [] M Q := by
  obtain ⟨z1, x1, r1⟩ := jn_of_int (xs (i + 1))
  obtain ⟨x, M1, M2, hv1, ⟨hs1, hr1, hv2⟩, hI⟩ := jn_op_own (sc := (b, L, xs)) (bs := bs) (c := c) (M := M) hb r1 h
  have hn := next M2 hI
  have hrs : jn_rs M b = some (jn_aI L xs) := jn_rs_sc (jn_I_sc h)
  have hrs1 : jn_rs M1 b = some (jn_aI L xs) := jn_rs_sc hs1
  have hr0 := jn_I_rc h
  clear h next hI hs1
  simp (disch := omega) only [jn_w171_708, jn_w171_708n, jn_w171_709, jn_w171_709n, jn_w171_710, jn_w171_711, jn_w171_712, jn_w171_713, jn_w171_717, jn_w171_717n, jn_w171_718, jn_w171_718n, jn_w171_719, jn_w171_720, jn_w171_721, jn_w171_722, jn_w171_726, jn_w171_729, jn_w171_730, jn_w171_1252, jn_w171_1255, jn_kk_n, jn_kk_i, jn_kk_r, jn_kk_u, jn_kk_l, jn_sm_0, jn_sm_i, jn_sm_l, jn_sm_r, jn_sm_u, jn_zb_0, jn_zb_1, jn_zb_b, jn_bI_0, and_true, true_and, and_self, Bool.and_true, Bool.true_and, decide_eq_true_eq, Option.toList_some, Option.toList_none, List.cons_append, List.nil_append, not_true_eq_false, not_false_eq_true, if_true, if_false, jn_aI_o, jn_aI_v, jn_io_n, jn_cl_n, nIadd, jn_w171_714 (d := d) (hv1) ⟨by omega, by omega⟩, jn_w171_723 (d := d) (hv2) ⟨by omega, by omega⟩, hr0, hr1, hrs, hrs1, eq_self, x1]
  repeat first | exact hn | refine ⟨by omega, ?_⟩
theorem jn_lw16 {b L i c d bs : Nat} {xs : Nat → Int32} {M : jn_M} {Q : Option Value → jn_M → Prop} (hb : b < bs) (hd : 12 ≤ d) (hi : i + 5 ≤ L) (hL : L ≤ 2560) (h : jn_I (b, L, xs) bs c M) (next : jn_Nx b L xs bs d i c Q) : jn_W d 171 731 [some (.ref b), some (.ref bs), some (.ref (bs + 19)), some (.int (nI i))] [] M Q := by
  obtain ⟨z1, x1, r1⟩ := jn_of_int (xs (i + 1))
  obtain ⟨z2, x2, r2⟩ := jn_of_int (xs (i + 2))
  obtain ⟨z3, x3, r3⟩ := jn_of_int (xs (i + 3))
  by_cases cb : z3 = ((0 : Nat) : Int)
  · skip
    obtain ⟨x, M1, M2, hv1, ⟨hs1, hr1, hv2⟩, hI⟩ := jn_op_sum (sc := (b, L, xs)) (bs := bs) (c := c) (M := M) (ls := false) hb r1 r2 h
    simp only [jn_bI_f] at hv1 hr1 hv2
    have hn := next M2 hI
    have hrs : jn_rs M b = some (jn_aI L xs) := jn_rs_sc (jn_I_sc h)
    have hrs1 : jn_rs M1 b = some (jn_aI L xs) := jn_rs_sc hs1
    have hr0 := jn_I_rc h
    clear h next hI hs1
    simp (disch := omega) only [jn_w171_731, jn_w171_731n, jn_w171_732, jn_w171_732n, jn_w171_733, jn_w171_734, jn_w171_735, jn_w171_736, jn_w171_737, jn_w171_737n, jn_w171_738, jn_w171_739, jn_w171_740, jn_w171_741, jn_w171_742, jn_w171_742n, jn_w171_743, jn_w171_744, jn_w171_745, jn_w171_746, jn_w171_747, jn_w171_750, jn_w171_751, jn_w171_754, jn_w171_758, jn_w171_758n, jn_w171_759, jn_w171_759n, jn_w171_760, jn_w171_761, jn_w171_762, jn_w171_763, jn_w171_764, jn_w171_764n, jn_w171_765, jn_w171_766, jn_w171_767, jn_w171_768, jn_w171_769, jn_w171_769n, jn_w171_770, jn_w171_771, jn_w171_772, jn_w171_773, jn_w171_774, jn_w171_777, jn_w171_778, jn_w171_781, jn_w171_785, jn_w171_788, jn_w171_789, jn_w171_1252, jn_w171_1255, jn_kk_n, jn_kk_i, jn_kk_r, jn_kk_u, jn_kk_l, jn_sm_0, jn_sm_i, jn_sm_l, jn_sm_r, jn_sm_u, jn_zb_0, jn_zb_1, jn_zb_b, jn_bI_0, and_true, true_and, and_self, Bool.and_true, Bool.true_and, decide_eq_true_eq, Option.toList_some, Option.toList_none, List.cons_append, List.nil_append, not_true_eq_false, not_false_eq_true, if_true, if_false, jn_aI_o, jn_aI_v, jn_io_n, jn_cl_n, nIadd, jn_w171_755 (d := d) (hv1) ⟨by omega, by omega⟩, jn_w171_782 (d := d) (hv2) ⟨by omega, by omega⟩, hr0, hr1, hrs, hrs1, eq_self, x1, x2, x3, jIeq_jn, cb]
    repeat first | exact hn | refine ⟨by omega, ?_⟩
  · skip
    obtain ⟨x, M1, M2, hv1, ⟨hs1, hr1, hv2⟩, hI⟩ := jn_op_sum (sc := (b, L, xs)) (bs := bs) (c := c) (M := M) (ls := true) hb r1 r2 h
    simp only [jn_bI_t] at hv1 hr1 hv2
    have hn := next M2 hI
    have hrs : jn_rs M b = some (jn_aI L xs) := jn_rs_sc (jn_I_sc h)
    have hrs1 : jn_rs M1 b = some (jn_aI L xs) := jn_rs_sc hs1
    have hr0 := jn_I_rc h
    clear h next hI hs1
    simp (disch := omega) only [jn_w171_731, jn_w171_731n, jn_w171_732, jn_w171_732n, jn_w171_733, jn_w171_734, jn_w171_735, jn_w171_736, jn_w171_737, jn_w171_737n, jn_w171_738, jn_w171_739, jn_w171_740, jn_w171_741, jn_w171_742, jn_w171_742n, jn_w171_743, jn_w171_744, jn_w171_745, jn_w171_746, jn_w171_747, jn_w171_750, jn_w171_751, jn_w171_754, jn_w171_758, jn_w171_758n, jn_w171_759, jn_w171_759n, jn_w171_760, jn_w171_761, jn_w171_762, jn_w171_763, jn_w171_764, jn_w171_764n, jn_w171_765, jn_w171_766, jn_w171_767, jn_w171_768, jn_w171_769, jn_w171_769n, jn_w171_770, jn_w171_771, jn_w171_772, jn_w171_773, jn_w171_774, jn_w171_777, jn_w171_778, jn_w171_781, jn_w171_785, jn_w171_788, jn_w171_789, jn_w171_1252, jn_w171_1255, jn_kk_n, jn_kk_i, jn_kk_r, jn_kk_u, jn_kk_l, jn_sm_0, jn_sm_i, jn_sm_l, jn_sm_r, jn_sm_u, jn_zb_0, jn_zb_1, jn_zb_b, jn_bI_0, and_true, true_and, and_self, Bool.and_true, Bool.true_and, decide_eq_true_eq, Option.toList_some, Option.toList_none, List.cons_append, List.nil_append, not_true_eq_false, not_false_eq_true, if_true, if_false, jn_aI_o, jn_aI_v, jn_io_n, jn_cl_n, nIadd, jn_w171_755 (d := d) (hv1) ⟨by omega, by omega⟩, jn_w171_782 (d := d) (hv2) ⟨by omega, by omega⟩, hr0, hr1, hrs, hrs1, eq_self, x1, x2, x3, jIeq_jn, cb]
    repeat first | exact hn | refine ⟨by omega, ?_⟩
theorem jn_lw17 {b L i c d bs : Nat} {xs : Nat → Int32} {M : jn_M} {Q : Option Value → jn_M → Prop} (hb : b < bs) (hd : 12 ≤ d) (hi : i + 5 ≤ L) (hL : L ≤ 2560) (h : jn_I (b, L, xs) bs c M) (next : jn_Nx b L xs bs d i c Q) : jn_W d 171 790 [some (.ref b), some (.ref bs), some (.ref (bs + 19)), some (.int (nI i))] [] M Q := by
  obtain ⟨x, M1, M2, hv1, ⟨hs1, hr1, hv2⟩, hI⟩ := jn_op_drop (sc := (b, L, xs)) (bs := bs) (c := c) (M := M) hb  h
  have hn := next M2 hI
  have hrs : jn_rs M b = some (jn_aI L xs) := jn_rs_sc (jn_I_sc h)
  have hrs1 : jn_rs M1 b = some (jn_aI L xs) := jn_rs_sc hs1
  have hr0 := jn_I_rc h
  clear h next hI hs1
  simp (disch := omega) only [jn_w171_790, jn_w171_790n, jn_w171_794, jn_w171_794n, jn_w171_798, jn_w171_801, jn_w171_802, jn_w171_1252, jn_w171_1255, jn_kk_n, jn_kk_i, jn_kk_r, jn_kk_u, jn_kk_l, jn_sm_0, jn_sm_i, jn_sm_l, jn_sm_r, jn_sm_u, jn_zb_0, jn_zb_1, jn_zb_b, jn_bI_0, and_true, true_and, and_self, Bool.and_true, Bool.true_and, decide_eq_true_eq, Option.toList_some, Option.toList_none, List.cons_append, List.nil_append, not_true_eq_false, not_false_eq_true, if_true, if_false, jn_aI_o, jn_aI_v, jn_io_n, jn_cl_n, nIadd, jn_w171_791 (d := d) (hv1) ⟨by omega, by omega⟩, jn_w171_795 (d := d) (hv2) ⟨by omega, by omega⟩, hr0, hr1, hrs, hrs1, eq_self]
  repeat first | exact hn | refine ⟨by omega, ?_⟩
theorem jn_lw18 {b L i c d bs : Nat} {xs : Nat → Int32} {M : jn_M} {Q : Option Value → jn_M → Prop} (hb : b < bs) (hd : 12 ≤ d) (hi : i + 5 ≤ L) (hL : L ≤ 2560) (h : jn_I (b, L, xs) bs c M) (next : jn_Nx b L xs bs d i c Q) : jn_W d 171 803 [some (.ref b), some (.ref bs), some (.ref (bs + 19)), some (.int (nI i))] [] M Q := by
  obtain ⟨z1, x1, r1⟩ := jn_of_int (xs (i + 1))
  obtain ⟨z2, x2, r2⟩ := jn_of_int (xs (i + 2))
  obtain ⟨x, M1, M2, hv1, ⟨hs1, hr1, hv2⟩, hI⟩ := jn_op_burn (sc := (b, L, xs)) (bs := bs) (c := c) (M := M) hb r1 r2 h
  have hn := next M2 hI
  have hrs : jn_rs M b = some (jn_aI L xs) := jn_rs_sc (jn_I_sc h)
  have hrs1 : jn_rs M1 b = some (jn_aI L xs) := jn_rs_sc hs1
  have hr0 := jn_I_rc h
  clear h next hI hs1
  simp (disch := omega) only [jn_w171_803, jn_w171_803n, jn_w171_804, jn_w171_804n, jn_w171_805, jn_w171_806, jn_w171_807, jn_w171_808, jn_w171_809, jn_w171_809n, jn_w171_810, jn_w171_811, jn_w171_812, jn_w171_813, jn_w171_817, jn_w171_817n, jn_w171_818, jn_w171_818n, jn_w171_819, jn_w171_820, jn_w171_821, jn_w171_822, jn_w171_823, jn_w171_823n, jn_w171_824, jn_w171_825, jn_w171_826, jn_w171_827, jn_w171_831, jn_w171_834, jn_w171_835, jn_w171_1252, jn_w171_1255, jn_kk_n, jn_kk_i, jn_kk_r, jn_kk_u, jn_kk_l, jn_sm_0, jn_sm_i, jn_sm_l, jn_sm_r, jn_sm_u, jn_zb_0, jn_zb_1, jn_zb_b, jn_bI_0, and_true, true_and, and_self, Bool.and_true, Bool.true_and, decide_eq_true_eq, Option.toList_some, Option.toList_none, List.cons_append, List.nil_append, not_true_eq_false, not_false_eq_true, if_true, if_false, jn_aI_o, jn_aI_v, jn_io_n, jn_cl_n, nIadd, jn_w171_814 (d := d) (hv1) ⟨by omega, by omega⟩, jn_w171_828 (d := d) (hv2) ⟨by omega, by omega⟩, hr0, hr1, hrs, hrs1, eq_self, x1, x2]
  repeat first | exact hn | refine ⟨by omega, ?_⟩
theorem jn_lw19 {b L i c d bs : Nat} {xs : Nat → Int32} {M : jn_M} {Q : Option Value → jn_M → Prop} (hb : b < bs) (hd : 12 ≤ d) (hi : i + 5 ≤ L) (hL : L ≤ 2560) (h : jn_I (b, L, xs) bs c M) (next : jn_Nx b L xs bs d i c Q) : jn_W d 171 836 [some (.ref b), some (.ref bs), some (.ref (bs + 19)), some (.int (nI i))] [] M Q := by
  obtain ⟨z1, x1, r1⟩ := jn_of_int (xs (i + 1))
  obtain ⟨z2, x2, r2⟩ := jn_of_int (xs (i + 2))
  obtain ⟨x, M1, M2, hv1, ⟨hs1, hr1, hv2⟩, hI⟩ := jn_op_reduce (sc := (b, L, xs)) (bs := bs) (c := c) (M := M) hb r1 r2 h
  have hn := next M2 hI
  have hrs : jn_rs M b = some (jn_aI L xs) := jn_rs_sc (jn_I_sc h)
  have hrs1 : jn_rs M1 b = some (jn_aI L xs) := jn_rs_sc hs1
  have hr0 := jn_I_rc h
  clear h next hI hs1
  simp (disch := omega) only [jn_w171_836, jn_w171_836n, jn_w171_837, jn_w171_837n, jn_w171_838, jn_w171_839, jn_w171_840, jn_w171_841, jn_w171_842, jn_w171_842n, jn_w171_843, jn_w171_844, jn_w171_845, jn_w171_846, jn_w171_850, jn_w171_850n, jn_w171_851, jn_w171_851n, jn_w171_852, jn_w171_853, jn_w171_854, jn_w171_855, jn_w171_856, jn_w171_856n, jn_w171_857, jn_w171_858, jn_w171_859, jn_w171_860, jn_w171_864, jn_w171_867, jn_w171_868, jn_w171_1252, jn_w171_1255, jn_kk_n, jn_kk_i, jn_kk_r, jn_kk_u, jn_kk_l, jn_sm_0, jn_sm_i, jn_sm_l, jn_sm_r, jn_sm_u, jn_zb_0, jn_zb_1, jn_zb_b, jn_bI_0, and_true, true_and, and_self, Bool.and_true, Bool.true_and, decide_eq_true_eq, Option.toList_some, Option.toList_none, List.cons_append, List.nil_append, not_true_eq_false, not_false_eq_true, if_true, if_false, jn_aI_o, jn_aI_v, jn_io_n, jn_cl_n, nIadd, jn_w171_847 (d := d) (hv1) ⟨by omega, by omega⟩, jn_w171_861 (d := d) (hv2) ⟨by omega, by omega⟩, hr0, hr1, hrs, hrs1, eq_self, x1, x2]
  repeat first | exact hn | refine ⟨by omega, ?_⟩
theorem jn_lw20 {b L i c d bs : Nat} {xs : Nat → Int32} {M : jn_M} {Q : Option Value → jn_M → Prop} (hb : b < bs) (hd : 12 ≤ d) (hi : i + 5 ≤ L) (hL : L ≤ 2560) (h : jn_I (b, L, xs) bs c M) (next : jn_Nx b L xs bs d i c Q) : jn_W d 171 869 [some (.ref b), some (.ref bs), some (.ref (bs + 19)), some (.int (nI i))] [] M Q := by
  obtain ⟨z1, x1, r1⟩ := jn_of_int (xs (i + 1))
  obtain ⟨z2, x2, r2⟩ := jn_of_int (xs (i + 2))
  obtain ⟨x, M1, M2, hv1, ⟨hs1, hr1, hv2⟩, hI⟩ := jn_op_like (sc := (b, L, xs)) (bs := bs) (c := c) (M := M) hb r1 r2 h
  have hn := next M2 hI
  have hrs : jn_rs M b = some (jn_aI L xs) := jn_rs_sc (jn_I_sc h)
  have hrs1 : jn_rs M1 b = some (jn_aI L xs) := jn_rs_sc hs1
  have hr0 := jn_I_rc h
  clear h next hI hs1
  simp (disch := omega) only [jn_w171_869, jn_w171_869n, jn_w171_870, jn_w171_870n, jn_w171_871, jn_w171_872, jn_w171_873, jn_w171_874, jn_w171_875, jn_w171_875n, jn_w171_876, jn_w171_877, jn_w171_878, jn_w171_879, jn_w171_883, jn_w171_883n, jn_w171_884, jn_w171_884n, jn_w171_885, jn_w171_886, jn_w171_887, jn_w171_888, jn_w171_889, jn_w171_889n, jn_w171_890, jn_w171_891, jn_w171_892, jn_w171_893, jn_w171_897, jn_w171_900, jn_w171_901, jn_w171_1252, jn_w171_1255, jn_kk_n, jn_kk_i, jn_kk_r, jn_kk_u, jn_kk_l, jn_sm_0, jn_sm_i, jn_sm_l, jn_sm_r, jn_sm_u, jn_zb_0, jn_zb_1, jn_zb_b, jn_bI_0, and_true, true_and, and_self, Bool.and_true, Bool.true_and, decide_eq_true_eq, Option.toList_some, Option.toList_none, List.cons_append, List.nil_append, not_true_eq_false, not_false_eq_true, if_true, if_false, jn_aI_o, jn_aI_v, jn_io_n, jn_cl_n, nIadd, jn_w171_880 (d := d) (hv1) ⟨by omega, by omega⟩, jn_w171_894 (d := d) (hv2) ⟨by omega, by omega⟩, hr0, hr1, hrs, hrs1, eq_self, x1, x2]
  repeat first | exact hn | refine ⟨by omega, ?_⟩
theorem jn_lw21 {b L i c d bs : Nat} {xs : Nat → Int32} {M : jn_M} {Q : Option Value → jn_M → Prop} (hb : b < bs) (hd : 12 ≤ d) (hi : i + 5 ≤ L) (hL : L ≤ 2560) (h : jn_I (b, L, xs) bs c M) (next : jn_Nx b L xs bs d i c Q) : jn_W d 171 902 [some (.ref b), some (.ref bs), some (.ref (bs + 19)), some (.int (nI i))] [] M Q := by
  obtain ⟨z1, x1, r1⟩ := jn_of_int (xs (i + 1))
  obtain ⟨z2, x2, r2⟩ := jn_of_int (xs (i + 2))
  obtain ⟨x, M1, M2, hv1, ⟨hs1, hr1, hv2⟩, hI⟩ := jn_op_how (sc := (b, L, xs)) (bs := bs) (c := c) (M := M) hb r1 r2 h
  have hn := next M2 hI
  have hrs : jn_rs M b = some (jn_aI L xs) := jn_rs_sc (jn_I_sc h)
  have hrs1 : jn_rs M1 b = some (jn_aI L xs) := jn_rs_sc hs1
  have hr0 := jn_I_rc h
  clear h next hI hs1
  simp (disch := omega) only [jn_w171_902, jn_w171_902n, jn_w171_903, jn_w171_903n, jn_w171_904, jn_w171_905, jn_w171_906, jn_w171_907, jn_w171_908, jn_w171_908n, jn_w171_909, jn_w171_910, jn_w171_911, jn_w171_912, jn_w171_916, jn_w171_916n, jn_w171_917, jn_w171_917n, jn_w171_918, jn_w171_919, jn_w171_920, jn_w171_921, jn_w171_922, jn_w171_922n, jn_w171_923, jn_w171_924, jn_w171_925, jn_w171_926, jn_w171_930, jn_w171_933, jn_w171_934, jn_w171_1252, jn_w171_1255, jn_kk_n, jn_kk_i, jn_kk_r, jn_kk_u, jn_kk_l, jn_sm_0, jn_sm_i, jn_sm_l, jn_sm_r, jn_sm_u, jn_zb_0, jn_zb_1, jn_zb_b, jn_bI_0, and_true, true_and, and_self, Bool.and_true, Bool.true_and, decide_eq_true_eq, Option.toList_some, Option.toList_none, List.cons_append, List.nil_append, not_true_eq_false, not_false_eq_true, if_true, if_false, jn_aI_o, jn_aI_v, jn_io_n, jn_cl_n, nIadd, jn_w171_913 (d := d) (hv1) ⟨by omega, by omega⟩, jn_w171_927 (d := d) (hv2) ⟨by omega, by omega⟩, hr0, hr1, hrs, hrs1, eq_self, x1, x2]
  repeat first | exact hn | refine ⟨by omega, ?_⟩
theorem jn_lw22 {b L i c d bs : Nat} {xs : Nat → Int32} {M : jn_M} {Q : Option Value → jn_M → Prop} (hb : b < bs) (hd : 12 ≤ d) (hi : i + 5 ≤ L) (hL : L ≤ 2560) (h : jn_I (b, L, xs) bs c M) (next : jn_Nx b L xs bs d i c Q) : jn_W d 171 935 [some (.ref b), some (.ref bs), some (.ref (bs + 19)), some (.int (nI i))] [] M Q := by
  obtain ⟨z1, x1, r1⟩ := jn_of_int (xs (i + 1))
  obtain ⟨x, M1, M2, hv1, ⟨hs1, hr1, hv2⟩, hI⟩ := jn_op_won (sc := (b, L, xs)) (bs := bs) (c := c) (M := M) hb r1 h
  have hn := next M2 hI
  have hrs : jn_rs M b = some (jn_aI L xs) := jn_rs_sc (jn_I_sc h)
  have hrs1 : jn_rs M1 b = some (jn_aI L xs) := jn_rs_sc hs1
  have hr0 := jn_I_rc h
  clear h next hI hs1
  simp (disch := omega) only [jn_w171_935, jn_w171_935n, jn_w171_936, jn_w171_936n, jn_w171_937, jn_w171_938, jn_w171_939, jn_w171_940, jn_w171_944, jn_w171_944n, jn_w171_945, jn_w171_945n, jn_w171_946, jn_w171_947, jn_w171_948, jn_w171_949, jn_w171_953, jn_w171_956, jn_w171_957, jn_w171_1252, jn_w171_1255, jn_kk_n, jn_kk_i, jn_kk_r, jn_kk_u, jn_kk_l, jn_sm_0, jn_sm_i, jn_sm_l, jn_sm_r, jn_sm_u, jn_zb_0, jn_zb_1, jn_zb_b, jn_bI_0, and_true, true_and, and_self, Bool.and_true, Bool.true_and, decide_eq_true_eq, Option.toList_some, Option.toList_none, List.cons_append, List.nil_append, not_true_eq_false, not_false_eq_true, if_true, if_false, jn_aI_o, jn_aI_v, jn_io_n, jn_cl_n, nIadd, jn_w171_941 (d := d) (hv1) ⟨by omega, by omega⟩, jn_w171_950 (d := d) (hv2) ⟨by omega, by omega⟩, hr0, hr1, hrs, hrs1, eq_self, x1]
  repeat first | exact hn | refine ⟨by omega, ?_⟩
theorem jn_lw23 {b L i c d bs : Nat} {xs : Nat → Int32} {M : jn_M} {Q : Option Value → jn_M → Prop} (hb : b < bs) (hd : 12 ≤ d) (hi : i + 5 ≤ L) (hL : L ≤ 2560) (h : jn_I (b, L, xs) bs c M) (next : jn_Nx b L xs bs d i c Q) : jn_W d 171 958 [some (.ref b), some (.ref bs), some (.ref (bs + 19)), some (.int (nI i))] [] M Q := by
  obtain ⟨z1, x1, r1⟩ := jn_of_int (xs (i + 1))
  obtain ⟨x, M1, M2, hv1, ⟨hs1, hr1, hv2⟩, hI⟩ := jn_op_rank (sc := (b, L, xs)) (bs := bs) (c := c) (M := M) hb r1 h
  have hn := next M2 hI
  have hrs : jn_rs M b = some (jn_aI L xs) := jn_rs_sc (jn_I_sc h)
  have hrs1 : jn_rs M1 b = some (jn_aI L xs) := jn_rs_sc hs1
  have hr0 := jn_I_rc h
  clear h next hI hs1
  simp (disch := omega) only [jn_w171_958, jn_w171_958n, jn_w171_959, jn_w171_959n, jn_w171_960, jn_w171_961, jn_w171_962, jn_w171_963, jn_w171_967, jn_w171_967n, jn_w171_968, jn_w171_968n, jn_w171_969, jn_w171_970, jn_w171_971, jn_w171_972, jn_w171_976, jn_w171_979, jn_w171_980, jn_w171_1252, jn_w171_1255, jn_kk_n, jn_kk_i, jn_kk_r, jn_kk_u, jn_kk_l, jn_sm_0, jn_sm_i, jn_sm_l, jn_sm_r, jn_sm_u, jn_zb_0, jn_zb_1, jn_zb_b, jn_bI_0, and_true, true_and, and_self, Bool.and_true, Bool.true_and, decide_eq_true_eq, Option.toList_some, Option.toList_none, List.cons_append, List.nil_append, not_true_eq_false, not_false_eq_true, if_true, if_false, jn_aI_o, jn_aI_v, jn_io_n, jn_cl_n, nIadd, jn_w171_964 (d := d) (hv1) ⟨by omega, by omega⟩, jn_w171_973 (d := d) (hv2) ⟨by omega, by omega⟩, hr0, hr1, hrs, hrs1, eq_self, x1]
  repeat first | exact hn | refine ⟨by omega, ?_⟩
theorem jn_lw24 {b L i c d bs : Nat} {xs : Nat → Int32} {M : jn_M} {Q : Option Value → jn_M → Prop} (hb : b < bs) (hd : 12 ≤ d) (hi : i + 5 ≤ L) (hL : L ≤ 2560) (h : jn_I (b, L, xs) bs c M) (next : jn_Nx b L xs bs d i c Q) : jn_W d 171 981 [some (.ref b), some (.ref bs), some (.ref (bs + 19)), some (.int (nI i))] [] M Q := by
  obtain ⟨z1, x1, r1⟩ := jn_of_int (xs (i + 1))
  obtain ⟨x, M1, M2, hv1, ⟨hs1, hr1, hv2⟩, hI⟩ := jn_op_why (sc := (b, L, xs)) (bs := bs) (c := c) (M := M) hb r1 h
  have hn := next M2 hI
  have hrs : jn_rs M b = some (jn_aI L xs) := jn_rs_sc (jn_I_sc h)
  have hrs1 : jn_rs M1 b = some (jn_aI L xs) := jn_rs_sc hs1
  have hr0 := jn_I_rc h
  clear h next hI hs1
  simp (disch := omega) only [jn_w171_981, jn_w171_981n, jn_w171_982, jn_w171_982n, jn_w171_983, jn_w171_984, jn_w171_985, jn_w171_986, jn_w171_990, jn_w171_990n, jn_w171_991, jn_w171_991n, jn_w171_992, jn_w171_993, jn_w171_994, jn_w171_995, jn_w171_999, jn_w171_1002, jn_w171_1003, jn_w171_1252, jn_w171_1255, jn_kk_n, jn_kk_i, jn_kk_r, jn_kk_u, jn_kk_l, jn_sm_0, jn_sm_i, jn_sm_l, jn_sm_r, jn_sm_u, jn_zb_0, jn_zb_1, jn_zb_b, jn_bI_0, and_true, true_and, and_self, Bool.and_true, Bool.true_and, decide_eq_true_eq, Option.toList_some, Option.toList_none, List.cons_append, List.nil_append, not_true_eq_false, not_false_eq_true, if_true, if_false, jn_aI_o, jn_aI_v, jn_io_n, jn_cl_n, nIadd, jn_w171_987 (d := d) (hv1) ⟨by omega, by omega⟩, jn_w171_996 (d := d) (hv2) ⟨by omega, by omega⟩, hr0, hr1, hrs, hrs1, eq_self, x1]
  repeat first | exact hn | refine ⟨by omega, ?_⟩
theorem jn_lw25 {b L i c d bs : Nat} {xs : Nat → Int32} {M : jn_M} {Q : Option Value → jn_M → Prop} (hb : b < bs) (hd : 12 ≤ d) (hi : i + 5 ≤ L) (hL : L ≤ 2560) (h : jn_I (b, L, xs) bs c M) (next : jn_Nx b L xs bs d i c Q) : jn_W d 171 1004 [some (.ref b), some (.ref bs), some (.ref (bs + 19)), some (.int (nI i))] [] M Q := by
  obtain ⟨z1, x1, r1⟩ := jn_of_int (xs (i + 1))
  obtain ⟨x, M1, M2, hv1, ⟨hs1, hr1, hv2⟩, hI⟩ := jn_op_order (sc := (b, L, xs)) (bs := bs) (c := c) (M := M) hb r1 h
  have hn := next M2 hI
  have hrs : jn_rs M b = some (jn_aI L xs) := jn_rs_sc (jn_I_sc h)
  have hrs1 : jn_rs M1 b = some (jn_aI L xs) := jn_rs_sc hs1
  have hr0 := jn_I_rc h
  clear h next hI hs1
  simp (disch := omega) only [jn_w171_1004, jn_w171_1004n, jn_w171_1005, jn_w171_1005n, jn_w171_1006, jn_w171_1007, jn_w171_1008, jn_w171_1009, jn_w171_1013, jn_w171_1013n, jn_w171_1014, jn_w171_1014n, jn_w171_1015, jn_w171_1016, jn_w171_1017, jn_w171_1018, jn_w171_1022, jn_w171_1023, jn_w171_1026, jn_w171_1027, jn_w171_1252, jn_w171_1255, jn_kk_n, jn_kk_i, jn_kk_r, jn_kk_u, jn_kk_l, jn_sm_0, jn_sm_i, jn_sm_l, jn_sm_r, jn_sm_u, jn_zb_0, jn_zb_1, jn_zb_b, jn_bI_0, and_true, true_and, and_self, Bool.and_true, Bool.true_and, decide_eq_true_eq, Option.toList_some, Option.toList_none, List.cons_append, List.nil_append, not_true_eq_false, not_false_eq_true, if_true, if_false, jn_aI_o, jn_aI_v, jn_io_n, jn_cl_n, nIadd, jn_w171_1010 (d := d) (hv1) ⟨by omega, by omega⟩, jn_w171_1019 (d := d) (hv2) ⟨by omega, by omega⟩, hr0, hr1, hrs, hrs1, eq_self, x1, jn_cmp_eq]
  repeat first | exact hn | refine ⟨by omega, ?_⟩
theorem jn_lw26 {b L i c d bs : Nat} {xs : Nat → Int32} {M : jn_M} {Q : Option Value → jn_M → Prop} (hb : b < bs) (hd : 12 ≤ d) (hi : i + 5 ≤ L) (hL : L ≤ 2560) (h : jn_I (b, L, xs) bs c M) (next : jn_Nx b L xs bs d i c Q) : jn_W d 171 1028 [some (.ref b), some (.ref bs), some (.ref (bs + 19)), some (.int (nI i))] [] M Q := by
  obtain ⟨z1, x1, r1⟩ := jn_of_int (xs (i + 1))
  obtain ⟨z2, x2, r2⟩ := jn_of_int (xs (i + 2))
  obtain ⟨x, M1, M2, hv1, ⟨hs1, hr1, hv2⟩, hI⟩ := jn_op_fall (sc := (b, L, xs)) (bs := bs) (c := c) (M := M) hb r1 r2 h
  have hn := next M2 hI
  have hrs : jn_rs M b = some (jn_aI L xs) := jn_rs_sc (jn_I_sc h)
  have hrs1 : jn_rs M1 b = some (jn_aI L xs) := jn_rs_sc hs1
  have hr0 := jn_I_rc h
  clear h next hI hs1
  simp (disch := omega) only [jn_w171_1028, jn_w171_1028n, jn_w171_1029, jn_w171_1029n, jn_w171_1030, jn_w171_1031, jn_w171_1032, jn_w171_1033, jn_w171_1034, jn_w171_1034n, jn_w171_1035, jn_w171_1036, jn_w171_1037, jn_w171_1038, jn_w171_1042, jn_w171_1042n, jn_w171_1043, jn_w171_1043n, jn_w171_1044, jn_w171_1045, jn_w171_1046, jn_w171_1047, jn_w171_1048, jn_w171_1048n, jn_w171_1049, jn_w171_1050, jn_w171_1051, jn_w171_1052, jn_w171_1056, jn_w171_1059, jn_w171_1060, jn_w171_1252, jn_w171_1255, jn_kk_n, jn_kk_i, jn_kk_r, jn_kk_u, jn_kk_l, jn_sm_0, jn_sm_i, jn_sm_l, jn_sm_r, jn_sm_u, jn_zb_0, jn_zb_1, jn_zb_b, jn_bI_0, and_true, true_and, and_self, Bool.and_true, Bool.true_and, decide_eq_true_eq, Option.toList_some, Option.toList_none, List.cons_append, List.nil_append, not_true_eq_false, not_false_eq_true, if_true, if_false, jn_aI_o, jn_aI_v, jn_io_n, jn_cl_n, nIadd, jn_w171_1039 (d := d) (hv1) ⟨by omega, by omega⟩, jn_w171_1053 (d := d) (hv2) ⟨by omega, by omega⟩, hr0, hr1, hrs, hrs1, eq_self, x1, x2]
  repeat first | exact hn | refine ⟨by omega, ?_⟩
theorem jn_lw27 {b L i c d bs : Nat} {xs : Nat → Int32} {M : jn_M} {Q : Option Value → jn_M → Prop} (hb : b < bs) (hd : 12 ≤ d) (hi : i + 5 ≤ L) (hL : L ≤ 2560) (h : jn_I (b, L, xs) bs c M) (next : jn_Nx b L xs bs d i c Q) : jn_W d 171 1061 [some (.ref b), some (.ref bs), some (.ref (bs + 19)), some (.int (nI i))] [] M Q := by
  obtain ⟨z1, x1, r1⟩ := jn_of_int (xs (i + 1))
  obtain ⟨z2, x2, r2⟩ := jn_of_int (xs (i + 2))
  obtain ⟨x, M1, M2, hv1, ⟨hs1, hr1, hv2⟩, hI⟩ := jn_op_same (sc := (b, L, xs)) (bs := bs) (c := c) (M := M) hb r1 r2 h
  have hn := next M2 hI
  have hrs : jn_rs M b = some (jn_aI L xs) := jn_rs_sc (jn_I_sc h)
  have hrs1 : jn_rs M1 b = some (jn_aI L xs) := jn_rs_sc hs1
  have hr0 := jn_I_rc h
  clear h next hI hs1
  simp (disch := omega) only [jn_w171_1061, jn_w171_1061n, jn_w171_1062, jn_w171_1062n, jn_w171_1063, jn_w171_1064, jn_w171_1065, jn_w171_1066, jn_w171_1067, jn_w171_1067n, jn_w171_1068, jn_w171_1069, jn_w171_1070, jn_w171_1071, jn_w171_1075, jn_w171_1075n, jn_w171_1076, jn_w171_1076n, jn_w171_1077, jn_w171_1078, jn_w171_1079, jn_w171_1080, jn_w171_1081, jn_w171_1081n, jn_w171_1082, jn_w171_1083, jn_w171_1084, jn_w171_1085, jn_w171_1089, jn_w171_1092, jn_w171_1093, jn_w171_1252, jn_w171_1255, jn_kk_n, jn_kk_i, jn_kk_r, jn_kk_u, jn_kk_l, jn_sm_0, jn_sm_i, jn_sm_l, jn_sm_r, jn_sm_u, jn_zb_0, jn_zb_1, jn_zb_b, jn_bI_0, and_true, true_and, and_self, Bool.and_true, Bool.true_and, decide_eq_true_eq, Option.toList_some, Option.toList_none, List.cons_append, List.nil_append, not_true_eq_false, not_false_eq_true, if_true, if_false, jn_aI_o, jn_aI_v, jn_io_n, jn_cl_n, nIadd, jn_w171_1072 (d := d) (hv1) ⟨by omega, by omega⟩, jn_w171_1086 (d := d) (hv2) ⟨by omega, by omega⟩, hr0, hr1, hrs, hrs1, eq_self, x1, x2]
  repeat first | exact hn | refine ⟨by omega, ?_⟩
theorem jn_lw28 {b L i c d bs : Nat} {xs : Nat → Int32} {M : jn_M} {Q : Option Value → jn_M → Prop} (hb : b < bs) (hd : 12 ≤ d) (hi : i + 5 ≤ L) (hL : L ≤ 2560) (h : jn_I (b, L, xs) bs c M) (next : jn_Nx b L xs bs d i c Q) : jn_W d 171 1094 [some (.ref b), some (.ref bs), some (.ref (bs + 19)), some (.int (nI i))] [] M Q := by
  obtain ⟨z1, x1, r1⟩ := jn_of_int (xs (i + 1))
  obtain ⟨x, M1, M2, hv1, ⟨hs1, hr1, hv2⟩, hI⟩ := jn_op_count (sc := (b, L, xs)) (bs := bs) (c := c) (M := M) hb r1 h
  have hn := next M2 hI
  have hrs : jn_rs M b = some (jn_aI L xs) := jn_rs_sc (jn_I_sc h)
  have hrs1 : jn_rs M1 b = some (jn_aI L xs) := jn_rs_sc hs1
  have hr0 := jn_I_rc h
  clear h next hI hs1
  simp (disch := omega) only [jn_w171_1094, jn_w171_1094n, jn_w171_1095, jn_w171_1095n, jn_w171_1096, jn_w171_1097, jn_w171_1098, jn_w171_1099, jn_w171_1103, jn_w171_1103n, jn_w171_1104, jn_w171_1104n, jn_w171_1105, jn_w171_1106, jn_w171_1107, jn_w171_1108, jn_w171_1112, jn_w171_1115, jn_w171_1116, jn_w171_1252, jn_w171_1255, jn_kk_n, jn_kk_i, jn_kk_r, jn_kk_u, jn_kk_l, jn_sm_0, jn_sm_i, jn_sm_l, jn_sm_r, jn_sm_u, jn_zb_0, jn_zb_1, jn_zb_b, jn_bI_0, and_true, true_and, and_self, Bool.and_true, Bool.true_and, decide_eq_true_eq, Option.toList_some, Option.toList_none, List.cons_append, List.nil_append, not_true_eq_false, not_false_eq_true, if_true, if_false, jn_aI_o, jn_aI_v, jn_io_n, jn_cl_n, nIadd, jn_w171_1100 (d := d) (hv1) ⟨by omega, by omega⟩, jn_w171_1109 (d := d) (hv2) ⟨by omega, by omega⟩, hr0, hr1, hrs, hrs1, eq_self, x1]
  repeat first | exact hn | refine ⟨by omega, ?_⟩
theorem jn_lw29 {b L i c d bs : Nat} {xs : Nat → Int32} {M : jn_M} {Q : Option Value → jn_M → Prop} (hb : b < bs) (hd : 12 ≤ d) (hi : i + 5 ≤ L) (hL : L ≤ 2560) (h : jn_I (b, L, xs) bs c M) (next : jn_Nx b L xs bs d i c Q) : jn_W d 171 1117 [some (.ref b), some (.ref bs), some (.ref (bs + 19)), some (.int (nI i))] [] M Q := by
  obtain ⟨z1, x1, r1⟩ := jn_of_int (xs (i + 1))
  obtain ⟨z2, x2, r2⟩ := jn_of_int (xs (i + 2))
  obtain ⟨x, M1, M2, hv1, ⟨hs1, hr1, hv2⟩, hI⟩ := jn_op_lay (sc := (b, L, xs)) (bs := bs) (c := c) (M := M) hb r1 r2 h
  have hn := next M2 hI
  have hrs : jn_rs M b = some (jn_aI L xs) := jn_rs_sc (jn_I_sc h)
  have hrs1 : jn_rs M1 b = some (jn_aI L xs) := jn_rs_sc hs1
  have hr0 := jn_I_rc h
  clear h next hI hs1
  simp (disch := omega) only [jn_w171_1117, jn_w171_1117n, jn_w171_1118, jn_w171_1118n, jn_w171_1119, jn_w171_1120, jn_w171_1121, jn_w171_1122, jn_w171_1123, jn_w171_1123n, jn_w171_1124, jn_w171_1125, jn_w171_1126, jn_w171_1127, jn_w171_1131, jn_w171_1131n, jn_w171_1132, jn_w171_1132n, jn_w171_1133, jn_w171_1134, jn_w171_1135, jn_w171_1136, jn_w171_1137, jn_w171_1137n, jn_w171_1138, jn_w171_1139, jn_w171_1140, jn_w171_1141, jn_w171_1145, jn_w171_1148, jn_w171_1149, jn_w171_1252, jn_w171_1255, jn_kk_n, jn_kk_i, jn_kk_r, jn_kk_u, jn_kk_l, jn_sm_0, jn_sm_i, jn_sm_l, jn_sm_r, jn_sm_u, jn_zb_0, jn_zb_1, jn_zb_b, jn_bI_0, and_true, true_and, and_self, Bool.and_true, Bool.true_and, decide_eq_true_eq, Option.toList_some, Option.toList_none, List.cons_append, List.nil_append, not_true_eq_false, not_false_eq_true, if_true, if_false, jn_aI_o, jn_aI_v, jn_io_n, jn_cl_n, nIadd, jn_w171_1128 (d := d) (hv1) ⟨by omega, by omega⟩, jn_w171_1142 (d := d) (hv2) ⟨by omega, by omega⟩, hr0, hr1, hrs, hrs1, eq_self, x1, x2]
  repeat first | exact hn | refine ⟨by omega, ?_⟩
theorem jn_lw30 {b L i c d bs : Nat} {xs : Nat → Int32} {M : jn_M} {Q : Option Value → jn_M → Prop} (hb : b < bs) (hd : 12 ≤ d) (hi : i + 5 ≤ L) (hL : L ≤ 2560) (h : jn_I (b, L, xs) bs c M) (next : jn_Nx b L xs bs d i c Q) : jn_W d 171 1150 [some (.ref b), some (.ref bs), some (.ref (bs + 19)), some (.int (nI i))] [] M Q := by
  obtain ⟨x, M1, M2, hv1, ⟨hs1, hr1, hv2⟩, hI⟩ := jn_op_tear (sc := (b, L, xs)) (bs := bs) (c := c) (M := M) hb  h
  have hn := next M2 hI
  have hrs : jn_rs M b = some (jn_aI L xs) := jn_rs_sc (jn_I_sc h)
  have hrs1 : jn_rs M1 b = some (jn_aI L xs) := jn_rs_sc hs1
  have hr0 := jn_I_rc h
  clear h next hI hs1
  simp (disch := omega) only [jn_w171_1150, jn_w171_1150n, jn_w171_1154, jn_w171_1154n, jn_w171_1158, jn_w171_1161, jn_w171_1162, jn_w171_1252, jn_w171_1255, jn_kk_n, jn_kk_i, jn_kk_r, jn_kk_u, jn_kk_l, jn_sm_0, jn_sm_i, jn_sm_l, jn_sm_r, jn_sm_u, jn_zb_0, jn_zb_1, jn_zb_b, jn_bI_0, and_true, true_and, and_self, Bool.and_true, Bool.true_and, decide_eq_true_eq, Option.toList_some, Option.toList_none, List.cons_append, List.nil_append, not_true_eq_false, not_false_eq_true, if_true, if_false, jn_aI_o, jn_aI_v, jn_io_n, jn_cl_n, nIadd, jn_w171_1151 (d := d) (hv1) ⟨by omega, by omega⟩, jn_w171_1155 (d := d) (hv2) ⟨by omega, by omega⟩, hr0, hr1, hrs, hrs1, eq_self]
  repeat first | exact hn | refine ⟨by omega, ?_⟩
theorem jn_lw31 {b L i c d bs : Nat} {xs : Nat → Int32} {M : jn_M} {Q : Option Value → jn_M → Prop} (hb : b < bs) (hd : 12 ≤ d) (hi : i + 5 ≤ L) (hL : L ≤ 2560) (h : jn_I (b, L, xs) bs c M) (next : jn_Nx b L xs bs d i c Q) : jn_W d 171 1163 [some (.ref b), some (.ref bs), some (.ref (bs + 19)), some (.int (nI i))] [] M Q := by
  obtain ⟨z1, x1, r1⟩ := jn_of_int (xs (i + 1))
  obtain ⟨x, M1, M2, hv1, ⟨hs1, hr1, hv2⟩, hI⟩ := jn_op_row (sc := (b, L, xs)) (bs := bs) (c := c) (M := M) hb r1 h
  have hn := next M2 hI
  have hrs : jn_rs M b = some (jn_aI L xs) := jn_rs_sc (jn_I_sc h)
  have hrs1 : jn_rs M1 b = some (jn_aI L xs) := jn_rs_sc hs1
  have hr0 := jn_I_rc h
  clear h next hI hs1
  simp (disch := omega) only [jn_w171_1163, jn_w171_1163n, jn_w171_1164, jn_w171_1164n, jn_w171_1165, jn_w171_1166, jn_w171_1167, jn_w171_1168, jn_w171_1172, jn_w171_1172n, jn_w171_1173, jn_w171_1173n, jn_w171_1174, jn_w171_1175, jn_w171_1176, jn_w171_1177, jn_w171_1181, jn_w171_1184, jn_w171_1185, jn_w171_1252, jn_w171_1255, jn_kk_n, jn_kk_i, jn_kk_r, jn_kk_u, jn_kk_l, jn_sm_0, jn_sm_i, jn_sm_l, jn_sm_r, jn_sm_u, jn_zb_0, jn_zb_1, jn_zb_b, jn_bI_0, and_true, true_and, and_self, Bool.and_true, Bool.true_and, decide_eq_true_eq, Option.toList_some, Option.toList_none, List.cons_append, List.nil_append, not_true_eq_false, not_false_eq_true, if_true, if_false, jn_aI_o, jn_aI_v, jn_io_n, jn_cl_n, nIadd, jn_w171_1169 (d := d) (hv1) ⟨by omega, by omega⟩, jn_w171_1178 (d := d) (hv2) ⟨by omega, by omega⟩, hr0, hr1, hrs, hrs1, eq_self, x1]
  repeat first | exact hn | refine ⟨by omega, ?_⟩
theorem jn_lw32 {b L i c d bs : Nat} {xs : Nat → Int32} {M : jn_M} {Q : Option Value → jn_M → Prop} (hb : b < bs) (hd : 12 ≤ d) (hi : i + 5 ≤ L) (hL : L ≤ 2560) (h : jn_I (b, L, xs) bs c M) (next : jn_Nx b L xs bs d i c Q) : jn_W d 171 1186 [some (.ref b), some (.ref bs), some (.ref (bs + 19)), some (.int (nI i))] [] M Q := by
  obtain ⟨z1, x1, r1⟩ := jn_of_int (xs (i + 1))
  obtain ⟨z2, x2, r2⟩ := jn_of_int (xs (i + 2))
  obtain ⟨z3, x3, r3⟩ := jn_of_int (xs (i + 3))
  obtain ⟨x, M1, M2, hv1, ⟨hs1, hr1, hv2⟩, hI⟩ := jn_op_copy (sc := (b, L, xs)) (bs := bs) (c := c) (M := M) hb r1 r2 r3 h
  have hn := next M2 hI
  have hrs : jn_rs M b = some (jn_aI L xs) := jn_rs_sc (jn_I_sc h)
  have hrs1 : jn_rs M1 b = some (jn_aI L xs) := jn_rs_sc hs1
  have hr0 := jn_I_rc h
  clear h next hI hs1
  simp (disch := omega) only [jn_w171_1186, jn_w171_1186n, jn_w171_1187, jn_w171_1187n, jn_w171_1188, jn_w171_1189, jn_w171_1190, jn_w171_1191, jn_w171_1192, jn_w171_1192n, jn_w171_1193, jn_w171_1194, jn_w171_1195, jn_w171_1196, jn_w171_1197, jn_w171_1197n, jn_w171_1198, jn_w171_1199, jn_w171_1200, jn_w171_1201, jn_w171_1205, jn_w171_1205n, jn_w171_1206, jn_w171_1206n, jn_w171_1207, jn_w171_1208, jn_w171_1209, jn_w171_1210, jn_w171_1211, jn_w171_1211n, jn_w171_1212, jn_w171_1213, jn_w171_1214, jn_w171_1215, jn_w171_1216, jn_w171_1216n, jn_w171_1217, jn_w171_1218, jn_w171_1219, jn_w171_1220, jn_w171_1224, jn_w171_1227, jn_w171_1228, jn_w171_1252, jn_w171_1255, jn_kk_n, jn_kk_i, jn_kk_r, jn_kk_u, jn_kk_l, jn_sm_0, jn_sm_i, jn_sm_l, jn_sm_r, jn_sm_u, jn_zb_0, jn_zb_1, jn_zb_b, jn_bI_0, and_true, true_and, and_self, Bool.and_true, Bool.true_and, decide_eq_true_eq, Option.toList_some, Option.toList_none, List.cons_append, List.nil_append, not_true_eq_false, not_false_eq_true, if_true, if_false, jn_aI_o, jn_aI_v, jn_io_n, jn_cl_n, nIadd, jn_w171_1202 (d := d) (hv1) ⟨by omega, by omega⟩, jn_w171_1221 (d := d) (hv2) ⟨by omega, by omega⟩, hr0, hr1, hrs, hrs1, eq_self, x1, x2, x3]
  repeat first | exact hn | refine ⟨by omega, ?_⟩
theorem jn_lw33 {b L i c d bs : Nat} {xs : Nat → Int32} {M : jn_M} {Q : Option Value → jn_M → Prop} (hb : b < bs) (hd : 12 ≤ d) (hi : i + 5 ≤ L) (hL : L ≤ 2560) (h : jn_I (b, L, xs) bs c M) (next : jn_Nx b L xs bs d i c Q) : jn_W d 171 1229 [some (.ref b), some (.ref bs), some (.ref (bs + 19)), some (.int (nI i))] [] M Q := by
  obtain ⟨z1, x1, r1⟩ := jn_of_int (xs (i + 1))
  obtain ⟨x, M1, M2, hv1, ⟨hs1, hr1, hv2⟩, hI⟩ := jn_op_status (sc := (b, L, xs)) (bs := bs) (c := c) (M := M) hb r1 h
  have hn := next M2 hI
  have hrs : jn_rs M b = some (jn_aI L xs) := jn_rs_sc (jn_I_sc h)
  have hrs1 : jn_rs M1 b = some (jn_aI L xs) := jn_rs_sc hs1
  have hr0 := jn_I_rc h
  clear h next hI hs1
  simp (disch := omega) only [jn_w171_1229, jn_w171_1229n, jn_w171_1230, jn_w171_1230n, jn_w171_1231, jn_w171_1232, jn_w171_1233, jn_w171_1234, jn_w171_1238, jn_w171_1238n, jn_w171_1239, jn_w171_1239n, jn_w171_1240, jn_w171_1241, jn_w171_1242, jn_w171_1243, jn_w171_1247, jn_w171_1250, jn_w171_1251, jn_w171_1252, jn_w171_1255, jn_kk_n, jn_kk_i, jn_kk_r, jn_kk_u, jn_kk_l, jn_sm_0, jn_sm_i, jn_sm_l, jn_sm_r, jn_sm_u, jn_zb_0, jn_zb_1, jn_zb_b, jn_bI_0, and_true, true_and, and_self, Bool.and_true, Bool.true_and, decide_eq_true_eq, Option.toList_some, Option.toList_none, List.cons_append, List.nil_append, not_true_eq_false, not_false_eq_true, if_true, if_false, jn_aI_o, jn_aI_v, jn_io_n, jn_cl_n, nIadd, jn_w171_1235 (d := d) (hv1) ⟨by omega, by omega⟩, jn_w171_1244 (d := d) (hv2) ⟨by omega, by omega⟩, hr0, hr1, hrs, hrs1, eq_self, x1]
  repeat first | exact hn | refine ⟨by omega, ?_⟩
theorem jn_lwd {b L i c d bs : Nat} {xs : Nat → Int32} {M : jn_M} {Q : Option Value → jn_M → Prop} (hb : b < bs) (hd : 12 ≤ d) (hi : i + 5 ≤ L) (hL : L ≤ 2560) (h : jn_I (b, L, xs) bs c M) (next : jn_Nx b L xs bs d i c Q) : jn_W d 171 1252 [some (.ref b), some (.ref bs), some (.ref (bs + 19)), some (.int (nI i))] [] M Q := by
  have hn := next M (jn_I_s h)
  clear next h
  simp (disch := omega) only [jn_w171_1252, jn_w171_1255, jn_kk_n, jn_kk_i, jn_kk_r, jn_kk_u, jn_kk_l, jn_sm_0, jn_sm_i, jn_sm_l, jn_sm_r, jn_sm_u, jn_zb_0, jn_zb_1, jn_zb_b, jn_bI_0, and_true, true_and, and_self, Bool.and_true, Bool.true_and, decide_eq_true_eq, Option.toList_some, Option.toList_none, List.cons_append, List.nil_append, not_true_eq_false, not_false_eq_true, if_true, if_false, nIadd]
  exact hn
theorem jn_tx_c (x : Int32) : jn_tx 0 33 [184, 207, 260, 293, 336, 360, 394, 464, 487, 510, 553, 586, 609, 632, 675, 708, 731, 790, 803, 836, 869, 902, 935, 958, 981, 1004, 1028, 1061, 1094, 1117, 1150, 1163, 1186, 1229] 1252 x = 1252 ∨ ∃ m, m < 34 ∧ jn_tx 0 33 [184, 207, 260, 293, 336, 360, 394, 464, 487, 510, 553, 586, 609, 632, 675, 708, 731, 790, 803, 836, 869, 902, 935, 958, 981, 1004, 1028, 1061, 1094, 1117, 1150, 1163, 1186, 1229] 1252 x = [184, 207, 260, 293, 336, 360, 394, 464, 487, 510, 553, 586, 609, 632, 675, 708, 731, 790, 803, 836, 869, 902, 935, 958, 981, 1004, 1028, 1061, 1094, 1117, 1150, 1163, 1186, 1229].getD m 1252 := by
  unfold jn_tx
  by_cases c : x.toInt < 0 ∨ 33 < x.toInt
  · rw [if_pos c]
    exact Or.inl rfl
  · rw [if_neg c]
    exact Or.inr ⟨(x.toInt - 0).toNat, by omega, rfl⟩
theorem jn_lws {b L i c d bs : Nat} {xs : Nat → Int32} {M : jn_M} {Q : Option Value → jn_M → Prop} (hb : b < bs) (hd : 12 ≤ d) (hi : i + 5 ≤ L) (hL : L ≤ 2560) (h : jn_I (b, L, xs) bs c M) (next : jn_Nx b L xs bs d i c Q) (x : Int32) : jn_W d 171 (jn_tx 0 33 [184, 207, 260, 293, 336, 360, 394, 464, 487, 510, 553, 586, 609, 632, 675, 708, 731, 790, 803, 836, 869, 902, 935, 958, 981, 1004, 1028, 1061, 1094, 1117, 1150, 1163, 1186, 1229] 1252 x) [some (.ref b), some (.ref bs), some (.ref (bs + 19)), some (.int (nI i))] [] M Q := by
  rcases jn_tx_c x with e | ⟨m, hm, e⟩
  · rw [e]
    exact jn_lwd hb hd hi hL h next
  · rw [e]
    clear e
    match m, hm with
    | 0, _ => exact jn_lw0 hb hd hi hL h next
    | 1, _ => exact jn_lw1 hb hd hi hL h next
    | 2, _ => exact jn_lw2 hb hd hi hL h next
    | 3, _ => exact jn_lw3 hb hd hi hL h next
    | 4, _ => exact jn_lw4 hb hd hi hL h next
    | 5, _ => exact jn_lw5 hb hd hi hL h next
    | 6, _ => exact jn_lw6 hb hd hi hL h next
    | 7, _ => exact jn_lw7 hb hd hi hL h next
    | 8, _ => exact jn_lw8 hb hd hi hL h next
    | 9, _ => exact jn_lw9 hb hd hi hL h next
    | 10, _ => exact jn_lw10 hb hd hi hL h next
    | 11, _ => exact jn_lw11 hb hd hi hL h next
    | 12, _ => exact jn_lw12 hb hd hi hL h next
    | 13, _ => exact jn_lw13 hb hd hi hL h next
    | 14, _ => exact jn_lw14 hb hd hi hL h next
    | 15, _ => exact jn_lw15 hb hd hi hL h next
    | 16, _ => exact jn_lw16 hb hd hi hL h next
    | 17, _ => exact jn_lw17 hb hd hi hL h next
    | 18, _ => exact jn_lw18 hb hd hi hL h next
    | 19, _ => exact jn_lw19 hb hd hi hL h next
    | 20, _ => exact jn_lw20 hb hd hi hL h next
    | 21, _ => exact jn_lw21 hb hd hi hL h next
    | 22, _ => exact jn_lw22 hb hd hi hL h next
    | 23, _ => exact jn_lw23 hb hd hi hL h next
    | 24, _ => exact jn_lw24 hb hd hi hL h next
    | 25, _ => exact jn_lw25 hb hd hi hL h next
    | 26, _ => exact jn_lw26 hb hd hi hL h next
    | 27, _ => exact jn_lw27 hb hd hi hL h next
    | 28, _ => exact jn_lw28 hb hd hi hL h next
    | 29, _ => exact jn_lw29 hb hd hi hL h next
    | 30, _ => exact jn_lw30 hb hd hi hL h next
    | 31, _ => exact jn_lw31 hb hd hi hL h next
    | 32, _ => exact jn_lw32 hb hd hi hL h next
    | 33, _ => exact jn_lw33 hb hd hi hL h next
    | m + 34, hm => exact absurd hm (by omega)
theorem jn_lwl {b L d bs : Nat} {xs : Nat → Int32} {Q : Option Value → jn_M → Prop} (hb : b < bs) (hd : 12 ≤ d) (hL : L ≤ 2560) (hQ : ∀ (c : Nat) (M : jn_M), c ≤ 512 → jn_I (b, L, xs) bs c M → Q (some (.int (nI 1))) M) : ∀ k c : Nat, c + k = L / 5 → ∀ M : jn_M, jn_I (b, L, xs) bs c M → jn_W d 171 18 [some (.ref b), some (.ref bs), some (.ref (bs + 19)), some (.int (nI (5 * c)))] [] M Q := by
  intro k
  induction k with
  | zero =>
    intro c hc M h
    have hq := hQ c M (by omega) h
    have e1 : b = M.1.1 := by rw [jn_I_sc h]
    have e2 : M.1.2.1 = L := by rw [jn_I_sc h]
    clear h hQ
    simp (disch := omega) only [jn_w171_18, jn_w171_19, jn_w171_19n, jn_w171_21, jn_w171_22, jn_w171_23, jn_w171_1258, jn_w171_1259, jn_w171_20 (M := M) e1, e2, jn_kk_n, jn_kk_i, jn_kk_r, jn_kk_u, jn_kk_l, jn_sm_0, jn_sm_i, jn_sm_l, jn_sm_r, jn_sm_u, jn_zb_0, jn_zb_1, jn_zb_b, jn_bI_0, and_true, true_and, and_self, Bool.and_true, Bool.true_and, decide_eq_true_eq, Option.toList_some, Option.toList_none, List.cons_append, List.nil_append, not_true_eq_false, not_false_eq_true, if_true, if_false, jI_add, nIadd, njIadd, jnIadd, jL_add, nLadd, njLadd, jnLadd, jI_sub, nIsub, njIsub, jnIsub, jL_sub, nLsub, njLsub, jnLsub, jI_mul, nImul, njImul, jnImul, jL_mul, nLmul, njLmul, jnLmul, jI_neg, nIneg, jL_neg, nLneg, jIlt_jn, show (L : Int) - ((5 : Nat) : Int) < ((5 * c : Nat) : Int) by omega]
    exact hq
  | succ k ih =>
    intro c hc M h
    have hs := fun x => jn_lws (i := 5 * c) hb hd (by omega) hL h (fun M' h' => by
      have := ih (c + 1) (by omega) M' h'
      rw [show 5 * (c + 1) = 5 * c + 5 by omega] at this
      exact this) x
    have e1 : b = M.1.1 := by rw [jn_I_sc h]
    have e2 : M.1.2.1 = L := by rw [jn_I_sc h]
    have hrs : jn_rs M b = some (jn_aI L xs) := jn_rs_sc (jn_I_sc h)
    clear h hQ ih
    simp (disch := omega) only [jn_w171_18, jn_w171_19, jn_w171_19n, jn_w171_21, jn_w171_22, jn_w171_23, jn_w171_26, jn_w171_26n, jn_w171_27, jn_w171_28, jn_w171_29, jn_w171_31, jn_w171_32, jn_w171_20 (M := M) e1, e2, hrs, jn_aI_o, jn_aI_v, jn_io_n, jn_cl_n, jn_kk_n, jn_kk_i, jn_kk_r, jn_kk_u, jn_kk_l, jn_sm_0, jn_sm_i, jn_sm_l, jn_sm_r, jn_sm_u, jn_zb_0, jn_zb_1, jn_zb_b, jn_bI_0, and_true, true_and, and_self, Bool.and_true, Bool.true_and, decide_eq_true_eq, Option.toList_some, Option.toList_none, List.cons_append, List.nil_append, not_true_eq_false, not_false_eq_true, if_true, if_false, jI_add, nIadd, njIadd, jnIadd, jL_add, nLadd, njLadd, jnLadd, jI_sub, nIsub, njIsub, jnIsub, jL_sub, nLsub, njLsub, jnLsub, jI_mul, nImul, njImul, jnImul, jL_mul, nLmul, njLmul, jnLmul, jI_neg, nIneg, jL_neg, nLneg, jIlt_jn, show ¬ ((L : Int) - ((5 : Nat) : Int) < ((5 * c : Nat) : Int)) by omega]
    exact ⟨by omega, hs _⟩
