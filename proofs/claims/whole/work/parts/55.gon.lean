/-! DebtNet's Breaker: someReachesRankOne; what both searches for the gonality tell. -/
/-- one good more at post 0 -/
def jw_p0 (H : Nat → Nat) : Nat → Nat := fun q => if q = 0 then H q + 1 else H q
theorem jw_find2 {n k : Nat} (hn : 1 ≤ n ∧ n ≤ 6) (hk : k ≤ 21) (P : (Nat → Nat) → Prop) (hP : ∀ G H : Nat → Nat, (∀ q, q < 6 → G q = H q) → P G → P H) : ∃ (m : Nat) (r : Bool), m < 70000 ∧ (∀ i, i < m → ¬ P (jm_ws n k i) ∧ jm_lp (jm_ws n k i) (n - 1) ≠ none) ∧ ((r = true ∧ P (jm_ws n k m)) ∨ (r = false ∧ ¬ P (jm_ws n k m) ∧ jm_lp (jm_ws n k m) (n - 1) = none)) ∧ (r = true ↔ ∃ H, jw_way n k H ∧ P H) := by
  obtain ⟨m, m1, m2, m3⟩ := jw_find (k := k) hn hk P
  rcases m3 with m3 | ⟨m3, m4⟩
  · exact ⟨m, true, m1, m2, Or.inl ⟨rfl, m3⟩, ⟨fun _ => ⟨_, jw_ws_way hn m, m3⟩, fun _ => rfl⟩⟩
  · refine ⟨m, false, m1, m2, Or.inr ⟨rfl, m3, m4⟩, ⟨fun h => absurd h (by decide), fun ⟨H, hH, hPH⟩ => ?_⟩⟩
    obtain ⟨i, hi, he⟩ := jw_all hn hH m4
    have h1 := hP _ _ he hPH
    by_cases e : i = m
    · rw [e] at h1
      exact absurd h1 m3
    · exact absurd h1 (m2 i (by omega)).1
theorem jw_hold_cg {R : Nat → Nat → Nat} {n k : Nat} {B C : Nat → Int} (hn : n ≤ 6) (hBC : ∀ q, q < 6 → B q = C q) (h : jw_hold R n B k) : jw_hold R n C k := fun H hH => jw_wn_cg hn (fun q hq => by rw [hBC q hq]) (h H hH)
theorem jn_Breaker_some {sc : Nat × Nat × (Nat → Int32)} {bs : Nat} {nets : Nat → Option Nat} {nC : Int32} {books : Nat → Option Nat} {bC : Int32} {theRow : Nat → Int32} {rL : Int32} {refusals : Nat → Int32} {draft : Nat → Int32} {cells : Nat → Int64} {lends : Nat → Int32} {taken : Nat → Int32} {held : Nat → Int32} {left : Nat → Int32} {σ : jn_ST} {D : List jn_Ce} {a b n T dg : Nat} {num : Int32} {R : Nat → Nat → Nat} {f s : Nat → Int32} (hsc : sc.1 < bs) (hN : jn_nD bs D a b num n R f) (h : jw_H R n 0) (hT : jw_T R n 0 = (T : Int) ∧ 0 < T ∧ T ≤ 1073741824) (hs : jm_S R n 0 s) (hdg : 1 ≤ dg ∧ dg ≤ 6) :
    ∃ (r : Bool) (hl tk lf le : Nat → Int32), (r = true ↔ ∃ H, jw_way n (dg - 1) H ∧ jw_hold R n (fun q => (jw_p0 H q : Int)) 1) ∧ jn_V 10 6 [.ref (bs + 13), .ref a, .int (nI dg)] (jn_mem sc bs (nets, nC, books, bC, theRow, rL, refusals, draft, cells, a, nI 0, lN T, s, lends, taken, held, left) σ D) (some (.int (jn_bI r))) (jn_mem sc bs (nets, nC, books, bC, theRow, rL, refusals, draft, cells, a, nI 0, lN T, s, le, tk, hl, lf) σ D) := by
  have hn := h.1.1
  have hNA : ∀ (κ : jn_KT), jn_hN (jn_mem sc bs κ σ D) a b num n R f := fun κ => jn_nD_N hsc hN
  obtain ⟨m, r, m1, m2, m3, m4⟩ := jw_find2 (n := n) (k := dg - 1) hn (by omega) (fun H => jw_hold R n (fun q => (jw_p0 H q : Int)) 1) (fun G H hGH hG => jw_hold_cg hn.2 (fun q hq => by unfold jw_p0; rw [hGH q hq]) hG)
  have main := jn_V_exd (cm := 10) (k := 6) (vs := [.ref (bs + 13), .ref a, .int (nI dg)]) (M := (jn_mem sc bs (nets, nC, books, bC, theRow, rL, refusals, draft, cells, a, nI 0, lN T, s, lends, taken, held, left) σ D)) (post := fun w M' => w = some (.int (jn_bI r)) ∧ ∃ hl tk lf le : Nat → Int32, M' = (jn_mem sc bs (nets, nC, books, bC, theRow, rL, refusals, draft, cells, a, nI 0, lN T, s, le, tk, hl, lf) σ D)) (by
    intro d hd
    rw [show jn_en (jn_G0 10).1.2.2.1 [.ref (bs + 13), .ref a, .int (nI dg)] = [some (.ref (bs + 13)), some (.ref a), some (.int (nI dg)), none, none, none] from rfl]
    generalize hQ0 : (fun (w : Option Value) (M' : jn_M) => w = some (.int (jn_bI r)) ∧ ∃ hl tk lf le : Nat → Int32, M' = (jn_mem sc bs (nets, nC, books, bC, theRow, rL, refusals, draft, cells, a, nI 0, lN T, s, le, tk, hl, lf) σ D)) = Q
    have hQ : ∀ hl tk lf le : Nat → Int32, Q (some (.int (jn_bI r))) (jn_mem sc bs (nets, nC, books, bC, theRow, rL, refusals, draft, cells, a, nI 0, lN T, s, le, tk, hl, lf) σ D) := by
      intro hl tk lf le
      rw [← hQ0]
      exact ⟨rfl, hl, tk, lf, le, rfl⟩
    clear hQ0
    have hT0 : jn_hT (jn_mem sc bs (nets, nC, books, bC, theRow, rL, refusals, draft, cells, a, nI 0, lN T, s, lends, taken, held, left) σ D) (bs + 16) (bs + 17) held := ⟨jn_kr16, jn_kr17, jn_ki17 hsc⟩
    obtain ⟨t0, hst, ht1, ht2⟩ := jn_Taking_start (x := nI (dg - 1)) hT0 (by omega) (by show bs + 17 ≠ sc.1; omega)
    rw [jn_kw17] at hst
    have ht0 : ∀ q, q < 6 → t0 q = nI (jm_ws n (dg - 1) 0 q) := by
      intro q hq
      show t0 q = nI (if q = 0 then dg - 1 else 0)
      by_cases e : q = 0
      · rw [if_pos e, e, ht1]
      · rw [if_neg e, ht2 q (by omega) hq]
    -- one round: breaks of the held goods and one more at post 0
    have rnd : ∀ (i : Nat) (hl tk lf le : Nat → Int32) (x5 : Option Value) (hi : i < 1000000), (∀ q, q < 6 → hl q = nI (jm_ws n (dg - 1) i q)) → ∃ (br : Bool) (hl' tk' lf' le' : Nat → Int32), (br = false ↔ jw_hold R n (fun q => (jw_p0 (jm_ws n (dg - 1) i) q : Int)) 1) ∧ (∀ q, q < 6 → hl' q = nI (jm_ws n (dg - 1) i q)) ∧ jn_W d 10 15 [some (.ref (bs + 13)), some (.ref a), some (.int (nI dg)), some (.int (nI 1)), some (.int (nI i)), x5] [] (jn_mem sc bs (nets, nC, books, bC, theRow, rL, refusals, draft, cells, a, nI 0, lN T, s, le, tk, hl, lf) σ D) Q = if br = true then jn_W d 10 82 [some (.ref (bs + 13)), some (.ref a), some (.int (nI dg)), some (.int (nI 1)), some (.int (nI i)), some (.int (jn_bI br))] [.int (nI n), .ref (bs + 16)] (jn_mem sc bs (nets, nC, books, bC, theRow, rL, refusals, draft, cells, a, nI 0, lN T, s, le', tk', hl', lf') σ D) Q else Q (some (.int (nI 1))) (jn_mem sc bs (nets, nC, books, bC, theRow, rL, refusals, draft, cells, a, nI 0, lN T, s, le', tk', hl', lf') σ D) := by
      intro i hl tk lf le x5 hi ht
      have hw := jw_ws_way (k := dg - 1) hn i
      have h00 := jw_way_le hw (show 0 < 6 by omega)
      obtain ⟨m0, br, a1, a2, a3, a4⟩ := jw_holdm (R := R) (k := 1) hn (fun q => (jw_p0 (jm_ws n (dg - 1) i) q : Int)) (by omega)
      obtain ⟨tk', lf', le', -, hbr⟩ := jn_Breaker_breaks (sc := sc) (bs := bs) (nets := nets) (nC := nC) (books := books) (bC := bC) (theRow := theRow) (rL := rL) (refusals := refusals) (draft := draft) (cells := cells) (lends := le) (taken := tk) (held := upd hl 0 (nI (jm_ws n (dg - 1) i 0 + 1))) (left := lf) (σ := σ) (c := bs + 17) (g := upd hl 0 (nI (jm_ws n (dg - 1) i 0 + 1))) (B := fun q => (jw_p0 (jm_ws n (dg - 1) i) q : Int)) hsc hN h hT hs (fun q hq => by
        have := jw_way_le hw hq
        unfold jw_p0
        split <;> omega) (fun q hq => by
        unfold upd jw_p0
        by_cases e : q = 0
        · rw [if_pos e, if_pos e, jI_nat, e]
        · rw [if_neg e, if_neg e, jI_nat]
          exact ht q hq) (fun _ _ _ => jn_ki17 hsc) (by omega) a1 a2 a3
      refine ⟨br, upd (upd hl 0 (nI (jm_ws n (dg - 1) i 0 + 1))) 0 (nI (jm_ws n (dg - 1) i 0)), tk', lf', le', a4, fun q hq => ?_, ?_⟩
      · unfold upd
        by_cases e : q = 0
        · rw [if_pos e, e]
        · rw [if_neg e, if_neg e]
          exact ht q hq
      · have hu : upd hl 0 (nI (jm_ws n (dg - 1) i 0 + 1)) 0 = nI (jm_ws n (dg - 1) i 0 + 1) := by
          unfold upd
          rw [if_pos rfl]
        have h0 := ht 0 (by omega)
        have hsb : jI (((jm_ws n (dg - 1) i 0 + 1 : Nat) : Int) - ((1 : Nat) : Int)) = nI (jm_ws n (dg - 1) i 0) := by
          rw [show ((jm_ws n (dg - 1) i 0 + 1 : Nat) : Int) - ((1 : Nat) : Int) = ((jm_ws n (dg - 1) i 0 : Nat) : Int) by omega, jI_nat]
        clear a2 a3 a4 hQ hst m2 m3 m4
        rw [jn_w10_15]
        cases br with
        | true =>
          rw [jn_bI_t] at hbr
          simp (disch := omega) only [jn_w10_0, jn_w10_0n, jn_w10_1, jn_w10_4, jn_w10_5, jn_w10_6, jn_w10_10, jn_w10_11, jn_w10_12, jn_w10_13, jn_w10_17, jn_w10_19, jn_w10_22, jn_w10_23, jn_w10_26, jn_w10_26n, jn_w10_27, jn_w10_30, jn_w10_33, jn_w10_34, jn_w10_35, jn_w10_36, jn_w10_37, jn_w10_38, jn_w10_39, jn_w10_39n, jn_w10_40, jn_w10_40n, jn_w10_41, jn_w10_41n, jn_w10_42, jn_w10_45, jn_w10_48, jn_w10_52, jn_w10_54, jn_w10_54n, jn_w10_55, jn_w10_58, jn_w10_61, jn_w10_62, jn_w10_63, jn_w10_64, jn_w10_65, jn_w10_66, jn_w10_67, jn_w10_69, jn_w10_72, jn_w10_73, jn_w10_74, jn_w10_74n, jn_w10_75, jn_w10_78, jn_w10_78n, jn_w10_79, jn_w10_85, jn_w10_86, jn_w10_89, jn_w10_92, jn_w10_93, jn_kk_n, jn_kk_i, jn_kk_r, jn_kk_u, jn_kk_l, jn_sm_0, jn_sm_i, jn_sm_l, jn_sm_r, jn_sm_u, jn_zb_0, jn_zb_1, jn_zb_b, jn_bI_0, and_true, true_and, and_self, Bool.and_true, Bool.true_and, decide_eq_true_eq, Option.toList_some, Option.toList_none, List.cons_append, List.nil_append, not_true_eq_false, not_false_eq_true, if_true, if_false, jn_oNet_o0, jn_oNet_v0, jn_oNet_o1, jn_oNet_v1, jn_oNet_o2, jn_oNet_v2, jn_oBook_o0, jn_oBook_v0, jn_oBook_o1, jn_oBook_v1, jn_oTab_o0, jn_oTab_v0, jn_oTak_o0, jn_oTak_v0, jn_oRed_o0, jn_oRed_v0, jn_oRed_o1, jn_oRed_v1, jn_oRed_s1, jn_oRed_o2, jn_oRed_v2, jn_oRed_s2, jn_oRed_o3, jn_oRed_v3, jn_oRed_s3, jn_oRed_o4, jn_oRed_v4, jn_oRed_o5, jn_oRed_v5, jn_oBrk_o0, jn_oBrk_v0, jn_oBrk_o1, jn_oBrk_v1, jn_oBrk_o2, jn_oBrk_v2, jn_oBrk_o3, jn_oBrk_v3, jn_oD_o0, jn_oD_v0, jn_oD_o1, jn_oD_v1, jn_oD_s1, jn_oD_o2, jn_oD_v2, jn_oD_o3, jn_oD_v3, jn_oD_s3, jn_oD_o4, jn_oD_v4, jn_oD_o5, jn_oD_v5, jn_oD_s5, jn_oD_o6, jn_oD_v6, jn_oD_o7, jn_oD_v7, jn_oD_o8, jn_oD_v8, jn_oD_o9, jn_oD_v9, jn_oD_o10, jn_oD_v10, jn_oM_o0, jn_oM_v0, jn_oM_o1, jn_oM_v1, jn_oM_o2, jn_oM_v2, jn_oM_s2, jn_oM_o3, jn_oM_v3, jn_oM_s3, jn_oM_o4, jn_oM_v4, jn_oM_o5, jn_oM_v5, jn_oM_o6, jn_oM_v6, jn_oM_o7, jn_oM_v7, jn_oM_o8, jn_oM_v8, jn_oM_o9, jn_oM_v9, jn_oM_o10, jn_oM_v10, jn_oM_o11, jn_oM_v11, jn_oM_o12, jn_oM_v12, jn_oM_o13, jn_oM_v13, jn_oM_o14, jn_oM_v14, jn_oM_o15, jn_oM_v15, jn_oM_o16, jn_oM_v16, jn_oM_o17, jn_oM_v17, jn_oM_o18, jn_oM_v18, jn_oM_o19, jn_oM_v19, jn_oM_o20, jn_oM_v20, jn_oM_o21, jn_oM_v21, jn_oM_s21, jn_aI_o, jn_aI_v, jn_aI_s, jn_aZ_o, jn_aZ_v, jn_aZ_s, jn_aL_o, jn_aL_v, jn_aL_s, jn_aN_o, jn_aN_v, jn_aN_s, jn_aN_p, jn_aB_o, jn_aB_v, jn_aB_s, jn_aB_p, jn_cp_on, jn_cp_sn, jn_io_n, jn_io_j, jn_cl_n, jn_cl_j, jI_add, nIadd, njIadd, jnIadd, jL_add, nLadd, njLadd, jnLadd, jI_sub, nIsub, njIsub, jnIsub, jL_sub, nLsub, njLsub, jnLsub, jI_mul, nImul, njImul, jnImul, jL_mul, nLmul, njLmul, jnLmul, jI_neg, nIneg, jL_neg, nLneg, jn_kr0, jn_kr1, jn_kr2, jn_kr3, jn_kr4, jn_kr5, jn_kr6, jn_kr7, jn_kr8, jn_kr9, jn_kr10, jn_kr11, jn_kr12, jn_kr13, jn_kr14, jn_kr15, jn_kr16, jn_kr17, jn_kr18, jn_kw0, jn_kw1, jn_kw2, jn_kw3, jn_kw4, jn_kw5, jn_kw7, jn_kw8, jn_kw11, jn_kw12, jn_kw15, jn_kw17, jn_kw18, jn_ki3 hsc, jn_ki4 hsc, jn_ki5 hsc, jn_ki10 hsc, jn_ki11 hsc, jn_ki12 hsc, jn_ki15 hsc, jn_ki17 hsc, jn_ki18 hsc, (hNA _).1, jIle_nn, jIeq_nn, show ¬ 1000000 ≤ i by omega, show ¬ (1 = 0) by omega, h0, hu, hsb, jn_w10_49 (d := d) (hbr) ⟨by omega, by omega⟩, jn_kB_rc, jn_bI_t, show 0 < 6 by omega]
        | false =>
          rw [jn_bI_f] at hbr
          simp (disch := omega) only [jn_w10_0, jn_w10_0n, jn_w10_1, jn_w10_4, jn_w10_5, jn_w10_6, jn_w10_10, jn_w10_11, jn_w10_12, jn_w10_13, jn_w10_17, jn_w10_19, jn_w10_22, jn_w10_23, jn_w10_26, jn_w10_26n, jn_w10_27, jn_w10_30, jn_w10_33, jn_w10_34, jn_w10_35, jn_w10_36, jn_w10_37, jn_w10_38, jn_w10_39, jn_w10_39n, jn_w10_40, jn_w10_40n, jn_w10_41, jn_w10_41n, jn_w10_42, jn_w10_45, jn_w10_48, jn_w10_52, jn_w10_54, jn_w10_54n, jn_w10_55, jn_w10_58, jn_w10_61, jn_w10_62, jn_w10_63, jn_w10_64, jn_w10_65, jn_w10_66, jn_w10_67, jn_w10_69, jn_w10_72, jn_w10_73, jn_w10_74, jn_w10_74n, jn_w10_75, jn_w10_78, jn_w10_78n, jn_w10_79, jn_w10_85, jn_w10_86, jn_w10_89, jn_w10_92, jn_w10_93, jn_kk_n, jn_kk_i, jn_kk_r, jn_kk_u, jn_kk_l, jn_sm_0, jn_sm_i, jn_sm_l, jn_sm_r, jn_sm_u, jn_zb_0, jn_zb_1, jn_zb_b, jn_bI_0, and_true, true_and, and_self, Bool.and_true, Bool.true_and, decide_eq_true_eq, Option.toList_some, Option.toList_none, List.cons_append, List.nil_append, not_true_eq_false, not_false_eq_true, if_true, if_false, jn_oNet_o0, jn_oNet_v0, jn_oNet_o1, jn_oNet_v1, jn_oNet_o2, jn_oNet_v2, jn_oBook_o0, jn_oBook_v0, jn_oBook_o1, jn_oBook_v1, jn_oTab_o0, jn_oTab_v0, jn_oTak_o0, jn_oTak_v0, jn_oRed_o0, jn_oRed_v0, jn_oRed_o1, jn_oRed_v1, jn_oRed_s1, jn_oRed_o2, jn_oRed_v2, jn_oRed_s2, jn_oRed_o3, jn_oRed_v3, jn_oRed_s3, jn_oRed_o4, jn_oRed_v4, jn_oRed_o5, jn_oRed_v5, jn_oBrk_o0, jn_oBrk_v0, jn_oBrk_o1, jn_oBrk_v1, jn_oBrk_o2, jn_oBrk_v2, jn_oBrk_o3, jn_oBrk_v3, jn_oD_o0, jn_oD_v0, jn_oD_o1, jn_oD_v1, jn_oD_s1, jn_oD_o2, jn_oD_v2, jn_oD_o3, jn_oD_v3, jn_oD_s3, jn_oD_o4, jn_oD_v4, jn_oD_o5, jn_oD_v5, jn_oD_s5, jn_oD_o6, jn_oD_v6, jn_oD_o7, jn_oD_v7, jn_oD_o8, jn_oD_v8, jn_oD_o9, jn_oD_v9, jn_oD_o10, jn_oD_v10, jn_oM_o0, jn_oM_v0, jn_oM_o1, jn_oM_v1, jn_oM_o2, jn_oM_v2, jn_oM_s2, jn_oM_o3, jn_oM_v3, jn_oM_s3, jn_oM_o4, jn_oM_v4, jn_oM_o5, jn_oM_v5, jn_oM_o6, jn_oM_v6, jn_oM_o7, jn_oM_v7, jn_oM_o8, jn_oM_v8, jn_oM_o9, jn_oM_v9, jn_oM_o10, jn_oM_v10, jn_oM_o11, jn_oM_v11, jn_oM_o12, jn_oM_v12, jn_oM_o13, jn_oM_v13, jn_oM_o14, jn_oM_v14, jn_oM_o15, jn_oM_v15, jn_oM_o16, jn_oM_v16, jn_oM_o17, jn_oM_v17, jn_oM_o18, jn_oM_v18, jn_oM_o19, jn_oM_v19, jn_oM_o20, jn_oM_v20, jn_oM_o21, jn_oM_v21, jn_oM_s21, jn_aI_o, jn_aI_v, jn_aI_s, jn_aZ_o, jn_aZ_v, jn_aZ_s, jn_aL_o, jn_aL_v, jn_aL_s, jn_aN_o, jn_aN_v, jn_aN_s, jn_aN_p, jn_aB_o, jn_aB_v, jn_aB_s, jn_aB_p, jn_cp_on, jn_cp_sn, jn_io_n, jn_io_j, jn_cl_n, jn_cl_j, jI_add, nIadd, njIadd, jnIadd, jL_add, nLadd, njLadd, jnLadd, jI_sub, nIsub, njIsub, jnIsub, jL_sub, nLsub, njLsub, jnLsub, jI_mul, nImul, njImul, jnImul, jL_mul, nLmul, njLmul, jnLmul, jI_neg, nIneg, jL_neg, nLneg, jn_kr0, jn_kr1, jn_kr2, jn_kr3, jn_kr4, jn_kr5, jn_kr6, jn_kr7, jn_kr8, jn_kr9, jn_kr10, jn_kr11, jn_kr12, jn_kr13, jn_kr14, jn_kr15, jn_kr16, jn_kr17, jn_kr18, jn_kw0, jn_kw1, jn_kw2, jn_kw3, jn_kw4, jn_kw5, jn_kw7, jn_kw8, jn_kw11, jn_kw12, jn_kw15, jn_kw17, jn_kw18, jn_ki3 hsc, jn_ki4 hsc, jn_ki5 hsc, jn_ki10 hsc, jn_ki11 hsc, jn_ki12 hsc, jn_ki15 hsc, jn_ki17 hsc, jn_ki18 hsc, (hNA _).1, jIle_nn, jIeq_nn, show ¬ 1000000 ≤ i by omega, show ¬ (1 = 0) by omega, h0, hu, hsb, jn_w10_49 (d := d) (hbr) ⟨by omega, by omega⟩, jn_kB_rc, eq_self, show 0 < 6 by omega, Bool.false_eq_true]
    have loop : ∀ (hl tk lf le : Nat → Int32) (x5 : Option Value), (∀ q, q < 6 → hl q = nI (jm_ws n (dg - 1) 0 q)) → jn_W d 10 15 [some (.ref (bs + 13)), some (.ref a), some (.int (nI dg)), some (.int (nI 1)), some (.int (nI 0)), x5] [] (jn_mem sc bs (nets, nC, books, bC, theRow, rL, refusals, draft, cells, a, nI 0, lN T, s, le, tk, hl, lf) σ D) Q := by
      refine jn_up (P := fun i => ∀ (hl tk lf le : Nat → Int32) (x5 : Option Value), (∀ q, q < 6 → hl q = nI (jm_ws n (dg - 1) i q)) → jn_W d 10 15 [some (.ref (bs + 13)), some (.ref a), some (.int (nI dg)), some (.int (nI 1)), some (.int (nI i)), x5] [] (jn_mem sc bs (nets, nC, books, bC, theRow, rL, refusals, draft, cells, a, nI 0, lN T, s, le, tk, hl, lf) σ D) Q) (n := m) (fun i hi hP hl tk lf le x5 ht => ?_) (fun hl tk lf le x5 ht => ?_)
      · have hw := jw_ws_way (k := dg - 1) hn i
        obtain ⟨w1, w2⟩ := m2 i hi
        obtain ⟨br, hl', tk', lf', le', b1, b2, b3⟩ := rnd i hl tk lf le x5 (by omega) ht
        rw [b3]
        cases br with
        | false => exact absurd (b1.mp rfl) w1
        | true =>
          rw [if_pos rfl]
          have hTt : jn_hT (jn_mem sc bs (nets, nC, books, bC, theRow, rL, refusals, draft, cells, a, nI 0, lN T, s, le', tk', hl', lf') σ D) (bs + 16) (bs + 17) hl' := ⟨jn_kr16, jn_kr17, jn_ki17 hsc⟩
          cases hlp : jm_lp (jm_ws n (dg - 1) i) (n - 1) with
          | none => exact absurd hlp w2
          | some p =>
            obtain ⟨t', hadv, ht'⟩ := jn_Taking_advance hTt (by omega) (by show bs + 17 ≠ sc.1; omega) hn b2 (fun q hq => by have := jw_way_le hw hq; omega) hlp
            rw [jn_kw17] at hadv
            rw [← jm_ws_s hlp] at ht'
            have hP' := hP t' tk' lf' le' (some (.int (jn_bI true))) ht'
            clear hP hQ m2 m3 m4 w1 w2 hst rnd b1 b3
            simp (disch := omega) only [jn_w10_0, jn_w10_0n, jn_w10_1, jn_w10_4, jn_w10_5, jn_w10_6, jn_w10_10, jn_w10_11, jn_w10_12, jn_w10_13, jn_w10_17, jn_w10_19, jn_w10_22, jn_w10_23, jn_w10_26, jn_w10_26n, jn_w10_27, jn_w10_30, jn_w10_33, jn_w10_34, jn_w10_35, jn_w10_36, jn_w10_37, jn_w10_38, jn_w10_39, jn_w10_39n, jn_w10_40, jn_w10_40n, jn_w10_41, jn_w10_41n, jn_w10_42, jn_w10_45, jn_w10_48, jn_w10_52, jn_w10_54, jn_w10_54n, jn_w10_55, jn_w10_58, jn_w10_61, jn_w10_62, jn_w10_63, jn_w10_64, jn_w10_65, jn_w10_66, jn_w10_67, jn_w10_69, jn_w10_72, jn_w10_73, jn_w10_74, jn_w10_74n, jn_w10_75, jn_w10_78, jn_w10_78n, jn_w10_79, jn_w10_85, jn_w10_86, jn_w10_89, jn_w10_92, jn_w10_93, jn_kk_n, jn_kk_i, jn_kk_r, jn_kk_u, jn_kk_l, jn_sm_0, jn_sm_i, jn_sm_l, jn_sm_r, jn_sm_u, jn_zb_0, jn_zb_1, jn_zb_b, jn_bI_0, and_true, true_and, and_self, Bool.and_true, Bool.true_and, decide_eq_true_eq, Option.toList_some, Option.toList_none, List.cons_append, List.nil_append, not_true_eq_false, not_false_eq_true, if_true, if_false, jn_oNet_o0, jn_oNet_v0, jn_oNet_o1, jn_oNet_v1, jn_oNet_o2, jn_oNet_v2, jn_oBook_o0, jn_oBook_v0, jn_oBook_o1, jn_oBook_v1, jn_oTab_o0, jn_oTab_v0, jn_oTak_o0, jn_oTak_v0, jn_oRed_o0, jn_oRed_v0, jn_oRed_o1, jn_oRed_v1, jn_oRed_s1, jn_oRed_o2, jn_oRed_v2, jn_oRed_s2, jn_oRed_o3, jn_oRed_v3, jn_oRed_s3, jn_oRed_o4, jn_oRed_v4, jn_oRed_o5, jn_oRed_v5, jn_oBrk_o0, jn_oBrk_v0, jn_oBrk_o1, jn_oBrk_v1, jn_oBrk_o2, jn_oBrk_v2, jn_oBrk_o3, jn_oBrk_v3, jn_oD_o0, jn_oD_v0, jn_oD_o1, jn_oD_v1, jn_oD_s1, jn_oD_o2, jn_oD_v2, jn_oD_o3, jn_oD_v3, jn_oD_s3, jn_oD_o4, jn_oD_v4, jn_oD_o5, jn_oD_v5, jn_oD_s5, jn_oD_o6, jn_oD_v6, jn_oD_o7, jn_oD_v7, jn_oD_o8, jn_oD_v8, jn_oD_o9, jn_oD_v9, jn_oD_o10, jn_oD_v10, jn_oM_o0, jn_oM_v0, jn_oM_o1, jn_oM_v1, jn_oM_o2, jn_oM_v2, jn_oM_s2, jn_oM_o3, jn_oM_v3, jn_oM_s3, jn_oM_o4, jn_oM_v4, jn_oM_o5, jn_oM_v5, jn_oM_o6, jn_oM_v6, jn_oM_o7, jn_oM_v7, jn_oM_o8, jn_oM_v8, jn_oM_o9, jn_oM_v9, jn_oM_o10, jn_oM_v10, jn_oM_o11, jn_oM_v11, jn_oM_o12, jn_oM_v12, jn_oM_o13, jn_oM_v13, jn_oM_o14, jn_oM_v14, jn_oM_o15, jn_oM_v15, jn_oM_o16, jn_oM_v16, jn_oM_o17, jn_oM_v17, jn_oM_o18, jn_oM_v18, jn_oM_o19, jn_oM_v19, jn_oM_o20, jn_oM_v20, jn_oM_o21, jn_oM_v21, jn_oM_s21, jn_aI_o, jn_aI_v, jn_aI_s, jn_aZ_o, jn_aZ_v, jn_aZ_s, jn_aL_o, jn_aL_v, jn_aL_s, jn_aN_o, jn_aN_v, jn_aN_s, jn_aN_p, jn_aB_o, jn_aB_v, jn_aB_s, jn_aB_p, jn_cp_on, jn_cp_sn, jn_io_n, jn_io_j, jn_cl_n, jn_cl_j, jI_add, nIadd, njIadd, jnIadd, jL_add, nLadd, njLadd, jnLadd, jI_sub, nIsub, njIsub, jnIsub, jL_sub, nLsub, njLsub, jnLsub, jI_mul, nImul, njImul, jnImul, jL_mul, nLmul, njLmul, jnLmul, jI_neg, nIneg, jL_neg, nLneg, jn_kr0, jn_kr1, jn_kr2, jn_kr3, jn_kr4, jn_kr5, jn_kr6, jn_kr7, jn_kr8, jn_kr9, jn_kr10, jn_kr11, jn_kr12, jn_kr13, jn_kr14, jn_kr15, jn_kr16, jn_kr17, jn_kr18, jn_kw0, jn_kw1, jn_kw2, jn_kw3, jn_kw4, jn_kw5, jn_kw7, jn_kw8, jn_kw11, jn_kw12, jn_kw15, jn_kw17, jn_kw18, (hNA _).1, jn_w10_82 (d := d) (hadv) ⟨by omega, by omega⟩, jn_kH_rc]
            exact hP'
      · have hw := jw_ws_way (k := dg - 1) hn m
        obtain ⟨br, hl', tk', lf', le', b1, b2, b3⟩ := rnd m hl tk lf le x5 (by omega) ht
        rw [b3]
        rcases m3 with ⟨rfl, w1⟩ | ⟨rfl, w1, w2⟩
        · rw [b1.mpr w1, if_neg (by decide)]
          exact hQ _ _ _ _
        · cases br with
          | false => exact absurd (b1.mp rfl) w1
          | true =>
            rw [if_pos rfl]
            have hTt : jn_hT (jn_mem sc bs (nets, nC, books, bC, theRow, rL, refusals, draft, cells, a, nI 0, lN T, s, le', tk', hl', lf') σ D) (bs + 16) (bs + 17) hl' := ⟨jn_kr16, jn_kr17, jn_ki17 hsc⟩
            have hadv := jn_Taking_advance_no hTt hn b2 (fun q hq => by have := jw_way_le hw hq; omega) w2
            have hQ' := hQ hl' tk' lf' le'
            clear hQ m2 m4 w1 w2 hst rnd b1 b3
            simp (disch := omega) only [jn_w10_0, jn_w10_0n, jn_w10_1, jn_w10_4, jn_w10_5, jn_w10_6, jn_w10_10, jn_w10_11, jn_w10_12, jn_w10_13, jn_w10_17, jn_w10_19, jn_w10_22, jn_w10_23, jn_w10_26, jn_w10_26n, jn_w10_27, jn_w10_30, jn_w10_33, jn_w10_34, jn_w10_35, jn_w10_36, jn_w10_37, jn_w10_38, jn_w10_39, jn_w10_39n, jn_w10_40, jn_w10_40n, jn_w10_41, jn_w10_41n, jn_w10_42, jn_w10_45, jn_w10_48, jn_w10_52, jn_w10_54, jn_w10_54n, jn_w10_55, jn_w10_58, jn_w10_61, jn_w10_62, jn_w10_63, jn_w10_64, jn_w10_65, jn_w10_66, jn_w10_67, jn_w10_69, jn_w10_72, jn_w10_73, jn_w10_74, jn_w10_74n, jn_w10_75, jn_w10_78, jn_w10_78n, jn_w10_79, jn_w10_85, jn_w10_86, jn_w10_89, jn_w10_92, jn_w10_93, jn_kk_n, jn_kk_i, jn_kk_r, jn_kk_u, jn_kk_l, jn_sm_0, jn_sm_i, jn_sm_l, jn_sm_r, jn_sm_u, jn_zb_0, jn_zb_1, jn_zb_b, jn_bI_0, and_true, true_and, and_self, Bool.and_true, Bool.true_and, decide_eq_true_eq, Option.toList_some, Option.toList_none, List.cons_append, List.nil_append, not_true_eq_false, not_false_eq_true, if_true, if_false, jn_oNet_o0, jn_oNet_v0, jn_oNet_o1, jn_oNet_v1, jn_oNet_o2, jn_oNet_v2, jn_oBook_o0, jn_oBook_v0, jn_oBook_o1, jn_oBook_v1, jn_oTab_o0, jn_oTab_v0, jn_oTak_o0, jn_oTak_v0, jn_oRed_o0, jn_oRed_v0, jn_oRed_o1, jn_oRed_v1, jn_oRed_s1, jn_oRed_o2, jn_oRed_v2, jn_oRed_s2, jn_oRed_o3, jn_oRed_v3, jn_oRed_s3, jn_oRed_o4, jn_oRed_v4, jn_oRed_o5, jn_oRed_v5, jn_oBrk_o0, jn_oBrk_v0, jn_oBrk_o1, jn_oBrk_v1, jn_oBrk_o2, jn_oBrk_v2, jn_oBrk_o3, jn_oBrk_v3, jn_oD_o0, jn_oD_v0, jn_oD_o1, jn_oD_v1, jn_oD_s1, jn_oD_o2, jn_oD_v2, jn_oD_o3, jn_oD_v3, jn_oD_s3, jn_oD_o4, jn_oD_v4, jn_oD_o5, jn_oD_v5, jn_oD_s5, jn_oD_o6, jn_oD_v6, jn_oD_o7, jn_oD_v7, jn_oD_o8, jn_oD_v8, jn_oD_o9, jn_oD_v9, jn_oD_o10, jn_oD_v10, jn_oM_o0, jn_oM_v0, jn_oM_o1, jn_oM_v1, jn_oM_o2, jn_oM_v2, jn_oM_s2, jn_oM_o3, jn_oM_v3, jn_oM_s3, jn_oM_o4, jn_oM_v4, jn_oM_o5, jn_oM_v5, jn_oM_o6, jn_oM_v6, jn_oM_o7, jn_oM_v7, jn_oM_o8, jn_oM_v8, jn_oM_o9, jn_oM_v9, jn_oM_o10, jn_oM_v10, jn_oM_o11, jn_oM_v11, jn_oM_o12, jn_oM_v12, jn_oM_o13, jn_oM_v13, jn_oM_o14, jn_oM_v14, jn_oM_o15, jn_oM_v15, jn_oM_o16, jn_oM_v16, jn_oM_o17, jn_oM_v17, jn_oM_o18, jn_oM_v18, jn_oM_o19, jn_oM_v19, jn_oM_o20, jn_oM_v20, jn_oM_o21, jn_oM_v21, jn_oM_s21, jn_aI_o, jn_aI_v, jn_aI_s, jn_aZ_o, jn_aZ_v, jn_aZ_s, jn_aL_o, jn_aL_v, jn_aL_s, jn_aN_o, jn_aN_v, jn_aN_s, jn_aN_p, jn_aB_o, jn_aB_v, jn_aB_s, jn_aB_p, jn_cp_on, jn_cp_sn, jn_io_n, jn_io_j, jn_cl_n, jn_cl_j, jI_add, nIadd, njIadd, jnIadd, jL_add, nLadd, njLadd, jnLadd, jI_sub, nIsub, njIsub, jnIsub, jL_sub, nLsub, njLsub, jnLsub, jI_mul, nImul, njImul, jnImul, jL_mul, nLmul, njLmul, jnLmul, jI_neg, nIneg, jL_neg, nLneg, jn_kr0, jn_kr1, jn_kr2, jn_kr3, jn_kr4, jn_kr5, jn_kr6, jn_kr7, jn_kr8, jn_kr9, jn_kr10, jn_kr11, jn_kr12, jn_kr13, jn_kr14, jn_kr15, jn_kr16, jn_kr17, jn_kr18, jn_kw0, jn_kw1, jn_kw2, jn_kw3, jn_kw4, jn_kw5, jn_kw7, jn_kw8, jn_kw11, jn_kw12, jn_kw15, jn_kw17, jn_kw18, (hNA _).1, jn_w10_82 (d := d) (hadv) ⟨by omega, by omega⟩, jn_kH_rc]
            rw [jn_w10_15]
            simp (disch := omega) only [jn_w10_0, jn_w10_0n, jn_w10_1, jn_w10_4, jn_w10_5, jn_w10_6, jn_w10_10, jn_w10_11, jn_w10_12, jn_w10_13, jn_w10_17, jn_w10_19, jn_w10_22, jn_w10_23, jn_w10_26, jn_w10_26n, jn_w10_27, jn_w10_30, jn_w10_33, jn_w10_34, jn_w10_35, jn_w10_36, jn_w10_37, jn_w10_38, jn_w10_39, jn_w10_39n, jn_w10_40, jn_w10_40n, jn_w10_41, jn_w10_41n, jn_w10_42, jn_w10_45, jn_w10_48, jn_w10_52, jn_w10_54, jn_w10_54n, jn_w10_55, jn_w10_58, jn_w10_61, jn_w10_62, jn_w10_63, jn_w10_64, jn_w10_65, jn_w10_66, jn_w10_67, jn_w10_69, jn_w10_72, jn_w10_73, jn_w10_74, jn_w10_74n, jn_w10_75, jn_w10_78, jn_w10_78n, jn_w10_79, jn_w10_85, jn_w10_86, jn_w10_89, jn_w10_92, jn_w10_93, jn_kk_n, jn_kk_i, jn_kk_r, jn_kk_u, jn_kk_l, jn_sm_0, jn_sm_i, jn_sm_l, jn_sm_r, jn_sm_u, jn_zb_0, jn_zb_1, jn_zb_b, jn_bI_0, and_true, true_and, and_self, Bool.and_true, Bool.true_and, decide_eq_true_eq, Option.toList_some, Option.toList_none, List.cons_append, List.nil_append, not_true_eq_false, not_false_eq_true, if_true, if_false, jn_oNet_o0, jn_oNet_v0, jn_oNet_o1, jn_oNet_v1, jn_oNet_o2, jn_oNet_v2, jn_oBook_o0, jn_oBook_v0, jn_oBook_o1, jn_oBook_v1, jn_oTab_o0, jn_oTab_v0, jn_oTak_o0, jn_oTak_v0, jn_oRed_o0, jn_oRed_v0, jn_oRed_o1, jn_oRed_v1, jn_oRed_s1, jn_oRed_o2, jn_oRed_v2, jn_oRed_s2, jn_oRed_o3, jn_oRed_v3, jn_oRed_s3, jn_oRed_o4, jn_oRed_v4, jn_oRed_o5, jn_oRed_v5, jn_oBrk_o0, jn_oBrk_v0, jn_oBrk_o1, jn_oBrk_v1, jn_oBrk_o2, jn_oBrk_v2, jn_oBrk_o3, jn_oBrk_v3, jn_oD_o0, jn_oD_v0, jn_oD_o1, jn_oD_v1, jn_oD_s1, jn_oD_o2, jn_oD_v2, jn_oD_o3, jn_oD_v3, jn_oD_s3, jn_oD_o4, jn_oD_v4, jn_oD_o5, jn_oD_v5, jn_oD_s5, jn_oD_o6, jn_oD_v6, jn_oD_o7, jn_oD_v7, jn_oD_o8, jn_oD_v8, jn_oD_o9, jn_oD_v9, jn_oD_o10, jn_oD_v10, jn_oM_o0, jn_oM_v0, jn_oM_o1, jn_oM_v1, jn_oM_o2, jn_oM_v2, jn_oM_s2, jn_oM_o3, jn_oM_v3, jn_oM_s3, jn_oM_o4, jn_oM_v4, jn_oM_o5, jn_oM_v5, jn_oM_o6, jn_oM_v6, jn_oM_o7, jn_oM_v7, jn_oM_o8, jn_oM_v8, jn_oM_o9, jn_oM_v9, jn_oM_o10, jn_oM_v10, jn_oM_o11, jn_oM_v11, jn_oM_o12, jn_oM_v12, jn_oM_o13, jn_oM_v13, jn_oM_o14, jn_oM_v14, jn_oM_o15, jn_oM_v15, jn_oM_o16, jn_oM_v16, jn_oM_o17, jn_oM_v17, jn_oM_o18, jn_oM_v18, jn_oM_o19, jn_oM_v19, jn_oM_o20, jn_oM_v20, jn_oM_o21, jn_oM_v21, jn_oM_s21, jn_aI_o, jn_aI_v, jn_aI_s, jn_aZ_o, jn_aZ_v, jn_aZ_s, jn_aL_o, jn_aL_v, jn_aL_s, jn_aN_o, jn_aN_v, jn_aN_s, jn_aN_p, jn_aB_o, jn_aB_v, jn_aB_s, jn_aB_p, jn_cp_on, jn_cp_sn, jn_io_n, jn_io_j, jn_cl_n, jn_cl_j, jI_add, nIadd, njIadd, jnIadd, jL_add, nLadd, njLadd, jnLadd, jI_sub, nIsub, njIsub, jnIsub, jL_sub, nLsub, njLsub, jnLsub, jI_mul, nImul, njImul, jnImul, jL_mul, nLmul, njLmul, jnLmul, jI_neg, nIneg, jL_neg, nLneg, jIle_nn, jIeq_nn, eq_self]
            split
            · exact hQ'
            · exact hQ'
    have hl' := loop t0 taken left lends none ht0
    have hsub : ((dg : Nat) : Int) - ((1 : Nat) : Int) = ((dg - 1 : Nat) : Int) := by omega
    clear loop hQ m2 m3 m4 rnd
    rw [← jI_nat, ← hsub] at hst
    simp (disch := omega) only [jn_w10_0, jn_w10_0n, jn_w10_1, jn_w10_4, jn_w10_5, jn_w10_6, jn_w10_10, jn_w10_11, jn_w10_12, jn_w10_13, jn_w10_17, jn_w10_19, jn_w10_22, jn_w10_23, jn_w10_26, jn_w10_26n, jn_w10_27, jn_w10_30, jn_w10_33, jn_w10_34, jn_w10_35, jn_w10_36, jn_w10_37, jn_w10_38, jn_w10_39, jn_w10_39n, jn_w10_40, jn_w10_40n, jn_w10_41, jn_w10_41n, jn_w10_42, jn_w10_45, jn_w10_48, jn_w10_52, jn_w10_54, jn_w10_54n, jn_w10_55, jn_w10_58, jn_w10_61, jn_w10_62, jn_w10_63, jn_w10_64, jn_w10_65, jn_w10_66, jn_w10_67, jn_w10_69, jn_w10_72, jn_w10_73, jn_w10_74, jn_w10_74n, jn_w10_75, jn_w10_78, jn_w10_78n, jn_w10_79, jn_w10_85, jn_w10_86, jn_w10_89, jn_w10_92, jn_w10_93, jn_kk_n, jn_kk_i, jn_kk_r, jn_kk_u, jn_kk_l, jn_sm_0, jn_sm_i, jn_sm_l, jn_sm_r, jn_sm_u, jn_zb_0, jn_zb_1, jn_zb_b, jn_bI_0, and_true, true_and, and_self, Bool.and_true, Bool.true_and, decide_eq_true_eq, Option.toList_some, Option.toList_none, List.cons_append, List.nil_append, not_true_eq_false, not_false_eq_true, if_true, if_false, jn_oNet_o0, jn_oNet_v0, jn_oNet_o1, jn_oNet_v1, jn_oNet_o2, jn_oNet_v2, jn_oBook_o0, jn_oBook_v0, jn_oBook_o1, jn_oBook_v1, jn_oTab_o0, jn_oTab_v0, jn_oTak_o0, jn_oTak_v0, jn_oRed_o0, jn_oRed_v0, jn_oRed_o1, jn_oRed_v1, jn_oRed_s1, jn_oRed_o2, jn_oRed_v2, jn_oRed_s2, jn_oRed_o3, jn_oRed_v3, jn_oRed_s3, jn_oRed_o4, jn_oRed_v4, jn_oRed_o5, jn_oRed_v5, jn_oBrk_o0, jn_oBrk_v0, jn_oBrk_o1, jn_oBrk_v1, jn_oBrk_o2, jn_oBrk_v2, jn_oBrk_o3, jn_oBrk_v3, jn_oD_o0, jn_oD_v0, jn_oD_o1, jn_oD_v1, jn_oD_s1, jn_oD_o2, jn_oD_v2, jn_oD_o3, jn_oD_v3, jn_oD_s3, jn_oD_o4, jn_oD_v4, jn_oD_o5, jn_oD_v5, jn_oD_s5, jn_oD_o6, jn_oD_v6, jn_oD_o7, jn_oD_v7, jn_oD_o8, jn_oD_v8, jn_oD_o9, jn_oD_v9, jn_oD_o10, jn_oD_v10, jn_oM_o0, jn_oM_v0, jn_oM_o1, jn_oM_v1, jn_oM_o2, jn_oM_v2, jn_oM_s2, jn_oM_o3, jn_oM_v3, jn_oM_s3, jn_oM_o4, jn_oM_v4, jn_oM_o5, jn_oM_v5, jn_oM_o6, jn_oM_v6, jn_oM_o7, jn_oM_v7, jn_oM_o8, jn_oM_v8, jn_oM_o9, jn_oM_v9, jn_oM_o10, jn_oM_v10, jn_oM_o11, jn_oM_v11, jn_oM_o12, jn_oM_v12, jn_oM_o13, jn_oM_v13, jn_oM_o14, jn_oM_v14, jn_oM_o15, jn_oM_v15, jn_oM_o16, jn_oM_v16, jn_oM_o17, jn_oM_v17, jn_oM_o18, jn_oM_v18, jn_oM_o19, jn_oM_v19, jn_oM_o20, jn_oM_v20, jn_oM_o21, jn_oM_v21, jn_oM_s21, jn_aI_o, jn_aI_v, jn_aI_s, jn_aZ_o, jn_aZ_v, jn_aZ_s, jn_aL_o, jn_aL_v, jn_aL_s, jn_aN_o, jn_aN_v, jn_aN_s, jn_aN_p, jn_aB_o, jn_aB_v, jn_aB_s, jn_aB_p, jn_cp_on, jn_cp_sn, jn_io_n, jn_io_j, jn_cl_n, jn_cl_j, jI_add, nIadd, njIadd, jnIadd, jL_add, nLadd, njLadd, jnLadd, jI_sub, nIsub, njIsub, jnIsub, jL_sub, nLsub, njLsub, jnLsub, jI_mul, nImul, njImul, jnImul, jL_mul, nLmul, njLmul, jnLmul, jI_neg, nIneg, jL_neg, nLneg, jn_kr0, jn_kr1, jn_kr2, jn_kr3, jn_kr4, jn_kr5, jn_kr6, jn_kr7, jn_kr8, jn_kr9, jn_kr10, jn_kr11, jn_kr12, jn_kr13, jn_kr14, jn_kr15, jn_kr16, jn_kr17, jn_kr18, jn_kw0, jn_kw1, jn_kw2, jn_kw3, jn_kw4, jn_kw5, jn_kw7, jn_kw8, jn_kw11, jn_kw12, jn_kw15, jn_kw17, jn_kw18, jn_w10_7 (d := d) (hst) ⟨by omega, by omega⟩, jn_kH_rc]
    exact hl')
  obtain ⟨w, M', ⟨rfl, hl, tk, lf, le, rfl⟩, hV⟩ := main
  exact ⟨r, hl, tk, lf, le, m4, hV⟩
/-- a good book of rank 1 or more has one like it with a good at post 0 -/
theorem jw_gon {R : Nat → Nat → Nat} {n dg : Nat} (h : jw_H R n 0) (hdg : 1 ≤ dg) : (∃ H, jw_way n (dg - 1) H ∧ jw_hold R n (fun q => (jw_p0 H q : Int)) 1) ↔ ∃ H, jw_way n dg H ∧ jw_hold R n (fun q => (H q : Int)) 1 := by
  have hn := h.1.1
  constructor
  · rintro ⟨H, hH, hh⟩
    refine ⟨jw_p0 H, ⟨fun q h1 h2 => ?_, ?_⟩, hh⟩
    · unfold jw_p0
      rw [if_neg (by omega)]
      exact hH.1 q h1 h2
    · have e1 := jw_su_split (G := jw_p0 H) (p := 1) (by omega)
      have e2 := jw_su_split (G := H) (p := 1) (by omega)
      have e3 : jw_tl (jw_p0 H) 1 = jw_tl H 1 := jw_su_cg 6 (fun q _ => by
        unfold jw_p0
        by_cases c : 1 ≤ q
        · rw [if_pos c, if_pos c, if_neg (by omega)]
        · rw [if_neg c, if_neg c])
      have e4 : jn_su (jw_p0 H) 1 = H 0 + 1 := by simp [jn_su, jw_p0]
      have e5 : jn_su H 1 = H 0 := by simp [jn_su]
      have := hH.2
      omega
  · rintro ⟨G, hG, hh⟩
    -- one good taken at post 0
    have hw0 : jw_way n 1 (jm_w0 1) := jw_w0_way hn.1
    have hwon : jw_wn R n (fun q => (G q : Int) - (jm_w0 1 q : Int)) := hh _ hw0
    obtain ⟨g, s, g1, g2, g3, s1, s2⟩ := jw_won_good h hwon (fun q h1 h2 => by
      rw [hG.1 q h1 h2, hw0.1 q h1 h2]
      rfl)
    have hgN : ∀ q, q < 6 → ((g q).toNat : Int) = g q := fun q hq => by have := g1 q hq; omega
    refine ⟨fun q => (g q).toNat, ⟨fun q h1 h2 => by
      show (g q).toNat = 0
      rw [g2 q h1 h2]
      rfl, ?_⟩, fun K hK => ?_⟩
    · have e1 : ((jn_su (fun q => (g q).toNat) 6 : Nat) : Int) = jn_sz1 g 6 := by
        rw [jw_cast]
        exact jw_cg 6 hgN
      have e2 : jn_sz1 (fun q => (G q : Int) - (jm_w0 1 q : Int)) 6 = (dg : Int) - 1 := by
        rw [jw_cg 6 (g := fun q => (G q : Int) + -(jm_w0 1 q : Int)) (fun q _ => by omega), jw_add, jw_neg, ← jw_cast, ← jw_cast, hG.2, hw0.2]
        omega
      rw [e2] at g3
      omega
    · have hK2 : jw_wn R n (fun q => (G q : Int) - (K q : Int)) := hh K hK
      refine jw_wn_shift h s1 (fun q hq => ?_) hK2
      have e1 := s2 q hq
      have e2 := hgN q hq
      unfold jw_p0
      dsimp only at e1 ⊢
      by_cases c : q = 0
      · subst c
        rw [if_pos rfl]
        rw [show jm_w0 1 0 = 1 from rfl] at e1
        push_cast
        omega
      · rw [if_neg c]
        have e3 : jm_w0 1 q = 0 := by
          unfold jm_w0
          rw [if_neg c]
        rw [e3] at e1
        omega
/-- one good at each post is enough -/
theorem jw_gon_n {R : Nat → Nat → Nat} {n : Nat} (h : jw_H R n 0) : ∃ H, jw_way n n H ∧ jw_hold R n (fun q => (H q : Int)) 1 := by
  have hn := h.1.1
  refine ⟨fun q => if q < n then 1 else 0, ⟨fun q h1 _ => if_neg (by omega), ?_⟩, fun K hK => ?_⟩
  · rw [jw_su6 hn.2 (fun i hi => if_neg (by omega)), jw_su_cg n (g := fun _ => 1) (fun i hi => if_pos hi), jw_su_c]
    omega
  · refine jw_good h (fun q hq => ?_)
    have := jw_way_le hK (show q < 6 by omega)
    dsimp only
    rw [if_pos hq]
    omega
