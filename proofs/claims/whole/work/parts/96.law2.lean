/-! The law: its beginning, its room. -/
theorem jn_I_0 {sc : Nat × Nat × (Nat → Int32)} {bs : Nat} : jn_I sc bs 0 (jn_mem sc bs ((fun _ => none), nI 0, (fun _ => none), nI 0, (fun _ => 0), jI (-1), (fun _ => 0), (fun _ => 0), (fun _ => 0), bs + 9, nI 0, lN 1, (fun _ => 0), (fun _ => 0), (fun _ => 0), (fun _ => 0), (fun _ => 0)) (nI 0, nI 0, jI (-1), (fun _ => 0), (fun _ => 0), (fun _ => 0), (fun _ => 0), (fun _ => 0), (fun _ => 0), (fun _ => 0), (fun _ => 0), (fun _ => 0), (fun _ => 0), (fun _ => 0), (fun _ => 0), (fun _ => 0), (fun _ => 0), (fun _ => 0), (fun _ => 0), (fun _ => 0), (fun _ => 0), (fun _ => 0)) []) :=
  ⟨(fun _ => none), (fun _ => none), (fun _ => 0), jI (-1), (fun _ => 0), (fun _ => 0), (fun _ => 0), bs + 9, nI 0, lN 1, (fun _ => 0), (fun _ => 0), (fun _ => 0), (fun _ => 0), (fun _ => 0), jI (-1), (fun _ => 0), (fun _ => 0), (fun _ => 0), (fun _ => 0), (fun _ => 0), (fun _ => 0), (fun _ => 0), (fun _ => 0), (fun _ => 0), (fun _ => 0), (fun _ => 0), (fun _ => 0), (fun _ => 0), (fun _ => 0), (fun _ => 0), (fun _ => 0), (fun _ => 0), (fun _ => 0), (fun _ => 0), [], 0, 0, (fun _ => 0), (fun _ _ _ => 0), (fun _ => 0), (fun _ _ => 0), (fun _ => 0), (fun _ _ => 0), (fun _ => 0), (fun _ _ => 0), rfl, ⟨by omega, fun t ht => absurd ht (Nat.not_lt_zero t), fun _ _ _ _ _ => rfl, fun _ _ _ _ _ => rfl, fun t _ ht => absurd ht (Nat.not_lt_zero t)⟩, ⟨by omega, fun t ht => absurd ht (Nat.not_lt_zero t), fun t _ ht => absurd ht (Nat.not_lt_zero t)⟩, Or.inl ⟨rfl, rfl⟩, fun _ _ => rfl, ⟨Nat.le_refl _, Nat.le_refl _⟩⟩
theorem jn_sl_ap (N : Nat → Nat) : ∀ l1 l2 : List jn_Ce, jn_sl N (l1 ++ l2) = jn_sl N l1 + jn_sl N l2
  | [], l2 => by simp [jn_sl]
  | x :: l1, l2 => by
    have ih := jn_sl_ap N l1 l2
    simp only [List.cons_append, jn_sl, ih]
    omega
theorem jn_sz_I {N : Nat → Nat} {n : Nat} {f : Nat → Int32} : jn_sz N (jn_aI n f) = n := rfl
theorem jn_sz_Z {N : Nat → Nat} {n : Nat} {f : Nat → Int32} : jn_sz N (jn_aZ n f) = n := rfl
theorem jn_sz_L {N : Nat → Nat} {n : Nat} {f : Nat → Int64} : jn_sz N (jn_aL n f) = n := rfl
theorem jn_sz_N {N : Nat → Nat} {n : Nat} {f : Nat → Option Nat} : jn_sz N (jn_aN n f) = n := rfl
theorem jn_sz_B {N : Nat → Nat} {n : Nat} {f : Nat → Option Nat} : jn_sz N (jn_aB n f) = n := rfl
theorem jn_sz_oD {a : Nat} {x y z : Int32} : jn_sz jn_N (jn_oD a x y z) = 11 := rfl
theorem jn_sz_oM {a : Nat} {x y z : Int32} : jn_sz jn_N (jn_oM a x y z) = 22 := rfl
theorem jn_sz_oNet {a : Nat} {x y : Int32} : jn_sz jn_N (jn_oNet x y a) = 3 := rfl
theorem jn_sz_oTab {a : Nat} : jn_sz jn_N (jn_oTab a) = 1 := rfl
theorem jn_sz_oTak {a : Nat} : jn_sz jn_N (jn_oTak a) = 1 := rfl
theorem jn_sz_oRed {t n sh le : Nat} {x : Int32} {y : Int64} : jn_sz jn_N (jn_oRed t n x y sh le) = 6 := rfl
theorem jn_sz_oBrk {r t h l : Nat} : jn_sz jn_N (jn_oBrk r t h l) = 4 := rfl
theorem jn_km_sl {bs : Nat} {κ : jn_KT} : jn_sl jn_N (jn_km bs κ) ≤ 10000 := by
  unfold jn_km
  simp only [jn_sl, jn_sz_I, jn_sz_Z, jn_sz_L, jn_sz_N, jn_sz_B, jn_sz_oD, jn_sz_oM, jn_sz_oNet, jn_sz_oTab, jn_sz_oTak, jn_sz_oRed, jn_sz_oBrk]
  omega
theorem jn_sm_sl {bs : Nat} {σ : jn_ST} : jn_sl jn_N (jn_sm1 bs σ) ≤ 10000 := by
  unfold jn_sm1
  simp only [jn_sl, jn_sz_I, jn_sz_Z, jn_sz_L, jn_sz_N, jn_sz_B, jn_sz_oD, jn_sz_oM, jn_sz_oNet, jn_sz_oTab, jn_sz_oTak, jn_sz_oRed, jn_sz_oBrk]
  omega
theorem jn_I_room {sc : Nat × Nat × (Nat → Int32)} {bs c : Nat} {M : jn_M} (h : jn_I sc bs c M) (hc : c ≤ 512) : M.2.2.length ≤ 600000 ∧ jn_sl jn_N M.2.2 ≤ 7302249 := by
  obtain ⟨nets, books, theRow, rL, refusals, draft, cells, rnet, rbase, rtrees, shares, lends, taken, held, left, rowSize, posts, road, netOf, number, refused, used, now, lent, share, cofactor, trees, isKnown, first, firstLent, goods, base, kept, row, moved, D, N, K, nn, RR, jp, nf, bt, BB, jq, bg, rfl, hNI, hBI, hWI, hFI, hLI⟩ := h
  have h1 := hLI.1
  have h2 := hLI.2
  clear hNI hBI hWI hFI hLI
  refine ⟨?_, ?_⟩
  · show (jn_km bs _ ++ (jn_sm1 bs _ ++ D)).length ≤ _
    rw [List.length_append, List.length_append, jn_km_len, jn_sm1_len]
    omega
  · show jn_sl jn_N (jn_km bs _ ++ (jn_sm1 bs _ ++ D)) ≤ _
    rw [jn_sl_ap, jn_sl_ap]
    refine Nat.le_trans (Nat.add_le_add jn_km_sl (Nat.add_le_add jn_sm_sl h2)) ?_
    omega
theorem jn_law : jn_Law := by
  intro b L xs bs hb hL
  have hfin : ∀ (c : Nat) (M : jn_M), c ≤ 512 → jn_I (b, L, xs) bs c M → (fun (v : Option Value) (M : jn_M) => v = some (.int 1) ∧ M.2.2.length ≤ 600000 ∧ jn_sl jn_N M.2.2 ≤ 7302249) (some (.int (nI 1))) M := fun c M hc h => ⟨rfl, jn_I_room h hc⟩
  have L18 := jn_lwl (d := 12) (Q := fun (v : Option Value) (M : jn_M) => v = some (.int 1) ∧ M.2.2.length ≤ 600000 ∧ jn_sl jn_N M.2.2 ≤ 7302249) hb (Nat.le_refl 12) hL hfin (L / 5) 0 (by omega) _ jn_I_0
  clear hfin
  have hD : jn_V 45 6 [.ref bs] (((b, L, xs), bs, [.inr (6, [.null, .int 0, .null, .int 0, .null, .int 0, .null, .null, .null, .null, .null])]) : jn_M) none (((b, L, xs), bs, jn_km bs ((fun _ => none), nI 0, (fun _ => none), nI 0, (fun _ => 0), jI (-1), (fun _ => 0), (fun _ => 0), (fun _ => 0), bs + 9, nI 0, lN 1, (fun _ => 0), (fun _ => 0), (fun _ => 0), (fun _ => 0), (fun _ => 0))) : jn_M) := jn_D_init
  have hM : jn_V 93 2 [.ref (bs + 19)] (((b, L, xs), bs, jn_km bs ((fun _ => none), nI 0, (fun _ => none), nI 0, (fun _ => 0), jI (-1), (fun _ => 0), (fun _ => 0), (fun _ => 0), bs + 9, nI 0, lN 1, (fun _ => 0), (fun _ => 0), (fun _ => 0), (fun _ => 0), (fun _ => 0)) ++ [.inr (7, [.null, .null, .int 0, .int 0, .null, .null, .null, .null, .null, .null, .null, .null, .null, .null, .null, .null, .null, .null, .null, .null, .null, .int 0])]) : jn_M) none (jn_mem (b, L, xs) bs ((fun _ => none), nI 0, (fun _ => none), nI 0, (fun _ => 0), jI (-1), (fun _ => 0), (fun _ => 0), (fun _ => 0), bs + 9, nI 0, lN 1, (fun _ => 0), (fun _ => 0), (fun _ => 0), (fun _ => 0), (fun _ => 0)) (nI 0, nI 0, jI (-1), (fun _ => 0), (fun _ => 0), (fun _ => 0), (fun _ => 0), (fun _ => 0), (fun _ => 0), (fun _ => 0), (fun _ => 0), (fun _ => 0), (fun _ => 0), (fun _ => 0), (fun _ => 0), (fun _ => 0), (fun _ => 0), (fun _ => 0), (fun _ => 0), (fun _ => 0), (fun _ => 0), (fun _ => 0)) []) := by
    have h := jn_M_init (sc := (b, L, xs)) (b0 := bs) (P := jn_km bs ((fun _ => none), nI 0, (fun _ => none), nI 0, (fun _ => 0), jI (-1), (fun _ => 0), (fun _ => 0), (fun _ => 0), bs + 9, nI 0, lN 1, (fun _ => 0), (fun _ => 0), (fun _ => 0), (fun _ => 0), (fun _ => 0)))
    simp only [jn_km_len, Nat.reduceAdd] at h
    exact h
  have hnx : jn_nx (((b, L, xs), bs, jn_km bs ((fun _ => none), nI 0, (fun _ => none), nI 0, (fun _ => 0), jI (-1), (fun _ => 0), (fun _ => 0), (fun _ => 0), bs + 9, nI 0, lN 1, (fun _ => 0), (fun _ => 0), (fun _ => 0), (fun _ => 0), (fun _ => 0))) : jn_M) = bs + 19 := rfl
  have had : ∀ x, jn_ad (((b, L, xs), bs, jn_km bs ((fun _ => none), nI 0, (fun _ => none), nI 0, (fun _ => 0), jI (-1), (fun _ => 0), (fun _ => 0), (fun _ => 0), bs + 9, nI 0, lN 1, (fun _ => 0), (fun _ => 0), (fun _ => 0), (fun _ => 0), (fun _ => 0))) : jn_M) x = ((b, L, xs), bs, jn_km bs ((fun _ => none), nI 0, (fun _ => none), nI 0, (fun _ => 0), jI (-1), (fun _ => 0), (fun _ => 0), (fun _ => 0), bs + 9, nI 0, lN 1, (fun _ => 0), (fun _ => 0), (fun _ => 0), (fun _ => 0), (fun _ => 0)) ++ [x]) := fun _ => rfl
  generalize jn_mem (b, L, xs) bs ((fun _ => none), nI 0, (fun _ => none), nI 0, (fun _ => 0), jI (-1), (fun _ => 0), (fun _ => 0), (fun _ => 0), bs + 9, nI 0, lN 1, (fun _ => 0), (fun _ => 0), (fun _ => 0), (fun _ => 0), (fun _ => 0)) (nI 0, nI 0, jI (-1), (fun _ => 0), (fun _ => 0), (fun _ => 0), (fun _ => 0), (fun _ => 0), (fun _ => 0), (fun _ => 0), (fun _ => 0), (fun _ => 0), (fun _ => 0), (fun _ => 0), (fun _ => 0), (fun _ => 0), (fun _ => 0), (fun _ => 0), (fun _ => 0), (fun _ => 0), (fun _ => 0), (fun _ => 0)) [] = Mz at *
  generalize jn_km bs ((fun _ => none), nI 0, (fun _ => none), nI 0, (fun _ => 0), jI (-1), (fun _ => 0), (fun _ => 0), (fun _ => 0), bs + 9, nI 0, lN 1, (fun _ => 0), (fun _ => 0), (fun _ => 0), (fun _ => 0), (fun _ => 0)) = l0 at *
  have hW : jn_W 12 171 0 (jn_en 4 [.ref b]) [] (((b, L, xs), bs, []) : jn_M) (fun (v : Option Value) (M : jn_M) => v = some (.int 1) ∧ M.2.2.length ≤ 600000 ∧ jn_sl jn_N M.2.2 ≤ 7302249) := by
    rw [show jn_en 4 [.ref b] = [some (.ref b), none, none, none] from rfl]
    have n0 : jn_nx (((b, L, xs), bs, []) : jn_M) = bs := rfl
    have a0 : ∀ x, jn_ad (((b, L, xs), bs, []) : jn_M) x = ((b, L, xs), bs, [x]) := fun _ => rfl
    simp (disch := omega) only [jn_w171_0, jn_w171_3, jn_w171_3r, jn_w171_7, jn_w171_7n, jn_w171_8, jn_w171_11, jn_w171_11r, jn_w171_15, jn_w171_15n, jn_w171_16, jn_w171_17, n0, a0, hnx, had, jn_w171_4 (d := 12) hD ⟨by omega, by omega⟩, jn_w171_12 (d := 12) hM ⟨by omega, by omega⟩, jn_rc1, jn_kk_n, jn_kk_i, jn_kk_r, jn_kk_u, jn_kk_l, jn_sm_0, jn_sm_i, jn_sm_l, jn_sm_r, jn_sm_u, jn_zb_0, jn_zb_1, jn_zb_b, jn_bI_0, and_true, true_and, and_self, Bool.and_true, Bool.true_and, decide_eq_true_eq, Option.toList_some, Option.toList_none, List.cons_append, List.nil_append, not_true_eq_false, not_false_eq_true, if_true, if_false]
    exact L18
  obtain ⟨n, v, M', h1, h2, h3, h4⟩ := hW
  subst h2
  exact ⟨n, M', h1, h3, h4⟩
