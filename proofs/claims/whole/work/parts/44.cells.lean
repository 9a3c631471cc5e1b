/-! What the class's determinant computes. -/
theorem jw_div {a b : Int} (ha : -9223372036854775808 ≤ a ∧ a < 9223372036854775808) (hab : -9223372036854775808 ≤ a * b ∧ a * b < 9223372036854775808) (h0 : a ≠ 0) : jL (a * b) / jL a = jL b := by
  have h := Int64.ofInt_tdiv (a := a * b) (b := a) hab.1 (by show a * b ≤ 9223372036854775807; omega) ha.1 (by show a ≤ 9223372036854775807; omega)
  show jL (a * b) / jL a = _
  rw [show jL (a * b) / jL a = jL ((a * b).tdiv a) from h.symm, Int.mul_tdiv_cancel_left b h0]
theorem jw_cc_e {step ln : Nat} {bf : Int64} {c : Nat → Int64} (hl : step < ln) : ∀ k, step + 1 + k ≤ 6 → ∀ q, jm_cc step ln bf c k q = if ln * 6 + (step + 1) ≤ q ∧ q < ln * 6 + (step + 1 + k) then (c q * c (step * 6 + step) - c (ln * 6 + step) * c (step * 6 + (q - ln * 6))) / bf else c q
  | 0, _, q => by
    rw [if_neg (by omega)]
    rfl
  | k + 1, hk, q => by
    have ih := jw_cc_e (bf := bf) (c := c) hl k (by omega)
    unfold jm_cc vp_updL
    by_cases e : q = ln * 6 + (step + 1 + k)
    · subst e
      rw [if_pos rfl, if_pos (by omega), ih, if_neg (by omega), ih, if_neg (by omega), ih, if_neg (by omega), ih, if_neg (by omega), Nat.add_sub_cancel_left]
    · rw [if_neg e, ih]
      by_cases c1 : ln * 6 + (step + 1) ≤ q ∧ q < ln * 6 + (step + 1 + k)
      · rw [if_pos c1, if_pos (by omega)]
      · rw [if_neg c1, if_neg (by omega)]
theorem jw_cl_e {step size : Nat} {bf : Int64} {c : Nat → Int64} (hz : size ≤ 6) : ∀ m, step + 1 + m ≤ size → ∀ i l, l < 6 → jm_cl step size bf c m (i * 6 + l) = if step < i ∧ i < step + 1 + m ∧ step < l ∧ l < size then (c (i * 6 + l) * c (step * 6 + step) - c (i * 6 + step) * c (step * 6 + l)) / bf else c (i * 6 + l)
  | 0, _, i, l, _ => by
    rw [if_neg (by omega)]
    rfl
  | m + 1, hm, i, l, hl => by
    have ih := jw_cl_e (step := step) (bf := bf) (c := c) hz m (by omega)
    unfold jm_cl
    rw [jw_cc_e (by omega) _ (by omega)]
    by_cases e : i = step + 1 + m
    · subst e
      by_cases c1 : step < l ∧ l < size
      · rw [if_pos (by omega), if_pos (by omega), ih _ _ hl, if_neg (by omega), ih step step (by omega), if_neg (by omega), ih (step + 1 + m) step (by omega), if_neg (by omega), Nat.add_sub_cancel_left, ih step l hl, if_neg (by omega)]
      · rw [if_neg (by omega), if_neg (by omega), ih _ _ hl, if_neg (by omega)]
    · rw [if_neg (by omega), ih _ _ hl]
      by_cases c1 : step < i ∧ i < step + 1 + m ∧ step < l ∧ l < size
      · rw [if_pos c1, if_pos (by omega)]
      · rw [if_neg c1, if_neg (by omega)]
theorem jw_sw_e {x y : Nat} {c : Nat → Int64} (hxy : x ≠ y) : ∀ k, k ≤ 6 → ∀ i l, l < 6 → jm_sw x y c k (i * 6 + l) = if k ≤ l then c (i * 6 + l) else if i = x then c (y * 6 + l) else if i = y then c (x * 6 + l) else c (i * 6 + l)
  | 0, _, i, l, _ => by
    rw [if_pos (by omega)]
    rfl
  | k + 1, hk, i, l, hl => by
    have ih := jw_sw_e (c := c) hxy k (by omega)
    unfold jm_sw
    have e1 := ih x k (by omega)
    have e2 := ih y k (by omega)
    rw [if_pos (Nat.le_refl k)] at e1 e2
    rw [e1, e2]
    unfold vp_updL
    by_cases a1 : i = y ∧ l = k
    · obtain ⟨a1, a2⟩ := a1
      subst a1 a2
      rw [if_pos rfl, if_neg (by omega), if_neg (Ne.symm hxy), if_pos rfl]
    · rw [if_neg (by omega)]
      by_cases a2 : i = x ∧ l = k
      · obtain ⟨a2, a3⟩ := a2
        subst a2 a3
        rw [if_pos rfl, if_neg (by omega), if_pos rfl]
      · rw [if_neg (by omega), ih i l hl]
        by_cases c1 : k ≤ l
        · rw [if_pos c1]
          by_cases c2 : k + 1 ≤ l
          · rw [if_pos c2]
          · rw [if_neg c2, if_neg (by omega), if_neg (by omega)]
        · rw [if_neg c1, if_neg (show ¬ k + 1 ≤ l by omega)]
theorem jw_pv_none {c : Nat → Int64} {st : Nat} : ∀ (m i : Nat), jm_pv c st i m = none → ∀ j, i ≤ j → j < i + m → c (j * 6 + st) = lN 0
  | 0, i, _, j, h1, h2 => by omega
  | m + 1, i, h, j, h1, h2 => by
    unfold jm_pv at h
    split at h
    · rename_i h0
      by_cases e : j = i
      · rw [e]
        exact h0
      · exact jw_pv_none m (i + 1) h j (by omega) (by omega)
    · cases h
theorem jw_pv_some {c : Nat → Int64} {st p : Nat} : ∀ (m i : Nat), jm_pv c st i m = some p → c (p * 6 + st) ≠ lN 0
  | 0, i, h => by simp [jm_pv] at h
  | m + 1, i, h => by
    unfold jm_pv at h
    split at h
    · exact jw_pv_some m (i + 1) h
    · rename_i h0
      cases h
      exact h0
theorem jw_abL {x : Int} (hx : -9223372036854775808 < x ∧ x < 9223372036854775808) : jm_abL (jL x) = lN x.natAbs := by
  unfold jm_abL
  by_cases h : 0 ≤ x
  · rw [if_pos (by rw [jLle_nj (by omega) (by omega) (by omega)]; omega), ← jL_nat]
    congr 1
    omega
  · rw [if_neg (by rw [jLle_nj (by omega) (by omega) (by omega)]; omega), jL_neg, ← jL_nat]
    congr 1
    omega
theorem jw_w_succ (ρ : Nat → Nat → Int) (k : Nat) : jw_L jw_w0 ((List.range (k + 1)).map ρ) = jw_W (jw_L jw_w0 ((List.range k).map ρ)) (ρ k) := by
  unfold jw_L
  rw [List.range_succ, List.map_append, List.foldl_append]
  rfl
theorem jw_w0_abs (s : Nat) : (jw_w0 s).natAbs ≤ 1 := by
  unfold jw_w0
  split <;> decide
theorem jw_w_abs {ρ : Nat → Nat → Int} {k : Nat} (h : ∀ i, i < k → jw_l1 (ρ i)) (s : Nat) : (jw_L jw_w0 ((List.range k).map ρ) s).natAbs ≤ 64 ^ k := by
  have := jw_Labs (B := 1) ((List.range k).map ρ) jw_w0 (fun x hx => by
    obtain ⟨i, hi, rfl⟩ := List.mem_map.mp hx
    exact h i (List.mem_range.mp hi)) jw_w0_abs s
  rw [List.length_map, List.length_range, Nat.one_mul] at this
  exact this
theorem jw_p64 {k : Nat} (h : k ≤ 6) : 64 ^ k ≤ 68719476736 := by
  have : 64 ^ k ≤ 64 ^ 6 := Nat.pow_le_pow_right (by omega) h
  have e : 64 ^ 6 = 68719476736 := by decide
  omega
theorem jw_swp : ∀ m, m < 7 → ∀ p, p < m → ∀ k, k < m → ((List.range m).map (fun i => if i = p then k else if i = k then p else i)).Perm (List.range m) := by decide +kernel
theorem jw_pow0 {d : Int} (h : d ≠ 0) : ∀ n : Nat, d ^ n ≠ 0
  | 0 => by simp
  | n + 1 => by
    rw [Int.pow_succ]
    exact Int.mul_ne_zero (jw_pow0 h n) h
theorem jw_dl_e {C m : Nat} (hC : C < 64) (hm : jm_pc C = m) (hm6 : m ≤ 6) : ∀ (t k : Nat) (ρ : Nat → Nat → Int) (c : Nat → Int64) (bf : Int64), k + 1 + t = m → (∀ i, i < m → jw_sp C (ρ i) ∧ jw_l1 (ρ i)) → jw_E C (jw_S C k) (jw_L jw_w0 ((List.range k).map ρ)) → jw_L jw_w0 ((List.range k).map ρ) (jw_S C k) ≠ 0 → bf = jL (jw_L jw_w0 ((List.range k).map ρ) (jw_S C k)) → (∀ i l, k ≤ i → i < m → k ≤ l → l < m → c (i * 6 + l) = jL (jw_W (jw_L jw_w0 ((List.range k).map ρ)) (ρ i) (jw_S C k + 2 ^ jw_c C l))) → (jm_dl m t k c bf).2 = lN (jw_L jw_w0 ((List.range m).map ρ) C).natAbs
  | 0, k, ρ, c, bf, hk, hρ, _, _, _, hc => by
    obtain rfl : m = k + 1 := by omega
    unfold jm_dl
    have h1 := (jw_c1 C hC k (by omega)).resolve_left (fun h => h (by omega))
    rw [if_neg (by omega)]
    show jm_abL (c ((k + 1 - 1) * 6 + (k + 1 - 1))) = _
    rw [Nat.add_sub_cancel, hc k k (Nat.le_refl k) (by omega) (Nat.le_refl k) (by omega), h1.2.2.2, ← hm, jw_c3 C hC, hm, jw_w_succ]
    have hb := jw_w_abs (ρ := ρ) (k := k + 1) (fun i hi => (hρ i hi).2) C
    have := jw_p64 hm6
    rw [jw_w_succ] at hb
    exact jw_abL (by omega)
  | t + 1, k, ρ, c, bf, hk, hρ, hE, hd, hbf, hc => by
    have hk1 := (jw_c1 C hC k (by omega)).resolve_left (fun h => h (by omega))
    have hk6 := (jw_c6 C hC k (by omega)).resolve_left (fun h => h (by omega))
    have hwa : ∀ s, (jw_L jw_w0 ((List.range k).map ρ) s).natAbs ≤ 64 ^ k := jw_w_abs (fun i hi => (hρ i (by omega)).2)
    have hp4 : 64 ^ k ≤ 64 ^ 4 := Nat.pow_le_pow_right (by omega) (by omega)
    have e4 : 64 ^ 4 = 16777216 := by decide
    have hWa : ∀ x, jw_l1 x → ∀ s, (jw_W (jw_L jw_w0 ((List.range k).map ρ)) x s).natAbs ≤ 1073741824 := fun x hx s => by
      have := jw_Wabs hwa hx s
      omega
    generalize hw : jw_L jw_w0 ((List.range k).map ρ) = w at hE hd hbf hc hwa hWa
    unfold jm_dl
    split
    · -- no pivot
      rename_i hpv
      have h0 : ∀ i, k ≤ i → i < m → jw_W w (ρ i) (jw_S C k + 2 ^ jw_c C k) = 0 := by
        intro i h1 h2
        have h3 := jw_pv_none _ _ hpv i h1 (by omega)
        rw [hc i k h1 h2 (Nat.le_refl k) (by omega)] at h3
        have := hWa (ρ i) (hρ i h2).2 (jw_S C k + 2 ^ jw_c C k)
        rw [jLeq_jn (by omega) (by omega) (by omega)] at h3
        exact h3
      have hr : jw_L jw_w0 ((List.range m).map ρ) C = jw_L w ((List.range (m - k)).map (fun i => ρ (k + i))) C := by
        rw [← hw]
        have e : List.range m = List.range k ++ (List.range (m - k)).map (fun i => k + i) := by
          have := List.range_add (n := k) (m := m - k)
          rw [show k + (m - k) = m by omega] at this
          exact this
        rw [e, List.map_append, List.map_map]
        unfold jw_L
        rw [List.foldl_append]
        rfl
      have hz1 := jw_Z1 (C := C) (S := jw_S C k) (w := w) (d := w (jw_S C k)) ((List.range (m - k)).map (fun i => ρ (k + i))) w (fun x hx => by
        obtain ⟨i, hi, rfl⟩ := List.mem_map.mp hx
        exact (hρ _ (by have := List.mem_range.mp hi; omega)).1) hE
      have hz2 := jw_Z2 (T := jw_S C (k + 1)) hk6.2.2.2 (((List.range (m - k)).map (fun i => ρ (k + i))).map (jw_b C (jw_S C k) w)) w k (fun u hu j hj hb => by
        obtain ⟨x, hx, rfl⟩ := List.mem_map.mp hu
        obtain ⟨i, hi, rfl⟩ := List.mem_map.mp hx
        have hi' := List.mem_range.mp hi
        rw [← hk1.2.2.2] at hb
        have h9 := (jw_bit_add (jw_S C k) (jw_lt64 hk1.1 hk1.2.2.1) (jw_c C k) hk1.1 j hj).resolve_left (fun h => h hk1.2.2.1)
        by_cases e : j = jw_c C k
        · rw [e]
          unfold jw_b
          rw [if_pos ⟨hk1.2.1, hk6.1⟩]
          exact h0 (k + i) (by omega) (by omega)
        · rw [if_neg e] at h9
          exact jw_b_S j hj (by omega)) (fun s hs h1 h2 => by
        have := (jw_sub3 _ hk6.2.2.2 s hs).resolve_left (fun h => h h1)
        rw [hk6.2.1] at this
        omega) C hC hk6.2.2.1 (by rw [List.length_map, List.length_map, List.length_range]; omega)
      rw [hz1] at hz2
      have hz3 : jw_L w ((List.range (m - k)).map (fun i => ρ (k + i))) C = 0 := by
        rcases Int.mul_eq_zero.mp hz2 with h9 | h9
        · exact absurd h9 (jw_pow0 hd _)
        · exact h9
      rw [hr, hz3]
      rfl
    · rename_i p hpv
      obtain ⟨hp1, hp2⟩ := jm_pv_lt hpv
      have hp0 := jw_pv_some _ _ hpv
      -- the rows behind the exchange
      have hc1 : ∀ i l, k ≤ i → i < m → k ≤ l → l < m → (if p = k then c else jm_sw p k c 6) (i * 6 + l) = jL (jw_W w ((fun i => if i = p then ρ k else if i = k then ρ p else ρ i) i) (jw_S C k + 2 ^ jw_c C l)) := by
        intro i l h1 h2 h3 h4
        by_cases e : p = k
        · rw [if_pos e, hc i l h1 h2 h3 h4]
          subst e
          dsimp only
          by_cases e2 : i = p
          · subst e2
            rw [if_pos rfl]
          · rw [if_neg e2, if_neg e2]
        · rw [if_neg e, jw_sw_e e 6 (Nat.le_refl 6) i l (by omega), if_neg (by omega)]
          dsimp only
          by_cases e2 : i = p
          · rw [if_pos e2, if_pos e2, hc k l (Nat.le_refl k) (by omega) h3 h4]
          · rw [if_neg e2, if_neg e2]
            by_cases e3 : i = k
            · rw [if_pos e3, if_pos e3, hc p l hp1 (by omega) h3 h4]
            · rw [if_neg e3, if_neg e3, hc i l h1 h2 h3 h4]
      have hρ' : ∀ i, i < m → jw_sp C ((fun i => if i = p then ρ k else if i = k then ρ p else ρ i) i) ∧ jw_l1 ((fun i => if i = p then ρ k else if i = k then ρ p else ρ i) i) := by
        intro i hi
        dsimp only
        split
        · exact hρ k (by omega)
        · split
          · exact hρ p (by omega)
          · exact hρ i hi
      have hwk : jw_L jw_w0 ((List.range k).map (fun i => if i = p then ρ k else if i = k then ρ p else ρ i)) = w := by
        rw [← hw]
        congr 1
        apply List.map_congr_left
        intro i hi
        have := List.mem_range.mp hi
        rw [if_neg (by omega), if_neg (by omega)]
      have hperm : ((List.range m).map (fun i => if i = p then ρ k else if i = k then ρ p else ρ i)).Perm ((List.range m).map ρ) := by
        have h9 := (jw_swp m (by omega) p (by omega) k (by omega)).map ρ
        rw [List.map_map] at h9
        have e : (fun i => if i = p then ρ k else if i = k then ρ p else ρ i) = ρ ∘ fun i => if i = p then k else if i = k then p else i := by
          funext i
          show _ = ρ (if i = p then k else if i = k then p else i)
          split
          · rfl
          · split <;> rfl
        rw [e]
        exact h9
      have hfin : (jw_L jw_w0 ((List.range m).map ρ) C).natAbs = (jw_L jw_w0 ((List.range m).map (fun i => if i = p then ρ k else if i = k then ρ p else ρ i)) C).natAbs := by
        rcases jw_perm hperm with h9 | h9
        · rw [h9]
        · rw [h9, Int.natAbs_neg]
      have hrk : (fun i => if i = p then ρ k else if i = k then ρ p else ρ i) k = ρ p := by
        dsimp only
        by_cases e : k = p
        · rw [if_pos e, e]
        · rw [if_neg e, if_pos rfl]
      rw [hfin]
      generalize (fun i => if i = p then ρ k else if i = k then ρ p else ρ i) = ρ' at hc1 hρ' hwk hrk ⊢
      generalize (if p = k then c else jm_sw p k c 6) = c1 at hc1 ⊢
      have hd' : jw_W w (ρ' k) (jw_S C (k + 1)) ≠ 0 := by
        intro h9
        apply hp0
        rw [hc p k hp1 (by omega) (Nat.le_refl k) (by omega), ← hrk, hk1.2.2.2, h9]
        rfl
      have hmin : ∀ j, j < 6 → C / 2 ^ j % 2 = 1 → jw_S C k / 2 ^ j % 2 = 1 ∨ jw_c C k ≤ j := fun j hj hb => (jw_c2 C hC k (by omega) j hj).resolve_left (fun h => h ⟨by omega, hb⟩)
      have hE' := jw_E_step hE hd hk1.1 hk1.2.1 hk1.2.2.1 hmin (hρ' k (by omega)).1
      rw [hk1.2.2.2] at hE'
      have hbf0 : ¬ bf = lN 0 := by
        rw [hbf]
        intro h9
        have := hwa (jw_S C k)
        rw [jLeq_jn (by omega) (by omega) (by omega)] at h9
        exact hd h9
      have hck : jm_ck k m bf c1 = jm_cl k m bf c1 (m - (k + 1)) := by
        unfold jm_ck
        rw [if_neg hbf0]
      rw [hck]
      have hcl := jw_cl_e (step := k) (size := m) (bf := bf) (c := c1) hm6 (m - (k + 1)) (by omega)
      have hws : jw_L jw_w0 ((List.range (k + 1)).map ρ') = jw_W w (ρ' k) := by
        rw [jw_w_succ, hwk]
      refine jw_dl_e hC hm hm6 t (k + 1) ρ' _ _ (by omega) hρ' (by rw [hws]; exact hE') (by rw [hws]; exact hd') ?_ ?_
      · rw [hcl k k (by omega), if_neg (by omega), hc1 k k (Nat.le_refl k) (by omega) (Nat.le_refl k) (by omega), hws, hk1.2.2.2]
      · intro i l h1 h2 h3 h4
        have hcc := (jw_c4 C hC k (by omega) l (by omega)).resolve_left (fun h => h (by omega))
        have hl1 := (jw_c1 C hC l (by omega)).resolve_left (fun h => h (by omega))
        have hs := jw_syl hE hd hk1.2.2.1 hcc.1 hl1.1 (hρ' k (by omega)).1 (hρ' i h2).1
        have hbc : ∀ y, jw_b C (jw_S C k) w y (jw_c C k) = jw_W w y (jw_S C k + 2 ^ jw_c C k) := fun y => by
          unfold jw_b
          rw [if_pos ⟨hk1.2.1, hk6.1⟩]
        have hbl : ∀ y, jw_b C (jw_S C k) w y (jw_c C l) = jw_W w y (jw_S C k + 2 ^ jw_c C l) := fun y => by
          unfold jw_b
          rw [if_pos ⟨hl1.2.1, hcc.2⟩]
        rw [hbc, hbc, hbl, hbl] at hs
        rw [hcl i l (by omega), if_pos (by omega), hc1 i l (by omega) h2 (by omega) h4, hc1 k k (by omega) (by omega) (by omega) (by omega), hc1 i k (by omega) h2 (by omega) (by omega), hc1 k l (by omega) (by omega) (by omega) h4, hbf, jL_mul, jL_mul, jL_sub, hws]
        rw [show jw_W w (ρ' i) (jw_S C k + 2 ^ jw_c C l) * jw_W w (ρ' k) (jw_S C k + 2 ^ jw_c C k) - jw_W w (ρ' i) (jw_S C k + 2 ^ jw_c C k) * jw_W w (ρ' k) (jw_S C k + 2 ^ jw_c C l) = w (jw_S C k) * jw_W (jw_W w (ρ' k)) (ρ' i) (jw_S C k + 2 ^ jw_c C k + 2 ^ jw_c C l) by rw [hs]; grind, ← hk1.2.2.2]
        have b1 := hwa (jw_S C k)
        have b2 : (jw_W (jw_W w (ρ' k)) (ρ' i) (jw_S C k + 2 ^ jw_c C k + 2 ^ jw_c C l)).natAbs ≤ 1073741824 * 64 := jw_Wabs (hWa _ (hρ' k (by omega)).2) (hρ' i h2).2 _
        have b3 := Nat.mul_le_mul b1 b2
        rw [← Int.natAbs_mul] at b3
        have b4 : 64 ^ k * (1073741824 * 64) ≤ 16777216 * (1073741824 * 64) := Nat.mul_le_mul_right _ (by omega)
        exact jw_div (by omega) (by omega) hd
/-! filling -/
theorem jw_su_succ (f : Nat → Nat) (k : Nat) : jn_su f (k + 1) = jn_su f k + f k := rfl
theorem jw_fl_e {R : Nat → Nat → Nat} {n p C st : Nat} {c : Nat → Int64} (hC : C < 64) : ∀ k, k ≤ 6 → (jm_fl R n p C st c k).2 = st + jn_su (fun l => C / 2 ^ l % 2) k ∧ (∀ l, l < jn_su (fun l => C / 2 ^ l % 2) k → (jm_fl R n p C st c k).1 (st + l) = jL (jm_A R n p (jw_c C l))) ∧ ∀ q, q < st ∨ st + jn_su (fun l => C / 2 ^ l % 2) k ≤ q → (jm_fl R n p C st c k).1 q = c q
  | 0, _ => ⟨rfl, fun l hl => absurd hl (Nat.not_lt_zero l), fun _ _ => rfl⟩
  | k + 1, hk => by
    obtain ⟨i1, i2, i3⟩ := jw_fl_e (R := R) (n := n) (p := p) (st := st) (c := c) hC k (by omega)
    unfold jm_fl
    rw [jw_su_succ]
    rcases jw_b01 C k with b | b
    · rw [if_pos b, if_pos b, b]
      exact ⟨i1, i2, i3⟩
    · have h5 := (jw_c5 C hC k (by omega)).resolve_left (fun h => h b)
      rw [if_neg (by omega), if_neg (by omega), b]
      refine ⟨by dsimp only; omega, fun l hl => ?_, fun q hq => ?_⟩
      · dsimp only
        unfold vp_updL
        by_cases e : l = jn_su (fun l => C / 2 ^ l % 2) k
        · rw [if_pos (by omega), e, h5]
        · rw [if_neg (by omega), i2 l (by omega)]
      · dsimp only
        unfold vp_updL
        rw [if_neg (by omega), i3 q (by omega)]
theorem jw_fa_e {R : Nat → Nat → Nat} {n ro C : Nat} {c : Nat → Int64} (hro : ro < 64) (hC : C < 64) (hn : n ≤ 6) (hCn : jn_su (fun l => C / 2 ^ l % 2) n = jm_pc C) : ∀ k, k ≤ 6 → (jm_fa R n ro C c k).2 = jn_su (fun l => ro / 2 ^ l % 2) k ∧ ∀ i l, i < jn_su (fun l => ro / 2 ^ l % 2) k → l < jm_pc C → (jm_fa R n ro C c k).1 (i * 6 + l) = jL (jm_A R n (jw_c ro i) (jw_c C l))
  | 0, _ => ⟨rfl, fun i _ hi => absurd hi (Nat.not_lt_zero i)⟩
  | k + 1, hk => by
    obtain ⟨i1, i2⟩ := jw_fa_e (R := R) (c := c) hro hC hn hCn k (by omega)
    unfold jm_fa
    rw [jw_su_succ]
    rcases jw_b01 ro k with b | b
    · rw [if_pos b, if_pos b, b]
      exact ⟨i1, i2⟩
    · have h5 := (jw_c5 ro hro k (by omega)).resolve_left (fun h => h b)
      rw [if_neg (by omega), if_neg (by omega), b]
      refine ⟨by dsimp only; omega, fun i l hi hl => ?_⟩
      obtain ⟨f1, f2, f3⟩ := jw_fl_e (R := R) (n := n) (p := k) (st := (jm_fa R n ro C c k).2 * 6) (c := (jm_fa R n ro C c k).1) hC n hn
      rw [hCn] at f2 f3
      have hpc := jm_pc_le C
      dsimp only
      by_cases e : i = jn_su (fun l => ro / 2 ^ l % 2) k
      · rw [e, ← i1, f2 l hl, i1, h5]
      · rw [f3 _ (by omega), i2 i l (by omega) hl]
theorem jw_cnt : ∀ n, n < 7 → ∀ C, C < 64 → (¬ C < 2 ^ n ∨ jn_su (fun l => C / 2 ^ l % 2) n = jm_pc C) := by decide +kernel
theorem jw_rows : ∀ R, R < 64 → (List.range 6).filter (fun j => R / 2 ^ j % 2 == 1) = (List.range (jm_pc R)).map (jw_c R) := by decide +kernel
theorem jw_om_L {A : Nat → Nat → Int} {R : Nat} : ∀ i, jw_om A R i = jw_L jw_w0 (((List.range i).filter (fun j => R / 2 ^ j % 2 == 1)).map A)
  | 0 => rfl
  | i + 1 => by
    unfold jw_om
    rw [jw_om_L i, List.range_succ, List.filter_append, List.map_append]
    unfold jw_L
    rw [List.foldl_append]
    by_cases b : R / 2 ^ i % 2 = 1
    · rw [if_pos b]
      rw [List.filter_cons_of_pos (by simpa using b)]
      rfl
    · rw [if_neg b]
      rw [List.filter_cons_of_neg (by simpa using b)]
      rfl
/-- columns beyond a set don't count in it -/
def jw_mk (C : Nat) (x : Nat → Int) : Nat → Int := fun j => if C / 2 ^ j % 2 = 1 then x j else 0
theorem jw_L_mk {C : Nat} (hC : C < 64) : ∀ (l : List (Nat → Int)) (w w' : Nat → Int), (∀ s, s < 64 → s &&& C = s → w s = w' s) → ∀ s, s < 64 → s &&& C = s → jw_L w (l.map (jw_mk C)) s = jw_L w' l s
  | [], w, w', h, s, hs, hc => h s hs hc
  | x :: l, w, w', h, s, hs, hc => by
    show jw_L (jw_W w (jw_mk C x)) (l.map (jw_mk C)) s = jw_L (jw_W w' x) l s
    refine jw_L_mk hC l _ _ (fun t ht h1 => ?_) s hs hc
    unfold jw_W
    apply jw_cg
    intro j hj
    by_cases b : t / 2 ^ j % 2 = 1
    · have o := (jw_sub2 t ht C hC j hj).resolve_left (fun h => h ⟨b, h1⟩)
      rw [h (t - 2 ^ j) (Nat.lt_of_le_of_lt (Nat.sub_le _ _) ht) o.1]
      unfold jw_mk
      rw [if_pos o.2]
    · rw [jw_gt4 b]
      simp
theorem jw_A_l1 {R : Nat → Nat → Nat} {n i : Nat} (hn : n ≤ 6) (hR : ∀ p q, R p q ≤ 4) : jw_l1 (jm_A R n i) := by
  have h1 : jn_su (R i) n ≤ 4 * n := jn_su_le n (fun q _ => hR i q)
  have key : ∀ j, ((jm_A R n i j).natAbs : Int) ≤ if j = i then 24 else 4 := by
    intro j
    unfold jm_A
    by_cases e : i = j
    · subst e
      rw [if_pos rfl, if_pos rfl]
      omega
    · rw [if_neg e, if_neg (Ne.symm e)]
      have := hR i j
      omega
  have k0 := key 0
  have k1 := key 1
  have k2 := key 2
  have k3 := key 3
  have k4 := key 4
  have k5 := key 5
  unfold jw_l1
  simp only [jn_sz1]
  split at k0 <;> split at k1 <;> split at k2 <;> split at k3 <;> split at k4 <;> split at k5 <;> omega
theorem jw_mk_l1 {C : Nat} {x : Nat → Int} (h : jw_l1 x) : jw_l1 (jw_mk C x) := by
  have key : ∀ j, (jw_mk C x j).natAbs ≤ (x j).natAbs := by
    intro j
    unfold jw_mk
    split
    · exact Nat.le_refl _
    · exact Nat.zero_le _
  have k0 := key 0
  have k1 := key 1
  have k2 := key 2
  have k3 := key 3
  have k4 := key 4
  have k5 := key 5
  unfold jw_l1 at h ⊢
  simp only [jn_sz1] at h ⊢
  omega
theorem jw_bit_sub2 : ∀ C, C < 64 → ∀ l, l < 6 → (¬ l < jm_pc C ∨ ((2 ^ jw_c C l) &&& C = 2 ^ jw_c C l)) := by decide +kernel
/-- the class's determinant is the determinant, without its sign -/
theorem jw_det {R : Nat → Nat → Nat} {n ro C : Nat} {c : Nat → Int64} (hn : n ≤ 6) (hR : ∀ p q, R p q ≤ 4) (hro : ro < 2 ^ n) (hC : C < 2 ^ n) (hp : jm_pc ro = jm_pc C) : (jm_det R n ro C c).2 = lN (jw_D (jm_A R n) ro C).natAbs ∧ (jw_D (jm_A R n) ro C).natAbs ≤ 64 ^ jm_pc C := by
  have h64 : 2 ^ n ≤ 2 ^ 6 := Nat.pow_le_pow_right (by omega) hn
  have hro6 : ro < 64 := by omega
  have hC6 : C < 64 := by omega
  have hpc := jm_pc_le C
  have hcn := (jw_cnt n (by omega) C hC6).resolve_left (fun h => h hC)
  have hrn := (jw_cnt n (by omega) ro hro6).resolve_left (fun h => h hro)
  obtain ⟨f1, f2⟩ := jw_fa_e (R := R) (c := c) hro6 hC6 hn hcn n hn
  rw [hrn, hp] at f1 f2
  have hD : jw_L jw_w0 ((List.range (jm_pc C)).map (fun i => jw_mk C (jm_A R n (jw_c ro i)))) C = jw_D (jm_A R n) ro C := by
    unfold jw_D
    rw [jw_om_L, jw_rows ro hro6, hp, List.map_map]
    have h := jw_L_mk hC6 ((List.range (jm_pc C)).map (jm_A R n ∘ jw_c ro)) jw_w0 jw_w0 (fun s _ _ => rfl) C hC6 (Nat.and_self C)
    rw [List.map_map] at h
    exact h
  have hl1 : ∀ i, jw_l1 (jw_mk C (jm_A R n (jw_c ro i))) := fun i => jw_mk_l1 (jw_A_l1 hn hR)
  have hb := jw_w_abs (ρ := fun i => jw_mk C (jm_A R n (jw_c ro i))) (k := jm_pc C) (fun i _ => hl1 i) C
  rw [hD] at hb
  refine ⟨?_, hb⟩
  unfold jm_det
  rw [f1]
  by_cases h0 : jm_pc C = 0
  · have hC0 := jw_pc0 C hC6 h0
    have hr0 := jw_pc0 ro hro6 (hp.trans h0)
    rw [h0]
    show lN 1 = _
    rw [hC0, hr0]
    unfold jw_D
    rw [jw_omE]
    rfl
  · rw [← hD]
    refine jw_dl_e hC6 rfl hpc (jm_pc C - 1) 0 (fun i => jw_mk C (jm_A R n (jw_c ro i))) _ _ (by omega) (fun i _ => ⟨fun j _ h => ?_, hl1 i⟩) (jw_E0 C) (show (1 : Int) ≠ 0 by decide) rfl (fun i l _ hi _ hl => ?_)
    · unfold jw_mk
      rw [if_neg h]
    · have hc := (jw_c1 C hC6 l (by omega)).resolve_left (fun h => h hl)
      rw [f2 i l hi hl]
      show _ = jL (jw_W jw_w0 (jw_mk C (jm_A R n (jw_c ro i))) (0 + 2 ^ jw_c C l))
      rw [jw_ext1 hc.1 (Nat.two_pow_pos _) (fun q _ h => by rw [Nat.zero_div] at h; omega), show jw_w0 0 = 1 from rfl, Int.one_mul]
      unfold jw_mk
      rw [if_pos hc.2.1]
theorem jw_hD {R : Nat → Nat → Nat} {n : Nat} (hn : n ≤ 6) (hR : ∀ p q, R p q ≤ 4) : jm_hD R n (fun ro C => (jw_D (jm_A R n) ro C).natAbs) := by
  intro lines cols c h1 h2 h3
  obtain ⟨e1, e2⟩ := jw_det (c := c) hn hR h1 h2 h3
  have := jw_p64 (jm_pc_le cols)
  exact ⟨e1, by dsimp only; omega⟩
