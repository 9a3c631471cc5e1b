/-! A table that leaks: what it sends to numbers not below 0 is not below 0; its determinants are above 0. -/
theorem jw_le {f g : Nat → Int} : ∀ n : Nat, (∀ i, i < n → f i ≤ g i) → jn_sz1 f n ≤ jn_sz1 g n
  | 0, _ => Int.le_refl _
  | n + 1, h => by
    have h1 := jw_le n (fun i hi => h i (by omega))
    have h2 := h n (by omega)
    simp only [jn_sz1]
    omega
theorem jw_lt1 {f g : Nat → Int} {k : Nat} : ∀ n : Nat, (∀ i, i < n → f i ≤ g i) → k < n → f k < g k → jn_sz1 f n < jn_sz1 g n
  | 0, _, hk, _ => absurd hk (Nat.not_lt_zero k)
  | n + 1, h, hk, hl => by
    have h2 := h n (by omega)
    simp only [jn_sz1]
    by_cases e : k = n
    · subst e
      have h1 := jw_le k (fun i hi => h i (by omega))
      omega
    · have h1 := jw_lt1 n (fun i hi => h i (by omega)) (by omega) hl
      omega
theorem jw_nn {f : Nat → Int} (n : Nat) (h : ∀ i, i < n → 0 ≤ f i) : 0 ≤ jn_sz1 f n := by
  have := jw_le (f := fun _ => 0) n h
  rw [jw_0] at this
  exact this
theorem jw_argmin (x : Nat → Int) : ∀ k : Nat, 0 < k → ∃ j, j < k ∧ ∀ i, i < k → x j ≤ x i
  | 0, h => absurd h (Nat.lt_irrefl 0)
  | k + 1, _ => by
    by_cases h0 : k = 0
    · subst h0
      exact ⟨0, by omega, fun i hi => by rw [show i = 0 by omega]; exact Int.le_refl _⟩
    · obtain ⟨j, hj, hm⟩ := jw_argmin x k (by omega)
      by_cases c : x j ≤ x k
      · exact ⟨j, by omega, fun i hi => by
          by_cases e : i = k
          · rw [e]; exact c
          · exact hm i (by omega)⟩
      · exact ⟨k, by omega, fun i hi => by
          by_cases e : i = k
          · rw [e]; exact Int.le_refl _
          · have := hm i (by omega)
            omega⟩
/-- off the line not above 0; a line's share of posts, itself among them, not below 0 -/
def jw_dm (A : Nat → Nat → Int) : Prop := (∀ i j, i ≠ j → A i j ≤ 0) ∧ ∀ i, i < 6 → ∀ U : Nat → Bool, U i = true → 0 ≤ jn_sz1 (fun j => if U j = true then A i j else 0) 6
/-- each set of posts within S leaks -/
def jw_lk (A : Nat → Nat → Int) (S : Nat) : Prop := ∀ U : Nat → Bool, (∃ i, i < 6 ∧ U i = true) → (∀ i, i < 6 → U i = true → S / 2 ^ i % 2 = 1) → ∃ i, i < 6 ∧ U i = true ∧ 0 < jn_sz1 (fun j => if U j = true then A i j else 0) 6
theorem jw_minp {A : Nat → Nat → Int} {S : Nat} {x : Nat → Int} (hA : jw_dm A) (hS : jw_lk A S) (hx : ∀ j, j < 6 → ¬ S / 2 ^ j % 2 = 1 → x j = 0) (h : ∀ i, i < 6 → S / 2 ^ i % 2 = 1 → 0 ≤ jn_sz1 (fun j => A i j * x j) 6) : ∀ j, j < 6 → 0 ≤ x j := by
  obtain ⟨j0, hj0, hmin⟩ := jw_argmin x 6 (by omega)
  by_cases hm : 0 ≤ x j0
  · intro j hj
    have := hmin j hj
    omega
  · exfalso
    have hin : ∀ i, i < 6 → x i = x j0 → S / 2 ^ i % 2 = 1 := by
      intro i hi he
      apply Classical.byContradiction
      intro hb
      have := hx i hi hb
      omega
    obtain ⟨i, hi, hUi, hpos⟩ := hS (fun j => decide (x j = x j0)) ⟨j0, hj0, by simp⟩ (fun i hi hU => hin i hi (by simpa using hU))
    have hxi : x i = x j0 := by simpa using hUi
    have h0 := h i hi (hin i hi hxi)
    have hall := hA.2 i hi (fun _ => true) rfl
    rw [jw_cg 6 (g := fun j => A i j) (fun j _ => if_pos rfl)] at hall
    replace hall : 0 ≤ jn_sz1 (A i) 6 := hall
    have hle : jn_sz1 (fun j => A i j * x j) 6 ≤ jn_sz1 (fun j => (x j0 + 1) * A i j + -(if decide (x j = x j0) = true then A i j else 0)) 6 := by
      apply jw_le
      intro j hj
      (try dsimp only)
      by_cases c : x j = x j0
      · rw [if_pos (by simpa using c), c]
        have : A i j * x j0 = (x j0 + 1) * A i j + -A i j := by grind
        omega
      · rw [if_neg (by simpa using c)]
        have hji : i ≠ j := fun e => c (by rw [← e]; exact hxi)
        have ha := hA.1 i j hji
        have h3 := hmin j hj
        have h4 := Int.mul_nonneg (show 0 ≤ -A i j by omega) (show 0 ≤ x j - (x j0 + 1) by omega)
        have h5 : -A i j * (x j - (x j0 + 1)) = (x j0 + 1) * A i j - A i j * x j := by grind
        omega
    rw [jw_add, jw_mul, jw_neg] at hle
    have h6 := Int.mul_nonneg (show 0 ≤ -(x j0 + 1) by omega) hall
    rw [Int.neg_mul] at h6
    omega
theorem jw_lk_sub {A : Nat → Nat → Int} {S S' : Nat} (h : jw_lk A S) (hs : ∀ i, i < 6 → S' / 2 ^ i % 2 = 1 → S / 2 ^ i % 2 = 1) : jw_lk A S' := fun U h1 h2 => h U h1 (fun i hi hU => hs i hi (h2 i hi hU))
theorem jw_lk_one {A : Nat → Nat → Int} {S k : Nat} (hS : S < 64) (hk : k < 6) (hb : S / 2 ^ k % 2 = 1) (h : jw_lk A S) : jw_lk A (S - 2 ^ k) := jw_lk_sub h (fun i hi hb2 => by
  rw [jw_bit_sub S hS k hk hb i hi] at hb2
  split at hb2
  · omega
  · exact hb2)
theorem jw_cf_off {A : Nat → Nat → Int} {S j k : Nat} (h : ¬ S / 2 ^ j % 2 = 1 ∨ ¬ S / 2 ^ k % 2 = 1) : jw_cf A S j k = 0 := by
  unfold jw_cf
  rcases h with h | h
  · rw [jw_gt4 h]
    simp
  · rw [jw_gt4 h]
    simp
theorem jw_pos {A : Nat → Nat → Int} (hA : jw_dm A) : ∀ m S, S < m → S < 64 → jw_lk A S → 0 < jw_D A S S
  | 0, S, hm, _, _ => absurd hm (Nat.not_lt_zero S)
  | m + 1, S, hm, hS, hl => by
    by_cases h0 : S = 0
    · subst h0
      unfold jw_D
      rw [jw_omE]
      decide
    · obtain ⟨k, hk, hb, -, h2, -⟩ := jw_top S hS h0
      have hp := Nat.two_pow_pos k
      have ih := jw_pos hA m (S - 2 ^ k) (by omega) (by omega) (jw_lk_one hS hk hb hl)
      apply Classical.byContradiction
      intro hn
      have h3 := jw_minp hA hl (x := fun j => -jw_cf A S j k) (fun j _ hbj => by
        (try dsimp only)
        rw [jw_cf_off (Or.inl hbj)]
        rfl) (fun i hi hbi => by
        have h4 := jw_adj (A := A) hS hi hk hbi hb
        rw [jw_cg 6 (g := fun j => -(A i j * jw_cf A S j k)) (fun j _ => by (try dsimp only); grind), jw_neg, h4]
        split <;> omega) k hk
      (try dsimp only at h3)
      unfold jw_cf at h3
      rw [jw_g1 S hS k hk hb] at h3
      omega
theorem jw_cf_nn {A : Nat → Nat → Int} {S j k : Nat} (hA : jw_dm A) (hS : S < 64) (hl : jw_lk A S) (hj : j < 6) (hk : k < 6) : 0 ≤ jw_cf A S j k := by
  by_cases hb : S / 2 ^ k % 2 = 1
  · have hp := jw_pos hA (S + 1) S (by omega) hS hl
    refine jw_minp hA hl (x := fun j => jw_cf A S j k) (fun j _ hbj => jw_cf_off (Or.inl hbj)) (fun i hi hbi => ?_) j hj
    rw [jw_adj (A := A) hS hi hk hbi hb]
    split <;> omega
  · rw [jw_cf_off (Or.inr hb)]
    exact Int.le_refl _
/-! the table of a net -/
theorem jw_cast (f : Nat → Nat) : ∀ n : Nat, ((jn_su f n : Nat) : Int) = jn_sz1 (fun i => (f i : Int)) n
  | 0 => rfl
  | n + 1 => by
    simp only [jn_su, jn_sz1, ← jw_cast f n]
    omega
theorem jw_su6 {f : Nat → Nat} {n : Nat} (hn : n ≤ 6) (h : ∀ i, n ≤ i → f i = 0) : jn_su f 6 = jn_su f n := by
  have key : ∀ k, jn_su f (n + k) = jn_su f n := by
    intro k
    induction k with
    | zero => rfl
    | succ k ih =>
      show jn_su f (n + k) + f (n + k) = _
      rw [ih, h (n + k) (by omega)]
      rfl
  have := key (6 - n)
  rwa [show n + (6 - n) = 6 by omega] at this
theorem jw_A_sy {R : Nat → Nat → Nat} {n : Nat} (h : jw_N R n) (i j : Nat) : jm_A R n i j = jm_A R n j i := by
  unfold jm_A
  by_cases e : i = j
  · subst e
    rfl
  · rw [if_neg e, if_neg (Ne.symm e), h.2.2.1 i j]
theorem jw_A_e {R : Nat → Nat → Nat} {n : Nat} (h : jw_N R n) (i j : Nat) : jm_A R n i j = (if j = i then (jn_su (R i) n : Int) else 0) + -(R i j : Int) := by
  unfold jm_A
  by_cases e : i = j
  · subst e
    rw [if_pos rfl, if_pos rfl, h.2.2.2.1 i]
    omega
  · rw [if_neg e, if_neg (Ne.symm e)]
    omega
theorem jw_rowA {R : Nat → Nat → Nat} {n i : Nat} {U : Nat → Bool} (h : jw_N R n) (hi : i < 6) (hU : U i = true) : jn_sz1 (fun j => if U j = true then jm_A R n i j else 0) 6 = jn_sz1 (fun q => if U q = true then 0 else (R i q : Int)) 6 := by
  have e : ∀ j, j < 6 → (if U j = true then jm_A R n i j else 0) = ((if j = i then (jn_su (R i) n : Int) else 0) + -(R i j : Int)) + (if U j = true then 0 else (R i j : Int)) := by
    intro j hj
    by_cases c : U j = true
    · rw [if_pos c, if_pos c, jw_A_e h]
      omega
    · rw [if_neg c, if_neg c, if_neg (fun e => c (by rw [e]; exact hU))]
      omega
  rw [jw_cg 6 e, jw_add, jw_add, jw_neg, ← jw_cast, jw_su6 h.1.2 (fun q hq => by rw [h.2.2.1]; exact h.2.2.2.2 q i hq), jw_one 6 hi (fun j _ hj => if_neg hj), if_pos rfl]
  omega
theorem jw_dmN {R : Nat → Nat → Nat} {n : Nat} (h : jw_N R n) : jw_dm (jm_A R n) := by
  refine ⟨fun i j hij => ?_, fun i hi U hU => ?_⟩
  · unfold jm_A
    rw [if_neg hij]
    omega
  · rw [jw_rowA h hi hU]
    refine jw_nn 6 (fun q _ => ?_)
    split <;> omega
theorem jw_lkN {R : Nat → Nat → Nat} {n S bp : Nat} (h : jw_N R n) (hc : jw_cut R n) (hS : S < 2 ^ n) (hbp : bp < n) (hb : S / 2 ^ bp % 2 = 0) : jw_lk (jm_A R n) S := by
  intro U ⟨i0, hi0, hU0⟩ hUS
  have hn := h.1
  have h64 : 2 ^ n ≤ 2 ^ 6 := Nat.pow_le_pow_right (by omega) hn.2
  have hlt : ∀ i, i < 6 → U i = true → i < n := by
    intro i hi hU
    apply Classical.byContradiction
    intro hni
    have := (jw_nobit n (by omega) S (by omega) i hi).resolve_left (fun h => h ⟨hS, by omega⟩)
    have := hUS i hi hU
    omega
  obtain ⟨i, q, hi, hq, hUi, hUq, hR⟩ := hc U ⟨i0, hlt i0 hi0 hU0, hU0⟩ ⟨bp, hbp, by
    cases hUb : U bp with
    | false => rfl
    | true =>
      have := hUS bp (by omega) hUb
      omega⟩
  refine ⟨i, by omega, hUi, ?_⟩
  rw [jw_rowA h (by omega) hUi]
  have h0 := jw_lt1 (f := fun _ => 0) (g := fun q => if U q = true then 0 else (R i q : Int)) (k := q) 6 (fun j _ => by (try dsimp only); split <;> omega) (by omega) (by
    (try dsimp only)
    rw [if_neg (by rw [hUq]; decide)]
    omega)
  rw [jw_0] at h0
  exact h0
/-- determinants about a set's own lines and columns are above 0 in a whole net -/
theorem jw_posN {R : Nat → Nat → Nat} {n S bp : Nat} (h : jw_N R n) (hc : jw_cut R n) (hS : S < 2 ^ n) (hbp : bp < n) (hb : S / 2 ^ bp % 2 = 0) : 0 < jw_D (jm_A R n) S S := by
  have h64 : 2 ^ n ≤ 2 ^ 6 := Nat.pow_le_pow_right (by omega) h.1.2
  exact jw_pos (jw_dmN h) (S + 1) S (by omega) (by omega) (jw_lkN h hc hS hbp hb)
