/-! The cofactors: the same both ways; the table undoes them, T times; none is above 5 T. -/
theorem jw_cf_sy {R : Nat → Nat → Nat} {n S : Nat} (h : jw_N R n) (hS : S < 64) (j k : Nat) : jw_cf (jm_A R n) S j k = jw_cf (jm_A R n) S k j := by
  unfold jw_cf
  have e := jw_D_turn (A := jm_A R n) (jw_A_sy h) (S - 2 ^ j + 1) (S - 2 ^ j) (S - 2 ^ k) (by omega) (Nat.lt_of_le_of_lt (Nat.sub_le _ _) hS) (Nat.lt_of_le_of_lt (Nat.sub_le _ _) hS)
  rw [e, Int.mul_comm (jw_g S j)]
theorem jw_MC {A : Nat → Nat → Int} {S i : Nat} {v : Nat → Int} (hS : S < 64) (hi : i < 6) (bi : S / 2 ^ i % 2 = 1) : jn_sz1 (fun j => A i j * jn_sz1 (fun k => jw_cf A S j k * v k) 6) 6 = jw_D A S S * v i := by
  have e : ∀ j, j < 6 → A i j * jn_sz1 (fun k => jw_cf A S j k * v k) 6 = jn_sz1 (fun k => v k * (A i j * jw_cf A S j k)) 6 := by
    intro j _
    rw [← jw_mul]
    apply jw_cg
    intro k _
    grind
  have e2 : ∀ k, k < 6 → jn_sz1 (fun j => v k * (A i j * jw_cf A S j k)) 6 = if k = i then jw_D A S S * v i else 0 := by
    intro k hk
    rw [jw_mul]
    by_cases bk : S / 2 ^ k % 2 = 1
    · rw [jw_adj hS hi hk bi bk]
      by_cases c : k = i
      · subst c
        rw [if_pos rfl, if_pos rfl, Int.mul_comm]
      · rw [if_neg c, if_neg (Ne.symm c)]
        simp
    · rw [if_neg (fun c => bk (by rw [c]; exact bi)), jw_cg 6 (g := fun _ => 0) (fun j _ => by rw [jw_cf_off (Or.inr bk)]; simp), jw_0]
      simp
  rw [jw_cg 6 e, jw_swap, jw_cg 6 e2, jw_one 6 hi (fun k _ hk => if_neg hk), if_pos rfl]
theorem jw_CM {R : Nat → Nat → Nat} {n S j : Nat} {x : Nat → Int} (h : jw_N R n) (hS : S < 64) (hj : j < 6) (bj : S / 2 ^ j % 2 = 1) (hx : ∀ i, i < 6 → ¬ S / 2 ^ i % 2 = 1 → x i = 0) : jn_sz1 (fun k => jw_cf (jm_A R n) S j k * jn_sz1 (fun i => jm_A R n k i * x i) 6) 6 = jw_D (jm_A R n) S S * x j := by
  have e : ∀ k, k < 6 → jw_cf (jm_A R n) S j k * jn_sz1 (fun i => jm_A R n k i * x i) 6 = jn_sz1 (fun i => x i * (jm_A R n i k * jw_cf (jm_A R n) S k j)) 6 := by
    intro k _
    rw [← jw_mul]
    apply jw_cg
    intro i _
    rw [jw_A_sy h i k, jw_cf_sy h hS k j]
    grind
  have e2 : ∀ i, i < 6 → jn_sz1 (fun k => x i * (jm_A R n i k * jw_cf (jm_A R n) S k j)) 6 = if i = j then jw_D (jm_A R n) S S * x j else 0 := by
    intro i hi
    rw [jw_mul]
    by_cases bi : S / 2 ^ i % 2 = 1
    · rw [jw_adj hS hi hj bi bj]
      by_cases c : i = j
      · subst c
        rw [if_pos rfl, if_pos rfl, Int.mul_comm]
      · rw [if_neg c, if_neg c]
        simp
    · rw [if_neg (fun c => bi (by rw [c]; exact bj)), hx i hi bi]
      simp
  rw [jw_cg 6 e, jw_swap, jw_cg 6 e2, jw_one 6 hj (fun k _ hk => if_neg hk), if_pos rfl]
/-- what a line sends, as flows over its roads -/
theorem jw_Ag {R : Nat → Nat → Nat} {n i : Nat} {g : Nat → Int} (h : jw_N R n) (hi : i < 6) : jn_sz1 (fun j => jm_A R n i j * g j) 6 = jn_sz1 (fun q => (R i q : Int) * (g i - g q)) 6 := by
  have e1 : ∀ j, j < 6 → jm_A R n i j * g j = (if j = i then (jn_su (R i) n : Int) * g i else 0) + -((R i j : Int) * g j) := by
    intro j _
    rw [jw_A_e h]
    by_cases c : j = i
    · subst c
      rw [if_pos rfl, if_pos rfl]
      grind
    · rw [if_neg c, if_neg c]
      grind
  have e2 : ∀ q, q < 6 → (R i q : Int) * (g i - g q) = g i * (R i q : Int) + -((R i q : Int) * g q) := by
    intro q _
    grind
  rw [jw_cg 6 e1, jw_cg 6 e2, jw_add, jw_add, jw_one 6 hi (fun j _ hj => if_neg hj), if_pos rfl, jw_mul, ← jw_cast, jw_su6 h.1.2 (fun q hq => by rw [h.2.2.1]; exact h.2.2.2.2 q i hq), Int.mul_comm]
theorem jw_flow0 {a : Nat → Nat → Int} {V : Nat → Bool} (ha : ∀ i q, a i q = -a q i) (m : Nat) : jn_sz1 (fun i => jn_sz1 (fun q => if V i = true ∧ V q = true then a i q else 0) m) m = 0 := by
  have h := jw_swap (fun i q => if V i = true ∧ V q = true then a i q else 0) m m
  have e : jn_sz1 (fun q => jn_sz1 (fun i => if V i = true ∧ V q = true then a i q else 0) m) m = -jn_sz1 (fun i => jn_sz1 (fun q => if V i = true ∧ V q = true then a i q else 0) m) m := by
    rw [← jw_neg]
    apply jw_cg
    intro i _
    rw [← jw_neg]
    apply jw_cg
    intro q _
    by_cases c : V i = true ∧ V q = true
    · rw [if_pos c, if_pos ⟨c.2, c.1⟩, ha]
    · rw [if_neg c, if_neg (fun h => c ⟨h.2, h.1⟩)]
      rfl
  omega
/-- no gap above T -/
theorem jw_gap {R : Nat → Nat → Nat} {n bp k : Nat} {g : Nat → Int} {c T : Int} (h : jw_N R n) (hc : jw_cut R n) (hbp : bp < n) (hk : k < 6) (hT : 0 ≤ T) (hg : ∀ i, i < n → i ≠ bp → jn_sz1 (fun j => jm_A R n i j * g j) 6 = if i = k then T else 0) (hb : g bp ≤ c) (hex : ∃ q, q < n ∧ c < g q) : ∃ q, q < n ∧ c < g q ∧ g q ≤ c + T := by
  apply Classical.byContradiction
  intro hno
  have hn := h.1
  have hgap : ∀ q, q < n → c < g q → c + T < g q := fun q hq h1 => by
    apply Classical.byContradiction
    intro h2
    exact hno ⟨q, hq, h1, by omega⟩
  obtain ⟨q1, hq1, hq1c⟩ := hex
  obtain ⟨i0, q0, hi0, hq0, hU1, hU2, hR⟩ := hc (fun j => decide (j < n ∧ c < g j)) ⟨q1, hq1, by simp [hq1, hq1c]⟩ ⟨bp, hbp, by simp; omega⟩
  have hU1' : c < g i0 := by
    have := hU1
    simp only [decide_eq_true_eq] at this
    exact this.2
  have hU2' : g q0 ≤ c := by
    have := hU2
    simp only [decide_eq_false_iff_not] at this
    omega
  -- what leaves the high posts
  have hX : jn_sz1 (fun i => if i < n ∧ c < g i then jn_sz1 (fun j => jm_A R n i j * g j) 6 else 0) 6 ≤ T := by
    have h1 : jn_sz1 (fun i => if i < n ∧ c < g i then jn_sz1 (fun j => jm_A R n i j * g j) 6 else 0) 6 ≤ jn_sz1 (fun i => if i = k then T else 0) 6 := by
      apply jw_le
      intro i hi
      (try dsimp only)
      by_cases c1 : i < n ∧ c < g i
      · rw [if_pos c1, hg i c1.1 (fun e => by rw [e] at c1; omega)]
        exact Int.le_refl _
      · rw [if_neg c1]
        split <;> omega
    rw [jw_one 6 hk (fun i _ hi => if_neg hi), if_pos rfl] at h1
    exact h1
  have hY : jn_sz1 (fun i => if i < n ∧ c < g i then jn_sz1 (fun j => jm_A R n i j * g j) 6 else 0) 6 = jn_sz1 (fun i => jn_sz1 (fun q => if decide (i < n ∧ c < g i) = true ∧ decide (q < n ∧ c < g q) = true then (R i q : Int) * (g i - g q) else 0) 6) 6 + jn_sz1 (fun i => jn_sz1 (fun q => if (i < n ∧ c < g i) ∧ ¬ (q < n ∧ c < g q) then (R i q : Int) * (g i - g q) else 0) 6) 6 := by
    rw [← jw_add]
    apply jw_cg
    intro i hi
    rw [← jw_add]
    by_cases c1 : i < n ∧ c < g i
    · rw [if_pos c1, jw_Ag h hi]
      apply jw_cg
      intro q _
      by_cases c2 : q < n ∧ c < g q
      · rw [if_pos ⟨by simpa using c1, by simpa using c2⟩, if_neg (fun h => h.2 c2)]
        omega
      · rw [if_neg (fun h => c2 (by simpa using h.2)), if_pos ⟨c1, c2⟩]
        omega
    · rw [if_neg c1, jw_cg 6 (g := fun _ => 0) (fun q _ => by rw [if_neg (fun h => c1 (by simpa using h.1)), if_neg (fun h => c1 h.1)]; rfl), jw_0]
  rw [jw_flow0 (a := fun i q => (R i q : Int) * (g i - g q)) (V := fun i => decide (i < n ∧ c < g i)) (fun i q => by rw [h.2.2.1 i q]; grind)] at hY
  -- each such road carries something, one carries more than T
  have hterm : ∀ i q, (if (i < n ∧ c < g i) ∧ ¬ (q < n ∧ c < g q) then (R i q : Int) * (g i - g q) else 0) ≥ 0 := by
    intro i q
    by_cases c1 : (i < n ∧ c < g i) ∧ ¬ (q < n ∧ c < g q)
    · rw [if_pos c1]
      by_cases c2 : q < n
      · have h1 := hgap i c1.1.1 c1.1.2
        exact Int.mul_nonneg (by omega) (by omega)
      · rw [h.2.2.1 i q, h.2.2.2.2 q i (by omega)]
        simp
    · rw [if_neg c1]
      exact Int.le_refl _
  have h0 := jw_lt1 (f := fun i => if i = i0 then T else 0) (g := fun i => jn_sz1 (fun q => if (i < n ∧ c < g i) ∧ ¬ (q < n ∧ c < g q) then (R i q : Int) * (g i - g q) else 0) 6) (k := i0) 6 (fun i hi => by
    (try dsimp only)
    by_cases e : i = i0
    · subst e
      rw [if_pos rfl]
      have h1 := jw_le (f := fun q => if q = q0 then T else 0) (g := fun q => if (i < n ∧ c < g i) ∧ ¬ (q < n ∧ c < g q) then (R i q : Int) * (g i - g q) else 0) 6 (fun q _ => by
        (try dsimp only)
        by_cases e2 : q = q0
        · subst e2
          rw [if_pos rfl, if_pos ⟨⟨hi0, hU1'⟩, by omega⟩]
          have h2 := hgap i hi0 hU1'
          have h3 := Int.mul_le_mul_of_nonneg_right (show (1 : Int) ≤ (R i q : Int) by omega) (show 0 ≤ g i - g q by omega)
          omega
        · rw [if_neg e2]
          exact hterm i q)
      rw [jw_one 6 (show q0 < 6 by omega) (fun q _ hq => if_neg hq), if_pos rfl] at h1
      exact h1
    · rw [if_neg e]
      exact jw_nn 6 (fun q _ => hterm i q)) (by omega) (by
    (try dsimp only)
    rw [if_pos rfl]
    have h1 := jw_lt1 (f := fun q => if q = q0 then T else 0) (g := fun q => if (i0 < n ∧ c < g i0) ∧ ¬ (q < n ∧ c < g q) then (R i0 q : Int) * (g i0 - g q) else 0) (k := q0) 6 (fun q _ => by
        (try dsimp only)
        by_cases e2 : q = q0
        · subst e2
          rw [if_pos rfl, if_pos ⟨⟨hi0, hU1'⟩, by omega⟩]
          have h2 := hgap i0 hi0 hU1'
          have h3 := Int.mul_le_mul_of_nonneg_right (show (1 : Int) ≤ (R i0 q : Int) by omega) (show 0 ≤ g i0 - g q by omega)
          omega
        · rw [if_neg e2]
          exact hterm i0 q) (by omega) (by
        (try dsimp only)
        rw [if_pos rfl, if_pos ⟨⟨hi0, hU1'⟩, by omega⟩]
        have h2 := hgap i0 hi0 hU1'
        have h3 := Int.mul_le_mul_of_nonneg_right (show (1 : Int) ≤ (R i0 q0 : Int) by omega) (show 0 ≤ g i0 - g q0 by omega)
        omega)
    rw [jw_one 6 (show q0 < 6 by omega) (fun q _ hq => if_neg hq), if_pos rfl] at h1
    exact h1)
  rw [jw_one 6 (show i0 < 6 by omega) (fun i _ hi => if_neg hi), if_pos rfl] at h0
  omega
theorem jw_su_c (c : Nat) : ∀ n : Nat, jn_su (fun _ => c) n = n * c
  | 0 => by simp [jn_su]
  | n + 1 => by
    simp only [jn_su, jw_su_c c n]
    rw [Nat.add_mul, Nat.one_mul]
/-- so none is above (n - 1) T -/
theorem jw_high {R : Nat → Nat → Nat} {n bp k : Nat} {g : Nat → Int} {T : Int} (h : jw_N R n) (hc : jw_cut R n) (hbp : bp < n) (hk : k < 6) (hT : 0 ≤ T) (hg : ∀ i, i < n → i ≠ bp → jn_sz1 (fun j => jm_A R n i j * g j) 6 = if i = k then T else 0) (hb : g bp = 0) : ∀ i, i < n → g i ≤ ((n - 1 : Nat) : Int) * T := by
  have key : ∀ r : Nat, (∀ i, i < n → g i ≤ (r : Int) * T) ∨ r + 1 ≤ jn_su (fun i => if g i ≤ (r : Int) * T then 1 else 0) n := by
    intro r
    induction r with
    | zero =>
      right
      have := jw_su_pos (f := fun i => if g i ≤ ((0 : Nat) : Int) * T then 1 else 0) n hbp (by
        (try dsimp only)
        rw [if_pos (by rw [hb]; simp)]
        omega)
      omega
    | succ r ih =>
      have hr : (((r + 1 : Nat) : Int)) * T = (r : Int) * T + T := by
        rw [Int.natCast_succ, Int.add_mul, Int.one_mul]
      have hr0 := Int.mul_nonneg (show (0 : Int) ≤ (r : Int) by omega) hT
      rw [hr]
      by_cases hall : ∀ i, i < n → g i ≤ (r : Int) * T
      · exact Or.inl fun i hi => by have := hall i hi; omega
      · right
        have ih2 := ih.resolve_left hall
        have hex : ∃ q, q < n ∧ (r : Int) * T < g q := by
          apply Classical.byContradiction
          intro hno
          apply hall
          intro i hi
          apply Classical.byContradiction
          intro h2
          exact hno ⟨i, hi, by omega⟩
        obtain ⟨q, hq, h1, h2⟩ := jw_gap h hc hbp hk hT hg (c := (r : Int) * T) (by omega) hex
        have := jw_su_lt (f := fun i => if g i ≤ (r : Int) * T then 1 else 0) (g := fun i => if g i ≤ (r : Int) * T + T then 1 else 0) (k := q) n (fun i _ => by
          (try dsimp only)
          by_cases c1 : g i ≤ (r : Int) * T
          · rw [if_pos c1, if_pos (by omega)]
            exact Nat.le_refl _
          · rw [if_neg c1]
            exact Nat.zero_le _) hq (by
          (try dsimp only)
          rw [if_neg (by omega), if_pos h2]
          omega)
        omega
  rcases key (n - 1) with h1 | h1
  · exact h1
  · intro i hi
    apply Classical.byContradiction
    intro h2
    have h3 := jw_su_lt (f := fun i => if g i ≤ ((n - 1 : Nat) : Int) * T then 1 else 0) (g := fun _ => 1) (k := i) n (fun j _ => by (try dsimp only); split <;> omega) hi (by
      (try dsimp only)
      rw [if_neg h2]
      omega)
    rw [jw_su_c] at h3
    have := h.1
    omega
/-! the net seen from a post -/
def jw_H (R : Nat → Nat → Nat) (n bp : Nat) : Prop := jw_N R n ∧ jw_cut R n ∧ bp < n
def jw_Sb (n bp : Nat) : Nat := 2 ^ n - 1 - 2 ^ bp
def jw_T (R : Nat → Nat → Nat) (n bp : Nat) : Int := jw_D (jm_A R n) (jw_Sb n bp) (jw_Sb n bp)
def jw_C (R : Nat → Nat → Nat) (n bp j k : Nat) : Int := jw_cf (jm_A R n) (jw_Sb n bp) j k
theorem jw_Sbit0 : ∀ n, n < 7 → ∀ bp, bp < 6 → ∀ i, i < 6 → (¬ bp < n ∨ (jw_Sb n bp / 2 ^ i % 2 = if i < n ∧ ¬ i = bp then 1 else 0)) := by decide +kernel
theorem jw_Sbit1 : ∀ n, n < 7 → ∀ bp, bp < 6 → (¬ bp < n ∨ (jw_Sb n bp < 2 ^ n ∧ jw_Sb n bp / 2 ^ bp % 2 = 0)) := by decide +kernel
theorem jw_Sbit (n : Nat) (hn : n < 7) (bp : Nat) (hb : bp < 6) (i : Nat) (hi : i < 6) : ¬ bp < n ∨ ((jw_Sb n bp / 2 ^ i % 2 = 1 ↔ i < n ∧ i ≠ bp) ∧ jw_Sb n bp < 2 ^ n ∧ jw_Sb n bp / 2 ^ bp % 2 = 0) := by
  rcases jw_Sbit0 n hn bp hb i hi with h | h
  · exact Or.inl h
  · rcases jw_Sbit1 n hn bp hb with h1 | h1
    · exact Or.inl h1
    · right
      refine ⟨?_, h1⟩
      rw [h]
      by_cases c : i < n ∧ ¬ i = bp
      · rw [if_pos c]
        exact ⟨fun _ => c, fun _ => rfl⟩
      · rw [if_neg c]
        exact ⟨fun h2 => absurd h2 (by decide), fun h2 => absurd h2 c⟩
theorem jw_Sb_lt {n bp : Nat} (hn : n ≤ 6) (hb : bp < n) : jw_Sb n bp < 64 := by
  have h64 : 2 ^ n ≤ 2 ^ 6 := Nat.pow_le_pow_right (by omega) hn
  have := ((jw_Sbit n (by omega) bp (by omega) 0 (by omega)).resolve_left (fun h => h hb)).2.1
  omega
theorem jw_Sbi {n bp i : Nat} (hn : n ≤ 6) (hb : bp < n) (hi : i < 6) : jw_Sb n bp / 2 ^ i % 2 = 1 ↔ i < n ∧ i ≠ bp := ((jw_Sbit n (by omega) bp (by omega) i hi).resolve_left (fun h => h hb)).1
theorem jw_lkH {R : Nat → Nat → Nat} {n bp : Nat} (h : jw_H R n bp) : jw_lk (jm_A R n) (jw_Sb n bp) := by
  obtain ⟨h1, h2, h3⟩ := h
  have hn := h1.1
  have := (jw_Sbit n (by omega) bp (by omega) 0 (by omega)).resolve_left (fun h => h h3)
  exact jw_lkN h1 h2 this.2.1 h3 this.2.2
theorem jw_T_pos {R : Nat → Nat → Nat} {n bp : Nat} (h : jw_H R n bp) : 0 < jw_T R n bp := jw_pos (jw_dmN h.1) (jw_Sb n bp + 1) _ (by omega) (jw_Sb_lt h.1.1.2 h.2.2) (jw_lkH h)
theorem jw_C_nn {R : Nat → Nat → Nat} {n bp j k : Nat} (h : jw_H R n bp) (hj : j < 6) (hk : k < 6) : 0 ≤ jw_C R n bp j k := jw_cf_nn (jw_dmN h.1) (jw_Sb_lt h.1.1.2 h.2.2) (jw_lkH h) hj hk
theorem jw_C_off {R : Nat → Nat → Nat} {n bp j k : Nat} (h : jw_H R n bp) (hj : j < 6) (hk : k < 6) (hz : n ≤ j ∨ j = bp ∨ n ≤ k ∨ k = bp) : jw_C R n bp j k = 0 := by
  have h1 := jw_Sbi (i := j) h.1.1.2 h.2.2 hj
  have h2 := jw_Sbi (i := k) h.1.1.2 h.2.2 hk
  refine jw_cf_off ?_
  rw [h1, h2]
  omega
theorem jw_C_sy {R : Nat → Nat → Nat} {n bp : Nat} (h : jw_H R n bp) (j k : Nat) : jw_C R n bp j k = jw_C R n bp k j := jw_cf_sy h.1 (jw_Sb_lt h.1.1.2 h.2.2) j k
theorem jw_C_le {R : Nat → Nat → Nat} {n bp j k : Nat} (h : jw_H R n bp) (hj : j < 6) (hk : k < 6) : jw_C R n bp j k ≤ 5 * jw_T R n bp := by
  have hT := jw_T_pos h
  have hn := h.1.1
  have hS := jw_Sb_lt h.1.1.2 h.2.2
  by_cases c : n ≤ j ∨ j = bp ∨ n ≤ k ∨ k = bp
  · rw [jw_C_off h hj hk c]
    omega
  · have hbk := (jw_Sbi (i := k) h.1.1.2 h.2.2 hk).mpr (by omega)
    have h1 := jw_high (g := fun j => jw_C R n bp j k) (T := jw_T R n bp) h.1 h.2.1 h.2.2 hk (by omega) (fun i hi hne => by
      have hbi := (jw_Sbi (i := i) h.1.1.2 h.2.2 (by omega)).mpr ⟨hi, hne⟩
      exact jw_adj (A := jm_A R n) hS (by omega) hk hbi hbk) (jw_C_off h (by have := h.2.2; omega) hk (Or.inr (Or.inl rfl))) j (by omega)
    have h2 := Int.mul_le_mul_of_nonneg_right (show ((n - 1 : Nat) : Int) ≤ 5 by omega) (show 0 ≤ jw_T R n bp by omega)
    (try dsimp only at h1)
    omega
/-- the table of cofactors, T times the table's inverse -/
theorem jw_AC {R : Nat → Nat → Nat} {n bp i : Nat} {v : Nat → Int} (h : jw_H R n bp) (hi : i < n) (hne : i ≠ bp) : jn_sz1 (fun j => jm_A R n i j * jn_sz1 (fun k => jw_C R n bp j k * v k) 6) 6 = jw_T R n bp * v i := by
  have hn := h.1.1
  exact jw_MC (jw_Sb_lt h.1.1.2 h.2.2) (by omega) ((jw_Sbi h.1.1.2 h.2.2 (by omega)).mpr ⟨hi, hne⟩)
theorem jw_CA {R : Nat → Nat → Nat} {n bp j : Nat} {x : Nat → Int} (h : jw_H R n bp) (hj : j < n) (hne : j ≠ bp) (hx : ∀ i, i < 6 → n ≤ i ∨ i = bp → x i = 0) : jn_sz1 (fun k => jw_C R n bp j k * jn_sz1 (fun i => jm_A R n k i * x i) 6) 6 = jw_T R n bp * x j := by
  have hn := h.1.1
  exact jw_CM h.1 (jw_Sb_lt h.1.1.2 h.2.2) (by omega) ((jw_Sbi h.1.1.2 h.2.2 (by omega)).mpr ⟨hj, hne⟩) (fun i hi hb => hx i hi (by
    rw [jw_Sbi h.1.1.2 h.2.2 hi] at hb
    omega))
theorem jw_T_le {R : Nat → Nat → Nat} {n bp : Nat} (h : jw_H R n bp) : jw_T R n bp ≤ 1073741824 := by
  have hn := h.1.1
  have hb := h.2.2
  have hS := (jw_Sbit n (by omega) bp (by omega) 0 (by omega)).resolve_left (fun h' => h' hb)
  have h1 := (jw_det (c := fun _ => 0) h.1.1.2 h.1.2.1 hS.2.1 hS.2.1 rfl).2
  have hpc : ∀ n, n < 7 → ∀ bp, bp < 6 → (¬ bp < n ∨ jm_pc (jw_Sb n bp) ≤ 5) := by decide +kernel
  have h2 : 64 ^ jm_pc (jw_Sb n bp) ≤ 64 ^ 5 := Nat.pow_le_pow_right (by omega) ((hpc n (by omega) bp (by have := h.2.2; omega)).resolve_left (fun h' => h' h.2.2))
  have e : 64 ^ 5 = 1073741824 := by decide
  unfold jw_T
  omega
