/-! fall: the passes. -/
theorem jm_mi_sum {R : Nat → Nat → Nat} {n i : Nat} {t : Int} {v : Nat → Int} (h : jw_N R n) (hi : i < 6) : jn_sz1 (jm_mi R n i t v) 6 = jn_sz1 v 6 := by
  have e : jn_sz1 (jm_mi R n i t v) 6 = jn_sz1 (fun q => v q + (fun j => -t * jm_A R n i j) q) 6 := jw_cg 6 (fun q _ => by
    rw [jw_mi_e h, jw_A_sy h q i]
    show v q - t * jm_A R n i q = v q + -t * jm_A R n i q
    rw [Int.neg_mul]
    omega)
  rw [e, jw_add, jw_mul, jw_row0 h hi, Int.mul_zero, Int.add_zero]
/-- whether a post lends in a fall -/
def jm_fg (R : Nat → Nat → Nat) (n rest : Nat) (v : Nat → Int) (i : Nat) : Bool := decide (i ≠ rest ∧ 0 < jn_su (R i) n ∧ (jn_su (R i) n : Int) ≤ v i)
/-- a pass: numbers, lends, whether any -/
def jm_fq (R : Nat → Nat → Nat) (n rest : Nat) (s : (Nat → Int) × Nat × Bool) : Nat → (Nat → Int) × Nat × Bool
  | 0 => (s.1, s.2.1, false)
  | i + 1 => if jm_fg R n rest (jm_fq R n rest s i).1 i = true then (jm_mi R n i ((jm_fq R n rest s i).1 i / (jn_su (R i) n : Int)) (jm_fq R n rest s i).1, (jm_fq R n rest s i).2.1 + ((jm_fq R n rest s i).1 i / (jn_su (R i) n : Int)).toNat, true) else jm_fq R n rest s i
def jm_fk (R : Nat → Nat → Nat) (n rest : Nat) (v : Nat → Int) : Nat → (Nat → Int) × Nat × Bool
  | 0 => (v, 0, true)
  | k + 1 => jm_fq R n rest (jm_fk R n rest v k) n
theorem jm_fq_s {R : Nat → Nat → Nat} {n rest i : Nat} {s : (Nat → Int) × Nat × Bool} : jm_fq R n rest s (i + 1) = if jm_fg R n rest (jm_fq R n rest s i).1 i = true then (jm_mi R n i ((jm_fq R n rest s i).1 i / (jn_su (R i) n : Int)) (jm_fq R n rest s i).1, (jm_fq R n rest s i).2.1 + ((jm_fq R n rest s i).1 i / (jn_su (R i) n : Int)).toNat, true) else jm_fq R n rest s i := rfl
theorem jm_fk_s {R : Nat → Nat → Nat} {n rest k : Nat} {v : Nat → Int} : jm_fk R n rest v (k + 1) = jm_fq R n rest (jm_fk R n rest v k) n := rfl
theorem jm_fq_c (R : Nat → Nat → Nat) (n rest : Nat) (s : (Nat → Int) × Nat × Bool) (i : Nat) : (i ≠ rest ∧ 0 < jn_su (R i) n ∧ ∃ a : Nat, (jm_fq R n rest s i).1 i = (a : Int) ∧ jn_su (R i) n ≤ a ∧ jm_fq R n rest s (i + 1) = (jm_mi R n i ((a / jn_su (R i) n : Nat) : Int) (jm_fq R n rest s i).1, (jm_fq R n rest s i).2.1 + a / jn_su (R i) n, true)) ∨ (¬ (i ≠ rest ∧ 0 < jn_su (R i) n ∧ (jn_su (R i) n : Int) ≤ (jm_fq R n rest s i).1 i) ∧ jm_fq R n rest s (i + 1) = jm_fq R n rest s i) := by
  rw [jm_fq_s]
  generalize jm_fq R n rest s i = u
  by_cases c : i ≠ rest ∧ 0 < jn_su (R i) n ∧ (jn_su (R i) n : Int) ≤ u.1 i
  · left
    have e : jm_fg R n rest u.1 i = true := by
      unfold jm_fg
      rw [decide_eq_true_eq]
      exact c
    obtain ⟨c1, c2, c3⟩ := c
    obtain ⟨a, ha⟩ : ∃ a : Nat, u.1 i = (a : Int) := ⟨(u.1 i).toNat, by omega⟩
    refine ⟨c1, c2, a, ha, by omega, ?_⟩
    rw [if_pos e, ha, ← Int.natCast_ediv, Int.toNat_natCast]
  · right
    refine ⟨c, ?_⟩
    rw [if_neg (by
      unfold jm_fg
      rw [decide_eq_true_eq]
      exact c)]
/-- what every pass keeps -/
def jm_fG (n : Nat) (v : Nat → Int) : Prop := (∀ q, q < 6 → -100000 ≤ v q) ∧ jn_sz1 v 6 ≤ 600000 ∧ ∀ q, n ≤ q → q < 6 → v q = 0
theorem jm_fG_hi {n : Nat} {v : Nat → Int} (h : jm_fG n v) : ∀ q, q < 6 → v q ≤ 1100000 := by
  intro q hq
  have h0 := h.1 0 (by omega)
  have h1 := h.1 1 (by omega)
  have h2 := h.1 2 (by omega)
  have h3 := h.1 3 (by omega)
  have h4 := h.1 4 (by omega)
  have h5 := h.1 5 (by omega)
  have hs : (0 : Int) + v 0 + v 1 + v 2 + v 3 + v 4 + v 5 ≤ 600000 := h.2.1
  have hc : q = 0 ∨ q = 1 ∨ q = 2 ∨ q = 3 ∨ q = 4 ∨ q = 5 := by omega
  rcases hc with rfl | rfl | rfl | rfl | rfl | rfl <;> omega
theorem jm_fG_st {R : Nat → Nat → Nat} {n i a : Nat} {v : Nat → Int} (h : jw_N R n) (hG : jm_fG n v) (hi : i < n) (ha : v i = (a : Int)) : jm_fG n (jm_mi R n i ((a / jn_su (R i) n : Nat) : Int) v) := by
  have hn := h.1
  refine ⟨fun q hq => ?_, ?_, fun q h1 h2 => ?_⟩
  · have hv := hG.1 q hq
    rw [jw_mi_e h, jw_A_e h]
    by_cases c : i = q
    · subst c
      rw [if_pos rfl, h.2.2.2.1 i, ha]
      have m : ((a / jn_su (R i) n : Nat) : Int) * (jn_su (R i) n : Int) ≤ (a : Int) := by
        exact_mod_cast Nat.div_mul_le_self a (jn_su (R i) n)
      show -100000 ≤ (a : Int) - ((a / jn_su (R i) n : Nat) : Int) * ((jn_su (R i) n : Int) + -((0 : Nat) : Int))
      rw [show (jn_su (R i) n : Int) + -((0 : Nat) : Int) = (jn_su (R i) n : Int) by omega]
      omega
    · rw [if_neg c]
      have m : 0 ≤ ((a / jn_su (R i) n : Nat) : Int) * (R q i : Int) := Int.mul_nonneg (Int.natCast_nonneg _) (Int.natCast_nonneg _)
      rw [show (0 : Int) + -(R q i : Int) = -(R q i : Int) by omega, Int.mul_neg]
      omega
  · rw [jm_mi_sum h (by omega)]
    exact hG.2.1
  · rw [jm_mi_hi hi h1]
    exact hG.2.2 q h1 h2
theorem jm_fq_G {R : Nat → Nat → Nat} {n rest : Nat} {s : (Nat → Int) × Nat × Bool} (h : jw_N R n) (hs : jm_fG n s.1) : ∀ i, i ≤ n → jm_fG n (jm_fq R n rest s i).1 ∧ s.2.1 ≤ (jm_fq R n rest s i).2.1 ∧ (jm_fq R n rest s i).2.1 ≤ s.2.1 + 1100000 * i ∧ ((jm_fq R n rest s i).2.2 = true → s.2.1 + 1 ≤ (jm_fq R n rest s i).2.1)
  | 0 => fun _ => ⟨hs, Nat.le_refl _, Nat.le_refl _, fun h => Bool.noConfusion h⟩
  | i + 1 => fun hi => by
    obtain ⟨g1, g2, g3, g4⟩ := jm_fq_G (rest := rest) h hs i (by omega)
    have hn := h.1
    rcases jm_fq_c R n rest s i with ⟨c1, c2, a, c3, c4, c5⟩ | ⟨c1, c2⟩
    · have hu := jm_fG_hi g1 i (by omega)
      have hst := jm_fG_st (i := i) (a := a) h g1 (by omega) c3
      have d1 : 1 ≤ a / jn_su (R i) n := Nat.div_pos c4 c2
      have d2 : a / jn_su (R i) n ≤ a := Nat.div_le_self _ _
      rw [c5]
      generalize a / jn_su (R i) n = T at *
      rw [c3] at hu
      refine ⟨hst, ?_, ?_, fun _ => ?_⟩
      · show s.2.1 ≤ (jm_fq R n rest s i).2.1 + T
        omega
      · show (jm_fq R n rest s i).2.1 + T ≤ _
        omega
      · show s.2.1 + 1 ≤ (jm_fq R n rest s i).2.1 + T
        omega
    · rw [c2]
      exact ⟨g1, g2, by omega, g4⟩
theorem jm_fk_G {R : Nat → Nat → Nat} {n rest : Nat} {v : Nat → Int} (h : jw_N R n) (hv : jm_fG n v) : ∀ k, jm_fG n (jm_fk R n rest v k).1
  | 0 => hv
  | k + 1 => (jm_fq_G h (jm_fk_G h hv k) n (Nat.le_refl n)).1
theorem jm_fq_cg {R : Nat → Nat → Nat} {n rest : Nat} {s s' : (Nat → Int) × Nat × Bool} (hn : n ≤ 6) (h1 : ∀ q, q < 6 → s.1 q = s'.1 q) (h2 : s.2.1 = s'.2.1) : ∀ i, i ≤ n → (∀ q, q < 6 → (jm_fq R n rest s i).1 q = (jm_fq R n rest s' i).1 q) ∧ (jm_fq R n rest s i).2 = (jm_fq R n rest s' i).2
  | 0 => fun _ => ⟨h1, by
    show (s.2.1, false) = (s'.2.1, false)
    rw [h2]⟩
  | i + 1 => fun hi => by
    obtain ⟨i1, i2⟩ := jm_fq_cg (R := R) (rest := rest) hn h1 h2 i (by omega)
    rw [jm_fq_s, jm_fq_s]
    generalize jm_fq R n rest s i = u at *
    generalize jm_fq R n rest s' i = u' at *
    have hv := i1 i (by omega)
    have hg : jm_fg R n rest u.1 i = jm_fg R n rest u'.1 i := by
      unfold jm_fg
      rw [hv]
    rw [hg]
    cases jm_fg R n rest u'.1 i with
    | false =>
      rw [if_neg (by decide), if_neg (by decide)]
      exact ⟨i1, i2⟩
    | true =>
      rw [if_pos rfl, if_pos rfl]
      refine ⟨fun q hq => ?_, ?_⟩
      · show jm_mi R n i (u.1 i / (jn_su (R i) n : Int)) u.1 q = jm_mi R n i (u'.1 i / (jn_su (R i) n : Int)) u'.1 q
        rw [hv]
        exact jm_mi_cg (by omega) hq i1
      · show (u.2.1 + (u.1 i / (jn_su (R i) n : Int)).toNat, true) = (u'.2.1 + (u'.1 i / (jn_su (R i) n : Int)).toNat, true)
        rw [hv, i2]
theorem jm_fk_cg {R : Nat → Nat → Nat} {n rest : Nat} {v w : Nat → Int} (hn : n ≤ 6) (h : ∀ q, q < 6 → v q = w q) : ∀ k, (∀ q, q < 6 → (jm_fk R n rest v k).1 q = (jm_fk R n rest w k).1 q) ∧ (jm_fk R n rest v k).2 = (jm_fk R n rest w k).2
  | 0 => ⟨h, rfl⟩
  | k + 1 => by
    have ih := jm_fk_cg (R := R) (rest := rest) hn h k
    exact jm_fq_cg hn ih.1 (congrArg (fun x => x.1) ih.2) n (Nat.le_refl n)
/-- how many passes there are -/
theorem jm_fK {R : Nat → Nat → Nat} {n rest : Nat} {v : Nat → Int} (h : jw_N R n) (hv : jm_fG n v) : ∃ K, 1 ≤ K ∧ K ≤ 100001 ∧ (∀ k, k < K → (jm_fk R n rest v k).2.2 = true ∧ (jm_fk R n rest v k).2.1 ≤ 100000) ∧ ((jm_fk R n rest v K).2.2 = false ∨ 100000 < (jm_fk R n rest v K).2.1) ∧ (jm_fk R n rest v K).2.1 ≤ 7000000 := by
  have key : ∀ j, (∃ K, 1 ≤ K ∧ K ≤ j ∧ (∀ k, k < K → (jm_fk R n rest v k).2.2 = true ∧ (jm_fk R n rest v k).2.1 ≤ 100000) ∧ ((jm_fk R n rest v K).2.2 = false ∨ 100000 < (jm_fk R n rest v K).2.1) ∧ (jm_fk R n rest v K).2.1 ≤ 7000000) ∨ ((∀ k, k ≤ j → (jm_fk R n rest v k).2.2 = true ∧ (jm_fk R n rest v k).2.1 ≤ 100000) ∧ j ≤ (jm_fk R n rest v j).2.1) := by
    intro j
    induction j with
    | zero =>
      right
      refine ⟨fun k hk => ?_, Nat.le_refl 0⟩
      obtain rfl : k = 0 := by omega
      exact ⟨rfl, Nat.zero_le _⟩
    | succ j ih =>
      rcases ih with ⟨K, k1, k2, k3⟩ | ⟨a1, a2⟩
      · exact Or.inl ⟨K, k1, by omega, k3⟩
      · have g := jm_fq_G (rest := rest) h (jm_fk_G (rest := rest) h hv j) n (Nat.le_refl n)
        rw [← jm_fk_s] at g
        obtain ⟨-, g2, g3, g4⟩ := g
        have hn := h.1
        have aj := (a1 j (Nat.le_refl j)).2
        by_cases c : (jm_fk R n rest v (j + 1)).2.2 = true ∧ (jm_fk R n rest v (j + 1)).2.1 ≤ 100000
        · right
          refine ⟨fun k hk => ?_, ?_⟩
          · by_cases e : k = j + 1
            · rw [e]
              exact c
            · exact a1 k (by omega)
          · have := g4 c.1
            omega
        · left
          refine ⟨j + 1, by omega, Nat.le_refl _, fun k hk => a1 k (by omega), ?_, by omega⟩
          cases hm : (jm_fk R n rest v (j + 1)).2.2 with
          | false => exact Or.inl rfl
          | true =>
            refine Or.inr ?_
            rcases Nat.lt_or_ge 100000 (jm_fk R n rest v (j + 1)).2.1 with h9 | h9
            · exact h9
            · exact absurd ⟨hm, h9⟩ c
  rcases key 100001 with h1 | ⟨a1, a2⟩
  · exact h1
  · have := (a1 100001 (Nat.le_refl _)).2
    omega
theorem jm_fG_cg {n : Nat} {v w : Nat → Int} (h : jm_fG n v) (hvw : ∀ q, q < 6 → w q = v q) : jm_fG n w := ⟨fun q hq => by rw [hvw q hq]; exact h.1 q hq, by rw [jw_cg 6 hvw]; exact h.2.1, fun q h1 h2 => by rw [hvw q h2]; exact h.2.2 q h1 h2⟩
