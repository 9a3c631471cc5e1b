/-! The table's mirror: rows and columns change places. -/
def jw_h (R : Nat) : Nat → Nat → Int
  | 0, _ => 0
  | i + 1, p => if p = i then (if R / 2 ^ i % 2 = 1 then 1 else 0) else if R / 2 ^ i % 2 = 1 then -jw_h R i p else jw_h R i p
theorem jw_h6 : ∀ R, R < 64 → ∀ p, p < 6 → jw_h R 6 p = jw_g R p := by decide +kernel
theorem jw_h_ge {R : Nat} : ∀ i p, i ≤ p → jw_h R i p = 0
  | 0, _, _ => rfl
  | i + 1, p, h => by
    unfold jw_h
    rw [if_neg (by omega), jw_h_ge i p (by omega)]
    split <;> rfl
theorem jw_h_no {R p : Nat} (h : ¬ R / 2 ^ p % 2 = 1) : ∀ i, jw_h R i p = 0
  | 0 => rfl
  | i + 1 => by
    unfold jw_h
    rw [jw_h_no h i]
    split
    · rename_i e
      subst e
      rw [if_neg h]
    · split <;> rfl
theorem jw_gt1 : ∀ C, C < 64 → ∀ c, c < 6 → C < 2 ^ c → jw_g (C + 2 ^ c) c = 1 := by decide +kernel
theorem jw_gt2 : ∀ C, C < 64 → ∀ c, c < 6 → ∀ j, j < 6 → (C < 2 ^ c ∧ j ≠ c → jw_g (C + 2 ^ c) j = -jw_g C j) := by decide +kernel
theorem jw_gt3 : ∀ C, C < 64 → ∀ c, c < 6 → ∀ j, j < 6 → (¬ (C < 2 ^ c ∧ C / 2 ^ j % 2 = 1) ∨ (j < c ∧ 2 ^ j ≤ C)) := by decide +kernel
theorem jw_gt4 {C j : Nat} (h : ¬ C / 2 ^ j % 2 = 1) : jw_g C j = 0 := by
  unfold jw_g
  rw [if_neg (fun h' => h h'.2)]
theorem jw_lt64 {C c : Nat} (hc : c < 6) (h : C < 2 ^ c) : C < 64 := by
  have : 2 ^ c ≤ 2 ^ 6 := Nat.pow_le_pow_right (by omega) (by omega)
  omega
theorem jw_gtop {c : Nat} (hc : c < 6) {C : Nat} (h : C < 2 ^ c) : jw_g (C + 2 ^ c) c = 1 ∧ ∀ j, j < 6 → (j ≠ c → jw_g (C + 2 ^ c) j = -jw_g C j) ∧ (C / 2 ^ j % 2 = 1 → j < c ∧ 2 ^ j ≤ C) ∧ (¬ C / 2 ^ j % 2 = 1 → jw_g C j = 0) :=
  ⟨jw_gt1 C (jw_lt64 hc h) c hc h, fun j hj => ⟨fun h2 => jw_gt2 C (jw_lt64 hc h) c hc j hj ⟨h, h2⟩, fun h2 => (jw_gt3 C (jw_lt64 hc h) c hc j hj).resolve_left (fun h3 => h3 ⟨h, h2⟩), jw_gt4⟩⟩
theorem jw_col {A : Nat → Nat → Int} {R c : Nat} (hR : R < 64) (hc : c < 6) : ∀ i, i ≤ 6 → ∀ C, C < 2 ^ c → jw_om A R i (C + 2 ^ c) = jn_sz1 (fun p => jw_h R i p * (A p c * jw_om A (R - 2 ^ p) i C)) 6
  | 0, _, C, _ => by
    have : 0 < 2 ^ c := Nat.two_pow_pos c
    rw [jw_cg 6 (g := fun _ => 0) (fun p _ => by unfold jw_h; simp), jw_0]
    show (if C + 2 ^ c = 0 then (1 : Int) else 0) = 0
    rw [if_neg (by omega)]
  | i + 1, hi, C, hC => by
    by_cases b : R / 2 ^ i % 2 = 1
    · have hL : jw_om A R (i + 1) = jw_W (jw_om A R i) (A i) := by
        show (if R / 2 ^ i % 2 = 1 then jw_W (jw_om A R i) (A i) else jw_om A R i) = _
        rw [if_pos b]
      rw [hL]
      obtain ⟨g1, g2⟩ := jw_gtop hc hC
      -- the new row's share at column c, and at the others
      have e1 : jw_W (jw_om A R i) (A i) (C + 2 ^ c) = A i c * jw_om A R i C + jn_sz1 (fun j => -(jw_g C j * jn_sz1 (fun p => jw_h R i p * (A p c * jw_om A (R - 2 ^ p) i (C - 2 ^ j))) 6 * A i j)) 6 := by
        unfold jw_W
        have e2 : ∀ j, j < 6 → jw_g (C + 2 ^ c) j * jw_om A R i (C + 2 ^ c - 2 ^ j) * A i j = (if j = c then A i c * jw_om A R i C else 0) + -(jw_g C j * jn_sz1 (fun p => jw_h R i p * (A p c * jw_om A (R - 2 ^ p) i (C - 2 ^ j))) 6 * A i j) := by
          intro j hj
          obtain ⟨g3, g4, g5⟩ := g2 j hj
          by_cases hjc : j = c
          · subst hjc
            rw [if_pos rfl, g1, Nat.add_sub_cancel]
            have : ¬ C / 2 ^ j % 2 = 1 := fun h => by have := (g4 h).1; omega
            rw [g5 this]
            grind
          · rw [if_neg hjc, g3 hjc]
            by_cases hbj : C / 2 ^ j % 2 = 1
            · obtain ⟨g6, g7⟩ := g4 hbj
              rw [show C + 2 ^ c - 2 ^ j = C - 2 ^ j + 2 ^ c by omega, jw_col hR hc i (by omega) (C - 2 ^ j) (Nat.lt_of_le_of_lt (Nat.sub_le _ _) hC)]
              grind
            · rw [g5 hbj]
              grind
        rw [jw_cg 6 e2, jw_add, jw_one 6 hc (fun j _ hj => if_neg hj), if_pos rfl]
      rw [e1]
      -- exchange the sums
      have e3 : jn_sz1 (fun j => -(jw_g C j * jn_sz1 (fun p => jw_h R i p * (A p c * jw_om A (R - 2 ^ p) i (C - 2 ^ j))) 6 * A i j)) 6 = jn_sz1 (fun p => -(jw_h R i p * (A p c * jw_W (jw_om A (R - 2 ^ p) i) (A i) C))) 6 := by
        have e4 : ∀ j, j < 6 → -(jw_g C j * jn_sz1 (fun p => jw_h R i p * (A p c * jw_om A (R - 2 ^ p) i (C - 2 ^ j))) 6 * A i j) = jn_sz1 (fun p => -(jw_h R i p * A p c) * (jw_g C j * jw_om A (R - 2 ^ p) i (C - 2 ^ j) * A i j)) 6 := by
          intro j _
          have h := jw_mul (-(jw_g C j * A i j)) (fun p => jw_h R i p * (A p c * jw_om A (R - 2 ^ p) i (C - 2 ^ j))) 6
          rw [show -(jw_g C j * jn_sz1 (fun p => jw_h R i p * (A p c * jw_om A (R - 2 ^ p) i (C - 2 ^ j))) 6 * A i j) = -(jw_g C j * A i j) * jn_sz1 (fun p => jw_h R i p * (A p c * jw_om A (R - 2 ^ p) i (C - 2 ^ j))) 6 by grind, ← h]
          apply jw_cg
          intro p _
          grind
        rw [jw_cg 6 e4, jw_swap]
        apply jw_cg
        intro p _
        rw [jw_mul]
        unfold jw_W
        grind
      rw [e3]
      have e5 : ∀ p, p < 6 → jw_h R (i + 1) p * (A p c * jw_om A (R - 2 ^ p) (i + 1) C) = (if p = i then A i c * jw_om A R i C else 0) + -(jw_h R i p * (A p c * jw_W (jw_om A (R - 2 ^ p) i) (A i) C)) := by
        intro p hp
        by_cases hpi : p = i
        · subst hpi
          rw [if_pos rfl]
          have hb := jw_bit_sub R hR p hp b
          have e6 : jw_om A (R - 2 ^ p) (p + 1) = jw_om A R p := by
            have h2 := hb p hp
            rw [if_pos rfl] at h2
            show (if (R - 2 ^ p) / 2 ^ p % 2 = 1 then jw_W (jw_om A (R - 2 ^ p) p) (A p) else jw_om A (R - 2 ^ p) p) = _
            rw [if_neg (by omega)]
            exact jw_om_cg p (fun j hj => by
              have := hb j (by omega)
              rw [if_neg (by omega)] at this
              exact this)
          rw [e6, jw_h_ge p p (Nat.le_refl p)]
          rw [show jw_h R (p + 1) p = 1 by unfold jw_h; rw [if_pos rfl, if_pos b]]
          grind
        · rw [if_neg hpi]
          rw [show jw_h R (i + 1) p = -jw_h R i p by
            show (if p = i then _ else if R / 2 ^ i % 2 = 1 then -jw_h R i p else jw_h R i p) = _
            rw [if_neg hpi, if_pos b]]
          by_cases hbp : R / 2 ^ p % 2 = 1
          · have hb := jw_bit_sub R hR p hp hbp i (by omega)
            rw [if_neg (fun h => hpi h.symm), b] at hb
            rw [show jw_om A (R - 2 ^ p) (i + 1) = jw_W (jw_om A (R - 2 ^ p) i) (A i) by
              show (if (R - 2 ^ p) / 2 ^ i % 2 = 1 then _ else _) = _
              rw [if_pos hb]]
            grind
          · rw [jw_h_no hbp]
            grind
      rw [jw_cg 6 e5, jw_add, jw_one 6 (show i < 6 by omega) (fun j _ hj => if_neg hj), if_pos rfl]
    · rw [show jw_om A R (i + 1) = jw_om A R i by
        show (if R / 2 ^ i % 2 = 1 then _ else _) = _
        rw [if_neg b], jw_col hR hc i (by omega) C hC]
      apply jw_cg
      intro p hp
      by_cases hbp : R / 2 ^ p % 2 = 1
      · have hpi : p ≠ i := fun h => b (h ▸ hbp)
        have hb := jw_bit_sub R hR p hp hbp i (by omega)
        rw [if_neg (fun h => hpi h.symm)] at hb
        rw [show jw_om A (R - 2 ^ p) (i + 1) = jw_om A (R - 2 ^ p) i by
          show (if (R - 2 ^ p) / 2 ^ i % 2 = 1 then _ else _) = _
          rw [if_neg (by omega)]]
        rw [show jw_h R (i + 1) p = jw_h R i p by
          show (if p = i then _ else if R / 2 ^ i % 2 = 1 then _ else _) = _
          rw [if_neg hpi, if_neg b]]
      · rw [jw_h_no hbp, jw_h_no hbp]
        simp
theorem jw_om0 {A : Nat → Nat → Int} {R : Nat} : ∀ i, i ≤ 6 → jw_om A R i 0 = if R % 2 ^ i = 0 then 1 else 0
  | 0, _ => by
    show (if (0 : Nat) = 0 then (1 : Int) else 0) = _
    rw [if_pos rfl, if_pos (Nat.mod_one R)]
  | i + 1, hi => by
    have ih := jw_om0 (A := A) (R := R) i (by omega)
    have e : R % 2 ^ (i + 1) = R % 2 ^ i + 2 ^ i * (R / 2 ^ i % 2) := by
      rw [Nat.pow_succ, Nat.mod_mul]
    unfold jw_om
    by_cases b : R / 2 ^ i % 2 = 1
    · rw [if_pos b, if_neg (by rw [e, b]; have := Nat.two_pow_pos i; omega)]
      unfold jw_W
      rw [jw_cg 6 (g := fun _ => 0) (fun j hj => by
        have : jw_g 0 j = 0 := by unfold jw_g; simp
        rw [this]; simp), jw_0]
    · rw [if_neg b, ih, e, show R / 2 ^ i % 2 = 0 by omega, Nat.mul_zero, Nat.add_zero]
theorem jw_omE {A : Nat → Nat → Int} {s : Nat} : ∀ i, jw_om A 0 i s = if s = 0 then 1 else 0
  | 0 => rfl
  | i + 1 => by
    unfold jw_om
    rw [if_neg (by simp)]
    exact jw_omE i
theorem jw_top : ∀ C, C < 64 → C ≠ 0 → ∃ c, c < 6 ∧ C / 2 ^ c % 2 = 1 ∧ C - 2 ^ c < 2 ^ c ∧ 2 ^ c ≤ C ∧ jw_g C c = 1 := by decide +kernel
theorem jw_D_turn {A : Nat → Nat → Int} (hA : ∀ i j, A i j = A j i) : ∀ m C R, C < m → C < 64 → R < 64 → jw_D A R C = jw_D A C R
  | 0, _, _, h, _, _ => absurd h (Nat.not_lt_zero _)
  | m + 1, C, R, hm, hC, hR => by
    by_cases c0 : C = 0
    · subst c0
      unfold jw_D
      rw [jw_om0 6 (Nat.le_refl 6), jw_omE, Nat.mod_eq_of_lt hR]
    · obtain ⟨c, hc, hb, h1, h2, hg⟩ := jw_top C hC c0
      have e1 : jw_D A R C = jn_sz1 (fun p => jw_g R p * (A p c * jw_D A (R - 2 ^ p) (C - 2 ^ c))) 6 := by
        unfold jw_D
        have h := jw_col (A := A) hR hc 6 (Nat.le_refl 6) (C - 2 ^ c) h1
        rw [Nat.sub_add_cancel h2] at h
        rw [h]
        apply jw_cg
        intro p hp
        rw [jw_h6 R hR p hp]
      have e2 : jw_D A C R = jn_sz1 (fun p => jw_g R p * jw_D A (C - 2 ^ c) (R - 2 ^ p) * A c p) 6 := by
        unfold jw_D
        rw [jw_move hC hc hb, hg]
        dsimp only
        rw [Int.one_mul]
        rfl
      rw [e1, e2]
      apply jw_cg
      intro p hp
      have : 0 < 2 ^ c := Nat.two_pow_pos c
      rw [jw_D_turn hA m (C - 2 ^ c) (R - 2 ^ p) (by omega) (by omega) (Nat.lt_of_le_of_lt (Nat.sub_le _ _) hR), hA p c]
      grind
