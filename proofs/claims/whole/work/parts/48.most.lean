/-! Lends and borrows till no post is in debt: the most that all can lend. -/
def jw_Ax (R : Nat → Nat → Nat) (n : Nat) (x : Nat → Int) (q : Nat) : Int := jn_sz1 (fun j => jm_A R n q j * x j) 6
theorem jw_Ax_add {R : Nat → Nat → Nat} {n q : Nat} (x y : Nat → Int) : jw_Ax R n (fun j => x j + y j) q = jw_Ax R n x q + jw_Ax R n y q := by
  unfold jw_Ax
  rw [← jw_add]
  apply jw_cg
  intro j _
  (try dsimp only)
  grind
theorem jw_Ax_mul {R : Nat → Nat → Nat} {n q : Nat} (c : Int) (x : Nat → Int) : jw_Ax R n (fun j => c * x j) q = c * jw_Ax R n x q := by
  unfold jw_Ax
  rw [← jw_mul]
  apply jw_cg
  intro j _
  (try dsimp only)
  grind
theorem jw_Ax_sub {R : Nat → Nat → Nat} {n q : Nat} (x y : Nat → Int) : jw_Ax R n (fun j => x j - y j) q = jw_Ax R n x q - jw_Ax R n y q := by
  have h1 := jw_Ax_add (R := R) (n := n) (q := q) (fun j => x j - y j) y
  have e : (fun j => x j - y j + y j) = x := by funext j; omega
  (try dsimp only at h1)
  rw [e] at h1
  omega
theorem jw_Ax_cg {R : Nat → Nat → Nat} {n q : Nat} {x y : Nat → Int} (h : ∀ j, j < 6 → x j = y j) : jw_Ax R n x q = jw_Ax R n y q := by
  unfold jw_Ax
  apply jw_cg
  intro j hj
  rw [h j hj]
theorem jw_Ax_one {R : Nat → Nat → Nat} {n q p : Nat} {t : Int} {x : Nat → Int} (hp : p < 6) : jw_Ax R n (fun j => if j = p then x j + t else x j) q = jw_Ax R n x q + t * jm_A R n q p := by
  have e : ∀ j, j < 6 → jm_A R n q j * (if j = p then x j + t else x j) = jm_A R n q j * x j + (if j = p then t * jm_A R n q p else 0) := by
    intro j _
    by_cases c : j = p
    · subst c
      rw [if_pos rfl, if_pos rfl]
      grind
    · rw [if_neg c, if_neg c]
      omega
  unfold jw_Ax
  rw [jw_cg 6 e, jw_add, jw_one 6 hp (fun j _ hj => if_neg hj), if_pos rfl]
theorem jw_Ax_abs {R : Nat → Nat → Nat} {n q K : Nat} {x : Nat → Int} (h : jw_N R n) (hK : ∀ j, j < 6 → (x j).natAbs ≤ K) : (jw_Ax R n x q).natAbs ≤ K * 64 := by
  have h1 := jw_sabs (fun j => jm_A R n q j * x j) (fun j => (K : Int) * ((jm_A R n q j).natAbs : Int)) 6 (fun j hj => by
    rw [Int.natAbs_mul, Nat.mul_comm]
    have h2 := Nat.mul_le_mul_right (jm_A R n q j).natAbs (hK j hj)
    exact_mod_cast h2)
  rw [jw_mul] at h1
  have h3 : (K : Int) * jn_sz1 (fun j => ((jm_A R n q j).natAbs : Int)) 6 ≤ (K : Int) * 64 := Int.mul_le_mul_of_nonneg_left (jw_A_l1 h.1.2 h.2.1) (Int.natCast_nonneg K)
  have h4 : ((jw_Ax R n x q).natAbs : Int) ≤ (K : Int) * 64 := Int.le_trans h1 h3
  exact_mod_cast h4
theorem jw_Ax_lo {R : Nat → Nat → Nat} {n q : Nat} {f : Nat → Int} {T : Int} (h : jw_N R n) (hq : q < 6) (hT : 0 ≤ T) (hf : ∀ j, j < 6 → 0 ≤ f j ∧ f j ≤ T) : -(24 * T) ≤ jw_Ax R n f q := by
  have h1 : jn_sz1 (fun j => -((R q j : Int) * T)) 6 ≤ jw_Ax R n f q := by
    unfold jw_Ax
    apply jw_le
    intro j hj
    (try dsimp only)
    obtain ⟨f1, f2⟩ := hf j hj
    rw [jw_A_e h]
    have h2 := Int.mul_le_mul_of_nonneg_left f2 (show (0 : Int) ≤ (R q j : Int) by omega)
    have h3 : 0 ≤ (if j = q then (jn_su (R q) n : Int) else 0) * f j := Int.mul_nonneg (by split <;> omega) f1
    have h4 : ((if j = q then (jn_su (R q) n : Int) else 0) + -(R q j : Int)) * f j = (if j = q then (jn_su (R q) n : Int) else 0) * f j - (R q j : Int) * f j := by grind
    omega
  have e : jn_sz1 (fun j => -((R q j : Int) * T)) 6 = -(T * (jn_su (R q) 6 : Int)) := by
    rw [jw_neg, jw_cast, ← jw_mul]
    congr 1
    apply jw_cg
    intro j _
    rw [Int.mul_comm]
  have h5 : jn_su (R q) 6 ≤ 4 * 6 := jn_su_le 6 (fun j _ => h.2.1 q j)
  have h6 := Int.mul_le_mul_of_nonneg_left (show (jn_su (R q) 6 : Int) ≤ 24 by omega) hT
  rw [e] at h1
  omega
theorem jw_sz6 {f : Nat → Int} {n : Nat} (hn : n ≤ 6) (h : ∀ i, n ≤ i → i < 6 → f i = 0) : jn_sz1 f 6 = jn_sz1 f n := by
  have key : ∀ k, n + k ≤ 6 → jn_sz1 f (n + k) = jn_sz1 f n := by
    intro k
    induction k with
    | zero => intro _; rfl
    | succ k ih =>
      intro hk
      show jn_sz1 f (n + k) + f (n + k) = _
      rw [ih (by omega), h (n + k) (by omega) (by omega)]
      omega
  have := key (6 - n) (by omega)
  rwa [show n + (6 - n) = 6 by omega] at this
/-- a lend is the table's column -/
theorem jw_mi_e {R : Nat → Nat → Nat} {n p q : Nat} {t : Int} {v : Nat → Int} (h : jw_N R n) : jm_mi R n p t v q = v q - t * jm_A R n q p := by
  unfold jm_mi jm_A
  by_cases c : q = p
  · subst c
    rw [if_pos rfl, if_pos rfl, h.2.2.2.1 q]
    split <;> grind
  · rw [if_neg c, if_neg c]
    by_cases c2 : q < n
    · rw [if_pos c2, h.2.2.1 p q]
      grind
    · rw [if_neg c2, h.2.2.2.2 q p (by omega)]
      grind
def jw_cv (R : Nat → Nat → Nat) (n bp : Nat) (v : Nat → Int) (j : Nat) : Int := jn_sz1 (fun k => jw_C R n bp j k * v k) 6
/-- no post lends more than this -/
def jw_x0 (R : Nat → Nat → Nat) (n bp : Nat) (v : Nat → Int) (j : Nat) : Int := jw_cv R n bp v j / jw_T R n bp
/-- lends that leave no debt beside bp -/
def jw_ok (R : Nat → Nat → Nat) (n bp : Nat) (v z : Nat → Int) : Prop := (∀ j, j < 6 → n ≤ j ∨ j = bp → z j = 0) ∧ ∀ q, q < n → q ≠ bp → 0 ≤ v q - jw_Ax R n z q
theorem jw_cv_off {R : Nat → Nat → Nat} {n bp j : Nat} {v : Nat → Int} (h : jw_H R n bp) (hj : j < 6) (hz : n ≤ j ∨ j = bp) : jw_cv R n bp v j = 0 := by
  unfold jw_cv
  rw [jw_cg 6 (g := fun _ => 0) (fun k hk => by
    rw [jw_C_off h hj hk (by omega)]
    simp), jw_0]
theorem jw_x0_off {R : Nat → Nat → Nat} {n bp j : Nat} {v : Nat → Int} (h : jw_H R n bp) (hj : j < 6) (hz : n ≤ j ∨ j = bp) : jw_x0 R n bp v j = 0 := by
  unfold jw_x0
  rw [jw_cv_off h hj hz, Int.zero_ediv]
theorem jw_ok_le {R : Nat → Nat → Nat} {n bp : Nat} {v z : Nat → Int} (h : jw_H R n bp) (hz : jw_ok R n bp v z) : ∀ j, j < 6 → z j ≤ jw_x0 R n bp v j := by
  intro j hj
  by_cases c : n ≤ j ∨ j = bp
  · rw [hz.1 j hj c, jw_x0_off h hj c]
    exact Int.le_refl _
  · have hT := jw_T_pos h
    unfold jw_x0
    rw [Int.le_ediv_iff_mul_le hT]
    have e := jw_CA (x := z) h (show j < n by omega) (by omega) hz.1
    rw [Int.mul_comm, ← e]
    unfold jw_cv
    apply jw_le
    intro k hk
    (try dsimp only)
    by_cases c2 : n ≤ k ∨ k = bp
    · rw [jw_C_off h hj hk (by omega)]
      simp
    · have h1 := hz.2 k (by omega) (by omega)
      unfold jw_Ax at h1
      exact Int.mul_le_mul_of_nonneg_left (by omega) (jw_C_nn h hj hk)
theorem jw_cv_abs {R : Nat → Nat → Nat} {n bp j : Nat} {v : Nat → Int} {V : Int} (h : jw_H R n bp) (hj : j < 6) (hV : 0 ≤ V) (hv : ∀ q, q < 6 → -V ≤ v q ∧ v q ≤ V) : -(30 * V * jw_T R n bp) ≤ jw_cv R n bp v j ∧ jw_cv R n bp v j ≤ 30 * V * jw_T R n bp := by
  have hT := jw_T_pos h
  have key : ∀ k, k < 6 → -(5 * jw_T R n bp * V) ≤ jw_C R n bp j k * v k ∧ jw_C R n bp j k * v k ≤ 5 * jw_T R n bp * V := by
    intro k hk
    obtain ⟨v1, v2⟩ := hv k hk
    have c1 := jw_C_nn h hj hk
    have c2 := jw_C_le h hj hk
    have a1 := Int.mul_le_mul_of_nonneg_left v2 c1
    have a2 := Int.mul_le_mul_of_nonneg_left v1 c1
    have a3 := Int.mul_le_mul_of_nonneg_right c2 hV
    rw [Int.mul_neg] at a2
    omega
  have h1 := jn_sz1_le (f := fun k => jw_C R n bp j k * v k) (c := 5 * jw_T R n bp * V) (Int.mul_nonneg (by omega) hV) 6 key
  have e : 5 * jw_T R n bp * V * ((6 : Nat) : Int) = 30 * V * jw_T R n bp := by grind
  rw [e] at h1
  exact h1
theorem jw_x0_abs {R : Nat → Nat → Nat} {n bp j : Nat} {v : Nat → Int} {V : Int} (h : jw_H R n bp) (hj : j < 6) (hV : 0 ≤ V) (hv : ∀ q, q < 6 → -V ≤ v q ∧ v q ≤ V) : -(30 * V) ≤ jw_x0 R n bp v j ∧ jw_x0 R n bp v j ≤ 30 * V := by
  have hT := jw_T_pos h
  obtain ⟨h1, h2⟩ := jw_cv_abs h hj hV hv
  unfold jw_x0
  constructor
  · rw [Int.le_ediv_iff_mul_le hT, Int.neg_mul]
    exact h1
  · have h3 : jw_cv R n bp v j / jw_T R n bp < 30 * V + 1 := by
      apply Int.ediv_lt_of_lt_mul hT
      rw [Int.add_mul, Int.one_mul]
      omega
    omega
/-- what is enough to lend less -/
def jw_w (R : Nat → Nat → Nat) (n bp j : Nat) : Int := (jw_cv R n bp (fun _ => 48) j + (jw_T R n bp - 1)) / jw_T R n bp
theorem jw_w_le {R : Nat → Nat → Nat} {n bp j : Nat} (h : jw_H R n bp) (hj : j < 6) : 0 ≤ jw_w R n bp j ∧ jw_w R n bp j ≤ 1440 := by
  have hT := jw_T_pos h
  have h1 := (jw_cv_abs (v := fun _ => 48) (V := 48) h hj (by omega) (fun q _ => ⟨by (try dsimp only); omega, by (try dsimp only); omega⟩)).2
  have h2 : 0 ≤ jw_cv R n bp (fun _ => 48) j := jw_nn 6 (fun k hk => Int.mul_nonneg (jw_C_nn h hj hk) (show (0 : Int) ≤ 48 by omega))
  unfold jw_w
  constructor
  · exact Int.ediv_nonneg (by omega) (by omega)
  · have h3 : (jw_cv R n bp (fun _ => 48) j + (jw_T R n bp - 1)) / jw_T R n bp < 1441 := by
      apply Int.ediv_lt_of_lt_mul hT
      omega
    omega
theorem jw_low {R : Nat → Nat → Nat} {n bp : Nat} {v : Nat → Int} (h : jw_H R n bp) : jw_ok R n bp v (fun j => jw_x0 R n bp v j - jw_w R n bp j) := by
  have hT := jw_T_pos h
  refine ⟨fun j hj hz => ?_, fun q hq hne => ?_⟩
  · (try dsimp only)
    rw [jw_x0_off h hj hz]
    unfold jw_w
    rw [jw_cv_off h hj hz, Int.zero_add, Int.ediv_eq_zero_of_lt (by omega) (by omega)]
    rfl
  · have hn := h.1.1
    have e1 : ∀ j, j < 6 → jw_T R n bp * (jw_x0 R n bp v j - jw_w R n bp j) = (jw_cv R n bp v j - jw_cv R n bp v j % jw_T R n bp) - (jw_cv R n bp (fun _ => 48) j + ((jw_T R n bp - 1) - (jw_cv R n bp (fun _ => 48) j + (jw_T R n bp - 1)) % jw_T R n bp)) := by
      intro j _
      have a1 := Int.mul_ediv_add_emod (jw_cv R n bp v j) (jw_T R n bp)
      have a2 := Int.mul_ediv_add_emod (jw_cv R n bp (fun _ => 48) j + (jw_T R n bp - 1)) (jw_T R n bp)
      rw [Int.mul_sub]
      unfold jw_x0 jw_w
      omega
    have e2 : jw_T R n bp * jw_Ax R n (fun j => jw_x0 R n bp v j - jw_w R n bp j) q = (jw_T R n bp * v q - jw_Ax R n (fun j => jw_cv R n bp v j % jw_T R n bp) q) - (jw_T R n bp * 48 + jw_Ax R n (fun j => (jw_T R n bp - 1) - (jw_cv R n bp (fun _ => 48) j + (jw_T R n bp - 1)) % jw_T R n bp) q) := by
      rw [← jw_Ax_mul, jw_Ax_cg e1, jw_Ax_sub, jw_Ax_sub, jw_Ax_add]
      have a1 : jw_Ax R n (fun j => jw_cv R n bp v j) q = jw_T R n bp * v q := jw_AC h hq hne
      have a2 : jw_Ax R n (fun j => jw_cv R n bp (fun _ => 48) j) q = jw_T R n bp * 48 := jw_AC (v := fun _ => 48) h hq hne
      rw [a1, a2]
    have h1 := jw_Ax_lo (f := fun j => jw_cv R n bp v j % jw_T R n bp) (q := q) (T := jw_T R n bp) h.1 (by omega) (by omega) (fun j _ => by
      have b1 := Int.emod_nonneg (jw_cv R n bp v j) (show jw_T R n bp ≠ 0 by omega)
      have b2 := Int.emod_lt_of_pos (jw_cv R n bp v j) hT
      exact ⟨b1, by (try dsimp only); omega⟩)
    have h2 := jw_Ax_lo (f := fun j => (jw_T R n bp - 1) - (jw_cv R n bp (fun _ => 48) j + (jw_T R n bp - 1)) % jw_T R n bp) (q := q) (T := jw_T R n bp) h.1 (by omega) (by omega) (fun j _ => by
      have b1 := Int.emod_nonneg (jw_cv R n bp (fun _ => 48) j + (jw_T R n bp - 1)) (show jw_T R n bp ≠ 0 by omega)
      have b2 := Int.emod_lt_of_pos (jw_cv R n bp (fun _ => 48) j + (jw_T R n bp - 1)) hT
      (try dsimp only)
      omega)
    apply Classical.byContradiction
    intro hneg
    have h3 := Int.mul_le_mul_of_nonneg_left (show v q - jw_Ax R n (fun j => jw_x0 R n bp v j - jw_w R n bp j) q ≤ -1 by omega) (show 0 ≤ jw_T R n bp by omega)
    rw [Int.mul_sub] at h3
    omega
/-! the passes, with the lends -/
def jm_x1 (R : Nat → Nat → Nat) (n bp : Nat) (v x : Nat → Int) (p : Nat) : Nat → Int := if p = bp ∨ 0 ≤ v p ∨ jn_su (R p) n = 0 then x else fun j => if j = p then x j + v p / (jn_su (R p) n : Int) else x j
def jm_xp (R : Nat → Nat → Nat) (n bp : Nat) (v x : Nat → Int) : Nat → Nat → Int
  | 0 => x
  | k + 1 => jm_x1 R n bp (jm_bp R n bp v k) (jm_xp R n bp v x k) k
def jm_xt (R : Nat → Nat → Nat) (n bp : Nat) (w x : Nat → Int) : Nat → Nat → Int
  | 0 => x
  | r + 1 => jm_xp R n bp (jm_it R n bp w r) (jm_xt R n bp w x r) n
/-- numbers u behind lends x of v: x is beyond no bound, and above all that leave no debt -/
def jw_J (R : Nat → Nat → Nat) (n bp : Nat) (v u x : Nat → Int) : Prop := (∀ q, q < 6 → u q = v q - jw_Ax R n x q) ∧ (∀ j, j < 6 → n ≤ j ∨ j = bp → x j = 0) ∧ (∀ z, jw_ok R n bp v z → ∀ j, j < 6 → z j ≤ x j) ∧ ∀ j, j < 6 → x j ≤ jw_x0 R n bp v j
theorem jw_J_step {R : Nat → Nat → Nat} {n bp p : Nat} {v u x : Nat → Int} (h : jw_H R n bp) (hJ : jw_J R n bp v u x) (hp : p < n) : jw_J R n bp v (jm_b1 R n bp u p) (jm_x1 R n bp u x p) := by
  have hn := h.1.1
  unfold jm_b1 jm_x1
  by_cases c : p = bp ∨ 0 ≤ u p ∨ jn_su (R p) n = 0
  · rw [if_pos c, if_pos c]
    exact hJ
  · rw [if_neg c, if_neg c]
    obtain ⟨j1, j2, j3, j4⟩ := hJ
    have hr : (0 : Int) < (jn_su (R p) n : Int) := by omega
    have ht : u p / (jn_su (R p) n : Int) < 0 := Int.ediv_neg_of_neg_of_pos (by omega) hr
    refine ⟨fun q hq => ?_, fun j hj hz => ?_, fun z hz j hj => ?_, fun j hj => ?_⟩
    · rw [jw_mi_e h.1, jw_Ax_one (by omega), j1 q hq]
      omega
    · (try dsimp only)
      rw [if_neg (by omega)]
      exact j2 j hj hz
    · (try dsimp only)
      by_cases e : j = p
      · subst e
        rw [if_pos rfl]
        have h1 := hz.2 j hp (by omega)
        have h2 := j1 j (by omega)
        -- about post j only its own lends differ to its loss
        have h3 : jw_Ax R n x j - jw_Ax R n z j ≤ (jn_su (R j) n : Int) * (x j - z j) := by
          rw [← jw_Ax_sub]
          have h4 : jw_Ax R n (fun i => x i - z i) j ≤ jn_sz1 (fun i => if i = j then (jn_su (R j) n : Int) * (x j - z j) else 0) 6 := by
            unfold jw_Ax
            apply jw_le
            intro i hi
            (try dsimp only)
            have h5 := j3 z hz i hi
            by_cases e2 : i = j
            · subst e2
              rw [if_pos rfl]
              unfold jm_A
              rw [if_pos rfl]
              exact Int.le_refl _
            · rw [if_neg e2]
              have h6 := (jw_dmN h.1).1 j i (Ne.symm e2)
              have h7 := Int.mul_nonneg (show 0 ≤ -jm_A R n j i by omega) (show 0 ≤ x i - z i by omega)
              rw [Int.neg_mul] at h7
              omega
          rw [jw_one 6 hj (fun i _ hi => if_neg hi), if_pos rfl] at h4
          exact h4
        have h8 : z j - x j ≤ u j / (jn_su (R j) n : Int) := by
          rw [Int.le_ediv_iff_mul_le hr]
          have e9 : (z j - x j) * (jn_su (R j) n : Int) = -((jn_su (R j) n : Int) * (x j - z j)) := by grind
          omega
        omega
      · rw [if_neg e]
        exact j3 z hz j hj
    · (try dsimp only)
      by_cases e : j = p
      · subst e
        rw [if_pos rfl]
        have := j4 j hj
        omega
      · rw [if_neg e]
        exact j4 j hj
theorem jw_J_pass {R : Nat → Nat → Nat} {n bp : Nat} {v u x : Nat → Int} (h : jw_H R n bp) (hJ : jw_J R n bp v u x) : ∀ k, k ≤ n → jw_J R n bp v (jm_bp R n bp u k) (jm_xp R n bp u x k)
  | 0, _ => hJ
  | k + 1, hk => jw_J_step h (jw_J_pass h hJ k (by omega)) (by omega)
theorem jw_J_it {R : Nat → Nat → Nat} {n bp : Nat} {v u x : Nat → Int} (h : jw_H R n bp) (hJ : jw_J R n bp v u x) : ∀ r, jw_J R n bp v (jm_it R n bp u r) (jm_xt R n bp u x r)
  | 0 => hJ
  | r + 1 => jw_J_pass h (jw_J_it h hJ r) n (Nat.le_refl n)
theorem jw_J_rng {R : Nat → Nat → Nat} {n bp : Nat} {v u x : Nat → Int} {V : Int} (h : jw_H R n bp) (hV : 0 ≤ V ∧ V ≤ 200100) (hv : ∀ q, q < 6 → -V ≤ v q ∧ v q ≤ V) (hJ : jw_J R n bp v u x) : (∀ j, j < 6 → -6004440 ≤ x j ∧ x j ≤ 6003000) ∧ ∀ q, q < 6 → -400000000 ≤ u q ∧ u q ≤ 400000000 := by
  obtain ⟨j1, j2, j3, j4⟩ := hJ
  have hx : ∀ j, j < 6 → -6004440 ≤ x j ∧ x j ≤ 6003000 := by
    intro j hj
    have h1 := j3 _ (jw_low h) j hj
    have h2 := j4 j hj
    have h3 := jw_w_le h hj
    have h4 := jw_x0_abs h hj hV.1 hv
    (try dsimp only at h1)
    omega
  refine ⟨hx, fun q hq => ?_⟩
  have h5 := jw_Ax_abs (R := R) (n := n) (q := q) (x := x) (K := 6004440) h.1 (fun j hj => by have := hx j hj; omega)
  have h6 := j1 q hq
  have h7 := hv q hq
  omega
/-- the sum of the lends falls -/
theorem jw_mu_pass {R : Nat → Nat → Nat} {n bp : Nat} {u x : Nat → Int} (hn : n ≤ 6) : ∀ k, k ≤ n → jn_sz1 (jm_xp R n bp u x k) 6 ≤ jn_sz1 x 6 - (if jm_bf R n bp u k = true then 1 else 0)
  | 0, _ => by
    show jn_sz1 x 6 ≤ jn_sz1 x 6 - (if false = true then 1 else 0)
    simp
  | k + 1, hk => by
    have ih := jw_mu_pass (R := R) (bp := bp) (u := u) (x := x) hn k (by omega)
    unfold jm_xp jm_bf jm_x1
    by_cases c : k = bp ∨ 0 ≤ jm_bp R n bp u k k ∨ jn_su (R k) n = 0
    · rw [if_pos c, if_pos c]
      exact ih
    · rw [if_neg c, if_neg c, if_pos rfl]
      have ht : jm_bp R n bp u k k / (jn_su (R k) n : Int) < 0 := Int.ediv_neg_of_neg_of_pos (by omega) (by omega)
      have e : ∀ j, j < 6 → (if j = k then jm_xp R n bp u x k j + jm_bp R n bp u k k / (jn_su (R k) n : Int) else jm_xp R n bp u x k j) = jm_xp R n bp u x k j + (if j = k then jm_bp R n bp u k k / (jn_su (R k) n : Int) else 0) := by
        intro j _
        split <;> omega
      rw [jw_cg 6 e, jw_add, jw_one 6 (show k < 6 by omega) (fun j _ hj => if_neg hj), if_pos rfl]
      split at ih <;> omega
theorem jw_mu_it {R : Nat → Nat → Nat} {n bp : Nat} {u x : Nat → Int} (hn : n ≤ 6) : ∀ r : Nat, (∀ k, k < r → jm_bf R n bp (jm_it R n bp u k) n = true) → jn_sz1 (jm_xt R n bp u x r) 6 ≤ jn_sz1 x 6 - (r : Int)
  | 0, _ => by
    show jn_sz1 x 6 ≤ _
    omega
  | r + 1, h => by
    have ih := jw_mu_it (x := x) hn r (fun k hk => h k (by omega))
    have h1 := jw_mu_pass (R := R) (bp := bp) (u := jm_it R n bp u r) (x := jm_xt R n bp u x r) hn n (Nat.le_refl n)
    rw [if_pos (h r (by omega))] at h1
    show jn_sz1 (jm_xp R n bp (jm_it R n bp u r) (jm_xt R n bp u x r) n) 6 ≤ _
    omega
theorem jw_first {P : Nat → Bool} : ∀ m : Nat, (∃ k, k < m ∧ P k = false) → ∃ N, N < m ∧ (∀ k, k < N → P k = true) ∧ P N = false
  | 0, h => by
    obtain ⟨k, hk, -⟩ := h
    exact absurd hk (Nat.not_lt_zero k)
  | m + 1, h => by
    by_cases c : ∃ k, k < m ∧ P k = false
    · obtain ⟨N, h1, h2, h3⟩ := jw_first m c
      exact ⟨N, by omega, h2, h3⟩
    · obtain ⟨k, hk, hP⟩ := h
      have hall : ∀ j, j < m → P j = true := fun j hj => by
        cases hPj : P j with
        | true => rfl
        | false => exact absurd ⟨j, hj, hPj⟩ c
      have : k = m := by
        apply Classical.byContradiction
        intro hne
        rw [hall k (by omega)] at hP
        cases hP
      subst this
      exact ⟨k, by omega, hall, hP⟩
/-- a pass in which none borrows -/
theorem jw_still {R : Nat → Nat → Nat} {n bp : Nat} {v : Nat → Int} : ∀ k, jm_bf R n bp v k = false → jm_bp R n bp v k = v ∧ ∀ p, p < k → p = bp ∨ 0 ≤ v p ∨ jn_su (R p) n = 0
  | 0, _ => ⟨rfl, fun p hp => absurd hp (Nat.not_lt_zero p)⟩
  | k + 1, h => by
    unfold jm_bf at h
    by_cases c : k = bp ∨ 0 ≤ jm_bp R n bp v k k ∨ jn_su (R k) n = 0
    · rw [if_pos c] at h
      obtain ⟨e1, e2⟩ := jw_still k h
      rw [e1] at c
      refine ⟨?_, fun p hp => ?_⟩
      · unfold jm_bp jm_b1
        rw [e1, if_pos c]
      · by_cases e : p = k
        · rw [e]
          exact c
        · exact e2 p (by omega)
    · rw [if_neg c] at h
      cases h
theorem jw_su_H {R : Nat → Nat → Nat} {n bp p : Nat} (h : jw_H R n bp) (hp : p < n) (hne : p ≠ bp) : 0 < jn_su (R p) n := by
  obtain ⟨i, q, hi, hq, h1, h2, h3⟩ := h.2.1 (fun j => decide (j = p)) ⟨p, hp, by simp⟩ ⟨bp, h.2.2, by simp; omega⟩
  have e : i = p := by simpa using h1
  subst e
  exact jw_su_pos n hq h3
/-- what the numbers come to, and the lends: the most that leave no debt -/
def jw_red (R : Nat → Nat → Nat) (n bp : Nat) (v u x : Nat → Int) : Prop := (∀ q, q < 6 → u q = v q - jw_Ax R n x q) ∧ (∀ j, j < 6 → n ≤ j ∨ j = bp → x j = 0) ∧ (∀ z, jw_ok R n bp v z → ∀ j, j < 6 → z j ≤ x j) ∧ ∀ q, q < n → q ≠ bp → 0 ≤ u q
theorem jw_red_ok {R : Nat → Nat → Nat} {n bp : Nat} {v u x : Nat → Int} (h : jw_red R n bp v u x) (hn : n ≤ 6) : jw_ok R n bp v x := ⟨h.2.1, fun q hq hne => by rw [← h.1 q (by omega)]; exact h.2.2.2 q hq hne⟩
theorem jw_red_uq {R : Nat → Nat → Nat} {n bp : Nat} {v u x u' x' : Nat → Int} (hn : n ≤ 6) (h : jw_red R n bp v u x) (h' : jw_red R n bp v u' x') : (∀ j, j < 6 → x j = x' j) ∧ ∀ q, q < 6 → u q = u' q := by
  have hx : ∀ j, j < 6 → x j = x' j := fun j hj => by
    have h1 := h.2.2.1 _ (jw_red_ok h' hn) j hj
    have h2 := h'.2.2.1 _ (jw_red_ok h hn) j hj
    omega
  refine ⟨hx, fun q hq => ?_⟩
  rw [h.1 q hq, h'.1 q hq, jw_Ax_cg hx]
/-- the start -/
theorem jw_mf_e {R : Nat → Nat → Nat} {n : Nat} {L v : Nat → Int} (h : jw_N R n) (q : Nat) : ∀ k, jm_mf R n L v k q = v q - jn_sz1 (fun j => jm_A R n q j * L j) k
  | 0 => by
    show v q = v q - 0
    omega
  | k + 1 => by
    unfold jm_mf
    rw [jw_mi_e h, jw_mf_e h q k]
    simp only [jn_sz1]
    grind
theorem jw_J0 {R : Nat → Nat → Nat} {n bp : Nat} {v : Nat → Int} (h : jw_H R n bp) : jw_J R n bp v (jm_mf R n (jw_x0 R n bp v) v n) (jw_x0 R n bp v) := by
  refine ⟨fun q hq => ?_, fun j hj hz => jw_x0_off h hj hz, fun z hz => jw_ok_le h hz, fun j _ => Int.le_refl _⟩
  rw [jw_mf_e h.1]
  unfold jw_Ax
  rw [jw_sz6 h.1.1.2 (fun i hi hi6 => by
    rw [jw_x0_off h hi6 (Or.inl hi)]
    simp)]
theorem jw_main {R : Nat → Nat → Nat} {n bp : Nat} {v : Nat → Int} (h : jw_H R n bp) : ∃ N, N < 10000 ∧ (∀ k, k < N → jm_bf R n bp (jm_it R n bp (jm_mf R n (jw_x0 R n bp v) v n) k) n = true) ∧ jm_bf R n bp (jm_it R n bp (jm_mf R n (jw_x0 R n bp v) v n) N) n = false ∧ jw_red R n bp v (jm_it R n bp (jm_mf R n (jw_x0 R n bp v) v n) (N + 1)) (jm_xt R n bp (jm_mf R n (jw_x0 R n bp v) v n) (jw_x0 R n bp v) (N + 1)) := by
  have hn := h.1.1
  have hJ := jw_J_it h (jw_J0 (v := v) h)
  obtain ⟨N, h1, h2, h3⟩ := jw_first (P := fun k => jm_bf R n bp (jm_it R n bp (jm_mf R n (jw_x0 R n bp v) v n) k) n) 10000 (by
    apply Classical.byContradiction
    intro hno
    have hall : ∀ k, k < 10000 → jm_bf R n bp (jm_it R n bp (jm_mf R n (jw_x0 R n bp v) v n) k) n = true := fun k hk => by
      cases hb : jm_bf R n bp (jm_it R n bp (jm_mf R n (jw_x0 R n bp v) v n) k) n with
      | true => rfl
      | false => exact absurd ⟨k, hk, hb⟩ hno
    have h4 := jw_mu_it (x := jw_x0 R n bp v) hn.2 10000 hall
    have h5 : jn_sz1 (fun j => jw_x0 R n bp v j + -1440) 6 ≤ jn_sz1 (jm_xt R n bp (jm_mf R n (jw_x0 R n bp v) v n) (jw_x0 R n bp v) 10000) 6 := by
      apply jw_le
      intro j hj
      have h6 := (hJ 10000).2.2.1 _ (jw_low h) j hj
      have h7 := jw_w_le h hj
      (try dsimp only at h6 ⊢)
      omega
    rw [jw_add] at h5
    have h8 : jn_sz1 (fun _ => (-1440 : Int)) 6 = -8640 := by decide
    rw [h8] at h5
    have h9 : jn_sz1 (fun j => jw_x0 R n bp v j) 6 = jn_sz1 (jw_x0 R n bp v) 6 := rfl
    omega)
  refine ⟨N, h1, h2, h3, ?_⟩
  obtain ⟨e1, e2⟩ := jw_still n h3
  have hJN := hJ (N + 1)
  refine ⟨hJN.1, hJN.2.1, hJN.2.2.1, fun q hq hne => ?_⟩
  show 0 ≤ jm_bp R n bp (jm_it R n bp (jm_mf R n (jw_x0 R n bp v) v n) N) n q
  rw [e1]
  have hs := jw_su_H h hq hne
  rcases e2 q hq with h4 | h4 | h4
  · exact absurd h4 hne
  · exact h4
  · omega
/-- vectors on the way -/
def jw_G (R : Nat → Nat → Nat) (n bp : Nat) (v u : Nat → Int) : Prop := ∃ x, jw_J R n bp v u x
theorem jw_G_cl {R : Nat → Nat → Nat} {n bp : Nat} {v : Nat → Int} {V : Int} (h : jw_H R n bp) (hV : 0 ≤ V ∧ V ≤ 200100) (hv : ∀ q, q < 6 → -V ≤ v q ∧ v q ≤ V) : jm_cl1 (jw_G R n bp v) R n bp := by
  have hn := h.1.1
  refine ⟨fun u ⟨x, hJ⟩ p hp => ?_, fun u p ⟨x, hJ⟩ hp => ⟨_, jw_J_step h hJ hp⟩⟩
  have := (jw_J_rng h hV hv hJ).2 p (by omega)
  omega
