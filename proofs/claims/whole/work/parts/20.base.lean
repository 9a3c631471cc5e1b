/-! Small rows for the simulation. -/
theorem jn_kk_n : jn_kk none = none := rfl
theorem jn_kk_i {x : Int32} : jn_kk (some (.int x)) = some (.int x) := rfl
theorem jn_kk_r {x : Nat} : jn_kk (some (.ref x)) = some (.ref x) := rfl
theorem jn_kk_u : jn_kk (some .null) = some .null := rfl
theorem jn_kk_l {x : Int64} : jn_kk (some (.long x)) = none := rfl
theorem jn_sm_0 {n : Nat} : jn_sm n [] = true := rfl
theorem jn_sm_i {n : Nat} {x : Int32} {st : List Value} : jn_sm (n + 1) (.int x :: st) = jn_sm n st := by
  simp [jn_sm, Value.category]
theorem jn_sm_r {n : Nat} {x : Nat} {st : List Value} : jn_sm (n + 1) (.ref x :: st) = jn_sm n st := by
  simp [jn_sm, Value.category]
theorem jn_sm_u {n : Nat} {st : List Value} : jn_sm (n + 1) (.null :: st) = jn_sm n st := by
  simp [jn_sm, Value.category]
theorem jn_sm_l {n : Nat} {x : Int64} {st : List Value} : jn_sm (n + 2) (.long x :: st) = jn_sm n st := by
  simp [jn_sm, Value.category]
/-- a boolean's int -/
def jn_bI (b : Bool) : Int32 := if b then nI 1 else nI 0
theorem jn_bI_t : jn_bI true = nI 1 := rfl
theorem jn_bI_f : jn_bI false = nI 0 := rfl
theorem jn_bI_0 {b : Bool} : (jn_bI b = nI 0) = (b = false) := by cases b <;> simp [jn_bI] <;> decide
theorem jn_zb_b {b : Bool} : jn_zb (jn_bI b) = true := by cases b <;> decide
/-! memory: reads behind writes -/
theorem jn_rd_wr_s {M : jn_M} {a : Nat} {x y : jn_Ce} (h : jn_rd M a = some x) : jn_rd (jn_wr M a y) a = some y := by
  obtain ⟨h1, h2, -⟩ := jn_rd_lt h
  unfold jn_rd jn_wr
  dsimp only
  rw [if_neg (by omega), List.getElem?_set_self h2]
theorem jn_rd_wr_n {M : jn_M} {a b : Nat} {x y : jn_Ce} (h : jn_rd M a = some x) (hb : b ≠ a) : jn_rd (jn_wr M a y) b = jn_rd M b := by
  obtain ⟨h1, -, -⟩ := jn_rd_lt h
  unfold jn_rd jn_wr
  dsimp only
  by_cases h2 : b < M.2.1
  · rw [if_pos h2, if_pos h2]
  · rw [if_neg h2, if_neg h2, List.getElem?_set_ne (by omega)]
theorem jn_wr_wr {M : jn_M} {a : Nat} {x y : jn_Ce} : jn_wr (jn_wr M a x) a y = jn_wr M a y := by
  unfold jn_wr
  dsimp only
  rw [List.set_set]
theorem jn_wr_self {M : jn_M} {a : Nat} {x : jn_Ce} (h : jn_rd M a = some x) : jn_wr M a x = M := by
  obtain ⟨-, h2, h3⟩ := jn_rd_lt h
  unfold jn_wr
  have e : M.2.2.set (a - M.2.1) x = M.2.2 := by
    apply List.ext_getElem?
    intro i
    by_cases hi : i = a - M.2.1
    · subst hi
      rw [List.getElem?_set_self h2, h3]
    · rw [List.getElem?_set_ne (Ne.symm hi)]
  rw [e]
theorem jn_rs_wr_s {M : jn_M} {a : Nat} {x y : jn_Ce} (h : jn_rd M a = some x) (ha : a ≠ M.1.1) : jn_rs (jn_wr M a y) a = some y := by
  unfold jn_rs
  rw [if_neg (by show ¬ a = M.1.1; exact ha)]
  exact jn_rd_wr_s h
theorem jn_rs_wr_n {M : jn_M} {a b : Nat} {x y : jn_Ce} (h : jn_rd M a = some x) (hb : b ≠ a) : jn_rs (jn_wr M a y) b = jn_rs M b := by
  unfold jn_rs
  show (if b = M.1.1 then _ else _) = _
  rw [jn_rd_wr_n h hb]
  rfl
theorem jn_upd_step {F G : Nat → Int32} {i : Nat} {x : Int32} (hx : x = F i) : upd (fun q => if q < i then F q else G q) i x = fun q => if q < i + 1 then F q else G q := by
  subst hx
  funext q
  unfold upd
  by_cases h : q = i
  · subst h
    simp
  · rw [if_neg h]
    dsimp only
    by_cases h2 : q < i
    · rw [if_pos h2, if_pos (by omega)]
    · rw [if_neg h2, if_neg (by omega)]
theorem jn_or_pow {s p : Nat} (hs : s < 64) (hp : p < 6) : nI s ||| nI (2 ^ p) = nI (s ||| 2 ^ p) := by
  have key : ∀ s, s < 64 → ∀ p, p < 6 → nI s ||| nI (2 ^ p) = nI (s ||| 2 ^ p) := by decide +kernel
  exact key s hs p hp
theorem jn_bit {s i : Nat} (hs : s < 2147483648) (hi : i < 31) : (nI s >>> (nI i &&& 31)) &&& nI 1 = nI (s / 2 ^ i % 2) := by
  rw [jn_shr hs hi, jn_and1 (Nat.lt_of_le_of_lt (Nat.div_le_self _ _) (by omega))]
theorem jn_cp_on {n0 n1 a b k : Nat} {f g : Nat → Int32} (ha : a < 2147483648) (hb : b < 2147483648) (hk : k < 2147483648) : jn_cpO (some (jn_aI n0 f)) (some (jn_aI n1 g)) (nI a) (nI b) (nI k) = decide (a + k ≤ n0 ∧ b + k ≤ n1) := by
  rw [jn_cp_o, jn_cl_n ha, jn_cl_n hb, jn_cl_n hk]
  have h1 : ¬ nI a < 0 := nI_pos ha
  have h2 : ¬ nI b < 0 := nI_pos hb
  have h3 : ¬ nI k < 0 := nI_pos hk
  simp only [h1, h2, h3, not_false_eq_true, true_and]
theorem jn_cp_sn {n0 n1 a b k : Nat} {f g : Nat → Int32} (ha : a < 2147483648) (hb : b < 2147483648) (hk : k < 2147483648) : jn_cpS (some (jn_aI n0 f)) (some (jn_aI n1 g)) (nI a) (nI b) (nI k) = jn_aI n1 (va_cpy f g a b k) := by
  rw [jn_cp_s, jn_cl_n ha, jn_cl_n hb, jn_cl_n hk]
theorem jn_sz1_le {f : Nat → Int} {c : Int} (hc : 0 ≤ c) : ∀ n : Nat, (∀ i, i < n → -c ≤ f i ∧ f i ≤ c) → -(c * n) ≤ jn_sz1 f n ∧ jn_sz1 f n ≤ c * n
  | 0, _ => by simp [jn_sz1]
  | n + 1, h => by
    have h1 := jn_sz1_le hc n (fun i hi => h i (by omega))
    have h2 := h n (by omega)
    simp only [jn_sz1, Int.natCast_succ, Int.mul_add, Int.mul_one]
    omega
theorem jn_andd {s i : Nat} (hs : s < 4294967296) : nI (s / 2 ^ i) &&& nI 1 = nI (s / 2 ^ i % 2) := jn_and1 (Nat.lt_of_le_of_lt (Nat.div_le_self _ _) hs)
theorem jn_updL_step {F G : Nat → Int64} {i : Nat} {x : Int64} (hx : x = F i) : vp_updL (fun q => if q < i then F q else G q) i x = fun q => if q < i + 1 then F q else G q := by
  subst hx
  funext q
  unfold vp_updL
  by_cases h : q = i
  · subst h
    simp
  · rw [if_neg h]
    dsimp only
    by_cases h2 : q < i
    · rw [if_pos h2, if_pos (by omega)]
    · rw [if_neg h2, if_neg (by omega)]
