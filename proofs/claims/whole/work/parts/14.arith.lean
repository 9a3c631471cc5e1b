/-! Arithmetic of nI n, jI z (ints) and lN n, jL z (longs): numbers not below 0, and any. -/
theorem jI_nat (n : Nat) : jI (n : Int) = nI n := Int32.ofInt_eq_ofNat
theorem jL_nat (n : Nat) : jL (n : Int) = lN n := Int64.ofInt_eq_ofNat
theorem jI_toInt {z : Int} (h1 : -2147483648 ≤ z) (h2 : z < 2147483648) : (jI z).toInt = z := Int32.toInt_ofInt_of_le h1 h2
theorem jL_toInt {z : Int} (h1 : -9223372036854775808 ≤ z) (h2 : z < 9223372036854775808) : (jL z).toInt = z := Int64.toInt_ofInt_of_le h1 h2
theorem jn_of_int (x : Int32) : ∃ z : Int, x = jI z ∧ -2147483648 ≤ z ∧ z < 2147483648 := ⟨x.toInt, (Int32.ofInt_toInt x).symm, Int32.le_toInt x, Int32.toInt_lt x⟩
theorem jI_add (a b : Int) : jI a + jI b = jI (a + b) := (Int32.ofInt_add a b).symm
theorem nIadd (a b : Nat) : nI a + nI b = nI (a + b) := by rw [← jI_nat, ← jI_nat, ← jI_nat, jI_add]; push_cast; rfl
theorem njIadd (a : Nat) (b : Int) : nI a + jI b = jI ((a : Int) + b) := by rw [← jI_nat, jI_add]
theorem jnIadd (a : Int) (b : Nat) : jI a + nI b = jI (a + (b : Int)) := by rw [← jI_nat, jI_add]
theorem jL_add (a b : Int) : jL a + jL b = jL (a + b) := (Int64.ofInt_add a b).symm
theorem nLadd (a b : Nat) : lN a + lN b = lN (a + b) := by rw [← jL_nat, ← jL_nat, ← jL_nat, jL_add]; push_cast; rfl
theorem njLadd (a : Nat) (b : Int) : lN a + jL b = jL ((a : Int) + b) := by rw [← jL_nat, jL_add]
theorem jnLadd (a : Int) (b : Nat) : jL a + lN b = jL (a + (b : Int)) := by rw [← jL_nat, jL_add]
theorem jI_sub (a b : Int) : jI a - jI b = jI (a - b) := (Int32.ofInt_sub a b).symm
theorem nIsub (a b : Nat) : nI a - nI b = jI ((a : Int) - (b : Int)) := by rw [← jI_nat, ← jI_nat, jI_sub]
theorem njIsub (a : Nat) (b : Int) : nI a - jI b = jI ((a : Int) - b) := by rw [← jI_nat, jI_sub]
theorem jnIsub (a : Int) (b : Nat) : jI a - nI b = jI (a - (b : Int)) := by rw [← jI_nat, jI_sub]
theorem jL_sub (a b : Int) : jL a - jL b = jL (a - b) := (Int64.ofInt_sub a b).symm
theorem nLsub (a b : Nat) : lN a - lN b = jL ((a : Int) - (b : Int)) := by rw [← jL_nat, ← jL_nat, jL_sub]
theorem njLsub (a : Nat) (b : Int) : lN a - jL b = jL ((a : Int) - b) := by rw [← jL_nat, jL_sub]
theorem jnLsub (a : Int) (b : Nat) : jL a - lN b = jL (a - (b : Int)) := by rw [← jL_nat, jL_sub]
theorem jI_mul (a b : Int) : jI a * jI b = jI (a * b) := (Int32.ofInt_mul a b).symm
theorem nImul (a b : Nat) : nI a * nI b = nI (a * b) := by rw [← jI_nat, ← jI_nat, ← jI_nat, jI_mul]; push_cast; rfl
theorem njImul (a : Nat) (b : Int) : nI a * jI b = jI ((a : Int) * b) := by rw [← jI_nat, jI_mul]
theorem jnImul (a : Int) (b : Nat) : jI a * nI b = jI (a * (b : Int)) := by rw [← jI_nat, jI_mul]
theorem jL_mul (a b : Int) : jL a * jL b = jL (a * b) := (Int64.ofInt_mul a b).symm
theorem nLmul (a b : Nat) : lN a * lN b = lN (a * b) := by rw [← jL_nat, ← jL_nat, ← jL_nat, jL_mul]; push_cast; rfl
theorem njLmul (a : Nat) (b : Int) : lN a * jL b = jL ((a : Int) * b) := by rw [← jL_nat, jL_mul]
theorem jnLmul (a : Int) (b : Nat) : jL a * lN b = jL (a * (b : Int)) := by rw [← jL_nat, jL_mul]
theorem jI_neg (a : Int) : -jI a = jI (-a) := (Int32.ofInt_neg a).symm
theorem nIneg (a : Nat) : -nI a = jI (-(a : Int)) := by rw [← jI_nat, jI_neg]
theorem jL_neg (a : Int) : -jL a = jL (-a) := (Int64.ofInt_neg a).symm
theorem nLneg (a : Nat) : -lN a = jL (-(a : Int)) := by rw [← jL_nat, jL_neg]
theorem jI_toIntN {n : Nat} (h : n < 2147483648) : (nI n).toInt = (n : Int) := by rw [← jI_nat]; exact jI_toInt (by omega) (by omega)
theorem jL_toIntN {n : Nat} (h : n < 9223372036854775808) : (lN n).toInt = (n : Int) := by rw [← jL_nat]; exact jL_toInt (by omega) (by omega)
theorem jIlt_jj {a : Int} {b : Int} (ha1 : -2147483648 ≤ a) (ha2 : a < 2147483648) (hb1 : -2147483648 ≤ b) (hb2 : b < 2147483648) : (jI a < jI b) = (a < b) := propext (by rw [Int32.lt_iff_toInt_lt, jI_toInt ha1 ha2, jI_toInt hb1 hb2])
theorem jIlt_jn {a : Int} {b : Nat} (ha1 : -2147483648 ≤ a) (ha2 : a < 2147483648) (hb2 : b < 2147483648) : (jI a < nI b) = (a < (b : Int)) := propext (by rw [Int32.lt_iff_toInt_lt, jI_toInt ha1 ha2, jI_toIntN hb2])
theorem jIlt_nj {a : Nat} {b : Int} (ha2 : a < 2147483648) (hb1 : -2147483648 ≤ b) (hb2 : b < 2147483648) : (nI a < jI b) = ((a : Int) < b) := propext (by rw [Int32.lt_iff_toInt_lt, jI_toIntN ha2, jI_toInt hb1 hb2])
theorem jIlt_nn {a : Nat} {b : Nat} (ha2 : a < 2147483648) (hb2 : b < 2147483648) : (nI a < nI b) = (a < b) := propext (by rw [Int32.lt_iff_toInt_lt, jI_toIntN ha2, jI_toIntN hb2]; omega)
theorem jIle_jj {a : Int} {b : Int} (ha1 : -2147483648 ≤ a) (ha2 : a < 2147483648) (hb1 : -2147483648 ≤ b) (hb2 : b < 2147483648) : (jI a ≤ jI b) = (a ≤ b) := propext (by rw [Int32.le_iff_toInt_le, jI_toInt ha1 ha2, jI_toInt hb1 hb2])
theorem jIle_jn {a : Int} {b : Nat} (ha1 : -2147483648 ≤ a) (ha2 : a < 2147483648) (hb2 : b < 2147483648) : (jI a ≤ nI b) = (a ≤ (b : Int)) := propext (by rw [Int32.le_iff_toInt_le, jI_toInt ha1 ha2, jI_toIntN hb2])
theorem jIle_nj {a : Nat} {b : Int} (ha2 : a < 2147483648) (hb1 : -2147483648 ≤ b) (hb2 : b < 2147483648) : (nI a ≤ jI b) = ((a : Int) ≤ b) := propext (by rw [Int32.le_iff_toInt_le, jI_toIntN ha2, jI_toInt hb1 hb2])
theorem jIle_nn {a : Nat} {b : Nat} (ha2 : a < 2147483648) (hb2 : b < 2147483648) : (nI a ≤ nI b) = (a ≤ b) := propext (by rw [Int32.le_iff_toInt_le, jI_toIntN ha2, jI_toIntN hb2]; omega)
theorem jIeq_jj {a : Int} {b : Int} (ha1 : -2147483648 ≤ a) (ha2 : a < 2147483648) (hb1 : -2147483648 ≤ b) (hb2 : b < 2147483648) : (jI a = jI b) = (a = b) := propext (by rw [← Int32.toInt_inj, jI_toInt ha1 ha2, jI_toInt hb1 hb2])
theorem jIeq_jn {a : Int} {b : Nat} (ha1 : -2147483648 ≤ a) (ha2 : a < 2147483648) (hb2 : b < 2147483648) : (jI a = nI b) = (a = (b : Int)) := propext (by rw [← Int32.toInt_inj, jI_toInt ha1 ha2, jI_toIntN hb2])
theorem jIeq_nj {a : Nat} {b : Int} (ha2 : a < 2147483648) (hb1 : -2147483648 ≤ b) (hb2 : b < 2147483648) : (nI a = jI b) = ((a : Int) = b) := propext (by rw [← Int32.toInt_inj, jI_toIntN ha2, jI_toInt hb1 hb2])
theorem jIeq_nn {a : Nat} {b : Nat} (ha2 : a < 2147483648) (hb2 : b < 2147483648) : (nI a = nI b) = (a = b) := propext (by rw [← Int32.toInt_inj, jI_toIntN ha2, jI_toIntN hb2]; omega)
theorem jLlt_jj {a : Int} {b : Int} (ha1 : -9223372036854775808 ≤ a) (ha2 : a < 9223372036854775808) (hb1 : -9223372036854775808 ≤ b) (hb2 : b < 9223372036854775808) : (jL a < jL b) = (a < b) := propext (by rw [Int64.lt_iff_toInt_lt, jL_toInt ha1 ha2, jL_toInt hb1 hb2])
theorem jLlt_jn {a : Int} {b : Nat} (ha1 : -9223372036854775808 ≤ a) (ha2 : a < 9223372036854775808) (hb2 : b < 9223372036854775808) : (jL a < lN b) = (a < (b : Int)) := propext (by rw [Int64.lt_iff_toInt_lt, jL_toInt ha1 ha2, jL_toIntN hb2])
theorem jLlt_nj {a : Nat} {b : Int} (ha2 : a < 9223372036854775808) (hb1 : -9223372036854775808 ≤ b) (hb2 : b < 9223372036854775808) : (lN a < jL b) = ((a : Int) < b) := propext (by rw [Int64.lt_iff_toInt_lt, jL_toIntN ha2, jL_toInt hb1 hb2])
theorem jLlt_nn {a : Nat} {b : Nat} (ha2 : a < 9223372036854775808) (hb2 : b < 9223372036854775808) : (lN a < lN b) = (a < b) := propext (by rw [Int64.lt_iff_toInt_lt, jL_toIntN ha2, jL_toIntN hb2]; omega)
theorem jLle_jj {a : Int} {b : Int} (ha1 : -9223372036854775808 ≤ a) (ha2 : a < 9223372036854775808) (hb1 : -9223372036854775808 ≤ b) (hb2 : b < 9223372036854775808) : (jL a ≤ jL b) = (a ≤ b) := propext (by rw [Int64.le_iff_toInt_le, jL_toInt ha1 ha2, jL_toInt hb1 hb2])
theorem jLle_jn {a : Int} {b : Nat} (ha1 : -9223372036854775808 ≤ a) (ha2 : a < 9223372036854775808) (hb2 : b < 9223372036854775808) : (jL a ≤ lN b) = (a ≤ (b : Int)) := propext (by rw [Int64.le_iff_toInt_le, jL_toInt ha1 ha2, jL_toIntN hb2])
theorem jLle_nj {a : Nat} {b : Int} (ha2 : a < 9223372036854775808) (hb1 : -9223372036854775808 ≤ b) (hb2 : b < 9223372036854775808) : (lN a ≤ jL b) = ((a : Int) ≤ b) := propext (by rw [Int64.le_iff_toInt_le, jL_toIntN ha2, jL_toInt hb1 hb2])
theorem jLle_nn {a : Nat} {b : Nat} (ha2 : a < 9223372036854775808) (hb2 : b < 9223372036854775808) : (lN a ≤ lN b) = (a ≤ b) := propext (by rw [Int64.le_iff_toInt_le, jL_toIntN ha2, jL_toIntN hb2]; omega)
theorem jLeq_jj {a : Int} {b : Int} (ha1 : -9223372036854775808 ≤ a) (ha2 : a < 9223372036854775808) (hb1 : -9223372036854775808 ≤ b) (hb2 : b < 9223372036854775808) : (jL a = jL b) = (a = b) := propext (by rw [← Int64.toInt_inj, jL_toInt ha1 ha2, jL_toInt hb1 hb2])
theorem jLeq_jn {a : Int} {b : Nat} (ha1 : -9223372036854775808 ≤ a) (ha2 : a < 9223372036854775808) (hb2 : b < 9223372036854775808) : (jL a = lN b) = (a = (b : Int)) := propext (by rw [← Int64.toInt_inj, jL_toInt ha1 ha2, jL_toIntN hb2])
theorem jLeq_nj {a : Nat} {b : Int} (ha2 : a < 9223372036854775808) (hb1 : -9223372036854775808 ≤ b) (hb2 : b < 9223372036854775808) : (lN a = jL b) = ((a : Int) = b) := propext (by rw [← Int64.toInt_inj, jL_toIntN ha2, jL_toInt hb1 hb2])
theorem jLeq_nn {a : Nat} {b : Nat} (ha2 : a < 9223372036854775808) (hb2 : b < 9223372036854775808) : (lN a = lN b) = (a = b) := propext (by rw [← Int64.toInt_inj, jL_toIntN ha2, jL_toIntN hb2]; omega)
theorem jn_i2l_j {z : Int} (h1 : -2147483648 ≤ z) (h2 : z < 2147483648) : (jI z).toInt64 = jL z := by
  rw [← Int64.toInt_inj, Int32.toInt_toInt64, jI_toInt h1 h2, jL_toInt (by omega) (by omega)]
theorem jn_i2l_n {n : Nat} (h : n < 2147483648) : (nI n).toInt64 = lN n := by
  rw [← Int64.toInt_inj, Int32.toInt_toInt64, jI_toIntN h, jL_toIntN (by omega)]
theorem jn_l2i_j (z : Int) : (jL z).toInt32 = jI z := Int64.toInt32_ofInt
theorem jn_l2i_n (n : Nat) : (lN n).toInt32 = nI n := by rw [← jL_nat, jn_l2i_j, jI_nat]
theorem jn_cl_n {n : Nat} (h : n < 2147483648) : (nI n).toNatClampNeg = n := nI_clamp h
theorem jn_cl_j {z : Int} (h1 : -2147483648 ≤ z) (h2 : z < 2147483648) : (jI z).toNatClampNeg = z.toNat := by
  show (jI z).toInt.toNat = _
  rw [jI_toInt h1 h2]
theorem jn_io_n {i n : Nat} (h : i < 2147483648) : jn_io (nI i) n = decide (i < n) := by
  unfold jn_io
  rw [jn_cl_n h]
  have h1 : ¬ nI i < 0 := nI_pos h
  simp only [h1, false_or]
  exact decide_eq_decide.mpr (by omega)
theorem jn_io_j {z : Int} {n : Nat} (h1 : -2147483648 ≤ z) (h2 : z < 2147483648) : jn_io (jI z) n = decide (0 ≤ z ∧ z < (n : Int)) := by
  unfold jn_io
  rw [jn_cl_j h1 h2]
  have h0 : (jI z < 0) = (z < 0) := by
    have := jIlt_jj (b := 0) h1 h2 (by omega) (by omega)
    exact this
  simp only [h0]
  exact decide_eq_decide.mpr (by omega)
theorem jI_0 : (0 : Int32) = nI 0 := rfl
theorem jI_1 : (1 : Int32) = nI 1 := rfl
theorem jL_0 : (0 : Int64) = lN 0 := rfl
/-- what lcmp and a branch say -/
theorem jn_cmp_lt (x y : Int64) : (lg_cmp x y < nI 0) = (x < y) := by
  apply propext
  unfold lg_cmp
  simp only [gt_iff_lt, Int64.lt_iff_toInt_lt, ← Int64.toInt_inj]
  split
  · exact ⟨fun h => absurd h (by decide), fun h => by omega⟩
  · split
    · exact ⟨fun h => absurd h (by decide), fun h => by omega⟩
    · exact ⟨fun _ => by omega, fun _ => by decide⟩
theorem jn_cmp_ge (x y : Int64) : (nI 0 ≤ lg_cmp x y) = (y ≤ x) := by
  apply propext
  unfold lg_cmp
  simp only [gt_iff_lt, Int64.lt_iff_toInt_lt, Int64.le_iff_toInt_le, ← Int64.toInt_inj]
  split
  · exact ⟨fun _ => by omega, fun _ => by decide⟩
  · split
    · exact ⟨fun _ => by omega, fun _ => by decide⟩
    · exact ⟨fun h => absurd h (by decide), fun h => by omega⟩
theorem jn_cmp_gt (x y : Int64) : (nI 0 < lg_cmp x y) = (y < x) := by
  apply propext
  unfold lg_cmp
  simp only [gt_iff_lt, Int64.lt_iff_toInt_lt, ← Int64.toInt_inj]
  split
  · exact ⟨fun _ => by omega, fun _ => by decide⟩
  · split
    · exact ⟨fun h => absurd h (by decide), fun h => by omega⟩
    · exact ⟨fun h => absurd h (by decide), fun h => by omega⟩
theorem jn_cmp_le (x y : Int64) : (lg_cmp x y ≤ nI 0) = (x ≤ y) := by
  apply propext
  unfold lg_cmp
  simp only [gt_iff_lt, Int64.lt_iff_toInt_lt, Int64.le_iff_toInt_le, ← Int64.toInt_inj]
  split
  · exact ⟨fun h => absurd h (by decide), fun h => by omega⟩
  · split
    · exact ⟨fun _ => by omega, fun _ => by decide⟩
    · exact ⟨fun _ => by omega, fun _ => by decide⟩
theorem jn_cmp_eq (x y : Int64) : (lg_cmp x y = nI 0) = (x = y) := by
  apply propext
  unfold lg_cmp
  simp only [gt_iff_lt, Int64.lt_iff_toInt_lt, ← Int64.toInt_inj]
  split
  · exact ⟨fun h => absurd h (by decide), fun h => by omega⟩
  · split
    · rename_i h2
      exact ⟨fun _ => h2, fun _ => rfl⟩
    · exact ⟨fun h => absurd h (by decide), fun h => by omega⟩
/-- shifts and masks of small numbers -/
theorem jn_shl_1 {n : Nat} (h : n < 31) : nI 1 <<< (nI n &&& 31) = nI (2 ^ n) := by
  have key : ∀ n : Nat, n < 31 → nI 1 <<< (nI n &&& 31) = nI (2 ^ n) := by decide +kernel
  exact key n h
theorem jn_shr {s n : Nat} (hs : s < 2147483648) (h : n < 31) : nI s >>> (nI n &&& 31) = nI (s / 2 ^ n) := by
  have e : ∀ n : Nat, n < 31 → ((nI n &&& 31 : Int32).toBitVec.smod 32).toNat = n := by decide +kernel
  exact pk_shrN hs _ n (e n h)
theorem jn_and1 {n : Nat} (h : n < 4294967296) : nI n &&& nI 1 = nI (n % 2) := pk_andN h (m := nI 1) 1 (by decide)
/-- loops -/
theorem jn_up {P : Nat → Prop} {n : Nat} (hs : ∀ i, i < n → P (i + 1) → P i) : P n → P 0 := by
  intro h
  have key : ∀ k, k ≤ n → P (n - k) := by
    intro k
    induction k with
    | zero => intro _; exact h
    | succ k ih =>
      intro hk
      have h1 := ih (by omega)
      rw [show n - k = n - (k + 1) + 1 by omega] at h1
      exact hs _ (by omega) h1
  have := key n (Nat.le_refl _)
  rwa [Nat.sub_self] at this
theorem jn_upF {P : Nat → Prop} {a n : Nat} (ha : a ≤ n) (hs : ∀ i, a ≤ i → i < n → P (i + 1) → P i) : P n → P a := by
  intro h
  have := jn_up (P := fun i => P (a + i)) (n := n - a) (fun i hi h2 => hs (a + i) (by omega) (by omega) h2)
  rw [show a + (n - a) = n by omega] at this
  exact this h
/-- a sum of naturals, of integers, over i < n -/
def jn_su (f : Nat → Nat) : Nat → Nat
  | 0 => 0
  | n + 1 => jn_su f n + f n
def jn_sz1 (f : Nat → Int) : Nat → Int
  | 0 => 0
  | n + 1 => jn_sz1 f n + f n
theorem jn_su_le {f : Nat → Nat} {c : Nat} : ∀ n : Nat, (∀ i, i < n → f i ≤ c) → jn_su f n ≤ c * n
  | 0, _ => by simp [jn_su]
  | n + 1, h => by
    have h1 := jn_su_le n (fun i hi => h i (by omega))
    have h2 := h n (by omega)
    simp only [jn_su, Nat.mul_succ]
    omega
