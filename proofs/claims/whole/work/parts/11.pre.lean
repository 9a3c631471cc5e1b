def jI (z : Int) : Int32 := Int32.ofInt z
def jL (z : Int) : Int64 := Int64.ofInt z
theorem jn_bn_100000 : (-100000 : Int32) = jI (-100000) := by decide +kernel
theorem jn_bn_300 : (-300 : Int32) = jI (-300) := by decide +kernel
theorem jn_bn_100 : (-100 : Int32) = jI (-100) := by decide +kernel
theorem jn_bn_9 : (-9 : Int32) = jI (-9) := by decide +kernel
theorem jn_bn_8 : (-8 : Int32) = jI (-8) := by decide +kernel
theorem jn_bn_7 : (-7 : Int32) = jI (-7) := by decide +kernel
theorem jn_bn_6 : (-6 : Int32) = jI (-6) := by decide +kernel
theorem jn_bn_5 : (-5 : Int32) = jI (-5) := by decide +kernel
theorem jn_bn_4 : (-4 : Int32) = jI (-4) := by decide +kernel
theorem jn_bn_3 : (-3 : Int32) = jI (-3) := by decide +kernel
theorem jn_bn_2 : (-2 : Int32) = jI (-2) := by decide +kernel
theorem jn_k_0 : Int32.ofInt 0 = nI 0 := by decide +kernel
theorem jn_b_0 : (0 : Int32) = nI 0 := by decide +kernel
theorem jn_k_1 : Int32.ofInt 1 = nI 1 := by decide +kernel
theorem jn_b_1 : (1 : Int32) = nI 1 := by decide +kernel
theorem jn_k_2 : Int32.ofInt 2 = nI 2 := by decide +kernel
theorem jn_b_2 : (2 : Int32) = nI 2 := by decide +kernel
theorem jn_k_3 : Int32.ofInt 3 = nI 3 := by decide +kernel
theorem jn_b_3 : (3 : Int32) = nI 3 := by decide +kernel
theorem jn_k_4 : Int32.ofInt 4 = nI 4 := by decide +kernel
theorem jn_b_4 : (4 : Int32) = nI 4 := by decide +kernel
theorem jn_k_5 : Int32.ofInt 5 = nI 5 := by decide +kernel
theorem jn_b_5 : (5 : Int32) = nI 5 := by decide +kernel
theorem jn_k_6 : Int32.ofInt 6 = nI 6 := by decide +kernel
theorem jn_b_6 : (6 : Int32) = nI 6 := by decide +kernel
theorem jn_k_8 : Int32.ofInt 8 = nI 8 := by decide +kernel
theorem jn_b_8 : (8 : Int32) = nI 8 := by decide +kernel
theorem jn_k_10 : Int32.ofInt 10 = nI 10 := by decide +kernel
theorem jn_b_10 : (10 : Int32) = nI 10 := by decide +kernel
theorem jn_k_16 : Int32.ofInt 16 = nI 16 := by decide +kernel
theorem jn_b_16 : (16 : Int32) = nI 16 := by decide +kernel
theorem jn_k_20 : Int32.ofInt 20 = nI 20 := by decide +kernel
theorem jn_b_20 : (20 : Int32) = nI 20 := by decide +kernel
theorem jn_k_21 : Int32.ofInt 21 = nI 21 := by decide +kernel
theorem jn_b_21 : (21 : Int32) = nI 21 := by decide +kernel
theorem jn_k_24 : Int32.ofInt 24 = nI 24 := by decide +kernel
theorem jn_b_24 : (24 : Int32) = nI 24 := by decide +kernel
theorem jn_k_36 : Int32.ofInt 36 = nI 36 := by decide +kernel
theorem jn_b_36 : (36 : Int32) = nI 36 := by decide +kernel
theorem jn_k_60 : Int32.ofInt 60 = nI 60 := by decide +kernel
theorem jn_b_60 : (60 : Int32) = nI 60 := by decide +kernel
theorem jn_k_63 : Int32.ofInt 63 = nI 63 := by decide +kernel
theorem jn_b_63 : (63 : Int32) = nI 63 := by decide +kernel
theorem jn_k_64 : Int32.ofInt 64 = nI 64 := by decide +kernel
theorem jn_b_64 : (64 : Int32) = nI 64 := by decide +kernel
theorem jn_k_100 : Int32.ofInt 100 = nI 100 := by decide +kernel
theorem jn_b_100 : (100 : Int32) = nI 100 := by decide +kernel
theorem jn_k_144 : Int32.ofInt 144 = nI 144 := by decide +kernel
theorem jn_b_144 : (144 : Int32) = nI 144 := by decide +kernel
theorem jn_k_300 : Int32.ofInt 300 = nI 300 := by decide +kernel
theorem jn_b_300 : (300 : Int32) = nI 300 := by decide +kernel
theorem jn_k_864 : Int32.ofInt 864 = nI 864 := by decide +kernel
theorem jn_b_864 : (864 : Int32) = nI 864 := by decide +kernel
theorem jn_k_100000 : Int32.ofInt 100000 = nI 100000 := by decide +kernel
theorem jn_b_100000 : (100000 : Int32) = nI 100000 := by decide +kernel
theorem jn_k_1000000 : Int32.ofInt 1000000 = nI 1000000 := by decide +kernel
theorem jn_b_1000000 : (1000000 : Int32) = nI 1000000 := by decide +kernel
theorem jn_k_252645135 : Int32.ofInt 252645135 = nI 252645135 := by decide +kernel
theorem jn_b_252645135 : (252645135 : Int32) = nI 252645135 := by decide +kernel
theorem jn_k_858993459 : Int32.ofInt 858993459 = nI 858993459 := by decide +kernel
theorem jn_b_858993459 : (858993459 : Int32) = nI 858993459 := by decide +kernel
theorem jn_k_1431655765 : Int32.ofInt 1431655765 = nI 1431655765 := by decide +kernel
theorem jn_b_1431655765 : (1431655765 : Int32) = nI 1431655765 := by decide +kernel
theorem jn_ln_100000 : (-100000 : Int64) = jL (-100000) := by decide +kernel
theorem jn_ln_300 : (-300 : Int64) = jL (-300) := by decide +kernel
theorem jn_ln_100 : (-100 : Int64) = jL (-100) := by decide +kernel
theorem jn_ln_9 : (-9 : Int64) = jL (-9) := by decide +kernel
theorem jn_ln_2 : (-2 : Int64) = jL (-2) := by decide +kernel
theorem jn_ln_1 : (-1 : Int64) = jL (-1) := by decide +kernel
theorem jn_l_0 : (0 : Int64) = lN 0 := by decide +kernel
theorem jn_l_1 : (1 : Int64) = lN 1 := by decide +kernel
theorem jn_l_2 : (2 : Int64) = lN 2 := by decide +kernel
theorem jn_l_4 : (4 : Int64) = lN 4 := by decide +kernel
theorem jn_l_6 : (6 : Int64) = lN 6 := by decide +kernel
theorem jn_l_100 : (100 : Int64) = lN 100 := by decide +kernel
theorem jn_l_300 : (300 : Int64) = lN 300 := by decide +kernel
theorem jn_l_100000 : (100000 : Int64) = lN 100000 := by decide +kernel
theorem jn_idiv_e {pc : Nat} {x y : Int32} {ls : jn_Lo} {st : List Value} {M : jn_M} : jn_idiv pc (ls, .int y :: .int x :: st, M) = if decide (¬ y = nI 0) = true then some (pc + 1, ls, .int (x / y) :: st, M) else none := by
  have hz : nI 0 = (0 : Int32) := rfl
  rw [hz]
  simp only [jn_idiv]
  by_cases h : y = 0
  · simp [h]
  · simp [h]
theorem jn_irem_e {pc : Nat} {x y : Int32} {ls : jn_Lo} {st : List Value} {M : jn_M} : jn_irem pc (ls, .int y :: .int x :: st, M) = if decide (¬ y = nI 0) = true then some (pc + 1, ls, .int (x - x / y * y) :: st, M) else none := by
  have hz : nI 0 = (0 : Int32) := rfl
  rw [hz]
  simp only [jn_irem]
  by_cases h : y = 0
  · simp [h]
  · simp [h]
theorem jn_ldiv_e {pc : Nat} {x y : Int64} {ls : jn_Lo} {st : List Value} {M : jn_M} : jn_ldiv pc (ls, .long y :: .long x :: st, M) = if decide (¬ y = lN 0) = true then some (pc + 1, ls, .long (x / y) :: st, M) else none := by
  have hz : lN 0 = (0 : Int64) := rfl
  rw [hz]
  simp only [jn_ldiv]
  by_cases h : y = 0
  · simp [h]
  · simp [h]
theorem jn_lrem_e {pc : Nat} {x y : Int64} {ls : jn_Lo} {st : List Value} {M : jn_M} : jn_lrem pc (ls, .long y :: .long x :: st, M) = if decide (¬ y = lN 0) = true then some (pc + 1, ls, .long (x - x / y * y) :: st, M) else none := by
  have hz : lN 0 = (0 : Int64) := rfl
  rw [hz]
  simp only [jn_lrem]
  by_cases h : y = 0
  · simp [h]
  · simp [h]
def jn_zb (v : Int32) : Bool := decide (v = 0 ∨ v = 1)
theorem jn_zb_0 : jn_zb (nI 0) = true := by decide
theorem jn_zb_1 : jn_zb (nI 1) = true := by decide
theorem jn_ret2_e {v : Int32} : jn_ret 2 [.int v] = if jn_zb v = true then some (some (.int v)) else none := by
  simp [jn_ret, jn_zb]
def jn_tx (lo hi : Int) (ts : List Nat) (dt : Nat) (x : Int32) : Nat := if x.toInt < lo ∨ hi < x.toInt then dt else ts.getD (x.toInt - lo).toNat dt
theorem jn_table_e {lo hi : Int} {ts : List Nat} {dt pc : Nat} {x : Int32} {ls : jn_Lo} {st : List Value} {M : jn_M} (h : (hi - lo + 1).toNat ≤ ts.length) : jn_table lo hi ts dt pc (ls, .int x :: st, M) = some (jn_tx lo hi ts dt x, ls, st, M) := by
  simp only [jn_table, jn_tx]
  split
  · rfl
  · rename_i hn
    have h1 : (x.toInt - lo).toNat < ts.length := by omega
    rw [List.getElem?_eq_getElem h1, List.getD_eq_getElem?_getD, List.getElem?_eq_getElem h1]
    rfl
