/-! Sums, and the wedge of rows: coefficients by sets of columns (bits). -/
theorem jw_cg {f g : Nat → Int} : ∀ n : Nat, (∀ i, i < n → f i = g i) → jn_sz1 f n = jn_sz1 g n
  | 0, _ => rfl
  | n + 1, h => by
    simp only [jn_sz1]
    rw [jw_cg n (fun i hi => h i (by omega)), h n (by omega)]
theorem jw_0 : ∀ n : Nat, jn_sz1 (fun _ => 0) n = 0
  | 0 => rfl
  | n + 1 => by simp [jn_sz1, jw_0 n]
theorem jw_add (f g : Nat → Int) : ∀ n : Nat, jn_sz1 (fun i => f i + g i) n = jn_sz1 f n + jn_sz1 g n
  | 0 => rfl
  | n + 1 => by
    simp only [jn_sz1, jw_add f g n]
    omega
theorem jw_mul (c : Int) (f : Nat → Int) : ∀ n : Nat, jn_sz1 (fun i => c * f i) n = c * jn_sz1 f n
  | 0 => by simp [jn_sz1]
  | n + 1 => by
    simp only [jn_sz1, jw_mul c f n, Int.mul_add]
theorem jw_neg (f : Nat → Int) (n : Nat) : jn_sz1 (fun i => -f i) n = -jn_sz1 f n := by
  have h := jw_mul (-1) f n
  have e : (fun i => -1 * f i) = fun i => -f i := by funext i; omega
  rw [e] at h
  omega
theorem jw_swap (f : Nat → Nat → Int) (m : Nat) : ∀ n : Nat, jn_sz1 (fun i => jn_sz1 (f i) m) n = jn_sz1 (fun j => jn_sz1 (fun i => f i j) n) m
  | 0 => by simp only [jn_sz1]; exact (jw_0 m).symm
  | n + 1 => by
    simp only [jn_sz1]
    rw [jw_swap f m n, ← jw_add]
theorem jw_one {f : Nat → Int} {k : Nat} : ∀ n : Nat, k < n → (∀ i, i < n → i ≠ k → f i = 0) → jn_sz1 f n = f k
  | 0, h, _ => absurd h (Nat.not_lt_zero k)
  | n + 1, h, h0 => by
    simp only [jn_sz1]
    by_cases e : k = n
    · subst e
      rw [jw_cg k (g := fun _ => 0) (fun i hi => h0 i (by omega) (by omega)), jw_0]
      omega
    · rw [jw_one n (by omega) (fun i hi hk => h0 i (by omega) hk), h0 n (by omega) (by omega)]
      omega
/-- sign of a column in a set: by how many lie above it; 0 when it isn't in it -/
def jw_g (s j : Nat) : Int := if s < 64 ∧ s / 2 ^ j % 2 = 1 then (if jm_pc (s / 2 ^ (j + 1)) % 2 = 1 then -1 else 1) else 0
def jw_W (w r : Nat → Int) (s : Nat) : Int := jn_sz1 (fun j => jw_g s j * w (s - 2 ^ j) * r j) 6
theorem jw_g64 {s j : Nat} (h : ¬ s < 64) : jw_g s j = 0 := by
  unfold jw_g
  rw [if_neg (fun h' => h h'.1)]
theorem jw_gg0 : ∀ s, s < 64 → ∀ j, j < 6 → ∀ i, i < 6 → jw_g s j * jw_g (s - 2 ^ j) i = -(jw_g s i * jw_g (s - 2 ^ i) j) := by decide +kernel
theorem jw_gg (s : Nat) {j i : Nat} (hj : j < 6) (hi : i < 6) : jw_g s j * jw_g (s - 2 ^ j) i = -(jw_g s i * jw_g (s - 2 ^ i) j) := by
  by_cases h : s < 64
  · exact jw_gg0 s h j hj i hi
  · rw [jw_g64 h, jw_g64 h]
    simp
theorem jw_W2 (w u v : Nat → Int) (s : Nat) : jw_W (jw_W w u) v s = jn_sz1 (fun j => jn_sz1 (fun i => jw_g s j * jw_g (s - 2 ^ j) i * w (s - 2 ^ j - 2 ^ i) * u i * v j) 6) 6 := by
  unfold jw_W
  apply jw_cg
  intro j _
  have h := jw_mul (jw_g s j * v j) (fun i => jw_g (s - 2 ^ j) i * w (s - 2 ^ j - 2 ^ i) * u i) 6
  rw [show jw_g s j * jn_sz1 (fun i => jw_g (s - 2 ^ j) i * w (s - 2 ^ j - 2 ^ i) * u i) 6 * v j = jw_g s j * v j * jn_sz1 (fun i => jw_g (s - 2 ^ j) i * w (s - 2 ^ j - 2 ^ i) * u i) 6 by grind, ← h]
  apply jw_cg
  intro i _
  grind
theorem jw_anti (w u v : Nat → Int) : jw_W (jw_W w u) v = fun s => -jw_W (jw_W w v) u s := by
  funext s
  rw [jw_W2, jw_W2, jw_swap, ← jw_neg]
  apply jw_cg
  intro i hi
  rw [← jw_neg]
  apply jw_cg
  intro j hj
  rw [jw_gg s hj hi, Nat.sub_right_comm]
  grind
theorem jw_same (w u : Nat → Int) (s : Nat) : jw_W (jw_W w u) u s = 0 := by
  have h := congrFun (jw_anti w u u) s
  omega
theorem jw_ml (c : Int) (w r : Nat → Int) : jw_W (fun s => c * w s) r = fun s => c * jw_W w r s := by
  funext s
  unfold jw_W
  rw [← jw_mul]
  apply jw_cg
  intro j _
  dsimp only
  grind
theorem jw_nl (w r : Nat → Int) : jw_W (fun s => -w s) r = fun s => -jw_W w r s := by
  funext s
  unfold jw_W
  rw [← jw_neg]
  apply jw_cg
  intro j _
  dsimp only
  grind
theorem jw_sr (a b : Int) (w u v : Nat → Int) : jw_W w (fun j => a * u j - b * v j) = fun s => a * jw_W w u s - b * jw_W w v s := by
  funext s
  unfold jw_W
  rw [← jw_mul, ← jw_mul, Int.sub_eq_add_neg, ← jw_neg, ← jw_add]
  apply jw_cg
  intro j _
  dsimp only
  grind
theorem jw_mr (a : Int) (w u : Nat → Int) : jw_W w (fun j => a * u j) = fun s => a * jw_W w u s := by
  have h := jw_sr a 0 w u u
  simpa using h
theorem jw_cr {w u v : Nat → Int} (h : ∀ j, j < 6 → u j = v j) : jw_W w u = jw_W w v := by
  funext s
  unfold jw_W
  apply jw_cg
  intro j hj
  rw [h j hj]
/-- rows one by one -/
def jw_L (w : Nat → Int) (l : List (Nat → Int)) : Nat → Int := l.foldl jw_W w
theorem jw_Ln : ∀ (l : List (Nat → Int)) (w : Nat → Int), jw_L (fun s => -w s) l = fun s => -jw_L w l s
  | [], _ => rfl
  | r :: l, w => by
    show jw_L (jw_W (fun s => -w s) r) l = fun s => -jw_L (jw_W w r) l s
    rw [jw_nl, jw_Ln l]
theorem jw_Lm (c : Int) : ∀ (l : List (Nat → Int)) (w : Nat → Int), jw_L (fun s => c * w s) l = fun s => c * jw_L w l s
  | [], _ => rfl
  | r :: l, w => by
    show jw_L (jw_W (fun s => c * w s) r) l = fun s => c * jw_L (jw_W w r) l s
    rw [jw_ml, jw_Lm c l]
theorem jw_perm {l1 l2 : List (Nat → Int)} (h : l1.Perm l2) : (∀ w, jw_L w l1 = jw_L w l2) ∨ ∀ w, jw_L w l1 = fun s => -jw_L w l2 s := by
  induction h with
  | nil => exact Or.inl fun _ => rfl
  | cons x _ ih =>
    rcases ih with ih | ih
    · exact Or.inl fun w => ih (jw_W w x)
    · exact Or.inr fun w => ih (jw_W w x)
  | swap x y l =>
    refine Or.inr fun w => ?_
    show jw_L (jw_W (jw_W w y) x) l = fun s => -jw_L (jw_W (jw_W w x) y) l s
    rw [jw_anti, jw_Ln]
  | trans _ _ ih1 ih2 =>
    rcases ih1 with ih1 | ih1 <;> rcases ih2 with ih2 | ih2
    · exact Or.inl fun w => (ih1 w).trans (ih2 w)
    · exact Or.inr fun w => (ih1 w).trans (ih2 w)
    · exact Or.inr fun w => by rw [ih1 w, ih2 w]
    · exact Or.inl fun w => by rw [ih1 w, ih2 w]; funext s; simp
/-- the rows of a set, below i -/
def jw_om (A : Nat → Nat → Int) (R : Nat) : Nat → Nat → Int
  | 0 => fun s => if s = 0 then 1 else 0
  | i + 1 => if R / 2 ^ i % 2 = 1 then jw_W (jw_om A R i) (A i) else jw_om A R i
/-- the determinant of rows R and columns C -/
def jw_D (A : Nat → Nat → Int) (R C : Nat) : Int := jw_om A R 6 C
theorem jw_bit_sub : ∀ R, R < 64 → ∀ k, k < 6 → R / 2 ^ k % 2 = 1 → ∀ i, i < 6 → (R - 2 ^ k) / 2 ^ i % 2 = if i = k then 0 else R / 2 ^ i % 2 := by decide +kernel
theorem jw_om_cg {A : Nat → Nat → Int} {R R' : Nat} : ∀ i : Nat, (∀ j, j < i → R / 2 ^ j % 2 = R' / 2 ^ j % 2) → jw_om A R i = jw_om A R' i
  | 0, _ => rfl
  | i + 1, h => by
    unfold jw_om
    rw [jw_om_cg i (fun j hj => h j (by omega)), h i (by omega)]
/-- the sign when a row of a set is moved behind those below i -/
def jw_e (R k : Nat) : Nat → Int
  | 0 => 1
  | i + 1 => if k < i ∧ R / 2 ^ i % 2 = 1 then -jw_e R k i else jw_e R k i
theorem jw_e6 : ∀ R, R < 64 → ∀ k, k < 6 → R / 2 ^ k % 2 = 1 → jw_e R k 6 = jw_g R k := by decide +kernel
theorem jw_move0 {A : Nat → Nat → Int} {R k : Nat} (hR : R < 64) (hk : k < 6) (hb : R / 2 ^ k % 2 = 1) : ∀ i, i ≤ 6 → k < i → jw_om A R i = fun s => jw_e R k i * jw_W (jw_om A (R - 2 ^ k) i) (A k) s
  | 0, _, h => absurd h (Nat.not_lt_zero k)
  | i + 1, hi, h => by
    have hbi := jw_bit_sub R hR k hk hb i (by omega)
    unfold jw_om jw_e
    by_cases e : k = i
    · subst e
      rw [if_pos rfl] at hbi
      rw [if_pos hb, if_neg (by omega), if_neg (by omega)]
      have e1 : jw_e R k k = 1 := by
        have : ∀ j, j ≤ k → jw_e R k j = 1 := by
          intro j
          induction j with
          | zero => intro _; rfl
          | succ j ih =>
            intro hj
            unfold jw_e
            rw [if_neg (by omega), ih (by omega)]
        exact this k (Nat.le_refl k)
      rw [e1, jw_om_cg (R := R) (R' := R - 2 ^ k) k (fun j hj => by
        have := jw_bit_sub R hR k hk hb j (by omega)
        rw [if_neg (by omega)] at this
        exact this.symm)]
      funext s
      omega
    · rw [if_neg (by omega)] at hbi
      rw [hbi, jw_move0 hR hk hb i (by omega) (by omega)]
      by_cases c : R / 2 ^ i % 2 = 1
      · rw [if_pos c, if_pos c, if_pos ⟨by omega, c⟩, jw_ml, jw_anti]
        funext s
        grind
      · rw [if_neg c, if_neg c, if_neg (fun h' => c h'.2)]
theorem jw_move {A : Nat → Nat → Int} {R k : Nat} (hR : R < 64) (hk : k < 6) (hb : R / 2 ^ k % 2 = 1) : jw_om A R 6 = fun s => jw_g R k * jw_W (jw_om A (R - 2 ^ k) 6) (A k) s := by
  rw [jw_move0 hR hk hb 6 (Nat.le_refl 6) hk, jw_e6 R hR k hk hb]
theorem jw_g1 : ∀ R, R < 64 → ∀ k, k < 6 → R / 2 ^ k % 2 = 1 → jw_g R k * jw_g R k = 1 := by decide +kernel
/-- a row that is there already -/
theorem jw_twice {A : Nat → Nat → Int} {R k s : Nat} (hR : R < 64) (hk : k < 6) (hb : R / 2 ^ k % 2 = 1) : jw_W (jw_om A R 6) (A k) s = 0 := by
  rw [jw_move hR hk hb, jw_ml]
  dsimp only
  rw [jw_same]
  simp
/-- cofactors: column k of them, times row i -/
def jw_cf (A : Nat → Nat → Int) (S j k : Nat) : Int := jw_g S j * jw_g S k * jw_D A (S - 2 ^ k) (S - 2 ^ j)
theorem jw_adj {A : Nat → Nat → Int} {S i k : Nat} (hS : S < 64) (hi : i < 6) (hk : k < 6) (bi : S / 2 ^ i % 2 = 1) (bk : S / 2 ^ k % 2 = 1) : jn_sz1 (fun j => A i j * jw_cf A S j k) 6 = if i = k then jw_D A S S else 0 := by
  have h1 : jn_sz1 (fun j => A i j * jw_cf A S j k) 6 = jw_g S k * jw_W (jw_om A (S - 2 ^ k) 6) (A i) S := by
    unfold jw_W
    rw [← jw_mul]
    apply jw_cg
    intro j _
    unfold jw_cf jw_D
    grind
  rw [h1]
  by_cases e : i = k
  · subst e
    rw [if_pos rfl]
    unfold jw_D
    rw [jw_move (A := A) hS hk bk]
  · rw [if_neg e]
    have hb := jw_bit_sub S hS k hk bk i hi
    rw [if_neg e, bi] at hb
    rw [jw_twice (Nat.lt_of_le_of_lt (Nat.sub_le _ _) hS) hi hb]
    simp
