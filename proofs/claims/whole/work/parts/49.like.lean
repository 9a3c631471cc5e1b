/-! Likeness: the same numbers in the end; how often each post lends. -/
theorem jw_row0 {R : Nat → Nat → Nat} {n i : Nat} (h : jw_N R n) (hi : i < 6) : jn_sz1 (fun j => jm_A R n i j) 6 = 0 := by
  have h1 := jw_rowA (U := fun _ => true) h hi rfl
  rw [jw_cg 6 (g := fun j => jm_A R n i j) (fun j _ => if_pos rfl), jw_cg 6 (g := fun _ => 0) (fun j _ => if_pos rfl), jw_0] at h1
  exact h1
theorem jw_col0 {R : Nat → Nat → Nat} {n : Nat} {x : Nat → Int} (h : jw_N R n) : jn_sz1 (jw_Ax R n x) 6 = 0 := by
  have e : jn_sz1 (jw_Ax R n x) 6 = jn_sz1 (fun q => jn_sz1 (fun j => jm_A R n q j * x j) 6) 6 := rfl
  rw [e, jw_swap, jw_cg 6 (g := fun _ => 0) (fun j hj => ?_), jw_0]
  rw [jw_cg 6 (g := fun q => x j * jm_A R n j q) (fun q _ => by rw [jw_A_sy h q j, Int.mul_comm]), jw_mul, jw_row0 h hj, Int.mul_zero]
theorem jw_red_shift {R : Nat → Nat → Nat} {n bp : Nat} {a b u x s : Nat → Int} (h : jw_H R n bp) (hs : ∀ j, j < 6 → n ≤ j ∨ j = bp → s j = 0) (hab : ∀ q, q < 6 → b q = a q - jw_Ax R n s q) (hr : jw_red R n bp a u x) : jw_red R n bp b u (fun j => x j - s j) := by
  have hn := h.1.1
  obtain ⟨r1, r2, r3, r4⟩ := hr
  refine ⟨fun q hq => ?_, fun j hj hz => ?_, fun z hz j hj => ?_, r4⟩
  · rw [jw_Ax_sub, hab q hq, r1 q hq]
    omega
  · (try dsimp only)
    rw [r2 j hj hz, hs j hj hz]
    rfl
  · have := r3 (fun j => z j + s j) ⟨fun j hj hz2 => by
      (try dsimp only)
      rw [hz.1 j hj hz2, hs j hj hz2]
      rfl, fun q hq hne => by
      rw [jw_Ax_add]
      have h1 := hz.2 q hq hne
      rw [hab q (by omega)] at h1
      omega⟩ j hj
    (try dsimp only at this ⊢)
    omega
theorem jw_Ax_n {R : Nat → Nat → Nat} {n q : Nat} {x : Nat → Int} (h : jw_N R n) (hq : n ≤ q) (hq6 : q < 6) : jw_Ax R n x q = 0 := by
  unfold jw_Ax
  rw [jw_Ag h hq6, jw_cg 6 (g := fun _ => 0) (fun j _ => by rw [h.2.2.2.2 q j hq]; simp), jw_0]
/-- cleared exactly: the numbers are the table's columns -/
theorem jw_clear {R : Nat → Nat → Nat} {n bp : Nat} {d s : Nat → Int} (h : jw_H R n bp) (hd : ∀ q, n ≤ q → q < 6 → d q = 0) (hs : ∀ j, j < 6 → jw_cv R n bp d j = jw_T R n bp * s j) (h0 : jn_sz1 d 6 = 0) : ∀ q, q < 6 → d q = jw_Ax R n s q := by
  have hn := h.1.1
  have hT := jw_T_pos h
  have key : ∀ q, q < 6 → q ≠ bp → d q = jw_Ax R n s q := by
    intro q hq hne
    by_cases c : q < n
    · have h1 := jw_AC (v := d) h c hne
      have h2 : jw_T R n bp * jw_Ax R n s q = jw_T R n bp * d q := by
        rw [← jw_Ax_mul, ← jw_Ax_cg (fun j hj => hs j hj)]
        exact h1
      exact (Int.eq_of_mul_eq_mul_left (by omega) h2).symm
    · rw [hd q (by omega) hq, jw_Ax_n h.1 (by omega) hq]
  intro q hq
  by_cases c : q = bp
  · subst c
    have h1 := jw_col0 (x := s) h.1
    have h2 : jn_sz1 (fun i => d i + -jw_Ax R n s i) 6 = d q + -jw_Ax R n s q := jw_one (k := q) 6 hq (fun i hi hne => by
      have := key i hi hne
      omega)
    rw [jw_add, jw_neg] at h2
    have e1 : jn_sz1 (fun i => d i) 6 = jn_sz1 d 6 := rfl
    have e2 : jn_sz1 (fun i => jw_Ax R n s i) 6 = jn_sz1 (jw_Ax R n s) 6 := rfl
    omega
  · exact key q hq c
theorem jw_like1 {R : Nat → Nat → Nat} {n bp : Nat} {a b u x u' x' s : Nat → Int} (h : jw_H R n bp) (ha : ∀ q, n ≤ q → q < 6 → a q = 0) (hb : ∀ q, n ≤ q → q < 6 → b q = 0) (ra : jw_red R n bp a u x) (rb : jw_red R n bp b u' x') (hs : ∀ j, j < 6 → jw_cv R n bp (fun q => a q - b q) j = jw_T R n bp * s j) (h0 : jn_sz1 (fun q => a q - b q) 6 = 0) : (∀ q, q < 6 → u q = u' q) ∧ ∀ j, j < 6 → s j = x j - x' j := by
  have hT := jw_T_pos h
  have hc := jw_clear h (d := fun q => a q - b q) (fun q h1 h2 => by (try dsimp only); rw [ha q h1 h2, hb q h1 h2]; rfl) hs h0
  have hoff : ∀ j, j < 6 → n ≤ j ∨ j = bp → s j = 0 := by
    intro j hj hz
    have h1 := hs j hj
    rw [jw_cv_off h hj hz] at h1
    rcases Int.mul_eq_zero.mp h1.symm with h2 | h2
    · omega
    · exact h2
  have hsh := jw_red_shift h hoff (fun q hq => by have := hc q hq; (try dsimp only at this); omega) ra (b := b)
  obtain ⟨e1, e2⟩ := jw_red_uq h.1.1.2 hsh rb
  exact ⟨e2, fun j hj => by have := e1 j hj; (try dsimp only at this); omega⟩
theorem jw_like2 {R : Nat → Nat → Nat} {n bp : Nat} {a b u x u' x' : Nat → Int} (h : jw_H R n bp) (ra : jw_red R n bp a u x) (rb : jw_red R n bp b u' x') (hu : ∀ q, q < 6 → u q = u' q) : (∀ j, j < 6 → jw_cv R n bp (fun q => a q - b q) j = jw_T R n bp * (x j - x' j)) ∧ jn_sz1 (fun q => a q - b q) 6 = 0 := by
  have hn := h.1.1
  have hd : ∀ q, q < 6 → a q - b q = jw_Ax R n (fun j => x j - x' j) q := by
    intro q hq
    rw [jw_Ax_sub]
    have h1 := ra.1 q hq
    have h2 := rb.1 q hq
    have h3 := hu q hq
    omega
  constructor
  · intro j hj
    by_cases c : n ≤ j ∨ j = bp
    · rw [jw_cv_off h hj c, ra.2.1 j hj c, rb.2.1 j hj c]
      simp
    · have h1 := jw_CA (x := fun j => x j - x' j) h (show j < n by omega) (by omega) (fun i hi hz => by
        (try dsimp only)
        rw [ra.2.1 i hi hz, rb.2.1 i hi hz]
        rfl)
      unfold jw_cv
      rw [jw_cg 6 (g := fun k => jw_C R n bp j k * jn_sz1 (fun i => jm_A R n k i * (x i - x' i)) 6) (fun k hk => by
        (try dsimp only)
        rw [hd k hk]
        rfl)]
      exact h1
  · rw [jw_cg 6 (g := jw_Ax R n (fun j => x j - x' j)) hd, jw_col0 h.1]
/-- WON -/
def jw_wn (R : Nat → Nat → Nat) (n : Nat) (a : Nat → Int) : Prop := ∃ u x, jw_red R n 0 a u x ∧ 0 ≤ u 0
theorem jw_wn_i {R : Nat → Nat → Nat} {n : Nat} {a u x : Nat → Int} (hn : n ≤ 6) (h : jw_red R n 0 a u x) : jw_wn R n a ↔ 0 ≤ u 0 := by
  constructor
  · rintro ⟨u', x', h1, h2⟩
    rw [(jw_red_uq hn h h1).2 0 (by omega)]
    exact h2
  · intro h2
    exact ⟨u, x, h, h2⟩
theorem jw_red_cg {R : Nat → Nat → Nat} {n bp : Nat} {a b u x : Nat → Int} (hn : n ≤ 6) (h : jw_red R n bp a u x) (hab : ∀ q, q < 6 → a q = b q) : jw_red R n bp b u x := by
  refine ⟨fun q hq => by rw [← hab q hq]; exact h.1 q hq, h.2.1, fun z hz => h.2.2.1 z ⟨hz.1, fun q hq hne => by rw [hab q (by omega)]; exact hz.2 q hq hne⟩, h.2.2.2⟩
theorem jw_wn_cg {R : Nat → Nat → Nat} {n : Nat} {a b : Nat → Int} (hn : n ≤ 6) (hab : ∀ q, q < 6 → a q = b q) (h : jw_wn R n a) : jw_wn R n b := by
  obtain ⟨u, x, h1, h2⟩ := h
  exact ⟨u, x, jw_red_cg hn h1 hab, h2⟩
/-- a good book is won -/
theorem jw_good {R : Nat → Nat → Nat} {n : Nat} {a : Nat → Int} (h : jw_H R n 0) (ha : ∀ q, q < n → 0 ≤ a q) : jw_wn R n a := by
  obtain ⟨N, -, -, -, hr⟩ := jw_main (v := a) h
  refine ⟨_, _, hr, ?_⟩
  generalize jm_it R n 0 (jm_mf R n (jw_x0 R n 0 a) a n) (N + 1) = u at hr ⊢
  generalize jm_xt R n 0 (jm_mf R n (jw_x0 R n 0 a) a n) (jw_x0 R n 0 a) (N + 1) = x at hr
  have hn := h.1.1
  have hx : ∀ j, j < 6 → 0 ≤ x j := hr.2.2.1 (fun _ => 0) ⟨fun _ _ _ => rfl, fun q hq _ => by
    have e : jw_Ax R n (fun _ => 0) q = 0 := by
      unfold jw_Ax
      rw [jw_cg 6 (g := fun _ => 0) (fun j _ => by simp), jw_0]
    rw [e]
    have := ha q hq
    omega⟩
  rw [hr.1 0 (by omega)]
  have h1 : jw_Ax R n x 0 ≤ 0 := by
    have h2 : jw_Ax R n x 0 ≤ jn_sz1 (fun _ => 0) 6 := by
      unfold jw_Ax
      apply jw_le
      intro j hj
      (try dsimp only)
      by_cases c : j = 0
      · rw [c, hr.2.1 0 (by omega) (Or.inr rfl)]
        simp
      · have h3 := (jw_dmN h.1).1 0 j (Ne.symm c)
        have h4 := Int.mul_nonneg (show 0 ≤ -jm_A R n 0 j by omega) (hx j hj)
        rw [Int.neg_mul] at h4
        omega
    rw [jw_0] at h2
    exact h2
  have := ha 0 h.2.2
  omega
/-- a won book is like a good one -/
theorem jw_won_good {R : Nat → Nat → Nat} {n : Nat} {a : Nat → Int} (h : jw_H R n 0) (hw : jw_wn R n a) (hz : ∀ q, n ≤ q → q < 6 → a q = 0) : ∃ g s : Nat → Int, (∀ q, q < 6 → 0 ≤ g q) ∧ (∀ q, n ≤ q → q < 6 → g q = 0) ∧ jn_sz1 g 6 = jn_sz1 a 6 ∧ (∀ j, j < 6 → n ≤ j ∨ j = 0 → s j = 0) ∧ ∀ q, q < 6 → g q = a q - jw_Ax R n s q := by
  obtain ⟨u, x, hr, h0⟩ := hw
  have hn := h.1.1
  have hz2 : ∀ q, n ≤ q → q < 6 → u q = 0 := fun q h1 h2 => by
    rw [hr.1 q h2, hz q h1 h2, jw_Ax_n h.1 h1 h2]
    rfl
  refine ⟨u, x, fun q hq => ?_, hz2, ?_, hr.2.1, hr.1⟩
  · by_cases c : q < n
    · by_cases c2 : q = 0
      · rw [c2]
        exact h0
      · exact hr.2.2.2 q c c2
    · rw [hz2 q (by omega) hq]
      exact Int.le_refl _
  · rw [jw_cg 6 (g := fun q => a q + -jw_Ax R n x q) (fun q hq => by rw [hr.1 q hq]; omega), jw_add, jw_neg]
    have e2 : jn_sz1 (fun i => jw_Ax R n x i) 6 = jn_sz1 (jw_Ax R n x) 6 := rfl
    rw [e2, jw_col0 h.1]
    have e1 : jn_sz1 (fun i => a i) 6 = jn_sz1 a 6 := rfl
    omega
/-- the same behind lends -/
theorem jw_wn_shift {R : Nat → Nat → Nat} {n : Nat} {a b s : Nat → Int} (h : jw_H R n 0) (hs : ∀ j, j < 6 → n ≤ j ∨ j = 0 → s j = 0) (hab : ∀ q, q < 6 → b q = a q - jw_Ax R n s q) (hw : jw_wn R n a) : jw_wn R n b := by
  obtain ⟨u, x, hr, h0⟩ := hw
  exact ⟨u, _, jw_red_shift h hs hab hr, h0⟩
/-! ORDER: the least common multiple of the parts -/
theorem jw_dvT {T g m : Nat} (hT : 0 < T) (hg : g ∣ T) : T / g ∣ m ↔ T ∣ m * g := by
  obtain ⟨k, rfl⟩ := hg
  have hg0 : 0 < g := Nat.pos_of_ne_zero (fun h => by subst h; simp at hT)
  rw [Nat.mul_div_cancel_left k hg0, Nat.mul_comm m g]
  exact (Nat.mul_dvd_mul_iff_left hg0).symm
theorem jw_lcm {T g h : Nat} (hT : 0 < T) (hg : g ∣ T) (hh : h ∣ T) : Nat.lcm (T / g) (T / h) = T / Nat.gcd g h := by
  have key : ∀ m, Nat.lcm (T / g) (T / h) ∣ m ↔ T / Nat.gcd g h ∣ m := by
    intro m
    rw [jw_dvT hT (Nat.dvd_trans (Nat.gcd_dvd_left g h) hg), ← Nat.gcd_mul_left]
    constructor
    · intro h1
      exact Nat.dvd_gcd ((jw_dvT hT hg).mp (Nat.dvd_trans (Nat.dvd_lcm_left _ _) h1)) ((jw_dvT hT hh).mp (Nat.dvd_trans (Nat.dvd_lcm_right _ _) h1))
    · intro h1
      exact Nat.lcm_dvd ((jw_dvT hT hg).mpr (Nat.dvd_trans h1 (Nat.gcd_dvd_left _ _))) ((jw_dvT hT hh).mpr (Nat.dvd_trans h1 (Nat.gcd_dvd_right _ _)))
  exact Nat.dvd_antisymm ((key _).mpr (Nat.dvd_refl _)) ((key _).mp (Nat.dvd_refl _))
/-- the class's least times over k posts; the greatest divisor over k posts -/
def jm_lc (T : Nat) (a : Nat → Int) : Nat → Nat
  | 0 => 1
  | k + 1 => jm_lc T a k / Nat.gcd (jm_lc T a k) (T / Nat.gcd T (a k).natAbs) * (T / Nat.gcd T (a k).natAbs)
def jm_gs (T : Nat) (a : Nat → Int) : Nat → Nat
  | 0 => T
  | k + 1 => Nat.gcd (jm_gs T a k) (a k).natAbs
theorem jw_gs_dv {T : Nat} {a : Nat → Int} : ∀ k, jm_gs T a k ∣ T
  | 0 => Nat.dvd_refl _
  | k + 1 => Nat.dvd_trans (Nat.gcd_dvd_left _ _) (jw_gs_dv k)
theorem jw_lc {T : Nat} {a : Nat → Int} (hT : 0 < T) : ∀ k, jm_lc T a k = T / jm_gs T a k
  | 0 => by
    show 1 = T / T
    rw [Nat.div_self hT]
  | k + 1 => by
    have e1 : jm_lc T a (k + 1) = Nat.lcm (jm_lc T a k) (T / Nat.gcd T (a k).natAbs) := by
      show jm_lc T a k / Nat.gcd (jm_lc T a k) (T / Nat.gcd T (a k).natAbs) * (T / Nat.gcd T (a k).natAbs) = _
      unfold Nat.lcm
      rw [Nat.mul_comm (jm_lc T a k), Nat.mul_div_assoc _ (Nat.gcd_dvd_left _ _), Nat.mul_comm]
    rw [e1, jw_lc hT k, jw_lcm hT (jw_gs_dv k) (Nat.gcd_dvd_left _ _)]
    congr 1
    show Nat.gcd (jm_gs T a k) (Nat.gcd T (a k).natAbs) = Nat.gcd (jm_gs T a k) (a k).natAbs
    rw [← Nat.gcd_assoc, Nat.gcd_eq_left (jw_gs_dv k)]
theorem jw_gs_pos {T : Nat} {a : Nat → Int} (hT : 0 < T) (k : Nat) : 0 < jm_gs T a k := Nat.pos_of_dvd_of_pos (jw_gs_dv k) hT
