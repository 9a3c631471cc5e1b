/-! Whole nets: every set of posts has a road out. The fire. -/
/-- the roads of a net: the same both ways, none with itself, none beyond -/
def jw_N (R : Nat → Nat → Nat) (n : Nat) : Prop := (1 ≤ n ∧ n ≤ 6) ∧ (∀ p q, R p q ≤ 4) ∧ (∀ p q, R p q = R q p) ∧ (∀ p, R p p = 0) ∧ ∀ p q, n ≤ p → R p q = 0
/-- every set of posts that isn't all has a road out -/
def jw_cut (R : Nat → Nat → Nat) (n : Nat) : Prop := ∀ U : Nat → Bool, (∃ i, i < n ∧ U i = true) → (∃ q, q < n ∧ U q = false) → ∃ i q, i < n ∧ q < n ∧ U i = true ∧ U q = false ∧ 0 < R i q
theorem jw_orb : ∀ s, s < 64 → ∀ p, p < 6 → ∀ i, i < 6 → (s ||| 2 ^ p) / 2 ^ i % 2 = if i = p then 1 else s / 2 ^ i % 2 := by decide +kernel
theorem jw_full0 : ∀ n, n < 7 → ∀ s, s < 64 → (¬ s < 2 ^ n ∨ s = 2 ^ n - 1 ∨ jm_pc s < n) := by decide +kernel
theorem jw_fullb : ∀ n, n < 7 → ∀ i, i < 6 → ((2 ^ n - 1) / 2 ^ i % 2 = 1 ↔ i < n) := by decide +kernel
theorem jw_nobit : ∀ n, n < 7 → ∀ s, s < 64 → ∀ i, i < 6 → (¬ (s < 2 ^ n ∧ n ≤ i) ∨ s / 2 ^ i % 2 = 0) := by decide +kernel
theorem jw_or_lt : ∀ n, n < 7 → ∀ s, s < 64 → ∀ p, p < 6 → (¬ (s < 2 ^ n ∧ p < n) ∨ s ||| 2 ^ p < 2 ^ n) := by decide +kernel
theorem jw_bits : ∀ s, s < 64 → ∀ t, t < 64 → (s = t ∨ ¬ (s / 2 ^ 0 % 2 = t / 2 ^ 0 % 2 ∧ s / 2 ^ 1 % 2 = t / 2 ^ 1 % 2 ∧ s / 2 ^ 2 % 2 = t / 2 ^ 2 % 2 ∧ s / 2 ^ 3 % 2 = t / 2 ^ 3 % 2 ∧ s / 2 ^ 4 % 2 = t / 2 ^ 4 % 2 ∧ s / 2 ^ 5 % 2 = t / 2 ^ 5 % 2)) := by decide +kernel
theorem jw_ext6 {s t : Nat} (hs : s < 64) (ht : t < 64) (h : ∀ i, i < 6 → s / 2 ^ i % 2 = t / 2 ^ i % 2) : s = t :=
  (jw_bits s hs t ht).resolve_right (fun hn => hn ⟨h 0 (by omega), h 1 (by omega), h 2 (by omega), h 3 (by omega), h 4 (by omega), h 5 (by omega)⟩)
theorem jw_su_mono {f g : Nat → Nat} : ∀ n : Nat, (∀ i, i < n → f i ≤ g i) → jn_su f n ≤ jn_su g n
  | 0, _ => Nat.le_refl _
  | n + 1, h => by
    have h1 := jw_su_mono n (fun i hi => h i (by omega))
    have h2 := h n (by omega)
    simp only [jn_su]
    omega
theorem jw_su_lt {f g : Nat → Nat} {k : Nat} : ∀ n : Nat, (∀ i, i < n → f i ≤ g i) → k < n → f k < g k → jn_su f n < jn_su g n
  | 0, _, hk, _ => absurd hk (Nat.not_lt_zero k)
  | n + 1, h, hk, hl => by
    have h2 := h n (by omega)
    simp only [jn_su]
    by_cases e : k = n
    · subst e
      have h1 := jw_su_mono k (fun i hi => h i (by omega))
      omega
    · have h1 := jw_su_lt n (fun i hi => h i (by omega)) (by omega) hl
      omega
theorem jw_su_pos {f : Nat → Nat} {k : Nat} (n : Nat) (hk : k < n) (h : 0 < f k) : 0 < jn_su f n := by
  have h0 : jn_su (fun _ => 0) n = 0 := by
    have := jn_su_le (f := fun _ => 0) (c := 0) n (fun _ _ => Nat.le_refl 0)
    omega
  have := jw_su_lt (f := fun _ => 0) n (fun i _ => Nat.zero_le _) hk h
  omega
theorem jw_su_ex {f : Nat → Nat} : ∀ n : Nat, 0 < jn_su f n → ∃ k, k < n ∧ 0 < f k
  | 0, h => absurd h (Nat.lt_irrefl 0)
  | n + 1, h => by
    simp only [jn_su] at h
    by_cases c : 0 < f n
    · exact ⟨n, by omega, c⟩
    · obtain ⟨k, h1, h2⟩ := jw_su_ex (f := f) n (by omega)
      exact ⟨k, by omega, h2⟩
/-- more posts, more bits -/
theorem jw_pc_lt {s t : Nat} (h : ∀ i, i < 6 → s / 2 ^ i % 2 = 1 → t / 2 ^ i % 2 = 1) {k : Nat} (hk : k < 6) (h0 : s / 2 ^ k % 2 = 0) (h1 : t / 2 ^ k % 2 = 1) : jm_pc s < jm_pc t := by
  refine jw_su_lt (k := k) 6 (fun i hi => ?_) hk (by omega)
  have a := jw_b01 s i
  have b := h i hi
  omega
/-- a sequence of sets that grows over all roads, from post 0 on -/
theorem jw_reach {R : Nat → Nat → Nat} {n : Nat} {a : Nat → Nat} (hn : 1 ≤ n ∧ n ≤ 6) (h0 : a 0 = 1) (hlt : ∀ r, a r < 2 ^ n) (hup : ∀ r i, i < 6 → a r / 2 ^ i % 2 = 1 → a (r + 1) / 2 ^ i % 2 = 1) (hgo : ∀ r i q, i < n → q < n → a r / 2 ^ i % 2 = 1 → 0 < R i q → a (r + 1) / 2 ^ q % 2 = 1) (hcl : ∀ U : Nat → Bool, (∀ i q, i < n → q < n → U i = true → U q = false → R i q = 0) → ∀ r, (∀ i, i < n → a r / 2 ^ i % 2 = 1 → U i = true) → ∀ i, i < n → a (r + 1) / 2 ^ i % 2 = 1 → U i = true) (hsy : ∀ p q, R p q = R q p) {m : Nat} (hm : n - 1 ≤ m) : a m = 2 ^ n - 1 ↔ jw_cut R n := by
  have h64 : 2 ^ n ≤ 2 ^ 6 := Nat.pow_le_pow_right (by omega) hn.2
  constructor
  · intro hf U hU hU2
    -- what holds post 0 and is closed is all
    have key : ∀ U : Nat → Bool, U 0 = true → (∀ i q, i < n → q < n → U i = true → U q = false → R i q = 0) → ∀ i, i < n → U i = true := by
      intro U hU0 hc i hi
      have all : ∀ r, ∀ i, i < n → a r / 2 ^ i % 2 = 1 → U i = true := by
        intro r
        induction r with
        | zero =>
          intro i hi hb
          rw [h0] at hb
          by_cases e : i = 0
          · rw [e]
            exact hU0
          · have := (jw_nobit 1 (by omega) 1 (by omega) i (by omega)).resolve_left (fun h => h ⟨by omega, by omega⟩)
            omega
        | succ r ih => exact hcl U hc r ih
      refine all m i hi ?_
      rw [hf]
      exact (jw_fullb n (by omega) i (by omega)).mpr hi
    have none : (∀ i q, i < n → q < n → U i = true → U q = false → R i q = 0) → False := by
      intro hc
      obtain ⟨i, hi, hUi⟩ := hU
      obtain ⟨q, hq, hUq⟩ := hU2
      cases h : U 0 with
      | true =>
        rw [key U h hc q hq] at hUq
        cases hUq
      | false =>
        have h2 := key (fun j => !U j) (by simp [h]) (fun j k hj hk h3 h4 => by
          rw [hsy]
          exact hc k j hk hj (by simpa using h4) (by simpa using h3)) i hi
        simp [hUi] at h2
    apply Classical.byContradiction
    intro hno
    refine none (fun i q hi hq h1 h2 => ?_)
    apply Classical.byContradiction
    intro h3
    exact hno ⟨i, q, hi, hq, h1, h2, by omega⟩
  · intro hc
    have h00 : ∀ r, a r / 2 ^ 0 % 2 = 1 := by
      intro r
      induction r with
      | zero => rw [h0]
      | succ r ih => exact hup r 0 (by omega) ih
    have key : ∀ r, a r = 2 ^ n - 1 ∨ r + 1 ≤ jm_pc (a r) := by
      intro r
      induction r with
      | zero =>
        right
        rw [h0]
        decide
      | succ r ih =>
        have ha := hlt r
        have ha1 := hlt (r + 1)
        by_cases hf : a r = 2 ^ n - 1
        · left
          apply jw_ext6 (by omega) (by omega)
          intro i hi
          by_cases c : i < n
          · have e1 := (jw_fullb n (by omega) i hi).mpr c
            have e2 := hup r i hi (by rw [hf]; exact e1)
            omega
          · have e1 := (jw_nobit n (by omega) (a (r + 1)) (by omega) i hi).resolve_left (fun h => h ⟨ha1, by omega⟩)
            have e2 := (jw_nobit n (by omega) (2 ^ n - 1) (by omega) i hi).resolve_left (fun h => h ⟨by have := Nat.two_pow_pos n; omega, by omega⟩)
            omega
        · have ih2 := ih.resolve_left hf
          right
          obtain ⟨i, q, hi, hq, hUi, hUq, hR⟩ := hc (fun j => decide (a r / 2 ^ j % 2 = 1)) ⟨0, by omega, by simpa using h00 r⟩ (by
            apply Classical.byContradiction
            intro hno
            apply hf
            apply jw_ext6 (by omega) (by omega)
            intro i hi
            by_cases c : i < n
            · rw [(jw_fullb n (by omega) i hi).mpr c]
              apply Classical.byContradiction
              intro h3
              exact hno ⟨i, c, by simpa using h3⟩
            · have e1 := (jw_nobit n (by omega) (a r) (by omega) i hi).resolve_left (fun h => h ⟨ha, by omega⟩)
              have e2 := (jw_nobit n (by omega) (2 ^ n - 1) (by omega) i hi).resolve_left (fun h => h ⟨by have := Nat.two_pow_pos n; omega, by omega⟩)
              omega)
          have hUi' : a r / 2 ^ i % 2 = 1 := by simpa using hUi
          have hUq' : ¬ a r / 2 ^ q % 2 = 1 := by simpa using hUq
          have b := jw_b01 (a r) q
          have := jw_pc_lt (s := a r) (t := a (r + 1)) (fun j hj hb => hup r j hj hb) (k := q) (by omega) (by omega) (hgo r i q hi hq hUi' hR)
          omega
    rcases key m with h | h
    · exact h
    · have hl := hlt m
      rcases jw_full0 n (by omega) (a m) (by omega) with h1 | h1 | h1
      · exact absurd hl h1
      · exact h1
      · omega
/-! the class's rounds -/
theorem jw_ri_pos {R : Nat → Nat → Nat} {p s n : Nat} : 0 < jm_ri R p s n ↔ ∃ q, q < n ∧ s / 2 ^ q % 2 = 1 ∧ 0 < R p q := by
  constructor
  · intro h
    obtain ⟨k, h1, h2⟩ := jw_su_ex n h
    split at h2
    · exact absurd h2 (Nat.lt_irrefl 0)
    · rename_i h3
      exact ⟨k, h1, by have := jw_b01 s k; omega, h2⟩
  · rintro ⟨k, h1, h2, h3⟩
    refine jw_su_pos n h1 ?_
    rw [if_neg (by omega)]
    exact h3
theorem jw_st_up {R : Nat → Nat → Nat} {n s p i : Nat} (hs : s < 64) (hp : p < 6) (hi : i < 6) (h : s / 2 ^ i % 2 = 1) : jm_st R n s p / 2 ^ i % 2 = 1 := by
  unfold jm_st
  split
  · exact h
  · rw [jw_orb s hs p hp i hi]
    split
    · rfl
    · exact h
theorem jw_ps_up {R : Nat → Nat → Nat} {n s i : Nat} (hs : s < 64) (hi : i < 6) : ∀ k j, k ≤ 6 → j ≤ k → jm_ps R n s j / 2 ^ i % 2 = 1 → jm_ps R n s k / 2 ^ i % 2 = 1
  | 0, j, _, hj, h => by
    obtain rfl : j = 0 := by omega
    exact h
  | k + 1, j, hk, hj, h => by
    by_cases e : j = k + 1
    · rw [← e]
      exact h
    · exact jw_st_up (jm_ps_lt hs k (by omega)) (by omega) hi (jw_ps_up hs hi k j (by omega) (by omega) h)
theorem jw_ps_go {R : Nat → Nat → Nat} {n s i q : Nat} (hn : n ≤ 6) (hs : s < 64) (hi : i < n) (hq : q < n) (h : s / 2 ^ i % 2 = 1) (hR : 0 < R q i) : jm_ps R n s n / 2 ^ q % 2 = 1 := by
  refine jw_ps_up hs (by omega) n (q + 1) hn (by omega) ?_
  have h2 := jw_ps_up (R := R) (n := n) (i := i) hs (by omega) q 0 (by omega) (by omega) h
  show jm_st R n (jm_ps R n s q) q / 2 ^ q % 2 = 1
  have h3 : 0 < jm_ri R q (jm_ps R n s q) n := jw_ri_pos.mpr ⟨i, hi, h2, hR⟩
  unfold jm_st
  rw [if_neg (by omega), jw_orb _ (jm_ps_lt hs q (by omega)) q (by omega) q (by omega), if_pos rfl]
theorem jw_ps_lt2 {R : Nat → Nat → Nat} {n s : Nat} (hn : n ≤ 6) (hs : s < 2 ^ n) : ∀ k, k ≤ n → jm_ps R n s k < 2 ^ n
  | 0, _ => hs
  | k + 1, hk => by
    have ih := jw_ps_lt2 (R := R) hn hs k (by omega)
    have h64 : 2 ^ n ≤ 2 ^ 6 := Nat.pow_le_pow_right (by omega) hn
    show jm_st R n (jm_ps R n s k) k < _
    unfold jm_st
    split
    · exact ih
    · exact (jw_or_lt n (by omega) _ (by omega) k (by omega)).resolve_left (fun h => h ⟨ih, by omega⟩)
theorem jw_ps_cl {R : Nat → Nat → Nat} {n s : Nat} {U : Nat → Bool} (hn : n ≤ 6) (hs : s < 64) (hsy : ∀ p q, R p q = R q p) (hc : ∀ i q, i < n → q < n → U i = true → U q = false → R i q = 0) (h : ∀ i, i < n → s / 2 ^ i % 2 = 1 → U i = true) : ∀ k, k ≤ n → ∀ i, i < n → jm_ps R n s k / 2 ^ i % 2 = 1 → U i = true
  | 0, _, i, hi, hb => h i hi hb
  | k + 1, hk, i, hi, hb => by
    have ih := jw_ps_cl hn hs hsy hc h k (by omega)
    change jm_st R n (jm_ps R n s k) k / 2 ^ i % 2 = 1 at hb
    unfold jm_st at hb
    split at hb
    · exact ih i hi hb
    · rename_i h1
      rw [jw_orb _ (jm_ps_lt hs k (by omega)) k (by omega) i (by omega)] at hb
      split at hb
      · rename_i e
        subst e
        obtain ⟨q, hq, h2, h3⟩ := jw_ri_pos.mp (Nat.lt_of_not_le h1)
        cases hU : U i with
        | true => rfl
        | false =>
          have := hc q i hq hi (ih q hq h2) hU
          rw [hsy] at this
          omega
      · exact ih i hi hb
theorem jw_wh {R : Nat → Nat → Nat} {n : Nat} (h : jw_N R n) : jm_wh R n = true ↔ jw_cut R n := by
  obtain ⟨hn, hR, hsy, -, -⟩ := h
  have h64 : 2 ^ n ≤ 2 ^ 6 := Nat.pow_le_pow_right (by omega) hn.2
  have hlt : ∀ r, jm_rc R n r < 2 ^ n := by
    intro r
    induction r with
    | zero =>
      show 1 < 2 ^ n
      exact Nat.one_lt_two_pow (by omega)
    | succ r ih => exact jw_ps_lt2 hn.2 ih n (Nat.le_refl n)
  unfold jm_wh
  rw [decide_eq_true_eq]
  exact jw_reach hn rfl hlt (fun r i hi hb => jw_ps_up (by have := hlt r; omega) hi n 0 hn.2 (by omega) hb) (fun r i q hi hq hb hr => jw_ps_go hn.2 (by have := hlt r; omega) hi hq hb (by rw [hsy]; exact hr)) (fun U hc r h => jw_ps_cl hn.2 (by have := hlt r; omega) hsy hc h n (Nat.le_refl n)) hsy (Nat.le_refl _)
/-! the model's rounds -/
theorem jw_mq_e {R : Nat → Nat → Nat} {p s : Nat} (hs : s < 64) (hp : p < 6) : ∀ k, k ≤ 6 → ∀ i, i < 6 → (jm_mq R p s k / 2 ^ i % 2 = 1 ↔ s / 2 ^ i % 2 = 1 ∨ (i < k ∧ 0 < R p i ∧ s / 2 ^ p % 2 = 1) ∨ (i < k ∧ 0 < R p i ∧ p < i ∧ 0 < R p p ∧ False))
  | 0, _, i, _ => by simp [jm_mq]
  | k + 1, hk, i, hi => by
    have ih := jw_mq_e (R := R) hs hp k (by omega)
    have hl := jm_mq_lt (R := R) (p := p) hs k (by omega)
    have hpp := ih p hp
    have hii := ih i hi
    unfold jm_mq
    generalize jm_mq R p s k = t at ih hl hpp hii ⊢
    by_cases c : t / 2 ^ p % 2 = 1 ∧ 0 < R p k
    · rw [if_pos c, jw_orb t hl k (by omega) i hi]
      by_cases e : i = k
      · subst e
        rw [if_pos rfl]
        have h1 : s / 2 ^ p % 2 = 1 := by
          rcases hpp.mp c.1 with h | h | h
          · exact h
          · exact h.2.2
          · exact h.2.2.2.2.elim
        exact ⟨fun _ => Or.inr (Or.inl ⟨by omega, c.2, h1⟩), fun _ => rfl⟩
      · rw [if_neg e, hii]
        constructor
        · rintro (h | h | h)
          · exact Or.inl h
          · exact Or.inr (Or.inl ⟨by omega, h.2⟩)
          · exact h.2.2.2.2.elim
        · rintro (h | h | h)
          · exact Or.inl h
          · exact Or.inr (Or.inl ⟨by omega, h.2⟩)
          · exact h.2.2.2.2.elim
    · rw [if_neg c, hii]
      constructor
      · rintro (h | h | h)
        · exact Or.inl h
        · exact Or.inr (Or.inl ⟨by omega, h.2⟩)
        · exact h.2.2.2.2.elim
      · rintro (h | h | h)
        · exact Or.inl h
        · by_cases e : i = k
          · subst e
            exact absurd ⟨hpp.mpr (Or.inl h.2.2), h.2.1⟩ c
          · exact Or.inr (Or.inl ⟨by omega, h.2⟩)
        · exact h.2.2.2.2.elim
theorem jw_mp_up {R : Nat → Nat → Nat} {n s i : Nat} (hn : n ≤ 6) (hs : s < 64) (hi : i < 6) : ∀ k j, k ≤ 6 → j ≤ k → jm_mp R n s j / 2 ^ i % 2 = 1 → jm_mp R n s k / 2 ^ i % 2 = 1
  | 0, j, _, hj, h => by
    obtain rfl : j = 0 := by omega
    exact h
  | k + 1, j, hk, hj, h => by
    by_cases e : j = k + 1
    · rw [← e]
      exact h
    · have ih := jw_mp_up hn hs hi k j (by omega) (by omega) h
      exact (jw_mq_e (jm_mp_lt hn hs k (by omega)) (by omega) n hn i hi).mpr (Or.inl ih)
theorem jw_mp_go {R : Nat → Nat → Nat} {n s i q : Nat} (hn : n ≤ 6) (hs : s < 64) (hi : i < n) (hq : q < n) (h : s / 2 ^ i % 2 = 1) (hR : 0 < R i q) : jm_mp R n s n / 2 ^ q % 2 = 1 := by
  refine jw_mp_up hn hs (by omega) n (i + 1) hn (by omega) ?_
  have h2 := jw_mp_up (R := R) (n := n) (i := i) hn hs (by omega) i 0 (by omega) (by omega) h
  exact (jw_mq_e (jm_mp_lt hn hs i (by omega)) (by omega) n hn q (by omega)).mpr (Or.inr (Or.inl ⟨hq, hR, h2⟩))
theorem jw_mq_lt2 {R : Nat → Nat → Nat} {n p s : Nat} (hn : n ≤ 6) (hs : s < 2 ^ n) : ∀ k, k ≤ n → jm_mq R p s k < 2 ^ n
  | 0, _ => hs
  | k + 1, hk => by
    have ih := jw_mq_lt2 (R := R) (p := p) hn hs k (by omega)
    have h64 : 2 ^ n ≤ 2 ^ 6 := Nat.pow_le_pow_right (by omega) hn
    unfold jm_mq
    split
    · exact (jw_or_lt n (by omega) _ (by omega) k (by omega)).resolve_left (fun h => h ⟨ih, by omega⟩)
    · exact ih
theorem jw_mp_lt2 {R : Nat → Nat → Nat} {n s : Nat} (hn : n ≤ 6) (hs : s < 2 ^ n) : ∀ k, k ≤ n → jm_mp R n s k < 2 ^ n
  | 0, _ => hs
  | k + 1, hk => jw_mq_lt2 hn (jw_mp_lt2 hn hs k (by omega)) n (Nat.le_refl n)
theorem jw_mp_cl {R : Nat → Nat → Nat} {n s : Nat} {U : Nat → Bool} (hn : n ≤ 6) (hs : s < 64) (hc : ∀ i q, i < n → q < n → U i = true → U q = false → R i q = 0) (h : ∀ i, i < n → s / 2 ^ i % 2 = 1 → U i = true) : ∀ k, k ≤ n → ∀ i, i < n → jm_mp R n s k / 2 ^ i % 2 = 1 → U i = true
  | 0, _, i, hi, hb => h i hi hb
  | k + 1, hk, i, hi, hb => by
    have ih := jw_mp_cl hn hs hc h k (by omega)
    rcases (jw_mq_e (jm_mp_lt hn hs k (by omega)) (by omega) n hn i (by omega)).mp hb with h1 | h1 | h1
    · exact ih i hi h1
    · cases hU : U i with
      | true => rfl
      | false =>
        have := hc k i (by omega) hi (ih k (by omega) h1.2.2) hU
        omega
    · exact h1.2.2.2.2.elim
theorem jw_mw {R : Nat → Nat → Nat} {n : Nat} (h : jw_N R n) : jm_mw R n = true ↔ jw_cut R n := by
  obtain ⟨hn, hR, hsy, -, -⟩ := h
  have h64 : 2 ^ n ≤ 2 ^ 6 := Nat.pow_le_pow_right (by omega) hn.2
  have hlt : ∀ r, jm_mr R n r < 2 ^ n := by
    intro r
    induction r with
    | zero =>
      show 1 < 2 ^ n
      exact Nat.one_lt_two_pow (by omega)
    | succ r ih => exact jw_mp_lt2 hn.2 ih n (Nat.le_refl n)
  unfold jm_mw
  rw [decide_eq_true_eq]
  exact jw_reach hn rfl hlt (fun r i hi hb => jw_mp_up hn.2 (by have := hlt r; omega) hi n 0 hn.2 (by omega) hb) (fun r i q hi hq hb hr => jw_mp_go hn.2 (by have := hlt r; omega) hi hq hb hr) (fun U hc r h => jw_mp_cl hn.2 (by have := hlt r; omega) hc h n (Nat.le_refl n)) hsy (by omega)
theorem jw_whmw {R : Nat → Nat → Nat} {n : Nat} (h : jw_N R n) : jm_mw R n = jm_wh R n := by
  have h1 := jw_wh h
  have h2 := jw_mw h
  cases e1 : jm_wh R n <;> cases e2 : jm_mw R n <;> simp_all
/-! the fire is over after n - 1 rounds -/
theorem jw_ft_up {R : Nat → Nat → Nat} {B : Nat → Int} {n s p i : Nat} (hs : s < 64) (hp : p < 6) (hi : i < 6) (h : s / 2 ^ i % 2 = 1) : jm_ft R B n s p / 2 ^ i % 2 = 1 := by
  unfold jm_ft
  split
  · exact h
  · rw [jw_orb s hs p hp i hi]
    split
    · rfl
    · exact h
theorem jw_fp_up {R : Nat → Nat → Nat} {B : Nat → Int} {n s i : Nat} (hs : s < 64) (hi : i < 6) : ∀ k, k ≤ 6 → s / 2 ^ i % 2 = 1 → jm_fp R B n s k / 2 ^ i % 2 = 1
  | 0, _, h => h
  | k + 1, hk, h => jw_ft_up (jm_fp_lt hs k (by omega)) (by omega) hi (jw_fp_up hs hi k (by omega) h)
theorem jw_fp_lt2 {R : Nat → Nat → Nat} {B : Nat → Int} {n s : Nat} (hn : n ≤ 6) (hs : s < 2 ^ n) : ∀ k, k ≤ n → jm_fp R B n s k < 2 ^ n
  | 0, _ => hs
  | k + 1, hk => by
    have ih := jw_fp_lt2 (R := R) (B := B) hn hs k (by omega)
    have h64 : 2 ^ n ≤ 2 ^ 6 := Nat.pow_le_pow_right (by omega) hn
    show jm_ft R B n (jm_fp R B n s k) k < _
    unfold jm_ft
    split
    · exact ih
    · exact (jw_or_lt n (by omega) _ (by omega) k (by omega)).resolve_left (fun h => h ⟨ih, by omega⟩)
theorem jw_fire {R : Nat → Nat → Nat} {B : Nat → Int} {n p : Nat} (hn : 1 ≤ n ∧ n ≤ 6) (hp : p < n) : jm_fi R B n (2 ^ p) 6 = jm_fi R B n (2 ^ p) (n - 1) := by
  have h64 : 2 ^ n ≤ 2 ^ 6 := Nat.pow_le_pow_right (by omega) hn.2
  have hlt : ∀ r, jm_fi R B n (2 ^ p) r < 2 ^ n := by
    intro r
    induction r with
    | zero => exact Nat.pow_lt_pow_right (by omega) hp
    | succ r ih => exact jw_fp_lt2 hn.2 ih n (Nat.le_refl n)
  have hst : ∀ r k, jm_fi R B n (2 ^ p) (r + 1) = jm_fi R B n (2 ^ p) r → jm_fi R B n (2 ^ p) (r + k) = jm_fi R B n (2 ^ p) r := by
    intro r k h
    induction k with
    | zero => rfl
    | succ k ih =>
      show jm_fp R B n (jm_fi R B n (2 ^ p) (r + k)) n = _
      rw [ih]
      exact h
  have key : ∀ r, (∃ k, k ≤ r ∧ jm_fi R B n (2 ^ p) (k + 1) = jm_fi R B n (2 ^ p) k) ∨ r + 1 ≤ jm_pc (jm_fi R B n (2 ^ p) r) := by
    intro r
    induction r with
    | zero =>
      right
      have : ∀ p, p < 6 → 0 + 1 ≤ jm_pc (2 ^ p) := by decide
      exact this p (by omega)
    | succ r ih =>
      by_cases c : ∃ k, k ≤ r ∧ jm_fi R B n (2 ^ p) (k + 1) = jm_fi R B n (2 ^ p) k
      · obtain ⟨k, h1, h2⟩ := c
        exact Or.inl ⟨k, by omega, h2⟩
      · have ih2 := ih.resolve_left c
        right
        have hne : ¬ jm_fi R B n (2 ^ p) (r + 1) = jm_fi R B n (2 ^ p) r := fun h => c ⟨r, Nat.le_refl r, h⟩
        have l1 := hlt r
        have l2 := hlt (r + 1)
        have hup : ∀ i, i < 6 → jm_fi R B n (2 ^ p) r / 2 ^ i % 2 = 1 → jm_fi R B n (2 ^ p) (r + 1) / 2 ^ i % 2 = 1 := fun i hi hb => jw_fp_up (by omega) hi n hn.2 hb
        have hex : ∃ i, i < 6 ∧ jm_fi R B n (2 ^ p) r / 2 ^ i % 2 = 0 ∧ jm_fi R B n (2 ^ p) (r + 1) / 2 ^ i % 2 = 1 := by
          apply Classical.byContradiction
          intro hno
          apply hne
          apply jw_ext6 (by omega) (by omega)
          intro i hi
          have b1 := jw_b01 (jm_fi R B n (2 ^ p) r) i
          have b2 := jw_b01 (jm_fi R B n (2 ^ p) (r + 1)) i
          rcases b1 with b1 | b1
          · rcases b2 with b2 | b2
            · omega
            · exact absurd ⟨i, hi, b1, b2⟩ hno
          · have := hup i hi b1
            omega
        obtain ⟨i, hi, b1, b2⟩ := hex
        have := jw_pc_lt hup hi b1 b2
        omega
  rcases key (n - 1) with ⟨k, h1, h2⟩ | h
  · have e1 := hst k (6 - k) h2
    have e2 := hst k (n - 1 - k) h2
    rw [show k + (6 - k) = 6 by omega] at e1
    rw [show k + (n - 1 - k) = n - 1 by omega] at e2
    rw [e1, e2]
  · have l1 := hlt (n - 1)
    have hf : jm_fi R B n (2 ^ p) (n - 1) = 2 ^ n - 1 := by
      rcases jw_full0 n (by omega) _ (show jm_fi R B n (2 ^ p) (n - 1) < 64 by omega) with h1 | h1 | h1
      · exact absurd l1 h1
      · exact h1
      · omega
    have l2 := hlt (n - 1 + 1)
    have h3 : jm_fi R B n (2 ^ p) (n - 1 + 1) = jm_fi R B n (2 ^ p) (n - 1) := by
      apply jw_ext6 (by omega) (by omega)
      intro i hi
      by_cases c : i < n
      · have e1 := (jw_fullb n (by omega) i hi).mpr c
        have e2 : jm_fi R B n (2 ^ p) (n - 1 + 1) / 2 ^ i % 2 = 1 := jw_fp_up (by omega) hi n hn.2 (by rw [hf]; exact e1)
        rw [hf]
        omega
      · have e1 := (jw_nobit n (by omega) _ (show jm_fi R B n (2 ^ p) (n - 1 + 1) < 64 by omega) i hi).resolve_left (fun h => h ⟨l2, by omega⟩)
        have e2 := (jw_nobit n (by omega) _ (show jm_fi R B n (2 ^ p) (n - 1) < 64 by omega) i hi).resolve_left (fun h => h ⟨l1, by omega⟩)
        omega
    have := hst (n - 1) (6 - (n - 1)) h3
    rw [show n - 1 + (6 - (n - 1)) = 6 by omega] at this
    exact this
