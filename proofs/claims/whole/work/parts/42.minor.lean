/-! What the model's minor computes: jw_D of the table. -/
theorem jw_sub1 : ∀ T, T < 64 → ∀ j, j < 6 → T / 2 ^ j % 2 = 1 → jm_pc (T - 2 ^ j) + 1 = jm_pc T ∧ (T - 2 ^ j) ||| 2 ^ j = T ∧ (T - 2 ^ j) / 2 ^ j % 2 = 0 ∧ 2 ^ j ≤ T := by decide +kernel
theorem jw_sub2 : ∀ T, T < 64 → ∀ C, C < 64 → ∀ j, j < 6 → (¬ (T / 2 ^ j % 2 = 1 ∧ T &&& C = T) ∨ ((T - 2 ^ j) &&& C = T - 2 ^ j ∧ C / 2 ^ j % 2 = 1)) := by decide +kernel
theorem jw_or1 : ∀ s, s < 64 → ∀ j, j < 6 → (¬ s / 2 ^ j % 2 = 0 ∨ ((s ||| 2 ^ j) / 2 ^ j % 2 = 1 ∧ (s ||| 2 ^ j) - 2 ^ j = s ∧ jm_pc (s ||| 2 ^ j) = jm_pc s + 1 ∧ s ||| 2 ^ j ≠ s ∧ (s ||| 2 ^ j) / 2 ^ (j + 1) = s / 2 ^ (j + 1))) := by decide +kernel
theorem jw_or2 : ∀ s, s < 64 → ∀ j, j < 6 → ∀ i, i < 6 → (¬ (s / 2 ^ j % 2 = 0 ∧ s / 2 ^ i % 2 = 0 ∧ s ||| 2 ^ j = s ||| 2 ^ i) ∨ j = i) := by decide +kernel
theorem jw_b01 (s j : Nat) : s / 2 ^ j % 2 = 0 ∨ s / 2 ^ j % 2 = 1 := Nat.mod_two_eq_zero_or_one _
/-- one set's share: what it leaves alone -/
theorem jw_uj_no {R : Nat → Nat → Nat} {n C i s T : Nat} {W : Nat → Int64} : ∀ j, (∀ k, k < j → s / 2 ^ k % 2 = 0 → C / 2 ^ k % 2 = 1 → T ≠ s ||| 2 ^ k) → jm_uj R n C i s W j T = W T
  | 0, _ => rfl
  | j + 1, h => by
    unfold jm_uj
    have ih := jw_uj_no (R := R) (n := n) (C := C) (i := i) (s := s) (T := T) (W := W) j (fun k hk => h k (by omega))
    by_cases c1 : C / 2 ^ j % 2 = 0
    · rw [if_pos c1]
      exact ih
    · rw [if_neg c1]
      by_cases c2 : s / 2 ^ j % 2 = 1
      · rw [if_pos c2]
        exact ih
      · rw [if_neg c2]
        have := h j (by omega) (by omega) (by omega)
        unfold vp_updL
        rw [if_neg this]
        exact ih
theorem jw_uj_at {R : Nat → Nat → Nat} {n C i s k : Nat} {W : Nat → Int64} (hs : s < 64) (hk : k < 6) (b1 : s / 2 ^ k % 2 = 0) (b2 : C / 2 ^ k % 2 = 1) : ∀ j, j ≤ 6 → k < j → jm_uj R n C i s W j (s ||| 2 ^ k) = W (s ||| 2 ^ k) + (if jm_pc (s / 2 ^ (k + 1)) % 2 = 1 then -(W s * jL (jm_A R n i k)) else W s * jL (jm_A R n i k))
  | 0, _, h => absurd h (Nat.not_lt_zero k)
  | j + 1, hj, h => by
    by_cases e : k = j
    · subst e
      unfold jm_uj
      rw [if_neg (by omega), if_neg (by omega)]
      unfold vp_updL
      rw [if_pos rfl]
      have o := (jw_or1 s hs k hk).resolve_left (fun h => h b1)
      rw [jw_uj_no k (fun q hq h1 _ h3 => by
        have := (jw_or2 s hs q (by omega) k hk).resolve_left (fun h4 => h4 ⟨h1, b1, h3.symm⟩)
        omega), jw_uj_no k (fun q hq h1 _ h3 => by
        have := ((jw_or1 s hs q (by omega)).resolve_left (fun h => h h1)).2.2.2.1
        exact this h3.symm)]
    · have ih := jw_uj_at (R := R) (n := n) (i := i) (W := W) hs hk b1 b2 j (by omega) (by omega)
      unfold jm_uj
      by_cases c1 : C / 2 ^ j % 2 = 0
      · rw [if_pos c1]
        exact ih
      · rw [if_neg c1]
        by_cases c2 : s / 2 ^ j % 2 = 1
        · rw [if_pos c2]
          exact ih
        · rw [if_neg c2]
          unfold vp_updL
          rw [if_neg (fun h3 => e ((jw_or2 s hs k hk j (by omega)).resolve_left (fun h4 => h4 ⟨b1, by omega, h3⟩)))]
          exact ih
/-- the share of the sets from 64 - k on -/
def jw_pt (w : Nat → Int) (a : Nat → Int) (T k : Nat) : Int := jn_sz1 (fun j => if 64 ≤ (T - 2 ^ j) + k then jw_g T j * w (T - 2 ^ j) * a j else 0) 6
theorem jw_us_e {R : Nat → Nat → Nat} {n C i done : Nat} {W : Nat → Int64} {w : Nat → Int} (hC : C < 64) (h1 : ∀ s, s < 64 → jm_pc s = done → s &&& C = s → W s = jL (w s)) (h2 : ∀ s, s < 64 → done < jm_pc s → W s = lN 0) : ∀ k, k ≤ 64 → (∀ s, s < 64 → jm_pc s = done → s &&& C = s → jm_us R n C i done W k s = jL (w s)) ∧ (∀ T, T < 64 → done + 1 < jm_pc T → jm_us R n C i done W k T = lN 0) ∧ ∀ T, T < 64 → jm_pc T = done + 1 → T &&& C = T → jm_us R n C i done W k T = jL (jw_pt w (jm_A R n i) T k)
  | 0, _ => by
    refine ⟨h1, fun T hT hp => h2 T hT (by omega), fun T hT hp hc => ?_⟩
    rw [show jm_us R n C i done W 0 T = lN 0 from h2 T hT (by omega)]
    unfold jw_pt
    rw [jw_cg 6 (g := fun _ => 0) (fun j _ => by have := Nat.sub_le T (2 ^ j); rw [if_neg (by omega)]), jw_0]
    rfl
  | k + 1, hk => by
    obtain ⟨i1, i2, i3⟩ := jw_us_e (i := i) (R := R) (n := n) hC h1 h2 k (by omega)
    have hs : 63 - k < 64 := by omega
    unfold jm_us
    generalize jm_us R n C i done W k = V at i1 i2 i3 ⊢
    -- how the share grows
    have grow : ∀ T, T < 64 → jm_pc T = done + 1 → T &&& C = T → (∀ j, j < 6 → T / 2 ^ j % 2 = 1 → T - 2 ^ j ≠ 63 - k) → jw_pt w (jm_A R n i) T (k + 1) = jw_pt w (jm_A R n i) T k := by
      intro T hT hp hc hno
      unfold jw_pt
      apply jw_cg
      intro j hj
      by_cases b : T / 2 ^ j % 2 = 1
      · have := hno j hj b
        by_cases c : 64 ≤ (T - 2 ^ j) + k
        · rw [if_pos c, if_pos (by omega)]
        · rw [if_neg c, if_neg (by omega)]
      · rw [jw_gt4 b]
        simp
    have grow2 : ∀ T, T < 64 → ∀ j, j < 6 → T / 2 ^ j % 2 = 1 → T - 2 ^ j = 63 - k → jw_pt w (jm_A R n i) T (k + 1) = jw_pt w (jm_A R n i) T k + jw_g T j * w (63 - k) * jm_A R n i j := by
      intro T hT j hj b e
      have e1 : ∀ q, q < 6 → (if 64 ≤ (T - 2 ^ q) + (k + 1) then jw_g T q * w (T - 2 ^ q) * jm_A R n i q else 0) = (if 64 ≤ (T - 2 ^ q) + k then jw_g T q * w (T - 2 ^ q) * jm_A R n i q else 0) + if q = j then jw_g T j * w (63 - k) * jm_A R n i j else 0 := by
        intro q hq
        by_cases hqj : q = j
        · subst hqj
          rw [if_pos rfl, if_pos (by omega), if_neg (by omega), e]
          omega
        · rw [if_neg hqj]
          by_cases bq : T / 2 ^ q % 2 = 1
          · have o1 := jw_sub1 T hT q hq bq
            have o2 := jw_sub1 T hT j hj b
            have hne : T - 2 ^ q ≠ 63 - k := by
              intro h
              rw [h] at o1
              rw [e] at o2
              exact hqj ((jw_or2 (63 - k) hs q hq j hj).resolve_left (fun h4 => h4 ⟨o1.2.2.1, o2.2.2.1, o1.2.1.trans o2.2.1.symm⟩))
            by_cases c : 64 ≤ (T - 2 ^ q) + k
            · rw [if_pos c, if_pos (by omega)]
              omega
            · rw [if_neg c, if_neg (by omega)]
              omega
          · rw [jw_gt4 bq]
            simp
      unfold jw_pt
      rw [jw_cg 6 e1, jw_add, jw_one 6 hj (fun q _ hq => if_neg hq), if_pos rfl]
    by_cases c : jm_pc (63 - k) = done ∧ ¬ V (63 - k) = lN 0 ∧ (63 - k) &&& C = 63 - k
    · rw [if_pos c]
      obtain ⟨c1, -, c3⟩ := c
      refine ⟨fun s hs1 hp hc => ?_, fun T hT hp => ?_, fun T hT hp hc => ?_⟩
      · rw [jw_uj_no 6 (fun q hq b1 _ e => by
          have := ((jw_or1 (63 - k) hs q hq).resolve_left (fun h => h b1)).2.2.1
          rw [← e] at this
          omega)]
        exact i1 s hs1 hp hc
      · rw [jw_uj_no 6 (fun q hq b1 _ e => by
          have := ((jw_or1 (63 - k) hs q hq).resolve_left (fun h => h b1)).2.2.1
          rw [← e] at this
          omega)]
        exact i2 T hT hp
      · by_cases hex : ∃ j, j < 6 ∧ T / 2 ^ j % 2 = 1 ∧ T - 2 ^ j = 63 - k
        · obtain ⟨j, hj, b, e⟩ := hex
          have o1 := jw_sub1 T hT j hj b
          have o2 := (jw_sub2 T hT C hC j hj).resolve_left (fun h => h ⟨b, hc⟩)
          rw [e] at o1
          have hu := jw_uj_at (R := R) (n := n) (i := i) (W := V) hs hj o1.2.2.1 o2.2 6 (Nat.le_refl 6) hj
          rw [o1.2.1] at hu
          rw [hu, i3 T hT hp hc, i1 (63 - k) hs c1 c3, grow2 T hT j hj b e]
          have o3 := ((jw_or1 (63 - k) hs j hj).resolve_left (fun h => h o1.2.2.1)).2.2.2.2
          rw [o1.2.1] at o3
          have hg : jw_g T j = if jm_pc ((63 - k) / 2 ^ (j + 1)) % 2 = 1 then -1 else 1 := by
            unfold jw_g
            rw [if_pos ⟨hT, b⟩, o3]
          rw [hg, ← jL_add]
          split
          · rw [jL_mul, jL_neg]
            congr 2
            grind
          · rw [jL_mul]
            congr 2
            grind
        · have hno : ∀ j, j < 6 → T / 2 ^ j % 2 = 1 → T - 2 ^ j ≠ 63 - k := fun j hj b e => hex ⟨j, hj, b, e⟩
          rw [grow T hT hp hc hno, jw_uj_no 6 (fun q hq b1 b2 e => by
            have o := (jw_or1 (63 - k) hs q hq).resolve_left (fun h => h b1)
            rw [← e] at o
            exact hno q hq o.1 o.2.1)]
          exact i3 T hT hp hc
    · rw [if_neg c]
      refine ⟨i1, i2, fun T hT hp hc => ?_⟩
      rw [i3 T hT hp hc]
      by_cases hex : ∃ j, j < 6 ∧ T / 2 ^ j % 2 = 1 ∧ T - 2 ^ j = 63 - k
      · obtain ⟨j, hj, b, e⟩ := hex
        have o1 := jw_sub1 T hT j hj b
        have o2 := (jw_sub2 T hT C hC j hj).resolve_left (fun h => h ⟨b, hc⟩)
        rw [e] at o1 o2
        have hz : V (63 - k) = lN 0 := by
          by_cases h0 : V (63 - k) = lN 0
          · exact h0
          · exact absurd ⟨by omega, h0, o2.1⟩ c
        rw [i1 (63 - k) hs (by omega) o2.1] at hz
        rw [grow2 T hT j hj b e, ← jL_add, ← jL_mul, ← jL_mul, hz]
        have z : ∀ a b c : Int64, a + b * lN 0 * c = a := by
          intro a b c
          have : lN 0 = 0 := rfl
          rw [this]
          simp
        rw [z]
      · rw [grow T hT hp hc (fun j hj b e => hex ⟨j, hj, b, e⟩)]
theorem jw_pc0 : ∀ s, s < 64 → jm_pc s = 0 → s = 0 := by decide +kernel
theorem jw_pc0' : jm_pc 0 = 0 := by decide
theorem jw_ur_e {R : Nat → Nat → Nat} {n rows C : Nat} {used : Nat → Int64} (hC : C < 64) : ∀ i, i ≤ 6 → (∀ s, s < 64 → jm_pc s = (jm_ur R n rows C (jm_u0 used 64) i).2 → s &&& C = s → (jm_ur R n rows C (jm_u0 used 64) i).1 s = jL (jw_om (jm_A R n) rows i s)) ∧ (∀ s, s < 64 → (jm_ur R n rows C (jm_u0 used 64) i).2 < jm_pc s → (jm_ur R n rows C (jm_u0 used 64) i).1 s = lN 0) ∧ (jm_ur R n rows C (jm_u0 used 64) i).2 = jn_su (fun k => rows / 2 ^ k % 2) i
  | 0, _ => by
    unfold jm_ur jw_om
    refine ⟨fun s hs hp _ => ?_, fun s hs hp => ?_, rfl⟩
    · rw [jw_pc0 s hs hp]
      rfl
    · have : s ≠ 0 := by
        intro h
        rw [h, jw_pc0'] at hp
        exact Nat.lt_irrefl 0 hp
      show jm_u0 used 64 s = lN 0
      unfold jm_u0
      rw [if_pos hs, if_neg this]
  | i + 1, hi => by
    obtain ⟨i1, i2, i3⟩ := jw_ur_e (R := R) (n := n) (rows := rows) (used := used) hC i (by omega)
    unfold jm_ur jw_om jn_su
    generalize jm_ur R n rows C (jm_u0 used 64) i = P at i1 i2 i3 ⊢
    rcases jw_b01 rows i with b | b
    · rw [if_pos b, if_neg (by omega), b]
      exact ⟨i1, i2, i3⟩
    · rw [if_neg (by omega), if_pos b, b]
      obtain ⟨e1, e2, e3⟩ := jw_us_e (i := i) (R := R) (n := n) hC i1 i2 64 (Nat.le_refl 64)
      refine ⟨fun T hT hp hc => ?_, fun T hT hp => e2 T hT hp, by dsimp only; omega⟩
      show jm_us R n C i P.2 P.1 64 T = _
      rw [e3 T hT hp hc]
      refine congrArg jL ?_
      unfold jw_pt jw_W
      apply jw_cg
      intro j _
      rw [if_pos (by omega)]
/-- the model's minor is the determinant -/
theorem jw_minor {R : Nat → Nat → Nat} {n rows C : Nat} {used : Nat → Int64} (hC : C < 64) (hp : jm_pc rows = jm_pc C) : (jm_ur R n rows C (jm_u0 used 64) 6).1 C = jL (jw_D (jm_A R n) rows C) := by
  obtain ⟨e1, -, e3⟩ := jw_ur_e (R := R) (n := n) (rows := rows) (used := used) hC 6 (Nat.le_refl 6)
  exact e1 C hC (by rw [e3, ← hp]; rfl) (Nat.and_self C)
