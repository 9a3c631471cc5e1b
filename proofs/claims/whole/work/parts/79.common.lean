/-! The greatest common divisor of the minors of a size: the class's, the model's. -/
theorem jm_cg_d {Dt : Nat → Nat → Nat} {lines size d : Nat} : ∀ (m cols g : Nat), d ∣ jm_cg Dt lines size m cols g ↔ d ∣ g ∧ ∀ j, j < m → jm_pc (cols + 2 * j) = size → d ∣ Dt lines (cols + 2 * j)
  | 0, cols, g => ⟨fun h => ⟨h, fun j hj => absurd hj (Nat.not_lt_zero j)⟩, fun h => h.1⟩
  | m + 1, cols, g => by
    unfold jm_cg
    by_cases c1 : g = 1
    · rw [if_pos c1]
      constructor
      · intro h
        refine ⟨h, fun j _ _ => ?_⟩
        rw [c1] at h
        rw [Nat.dvd_one.mp h]
        exact Nat.one_dvd _
      · exact fun h => h.1
    · rw [if_neg c1, jm_cg_d m]
      by_cases c2 : jm_pc cols = size
      · rw [if_pos c2, Nat.dvd_gcd_iff]
        constructor
        · rintro ⟨⟨h1, h2⟩, h3⟩
          refine ⟨h1, fun j hj hp => ?_⟩
          cases j with
          | zero => exact h2
          | succ j =>
            have := h3 j (by omega)
            rw [show cols + 2 + 2 * j = cols + 2 * (j + 1) by omega] at this
            exact this hp
        · rintro ⟨h1, h2⟩
          refine ⟨⟨h1, h2 0 (by omega) c2⟩, fun j hj hp => ?_⟩
          have := h2 (j + 1) (by omega)
          rw [show cols + 2 * (j + 1) = cols + 2 + 2 * j by omega] at this
          exact this hp
      · rw [if_neg c2]
        constructor
        · rintro ⟨h1, h3⟩
          refine ⟨h1, fun j hj hp => ?_⟩
          cases j with
          | zero => exact absurd hp c2
          | succ j =>
            have := h3 j (by omega)
            rw [show cols + 2 + 2 * j = cols + 2 * (j + 1) by omega] at this
            exact this hp
        · rintro ⟨h1, h2⟩
          refine ⟨h1, fun j hj hp => ?_⟩
          have := h2 (j + 1) (by omega)
          rw [show cols + 2 * (j + 1) = cols + 2 + 2 * j by omega] at this
          exact this hp
theorem jm_cd_d {Dt : Nat → Nat → Nat} {n size d : Nat} : ∀ (m lines g : Nat), d ∣ jm_cd Dt n size m lines g ↔ d ∣ g ∧ ∀ i, i < m → jm_pc (lines + 2 * i) = size → ∀ j, j < (2 ^ n + 1 - (lines + 2 * i)) / 2 → jm_pc (lines + 2 * i + 2 * j) = size → d ∣ Dt (lines + 2 * i) (lines + 2 * i + 2 * j)
  | 0, lines, g => ⟨fun h => ⟨h, fun j hj => absurd hj (Nat.not_lt_zero j)⟩, fun h => h.1⟩
  | m + 1, lines, g => by
    unfold jm_cd
    by_cases c1 : g = 1
    · rw [if_pos c1]
      constructor
      · intro h
        refine ⟨h, fun i _ _ j _ _ => ?_⟩
        rw [c1] at h
        rw [Nat.dvd_one.mp h]
        exact Nat.one_dvd _
      · exact fun h => h.1
    · rw [if_neg c1, jm_cd_d m]
      by_cases c2 : jm_pc lines = size
      · rw [if_pos c2, jm_cg_d]
        constructor
        · rintro ⟨⟨h1, h2⟩, h3⟩
          refine ⟨h1, fun i hi hp => ?_⟩
          cases i with
          | zero => exact fun j hj hq => h2 j hj hq
          | succ i =>
            have := h3 i (by omega)
            rw [show lines + 2 + 2 * i = lines + 2 * (i + 1) by omega] at this
            exact this hp
        · rintro ⟨h1, h2⟩
          refine ⟨⟨h1, fun j hj hq => h2 0 (by omega) c2 j hj hq⟩, fun i hi hp => ?_⟩
          have := h2 (i + 1) (by omega)
          rw [show lines + 2 * (i + 1) = lines + 2 + 2 * i by omega] at this
          exact this hp
      · rw [if_neg c2]
        constructor
        · rintro ⟨h1, h3⟩
          refine ⟨h1, fun i hi hp => ?_⟩
          cases i with
          | zero => exact absurd hp c2
          | succ i =>
            have := h3 i (by omega)
            rw [show lines + 2 + 2 * i = lines + 2 * (i + 1) by omega] at this
            exact this hp
        · rintro ⟨h1, h2⟩
          refine ⟨h1, fun i hi hp => ?_⟩
          have := h2 (i + 1) (by omega)
          rw [show lines + 2 * (i + 1) = lines + 2 + 2 * i by omega] at this
          exact this hp
/-- the model's: along the columns, then along the rows -/
def jm_ci (Dt : Nat → Nat → Nat) (n k r g : Nat) : Nat → Nat
  | 0 => g
  | j + 1 => if (r ||| 2 * j) < 2 ^ n ∧ jm_pc r = k ∧ jm_pc (2 * j) = k then Nat.gcd (jm_ci Dt n k r g j) (Dt r (2 * j)) else jm_ci Dt n k r g j
def jm_co (Dt : Nat → Nat → Nat) (n k : Nat) : Nat → Nat
  | 0 => 0
  | i + 1 => jm_ci Dt n k (2 * i) (jm_co Dt n k i) 32
theorem jm_ci_d {Dt : Nat → Nat → Nat} {n k r g d : Nat} : ∀ m, d ∣ jm_ci Dt n k r g m ↔ d ∣ g ∧ ∀ j, j < m → ((r ||| 2 * j) < 2 ^ n ∧ jm_pc r = k ∧ jm_pc (2 * j) = k) → d ∣ Dt r (2 * j)
  | 0 => ⟨fun h => ⟨h, fun j hj => absurd hj (Nat.not_lt_zero j)⟩, fun h => h.1⟩
  | m + 1 => by
    have ih := jm_ci_d (Dt := Dt) (n := n) (k := k) (r := r) (g := g) (d := d) m
    unfold jm_ci
    by_cases c : (r ||| 2 * m) < 2 ^ n ∧ jm_pc r = k ∧ jm_pc (2 * m) = k
    · rw [if_pos c, Nat.dvd_gcd_iff, ih]
      constructor
      · rintro ⟨⟨h1, h2⟩, h3⟩
        refine ⟨h1, fun j hj hc => ?_⟩
        rcases Nat.lt_succ_iff_lt_or_eq.mp hj with h | h
        · exact h2 j h hc
        · subst h
          exact h3
      · rintro ⟨h1, h2⟩
        exact ⟨⟨h1, fun j hj hc => h2 j (by omega) hc⟩, h2 m (by omega) c⟩
    · rw [if_neg c, ih]
      constructor
      · rintro ⟨h1, h2⟩
        refine ⟨h1, fun j hj hc => ?_⟩
        rcases Nat.lt_succ_iff_lt_or_eq.mp hj with h | h
        · exact h2 j h hc
        · subst h
          exact absurd hc c
      · rintro ⟨h1, h2⟩
        exact ⟨h1, fun j hj hc => h2 j (by omega) hc⟩
theorem jm_co_d {Dt : Nat → Nat → Nat} {n k d : Nat} : ∀ m, d ∣ jm_co Dt n k m ↔ ∀ i, i < m → ∀ j, j < 32 → ((2 * i ||| 2 * j) < 2 ^ n ∧ jm_pc (2 * i) = k ∧ jm_pc (2 * j) = k) → d ∣ Dt (2 * i) (2 * j)
  | 0 => ⟨fun _ j hj => absurd hj (Nat.not_lt_zero j), fun _ => Nat.dvd_zero _⟩
  | m + 1 => by
    have ih := jm_co_d (Dt := Dt) (n := n) (k := k) (d := d) m
    unfold jm_co
    rw [jm_ci_d, ih]
    constructor
    · rintro ⟨h1, h2⟩ i hi
      rcases Nat.lt_succ_iff_lt_or_eq.mp hi with h | h
      · exact h1 i h
      · subst h
        exact h2
    · intro h
      exact ⟨fun i hi => h i (by omega), h m (by omega)⟩
theorem jm_cd_co {Dt : Nat → Nat → Nat} {n k : Nat} (hn : n ≤ 6) (hs : ∀ r c, r < 64 → c < 64 → Dt r c = Dt c r) : jm_cd Dt n k ((2 ^ n + 1) / 2) 0 0 = jm_co Dt n k 32 := by
  have h64 : 2 ^ n ≤ 2 ^ 6 := Nat.pow_le_pow_right (by omega) hn
  have key : ∀ d, d ∣ jm_cd Dt n k ((2 ^ n + 1) / 2) 0 0 ↔ d ∣ jm_co Dt n k 32 := by
    intro d
    rw [jm_cd_d, jm_co_d]
    constructor
    · rintro ⟨-, h⟩ i hi j hj ⟨c1, c2, c3⟩
      have a1 : 2 * i ≤ (2 * i ||| 2 * j) := Nat.left_le_or
      have a2 : 2 * j ≤ (2 * i ||| 2 * j) := Nat.right_le_or
      rcases Nat.le_total i j with hij | hij
      · have := h i (by omega) (by rw [Nat.zero_add]; exact c2) (j - i) (by omega)
        rw [show 0 + 2 * i + 2 * (j - i) = 2 * j by omega, Nat.zero_add] at this
        exact this c3
      · have := h j (by omega) (by rw [Nat.zero_add]; exact c3) (i - j) (by omega)
        rw [show 0 + 2 * j + 2 * (i - j) = 2 * i by omega, Nat.zero_add] at this
        rw [hs _ _ (by omega) (by omega)]
        exact this c2
    · intro h
      refine ⟨Nat.dvd_zero _, fun i hi c2 j hj c3 => ?_⟩
      have a1 : (2 * i ||| 2 * (i + j)) < 2 ^ n := Nat.or_lt_two_pow (by omega) (by omega)
      rw [show 0 + 2 * i + 2 * j = 2 * (i + j) by omega] at c3 ⊢
      rw [Nat.zero_add] at c2 ⊢
      exact h i (by omega) (i + j) (by omega) ⟨a1, c2, c3⟩
  exact Nat.dvd_antisymm ((key _).mp (Nat.dvd_refl _)) ((key _).mpr (Nat.dvd_refl _))
theorem jm_ci_lt {Dt : Nat → Nat → Nat} {n k r g B : Nat} (hg : g < B) (hD : ∀ c, (r ||| c) < 2 ^ n → jm_pc r = k → jm_pc c = k → Dt r c < B) : ∀ m, jm_ci Dt n k r g m < B
  | 0 => hg
  | m + 1 => by
    have ih := jm_ci_lt hg hD m
    unfold jm_ci
    by_cases c : (r ||| 2 * m) < 2 ^ n ∧ jm_pc r = k ∧ jm_pc (2 * m) = k
    · rw [if_pos c]
      have h1 := hD (2 * m) c.1 c.2.1 c.2.2
      by_cases hz : jm_ci Dt n k r g m = 0
      · rw [hz, Nat.gcd_zero_left]
        exact h1
      · exact Nat.lt_of_le_of_lt (Nat.gcd_le_left _ (by omega)) ih
    · rw [if_neg c]
      exact ih
theorem jm_co_lt {Dt : Nat → Nat → Nat} {n k B : Nat} (hg : 0 < B) (hD : ∀ r c, (r ||| c) < 2 ^ n → jm_pc r = k → jm_pc c = k → Dt r c < B) : ∀ m, jm_co Dt n k m < B
  | 0 => hg
  | m + 1 => jm_ci_lt (jm_co_lt hg hD m) (hD (2 * m)) 32
theorem jm_kS : ∀ n, n < 7 → ∀ k, k < n → (2 ^ (k + 1) - 2 < 2 ^ n ∧ jm_pc (2 ^ (k + 1) - 2) = k ∧ (2 ^ (k + 1) - 2) / 2 ^ 0 % 2 = 0 ∧ 2 * (2 ^ k - 1) = 2 ^ (k + 1) - 2 ∧ 2 ^ k - 1 < 32) := by decide +kernel
def jm_Dn (R : Nat → Nat → Nat) (n : Nat) : Nat → Nat → Nat := fun r c => (jw_D (jm_A R n) r c).natAbs
theorem jm_co_pos {R : Nat → Nat → Nat} {n k : Nat} (h : jw_H R n 0) (hk : k < n) : 0 < jm_co (jm_Dn R n) n k 32 := by
  have hn := h.1.1
  obtain ⟨s1, s2, s3, s4, s5⟩ := jm_kS n (by omega) k hk
  have hp := jw_posN h.1 h.2.1 s1 h.2.2 s3
  have hd := (jm_co_d (Dt := jm_Dn R n) (n := n) (k := k) 32).mp (Nat.dvd_refl _) (2 ^ k - 1) s5 (2 ^ k - 1) s5 (by rw [s4, Nat.or_self]; exact ⟨s1, s2, s2⟩)
  rw [s4] at hd
  refine Nat.pos_of_ne_zero fun h0 => ?_
  rw [h0] at hd
  have e := Nat.eq_zero_of_zero_dvd hd
  unfold jm_Dn at e
  omega
theorem jm_or2 : ∀ i, i < 32 → ∀ j, j < 32 → nI (2 * i) ||| nI (2 * j) = nI (2 * i ||| 2 * j) := by decide +kernel
theorem jn_M_common {sc : Nat × Nat × (Nat → Int32)} {bs : Nat} {κ : jn_KT} {mnets : Int32} {mbooks : Int32} {rowSize : Int32} {posts : Nat → Int32} {road : Nat → Int32} {netOf : Nat → Int32} {number : Nat → Int32} {refused : Nat → Int32} {used : Nat → Int64} {now : Nat → Int64} {lent : Nat → Int64} {share : Nat → Int64} {cofactor : Nat → Int64} {trees : Nat → Int64} {isKnown : Nat → Int32} {first : Nat → Int64} {firstLent : Nat → Int64} {goods : Nat → Int32} {base : Nat → Int64} {kept : Nat → Int32} {row : Nat → Int32} {moved : Nat → Int32} {D : List jn_Ce} {t n k : Nat} {R : Nat → Nat → Nat} (hsc : sc.1 < bs) (h : jm_hM posts road t n R) (hR : ∀ p q, R p q ≤ 4) (hk : k ≤ 6) : ∃ us : Nat → Int64, jn_V 117 5 [.ref (bs + 19), .int (nI t), .int (nI k)] (jn_mem sc bs κ (mnets, mbooks, rowSize, posts, road, netOf, number, refused, used, now, lent, share, cofactor, trees, isKnown, first, firstLent, goods, base, kept, row, moved) D) (some (.long (lN (jm_co (jm_Dn R n) n k 32)))) (jn_mem sc bs κ (mnets, mbooks, rowSize, posts, road, netOf, number, refused, us, now, lent, share, cofactor, trees, isKnown, first, firstLent, goods, base, kept, row, moved) D) := by
  have ht := h.1
  have h2 := h.2.1
  have hn := h.2.2.1
  have h64 : 2 ^ n ≤ 2 ^ 6 := Nat.pow_le_pow_right (by omega) hn.2
  have hDl : ∀ r c, (r ||| c) < 2 ^ n → jm_pc r = k → jm_pc c = k → jm_Dn R n r c < 9223372036854775808 := by
    intro r c h1 h3 h4
    have a1 : r ≤ (r ||| c) := Nat.left_le_or
    have a2 : c ≤ (r ||| c) := Nat.right_le_or
    have d2 := (jw_det (R := R) (n := n) (ro := r) (C := c) (c := fun _ => 0) hn.2 hR (by omega) (by omega) (by omega)).2
    have h6 : 64 ^ jm_pc c ≤ 64 ^ 6 := Nat.pow_le_pow_right (by omega) (jm_pc_le _)
    have : (64 : Nat) ^ 6 = 68719476736 := by decide
    unfold jm_Dn
    omega
  have main := jn_V_exd (cm := 117) (k := 5) (vs := [.ref (bs + 19), .int (nI t), .int (nI k)]) (M := (jn_mem sc bs κ (mnets, mbooks, rowSize, posts, road, netOf, number, refused, used, now, lent, share, cofactor, trees, isKnown, first, firstLent, goods, base, kept, row, moved) D)) (post := fun v M' => v = some (.long (lN (jm_co (jm_Dn R n) n k 32))) ∧ ∃ us : Nat → Int64, M' = (jn_mem sc bs κ (mnets, mbooks, rowSize, posts, road, netOf, number, refused, us, now, lent, share, cofactor, trees, isKnown, first, firstLent, goods, base, kept, row, moved) D)) (by
    intro d hd
    rw [show jn_en (jn_G0 117).1.2.2.1 [.ref (bs + 19), .int (nI t), .int (nI k)] = [some (.ref (bs + 19)), some (.int (nI t)), some (.int (nI k)), none, none, none, none, none] from rfl]
    generalize hQ0 : (fun (v : Option Value) (M' : jn_M) => v = some (.long (lN (jm_co (jm_Dn R n) n k 32))) ∧ ∃ us : Nat → Int64, M' = (jn_mem sc bs κ (mnets, mbooks, rowSize, posts, road, netOf, number, refused, us, now, lent, share, cofactor, trees, isKnown, first, firstLent, goods, base, kept, row, moved) D)) = Q
    have hQ : ∀ (us : Nat → Int64), Q (some (.long (lN (jm_co (jm_Dn R n) n k 32)))) (jn_mem sc bs κ (mnets, mbooks, rowSize, posts, road, netOf, number, refused, us, now, lent, share, cofactor, trees, isKnown, first, firstLent, goods, base, kept, row, moved) D) := by
      intro us
      rw [← hQ0]
      exact ⟨rfl, us, rfl⟩
    clear hQ0
    have L5 : ∀ (us : Nat → Int64) (x6 x7 : Option Value), jn_W d 117 5 [some (.ref (bs + 19)), some (.int (nI t)), some (.int (nI k)), some (.long (lN (jm_co (jm_Dn R n) n k 0))), none, some (.int (nI (2 * 0))), x6, x7] [] (jn_mem sc bs κ (mnets, mbooks, rowSize, posts, road, netOf, number, refused, us, now, lent, share, cofactor, trees, isKnown, first, firstLent, goods, base, kept, row, moved) D) Q := by
      refine jn_up (P := fun i => ∀ (us : Nat → Int64) (x6 x7 : Option Value), jn_W d 117 5 [some (.ref (bs + 19)), some (.int (nI t)), some (.int (nI k)), some (.long (lN (jm_co (jm_Dn R n) n k i))), none, some (.int (nI (2 * i))), x6, x7] [] (jn_mem sc bs κ (mnets, mbooks, rowSize, posts, road, netOf, number, refused, us, now, lent, share, cofactor, trees, isKnown, first, firstLent, goods, base, kept, row, moved) D) Q) (n := 32) (fun i hi hP us x6 x7 => ?_) (fun us x6 x7 => ?_)
      · have hg0 := jm_co_lt (n := n) (k := k) (by omega) hDl i
        have e9 : jm_co (jm_Dn R n) n k (i + 1) = jm_ci (jm_Dn R n) n k (2 * i) (jm_co (jm_Dn R n) n k i) 32 := rfl
        simp only [e9, show 2 * (i + 1) = 2 * i + 2 by omega] at hP
        clear hQ e9
        generalize jm_co (jm_Dn R n) n k i = g0 at hg0 hP ⊢
        have L15 : ∀ (us : Nat → Int64) (x7 : Option Value), jn_W d 117 15 [some (.ref (bs + 19)), some (.int (nI t)), some (.int (nI k)), some (.long (lN (jm_ci (jm_Dn R n) n k (2 * i) g0 0))), none, some (.int (nI (2 * i))), some (.int (nI (2 * 0))), x7] [] (jn_mem sc bs κ (mnets, mbooks, rowSize, posts, road, netOf, number, refused, us, now, lent, share, cofactor, trees, isKnown, first, firstLent, goods, base, kept, row, moved) D) Q := by
          refine jn_up (P := fun j => ∀ (us : Nat → Int64) (x7 : Option Value), jn_W d 117 15 [some (.ref (bs + 19)), some (.int (nI t)), some (.int (nI k)), some (.long (lN (jm_ci (jm_Dn R n) n k (2 * i) g0 j))), none, some (.int (nI (2 * i))), some (.int (nI (2 * j))), x7] [] (jn_mem sc bs κ (mnets, mbooks, rowSize, posts, road, netOf, number, refused, us, now, lent, share, cofactor, trees, isKnown, first, firstLent, goods, base, kept, row, moved) D) Q) (n := 32) (fun j hj hP2 us x7 => ?_) (fun us x7 => ?_)
          · have hg1 := jm_ci_lt (n := n) (k := k) (r := 2 * i) hg0 (hDl (2 * i)) j
            have e8 : jm_ci (jm_Dn R n) n k (2 * i) g0 (j + 1) = if (2 * i ||| 2 * j) < 2 ^ n ∧ jm_pc (2 * i) = k ∧ jm_pc (2 * j) = k then Nat.gcd (jm_ci (jm_Dn R n) n k (2 * i) g0 j) (jm_Dn R n (2 * i) (2 * j)) else jm_ci (jm_Dn R n) n k (2 * i) g0 j := rfl
            simp only [e8, show 2 * (j + 1) = 2 * j + 2 by omega] at hP2
            clear hP e8
            generalize jm_ci (jm_Dn R n) n k (2 * i) g0 j = g1 at hg1 hP2 ⊢
            have hor := jm_or2 i hi j hj
            have hp1 := jm_pc_le (2 * i)
            have hp2 := jm_pc_le (2 * j)
            have hlt : (2 * i ||| 2 * j) < 64 := Nat.or_lt_two_pow (n := 6) (by omega) (by omega)
            by_cases c1 : (2 * i ||| 2 * j) < 2 ^ n
            · by_cases c2 : jm_pc (2 * i) = k
              · by_cases c3 : jm_pc (2 * j) = k
                · have hd := hDl (2 * i) (2 * j) c1 c2 c3
                  rw [if_pos ⟨c1, c2, c3⟩] at hP2
                  have hmin := jn_M_minor (sc := sc) (bs := bs) (κ := κ) (mnets := mnets) (mbooks := mbooks) (rowSize := rowSize) (posts := posts) (road := road) (netOf := netOf) (number := number) (refused := refused) (used := us) (now := now) (lent := lent) (share := share) (cofactor := cofactor) (trees := trees) (isKnown := isKnown) (first := first) (firstLent := firstLent) (goods := goods) (base := base) (kept := kept) (row := row) (moved := moved) (D := D) (rows := 2 * i) (cols := 2 * j) hsc h (by omega) (by omega)
                  rw [jw_minor (by omega) (by omega)] at hmin
                  have hP3 := fun us => hP2 us (some (.int (nI 1)))
                  unfold jm_Dn at hP3 hd
                  have hgM := fun (M : jn_M) => jn_M_divisor (M := M) (x := (g1 : Int)) (y := jw_D (jm_A R n) (2 * i) (2 * j)) (by omega) (by omega)
                  simp only [jL_nat, Int.natAbs_natCast] at hgM
                  generalize jw_D (jm_A R n) (2 * i) (2 * j) = dd at hmin hgM hP3 hd
                  generalize (jm_ur R n (2 * i) (2 * j) (jm_u0 us 64) 6).1 = u1 at hmin
                  clear hP2 hDl
                  have hP4 := hP3 u1
                  clear hP3
                  rw [jn_w117_15]
                  simp (disch := omega) only [jn_w117_0, jn_w117_1, jn_w117_2, jn_w117_3, jn_w117_7, jn_w117_9, jn_w117_12, jn_w117_13, jn_w117_17, jn_w117_19, jn_w117_22, jn_w117_24, jn_w117_26, jn_w117_27, jn_w117_28, jn_w117_28n, jn_w117_29, jn_w117_32, jn_w117_33, jn_w117_34, jn_w117_35, jn_w117_38, jn_w117_39, jn_w117_42, jn_w117_43, jn_w117_45, jn_w117_47, jn_w117_50, jn_w117_55, jn_w117_56, jn_w117_59, jn_w117_64, jn_w117_65, jn_w117_68, jn_w117_69, jn_w117_69n, jn_w117_70, jn_w117_71, jn_w117_73, jn_w117_81, jn_w117_82, jn_w117_85, jn_w117_88, jn_w117_91, jn_w117_94, jn_w117_95, jn_kk_n, jn_kk_i, jn_kk_r, jn_kk_u, jn_kk_l, jn_sm_0, jn_sm_i, jn_sm_l, jn_sm_r, jn_sm_u, jn_zb_0, jn_zb_1, jn_zb_b, jn_bI_0, and_true, true_and, and_self, Bool.and_true, Bool.true_and, decide_eq_true_eq, Option.toList_some, Option.toList_none, List.cons_append, List.nil_append, not_true_eq_false, not_false_eq_true, if_true, if_false, jn_oNet_o0, jn_oNet_v0, jn_oNet_o1, jn_oNet_v1, jn_oNet_o2, jn_oNet_v2, jn_oBook_o0, jn_oBook_v0, jn_oBook_o1, jn_oBook_v1, jn_oTab_o0, jn_oTab_v0, jn_oTak_o0, jn_oTak_v0, jn_oRed_o0, jn_oRed_v0, jn_oRed_o1, jn_oRed_v1, jn_oRed_s1, jn_oRed_o2, jn_oRed_v2, jn_oRed_s2, jn_oRed_o3, jn_oRed_v3, jn_oRed_s3, jn_oRed_o4, jn_oRed_v4, jn_oRed_o5, jn_oRed_v5, jn_oBrk_o0, jn_oBrk_v0, jn_oBrk_o1, jn_oBrk_v1, jn_oBrk_o2, jn_oBrk_v2, jn_oBrk_o3, jn_oBrk_v3, jn_oD_o0, jn_oD_v0, jn_oD_o1, jn_oD_v1, jn_oD_s1, jn_oD_o2, jn_oD_v2, jn_oD_o3, jn_oD_v3, jn_oD_s3, jn_oD_o4, jn_oD_v4, jn_oD_o5, jn_oD_v5, jn_oD_s5, jn_oD_o6, jn_oD_v6, jn_oD_o7, jn_oD_v7, jn_oD_o8, jn_oD_v8, jn_oD_o9, jn_oD_v9, jn_oD_o10, jn_oD_v10, jn_oM_o0, jn_oM_v0, jn_oM_o1, jn_oM_v1, jn_oM_o2, jn_oM_v2, jn_oM_s2, jn_oM_o3, jn_oM_v3, jn_oM_s3, jn_oM_o4, jn_oM_v4, jn_oM_o5, jn_oM_v5, jn_oM_o6, jn_oM_v6, jn_oM_o7, jn_oM_v7, jn_oM_o8, jn_oM_v8, jn_oM_o9, jn_oM_v9, jn_oM_o10, jn_oM_v10, jn_oM_o11, jn_oM_v11, jn_oM_o12, jn_oM_v12, jn_oM_o13, jn_oM_v13, jn_oM_o14, jn_oM_v14, jn_oM_o15, jn_oM_v15, jn_oM_o16, jn_oM_v16, jn_oM_o17, jn_oM_v17, jn_oM_o18, jn_oM_v18, jn_oM_o19, jn_oM_v19, jn_oM_o20, jn_oM_v20, jn_oM_o21, jn_oM_v21, jn_oM_s21, jn_aI_o, jn_aI_v, jn_aI_s, jn_aZ_o, jn_aZ_v, jn_aZ_s, jn_aL_o, jn_aL_v, jn_aL_s, jn_aN_o, jn_aN_v, jn_aN_s, jn_aN_p, jn_aB_o, jn_aB_v, jn_aB_s, jn_aB_p, jn_cp_on, jn_cp_sn, jn_io_n, jn_io_j, jn_cl_n, jn_cl_j, jI_add, nIadd, njIadd, jnIadd, jL_add, nLadd, njLadd, jnLadd, jI_sub, nIsub, njIsub, jnIsub, jL_sub, nLsub, njLsub, jnLsub, jI_mul, nImul, njImul, jnImul, jL_mul, nLmul, njLmul, jnLmul, jI_neg, nIneg, jL_neg, nLneg, jn_sr0, jn_sr1, jn_sr2, jn_sr3, jn_sr4, jn_sr5, jn_sr6, jn_sr7, jn_sr8, jn_sr9, jn_sr10, jn_sr11, jn_sr12, jn_sr13, jn_sr14, jn_sr15, jn_sr16, jn_sr17, jn_sr18, jn_sr19, jn_sw0, jn_sw1, jn_sw2, jn_sw3, jn_sw4, jn_sw5, jn_sw6, jn_sw7, jn_sw8, jn_sw9, jn_sw10, jn_sw11, jn_sw12, jn_sw13, jn_sw14, jn_sw15, jn_sw16, jn_sw17, jn_sw18, jn_sw19, jn_si1 hsc, jn_si2 hsc, jn_si3 hsc, jn_si4 hsc, jn_si5 hsc, jn_si15 hsc, jn_si17 hsc, jn_si18 hsc, jn_si19 hsc, jIle_nn, jIeq_nn, show ¬ 64 ≤ 2 * j by omega, hor, h2, jn_shl_1, show ¬ 2 ^ n ≤ (2 * i ||| 2 * j) by omega, show ¬ (1 = 0) by omega, jn_w117_52 (d := d) (jn_M_many (s := 2 * i) (by omega)) ⟨by omega, by omega⟩, jn_w117_61 (d := d) (jn_M_many (s := 2 * j) (by omega)) ⟨by omega, by omega⟩, jn_rc0, c2, c3, eq_self, jn_w117_75 (d := d) (hmin) ⟨by omega, by omega⟩, jn_sM_rc, jn_w117_78 (d := d) (hgM _) ⟨by omega, by omega⟩]
                  exact ⟨by omega, hP4⟩
                · rw [if_neg (fun h' => c3 h'.2.2)] at hP2
                  have hP4 := hP2 us (some (.int (nI 1)))
                  clear hP2 hDl
                  rw [jn_w117_15]
                  simp (disch := omega) only [jn_w117_0, jn_w117_1, jn_w117_2, jn_w117_3, jn_w117_7, jn_w117_9, jn_w117_12, jn_w117_13, jn_w117_17, jn_w117_19, jn_w117_22, jn_w117_24, jn_w117_26, jn_w117_27, jn_w117_28, jn_w117_28n, jn_w117_29, jn_w117_32, jn_w117_33, jn_w117_34, jn_w117_35, jn_w117_38, jn_w117_39, jn_w117_42, jn_w117_43, jn_w117_45, jn_w117_47, jn_w117_50, jn_w117_55, jn_w117_56, jn_w117_59, jn_w117_64, jn_w117_65, jn_w117_68, jn_w117_69, jn_w117_69n, jn_w117_70, jn_w117_71, jn_w117_73, jn_w117_81, jn_w117_82, jn_w117_85, jn_w117_88, jn_w117_91, jn_w117_94, jn_w117_95, jn_kk_n, jn_kk_i, jn_kk_r, jn_kk_u, jn_kk_l, jn_sm_0, jn_sm_i, jn_sm_l, jn_sm_r, jn_sm_u, jn_zb_0, jn_zb_1, jn_zb_b, jn_bI_0, and_true, true_and, and_self, Bool.and_true, Bool.true_and, decide_eq_true_eq, Option.toList_some, Option.toList_none, List.cons_append, List.nil_append, not_true_eq_false, not_false_eq_true, if_true, if_false, jn_oNet_o0, jn_oNet_v0, jn_oNet_o1, jn_oNet_v1, jn_oNet_o2, jn_oNet_v2, jn_oBook_o0, jn_oBook_v0, jn_oBook_o1, jn_oBook_v1, jn_oTab_o0, jn_oTab_v0, jn_oTak_o0, jn_oTak_v0, jn_oRed_o0, jn_oRed_v0, jn_oRed_o1, jn_oRed_v1, jn_oRed_s1, jn_oRed_o2, jn_oRed_v2, jn_oRed_s2, jn_oRed_o3, jn_oRed_v3, jn_oRed_s3, jn_oRed_o4, jn_oRed_v4, jn_oRed_o5, jn_oRed_v5, jn_oBrk_o0, jn_oBrk_v0, jn_oBrk_o1, jn_oBrk_v1, jn_oBrk_o2, jn_oBrk_v2, jn_oBrk_o3, jn_oBrk_v3, jn_oD_o0, jn_oD_v0, jn_oD_o1, jn_oD_v1, jn_oD_s1, jn_oD_o2, jn_oD_v2, jn_oD_o3, jn_oD_v3, jn_oD_s3, jn_oD_o4, jn_oD_v4, jn_oD_o5, jn_oD_v5, jn_oD_s5, jn_oD_o6, jn_oD_v6, jn_oD_o7, jn_oD_v7, jn_oD_o8, jn_oD_v8, jn_oD_o9, jn_oD_v9, jn_oD_o10, jn_oD_v10, jn_oM_o0, jn_oM_v0, jn_oM_o1, jn_oM_v1, jn_oM_o2, jn_oM_v2, jn_oM_s2, jn_oM_o3, jn_oM_v3, jn_oM_s3, jn_oM_o4, jn_oM_v4, jn_oM_o5, jn_oM_v5, jn_oM_o6, jn_oM_v6, jn_oM_o7, jn_oM_v7, jn_oM_o8, jn_oM_v8, jn_oM_o9, jn_oM_v9, jn_oM_o10, jn_oM_v10, jn_oM_o11, jn_oM_v11, jn_oM_o12, jn_oM_v12, jn_oM_o13, jn_oM_v13, jn_oM_o14, jn_oM_v14, jn_oM_o15, jn_oM_v15, jn_oM_o16, jn_oM_v16, jn_oM_o17, jn_oM_v17, jn_oM_o18, jn_oM_v18, jn_oM_o19, jn_oM_v19, jn_oM_o20, jn_oM_v20, jn_oM_o21, jn_oM_v21, jn_oM_s21, jn_aI_o, jn_aI_v, jn_aI_s, jn_aZ_o, jn_aZ_v, jn_aZ_s, jn_aL_o, jn_aL_v, jn_aL_s, jn_aN_o, jn_aN_v, jn_aN_s, jn_aN_p, jn_aB_o, jn_aB_v, jn_aB_s, jn_aB_p, jn_cp_on, jn_cp_sn, jn_io_n, jn_io_j, jn_cl_n, jn_cl_j, jI_add, nIadd, njIadd, jnIadd, jL_add, nLadd, njLadd, jnLadd, jI_sub, nIsub, njIsub, jnIsub, jL_sub, nLsub, njLsub, jnLsub, jI_mul, nImul, njImul, jnImul, jL_mul, nLmul, njLmul, jnLmul, jI_neg, nIneg, jL_neg, nLneg, jn_sr0, jn_sr1, jn_sr2, jn_sr3, jn_sr4, jn_sr5, jn_sr6, jn_sr7, jn_sr8, jn_sr9, jn_sr10, jn_sr11, jn_sr12, jn_sr13, jn_sr14, jn_sr15, jn_sr16, jn_sr17, jn_sr18, jn_sr19, jn_sw0, jn_sw1, jn_sw2, jn_sw3, jn_sw4, jn_sw5, jn_sw6, jn_sw7, jn_sw8, jn_sw9, jn_sw10, jn_sw11, jn_sw12, jn_sw13, jn_sw14, jn_sw15, jn_sw16, jn_sw17, jn_sw18, jn_sw19, jn_si1 hsc, jn_si2 hsc, jn_si3 hsc, jn_si4 hsc, jn_si5 hsc, jn_si15 hsc, jn_si17 hsc, jn_si18 hsc, jn_si19 hsc, jIle_nn, jIeq_nn, show ¬ 64 ≤ 2 * j by omega, hor, h2, jn_shl_1, show ¬ 2 ^ n ≤ (2 * i ||| 2 * j) by omega, show ¬ (1 = 0) by omega, jn_w117_52 (d := d) (jn_M_many (s := 2 * i) (by omega)) ⟨by omega, by omega⟩, jn_w117_61 (d := d) (jn_M_many (s := 2 * j) (by omega)) ⟨by omega, by omega⟩, jn_rc0, c2, c3, eq_self]
                  exact ⟨by omega, hP4⟩
              · rw [if_neg (fun h' => c2 h'.2.1)] at hP2
                have hP4 := hP2 us (some (.int (nI 1)))
                clear hP2 hDl
                rw [jn_w117_15]
                simp (disch := omega) only [jn_w117_0, jn_w117_1, jn_w117_2, jn_w117_3, jn_w117_7, jn_w117_9, jn_w117_12, jn_w117_13, jn_w117_17, jn_w117_19, jn_w117_22, jn_w117_24, jn_w117_26, jn_w117_27, jn_w117_28, jn_w117_28n, jn_w117_29, jn_w117_32, jn_w117_33, jn_w117_34, jn_w117_35, jn_w117_38, jn_w117_39, jn_w117_42, jn_w117_43, jn_w117_45, jn_w117_47, jn_w117_50, jn_w117_55, jn_w117_56, jn_w117_59, jn_w117_64, jn_w117_65, jn_w117_68, jn_w117_69, jn_w117_69n, jn_w117_70, jn_w117_71, jn_w117_73, jn_w117_81, jn_w117_82, jn_w117_85, jn_w117_88, jn_w117_91, jn_w117_94, jn_w117_95, jn_kk_n, jn_kk_i, jn_kk_r, jn_kk_u, jn_kk_l, jn_sm_0, jn_sm_i, jn_sm_l, jn_sm_r, jn_sm_u, jn_zb_0, jn_zb_1, jn_zb_b, jn_bI_0, and_true, true_and, and_self, Bool.and_true, Bool.true_and, decide_eq_true_eq, Option.toList_some, Option.toList_none, List.cons_append, List.nil_append, not_true_eq_false, not_false_eq_true, if_true, if_false, jn_oNet_o0, jn_oNet_v0, jn_oNet_o1, jn_oNet_v1, jn_oNet_o2, jn_oNet_v2, jn_oBook_o0, jn_oBook_v0, jn_oBook_o1, jn_oBook_v1, jn_oTab_o0, jn_oTab_v0, jn_oTak_o0, jn_oTak_v0, jn_oRed_o0, jn_oRed_v0, jn_oRed_o1, jn_oRed_v1, jn_oRed_s1, jn_oRed_o2, jn_oRed_v2, jn_oRed_s2, jn_oRed_o3, jn_oRed_v3, jn_oRed_s3, jn_oRed_o4, jn_oRed_v4, jn_oRed_o5, jn_oRed_v5, jn_oBrk_o0, jn_oBrk_v0, jn_oBrk_o1, jn_oBrk_v1, jn_oBrk_o2, jn_oBrk_v2, jn_oBrk_o3, jn_oBrk_v3, jn_oD_o0, jn_oD_v0, jn_oD_o1, jn_oD_v1, jn_oD_s1, jn_oD_o2, jn_oD_v2, jn_oD_o3, jn_oD_v3, jn_oD_s3, jn_oD_o4, jn_oD_v4, jn_oD_o5, jn_oD_v5, jn_oD_s5, jn_oD_o6, jn_oD_v6, jn_oD_o7, jn_oD_v7, jn_oD_o8, jn_oD_v8, jn_oD_o9, jn_oD_v9, jn_oD_o10, jn_oD_v10, jn_oM_o0, jn_oM_v0, jn_oM_o1, jn_oM_v1, jn_oM_o2, jn_oM_v2, jn_oM_s2, jn_oM_o3, jn_oM_v3, jn_oM_s3, jn_oM_o4, jn_oM_v4, jn_oM_o5, jn_oM_v5, jn_oM_o6, jn_oM_v6, jn_oM_o7, jn_oM_v7, jn_oM_o8, jn_oM_v8, jn_oM_o9, jn_oM_v9, jn_oM_o10, jn_oM_v10, jn_oM_o11, jn_oM_v11, jn_oM_o12, jn_oM_v12, jn_oM_o13, jn_oM_v13, jn_oM_o14, jn_oM_v14, jn_oM_o15, jn_oM_v15, jn_oM_o16, jn_oM_v16, jn_oM_o17, jn_oM_v17, jn_oM_o18, jn_oM_v18, jn_oM_o19, jn_oM_v19, jn_oM_o20, jn_oM_v20, jn_oM_o21, jn_oM_v21, jn_oM_s21, jn_aI_o, jn_aI_v, jn_aI_s, jn_aZ_o, jn_aZ_v, jn_aZ_s, jn_aL_o, jn_aL_v, jn_aL_s, jn_aN_o, jn_aN_v, jn_aN_s, jn_aN_p, jn_aB_o, jn_aB_v, jn_aB_s, jn_aB_p, jn_cp_on, jn_cp_sn, jn_io_n, jn_io_j, jn_cl_n, jn_cl_j, jI_add, nIadd, njIadd, jnIadd, jL_add, nLadd, njLadd, jnLadd, jI_sub, nIsub, njIsub, jnIsub, jL_sub, nLsub, njLsub, jnLsub, jI_mul, nImul, njImul, jnImul, jL_mul, nLmul, njLmul, jnLmul, jI_neg, nIneg, jL_neg, nLneg, jn_sr0, jn_sr1, jn_sr2, jn_sr3, jn_sr4, jn_sr5, jn_sr6, jn_sr7, jn_sr8, jn_sr9, jn_sr10, jn_sr11, jn_sr12, jn_sr13, jn_sr14, jn_sr15, jn_sr16, jn_sr17, jn_sr18, jn_sr19, jn_sw0, jn_sw1, jn_sw2, jn_sw3, jn_sw4, jn_sw5, jn_sw6, jn_sw7, jn_sw8, jn_sw9, jn_sw10, jn_sw11, jn_sw12, jn_sw13, jn_sw14, jn_sw15, jn_sw16, jn_sw17, jn_sw18, jn_sw19, jn_si1 hsc, jn_si2 hsc, jn_si3 hsc, jn_si4 hsc, jn_si5 hsc, jn_si15 hsc, jn_si17 hsc, jn_si18 hsc, jn_si19 hsc, jIle_nn, jIeq_nn, show ¬ 64 ≤ 2 * j by omega, hor, h2, jn_shl_1, show ¬ 2 ^ n ≤ (2 * i ||| 2 * j) by omega, show ¬ (1 = 0) by omega, jn_w117_52 (d := d) (jn_M_many (s := 2 * i) (by omega)) ⟨by omega, by omega⟩, jn_rc0, c2]
                exact ⟨by omega, hP4⟩
            · rw [if_neg (fun h' => c1 h'.1)] at hP2
              have hP4 := hP2 us (some (.int (nI 0)))
              clear hP2 hDl
              rw [jn_w117_15]
              simp (disch := omega) only [jn_w117_0, jn_w117_1, jn_w117_2, jn_w117_3, jn_w117_7, jn_w117_9, jn_w117_12, jn_w117_13, jn_w117_17, jn_w117_19, jn_w117_22, jn_w117_24, jn_w117_26, jn_w117_27, jn_w117_28, jn_w117_28n, jn_w117_29, jn_w117_32, jn_w117_33, jn_w117_34, jn_w117_35, jn_w117_38, jn_w117_39, jn_w117_42, jn_w117_43, jn_w117_45, jn_w117_47, jn_w117_50, jn_w117_55, jn_w117_56, jn_w117_59, jn_w117_64, jn_w117_65, jn_w117_68, jn_w117_69, jn_w117_69n, jn_w117_70, jn_w117_71, jn_w117_73, jn_w117_81, jn_w117_82, jn_w117_85, jn_w117_88, jn_w117_91, jn_w117_94, jn_w117_95, jn_kk_n, jn_kk_i, jn_kk_r, jn_kk_u, jn_kk_l, jn_sm_0, jn_sm_i, jn_sm_l, jn_sm_r, jn_sm_u, jn_zb_0, jn_zb_1, jn_zb_b, jn_bI_0, and_true, true_and, and_self, Bool.and_true, Bool.true_and, decide_eq_true_eq, Option.toList_some, Option.toList_none, List.cons_append, List.nil_append, not_true_eq_false, not_false_eq_true, if_true, if_false, jn_oNet_o0, jn_oNet_v0, jn_oNet_o1, jn_oNet_v1, jn_oNet_o2, jn_oNet_v2, jn_oBook_o0, jn_oBook_v0, jn_oBook_o1, jn_oBook_v1, jn_oTab_o0, jn_oTab_v0, jn_oTak_o0, jn_oTak_v0, jn_oRed_o0, jn_oRed_v0, jn_oRed_o1, jn_oRed_v1, jn_oRed_s1, jn_oRed_o2, jn_oRed_v2, jn_oRed_s2, jn_oRed_o3, jn_oRed_v3, jn_oRed_s3, jn_oRed_o4, jn_oRed_v4, jn_oRed_o5, jn_oRed_v5, jn_oBrk_o0, jn_oBrk_v0, jn_oBrk_o1, jn_oBrk_v1, jn_oBrk_o2, jn_oBrk_v2, jn_oBrk_o3, jn_oBrk_v3, jn_oD_o0, jn_oD_v0, jn_oD_o1, jn_oD_v1, jn_oD_s1, jn_oD_o2, jn_oD_v2, jn_oD_o3, jn_oD_v3, jn_oD_s3, jn_oD_o4, jn_oD_v4, jn_oD_o5, jn_oD_v5, jn_oD_s5, jn_oD_o6, jn_oD_v6, jn_oD_o7, jn_oD_v7, jn_oD_o8, jn_oD_v8, jn_oD_o9, jn_oD_v9, jn_oD_o10, jn_oD_v10, jn_oM_o0, jn_oM_v0, jn_oM_o1, jn_oM_v1, jn_oM_o2, jn_oM_v2, jn_oM_s2, jn_oM_o3, jn_oM_v3, jn_oM_s3, jn_oM_o4, jn_oM_v4, jn_oM_o5, jn_oM_v5, jn_oM_o6, jn_oM_v6, jn_oM_o7, jn_oM_v7, jn_oM_o8, jn_oM_v8, jn_oM_o9, jn_oM_v9, jn_oM_o10, jn_oM_v10, jn_oM_o11, jn_oM_v11, jn_oM_o12, jn_oM_v12, jn_oM_o13, jn_oM_v13, jn_oM_o14, jn_oM_v14, jn_oM_o15, jn_oM_v15, jn_oM_o16, jn_oM_v16, jn_oM_o17, jn_oM_v17, jn_oM_o18, jn_oM_v18, jn_oM_o19, jn_oM_v19, jn_oM_o20, jn_oM_v20, jn_oM_o21, jn_oM_v21, jn_oM_s21, jn_aI_o, jn_aI_v, jn_aI_s, jn_aZ_o, jn_aZ_v, jn_aZ_s, jn_aL_o, jn_aL_v, jn_aL_s, jn_aN_o, jn_aN_v, jn_aN_s, jn_aN_p, jn_aB_o, jn_aB_v, jn_aB_s, jn_aB_p, jn_cp_on, jn_cp_sn, jn_io_n, jn_io_j, jn_cl_n, jn_cl_j, jI_add, nIadd, njIadd, jnIadd, jL_add, nLadd, njLadd, jnLadd, jI_sub, nIsub, njIsub, jnIsub, jL_sub, nLsub, njLsub, jnLsub, jI_mul, nImul, njImul, jnImul, jL_mul, nLmul, njLmul, jnLmul, jI_neg, nIneg, jL_neg, nLneg, jn_sr0, jn_sr1, jn_sr2, jn_sr3, jn_sr4, jn_sr5, jn_sr6, jn_sr7, jn_sr8, jn_sr9, jn_sr10, jn_sr11, jn_sr12, jn_sr13, jn_sr14, jn_sr15, jn_sr16, jn_sr17, jn_sr18, jn_sr19, jn_sw0, jn_sw1, jn_sw2, jn_sw3, jn_sw4, jn_sw5, jn_sw6, jn_sw7, jn_sw8, jn_sw9, jn_sw10, jn_sw11, jn_sw12, jn_sw13, jn_sw14, jn_sw15, jn_sw16, jn_sw17, jn_sw18, jn_sw19, jn_si1 hsc, jn_si2 hsc, jn_si3 hsc, jn_si4 hsc, jn_si5 hsc, jn_si15 hsc, jn_si17 hsc, jn_si18 hsc, jn_si19 hsc, jIle_nn, jIeq_nn, show ¬ 64 ≤ 2 * j by omega, hor, h2, jn_shl_1, show 2 ^ n ≤ (2 * i ||| 2 * j) by omega, eq_self]
              exact ⟨by omega, hP4⟩
          · have hP4 := hP us (some (.int (nI (2 * 32)))) x7
            clear hP hDl
            rw [jn_w117_15]
            simp (disch := omega) only [jn_w117_0, jn_w117_1, jn_w117_2, jn_w117_3, jn_w117_7, jn_w117_9, jn_w117_12, jn_w117_13, jn_w117_17, jn_w117_19, jn_w117_22, jn_w117_24, jn_w117_26, jn_w117_27, jn_w117_28, jn_w117_28n, jn_w117_29, jn_w117_32, jn_w117_33, jn_w117_34, jn_w117_35, jn_w117_38, jn_w117_39, jn_w117_42, jn_w117_43, jn_w117_45, jn_w117_47, jn_w117_50, jn_w117_55, jn_w117_56, jn_w117_59, jn_w117_64, jn_w117_65, jn_w117_68, jn_w117_69, jn_w117_69n, jn_w117_70, jn_w117_71, jn_w117_73, jn_w117_81, jn_w117_82, jn_w117_85, jn_w117_88, jn_w117_91, jn_w117_94, jn_w117_95, jn_kk_n, jn_kk_i, jn_kk_r, jn_kk_u, jn_kk_l, jn_sm_0, jn_sm_i, jn_sm_l, jn_sm_r, jn_sm_u, jn_zb_0, jn_zb_1, jn_zb_b, jn_bI_0, and_true, true_and, and_self, Bool.and_true, Bool.true_and, decide_eq_true_eq, Option.toList_some, Option.toList_none, List.cons_append, List.nil_append, not_true_eq_false, not_false_eq_true, if_true, if_false, jn_oNet_o0, jn_oNet_v0, jn_oNet_o1, jn_oNet_v1, jn_oNet_o2, jn_oNet_v2, jn_oBook_o0, jn_oBook_v0, jn_oBook_o1, jn_oBook_v1, jn_oTab_o0, jn_oTab_v0, jn_oTak_o0, jn_oTak_v0, jn_oRed_o0, jn_oRed_v0, jn_oRed_o1, jn_oRed_v1, jn_oRed_s1, jn_oRed_o2, jn_oRed_v2, jn_oRed_s2, jn_oRed_o3, jn_oRed_v3, jn_oRed_s3, jn_oRed_o4, jn_oRed_v4, jn_oRed_o5, jn_oRed_v5, jn_oBrk_o0, jn_oBrk_v0, jn_oBrk_o1, jn_oBrk_v1, jn_oBrk_o2, jn_oBrk_v2, jn_oBrk_o3, jn_oBrk_v3, jn_oD_o0, jn_oD_v0, jn_oD_o1, jn_oD_v1, jn_oD_s1, jn_oD_o2, jn_oD_v2, jn_oD_o3, jn_oD_v3, jn_oD_s3, jn_oD_o4, jn_oD_v4, jn_oD_o5, jn_oD_v5, jn_oD_s5, jn_oD_o6, jn_oD_v6, jn_oD_o7, jn_oD_v7, jn_oD_o8, jn_oD_v8, jn_oD_o9, jn_oD_v9, jn_oD_o10, jn_oD_v10, jn_oM_o0, jn_oM_v0, jn_oM_o1, jn_oM_v1, jn_oM_o2, jn_oM_v2, jn_oM_s2, jn_oM_o3, jn_oM_v3, jn_oM_s3, jn_oM_o4, jn_oM_v4, jn_oM_o5, jn_oM_v5, jn_oM_o6, jn_oM_v6, jn_oM_o7, jn_oM_v7, jn_oM_o8, jn_oM_v8, jn_oM_o9, jn_oM_v9, jn_oM_o10, jn_oM_v10, jn_oM_o11, jn_oM_v11, jn_oM_o12, jn_oM_v12, jn_oM_o13, jn_oM_v13, jn_oM_o14, jn_oM_v14, jn_oM_o15, jn_oM_v15, jn_oM_o16, jn_oM_v16, jn_oM_o17, jn_oM_v17, jn_oM_o18, jn_oM_v18, jn_oM_o19, jn_oM_v19, jn_oM_o20, jn_oM_v20, jn_oM_o21, jn_oM_v21, jn_oM_s21, jn_aI_o, jn_aI_v, jn_aI_s, jn_aZ_o, jn_aZ_v, jn_aZ_s, jn_aL_o, jn_aL_v, jn_aL_s, jn_aN_o, jn_aN_v, jn_aN_s, jn_aN_p, jn_aB_o, jn_aB_v, jn_aB_s, jn_aB_p, jn_cp_on, jn_cp_sn, jn_io_n, jn_io_j, jn_cl_n, jn_cl_j, jI_add, nIadd, njIadd, jnIadd, jL_add, nLadd, njLadd, jnLadd, jI_sub, nIsub, njIsub, jnIsub, jL_sub, nLsub, njLsub, jnLsub, jI_mul, nImul, njImul, jnImul, jL_mul, nLmul, njLmul, jnLmul, jI_neg, nIneg, jL_neg, nLneg, jIle_nn, show 64 ≤ 2 * 32 by omega]
            exact hP4
        have L15' := L15 us x7
        change jn_W d 117 15 [some (.ref (bs + 19)), some (.int (nI t)), some (.int (nI k)), some (.long (lN g0)), none, some (.int (nI (2 * i))), some (.int (nI 0)), x7] [] (jn_mem sc bs κ (mnets, mbooks, rowSize, posts, road, netOf, number, refused, us, now, lent, share, cofactor, trees, isKnown, first, firstLent, goods, base, kept, row, moved) D) Q at L15'
        clear L15 hP hDl
        rw [jn_w117_5]
        simp (disch := omega) only [jn_w117_0, jn_w117_1, jn_w117_2, jn_w117_3, jn_w117_7, jn_w117_9, jn_w117_12, jn_w117_13, jn_w117_17, jn_w117_19, jn_w117_22, jn_w117_24, jn_w117_26, jn_w117_27, jn_w117_28, jn_w117_28n, jn_w117_29, jn_w117_32, jn_w117_33, jn_w117_34, jn_w117_35, jn_w117_38, jn_w117_39, jn_w117_42, jn_w117_43, jn_w117_45, jn_w117_47, jn_w117_50, jn_w117_55, jn_w117_56, jn_w117_59, jn_w117_64, jn_w117_65, jn_w117_68, jn_w117_69, jn_w117_69n, jn_w117_70, jn_w117_71, jn_w117_73, jn_w117_81, jn_w117_82, jn_w117_85, jn_w117_88, jn_w117_91, jn_w117_94, jn_w117_95, jn_kk_n, jn_kk_i, jn_kk_r, jn_kk_u, jn_kk_l, jn_sm_0, jn_sm_i, jn_sm_l, jn_sm_r, jn_sm_u, jn_zb_0, jn_zb_1, jn_zb_b, jn_bI_0, and_true, true_and, and_self, Bool.and_true, Bool.true_and, decide_eq_true_eq, Option.toList_some, Option.toList_none, List.cons_append, List.nil_append, not_true_eq_false, not_false_eq_true, if_true, if_false, jn_oNet_o0, jn_oNet_v0, jn_oNet_o1, jn_oNet_v1, jn_oNet_o2, jn_oNet_v2, jn_oBook_o0, jn_oBook_v0, jn_oBook_o1, jn_oBook_v1, jn_oTab_o0, jn_oTab_v0, jn_oTak_o0, jn_oTak_v0, jn_oRed_o0, jn_oRed_v0, jn_oRed_o1, jn_oRed_v1, jn_oRed_s1, jn_oRed_o2, jn_oRed_v2, jn_oRed_s2, jn_oRed_o3, jn_oRed_v3, jn_oRed_s3, jn_oRed_o4, jn_oRed_v4, jn_oRed_o5, jn_oRed_v5, jn_oBrk_o0, jn_oBrk_v0, jn_oBrk_o1, jn_oBrk_v1, jn_oBrk_o2, jn_oBrk_v2, jn_oBrk_o3, jn_oBrk_v3, jn_oD_o0, jn_oD_v0, jn_oD_o1, jn_oD_v1, jn_oD_s1, jn_oD_o2, jn_oD_v2, jn_oD_o3, jn_oD_v3, jn_oD_s3, jn_oD_o4, jn_oD_v4, jn_oD_o5, jn_oD_v5, jn_oD_s5, jn_oD_o6, jn_oD_v6, jn_oD_o7, jn_oD_v7, jn_oD_o8, jn_oD_v8, jn_oD_o9, jn_oD_v9, jn_oD_o10, jn_oD_v10, jn_oM_o0, jn_oM_v0, jn_oM_o1, jn_oM_v1, jn_oM_o2, jn_oM_v2, jn_oM_s2, jn_oM_o3, jn_oM_v3, jn_oM_s3, jn_oM_o4, jn_oM_v4, jn_oM_o5, jn_oM_v5, jn_oM_o6, jn_oM_v6, jn_oM_o7, jn_oM_v7, jn_oM_o8, jn_oM_v8, jn_oM_o9, jn_oM_v9, jn_oM_o10, jn_oM_v10, jn_oM_o11, jn_oM_v11, jn_oM_o12, jn_oM_v12, jn_oM_o13, jn_oM_v13, jn_oM_o14, jn_oM_v14, jn_oM_o15, jn_oM_v15, jn_oM_o16, jn_oM_v16, jn_oM_o17, jn_oM_v17, jn_oM_o18, jn_oM_v18, jn_oM_o19, jn_oM_v19, jn_oM_o20, jn_oM_v20, jn_oM_o21, jn_oM_v21, jn_oM_s21, jn_aI_o, jn_aI_v, jn_aI_s, jn_aZ_o, jn_aZ_v, jn_aZ_s, jn_aL_o, jn_aL_v, jn_aL_s, jn_aN_o, jn_aN_v, jn_aN_s, jn_aN_p, jn_aB_o, jn_aB_v, jn_aB_s, jn_aB_p, jn_cp_on, jn_cp_sn, jn_io_n, jn_io_j, jn_cl_n, jn_cl_j, jI_add, nIadd, njIadd, jnIadd, jL_add, nLadd, njLadd, jnLadd, jI_sub, nIsub, njIsub, jnIsub, jL_sub, nLsub, njLsub, jnLsub, jI_mul, nImul, njImul, jnImul, jL_mul, nLmul, njLmul, jnLmul, jI_neg, nIneg, jL_neg, nLneg, jIle_nn, show ¬ 64 ≤ 2 * i by omega]
        exact L15'
      · have hQ' := hQ us
        clear hQ hDl
        rw [jn_w117_5]
        simp (disch := omega) only [jn_w117_0, jn_w117_1, jn_w117_2, jn_w117_3, jn_w117_7, jn_w117_9, jn_w117_12, jn_w117_13, jn_w117_17, jn_w117_19, jn_w117_22, jn_w117_24, jn_w117_26, jn_w117_27, jn_w117_28, jn_w117_28n, jn_w117_29, jn_w117_32, jn_w117_33, jn_w117_34, jn_w117_35, jn_w117_38, jn_w117_39, jn_w117_42, jn_w117_43, jn_w117_45, jn_w117_47, jn_w117_50, jn_w117_55, jn_w117_56, jn_w117_59, jn_w117_64, jn_w117_65, jn_w117_68, jn_w117_69, jn_w117_69n, jn_w117_70, jn_w117_71, jn_w117_73, jn_w117_81, jn_w117_82, jn_w117_85, jn_w117_88, jn_w117_91, jn_w117_94, jn_w117_95, jn_kk_n, jn_kk_i, jn_kk_r, jn_kk_u, jn_kk_l, jn_sm_0, jn_sm_i, jn_sm_l, jn_sm_r, jn_sm_u, jn_zb_0, jn_zb_1, jn_zb_b, jn_bI_0, and_true, true_and, and_self, Bool.and_true, Bool.true_and, decide_eq_true_eq, Option.toList_some, Option.toList_none, List.cons_append, List.nil_append, not_true_eq_false, not_false_eq_true, if_true, if_false, jn_oNet_o0, jn_oNet_v0, jn_oNet_o1, jn_oNet_v1, jn_oNet_o2, jn_oNet_v2, jn_oBook_o0, jn_oBook_v0, jn_oBook_o1, jn_oBook_v1, jn_oTab_o0, jn_oTab_v0, jn_oTak_o0, jn_oTak_v0, jn_oRed_o0, jn_oRed_v0, jn_oRed_o1, jn_oRed_v1, jn_oRed_s1, jn_oRed_o2, jn_oRed_v2, jn_oRed_s2, jn_oRed_o3, jn_oRed_v3, jn_oRed_s3, jn_oRed_o4, jn_oRed_v4, jn_oRed_o5, jn_oRed_v5, jn_oBrk_o0, jn_oBrk_v0, jn_oBrk_o1, jn_oBrk_v1, jn_oBrk_o2, jn_oBrk_v2, jn_oBrk_o3, jn_oBrk_v3, jn_oD_o0, jn_oD_v0, jn_oD_o1, jn_oD_v1, jn_oD_s1, jn_oD_o2, jn_oD_v2, jn_oD_o3, jn_oD_v3, jn_oD_s3, jn_oD_o4, jn_oD_v4, jn_oD_o5, jn_oD_v5, jn_oD_s5, jn_oD_o6, jn_oD_v6, jn_oD_o7, jn_oD_v7, jn_oD_o8, jn_oD_v8, jn_oD_o9, jn_oD_v9, jn_oD_o10, jn_oD_v10, jn_oM_o0, jn_oM_v0, jn_oM_o1, jn_oM_v1, jn_oM_o2, jn_oM_v2, jn_oM_s2, jn_oM_o3, jn_oM_v3, jn_oM_s3, jn_oM_o4, jn_oM_v4, jn_oM_o5, jn_oM_v5, jn_oM_o6, jn_oM_v6, jn_oM_o7, jn_oM_v7, jn_oM_o8, jn_oM_v8, jn_oM_o9, jn_oM_v9, jn_oM_o10, jn_oM_v10, jn_oM_o11, jn_oM_v11, jn_oM_o12, jn_oM_v12, jn_oM_o13, jn_oM_v13, jn_oM_o14, jn_oM_v14, jn_oM_o15, jn_oM_v15, jn_oM_o16, jn_oM_v16, jn_oM_o17, jn_oM_v17, jn_oM_o18, jn_oM_v18, jn_oM_o19, jn_oM_v19, jn_oM_o20, jn_oM_v20, jn_oM_o21, jn_oM_v21, jn_oM_s21, jn_aI_o, jn_aI_v, jn_aI_s, jn_aZ_o, jn_aZ_v, jn_aZ_s, jn_aL_o, jn_aL_v, jn_aL_s, jn_aN_o, jn_aN_v, jn_aN_s, jn_aN_p, jn_aB_o, jn_aB_v, jn_aB_s, jn_aB_p, jn_cp_on, jn_cp_sn, jn_io_n, jn_io_j, jn_cl_n, jn_cl_j, jI_add, nIadd, njIadd, jnIadd, jL_add, nLadd, njLadd, jnLadd, jI_sub, nIsub, njIsub, jnIsub, jL_sub, nLsub, njLsub, jnLsub, jI_mul, nImul, njImul, jnImul, jL_mul, nLmul, njLmul, jnLmul, jI_neg, nIneg, jL_neg, nLneg, jIle_nn, show 64 ≤ 2 * 32 by omega]
        exact hQ'
    have L5' := L5 used none none
    change jn_W d 117 5 [some (.ref (bs + 19)), some (.int (nI t)), some (.int (nI k)), some (.long (lN 0)), none, some (.int (nI 0)), none, none] [] (jn_mem sc bs κ (mnets, mbooks, rowSize, posts, road, netOf, number, refused, used, now, lent, share, cofactor, trees, isKnown, first, firstLent, goods, base, kept, row, moved) D) Q at L5'
    clear L5 hQ hDl
    simp (disch := omega) only [jn_w117_0, jn_w117_1, jn_w117_2, jn_w117_3, jn_w117_7, jn_w117_9, jn_w117_12, jn_w117_13, jn_w117_17, jn_w117_19, jn_w117_22, jn_w117_24, jn_w117_26, jn_w117_27, jn_w117_28, jn_w117_28n, jn_w117_29, jn_w117_32, jn_w117_33, jn_w117_34, jn_w117_35, jn_w117_38, jn_w117_39, jn_w117_42, jn_w117_43, jn_w117_45, jn_w117_47, jn_w117_50, jn_w117_55, jn_w117_56, jn_w117_59, jn_w117_64, jn_w117_65, jn_w117_68, jn_w117_69, jn_w117_69n, jn_w117_70, jn_w117_71, jn_w117_73, jn_w117_81, jn_w117_82, jn_w117_85, jn_w117_88, jn_w117_91, jn_w117_94, jn_w117_95, jn_kk_n, jn_kk_i, jn_kk_r, jn_kk_u, jn_kk_l, jn_sm_0, jn_sm_i, jn_sm_l, jn_sm_r, jn_sm_u, jn_zb_0, jn_zb_1, jn_zb_b, jn_bI_0, and_true, true_and, and_self, Bool.and_true, Bool.true_and, decide_eq_true_eq, Option.toList_some, Option.toList_none, List.cons_append, List.nil_append, not_true_eq_false, not_false_eq_true, if_true, if_false, jn_oNet_o0, jn_oNet_v0, jn_oNet_o1, jn_oNet_v1, jn_oNet_o2, jn_oNet_v2, jn_oBook_o0, jn_oBook_v0, jn_oBook_o1, jn_oBook_v1, jn_oTab_o0, jn_oTab_v0, jn_oTak_o0, jn_oTak_v0, jn_oRed_o0, jn_oRed_v0, jn_oRed_o1, jn_oRed_v1, jn_oRed_s1, jn_oRed_o2, jn_oRed_v2, jn_oRed_s2, jn_oRed_o3, jn_oRed_v3, jn_oRed_s3, jn_oRed_o4, jn_oRed_v4, jn_oRed_o5, jn_oRed_v5, jn_oBrk_o0, jn_oBrk_v0, jn_oBrk_o1, jn_oBrk_v1, jn_oBrk_o2, jn_oBrk_v2, jn_oBrk_o3, jn_oBrk_v3, jn_oD_o0, jn_oD_v0, jn_oD_o1, jn_oD_v1, jn_oD_s1, jn_oD_o2, jn_oD_v2, jn_oD_o3, jn_oD_v3, jn_oD_s3, jn_oD_o4, jn_oD_v4, jn_oD_o5, jn_oD_v5, jn_oD_s5, jn_oD_o6, jn_oD_v6, jn_oD_o7, jn_oD_v7, jn_oD_o8, jn_oD_v8, jn_oD_o9, jn_oD_v9, jn_oD_o10, jn_oD_v10, jn_oM_o0, jn_oM_v0, jn_oM_o1, jn_oM_v1, jn_oM_o2, jn_oM_v2, jn_oM_s2, jn_oM_o3, jn_oM_v3, jn_oM_s3, jn_oM_o4, jn_oM_v4, jn_oM_o5, jn_oM_v5, jn_oM_o6, jn_oM_v6, jn_oM_o7, jn_oM_v7, jn_oM_o8, jn_oM_v8, jn_oM_o9, jn_oM_v9, jn_oM_o10, jn_oM_v10, jn_oM_o11, jn_oM_v11, jn_oM_o12, jn_oM_v12, jn_oM_o13, jn_oM_v13, jn_oM_o14, jn_oM_v14, jn_oM_o15, jn_oM_v15, jn_oM_o16, jn_oM_v16, jn_oM_o17, jn_oM_v17, jn_oM_o18, jn_oM_v18, jn_oM_o19, jn_oM_v19, jn_oM_o20, jn_oM_v20, jn_oM_o21, jn_oM_v21, jn_oM_s21, jn_aI_o, jn_aI_v, jn_aI_s, jn_aZ_o, jn_aZ_v, jn_aZ_s, jn_aL_o, jn_aL_v, jn_aL_s, jn_aN_o, jn_aN_v, jn_aN_s, jn_aN_p, jn_aB_o, jn_aB_v, jn_aB_s, jn_aB_p, jn_cp_on, jn_cp_sn, jn_io_n, jn_io_j, jn_cl_n, jn_cl_j, jI_add, nIadd, njIadd, jnIadd, jL_add, nLadd, njLadd, jnLadd, jI_sub, nIsub, njIsub, jnIsub, jL_sub, nLsub, njLsub, jnLsub, jI_mul, nImul, njImul, jnImul, jL_mul, nLmul, njLmul, jnLmul, jI_neg, nIneg, jL_neg, nLneg]
    exact L5')
  obtain ⟨v, M', ⟨rfl, us, rfl⟩, hV⟩ := main
  exact ⟨us, hV⟩
