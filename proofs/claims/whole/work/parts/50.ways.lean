/-! Ways to take goods, one after another: how many, and all of them. -/
def jw_way (n k : Nat) (G : Nat → Nat) : Prop := (∀ q, n ≤ q → q < 6 → G q = 0) ∧ jn_su G 6 = k
def jm_w0 (k : Nat) : Nat → Nat := fun q => if q = 0 then k else 0
def jm_ws (n k : Nat) : Nat → Nat → Nat
  | 0 => jm_w0 k
  | i + 1 => match jm_lp (jm_ws n k i) (n - 1) with
    | none => jm_ws n k i
    | some p => jm_nx (jm_ws n k i) n p
theorem jm_lp_0 {G : Nat → Nat} : ∀ {k p : Nat}, jm_lp G k = some p → ∀ q, p < q → q < k → G q = 0
  | 0, p, h, _, _, _ => by simp [jm_lp] at h
  | k + 1, p, h, q, h1, h2 => by
    unfold jm_lp at h
    split at h
    · cases h
      omega
    · by_cases e : q = k
      · subst e
        omega
      · exact jm_lp_0 h q h1 (by omega)
theorem jm_lp_n {G : Nat → Nat} : ∀ {k : Nat}, jm_lp G k = none → ∀ q, q < k → G q = 0
  | 0, _, q, h2 => absurd h2 (Nat.not_lt_zero q)
  | k + 1, h, q, h2 => by
    unfold jm_lp at h
    split at h
    · cases h
    · by_cases e : q = k
      · subst e
        omega
      · exact jm_lp_n h q (by omega)
/-- goods from post j on -/
def jw_tl (G : Nat → Nat) (j : Nat) : Nat := jn_su (fun q => if j ≤ q then G q else 0) 6
/-- levels of a measure that grows -/
def jw_F : Nat → Nat → Nat
  | 0 => fun _ => 0
  | m + 1 => fun l => jw_F m l + 1 + jn_su (jw_F m) l
def jw_me (G : Nat → Nat) : Nat := jw_F (jw_tl G 1) 4 + jw_F (jw_tl G 2) 3 + jw_F (jw_tl G 3) 2 + jw_F (jw_tl G 4) 1 + jw_F (jw_tl G 5) 0
theorem jw_F_mono {l : Nat} : ∀ a b, a ≤ b → jw_F a l ≤ jw_F b l := by
  intro a b h
  induction b with
  | zero =>
    obtain rfl : a = 0 := by omega
    exact Nat.le_refl _
  | succ b ih =>
    by_cases e : a = b + 1
    · rw [e]
      exact Nat.le_refl _
    · have h1 := ih (by omega)
      show jw_F a l ≤ jw_F b l + 1 + jn_su (jw_F b) l
      omega
theorem jw_F_max : jw_F 21 4 + jw_F 21 3 + jw_F 21 2 + jw_F 21 1 + jw_F 21 0 = 65779 := by decide +kernel
theorem jw_tl_le (G : Nat → Nat) (j : Nat) : jw_tl G j ≤ jn_su G 6 := jw_su_mono 6 (fun q _ => by (try dsimp only); split <;> omega)
theorem jw_me_le {n k : Nat} {G : Nat → Nat} (h : jw_way n k G) (hk : k ≤ 21) : jw_me G ≤ 65779 := by
  have key : ∀ j l, jw_F (jw_tl G j) l ≤ jw_F 21 l := fun j l => jw_F_mono _ _ (by have := jw_tl_le G j; have := h.2; omega)
  have h1 := key 1 4
  have h2 := key 2 3
  have h3 := key 3 2
  have h4 := key 4 1
  have h5 := key 5 0
  have h6 := jw_F_max
  unfold jw_me
  omega
theorem jw_su_split {G : Nat → Nat} {p : Nat} (hp : p ≤ 6) : jn_su G 6 = jn_su G p + jw_tl G p := by
  have key : ∀ m, p + m ≤ 6 → jn_su G (p + m) = jn_su G p + jn_su (fun q => if p ≤ q then G q else 0) (p + m) := by
    intro m
    induction m with
    | zero =>
      intro _
      have := jn_su_le (f := fun q => if p ≤ q then G q else 0) (c := 0) p (fun q hq => by (try dsimp only); rw [if_neg (by omega)]; exact Nat.le_refl 0)
      simp only [Nat.add_zero]
      omega
    | succ m ih =>
      intro h
      have h1 := ih (by omega)
      show jn_su G (p + m) + G (p + m) = jn_su G p + (jn_su (fun q => if p ≤ q then G q else 0) (p + m) + if p ≤ p + m then G (p + m) else 0)
      rw [if_pos (by omega)]
      omega
  have := key (6 - p) (by omega)
  rw [show p + (6 - p) = 6 by omega] at this
  exact this
theorem jw_su_one {f : Nat → Nat} {k : Nat} : ∀ n : Nat, k < n → (∀ i, i < n → i ≠ k → f i = 0) → jn_su f n = f k
  | 0, h, _ => absurd h (Nat.not_lt_zero k)
  | n + 1, h, h0 => by
    simp only [jn_su]
    by_cases e : k = n
    · subst e
      have := jn_su_le (f := f) (c := 0) k (fun i hi => by rw [h0 i (by omega) (by omega)]; exact Nat.le_refl 0)
      omega
    · rw [jw_su_one n (by omega) (fun i hi hk => h0 i (by omega) hk), h0 n (by omega) (by omega)]
      omega
theorem jw_tl_s {F : Nat → Nat} {p : Nat} (hp : p < 6) : jw_tl F p = F p + jw_tl F (p + 1) := by
  have a1 := jw_su_split (G := F) (p := p) (by omega)
  have a2 := jw_su_split (G := F) (p := p + 1) (by omega)
  have a3 : jn_su F (p + 1) = jn_su F p + F p := rfl
  omega
theorem jw_su_cg {f g : Nat → Nat} : ∀ n : Nat, (∀ i, i < n → f i = g i) → jn_su f n = jn_su g n
  | 0, _ => rfl
  | n + 1, h => by
    simp only [jn_su]
    rw [jw_su_cg n (fun i hi => h i (by omega)), h n (by omega)]
/-- the tails behind a step -/
theorem jw_nx_tl {n k p : Nat} {G : Nat → Nat} (hn : n ≤ 6) (h : jw_way n k G) (hl : jm_lp G (n - 1) = some p) : (∀ j, j ≤ p → jw_tl (jm_nx G n p) j = jw_tl G j) ∧ jw_tl (jm_nx G n p) (p + 1) = G (n - 1) + 1 ∧ jw_tl G (p + 1) = G (n - 1) ∧ (∀ j, p + 1 < j → jw_tl (jm_nx G n p) j = 0) ∧ (∀ j, p < j → jw_tl G j ≤ G (n - 1)) ∧ ∀ q, n ≤ q → q < 6 → jm_nx G n p q = 0 := by
  obtain ⟨hp1, hp2⟩ := jm_lp_lt hl
  have h0 := jm_lp_0 hl
  have hz := h.1
  have g : ∀ q, q < 6 → q = p ∨ q < p ∨ q = n - 1 ∨ G q = 0 := by
    intro q hq
    by_cases c1 : q ≤ p
    · omega
    · by_cases c2 : q < n - 1
      · exact Or.inr (Or.inr (Or.inr (h0 q (by omega) c2)))
      · by_cases c3 : q = n - 1
        · omega
        · exact Or.inr (Or.inr (Or.inr (hz q (by omega) hq)))
  have t4 : ∀ j, p + 1 < j → jw_tl (jm_nx G n p) j = 0 := by
    intro j hj
    have e : ∀ q, q < 6 → (if j ≤ q then jm_nx G n p q else 0) = 0 := by
      intro q hq
      split
      · have := g q hq
        unfold jm_nx
        rw [if_neg (by omega), if_neg (by omega)]
        split
        · rfl
        · omega
      · rfl
    have := jn_su_le (f := fun q => if j ≤ q then jm_nx G n p q else 0) (c := 0) 6 (fun q hq => by rw [e q hq]; exact Nat.le_refl 0)
    unfold jw_tl
    omega
  have t3 : jw_tl G (p + 1) = G (n - 1) := by
    have := jw_su_one (f := fun q => if p + 1 ≤ q then G q else 0) (k := n - 1) 6 (by omega) (fun q hq hne => by
      split
      · have := g q hq
        omega
      · rfl)
    unfold jw_tl
    rw [this, if_pos (by omega)]
  have hbelow : ∀ q, q < p → jm_nx G n p q = G q := fun q hq => by
    unfold jm_nx
    rw [if_neg (by omega), if_neg (by omega), if_neg (by omega)]
  have hat : jm_nx G n p p = G p - 1 := by
    unfold jm_nx
    rw [if_neg (by omega), if_pos rfl]
  have hat1 : jm_nx G n p (p + 1) = G (n - 1) + 1 := by
    unfold jm_nx
    rw [if_pos rfl]
  have t2 : jw_tl (jm_nx G n p) (p + 1) = G (n - 1) + 1 := by
    rw [jw_tl_s (by omega), t4 (p + 1 + 1) (by omega), hat1]
  refine ⟨fun j hj => ?_, t2, t3, t4, fun j hj => ?_, fun q hq hq6 => ?_⟩
  · have e1 := jw_su_split (G := jm_nx G n p) (p := j) (by omega)
    have e2 := jw_su_split (G := G) (p := j) (by omega)
    have e3 := jw_su_split (G := jm_nx G n p) (p := p) (by omega)
    have e4 := jw_su_split (G := G) (p := p) (by omega)
    rw [jw_su_cg p hbelow, jw_tl_s (by omega), t2, hat] at e3
    rw [jw_tl_s (by omega), t3] at e4
    rw [jw_su_cg j (fun q hq => hbelow q (by omega))] at e1
    omega
  · have h1 : jw_tl G j ≤ jw_tl G (p + 1) := jw_su_mono 6 (fun q _ => by
      by_cases c : j ≤ q
      · rw [if_pos c, if_pos (by omega)]
        exact Nat.le_refl _
      · rw [if_neg c]
        exact Nat.zero_le _)
    omega
  · unfold jm_nx
    rw [if_neg (by omega), if_neg (by omega), if_neg (by omega)]
    exact hz q hq hq6
theorem jw_tl0 (G : Nat → Nat) : jw_tl G 0 = jn_su G 6 := by
  unfold jw_tl
  congr 1
theorem jw_nx_way {n k p : Nat} {G : Nat → Nat} (hn : n ≤ 6) (h : jw_way n k G) (hl : jm_lp G (n - 1) = some p) : jw_way n k (jm_nx G n p) := by
  obtain ⟨t1, -, -, -, -, t6⟩ := jw_nx_tl hn h hl
  refine ⟨t6, ?_⟩
  rw [← jw_tl0, t1 0 (Nat.zero_le p), jw_tl0]
  exact h.2
theorem jw_nx_me {n k p : Nat} {G : Nat → Nat} (hn : n ≤ 6) (h : jw_way n k G) (hl : jm_lp G (n - 1) = some p) : jw_me G < jw_me (jm_nx G n p) := by
  obtain ⟨t1, t2, t3, t4, t5, -⟩ := jw_nx_tl hn h hl
  have hp1 := (jm_lp_lt hl).1
  have hF : ∀ l, jw_F (G (n - 1) + 1) l = jw_F (G (n - 1)) l + 1 + jn_su (jw_F (G (n - 1))) l := fun l => rfl
  have hm : ∀ j l, p < j → jw_F (jw_tl G j) l ≤ jw_F (G (n - 1)) l := fun j l hj => jw_F_mono _ _ (t5 j hj)
  unfold jw_me
  have hp5 : p = 0 ∨ p = 1 ∨ p = 2 ∨ p = 3 ∨ p = 4 := by omega
  rcases hp5 with rfl | rfl | rfl | rfl | rfl
  · rw [t2]
    have a := hF 4
    simp only [jn_su] at a
    have m1 := hm 1 4 (by omega)
    have m2 := hm 2 3 (by omega)
    have m3 := hm 3 2 (by omega)
    have m4 := hm 4 1 (by omega)
    have m5 := hm 5 0 (by omega)
    omega
  · rw [t1 1 (by omega), t2]
    have a := hF 3
    simp only [jn_su] at a
    have m2 := hm 2 3 (by omega)
    have m3 := hm 3 2 (by omega)
    have m4 := hm 4 1 (by omega)
    have m5 := hm 5 0 (by omega)
    omega
  · rw [t1 1 (by omega), t1 2 (by omega), t2]
    have a := hF 2
    simp only [jn_su] at a
    have m3 := hm 3 2 (by omega)
    have m4 := hm 4 1 (by omega)
    have m5 := hm 5 0 (by omega)
    omega
  · rw [t1 1 (by omega), t1 2 (by omega), t1 3 (by omega), t2]
    have a := hF 1
    simp only [jn_su] at a
    have m4 := hm 4 1 (by omega)
    have m5 := hm 5 0 (by omega)
    omega
  · rw [t1 1 (by omega), t1 2 (by omega), t1 3 (by omega), t1 4 (by omega), t2]
    have a := hF 0
    simp only [jn_su] at a
    have m5 := hm 5 0 (by omega)
    omega
theorem jw_w0_way {n k : Nat} (hn : 1 ≤ n) : jw_way n k (jm_w0 k) := by
  refine ⟨fun q hq _ => ?_, ?_⟩
  · unfold jm_w0
    rw [if_neg (by omega)]
  · simp [jn_su, jm_w0]
theorem jw_ws_way {n k : Nat} (hn : 1 ≤ n ∧ n ≤ 6) : ∀ i, jw_way n k (jm_ws n k i)
  | 0 => jw_w0_way hn.1
  | i + 1 => by
    have ih := jw_ws_way (k := k) hn i
    show jw_way n k (match jm_lp (jm_ws n k i) (n - 1) with
      | none => jm_ws n k i
      | some p => jm_nx (jm_ws n k i) n p)
    split
    · exact ih
    · rename_i p hp
      exact jw_nx_way hn.2 ih hp
theorem jw_ws_me {n k : Nat} (hn : 1 ≤ n ∧ n ≤ 6) : ∀ i, (∀ j, j < i → jm_lp (jm_ws n k j) (n - 1) ≠ none) → i ≤ jw_me (jm_ws n k i)
  | 0, _ => Nat.zero_le _
  | i + 1, h => by
    have ih := jw_ws_me (k := k) hn i (fun j hj => h j (by omega))
    have h1 := h i (by omega)
    cases hl : jm_lp (jm_ws n k i) (n - 1) with
    | none => exact absurd hl h1
    | some p =>
      have h2 := jw_nx_me hn.2 (jw_ws_way (k := k) hn i) hl
      have e : jm_ws n k (i + 1) = jm_nx (jm_ws n k i) n p := by
        show (match jm_lp (jm_ws n k i) (n - 1) with
          | none => jm_ws n k i
          | some p => jm_nx (jm_ws n k i) n p) = _
        rw [hl]
      rw [e]
      omega
/-- the last way -/
theorem jw_len {n k : Nat} (hn : 1 ≤ n ∧ n ≤ 6) (hk : k ≤ 21) : ∃ N, N < 70000 ∧ (∀ i, i < N → jm_lp (jm_ws n k i) (n - 1) ≠ none) ∧ jm_lp (jm_ws n k N) (n - 1) = none := by
  obtain ⟨N, h1, h2, h3⟩ := jw_first (P := fun i => decide (jm_lp (jm_ws n k i) (n - 1) ≠ none)) 70000 (by
    apply Classical.byContradiction
    intro hno
    have hall : ∀ j, j < 65780 → jm_lp (jm_ws n k j) (n - 1) ≠ none := fun j hj hnone => hno ⟨j, by omega, by simp [hnone]⟩
    have h4 := jw_ws_me (k := k) hn 65780 hall
    have h5 := jw_me_le (jw_ws_way (k := k) hn 65780) hk
    omega)
  exact ⟨N, h1, fun i hi => by simpa using h2 i hi, by simpa using h3⟩
/-- all ways come -/
def jw_lx (n : Nat) (H G : Nat → Nat) : Prop := ∃ p, p < n ∧ (∀ q, q < p → H q = G q) ∧ H p < G p
theorem jw_lx_next {n k p : Nat} {G H : Nat → Nat} (hn : n ≤ 6) (hG : jw_way n k G) (hH : jw_way n k H) (hl : jm_lp G (n - 1) = some p) (hx : jw_lx n H G) : (∀ q, q < 6 → H q = jm_nx G n p q) ∨ jw_lx n H (jm_nx G n p) := by
  obtain ⟨p1, hp1, he, hlt⟩ := hx
  obtain ⟨hpn, hpp⟩ := jm_lp_lt hl
  obtain ⟨t1, t2, t3, t4, t5, t6⟩ := jw_nx_tl hn hG hl
  have hG' := jw_nx_way hn hG hl
  have h0 := jm_lp_0 hl
  have hbelow : ∀ q, q < p → jm_nx G n p q = G q := fun q hq => by
    unfold jm_nx
    rw [if_neg (by omega), if_neg (by omega), if_neg (by omega)]
  have hat : jm_nx G n p p = G p - 1 := by
    unfold jm_nx
    rw [if_neg (by omega), if_pos rfl]
  have hat1 : jm_nx G n p (p + 1) = G (n - 1) + 1 := by
    unfold jm_nx
    rw [if_pos rfl]
  -- the place isn't behind p
  have hle : p1 ≤ p := by
    apply Classical.byContradiction
    intro hno
    by_cases c : p1 < n - 1
    · have := h0 p1 (by omega) c
      omega
    · have e : p1 = n - 1 := by omega
      subst e
      have e1 := jw_su_split (G := H) (p := n - 1) (by omega)
      have e2 := jw_su_split (G := G) (p := n - 1) (by omega)
      rw [jw_su_cg (n - 1) he] at e1
      have e3 : jw_tl H (n - 1) < jw_tl G (n - 1) := jw_su_lt (k := n - 1) 6 (fun q hq => by
        (try dsimp only)
        by_cases c2 : n - 1 ≤ q
        · rw [if_pos c2, if_pos c2]
          by_cases c3 : q = n - 1
          · rw [c3]; omega
          · rw [hH.1 q (by omega) hq]
            exact Nat.zero_le _
        · rw [if_neg c2, if_neg c2]
          exact Nat.le_refl _) (by omega) (by
        (try dsimp only)
        rw [if_pos (Nat.le_refl _), if_pos (Nat.le_refl _)]
        exact hlt)
      have := hG.2
      have := hH.2
      omega
  by_cases c : p1 < p
  · exact Or.inr ⟨p1, hp1, fun q hq => by rw [hbelow q (by omega)]; exact he q hq, by rw [hbelow p1 c]; exact hlt⟩
  · obtain rfl : p1 = p := by omega
    by_cases c2 : H p1 < G p1 - 1
    · exact Or.inr ⟨p1, hp1, fun q hq => by rw [hbelow q hq]; exact he q hq, by rw [hat]; exact c2⟩
    · have hHp : H p1 = G p1 - 1 := by omega
      have hsame : ∀ q, q < p1 + 1 → H q = jm_nx G n p1 q := fun q hq => by
        by_cases e : q = p1
        · rw [e, hat, hHp]
        · rw [hbelow q (by omega)]
          exact he q (by omega)
      have e1 := jw_su_split (G := H) (p := p1 + 1) (by omega)
      have e2 := jw_su_split (G := jm_nx G n p1) (p := p1 + 1) (by omega)
      rw [jw_su_cg (p1 + 1) hsame, hH.2] at e1
      rw [hG'.2, t2] at e2
      have e3 : jw_tl H (p1 + 1) = H (p1 + 1) + jw_tl H (p1 + 2) := by
        have a1 := jw_su_split (G := H) (p := p1 + 1) (by omega)
        have a2 := jw_su_split (G := H) (p := p1 + 2) (by omega)
        have a3 : jn_su H (p1 + 2) = jn_su H (p1 + 1) + H (p1 + 1) := rfl
        omega
      by_cases c3 : H (p1 + 1) < G (n - 1) + 1
      · exact Or.inr ⟨p1 + 1, by omega, hsame, by rw [hat1]; exact c3⟩
      · left
        intro q hq
        by_cases c4 : q < p1 + 1
        · exact hsame q c4
        · by_cases c5 : q = p1 + 1
          · rw [c5, hat1]
            omega
          · have hz : ∀ (F : Nat → Nat), jw_tl F (p1 + 2) = 0 → F q = 0 := by
              intro F hF
              apply Classical.byContradiction
              intro hne
              have := jw_su_pos (f := fun i => if p1 + 2 ≤ i then F i else 0) 6 hq (by
                (try dsimp only)
                rw [if_pos (by omega)]
                omega)
              unfold jw_tl at hF
              omega
            rw [hz H (by omega), hz (jm_nx G n p1) (t4 (p1 + 2) (by omega))]
theorem jw_lx_last {n k : Nat} {G H : Nat → Nat} (hn : n ≤ 6) (hG : jw_way n k G) (hH : jw_way n k H) (hl : jm_lp G (n - 1) = none) : ¬ jw_lx n H G := by
  rintro ⟨p1, hp1, he, hlt⟩
  have h0 := jm_lp_n hl
  by_cases c : p1 < n - 1
  · have := h0 p1 c
    omega
  · have e : p1 = n - 1 := by omega
    subst e
    have e1 := jw_su_split (G := H) (p := n - 1) (by omega)
    have e2 := jw_su_split (G := G) (p := n - 1) (by omega)
    rw [jw_su_cg (n - 1) he] at e1
    have e3 : jw_tl H (n - 1) < jw_tl G (n - 1) := jw_su_lt (k := n - 1) 6 (fun q hq => by
      (try dsimp only)
      by_cases c2 : n - 1 ≤ q
      · rw [if_pos c2, if_pos c2]
        by_cases c3 : q = n - 1
        · rw [c3]; omega
        · rw [hH.1 q (by omega) hq]
          exact Nat.zero_le _
      · rw [if_neg c2, if_neg c2]
        exact Nat.le_refl _) (by omega) (by
      (try dsimp only)
      rw [if_pos (Nat.le_refl _), if_pos (Nat.le_refl _)]
      exact hlt)
    have := hG.2
    have := hH.2
    omega
theorem jw_lx_0 {n k : Nat} {H : Nat → Nat} (hn : 1 ≤ n ∧ n ≤ 6) (hH : jw_way n k H) : (∀ q, q < 6 → H q = jm_w0 k q) ∨ jw_lx n H (jm_w0 k) := by
  have e1 := jw_su_split (G := H) (p := 1) (by omega)
  rw [hH.2, show jn_su H 1 = H 0 by simp [jn_su]] at e1
  by_cases c : H 0 < k
  · exact Or.inr ⟨0, hn.1, fun q hq => absurd hq (Nat.not_lt_zero q), by unfold jm_w0; rw [if_pos rfl]; exact c⟩
  · left
    intro q hq
    unfold jm_w0
    by_cases c2 : q = 0
    · rw [c2, if_pos rfl]
      omega
    · rw [if_neg c2]
      apply Classical.byContradiction
      intro hne
      have := jw_su_pos (f := fun i => if 1 ≤ i then H i else 0) 6 hq (by
        (try dsimp only)
        rw [if_pos (by omega)]
        omega)
      unfold jw_tl at e1
      omega
theorem jw_all {n k N : Nat} {H : Nat → Nat} (hn : 1 ≤ n ∧ n ≤ 6) (hH : jw_way n k H) (hN : jm_lp (jm_ws n k N) (n - 1) = none) : ∃ i, i ≤ N ∧ ∀ q, q < 6 → H q = jm_ws n k i q := by
  have key : ∀ i, (∃ j, j ≤ i ∧ ∀ q, q < 6 → H q = jm_ws n k j q) ∨ jw_lx n H (jm_ws n k i) := by
    intro i
    induction i with
    | zero =>
      rcases jw_lx_0 hn hH with h | h
      · exact Or.inl ⟨0, Nat.le_refl 0, h⟩
      · exact Or.inr h
    | succ i ih =>
      rcases ih with ⟨j, h1, h2⟩ | h
      · exact Or.inl ⟨j, by omega, h2⟩
      · have hw := jw_ws_way (k := k) hn i
        cases hl : jm_lp (jm_ws n k i) (n - 1) with
        | none => exact absurd h (jw_lx_last hn.2 hw hH hl)
        | some p =>
          have e : jm_ws n k (i + 1) = jm_nx (jm_ws n k i) n p := by
            show (match jm_lp (jm_ws n k i) (n - 1) with
              | none => jm_ws n k i
              | some p => jm_nx (jm_ws n k i) n p) = _
            rw [hl]
          rcases jw_lx_next hn.2 hw hH hl h with h1 | h1
          · exact Or.inl ⟨i + 1, Nat.le_refl _, by rw [e]; exact h1⟩
          · exact Or.inr (by rw [e]; exact h1)
  rcases key N with h | h
  · exact h
  · exact absurd h (jw_lx_last hn.2 (jw_ws_way (k := k) hn N) hH hN)
/-- the first way that is bad; whether there is one -/
theorem jw_find {n k : Nat} (hn : 1 ≤ n ∧ n ≤ 6) (hk : k ≤ 21) (bad : (Nat → Nat) → Prop) : ∃ m, m < 70000 ∧ (∀ i, i < m → ¬ bad (jm_ws n k i) ∧ jm_lp (jm_ws n k i) (n - 1) ≠ none) ∧ (bad (jm_ws n k m) ∨ (¬ bad (jm_ws n k m) ∧ jm_lp (jm_ws n k m) (n - 1) = none)) := by
  obtain ⟨N, h1, h2, h3⟩ := jw_len (k := k) hn hk
  have hd := Classical.propDecidable
  obtain ⟨m, m1, m2, m3⟩ := jw_first (P := fun i => decide (¬ bad (jm_ws n k i) ∧ jm_lp (jm_ws n k i) (n - 1) ≠ none)) 70000 ⟨N, h1, by simp [h3]⟩
  refine ⟨m, m1, fun i hi => by simpa using m2 i hi, ?_⟩
  have h4 : ¬ (¬ bad (jm_ws n k m) ∧ jm_lp (jm_ws n k m) (n - 1) ≠ none) := by simpa using m3
  by_cases c : bad (jm_ws n k m)
  · exact Or.inl c
  · right
    refine ⟨c, ?_⟩
    apply Classical.byContradiction
    intro h5
    exact h4 ⟨c, h5⟩
