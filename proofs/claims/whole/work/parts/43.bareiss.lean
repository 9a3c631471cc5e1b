/-! Bareiss' steps: each cell is a minor. -/
/-- the place of bit l of a set, in order; the first k bits -/
def jw_c (C l : Nat) : Nat := ((List.range 6).filter (fun j => C / 2 ^ j % 2 == 1)).getD l 0
def jw_S (C k : Nat) : Nat := jn_su (fun l => 2 ^ jw_c C l) k
theorem jw_c1 : ∀ C, C < 64 → ∀ k, k < 6 → (¬ k < jm_pc C ∨ (jw_c C k < 6 ∧ C / 2 ^ jw_c C k % 2 = 1 ∧ jw_S C k < 2 ^ jw_c C k ∧ jw_S C k + 2 ^ jw_c C k = jw_S C (k + 1))) := by decide +kernel
theorem jw_c2 : ∀ C, C < 64 → ∀ k, k < 6 → ∀ j, j < 6 → (¬ (k < jm_pc C ∧ C / 2 ^ j % 2 = 1) ∨ (jw_S C k / 2 ^ j % 2 = 1 ∨ jw_c C k ≤ j)) := by decide +kernel
theorem jw_c3 : ∀ C, C < 64 → jw_S C (jm_pc C) = C := by decide +kernel
theorem jw_c4 : ∀ C, C < 64 → ∀ k, k < 6 → ∀ l, l < 6 → (¬ (k < l ∧ l < jm_pc C) ∨ (jw_c C k < jw_c C l ∧ jw_S C k / 2 ^ jw_c C l % 2 = 0)) := by decide +kernel
theorem jw_c5 : ∀ C, C < 64 → ∀ k, k < 6 → (¬ C / 2 ^ k % 2 = 1 ∨ jw_c C (jn_su (fun l => C / 2 ^ l % 2) k) = k) := by decide +kernel
theorem jw_c6 : ∀ C, C < 64 → ∀ k, k < 6 → (¬ k < jm_pc C ∨ (jw_S C k / 2 ^ jw_c C k % 2 = 0 ∧ jm_pc (jw_S C (k + 1)) = k + 1 ∧ jw_S C (k + 1) &&& C = jw_S C (k + 1) ∧ jw_S C (k + 1) < 64)) := by decide +kernel
theorem jw_ext1 {w u : Nat → Int} {S j : Nat} (hj : j < 6) (hS : S < 2 ^ j) (hu : ∀ l, l < 6 → S / 2 ^ l % 2 = 1 → u l = 0) : jw_W w u (S + 2 ^ j) = w S * u j := by
  obtain ⟨g1, g2⟩ := jw_gtop hj hS
  unfold jw_W
  rw [jw_one 6 hj (fun l hl hlj => ?_), g1, Nat.add_sub_cancel]
  · rw [Int.one_mul]
  · rw [(g2 l hl).1 hlj]
    by_cases b : S / 2 ^ l % 2 = 1
    · rw [hu l hl b]
      simp
    · rw [(g2 l hl).2.2 b]
      simp
theorem jw_ext2 {w u v : Nat → Int} {S c j : Nat} (hj : j < 6) (hcj : c < j) (hS : S < 2 ^ c) (hu : ∀ l, l < 6 → S / 2 ^ l % 2 = 1 → u l = 0) (hv : ∀ l, l < 6 → S / 2 ^ l % 2 = 1 → v l = 0) : jw_W (jw_W w u) v (S + 2 ^ c + 2 ^ j) = w S * (u c * v j - u j * v c) := by
  have hp : 2 ^ (c + 1) ≤ 2 ^ j := Nat.pow_le_pow_right (by omega) hcj
  rw [Nat.pow_succ] at hp
  have hS2 : S + 2 ^ c < 2 ^ j := by omega
  obtain ⟨g1, g2⟩ := jw_gtop hj hS2
  obtain ⟨k1, k2⟩ := jw_gtop (show c < 6 by omega) hS
  have e : ∀ l, l < 6 → jw_g (S + 2 ^ c + 2 ^ j) l * jw_W w u (S + 2 ^ c + 2 ^ j - 2 ^ l) * v l = (if l = j then w S * u c * v j else 0) + if l = c then -(w S * u j * v c) else 0 := by
    intro l hl
    by_cases h1 : l = j
    · subst h1
      rw [if_pos rfl, if_neg (by omega), g1, Nat.add_sub_cancel, jw_ext1 (by omega) hS hu]
      grind
    · rw [if_neg h1, (g2 l hl).1 h1]
      by_cases h2 : l = c
      · subst h2
        rw [if_pos rfl, k1, show S + 2 ^ l + 2 ^ j - 2 ^ l = S + 2 ^ j by omega, jw_ext1 hj (by omega) hu]
        grind
      · rw [if_neg h2, (k2 l hl).1 h2]
        by_cases b : S / 2 ^ l % 2 = 1
        · rw [hv l hl b]
          simp
        · rw [(k2 l hl).2.2 b]
          simp
  unfold jw_W at e ⊢
  rw [jw_cg 6 e, jw_add, jw_one 6 hj (fun l _ hl => if_neg hl), jw_one 6 (show c < 6 by omega) (fun l _ hl => if_neg hl), if_pos rfl, if_pos rfl]
  grind
/-- columns of a vector beyond C are 0 -/
def jw_sp (C : Nat) (x : Nat → Int) : Prop := ∀ j, j < 6 → ¬ C / 2 ^ j % 2 = 1 → x j = 0
/-- the minors' vector -/
def jw_b (C S : Nat) (w x : Nat → Int) (j : Nat) : Int := if C / 2 ^ j % 2 = 1 ∧ S / 2 ^ j % 2 = 0 then jw_W w x (S + 2 ^ j) else 0
def jw_E (C S : Nat) (w : Nat → Int) : Prop := ∀ x, jw_sp C x → jw_W w (jw_b C S w x) = fun s => w S * jw_W w x s
def jw_w0 : Nat → Int := fun s => if s = 0 then 1 else 0
theorem jw_b_sp {C S : Nat} {w x : Nat → Int} : jw_sp C (jw_b C S w x) := fun j _ h => by
  unfold jw_b
  rw [if_neg (fun h' => h h'.1)]
theorem jw_b_S {C S : Nat} {w x : Nat → Int} (l : Nat) (_ : l < 6) (h : S / 2 ^ l % 2 = 1) : jw_b C S w x l = 0 := by
  unfold jw_b
  rw [if_neg (fun h' => by omega)]
theorem jw_E0 (C : Nat) : jw_E C 0 jw_w0 := by
  intro x hx
  rw [show jw_w0 0 = 1 from rfl]
  rw [jw_cr (v := x)]
  · funext s
    omega
  · intro j hj
    unfold jw_b
    by_cases b : C / 2 ^ j % 2 = 1
    · have h0 : 0 / 2 ^ j % 2 = 0 := by rw [Nat.zero_div]
      rw [if_pos ⟨b, h0⟩, jw_ext1 hj (Nat.two_pow_pos j) (fun l _ h => by rw [Nat.zero_div] at h; omega)]
      rw [show jw_w0 0 = 1 from rfl]
      omega
    · rw [if_neg (fun h' => b h'.1), hx j hj b]
theorem jw_E2 {C S : Nat} {w r x : Nat → Int} (h : jw_E C S w) (hr : jw_sp C r) (hx : jw_sp C x) (s : Nat) : jw_W (jw_W w (jw_b C S w r)) (jw_b C S w x) s = w S * w S * jw_W (jw_W w r) x s := by
  rw [h r hr, jw_ml, jw_anti, h x hx, jw_ml]
  dsimp only
  rw [jw_anti]
  grind
theorem jw_syl {C S c j : Nat} {w r x : Nat → Int} (h : jw_E C S w) (hd : w S ≠ 0) (hS : S < 2 ^ c) (hcj : c < j) (hj : j < 6) (hr : jw_sp C r) (hx : jw_sp C x) : w S * jw_W (jw_W w r) x (S + 2 ^ c + 2 ^ j) = jw_b C S w r c * jw_b C S w x j - jw_b C S w r j * jw_b C S w x c := by
  have h1 := jw_E2 h hr hx (S + 2 ^ c + 2 ^ j)
  rw [jw_ext2 hj hcj hS jw_b_S jw_b_S] at h1
  rw [Int.mul_assoc] at h1
  exact (Int.eq_of_mul_eq_mul_left hd h1).symm
theorem jw_bit_add : ∀ S, S < 64 → ∀ c, c < 6 → ∀ j, j < 6 → (¬ S < 2 ^ c ∨ (S + 2 ^ c) / 2 ^ j % 2 = if j = c then 1 else S / 2 ^ j % 2) := by decide +kernel
theorem jw_E_step {C S c : Nat} {w r : Nat → Int} (h : jw_E C S w) (hd : w S ≠ 0) (hc : c < 6) (hbc : C / 2 ^ c % 2 = 1) (hS : S < 2 ^ c) (hmin : ∀ j, j < 6 → C / 2 ^ j % 2 = 1 → S / 2 ^ j % 2 = 1 ∨ c ≤ j) (hr : jw_sp C r) : jw_E C (S + 2 ^ c) (jw_W w r) := by
  intro x hx
  have hba := fun j hj => (jw_bit_add S (jw_lt64 hc hS) c hc j hj).resolve_left (fun h => h hS)
  have hSc : S / 2 ^ c % 2 = 0 := by
    rw [Nat.div_eq_of_lt hS]
  have hbc' : ∀ y, jw_b C S w y c = jw_W w y (S + 2 ^ c) := fun y => by
    unfold jw_b
    rw [if_pos ⟨hbc, hSc⟩]
  -- one step of the elimination, as vectors
  have e1 : ∀ j, j < 6 → w S * jw_b C (S + 2 ^ c) (jw_W w r) x j = jw_b C S w r c * jw_b C S w x j - jw_b C S w x c * jw_b C S w r j := by
    intro j hj
    have hb := hba j hj
    by_cases c1 : C / 2 ^ j % 2 = 1
    · by_cases c2 : j = c
      · subst c2
        rw [if_pos rfl] at hb
        rw [jw_b_S j hj hb]
        grind
      · rw [if_neg c2] at hb
        rcases jw_b01 S j with c3 | c3
        · have hcj : c < j := by
            rcases hmin j hj c1 with h4 | h4 <;> omega
          have hs := jw_syl h hd hS hcj hj hr hx
          rw [show jw_b C (S + 2 ^ c) (jw_W w r) x j = jw_W (jw_W w r) x (S + 2 ^ c + 2 ^ j) by
            unfold jw_b
            rw [if_pos ⟨c1, by omega⟩], hs]
          grind
        · rw [jw_b_S j hj (by omega), jw_b_S j hj c3, jw_b_S j hj c3]
          grind
    · rw [jw_b_sp j hj c1, jw_b_sp j hj c1, jw_b_sp j hj c1]
      grind
  have e2 : jw_W (jw_W w r) (fun j => w S * jw_b C (S + 2 ^ c) (jw_W w r) x j) = jw_W (jw_W w r) (fun j => jw_b C S w r c * jw_b C S w x j - jw_b C S w x c * jw_b C S w r j) := jw_cr e1
  rw [jw_mr, jw_sr] at e2
  funext s
  have e3 := congrFun e2 s
  have e4 : jw_W (jw_W w r) (jw_b C S w x) s = w S * jw_W (jw_W w r) x s := by
    rw [jw_anti, h x hx, jw_ml]
    dsimp only
    rw [jw_anti]
    grind
  have e5 : w S * jw_W (jw_W w r) (jw_b C S w r) s = 0 := by
    have h1 := jw_E2 h hr hr s
    rw [jw_same] at h1
    have h3 : jw_W (jw_W w r) (jw_b C S w r) s = 0 := by
      rw [jw_anti, h r hr, jw_ml]
      dsimp only
      rw [jw_same]
      simp
    rw [h3]
    simp
  apply Int.eq_of_mul_eq_mul_left hd
  rw [e3, e4]
  rw [hbc' r]
  have e6 : jw_W (jw_W w r) (jw_b C S w r) s = 0 := by
    rcases Int.mul_eq_zero.mp e5 with h7 | h7
    · exact absurd h7 hd
    · exact h7
  rw [e6]
  grind
/-! no pivot -/
theorem jw_Z1 {C S : Nat} {w : Nat → Int} {d : Int} : ∀ (l : List (Nat → Int)) (η : Nat → Int), (∀ x ∈ l, jw_sp C x) → (∀ x, jw_sp C x → jw_W η (jw_b C S w x) = fun s => d * jw_W η x s) → jw_L η (l.map (jw_b C S w)) = fun s => d ^ l.length * jw_L η l s
  | [], η, _, _ => by
    funext s
    simp [jw_L]
  | x :: l, η, hl, hE => by
    have hx := hl x (List.mem_cons_self ..)
    show jw_L (jw_W η (jw_b C S w x)) (l.map (jw_b C S w)) = fun s => d ^ (x :: l).length * jw_L (jw_W η x) l s
    rw [hE x hx, jw_Lm, jw_Z1 (d := d) l (jw_W η x) (fun y hy => hl y (List.mem_cons_of_mem _ hy)) (fun y hy => by
      rw [jw_anti, hE y hy, jw_ml]
      funext s
      have e : jw_W (jw_W η y) x s = -jw_W (jw_W η x) y s := congrFun (jw_anti η y x) s
      show -(d * jw_W (jw_W η y) x s) = d * jw_W (jw_W η x) y s
      rw [e, Int.mul_neg, Int.neg_neg])]
    funext s
    rw [List.length_cons, Int.pow_succ]
    grind
theorem jw_sub3 : ∀ T, T < 64 → ∀ s, s < 64 → (¬ T &&& s = T ∨ jm_pc T ≤ jm_pc s) := by decide +kernel
theorem jw_sub4 : ∀ T, T < 64 → ∀ s, s < 64 → ∀ j, j < 6 → (¬ (T &&& s = T ∧ T / 2 ^ j % 2 = 0 ∧ s / 2 ^ j % 2 = 1) ∨ T &&& (s - 2 ^ j) = T) := by decide +kernel
theorem jw_Z2 {T : Nat} (hT : T < 64) : ∀ (l : List (Nat → Int)) (η : Nat → Int) (d : Nat), (∀ u ∈ l, ∀ j, j < 6 → T / 2 ^ j % 2 = 1 → u j = 0) → (∀ s, s < 64 → T &&& s = T → jm_pc s = d → η s = 0) → ∀ s, s < 64 → T &&& s = T → jm_pc s = d + l.length → jw_L η l s = 0
  | [], η, d, _, h, s, hs, h1, h2 => h s hs h1 (by simpa using h2)
  | u :: l, η, d, hu, h, s, hs, h1, h2 => by
    show jw_L (jw_W η u) l s = 0
    refine jw_Z2 hT l (jw_W η u) (d + 1) (fun v hv => hu v (List.mem_cons_of_mem _ hv)) (fun t ht h3 h4 => ?_) s hs h1 (by rw [h2, List.length_cons]; omega)
    unfold jw_W
    rw [jw_cg 6 (g := fun _ => 0) (fun j hj => ?_), jw_0]
    rcases jw_b01 T j with b | b
    · by_cases b2 : t / 2 ^ j % 2 = 1
      · have o := jw_sub1 t ht j hj b2
        rw [h (t - 2 ^ j) (Nat.lt_of_le_of_lt (Nat.sub_le _ _) ht) ((jw_sub4 T hT t ht j hj).resolve_left (fun h => h ⟨h3, b, b2⟩)) (by omega)]
        simp
      · rw [jw_gt4 b2]
        simp
    · rw [hu u (List.mem_cons_self ..) j hj b]
      simp
/-- bounds -/
def jw_l1 (x : Nat → Int) : Prop := jn_sz1 (fun j => (x j).natAbs) 6 ≤ 64
theorem jw_sabs (f : Nat → Int) (g : Nat → Int) : ∀ n : Nat, (∀ i, i < n → ((f i).natAbs : Int) ≤ g i) → ((jn_sz1 f n).natAbs : Int) ≤ jn_sz1 g n
  | 0, _ => by simp [jn_sz1]
  | n + 1, h => by
    have h1 := jw_sabs f g n (fun i hi => h i (by omega))
    have h2 := h n (by omega)
    simp only [jn_sz1]
    omega
theorem jw_gabs (s j : Nat) : (jw_g s j).natAbs ≤ 1 := by
  unfold jw_g
  split
  · split <;> decide
  · decide
theorem jw_Wabs {w x : Nat → Int} {B : Nat} (hw : ∀ s, (w s).natAbs ≤ B) (hx : jw_l1 x) (s : Nat) : (jw_W w x s).natAbs ≤ B * 64 := by
  have h := jw_sabs (fun j => jw_g s j * w (s - 2 ^ j) * x j) (fun j => (B : Int) * ((x j).natAbs : Int)) 6 (fun j _ => by
    rw [Int.natAbs_mul, Int.natAbs_mul]
    have h1 : (jw_g s j).natAbs * (w (s - 2 ^ j)).natAbs ≤ 1 * B := Nat.mul_le_mul (jw_gabs s j) (hw _)
    rw [Nat.one_mul] at h1
    have h2 := Nat.mul_le_mul_right (x j).natAbs h1
    exact_mod_cast h2)
  rw [jw_mul] at h
  have h3 : (B : Int) * jn_sz1 (fun j => ((x j).natAbs : Int)) 6 ≤ (B : Int) * 64 := Int.mul_le_mul_of_nonneg_left hx (Int.natCast_nonneg B)
  have h4 : ((jw_W w x s).natAbs : Int) ≤ (B : Int) * 64 := Int.le_trans h h3
  exact_mod_cast h4
theorem jw_Labs {B : Nat} : ∀ (l : List (Nat → Int)) (w : Nat → Int), (∀ x ∈ l, jw_l1 x) → (∀ s, (w s).natAbs ≤ B) → ∀ s, (jw_L w l s).natAbs ≤ B * 64 ^ l.length
  | [], w, _, hw, s => by simpa [jw_L] using hw s
  | x :: l, w, hl, hw, s => by
    have h := jw_Labs (B := B * 64) l (jw_W w x) (fun y hy => hl y (List.mem_cons_of_mem _ hy)) (fun t => jw_Wabs hw (hl x (List.mem_cons_self ..)) t) s
    rw [List.length_cons, Nat.pow_succ, Nat.mul_comm (64 ^ l.length) 64, ← Nat.mul_assoc]
    exact h
