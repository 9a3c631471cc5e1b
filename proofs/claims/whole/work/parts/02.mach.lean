/-! A small machine over the kit's own values and cells: what a method of the two classes does, as a function. Its steps are shown to be the machine's (jn_G), its runs too (jn_core). -/
abbrev jn_Ce : Type := (Nat × vp_A) ⊕ (Nat × List Value)
/-- ((the script's address, its length, its values), (the first address of ours, our cells one behind another)) -/
abbrev jn_M : Type := (Nat × Nat × (Nat → Int32)) × (Nat × List jn_Ce)
abbrev jn_Lo : Type := List (Option Value)
abbrev jn_C : Type := jn_Lo × List Value × jn_M
def jn_rd (M : jn_M) (a : Nat) : Option jn_Ce := if a < M.2.1 then none else M.2.2[a - M.2.1]?
def jn_wr (M : jn_M) (a : Nat) (x : jn_Ce) : jn_M := (M.1, M.2.1, M.2.2.set (a - M.2.1) x)
def jn_nx (M : jn_M) : Nat := M.2.1 + M.2.2.length
def jn_ad (M : jn_M) (x : jn_Ce) : jn_M := (M.1, M.2.1, M.2.2 ++ [x])
def jn_cs : jn_Ce → Nat
  | .inl (_, n, _) => n
  | .inr (k, _) => k
/-- the slots that a cell takes: an object's number of fields is told by N -/
def jn_sz (N : Nat → Nat) : jn_Ce → Nat
  | .inl (_, n, _) => n
  | .inr (k, _) => N k
def jn_sl (N : Nat → Nat) : List jn_Ce → Nat
  | [] => 0
  | x :: l => jn_sz N x + jn_sl N l
theorem jn_sl_app (N : Nat → Nat) (l : List jn_Ce) (x : jn_Ce) : jn_sl N (l ++ [x]) = jn_sl N l + jn_sz N x := by
  induction l with
  | nil => simp [jn_sl]
  | cons y l ih => simp [jn_sl, ih]; omega
theorem jn_sl_set (N : Nat → Nat) : ∀ (l : List jn_Ce) (i : Nat) (x y : jn_Ce), l[i]? = some x → jn_sz N y = jn_sz N x → jn_sl N (l.set i y) = jn_sl N l
  | [], i, x, y, h, _ => by simp at h
  | z :: l, 0, x, y, h, e => by
    simp at h
    subst h
    simp [jn_sl, e]
  | z :: l, i + 1, x, y, h, e => by
    have := jn_sl_set N l i x y (by simpa using h) e
    simp [jn_sl, this]
/-! the cells of ours as the kit's world: a tag of an array's kind becomes the array's class -/
def jn_cc (dA : Nat → ClassId) : jn_Ce → va_E
  | .inl (t, x) => .inl (dA t, x)
  | .inr o => .inr o
def jn_ws (dA : Nat → ClassId) : Nat → List jn_Ce → va_W
  | _, [] => []
  | b, x :: l => (b, jn_cc dA x) :: jn_ws dA (b + 1) l
theorem jn_ws_at (dA : Nat → ClassId) : ∀ (l : List jn_Ce) (b i : Nat), (jn_ws dA b l)[i]? = (l[i]?).map (fun x => (b + i, jn_cc dA x))
  | [], b, i => by simp [jn_ws]
  | x :: l, b, 0 => by simp [jn_ws]
  | x :: l, b, i + 1 => by
    have := jn_ws_at dA l (b + 1) i
    simp only [jn_ws, List.getElem?_cons_succ, this]
    rw [show b + 1 + i = b + (i + 1) by omega]
theorem jn_ws_len (dA : Nat → ClassId) : ∀ (l : List jn_Ce) (b : Nat), (jn_ws dA b l).length = l.length
  | [], b => rfl
  | x :: l, b => by simp [jn_ws, jn_ws_len dA l]
theorem jn_ws_set (dA : Nat → ClassId) : ∀ (l : List jn_Ce) (b i : Nat) (x : jn_Ce), jn_ws dA b (l.set i x) = (jn_ws dA b l).set i (b + i, jn_cc dA x)
  | [], b, i, x => by simp [jn_ws]
  | y :: l, b, 0, x => by simp [jn_ws]
  | y :: l, b, i + 1, x => by
    have := jn_ws_set dA l (b + 1) i x
    simp only [jn_ws, List.set_cons_succ, this]
    rw [show b + 1 + i = b + (i + 1) by omega]
theorem jn_ws_app (dA : Nat → ClassId) : ∀ (l : List jn_Ce) (b : Nat) (x : jn_Ce), jn_ws dA b (l ++ [x]) = jn_ws dA b l ++ [(b + l.length, jn_cc dA x)]
  | [], b, x => by simp [jn_ws]
  | y :: l, b, x => by
    have := jn_ws_app dA l (b + 1) x
    simp only [jn_ws, List.cons_append, this, List.length_cons]
    rw [show b + 1 + l.length = b + (l.length + 1) by omega]
theorem jn_ws_D (dA : Nat → ClassId) (b : Nat) (l : List jn_Ce) : va_D (fun q => b ≤ q) (jn_ws dA b l) := by
  have key : ∀ (k : Nat) (q : Nat × va_E), (jn_ws dA b l)[k]? = some q → q.1 = b + k := by
    intro k q h
    rw [jn_ws_at] at h
    cases hl : l[k]? with
    | none => rw [hl] at h; cases h
    | some x =>
      rw [hl] at h
      simp at h
      rw [← h]
  refine ⟨fun i j p q hi hj hpq => ?_, fun k q hk => ?_⟩
  · have h1 := key i p hi
    have h2 := key j q hj
    omega
  · have h1 := key k q hk
    show b ≤ q.1
    omega
/-- a cell of ours stands in the world -/
theorem jn_rd_ws (dA : Nat → ClassId) {M : jn_M} {a : Nat} {x : jn_Ce} (h : jn_rd M a = some x) : (jn_ws dA M.2.1 M.2.2)[a - M.2.1]? = some (a, jn_cc dA x) := by
  unfold jn_rd at h
  by_cases ha : a < M.2.1
  · rw [if_pos ha] at h; cases h
  · rw [if_neg ha] at h
    rw [jn_ws_at, h]
    simp
    omega
theorem jn_rd_lt {M : jn_M} {a : Nat} {x : jn_Ce} (h : jn_rd M a = some x) : M.2.1 ≤ a ∧ a - M.2.1 < M.2.2.length ∧ M.2.2[a - M.2.1]? = some x := by
  unfold jn_rd at h
  by_cases ha : a < M.2.1
  · rw [if_pos ha] at h; cases h
  · rw [if_neg ha] at h
    exact ⟨by omega, (List.getElem?_eq_some_iff.mp h).1, h⟩
/-! locals -/
def jn_ix : Nat → jn_Lo → List (Nat × Value)
  | _, [] => []
  | b, none :: l => jn_ix (b + 1) l
  | b, some v :: l => (b, v) :: jn_ix (b + 1) l
theorem jn_ix_mem : ∀ (l : jn_Lo) (b k : Nat) (v : Value), (k, v) ∈ jn_ix b l ↔ b ≤ k ∧ l[k - b]? = some (some v)
  | [], b, k, v => by simp [jn_ix]
  | none :: l, b, k, v => by
    rw [jn_ix, jn_ix_mem l (b + 1) k v]
    constructor
    · rintro ⟨h1, h2⟩
      refine ⟨by omega, ?_⟩
      rw [show k - b = (k - (b + 1)) + 1 by omega, List.getElem?_cons_succ]
      exact h2
    · rintro ⟨h1, h2⟩
      by_cases hk : k = b
      · subst hk
        simp at h2
      · rw [show k - b = (k - (b + 1)) + 1 by omega, List.getElem?_cons_succ] at h2
        exact ⟨by omega, h2⟩
  | some w :: l, b, k, v => by
    rw [jn_ix, List.mem_cons, jn_ix_mem l (b + 1) k v]
    constructor
    · rintro (h | ⟨h1, h2⟩)
      · cases h
        exact ⟨Nat.le_refl _, by simp⟩
      · refine ⟨by omega, ?_⟩
        rw [show k - b = (k - (b + 1)) + 1 by omega, List.getElem?_cons_succ]
        exact h2
    · rintro ⟨h1, h2⟩
      by_cases hk : k = b
      · subst hk
        simp at h2
        exact Or.inl (by rw [h2])
      · rw [show k - b = (k - (b + 1)) + 1 by omega, List.getElem?_cons_succ] at h2
        exact Or.inr ⟨by omega, h2⟩
def jn_lh (arr : Array Slot) (n : Nat) (ls : jn_Lo) : Prop := ls.length = n ∧ lv_has arr n (jn_ix 0 ls)
theorem jn_lh.at {arr : Array Slot} {n : Nat} {ls : jn_Lo} (h : jn_lh arr n ls) {i : Nat} {v : Value} (hv : ls[i]? = some (some v)) : arr[i]? = some (.val v) :=
  h.2.2.2 (i, v) ((jn_ix_mem ls 0 i v).mpr ⟨Nat.zero_le _, by simpa using hv⟩)
/-- what an old value must be for a value of two slots that is overwritten in its second half -/
def jn_k0 (ls : jn_Lo) (i : Nat) : jn_Lo := match i with
  | 0 => ls
  | j + 1 => match ls[j]? with
    | some (some (.long _)) => ls.set j none
    | some (some (.double _)) => ls.set j none
    | _ => ls
/-- storing a value of one slot; of two -/
def jn_s1 (ls : jn_Lo) (i : Nat) (v : Value) : jn_Lo := (jn_k0 ls i).set i (some v)
def jn_s2 (ls : jn_Lo) (i : Nat) (v : Value) : jn_Lo := ((jn_k0 ls i).set i (some v)).set (i + 1) none
theorem jn_k0_len (ls : jn_Lo) (i : Nat) : (jn_k0 ls i).length = ls.length := by
  unfold jn_k0
  split
  · rfl
  · split <;> simp
theorem jn_k0_at {ls : jn_Lo} {i k : Nat} {w : Value} (h : (jn_k0 ls i)[k]? = some (some w)) : ls[k]? = some (some w) ∧ ¬ (k + 1 = i ∧ w.category = 2) := by
  unfold jn_k0 at h
  split at h
  · exact ⟨h, by omega⟩
  · rename_i j
    by_cases hk : k = j
    · subst hk
      split at h
      · rename_i x hx
        rw [List.getElem?_set_self (List.getElem?_eq_some_iff.mp hx).1] at h
        cases h
      · rename_i x hx
        rw [List.getElem?_set_self (List.getElem?_eq_some_iff.mp hx).1] at h
        cases h
      · rename_i h1 h2
        refine ⟨h, ?_⟩
        rintro ⟨-, hc⟩
        cases w with
        | long x => exact h1 x h
        | double x => exact h2 x h
        | int x => simp [Value.category] at hc
        | float x => simp [Value.category] at hc
        | null => simp [Value.category] at hc
        | ref x => simp [Value.category] at hc
        | retAddr x => simp [Value.category] at hc
    · refine ⟨?_, by omega⟩
      split at h
      · rwa [List.getElem?_set_ne (Ne.symm hk)] at h
      · rwa [List.getElem?_set_ne (Ne.symm hk)] at h
      · exact h
theorem jn_lh.s1 {arr arr' : Array Slot} {n i : Nat} {ls : jn_Lo} {v : Value} (h : jn_lh arr n ls) (hi : i < ls.length) (h2 : lv_has arr' n ((i, v) :: (jn_ix 0 ls).filter (fun q => !(q.1 == i) && !(q.1 + 1 == i && q.2.category == 2)))) : jn_lh arr' n (jn_s1 ls i v) := by
  refine ⟨by simp [jn_s1, jn_k0_len, h.1], h2.1, h2.2.1, ?_⟩
  rintro ⟨k, w⟩ hq
  apply h2.2.2
  have h3 := ((jn_ix_mem _ 0 k w).mp hq).2
  rw [Nat.sub_zero] at h3
  unfold jn_s1 at h3
  by_cases hk : k = i
  · subst hk
    rw [List.getElem?_set_self (by rw [jn_k0_len]; exact hi)] at h3
    cases h3
    exact List.mem_cons_self
  · rw [List.getElem?_set_ne (Ne.symm hk)] at h3
    obtain ⟨h4, h5⟩ := jn_k0_at h3
    refine List.mem_cons_of_mem _ (List.mem_filter.mpr ⟨(jn_ix_mem ls 0 k w).mpr ⟨Nat.zero_le _, by simpa using h4⟩, ?_⟩)
    simp only [Bool.and_eq_true, Bool.not_eq_true', beq_eq_false_iff_ne, ne_eq, Bool.and_eq_false_iff]
    refine ⟨hk, ?_⟩
    by_cases h6 : k + 1 = i
    · exact Or.inr (fun h7 => h5 ⟨h6, h7⟩)
    · exact Or.inl h6
theorem jn_lh.s2 {arr arr' : Array Slot} {n i : Nat} {ls : jn_Lo} {v : Value} (h : jn_lh arr n ls) (hi : i < ls.length) (h2 : lv_has arr' n ((i, v) :: (jn_ix 0 ls).filter (fun q => !(q.1 == i) && (!(q.1 == i + 1) && !(q.1 + 1 == i && q.2.category == 2))))) : jn_lh arr' n (jn_s2 ls i v) := by
  refine ⟨by simp [jn_s2, jn_k0_len, h.1], h2.1, h2.2.1, ?_⟩
  rintro ⟨k, w⟩ hq
  apply h2.2.2
  have h3 := ((jn_ix_mem _ 0 k w).mp hq).2
  rw [Nat.sub_zero] at h3
  unfold jn_s2 at h3
  by_cases hk1 : k = i + 1
  · subst hk1
    have hl := (List.getElem?_eq_some_iff.mp h3).1
    rw [List.getElem?_set_self (by simpa using hl)] at h3
    cases h3
  · rw [List.getElem?_set_ne (Ne.symm hk1)] at h3
    by_cases hk : k = i
    · subst hk
      rw [List.getElem?_set_self (by rw [jn_k0_len]; exact hi)] at h3
      cases h3
      exact List.mem_cons_self
    · rw [List.getElem?_set_ne (Ne.symm hk)] at h3
      obtain ⟨h4, h5⟩ := jn_k0_at h3
      refine List.mem_cons_of_mem _ (List.mem_filter.mpr ⟨(jn_ix_mem ls 0 k w).mpr ⟨Nat.zero_le _, by simpa using h4⟩, ?_⟩)
      simp only [Bool.and_eq_true, Bool.not_eq_true', beq_eq_false_iff_ne, ne_eq, Bool.and_eq_false_iff]
      refine ⟨hk, hk1, ?_⟩
      by_cases h6 : k + 1 = i
      · exact Or.inr (fun h7 => h5 ⟨h6, h7⟩)
      · exact Or.inl h6
