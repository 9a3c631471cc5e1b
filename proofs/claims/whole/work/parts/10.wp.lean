/-! Reasoning about runs of the small machine: jn_W (it comes to an end with Q), an equation for each instruction. -/
theorem jn_run_mono {G : Nat → jn_Me} : ∀ (n k d mi pc : Nat) (c : jn_C) (r : Option Value × jn_M), jn_run G n d mi pc c = some r → jn_run G (n + k) d mi pc c = some r := by
  intro n
  induction n with
  | zero => intro k d mi pc c r h; simp [jn_run] at h
  | succ n ih =>
    intro k d mi pc c r h
    rw [show n + 1 + k = (n + k) + 1 by omega]
    unfold jn_run at h ⊢
    split at h
    · cases h
    · rename_i f hf
      split at h
      · cases h
      · rename_i q hq
        exact ih k _ _ _ _ _ h
    · rename_i cm κ na hf
      split at h
      · rename_i d'
        split at h
        · rename_i hg
          rw [if_pos hg]
          split at h
          · cases h
          · rename_i q hq
            rw [ih k _ _ _ _ _ hq]
            exact ih k _ _ _ _ _ h
        · cases h
      · cases h
    · rename_i k' hf
      exact h
def jn_W (d mi pc : Nat) (ls : jn_Lo) (st : List Value) (M : jn_M) (Q : Option Value → jn_M → Prop) : Prop := ∃ (n : Nat) (v : Option Value) (M' : jn_M), jn_run jn_G0 n d mi pc (ls, st, M) = some (v, M') ∧ Q v M'
/-- a method's answer and its memory behind it, at any depth from k on -/
def jn_V (cm k : Nat) (vs : List Value) (M : jn_M) (v : Option Value) (M' : jn_M) : Prop := ∀ d : Nat, k ≤ d → jn_W d cm 0 (jn_en (jn_G0 cm).1.2.2.1 vs) [] M (fun w M1 => w = v ∧ M1 = M')
theorem jn_W_eq {d mi pc pc' : Nat} {ls ls' : jn_Lo} {st st' : List Value} {M M' : jn_M} {Q : Option Value → jn_M → Prop} {f : Nat → jn_C → Option (Nat × jn_C)} (hf : jn_find (jn_G0 mi).2.2.2 pc = some (.inl f)) (h : f pc (ls, st, M) = some (pc', ls', st', M')) : jn_W d mi pc ls st M Q = jn_W d mi pc' ls' st' M' Q := by
  refine propext ⟨fun ⟨n, v, M1, hr, hq⟩ => ?_, fun ⟨n, v, M1, hr, hq⟩ => ⟨n + 1, v, M1, ?_, hq⟩⟩
  · cases n with
    | zero => simp [jn_run] at hr
    | succ n =>
      unfold jn_run at hr
      rw [hf] at hr
      dsimp only at hr
      rw [h] at hr
      exact ⟨n, v, M1, hr, hq⟩
  · unfold jn_run
    rw [hf]
    dsimp only
    rw [h]
    exact hr
theorem jn_W_no {d mi pc : Nat} {ls : jn_Lo} {st : List Value} {M : jn_M} {Q : Option Value → jn_M → Prop} {f : Nat → jn_C → Option (Nat × jn_C)} (hf : jn_find (jn_G0 mi).2.2.2 pc = some (.inl f)) (h : f pc (ls, st, M) = none) : ¬ jn_W d mi pc ls st M Q := by
  rintro ⟨n, v, M1, hr, hq⟩
  cases n with
  | zero => simp [jn_run] at hr
  | succ n =>
    unfold jn_run at hr
    rw [hf] at hr
    dsimp only at hr
    rw [h] at hr
    cases hr
theorem jn_W_eqc {d mi pc pc' : Nat} {ls ls' : jn_Lo} {st st' : List Value} {M M' : jn_M} {Q : Option Value → jn_M → Prop} {f : Nat → jn_C → Option (Nat × jn_C)} {b : Bool} (hf : jn_find (jn_G0 mi).2.2.2 pc = some (.inl f)) (h : f pc (ls, st, M) = if b = true then some (pc', ls', st', M') else none) : jn_W d mi pc ls st M Q = (b = true ∧ jn_W d mi pc' ls' st' M' Q) := by
  cases b with
  | true => rw [if_pos rfl] at h; rw [jn_W_eq hf h]; exact propext ⟨fun h => ⟨rfl, h⟩, fun h => h.2⟩
  | false =>
    rw [if_neg (by decide)] at h
    exact propext ⟨fun h2 => absurd h2 (jn_W_no hf h), fun h2 => by cases h2.1⟩
theorem jn_W_br {d mi pc t e : Nat} {ls : jn_Lo} {st st' : List Value} {M : jn_M} {Q : Option Value → jn_M → Prop} {f : Nat → jn_C → Option (Nat × jn_C)} {c : Prop} (hc : Decidable c) (hf : jn_find (jn_G0 mi).2.2.2 pc = some (.inl f)) (h : f pc (ls, st, M) = some (@ite Nat c hc t e, ls, st', M)) : jn_W d mi pc ls st M Q = @ite Prop c hc (jn_W d mi t ls st' M Q) (jn_W d mi e ls st' M Q) := by
  rw [jn_W_eq hf h]
  split <;> rfl
theorem jn_W_ret {d mi pc k : Nat} {ls : jn_Lo} {st : List Value} {M : jn_M} {Q : Option Value → jn_M → Prop} {v : Option Value} (hf : jn_find (jn_G0 mi).2.2.2 pc = some (.inr (.inr k))) (h : jn_ret k st = some v) : jn_W d mi pc ls st M Q = Q v M := by
  refine propext ⟨fun ⟨n, v', M1, hr, hq⟩ => ?_, fun hq => ⟨1, v, M, ?_, hq⟩⟩
  · cases n with
    | zero => simp [jn_run] at hr
    | succ n =>
      unfold jn_run at hr
      rw [hf] at hr
      dsimp only at hr
      rw [h] at hr
      cases hr
      exact hq
  · unfold jn_run
    rw [hf]
    dsimp only
    rw [h]
theorem jn_W_retc {d mi pc k : Nat} {ls : jn_Lo} {st : List Value} {M : jn_M} {Q : Option Value → jn_M → Prop} {v : Option Value} {b : Bool} (hf : jn_find (jn_G0 mi).2.2.2 pc = some (.inr (.inr k))) (h : jn_ret k st = if b = true then some v else none) : jn_W d mi pc ls st M Q = (b = true ∧ Q v M) := by
  cases b with
  | true => rw [if_pos rfl] at h; rw [jn_W_ret hf h]; exact propext ⟨fun h => ⟨rfl, h⟩, fun h => h.2⟩
  | false =>
    rw [if_neg (by decide)] at h
    refine propext ⟨fun ⟨n, v', M1, hr, hq⟩ => ?_, fun h2 => by cases h2.1⟩
    cases n with
    | zero => simp [jn_run] at hr
    | succ n =>
      unfold jn_run at hr
      rw [hf] at hr
      dsimp only at hr
      rw [h] at hr
      cases hr
/-- a small stack under a call -/
def jn_sm : Nat → List Value → Bool
  | _, [] => true
  | n, v :: st => decide (v.category ≤ n) && jn_sm (n - v.category) st
theorem jn_sm_le : ∀ (st : List Value) (n : Nat), jn_sm n st = true → (st.map fun v => v.category).sum ≤ n
  | [], n, _ => by simp
  | v :: st, n, h => by
    simp only [jn_sm, Bool.and_eq_true, decide_eq_true_eq] at h
    have := jn_sm_le st _ h.2
    simp only [List.map_cons, List.sum_cons]
    omega
theorem jn_sm_of : ∀ (st : List Value) (n : Nat), (st.map fun v => v.category).sum ≤ n → jn_sm n st = true
  | [], n, _ => rfl
  | v :: st, n, h => by
    simp only [List.map_cons, List.sum_cons] at h
    simp only [jn_sm, Bool.and_eq_true, decide_eq_true_eq]
    exact ⟨by omega, jn_sm_of st _ (by omega)⟩
theorem jn_W_call {d mi pc cm κ na k : Nat} {ls : jn_Lo} {st0 st vs : List Value} {M M' : jn_M} {v : Option Value} {Q : Option Value → jn_M → Prop} (hf : jn_find (jn_G0 mi).2.2.2 pc = some (.inr (.inl (cm, κ, na)))) (h : jn_V cm k vs M v M') (hk : 1 ≤ k ∧ k + 1 ≤ d) (hst : st0 = vs.reverse ++ st) (hl : vs.length = na) (ha : (jn_args vs).length ≤ (jn_G0 cm).1.2.2.1) : jn_W d mi pc ls st0 M Q = ((jn_sm 8 st = true ∧ jn_rc κ M vs = true) ∧ jn_W d mi (pc + 3) ls (v.toList ++ st) M' Q) := by
  subst hst
  have e1 : ((vs.reverse ++ st).take na).reverse = vs := by
    rw [← hl, show vs.length = vs.reverse.length by simp, List.take_left, List.reverse_reverse]
  have e2 : (vs.reverse ++ st).drop na = st := by
    rw [← hl, show vs.length = vs.reverse.length by simp, List.drop_left]
  obtain ⟨d', rfl⟩ : ∃ d', d = d' + 2 := ⟨d - 2, by omega⟩
  obtain ⟨n1, w, M1, hr1, rfl, rfl⟩ := h (d' + 1) (by omega)
  refine propext ⟨fun ⟨n, v', M2, hr, hq⟩ => ?_, fun ⟨⟨g1, g2⟩, n, v', M2, hr, hq⟩ => ⟨n1 + n + 1, v', M2, ?_, hq⟩⟩
  · cases n with
    | zero => simp [jn_run] at hr
    | succ n =>
      unfold jn_run at hr
      rw [hf] at hr
      dsimp only at hr
      rw [e1, e2] at hr
      split at hr
      · rename_i hg
        obtain ⟨-, g1, -, g2⟩ := hg
        split at hr
        · cases hr
        · rename_i r hr2
          have h3 := jn_run_mono _ n1 _ _ _ _ _ hr2
          have h4 := jn_run_mono _ n _ _ _ _ _ hr1
          rw [Nat.add_comm n1 n, h3] at h4
          cases h4
          exact ⟨⟨jn_sm_of _ _ g1, g2⟩, n, v', M2, hr, hq⟩
      · cases hr
  · unfold jn_run
    rw [hf]
    dsimp only
    rw [e1, e2, if_pos ⟨by simp [hl], jn_sm_le _ _ g1, ha, g2⟩, jn_run_mono _ n _ _ _ _ _ hr1]
    dsimp only
    rw [Nat.add_comm n1 n]
    exact jn_run_mono _ n1 _ _ _ _ _ hr
theorem jn_V_of {cm k : Nat} {vs : List Value} {M : jn_M} {v : Option Value} {M' : jn_M} (h : ∀ (d : Nat) (Q : Option Value → jn_M → Prop), k ≤ d → Q v M' → jn_W d cm 0 (jn_en (jn_G0 cm).1.2.2.1 vs) [] M Q) : jn_V cm k vs M v M' := fun d hd => h d _ hd ⟨rfl, rfl⟩
theorem jn_V.mono {cm k k' : Nat} {vs : List Value} {M : jn_M} {v : Option Value} {M' : jn_M} (h : jn_V cm k vs M v M') (hk : k ≤ k') : jn_V cm k' vs M v M' := fun d hd => h d (by omega)
/-! what is read of a cell, totally, and whether it may be read -/
def jn_rs (M : jn_M) (a : Nat) : Option jn_Ce := if a = M.1.1 then some (.inl (0, M.1.2.1, .inl M.1.2.2)) else jn_rd M a
/-- a field -/
def jn_fo (o : Option jn_Ce) (ci k : Nat) : Bool := match o with
  | some (.inr (cj, fs)) => decide (cj = ci) && decide (k < fs.length)
  | _ => false
def jn_fv (o : Option jn_Ce) (k : Nat) : Value := match o with
  | some (.inr (_, fs)) => fs.getD k .null
  | _ => .null
def jn_fs (o : Option jn_Ce) (k : Nat) (v : Value) : jn_Ce := match o with
  | some (.inr (cj, fs)) => .inr (cj, fs.set k v)
  | _ => .inr (0, [])
/-- an array: its tag, an index -/
def jn_io (i : Int32) (n : Nat) : Bool := decide (¬ (i < 0 ∨ n ≤ i.toNatClampNeg))
def jn_aiO (o : Option jn_Ce) (t : Nat) (i : Int32) : Bool := match o with
  | some (.inl (t', n, .inl _)) => decide (t' = t) && jn_io i n
  | _ => false
def jn_aiV (o : Option jn_Ce) (i : Int32) : Int32 := match o with
  | some (.inl (_, _, .inl f)) => f i.toNatClampNeg
  | _ => 0
def jn_aiS (o : Option jn_Ce) (i x : Int32) : jn_Ce := match o with
  | some (.inl (t, n, .inl f)) => .inl (t, n, .inl (upd f i.toNatClampNeg x))
  | _ => .inr (0, [])
def jn_alO (o : Option jn_Ce) (i : Int32) : Bool := match o with
  | some (.inl (t', n, .inr (.inl _))) => decide (t' = 1) && jn_io i n
  | _ => false
def jn_alV (o : Option jn_Ce) (i : Int32) : Int64 := match o with
  | some (.inl (_, _, .inr (.inl f))) => f i.toNatClampNeg
  | _ => 0
def jn_alS (o : Option jn_Ce) (i : Int32) (x : Int64) : jn_Ce := match o with
  | some (.inl (t, n, .inr (.inl f))) => .inl (t, n, .inr (.inl (vp_updL f i.toNatClampNeg x)))
  | _ => .inr (0, [])
def jn_arO (o : Option jn_Ce) (i : Int32) : Bool := match o with
  | some (.inl (t', n, .inr (.inr (.inr (.inr _))))) => decide (t' = 3 ∨ t' = 4) && jn_io i n
  | _ => false
def jn_arV (o : Option jn_Ce) (i : Int32) : Option Nat := match o with
  | some (.inl (_, _, .inr (.inr (.inr (.inr f))))) => f i.toNatClampNeg
  | _ => none
/-- a reference stored: into what, which object's class -/
def jn_arP (o p : Option jn_Ce) (i : Int32) : Bool := match o with
  | some (.inl (t, n, .inr (.inr (.inr (.inr _))))) => match p with
    | some (.inr (cj, _)) => decide ((t = 3 ∧ cj = 2) ∨ (t = 4 ∧ cj = 0)) && jn_io i n
    | _ => false
  | _ => false
def jn_arS (o : Option jn_Ce) (i : Int32) (v : Nat) : jn_Ce := match o with
  | some (.inl (t, n, .inr (.inr (.inr (.inr f))))) => .inl (t, n, .inr (.inr (.inr (.inr (va_up f i.toNatClampNeg (some v))))))
  | _ => .inr (0, [])
def jn_cpO (o p : Option jn_Ce) (sp dp n : Int32) : Bool := match o with
  | some (.inl (t0, n0, .inl _)) => match p with
    | some (.inl (t1, n1, .inl _)) => decide (t0 = 0 ∧ t1 = 0 ∧ ¬ sp < 0 ∧ ¬ dp < 0 ∧ ¬ n < 0 ∧ sp.toNatClampNeg + n.toNatClampNeg ≤ n0 ∧ dp.toNatClampNeg + n.toNatClampNeg ≤ n1)
    | _ => false
  | _ => false
def jn_cpS (o p : Option jn_Ce) (sp dp n : Int32) : jn_Ce := match o with
  | some (.inl (_, _, .inl f)) => match p with
    | some (.inl (t1, n1, .inl g)) => .inl (t1, n1, .inl (va_cpy f g sp.toNatClampNeg dp.toNatClampNeg n.toNatClampNeg))
    | _ => .inr (0, [])
  | _ => .inr (0, [])
theorem jn_getf_e {ci k pc a : Nat} {ls : jn_Lo} {st : List Value} {M : jn_M} : jn_getf ci k pc (ls, .ref a :: st, M) = if jn_fo (jn_rd M a) ci k = true then some (pc + 3, ls, jn_fv (jn_rd M a) k :: st, M) else none := by
  simp only [jn_getf]
  cases jn_rd M a with
  | none => rfl
  | some x =>
    cases x with
    | inl x => rfl
    | inr x =>
      obtain ⟨cj, fs⟩ := x
      simp only [jn_fo, jn_fv]
      by_cases h1 : cj = ci
      · by_cases h2 : k < fs.length
        · simp [h1, h2]
        · simp [h1, h2]
      · simp [h1]
theorem jn_putf_e {ci k κ pc a : Nat} {v : Value} {ls : jn_Lo} {st : List Value} {M : jn_M} (hv : jn_pok κ v = true) : jn_putf ci k κ pc (ls, v :: .ref a :: st, M) = if jn_fo (jn_rd M a) ci k = true then some (pc + 3, ls, st, jn_wr M a (jn_fs (jn_rd M a) k v)) else none := by
  simp only [jn_putf]
  cases jn_rd M a with
  | none => rfl
  | some x =>
    cases x with
    | inl x => rfl
    | inr x =>
      obtain ⟨cj, fs⟩ := x
      simp only [jn_fo, jn_fs]
      by_cases h1 : cj = ci
      · by_cases h2 : k < fs.length
        · simp [h1, h2, hv]
        · simp [h1, h2]
      · simp [h1]
theorem jn_putF_e {ci k κ pc a : Nat} {v : Value} {ls : jn_Lo} {st : List Value} {M : jn_M} (hv : jn_pok κ v = true) : jn_putF ci k κ pc (ls, v :: .ref a :: st, M) = if jn_fo (jn_rd M a) ci k = true then some (pc + 3, ls, st, jn_wr M a (jn_fs (jn_rd M a) k v)) else none := jn_putf_e hv
theorem jn_iaload_e {pc a : Nat} {i : Int32} {ls : jn_Lo} {st : List Value} {M : jn_M} : jn_iaload pc (ls, .int i :: .ref a :: st, M) = if jn_aiO (jn_rs M a) 0 i = true then some (pc + 1, ls, .int (jn_aiV (jn_rs M a) i) :: st, M) else none := by
  by_cases ha : a = M.1.1
  · simp [jn_iaload, jn_rs, ha, jn_aiO, jn_aiV, jn_io]
  · have e : jn_rs M a = jn_rd M a := if_neg ha
    rw [e]
    simp only [jn_iaload]
    rw [if_neg ha]
    cases jn_rd M a with
    | none => rfl
    | some x =>
      cases x with
      | inr x => rfl
      | inl x =>
        obtain ⟨t, n, f | f | f | f | f⟩ := x <;> simp [jn_aiO, jn_aiV, jn_io]
theorem jn_zaload_e {pc a : Nat} {i : Int32} {ls : jn_Lo} {st : List Value} {M : jn_M} : jn_zaload pc (ls, .int i :: .ref a :: st, M) = if jn_aiO (jn_rd M a) 2 i = true then some (pc + 1, ls, .int (jn_aiV (jn_rd M a) i) :: st, M) else none := by
  simp only [jn_zaload]
  cases jn_rd M a with
  | none => rfl
  | some x =>
    cases x with
    | inr x => rfl
    | inl x =>
      obtain ⟨t, n, f | f | f | f | f⟩ := x <;> simp [jn_aiO, jn_aiV, jn_io]
theorem jn_laload_e {pc a : Nat} {i : Int32} {ls : jn_Lo} {st : List Value} {M : jn_M} : jn_laload pc (ls, .int i :: .ref a :: st, M) = if jn_alO (jn_rd M a) i = true then some (pc + 1, ls, .long (jn_alV (jn_rd M a) i) :: st, M) else none := by
  simp only [jn_laload]
  cases jn_rd M a with
  | none => rfl
  | some x =>
    cases x with
    | inr x => rfl
    | inl x =>
      obtain ⟨t, n, f | f | f | f | f⟩ := x <;> simp [jn_alO, jn_alV, jn_io]
theorem jn_aaload_e {pc a : Nat} {i : Int32} {ls : jn_Lo} {st : List Value} {M : jn_M} : jn_aaload pc (ls, .int i :: .ref a :: st, M) = if jn_arO (jn_rd M a) i = true then some (pc + 1, ls, va_rf (jn_arV (jn_rd M a) i) :: st, M) else none := by
  simp only [jn_aaload]
  cases jn_rd M a with
  | none => rfl
  | some x =>
    cases x with
    | inr x => rfl
    | inl x =>
      obtain ⟨t, n, f | f | f | f | f⟩ := x <;> simp [jn_arO, jn_arV, jn_io]
theorem jn_iastore_e {pc a : Nat} {i x : Int32} {ls : jn_Lo} {st : List Value} {M : jn_M} : jn_iastore pc (ls, .int x :: .int i :: .ref a :: st, M) = if jn_aiO (jn_rd M a) 0 i = true then some (pc + 1, ls, st, jn_wr M a (jn_aiS (jn_rd M a) i x)) else none := by
  simp only [jn_iastore]
  cases jn_rd M a with
  | none => rfl
  | some x =>
    cases x with
    | inr x => rfl
    | inl x =>
      obtain ⟨t, n, f | f | f | f | f⟩ := x <;> simp [jn_aiO, jn_aiS, jn_io]
theorem jn_zastore_e {pc a : Nat} {i x : Int32} {ls : jn_Lo} {st : List Value} {M : jn_M} : jn_zastore pc (ls, .int x :: .int i :: .ref a :: st, M) = if jn_aiO (jn_rd M a) 2 i = true then some (pc + 1, ls, st, jn_wr M a (jn_aiS (jn_rd M a) i (vp_nar .boolean x))) else none := by
  simp only [jn_zastore]
  cases jn_rd M a with
  | none => rfl
  | some x =>
    cases x with
    | inr x => rfl
    | inl x =>
      obtain ⟨t, n, f | f | f | f | f⟩ := x <;> simp [jn_aiO, jn_aiS, jn_io]
theorem jn_lastore_e {pc a : Nat} {i : Int32} {x : Int64} {ls : jn_Lo} {st : List Value} {M : jn_M} : jn_lastore pc (ls, .long x :: .int i :: .ref a :: st, M) = if jn_alO (jn_rd M a) i = true then some (pc + 1, ls, st, jn_wr M a (jn_alS (jn_rd M a) i x)) else none := by
  simp only [jn_lastore]
  cases jn_rd M a with
  | none => rfl
  | some x =>
    cases x with
    | inr x => rfl
    | inl x =>
      obtain ⟨t, n, f | f | f | f | f⟩ := x <;> simp [jn_alO, jn_alS, jn_io]
theorem jn_aastore_e {pc a v : Nat} {i : Int32} {ls : jn_Lo} {st : List Value} {M : jn_M} : jn_aastore pc (ls, .ref v :: .int i :: .ref a :: st, M) = if jn_arP (jn_rd M a) (jn_rd M v) i = true then some (pc + 1, ls, st, jn_wr M a (jn_arS (jn_rd M a) i v)) else none := by
  simp only [jn_aastore]
  cases jn_rd M a with
  | none => rfl
  | some x =>
    cases x with
    | inr x => rfl
    | inl x =>
      obtain ⟨t, n, f | f | f | f | f⟩ := x <;> try rfl
      cases jn_rd M v with
      | none => rfl
      | some y =>
        cases y with
        | inl y => rfl
        | inr y =>
          obtain ⟨cj, fs⟩ := y
          simp [jn_arP, jn_arS, jn_io]
theorem jn_acopy_e {pc a a0 : Nat} {n dp sp : Int32} {ls : jn_Lo} {st : List Value} {M : jn_M} : jn_acopy pc (ls, .int n :: .int dp :: .ref a :: .int sp :: .ref a0 :: st, M) = if (jn_sm 8 st && jn_cpO (jn_rd M a0) (jn_rd M a) sp dp n) = true then some (pc + 3, ls, st, jn_wr M a (jn_cpS (jn_rd M a0) (jn_rd M a) sp dp n)) else none := by
  have hs : jn_sm 8 st = decide ((st.map fun v => v.category).sum ≤ 8) := by
    by_cases h : (st.map fun v => v.category).sum ≤ 8
    · rw [jn_sm_of _ _ h]; simp [h]
    · cases h2 : jn_sm 8 st with
      | false => simp [h]
      | true => exact absurd (jn_sm_le _ _ h2) h
  simp only [jn_acopy, hs]
  cases jn_rd M a0 with
  | none => simp [jn_cpO]
  | some x =>
    cases x with
    | inr x => simp [jn_cpO]
    | inl x =>
      obtain ⟨t0, n0, f | f | f | f | f⟩ := x <;> try (simp [jn_cpO]; done)
      cases jn_rd M a with
      | none => simp [jn_cpO]
      | some y =>
        cases y with
        | inr y => simp [jn_cpO]
        | inl y =>
          obtain ⟨t1, n1, g | g | g | g | g⟩ := y <;> try (simp [jn_cpO]; done)
          simp only [jn_cpO, jn_cpS, Bool.and_eq_true, decide_eq_true_eq]
          by_cases h1 : (st.map fun v => v.category).sum ≤ 8
          · simp [h1]
          · simp [h1]
theorem jn_oinit_e {pc a : Nat} {ls : jn_Lo} {st : List Value} {M : jn_M} : jn_oinit pc (ls, .ref a :: st, M) = if jn_sm 8 st = true then some (pc + 3, ls, st, M) else none := by
  by_cases h : (st.map fun v => v.category).sum ≤ 8
  · rw [jn_sm_of _ _ h]; simp [jn_oinit, h]
  · cases h2 : jn_sm 8 st with
    | false => simp [jn_oinit, h]
    | true => exact absurd (jn_sm_le _ _ h2) h
/-- what stands in the slot before one that is stored into -/
def jn_kk (o : Option Value) : Option Value := match o with
  | some (.long _) => none
  | some (.double _) => none
  | o => o
