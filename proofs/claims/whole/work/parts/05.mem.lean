/-! The steps of the small machine that read, write and make cells. -/
theorem jn_size {p : Program} {l : Launch} {e : Env} {R : Room} {s : State} {m : MethodId} {args : Array Value} {below : List Frame} {meth : Method} {c : Code} {H : Heap} {locs : List Loc} {cells slots : Nat} {Q : State → Prop} {g : JFrame}
    (k : H.size ≤ s.heap.size + cells → W p l e R s m args below meth c H locs cells slots Q g) : W p l e R s m args below meth c H locs cells slots Q g := by
  intro T hT X
  have h : T.heap.size ≤ s.heap.size + cells := X.same.2.2.1
  rw [hT] at h
  exact k h T hT X
/-- the heap ends where our cells end -/
theorem jn_Mem.size {D : va_G} {dA : Nat → ClassId} {s : State} {c0 cells : Nat} {M : jn_M} {H : Heap} {locs : List Loc} (hM : jn_Mem D dA s c0 M H locs) (hc : cells + c0 = M.2.2.length) (hz : H.size ≤ s.heap.size + cells) : H.size = jn_nx M := by
  obtain ⟨hP, hS, -, -, hb⟩ := hM
  have h1 : s.heap.size ≤ H.size := hS.1
  unfold jn_nx
  have h2 : M.2.1 + M.2.2.length ≤ H.size := by
    by_cases h0 : M.2.2.length = 0
    · omega
    · have hi : M.2.2.length - 1 < M.2.2.length := by omega
      have h3 := jn_ws_at dA M.2.2 M.2.1 (M.2.2.length - 1)
      rw [List.getElem?_eq_getElem hi] at h3
      have h4 := (hP _ _ h3).lt
      dsimp only at h4
      omega
  omega
theorem jn_Mem.D (dA : Nat → ClassId) (M : jn_M) : va_D (fun q => M.2.1 ≤ q) (jn_ws dA M.2.1 M.2.2) := jn_ws_D dA _ _
theorem jn_wr_ws (dA : Nat → ClassId) {M : jn_M} {a : Nat} {x y : jn_Ce} (h : jn_rd M a = some x) : jn_ws dA (jn_wr M a y).2.1 (jn_wr M a y).2.2 = (jn_ws dA M.2.1 M.2.2).set (a - M.2.1) (a, jn_cc dA y) := by
  have h1 := (jn_rd_lt h).1
  unfold jn_wr
  dsimp only
  rw [jn_ws_set]
  rw [show M.2.1 + (a - M.2.1) = a by omega]
theorem jn_wr_len {M : jn_M} {a : Nat} {y : jn_Ce} : (jn_wr M a y).2.2.length = M.2.2.length := by simp [jn_wr]
theorem jn_wr_sl {M : jn_M} {a : Nat} {x y : jn_Ce} (h : jn_rd M a = some x) (e : jn_sz jn_N y = jn_sz jn_N x) : jn_sl jn_N (jn_wr M a y).2.2 = jn_sl jn_N M.2.2 := jn_sl_set jn_N _ _ _ _ (jn_rd_lt h).2.2 e
theorem jn_Mem.put {D : va_G} {dA : Nat → ClassId} {s : State} {c0 : Nat} {M : jn_M} {a : Nat} {x y : jn_Ce} {H H1 : Heap} {locs locs1 : List Loc} (hM : jn_Mem D dA s c0 M H locs) (h : jn_rd M a = some x) (hP : va_P D vwCl ((jn_ws dA M.2.1 M.2.2).set (a - M.2.1) (a, jn_cc dA y)) H1) (hS : va_S (fun q => M.2.1 ≤ q) s.heap H1 locs1) : jn_Mem D dA s c0 (jn_wr M a y) H1 locs1 := by
  obtain ⟨-, -, h3, h4, h5⟩ := hM
  exact ⟨by rw [jn_wr_ws dA h]; exact hP, hS, h3, h4, h5⟩
theorem jn_Mem.push {D : va_G} {dA : Nat → ClassId} {s : State} {c0 : Nat} {M : jn_M} {y : jn_Ce} {H H1 : Heap} {locs : List Loc} (hM : jn_Mem D dA s c0 M H locs) (hz : H.size = jn_nx M) (z : H1.size = H.size + 1) (o1 : ∀ q : Nat, q < H.size → H1[q]? = H[q]?) (hy : va_at D vwCl (jn_nx M, jn_cc dA y) H1) : jn_Mem D dA s c0 (jn_ad M y) H1 locs := by
  obtain ⟨hP, hS, h3, h4, h5⟩ := hM
  refine ⟨?_, ⟨Nat.le_trans hS.1 (by omega), fun q h1 h2 => (o1 q (Nat.lt_of_lt_of_le h1 hS.1)).trans (hS.2.1 q h1 h2), hS.2.2⟩, h3, h4, h5⟩
  show va_P D vwCl (jn_ws dA M.2.1 (M.2.2 ++ [y])) H1
  rw [jn_ws_app]
  refine (hP.kept (fun k q hq => o1 q.1 (hP k q hq).lt)).app (fun k q hq => ?_)
  have hz : k < 1 := (List.getElem?_eq_some_iff.mp hq).1
  rw [show k = 0 by omega] at hq
  cases hq
  exact hy
/-- what a field of a kind takes -/
def jn_pok (κ : Nat) (v : Value) : Bool := match v with
  | .int _ => κ == 0
  | .long _ => κ == 1
  | .ref _ => κ == 2
  | _ => false
theorem jn_po_int : ∀ v, jn_pok 0 v = true → narrow .int v = v ∧ fits .int v = true := by
  intro v h
  cases v <;> first | exact ⟨rfl, rfl⟩ | simp [jn_pok] at h
theorem jn_po_long : ∀ v, jn_pok 1 v = true → narrow .long v = v ∧ fits .long v = true := by
  intro v h
  cases v <;> first | exact ⟨rfl, rfl⟩ | simp [jn_pok] at h
theorem jn_po_obj (n : String) : ∀ v, jn_pok 2 v = true → narrow (.object n) v = v ∧ fits (.object n) v = true := by
  intro v h
  cases v <;> first | exact ⟨rfl, rfl⟩ | simp [jn_pok] at h
theorem jn_po_arr (t : FieldType) : ∀ v, jn_pok 2 v = true → narrow (.array t) v = v ∧ fits (.array t) v = true := by
  intro v h
  cases v <;> first | exact ⟨rfl, rfl⟩ | simp [jn_pok] at h

def jn_getf (ci k : Nat) (pc : Nat) (c : jn_C) : Option (Nat × jn_C) := match c.2.1 with
  | .ref a :: st => match jn_rd c.2.2 a with
    | some (.inr (cj, fs)) => if cj = ci then match fs[k]? with
      | some v => some (pc + 3, c.1, v :: st, c.2.2)
      | none => none
      else none
    | _ => none
  | _ => none
theorem jn_getf_ok {mi : jn_MI} {pc : Nat} {ci k i N : Nat} {C : String} {T : u_T} (hd : decode mi.2.1 pc = .ok (.getfield i, 3)) (hc0 : vwCl[ci]? = some (C, T, N)) (hk : k < N) (hin : ∀ w ∈ u_ws C T N, w ∈ jn_tb) (hw : Cond.fieldLink mi.1 i (T k).1 (T k).2.1 (T k).2.2.1 ∈ jn_tb) : jn_G mi pc (jn_getf ci k) := by
  intro p l e R s m args below meth c Q D dA c0 s0 X hR ls st M pc' ls' st' M' h hB K arr H locs cells slots hl hM hc hs
  obtain ⟨hx, hb, hml, hts, hown, hnm, hK⟩ := X
  dsimp only [jn_getf] at h
  split at h
  · split at h
    · rename_i a rest _ cj fs hrd
      split at h
      · rename_i hcj
        subst hcj
        split at h
        · rename_i v hv
          cases h
          exact va_get (D := D) (cl := vwCl) hx hb hts hin hown hK hM.1 (a - M.2.1) (jn_rd_ws dA hrd) hc0 k hk (hts _ hw) (fun _ h9 => h9) hv hd (K arr H locs cells slots hl hM hc hs)
        · cases h
      · cases h
    · cases h
  · cases h
def jn_putf (ci k κ : Nat) (pc : Nat) (c : jn_C) : Option (Nat × jn_C) := match c.2.1 with
  | v :: .ref a :: st => match jn_rd c.2.2 a with
    | some (.inr (cj, fs)) => if cj = ci ∧ k < fs.length ∧ jn_pok κ v = true then some (pc + 3, c.1, st, jn_wr c.2.2 a (.inr (ci, fs.set k v))) else none
    | _ => none
  | _ => none
theorem jn_putf_ok {mi : jn_MI} {pc : Nat} {ci k κ i N : Nat} {C : String} {T : u_T} {ty0 : Nat → FieldType} {ty : FieldType} (hd : decode mi.2.1 pc = .ok (.putfield i, 3)) (hc0 : vwCl[ci]? = some (C, T, N)) (hk : k < N) (hin : ∀ w ∈ u_ws C T N, w ∈ jn_tb) (hw : Cond.fieldLink mi.1 i (T k).1 (T k).2.1 (T k).2.2.1 ∈ jn_tb) (hty : ∀ k, k < N → parseFieldDescriptor (T k).2.2.1 = some (ty0 k)) (hnme : ∀ a, a < N → ∀ b, b < N → a ≠ b → (T a).2.1 ≠ (T b).2.1) (hfin : (T k).2.2.2 = false) (hpd : parseFieldDescriptor (T k).2.2.1 = some ty) (hpo : ∀ v, jn_pok κ v = true → narrow ty v = v ∧ fits ty v = true) : jn_G mi pc (jn_putf ci k κ) := by
  intro p l e R s m args below meth c Q D dA c0 s0 X hR ls st M pc' ls' st' M' h hB K arr H locs cells slots hl hM hc hs
  obtain ⟨hx, hb, hml, hts, hown, hnm, hK⟩ := X
  dsimp only [jn_putf] at h
  split at h
  · split at h
    · rename_i v a rest _ cj fs hrd
      split at h
      · rename_i hcj
        obtain ⟨rfl, hlen, hpk⟩ := hcj
        cases h
        refine va_put (D := D) (cl := vwCl) hx hb hts hin ty0 hty hnme hown hK hM.1 (jn_Mem.D dA M) hM.2.1 (a - M.2.1) (jn_rd_ws dA hrd) hc0 k hk (hts _ hw) (fun _ h9 => h9) hfin hpd (hpo v hpk).1 (hpo v hpk).2 hlen hd (fun H1 locs1 hP1 hD1 hS1 => ?_)
        exact K arr H1 locs1 cells slots hl (hM.put (y := .inr (_, fs.set k v)) hrd hP1 hS1) (hc.trans jn_wr_len.symm) (hs.trans (jn_wr_sl hrd (by rfl)).symm)
      · cases h
    · cases h
  · cases h
def jn_putF (ci k κ : Nat) (pc : Nat) (c : jn_C) : Option (Nat × jn_C) := match c.2.1 with
  | v :: .ref a :: st => match jn_rd c.2.2 a with
    | some (.inr (cj, fs)) => if cj = ci ∧ k < fs.length ∧ jn_pok κ v = true then some (pc + 3, c.1, st, jn_wr c.2.2 a (.inr (ci, fs.set k v))) else none
    | _ => none
  | _ => none
theorem jn_putF_ok {mi : jn_MI} {pc : Nat} {ci k κ i N : Nat} {C : String} {T : u_T} {ty0 : Nat → FieldType} {ty : FieldType} (hd : decode mi.2.1 pc = .ok (.putfield i, 3)) (hc0 : vwCl[ci]? = some (C, T, N)) (hk : k < N) (hin : ∀ w ∈ u_ws C T N, w ∈ jn_tb) (hw : Cond.fieldLink mi.1 i (T k).1 (T k).2.1 (T k).2.2.1 ∈ jn_tb) (hty : ∀ k, k < N → parseFieldDescriptor (T k).2.2.1 = some (ty0 k)) (hnme : ∀ a, a < N → ∀ b, b < N → a ≠ b → (T a).2.1 ≠ (T b).2.1) (hfin : (T k).2.2.2 = true) (hpd : parseFieldDescriptor (T k).2.2.1 = some ty) (hpo : ∀ v, jn_pok κ v = true → narrow ty v = v ∧ fits ty v = true) (hin2 : mi.2.2.2 = "<init>") (hdc : (T k).1 = mi.1) : jn_G mi pc (jn_putF ci k κ) := by
  intro p l e R s m args below meth c Q D dA c0 s0 X hR ls st M pc' ls' st' M' h hB K arr H locs cells slots hl hM hc hs
  obtain ⟨hx, hb, hml, hts, hown, hnm, hK⟩ := X
  dsimp only [jn_putF] at h
  split at h
  · split at h
    · rename_i v a rest _ cj fs hrd
      split at h
      · rename_i hcj
        obtain ⟨rfl, hlen, hpk⟩ := hcj
        cases h
        refine va_putF (D := D) (cl := vwCl) hx hb hts hin ty0 hty hnme hown hK hM.1 (jn_Mem.D dA M) hM.2.1 (a - M.2.1) (jn_rd_ws dA hrd) hc0 k hk (hts _ hw) (fun _ h9 => h9) hfin ((hnm hin2).trans hin2) hdc hpd (hpo v hpk).1 (hpo v hpk).2 hlen hd (fun H1 locs1 hP1 hD1 hS1 => ?_)
        exact K arr H1 locs1 cells slots hl (hM.put (y := .inr (_, fs.set k v)) hrd hP1 hS1) (hc.trans jn_wr_len.symm) (hs.trans (jn_wr_sl hrd (by rfl)).symm)
      · cases h
    · cases h
  · cases h
def jn_laload (pc : Nat) (c : jn_C) : Option (Nat × jn_C) := match c.2.1 with
  | .int i :: .ref a :: st => match jn_rd c.2.2 a with
    | some (.inl (t, n, .inr (.inl f))) => if t = 1 ∧ ¬ (i < 0 ∨ n ≤ i.toNatClampNeg) then some (pc + 1, c.1, .long (f i.toNatClampNeg) :: st, c.2.2) else none
    | _ => none
  | _ => none
theorem jn_laload_ok {mi : jn_MI} {pc : Nat} (hd : decode mi.2.1 pc = .ok (.laload, 1)) : jn_G mi pc (jn_laload) := by
  intro p l e R s m args below meth c Q D dA c0 s0 X hR ls st M pc' ls' st' M' h hB K arr H locs cells slots hl hM hc hs
  obtain ⟨hx, hb, hml, hts, hown, hnm, hK⟩ := X
  dsimp only [jn_laload] at h
  split at h
  · split at h
    · rename_i i a rest _ t n f hrd
      split at h
      · rename_i ht
        obtain ⟨rfl, hin⟩ := ht
        cases h
        exact va_lald (D := D) (cl := vwCl) hx hb hK hM.1 (a - M.2.1) 1 (jn_rd_ws dA hrd) rfl hin hd (K arr H locs cells slots hl hM hc hs)
      · cases h
    · cases h
  · cases h
def jn_zaload (pc : Nat) (c : jn_C) : Option (Nat × jn_C) := match c.2.1 with
  | .int i :: .ref a :: st => match jn_rd c.2.2 a with
    | some (.inl (t, n, .inl f)) => if t = 2 ∧ ¬ (i < 0 ∨ n ≤ i.toNatClampNeg) then some (pc + 1, c.1, .int (f i.toNatClampNeg) :: st, c.2.2) else none
    | _ => none
  | _ => none
theorem jn_zaload_ok {mi : jn_MI} {pc : Nat} (hd : decode mi.2.1 pc = .ok (.baload, 1)) : jn_G mi pc (jn_zaload) := by
  intro p l e R s m args below meth c Q D dA c0 s0 X hR ls st M pc' ls' st' M' h hB K arr H locs cells slots hl hM hc hs
  obtain ⟨hx, hb, hml, hts, hown, hnm, hK⟩ := X
  dsimp only [jn_zaload] at h
  split at h
  · split at h
    · rename_i i a rest _ t n f hrd
      split at h
      · rename_i ht
        obtain ⟨rfl, hin⟩ := ht
        cases h
        exact va_zald (D := D) (cl := vwCl) hx hb hK hM.1 (a - M.2.1) 2 (jn_rd_ws dA hrd) rfl hin hd (K arr H locs cells slots hl hM hc hs)
      · cases h
    · cases h
  · cases h
def jn_iaload (pc : Nat) (c : jn_C) : Option (Nat × jn_C) := match c.2.1 with
  | .int i :: .ref a :: st => if a = c.2.2.1.1 then (if ¬ (i < 0 ∨ c.2.2.1.2.1 ≤ i.toNatClampNeg) then some (pc + 1, c.1, .int (c.2.2.1.2.2 i.toNatClampNeg) :: st, c.2.2) else none) else match jn_rd c.2.2 a with
    | some (.inl (t, n, .inl f)) => if t = 0 ∧ ¬ (i < 0 ∨ n ≤ i.toNatClampNeg) then some (pc + 1, c.1, .int (f i.toNatClampNeg) :: st, c.2.2) else none
    | _ => none
  | _ => none
theorem jn_iaload_ok {mi : jn_MI} {pc : Nat} (hd : decode mi.2.1 pc = .ok (.iaload, 1)) : jn_G mi pc (jn_iaload) := by
  intro p l e R s m args below meth c Q D dA c0 s0 X hR ls st M pc' ls' st' M' h hB K arr H locs cells slots hl hM hc hs
  obtain ⟨hx, hb, hml, hts, hown, hnm, hK⟩ := X
  dsimp only [jn_iaload] at h
  split at h
  · split at h
    · rename_i hsc
      subst hsc
      split at h
      · rename_i hin
        cases h
        exact va_sld hx hb hM.2.2.1 (by have h5 := hM.2.2.2.2; have h4 := hM.2.2.2.1; omega) (by have h4 := hM.2.2.2.1; show ¬ M.2.1 ≤ M.1.1; omega) hM.2.1 hin hd (K arr H locs cells slots hl hM hc hs)
      · cases h
    · split at h
      · rename_i i a rest hsc _ t n f hrd
        split at h
        · rename_i ht
          obtain ⟨rfl, hin⟩ := ht
          cases h
          exact va_iald (D := D) (cl := vwCl) hx hb hK hM.1 (a - M.2.1) 0 (jn_rd_ws dA hrd) rfl hin hd (K arr H locs cells slots hl hM hc hs)
        · cases h
      · cases h
  · cases h
def jn_slen (pc : Nat) (c : jn_C) : Option (Nat × jn_C) := match c.2.1 with
  | .ref a :: st => if a = c.2.2.1.1 then some (pc + 1, c.1, .int (Int32.ofNat c.2.2.1.2.1) :: st, c.2.2) else none
  | _ => none
theorem jn_slen_ok {mi : jn_MI} {pc : Nat} (hd : decode mi.2.1 pc = .ok (.arraylength, 1)) : jn_G mi pc (jn_slen) := by
  intro p l e R s m args below meth c Q D dA c0 s0 X hR ls st M pc' ls' st' M' h hB K arr H locs cells slots hl hM hc hs
  obtain ⟨hx, hb, hml, hts, hown, hnm, hK⟩ := X
  dsimp only [jn_slen] at h
  split at h
  · split at h
    · rename_i hsc
      subst hsc
      cases h
      exact va_slen hx hb hM.2.2.1 (by have h5 := hM.2.2.2.2; have h4 := hM.2.2.2.1; omega) (by have h4 := hM.2.2.2.1; show ¬ M.2.1 ≤ M.1.1; omega) hM.2.1 hd (K arr H locs cells slots hl hM hc hs)
    · cases h
  · cases h
def jn_aaload (pc : Nat) (c : jn_C) : Option (Nat × jn_C) := match c.2.1 with
  | .int i :: .ref a :: st => match jn_rd c.2.2 a with
    | some (.inl (t, n, .inr (.inr (.inr (.inr f))))) => if (t = 3 ∨ t = 4) ∧ ¬ (i < 0 ∨ n ≤ i.toNatClampNeg) then some (pc + 1, c.1, va_rf (f i.toNatClampNeg) :: st, c.2.2) else none
    | _ => none
  | _ => none
theorem jn_aaload_ok {mi : jn_MI} {pc : Nat} (hd : decode mi.2.1 pc = .ok (.aaload, 1)) : jn_G mi pc (jn_aaload) := by
  intro p l e R s m args below meth c Q D dA c0 s0 X hR ls st M pc' ls' st' M' h hB K arr H locs cells slots hl hM hc hs
  obtain ⟨hx, hb, hml, hts, hown, hnm, hK⟩ := X
  dsimp only [jn_aaload] at h
  split at h
  · split at h
    · rename_i i a rest _ t n f hrd
      split at h
      · rename_i ht
        obtain ⟨ht, hin⟩ := ht
        cases h
        rcases ht with rfl | rfl
        · exact va_aldq (D := D) (cl := vwCl) hx hb hK hM.1 (a - M.2.1) 3 (jn_rd_ws dA hrd) rfl hin hd (K arr H locs cells slots hl hM hc hs)
        · exact va_aldq (D := D) (cl := vwCl) hx hb hK hM.1 (a - M.2.1) 4 (jn_rd_ws dA hrd) rfl hin hd (K arr H locs cells slots hl hM hc hs)
      · cases h
    · cases h
  · cases h
def jn_aastore (pc : Nat) (c : jn_C) : Option (Nat × jn_C) := match c.2.1 with
  | .ref v :: .int i :: .ref a :: st => match jn_rd c.2.2 a with
    | some (.inl (t, n, .inr (.inr (.inr (.inr f))))) => match jn_rd c.2.2 v with
      | some (.inr (cj, fs)) => if ((t = 3 ∧ cj = 2) ∨ (t = 4 ∧ cj = 0)) ∧ ¬ (i < 0 ∨ n ≤ i.toNatClampNeg) then some (pc + 1, c.1, st, jn_wr c.2.2 a (.inl (t, n, .inr (.inr (.inr (.inr (va_up f i.toNatClampNeg (some v)))))))) else none
      | _ => none
    | _ => none
  | _ => none
theorem jn_aastore_ok {mi : jn_MI} {pc : Nat} (hd : decode mi.2.1 pc = .ok (.aastore, 1)) : jn_G mi pc (jn_aastore) := by
  intro p l e R s m args below meth c Q D dA c0 s0 X hR ls st M pc' ls' st' M' h hB K arr H locs cells slots hl hM hc hs
  obtain ⟨hx, hb, hml, hts, hown, hnm, hK⟩ := X
  dsimp only [jn_aastore] at h
  split at h
  · split at h
    · split at h
      · rename_i v i a rest _ t n f hrd _ cj fs hrv
        split at h
        · rename_i ht
          obtain ⟨ht, hin⟩ := ht
          cases h
          rcases ht with ⟨rfl, rfl⟩ | ⟨rfl, rfl⟩
          · refine va_astq (D := D) (cl := vwCl) (r := (RX2, TX2, 3)) hx hb hK hM.1 (jn_Mem.D dA M) hM.2.1 (a - M.2.1) 3 (v - M.2.1) 2 (jn_rd_ws dA hrd) rfl (jn_rd_ws dA hrv) rfl hin hd (fun H1 locs1 hP1 hD1 hS1 => ?_)
            exact K arr H1 locs1 cells slots hl (hM.put hrd hP1 hS1) (hc.trans jn_wr_len.symm) (hs.trans (jn_wr_sl hrd (by rfl)).symm)
          · refine va_astq (D := D) (cl := vwCl) (r := (RX0, TX0, 2)) hx hb hK hM.1 (jn_Mem.D dA M) hM.2.1 (a - M.2.1) 4 (v - M.2.1) 0 (jn_rd_ws dA hrd) rfl (jn_rd_ws dA hrv) rfl hin hd (fun H1 locs1 hP1 hD1 hS1 => ?_)
            exact K arr H1 locs1 cells slots hl (hM.put hrd hP1 hS1) (hc.trans jn_wr_len.symm) (hs.trans (jn_wr_sl hrd (by rfl)).symm)
        · cases h
      · cases h
    · cases h
  · cases h
def jn_iastore (pc : Nat) (c : jn_C) : Option (Nat × jn_C) := match c.2.1 with
  | .int x :: .int i :: .ref a :: st => match jn_rd c.2.2 a with
    | some (.inl (t, n, .inl f)) => if t = 0 ∧ ¬ (i < 0 ∨ n ≤ i.toNatClampNeg) then some (pc + 1, c.1, st, jn_wr c.2.2 a (.inl (t, n, .inl (upd f i.toNatClampNeg x)))) else none
    | _ => none
  | _ => none
theorem jn_iastore_ok {mi : jn_MI} {pc : Nat} (hd : decode mi.2.1 pc = .ok (.iastore, 1)) : jn_G mi pc (jn_iastore) := by
  intro p l e R s m args below meth c Q D dA c0 s0 X hR ls st M pc' ls' st' M' h hB K arr H locs cells slots hl hM hc hs
  obtain ⟨hx, hb, hml, hts, hown, hnm, hK⟩ := X
  dsimp only [jn_iastore] at h
  split at h
  · split at h
    · rename_i x i a rest _ t n f hrd
      split at h
      · rename_i ht
        obtain ⟨rfl, hin⟩ := ht
        cases h
        refine va_iast (D := D) (cl := vwCl) hx hb hK hM.1 (jn_Mem.D dA M) hM.2.1 (a - M.2.1) 0 (jn_rd_ws dA hrd) rfl hin hd (fun H1 locs1 hP1 hD1 hS1 => ?_)
        exact K arr H1 locs1 cells slots hl (hM.put hrd hP1 hS1) (hc.trans jn_wr_len.symm) (hs.trans (jn_wr_sl hrd (by rfl)).symm)
      · cases h
    · cases h
  · cases h
def jn_lastore (pc : Nat) (c : jn_C) : Option (Nat × jn_C) := match c.2.1 with
  | .long x :: .int i :: .ref a :: st => match jn_rd c.2.2 a with
    | some (.inl (t, n, .inr (.inl f))) => if t = 1 ∧ ¬ (i < 0 ∨ n ≤ i.toNatClampNeg) then some (pc + 1, c.1, st, jn_wr c.2.2 a (.inl (t, n, .inr (.inl (vp_updL f i.toNatClampNeg x))))) else none
    | _ => none
  | _ => none
theorem jn_lastore_ok {mi : jn_MI} {pc : Nat} (hd : decode mi.2.1 pc = .ok (.lastore, 1)) : jn_G mi pc (jn_lastore) := by
  intro p l e R s m args below meth c Q D dA c0 s0 X hR ls st M pc' ls' st' M' h hB K arr H locs cells slots hl hM hc hs
  obtain ⟨hx, hb, hml, hts, hown, hnm, hK⟩ := X
  dsimp only [jn_lastore] at h
  split at h
  · split at h
    · rename_i x i a rest _ t n f hrd
      split at h
      · rename_i ht
        obtain ⟨rfl, hin⟩ := ht
        cases h
        refine va_last (D := D) (cl := vwCl) hx hb hK hM.1 (jn_Mem.D dA M) hM.2.1 (a - M.2.1) 1 (jn_rd_ws dA hrd) rfl hin hd (fun H1 locs1 hP1 hD1 hS1 => ?_)
        exact K arr H1 locs1 cells slots hl (hM.put hrd hP1 hS1) (hc.trans jn_wr_len.symm) (hs.trans (jn_wr_sl hrd (by rfl)).symm)
      · cases h
    · cases h
  · cases h
def jn_zastore (pc : Nat) (c : jn_C) : Option (Nat × jn_C) := match c.2.1 with
  | .int x :: .int i :: .ref a :: st => match jn_rd c.2.2 a with
    | some (.inl (t, n, .inl f)) => if t = 2 ∧ ¬ (i < 0 ∨ n ≤ i.toNatClampNeg) then some (pc + 1, c.1, st, jn_wr c.2.2 a (.inl (t, n, .inl (upd f i.toNatClampNeg (vp_nar .boolean x))))) else none
    | _ => none
  | _ => none
theorem jn_zastore_ok {mi : jn_MI} {pc : Nat} (hd : decode mi.2.1 pc = .ok (.bastore, 1)) : jn_G mi pc (jn_zastore) := by
  intro p l e R s m args below meth c Q D dA c0 s0 X hR ls st M pc' ls' st' M' h hB K arr H locs cells slots hl hM hc hs
  obtain ⟨hx, hb, hml, hts, hown, hnm, hK⟩ := X
  dsimp only [jn_zastore] at h
  split at h
  · split at h
    · rename_i x i a rest _ t n f hrd
      split at h
      · rename_i ht
        obtain ⟨rfl, hin⟩ := ht
        cases h
        refine va_zast (D := D) (cl := vwCl) hx hb hK hM.1 (jn_Mem.D dA M) hM.2.1 (a - M.2.1) 2 (jn_rd_ws dA hrd) rfl hin hd (fun H1 locs1 hP1 hD1 hS1 => ?_)
        exact K arr H1 locs1 cells slots hl (hM.put hrd hP1 hS1) (hc.trans jn_wr_len.symm) (hs.trans (jn_wr_sl hrd (by rfl)).symm)
      · cases h
    · cases h
  · cases h
def jn_new (ci N : Nat) (fs : List Value) (pc : Nat) (c : jn_C) : Option (Nat × jn_C) := some (pc + 3, c.1, .ref (jn_nx c.2.2) :: c.2.1, jn_ad c.2.2 (.inr (ci, fs)))
theorem jn_new_ok {mi : jn_MI} {pc : Nat} {ci i N : Nat} {fs : List Value} {C : String} {T : u_T} {ty0 : Nat → FieldType} (hd : decode mi.2.1 pc = .ok (.new i, 3)) (hc0 : vwCl[ci]? = some (C, T, N)) (hin : ∀ w ∈ u_ws C T N, w ∈ jn_tb) (hty : ∀ k, k < N → parseFieldDescriptor (T k).2.2.1 = some (ty0 k)) (hw : Cond.classLink mi.1 i C ∈ jn_tb) (hw2 : Cond.instantiable C N ∈ jn_tb) (hw3 : Cond.initialized C ∈ jn_tb) (hfs : ∀ j, j < N → defaultValue (ty0 j) = vp_V fs j) : jn_G mi pc (jn_new ci N fs) := by
  intro p l e R s m args below meth c Q D dA c0 s0 X hR ls st M pc' ls' st' M' h hB K arr H locs cells slots hl hM hc hs
  obtain ⟨hx, hb, hml, hts, hown, hnm, hK⟩ := X
  dsimp only [jn_new] at h
  cases h
  refine jn_size (fun hz => ?_)
  have hzz := hM.size hc hz
  have hKn := hK.1 ci _ hc0
  have hN : jn_sz jn_N (.inr (ci, fs)) = N := by simp [jn_sz, jn_N, hc0]
  have hB1 := hB.1
  have hB2 := hB.2
  simp only [jn_ad, List.length_append, List.length_singleton] at hB1
  simp only [jn_ad, jn_sl_app, hN] at hB2
  refine W.newcK hx hb hown (hts _ hw) (hts _ hw2) (hts _ hw3) rfl hd (by omega) (by omega) hKn.2.1 hzz fun H1 kC hkC e1 z1 o1 => ?_
  refine K arr H1 locs (cells + 1) (slots + N) hl (hM.push hzz (by omega) (fun q hq => o1 q (by omega)) ?_) (by simp [jn_ad]; omega) (by simp [jn_ad, jn_sl_app, hN]; omega)
  exact ⟨_, hc0, (u_born ty0 hts hin hKn hkC e1 hty).to hfs⟩
def jn_newI (pc : Nat) (c : jn_C) : Option (Nat × jn_C) := match c.2.1 with
  | .int n :: st => if n < 0 ∨ 1000 < n.toNatClampNeg then none else some (pc + 2, c.1, .ref (jn_nx c.2.2) :: st, jn_ad c.2.2 (.inl (0, n.toNatClampNeg, .inl (fun _ => 0))))
  | _ => none
theorem jn_newI_ok {mi : jn_MI} {pc : Nat} (hd : decode mi.2.1 pc = .ok (.newarray .int, 2)) (hw : Cond.arrayClass .int ∈ jn_tb) : jn_G mi pc (jn_newI) := by
  intro p l e R s m args below meth c Q D dA c0 s0 X hR ls st M pc' ls' st' M' h hB K arr H locs cells slots hl hM hc hs
  obtain ⟨hx, hb, hml, hts, hown, hnm, hK⟩ := X
  dsimp only [jn_newI] at h
  split at h
  · split at h
    · cases h
    · rename_i n rest hn
      cases h
      refine jn_size (fun hz => ?_)
      have hzz := hM.size hc hz
      have hB1 := hB.1
      have hB2 := hB.2
      simp only [jn_ad, List.length_append, List.length_singleton] at hB1
      simp only [jn_ad, jn_sl_app, jn_sz] at hB2
      have hn1 : ¬ n < 0 := fun q => hn (Or.inl q)
      have hn2 : n.toNatClampNeg ≤ 1000 := by
        rcases Nat.lt_or_ge 1000 n.toNatClampNeg with q | q
        · exact absurd (Or.inr q) hn
        · exact q
      refine va_newaK (atype := .int) hx hb (hts _ hw) rfl hd rfl hn1 rfl (by show n.toNatClampNeg * 4 ≤ 536870912; omega) (by omega) (by omega) hzz fun H1 cA e1 z1 o1 hAr hNm => ?_
      have hcA : cA = dA 0 := Option.some.inj (hNm.symm.trans (hK.2 0 (dA 0, .int) rfl).2)
      subst hcA
      refine K arr H1 locs (cells + 1) (slots + n.toNatClampNeg) hl (hM.push hzz (by omega) (fun q hq => o1 q (by omega)) e1) (by simp [jn_ad]; omega) (by simp [jn_ad, jn_sl_app, jn_sz]; omega)
  · cases h
def jn_newL (pc : Nat) (c : jn_C) : Option (Nat × jn_C) := match c.2.1 with
  | .int n :: st => if n < 0 ∨ 1000 < n.toNatClampNeg then none else some (pc + 2, c.1, .ref (jn_nx c.2.2) :: st, jn_ad c.2.2 (.inl (1, n.toNatClampNeg, .inr (.inl (fun _ => 0)))))
  | _ => none
theorem jn_newL_ok {mi : jn_MI} {pc : Nat} (hd : decode mi.2.1 pc = .ok (.newarray .long, 2)) (hw : Cond.arrayClass .long ∈ jn_tb) : jn_G mi pc (jn_newL) := by
  intro p l e R s m args below meth c Q D dA c0 s0 X hR ls st M pc' ls' st' M' h hB K arr H locs cells slots hl hM hc hs
  obtain ⟨hx, hb, hml, hts, hown, hnm, hK⟩ := X
  dsimp only [jn_newL] at h
  split at h
  · split at h
    · cases h
    · rename_i n rest hn
      cases h
      refine jn_size (fun hz => ?_)
      have hzz := hM.size hc hz
      have hB1 := hB.1
      have hB2 := hB.2
      simp only [jn_ad, List.length_append, List.length_singleton] at hB1
      simp only [jn_ad, jn_sl_app, jn_sz] at hB2
      have hn1 : ¬ n < 0 := fun q => hn (Or.inl q)
      have hn2 : n.toNatClampNeg ≤ 1000 := by
        rcases Nat.lt_or_ge 1000 n.toNatClampNeg with q | q
        · exact absurd (Or.inr q) hn
        · exact q
      refine va_newaK (atype := .long) hx hb (hts _ hw) rfl hd rfl hn1 rfl (by show n.toNatClampNeg * 8 ≤ 536870912; omega) (by omega) (by omega) hzz fun H1 cA e1 z1 o1 hAr hNm => ?_
      have hcA : cA = dA 1 := Option.some.inj (hNm.symm.trans (hK.2 1 (dA 1, .long) rfl).2)
      subst hcA
      refine K arr H1 locs (cells + 1) (slots + n.toNatClampNeg) hl (hM.push hzz (by omega) (fun q hq => o1 q (by omega)) e1) (by simp [jn_ad]; omega) (by simp [jn_ad, jn_sl_app, jn_sz]; omega)
  · cases h
def jn_newZ (pc : Nat) (c : jn_C) : Option (Nat × jn_C) := match c.2.1 with
  | .int n :: st => if n < 0 ∨ 1000 < n.toNatClampNeg then none else some (pc + 2, c.1, .ref (jn_nx c.2.2) :: st, jn_ad c.2.2 (.inl (2, n.toNatClampNeg, .inl (fun _ => 0))))
  | _ => none
theorem jn_newZ_ok {mi : jn_MI} {pc : Nat} (hd : decode mi.2.1 pc = .ok (.newarray .boolean, 2)) (hw : Cond.arrayClass .boolean ∈ jn_tb) : jn_G mi pc (jn_newZ) := by
  intro p l e R s m args below meth c Q D dA c0 s0 X hR ls st M pc' ls' st' M' h hB K arr H locs cells slots hl hM hc hs
  obtain ⟨hx, hb, hml, hts, hown, hnm, hK⟩ := X
  dsimp only [jn_newZ] at h
  split at h
  · split at h
    · cases h
    · rename_i n rest hn
      cases h
      refine jn_size (fun hz => ?_)
      have hzz := hM.size hc hz
      have hB1 := hB.1
      have hB2 := hB.2
      simp only [jn_ad, List.length_append, List.length_singleton] at hB1
      simp only [jn_ad, jn_sl_app, jn_sz] at hB2
      have hn1 : ¬ n < 0 := fun q => hn (Or.inl q)
      have hn2 : n.toNatClampNeg ≤ 1000 := by
        rcases Nat.lt_or_ge 1000 n.toNatClampNeg with q | q
        · exact absurd (Or.inr q) hn
        · exact q
      refine va_newaK (atype := .boolean) hx hb (hts _ hw) rfl hd rfl hn1 rfl (by show n.toNatClampNeg * 1 ≤ 536870912; omega) (by omega) (by omega) hzz fun H1 cA e1 z1 o1 hAr hNm => ?_
      have hcA : cA = dA 2 := Option.some.inj (hNm.symm.trans (hK.2 2 (dA 2, .boolean) rfl).2)
      subst hcA
      refine K arr H1 locs (cells + 1) (slots + n.toNatClampNeg) hl (hM.push hzz (by omega) (fun q hq => o1 q (by omega)) e1) (by simp [jn_ad]; omega) (by simp [jn_ad, jn_sl_app, jn_sz]; omega)
  · cases h
def jn_newA (t : Nat) (pc : Nat) (c : jn_C) : Option (Nat × jn_C) := match c.2.1 with
  | .int n :: st => if n < 0 ∨ 1000 < n.toNatClampNeg then none else some (pc + 3, c.1, .ref (jn_nx c.2.2) :: st, jn_ad c.2.2 (.inl (t, n.toNatClampNeg, .inr (.inr (.inr (.inr (fun _ => none)))))))
  | _ => none
theorem jn_newA_ok {mi : jn_MI} {pc : Nat} {t i : Nat} {C : String} (hd : decode mi.2.1 pc = .ok (.anewarray i, 3)) (ht : ∀ dA : Nat → ClassId, (jn_tys dA)[t]? = some (dA t, .object C)) (hw : Cond.classLink mi.1 i C ∈ jn_tb) (hw2 : Cond.arrayOver (.object C) ∈ jn_tb) : jn_G mi pc (jn_newA t) := by
  intro p l e R s m args below meth c Q D dA c0 s0 X hR ls st M pc' ls' st' M' h hB K arr H locs cells slots hl hM hc hs
  obtain ⟨hx, hb, hml, hts, hown, hnm, hK⟩ := X
  dsimp only [jn_newA] at h
  split at h
  · split at h
    · cases h
    · rename_i n rest hn
      cases h
      refine jn_size (fun hz => ?_)
      have hzz := hM.size hc hz
      have hB1 := hB.1
      have hB2 := hB.2
      simp only [jn_ad, List.length_append, List.length_singleton] at hB1
      simp only [jn_ad, jn_sl_app, jn_sz] at hB2
      have hn1 : ¬ n < 0 := fun q => hn (Or.inl q)
      have hn2 : n.toNatClampNeg ≤ 1000 := by
        rcases Nat.lt_or_ge 1000 n.toNatClampNeg with q | q
        · exact absurd (Or.inr q) hn
        · exact q
      refine W.anew hx hb hown (hts _ hw) (hts _ hw2) rfl hd rfl hn1 (by omega) (by omega) (by omega) fun cA kA comp f1 f2 f3 f4 => ?_
      obtain ⟨kA2, comp2, -, -, -, g4⟩ := (hK.2 t (dA t, .object C) (ht dA)).2
      have hcA : cA = dA t := Option.some.inj (f1.symm.trans g4)
      subst hcA
      have h4 : (F0 m (pc + 3) arr (Value.ref H.size :: rest)) = (F0 m (pc + 3) arr (Value.ref (jn_nx M) :: rest)) := by rw [hzz]
      refine W.eq h4 (K arr _ locs (cells + 1) (slots + n.toNatClampNeg) hl (hM.push hzz (Array.size_push ..) (fun q hq => by rw [Array.getElem?_push, if_neg (Nat.ne_of_lt hq)]) ?_) (by simp [jn_ad]; omega) (by simp [jn_ad, jn_sl_app, jn_sz]; omega))
      show (H.push _)[jn_nx M]? = some (vp_cell _ _)
      rw [← hzz, Array.getElem?_push_size, show vp_cell (dA t) (n.toNatClampNeg, .inr (.inr (.inr (.inr (fun _ => none))))) = arrV (dA t) n.toNatClampNeg (fun _ => .null) from rfl, ← arrV_new]
  · cases h
def jn_oinit (pc : Nat) (c : jn_C) : Option (Nat × jn_C) := match c.2.1 with
  | .ref _ :: st => if (st.map fun v => v.category).sum ≤ 8 then some (pc + 3, c.1, st, c.2.2) else none
  | _ => none
theorem jn_oinit_ok {mi : jn_MI} {pc : Nat} {i : Nat} (hd : decode mi.2.1 pc = .ok (.invokespecial i, 3)) (hw : Cond.methodLink mi.1 i Lib.objectInit ∈ jn_tb) (hw2 : Cond.instanceMethod Lib.objectInit ∈ jn_tb) (hw3 : Cond.code Lib.objectInit ⟨#[0xb1]⟩ 1 none ∈ jn_tb) : jn_G mi pc (jn_oinit) := by
  intro p l e R s m args below meth c Q D dA c0 s0 X hR ls st M pc' ls' st' M' h hB K arr H locs cells slots hl hM hc hs
  obtain ⟨hx, hb, hml, hts, hown, hnm, hK⟩ := X
  dsimp only [jn_oinit] at h
  split at h
  · split at h
    · rename_i a rest hr
      cases h
      refine W.objInit hx hb hown (hts _ hw) (hts _ hw2) (hts _ hw3) rfl (by rw [hml]; exact hl.2.1) rfl hd hR.1 (Nat.le_trans (Nat.add_le_add_right (lv_room hr) 12) (Nat.le_trans (by decide) hR.2)) ?_
      exact K arr H locs cells slots hl hM hc hs
    · cases h
  · cases h
def jn_acopy (pc : Nat) (c : jn_C) : Option (Nat × jn_C) := match c.2.1 with
  | .int n :: .int dp :: .ref a :: .int sp :: .ref a0 :: st => match jn_rd c.2.2 a0 with
    | some (.inl (t0, n0, .inl f)) => match jn_rd c.2.2 a with
      | some (.inl (t1, n1, .inl g)) => if t0 = 0 ∧ t1 = 0 ∧ ¬ sp < 0 ∧ ¬ dp < 0 ∧ ¬ n < 0 ∧ sp.toNatClampNeg + n.toNatClampNeg ≤ n0 ∧ dp.toNatClampNeg + n.toNatClampNeg ≤ n1 ∧ (st.map fun v => v.category).sum ≤ 8 then some (pc + 3, c.1, st, jn_wr c.2.2 a (.inl (t1, n1, .inl (va_cpy f g sp.toNatClampNeg dp.toNatClampNeg n.toNatClampNeg)))) else none
      | _ => none
    | _ => none
  | _ => none
theorem jn_acopy_ok {mi : jn_MI} {pc : Nat} {i : Nat} (hd : decode mi.2.1 pc = .ok (.invokestatic i, 3)) (hw : Cond.methodLink mi.1 i arraycopyName ∈ jn_tb) (hw2 : Cond.native arraycopyName ∈ jn_tb) (hw3 : Cond.static arraycopyName ∈ jn_tb) (hw4 : Cond.initialized "java/lang/System" ∈ jn_tb) : jn_G mi pc (jn_acopy) := by
  intro p l e R s m args below meth c Q D dA c0 s0 X hR ls st M pc' ls' st' M' h hB K arr H locs cells slots hl hM hc hs
  obtain ⟨hx, hb, hml, hts, hown, hnm, hK⟩ := X
  dsimp only [jn_acopy] at h
  split at h
  · split at h
    · split at h
      · rename_i n dp a sp a0 rest _ t0 n0 f hr0 _ t1 n1 g hr1
        split at h
        · rename_i hq
          obtain ⟨rfl, rfl, h1, h2, h3, h4, h5, h6⟩ := hq
          cases h
          have h9 : nativeFrameWords "java/lang/System" "arraycopy" 5 + 11 ≤ 34 := by decide +kernel
          have h8 := hR.2
          have h99 : (st'.map fun v => v.category).sum + (nativeFrameWords "java/lang/System" "arraycopy" 5 + 11) ≤ R.locals := by omega
          refine va_copyi (D := D) (cl := vwCl) (ty := .int) hx hb (by rw [hml]; exact hl.2.1.symm) hown (hts _ hw) (hts _ hw2) (hts _ hw3) (hts _ hw4) hK hM.1 (jn_Mem.D dA M) hM.2.1 (a0 - M.2.1) (a - M.2.1) 0 0 (jn_rd_ws dA hr0) (jn_rd_ws dA hr1) rfl rfl rfl h1 h2 h3 h4 h5 (fun i _ => rfl) hR.1 h99 hd (fun H1 locs1 hP1 hD1 hS1 => ?_)
          exact K arr H1 locs1 cells slots hl (hM.put hr1 hP1 hS1) (hc.trans jn_wr_len.symm) (hs.trans (jn_wr_sl hr1 (by rfl)).symm)
        · cases h
      · cases h
    · cases h
  · cases h
