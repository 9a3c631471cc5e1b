/-! The steps of the small machine, and that each is the machine's. -/
/-- the tables' words, but those that say that a method is private -/
def jn_np : Jvm.Cond → Bool
  | .privateMethod _ => false
  | _ => true
def jn_tb : List Jvm.Cond := lw_tbl.filter jn_np
theorem jn_in {w : Jvm.Cond} (i : Nat) (h : lw_tbl[i]? = some w) (hp : jn_np w = true) : w ∈ jn_tb := List.mem_filter.mpr ⟨List.mem_of_getElem? h, hp⟩
def jn_N : Nat → Nat := fun ci => match vwCl[ci]? with
  | some q => q.2.2
  | none => 0
def jn_tys (dA : Nat → ClassId) : List (ClassId × FieldType) := [(dA 0, .int), (dA 1, .long), (dA 2, .boolean), (dA 3, .object "DebtNet$Net"), (dA 4, .object "DebtNet$Book")]
def jn_Mem (D : va_G) (dA : Nat → ClassId) (s : State) (c0 : Nat) (M : jn_M) (H : Heap) (locs : List Loc) : Prop :=
  va_P D vwCl (jn_ws dA M.2.1 M.2.2) H ∧ va_S (fun q => M.2.1 ≤ q) s.heap H locs ∧ va_X M.1.1 M.1.2.1 M.1.2.2 s s.heap ∧ M.1.1 < M.2.1 ∧ s.heap.size = M.2.1 + c0
/-- a method: its class, its bytes, its locals, its name -/
abbrev jn_MI : Type := String × ByteArray × Nat × String
def jn_Ctx (mi : jn_MI) (p : Program) (s : State) (m : MethodId) (args : Array Value) (meth : Method) (c : Code) (D : va_G) (dA : Nat → ClassId) : Prop :=
  p.tables.exec = Jvm.exec ∧ c.code = mi.2.1 ∧ c.maxLocals = mi.2.2.1 ∧ (∀ w ∈ jn_tb, w.before args s = true) ∧ s.vm.findClass mi.1 = some m.cls ∧ (mi.2.2.2 = "<init>" → meth.name = mi.2.2.2) ∧ va_K D vwCl (jn_tys dA) s
/-- from every state of the machine that looks like this one of ours, it comes to Q -/
def jn_R (p : Program) (l : Launch) (e : Env) (R : Room) (s : State) (m : MethodId) (args : Array Value) (below : List Frame) (meth : Method) (c : Code) (Q : State → Prop) (D : va_G) (dA : Nat → ClassId) (c0 s0 nL pc : Nat) (ls : jn_Lo) (st : List Value) (M : jn_M) : Prop :=
  ∀ (arr : Array Slot) (H : Heap) (locs : List Loc) (cells slots : Nat), jn_lh arr nL ls → jn_Mem D dA s c0 M H locs → cells + c0 = M.2.2.length → slots + s0 = jn_sl jn_N M.2.2 → W p l e R s m args below meth c H locs cells slots Q (F0 m pc arr st)
def jn_G (mi : jn_MI) (pc : Nat) (f : Nat → jn_C → Option (Nat × jn_C)) : Prop :=
  ∀ (p : Program) (l : Launch) (e : Env) (R : Room) (s : State) (m : MethodId) (args : Array Value) (below : List Frame) (meth : Method) (c : Code) (Q : State → Prop) (D : va_G) (dA : Nat → ClassId) (c0 s0 : Nat), jn_Ctx mi p s m args meth c D dA → (1 ≤ R.frames ∧ 42 ≤ R.locals) →
  ∀ (ls : jn_Lo) (st : List Value) (M : jn_M) (pc' : Nat) (ls' : jn_Lo) (st' : List Value) (M' : jn_M), f pc (ls, st, M) = some (pc', ls', st', M') → (M'.2.2.length ≤ R.cells + c0 ∧ jn_sl jn_N M'.2.2 ≤ R.slots + s0) →
  jn_R p l e R s m args below meth c Q D dA c0 s0 mi.2.2.1 pc' ls' st' M' → jn_R p l e R s m args below meth c Q D dA c0 s0 mi.2.2.1 pc ls st M

def jn_iconst (n : Int) (pc : Nat) (c : jn_C) : Option (Nat × jn_C) := some (pc + 1, c.1, .int (Int32.ofInt n) :: c.2.1, c.2.2)
theorem jn_iconst_ok {mi : jn_MI} {pc : Nat} {n : Int} (hd : decode mi.2.1 pc = .ok (.iconst n, 1)) : jn_G mi pc (jn_iconst n) := by
  intro p l e R s m args below meth c Q D dA c0 s0 X hR ls st M pc' ls' st' M' h hB K arr H locs cells slots hl hM hc hs
  obtain ⟨hx, hb, hml, hts, hown, hnm, hK⟩ := X
  dsimp only [jn_iconst] at h
  cases h
  exact lv_iconst hx hb hd rfl (K arr H locs cells slots hl hM hc hs)
def jn_bipush (v : Int32) (pc : Nat) (c : jn_C) : Option (Nat × jn_C) := some (pc + 2, c.1, .int v :: c.2.1, c.2.2)
theorem jn_bipush_ok {mi : jn_MI} {pc : Nat} {n : Int} {v : Int32} (hd : decode mi.2.1 pc = .ok (.bipush n, 2)) (hv : (Int8.ofInt n).toInt32 = v) : jn_G mi pc (jn_bipush v) := by
  intro p l e R s m args below meth c Q D dA c0 s0 X hR ls st M pc' ls' st' M' h hB K arr H locs cells slots hl hM hc hs
  obtain ⟨hx, hb, hml, hts, hown, hnm, hK⟩ := X
  dsimp only [jn_bipush] at h
  cases h
  exact lv_bipush hx hb hd hv (K arr H locs cells slots hl hM hc hs)
def jn_sipush (v : Int32) (pc : Nat) (c : jn_C) : Option (Nat × jn_C) := some (pc + 3, c.1, .int v :: c.2.1, c.2.2)
theorem jn_sipush_ok {mi : jn_MI} {pc : Nat} {n : Int} {v : Int32} (hd : decode mi.2.1 pc = .ok (.sipush n, 3)) (hv : (Int16.ofInt n).toInt32 = v) : jn_G mi pc (jn_sipush v) := by
  intro p l e R s m args below meth c Q D dA c0 s0 X hR ls st M pc' ls' st' M' h hB K arr H locs cells slots hl hM hc hs
  obtain ⟨hx, hb, hml, hts, hown, hnm, hK⟩ := X
  dsimp only [jn_sipush] at h
  cases h
  exact lv_sipush hx hb hd hv (K arr H locs cells slots hl hM hc hs)
def jn_ldc (v : Int32) (pc : Nat) (c : jn_C) : Option (Nat × jn_C) := some (pc + 2, c.1, .int v :: c.2.1, c.2.2)
theorem jn_ldc_ok {mi : jn_MI} {pc : Nat} {i : Nat} {v : Int32} (hd : decode mi.2.1 pc = .ok (.ldc i, 2)) (hw : Cond.constant mi.1 i v ∈ jn_tb) : jn_G mi pc (jn_ldc v) := by
  intro p l e R s m args below meth c Q D dA c0 s0 X hR ls st M pc' ls' st' M' h hB K arr H locs cells slots hl hM hc hs
  obtain ⟨hx, hb, hml, hts, hown, hnm, hK⟩ := X
  dsimp only [jn_ldc] at h
  cases h
  exact lv_ldc hx hb hown (hts _ hw) hd (K arr H locs cells slots hl hM hc hs)
def jn_ldcw (v : Int32) (pc : Nat) (c : jn_C) : Option (Nat × jn_C) := some (pc + 3, c.1, .int v :: c.2.1, c.2.2)
theorem jn_ldcw_ok {mi : jn_MI} {pc : Nat} {i : Nat} {v : Int32} (hd : decode mi.2.1 pc = .ok (.ldc_w i, 3)) (hw : Cond.constant mi.1 i v ∈ jn_tb) : jn_G mi pc (jn_ldcw v) := by
  intro p l e R s m args below meth c Q D dA c0 s0 X hR ls st M pc' ls' st' M' h hB K arr H locs cells slots hl hM hc hs
  obtain ⟨hx, hb, hml, hts, hown, hnm, hK⟩ := X
  dsimp only [jn_ldcw] at h
  cases h
  exact lv_ldcw hx hb hown (hts _ hw) hd (K arr H locs cells slots hl hM hc hs)
def jn_ldc2 (v : Int64) (pc : Nat) (c : jn_C) : Option (Nat × jn_C) := some (pc + 3, c.1, .long v :: c.2.1, c.2.2)
theorem jn_ldc2_ok {mi : jn_MI} {pc : Nat} {i : Nat} {v : Int64} (hd : decode mi.2.1 pc = .ok (.ldc2_w i, 3)) (hw : Cond.constantLong mi.1 i v ∈ jn_tb) : jn_G mi pc (jn_ldc2 v) := by
  intro p l e R s m args below meth c Q D dA c0 s0 X hR ls st M pc' ls' st' M' h hB K arr H locs cells slots hl hM hc hs
  obtain ⟨hx, hb, hml, hts, hown, hnm, hK⟩ := X
  dsimp only [jn_ldc2] at h
  cases h
  exact lv_ldc2 hx hb hown (hts _ hw) hd (K arr H locs cells slots hl hM hc hs)
def jn_lconst (v : Int64) (pc : Nat) (c : jn_C) : Option (Nat × jn_C) := some (pc + 1, c.1, .long v :: c.2.1, c.2.2)
theorem jn_lconst_ok {mi : jn_MI} {pc : Nat} {n : Fin 2} {v : Int64} (hd : decode mi.2.1 pc = .ok (.lconst n, 1)) (hv : Int64.ofNat (n : Nat) = v) : jn_G mi pc (jn_lconst v) := by
  intro p l e R s m args below meth c Q D dA c0 s0 X hR ls st M pc' ls' st' M' h hB K arr H locs cells slots hl hM hc hs
  obtain ⟨hx, hb, hml, hts, hown, hnm, hK⟩ := X
  dsimp only [jn_lconst] at h
  cases h
  exact lv_lconst hx hb hd hv (K arr H locs cells slots hl hM hc hs)
def jn_null (pc : Nat) (c : jn_C) : Option (Nat × jn_C) := some (pc + 1, c.1, .null :: c.2.1, c.2.2)
theorem jn_null_ok {mi : jn_MI} {pc : Nat} (hd : decode mi.2.1 pc = .ok (.aconst_null, 1)) : jn_G mi pc (jn_null) := by
  intro p l e R s m args below meth c Q D dA c0 s0 X hR ls st M pc' ls' st' M' h hB K arr H locs cells slots hl hM hc hs
  obtain ⟨hx, hb, hml, hts, hown, hnm, hK⟩ := X
  dsimp only [jn_null] at h
  cases h
  exact lv_null hx hb hd (K arr H locs cells slots hl hM hc hs)
def jn_iload_n (i : Nat) (pc : Nat) (c : jn_C) : Option (Nat × jn_C) := match c.1[i]? with
  | some (some (.int x)) => some (pc + 1, c.1, .int x :: c.2.1, c.2.2)
  | _ => none
theorem jn_iload_n_ok {mi : jn_MI} {pc : Nat} {i : Nat} {k : Fin 4} (hd : decode mi.2.1 pc = .ok (.iload_n k, 1)) (hi : (k : Nat) = i) : jn_G mi pc (jn_iload_n i) := by
  intro p l e R s m args below meth c Q D dA c0 s0 X hR ls st M pc' ls' st' M' h hB K arr H locs cells slots hl hM hc hs
  obtain ⟨hx, hb, hml, hts, hown, hnm, hK⟩ := X
  dsimp only [jn_iload_n] at h
  split at h
  · rename_i x hv
    cases h
    exact lv_iload_n hx hb hd hi (hl.at hv) (K arr H locs cells slots hl hM hc hs)
  · cases h
def jn_iload (i : Nat) (pc : Nat) (c : jn_C) : Option (Nat × jn_C) := match c.1[i]? with
  | some (some (.int x)) => some (pc + 2, c.1, .int x :: c.2.1, c.2.2)
  | _ => none
theorem jn_iload_ok {mi : jn_MI} {pc : Nat} {i : Nat} (hd : decode mi.2.1 pc = .ok (.iload i, 2)) : jn_G mi pc (jn_iload i) := by
  intro p l e R s m args below meth c Q D dA c0 s0 X hR ls st M pc' ls' st' M' h hB K arr H locs cells slots hl hM hc hs
  obtain ⟨hx, hb, hml, hts, hown, hnm, hK⟩ := X
  dsimp only [jn_iload] at h
  split at h
  · rename_i x hv
    cases h
    exact lv_iload hx hb hd (hl.at hv) (K arr H locs cells slots hl hM hc hs)
  · cases h
def jn_lload_n (i : Nat) (pc : Nat) (c : jn_C) : Option (Nat × jn_C) := match c.1[i]? with
  | some (some (.long x)) => some (pc + 1, c.1, .long x :: c.2.1, c.2.2)
  | _ => none
theorem jn_lload_n_ok {mi : jn_MI} {pc : Nat} {i : Nat} {k : Fin 4} (hd : decode mi.2.1 pc = .ok (.lload_n k, 1)) (hi : (k : Nat) = i) : jn_G mi pc (jn_lload_n i) := by
  intro p l e R s m args below meth c Q D dA c0 s0 X hR ls st M pc' ls' st' M' h hB K arr H locs cells slots hl hM hc hs
  obtain ⟨hx, hb, hml, hts, hown, hnm, hK⟩ := X
  dsimp only [jn_lload_n] at h
  split at h
  · rename_i x hv
    cases h
    exact lv_lload_n hx hb hd hi (hl.at hv) (K arr H locs cells slots hl hM hc hs)
  · cases h
def jn_lload (i : Nat) (pc : Nat) (c : jn_C) : Option (Nat × jn_C) := match c.1[i]? with
  | some (some (.long x)) => some (pc + 2, c.1, .long x :: c.2.1, c.2.2)
  | _ => none
theorem jn_lload_ok {mi : jn_MI} {pc : Nat} {i : Nat} (hd : decode mi.2.1 pc = .ok (.lload i, 2)) : jn_G mi pc (jn_lload i) := by
  intro p l e R s m args below meth c Q D dA c0 s0 X hR ls st M pc' ls' st' M' h hB K arr H locs cells slots hl hM hc hs
  obtain ⟨hx, hb, hml, hts, hown, hnm, hK⟩ := X
  dsimp only [jn_lload] at h
  split at h
  · rename_i x hv
    cases h
    exact lv_lload hx hb hd (hl.at hv) (K arr H locs cells slots hl hM hc hs)
  · cases h
def jn_aload_n (i : Nat) (pc : Nat) (c : jn_C) : Option (Nat × jn_C) := match c.1[i]? with
  | some (some (.ref x)) => some (pc + 1, c.1, .ref x :: c.2.1, c.2.2)
  | some (some .null) => some (pc + 1, c.1, .null :: c.2.1, c.2.2)
  | _ => none
theorem jn_aload_n_ok {mi : jn_MI} {pc : Nat} {i : Nat} {k : Fin 4} (hd : decode mi.2.1 pc = .ok (.aload_n k, 1)) (hi : (k : Nat) = i) : jn_G mi pc (jn_aload_n i) := by
  intro p l e R s m args below meth c Q D dA c0 s0 X hR ls st M pc' ls' st' M' h hB K arr H locs cells slots hl hM hc hs
  obtain ⟨hx, hb, hml, hts, hown, hnm, hK⟩ := X
  dsimp only [jn_aload_n] at h
  split at h
  · rename_i x hv
    cases h
    exact lv_aload_n hx hb hd hi (hl.at hv) (K arr H locs cells slots hl hM hc hs)
  · rename_i hv
    cases h
    exact lv_aload_nN hx hb hd hi (hl.at hv) (K arr H locs cells slots hl hM hc hs)
  · cases h
def jn_aload (i : Nat) (pc : Nat) (c : jn_C) : Option (Nat × jn_C) := match c.1[i]? with
  | some (some (.ref x)) => some (pc + 2, c.1, .ref x :: c.2.1, c.2.2)
  | some (some .null) => some (pc + 2, c.1, .null :: c.2.1, c.2.2)
  | _ => none
theorem jn_aload_ok {mi : jn_MI} {pc : Nat} {i : Nat} (hd : decode mi.2.1 pc = .ok (.aload i, 2)) : jn_G mi pc (jn_aload i) := by
  intro p l e R s m args below meth c Q D dA c0 s0 X hR ls st M pc' ls' st' M' h hB K arr H locs cells slots hl hM hc hs
  obtain ⟨hx, hb, hml, hts, hown, hnm, hK⟩ := X
  dsimp only [jn_aload] at h
  split at h
  · rename_i x hv
    cases h
    exact lv_aload hx hb hd (hl.at hv) (K arr H locs cells slots hl hM hc hs)
  · rename_i hv
    cases h
    exact lv_aloadN hx hb hd (hl.at hv) (K arr H locs cells slots hl hM hc hs)
  · cases h
def jn_istore_n (i : Nat) (pc : Nat) (c : jn_C) : Option (Nat × jn_C) := match c.2.1 with
  | .int x :: st => if i < c.1.length then some (pc + 1, jn_s1 c.1 i (.int x), st, c.2.2) else none
  | _ => none
theorem jn_istore_n_ok {mi : jn_MI} {pc : Nat} {i : Nat} {k : Fin 4} (hd : decode mi.2.1 pc = .ok (.istore_n k, 1)) (hi : (k : Nat) = i) : jn_G mi pc (jn_istore_n i) := by
  intro p l e R s m args below meth c Q D dA c0 s0 X hR ls st M pc' ls' st' M' h hB K arr H locs cells slots hl hM hc hs
  obtain ⟨hx, hb, hml, hts, hown, hnm, hK⟩ := X
  dsimp only [jn_istore_n] at h
  split at h
  · split at h
    · rename_i hi2
      cases h
      refine lv_istore_n hx hb hd hi hl.2 (by rw [← hl.1]; exact hi2) rfl (fun arr' h2 => K arr' H locs cells slots (hl.s1 (by omega) h2) hM hc hs)
    · cases h
  · cases h
def jn_istore (i : Nat) (pc : Nat) (c : jn_C) : Option (Nat × jn_C) := match c.2.1 with
  | .int x :: st => if i < c.1.length then some (pc + 2, jn_s1 c.1 i (.int x), st, c.2.2) else none
  | _ => none
theorem jn_istore_ok {mi : jn_MI} {pc : Nat} {i : Nat} (hd : decode mi.2.1 pc = .ok (.istore i, 2)) : jn_G mi pc (jn_istore i) := by
  intro p l e R s m args below meth c Q D dA c0 s0 X hR ls st M pc' ls' st' M' h hB K arr H locs cells slots hl hM hc hs
  obtain ⟨hx, hb, hml, hts, hown, hnm, hK⟩ := X
  dsimp only [jn_istore] at h
  split at h
  · split at h
    · rename_i hi2
      cases h
      refine lv_istore hx hb hd hl.2 (by rw [← hl.1]; exact hi2) rfl (fun arr' h2 => K arr' H locs cells slots (hl.s1 (by omega) h2) hM hc hs)
    · cases h
  · cases h
def jn_lstore_n (i : Nat) (pc : Nat) (c : jn_C) : Option (Nat × jn_C) := match c.2.1 with
  | .long x :: st => if i + 1 < c.1.length then some (pc + 1, jn_s2 c.1 i (.long x), st, c.2.2) else none
  | _ => none
theorem jn_lstore_n_ok {mi : jn_MI} {pc : Nat} {i : Nat} {k : Fin 4} (hd : decode mi.2.1 pc = .ok (.lstore_n k, 1)) (hi : (k : Nat) = i) : jn_G mi pc (jn_lstore_n i) := by
  intro p l e R s m args below meth c Q D dA c0 s0 X hR ls st M pc' ls' st' M' h hB K arr H locs cells slots hl hM hc hs
  obtain ⟨hx, hb, hml, hts, hown, hnm, hK⟩ := X
  dsimp only [jn_lstore_n] at h
  split at h
  · split at h
    · rename_i hi2
      cases h
      refine lv_lstore_n hx hb hd hi hl.2 (by rw [← hl.1]; exact hi2) rfl (fun arr' h2 => K arr' H locs cells slots (hl.s2 (by omega) h2) hM hc hs)
    · cases h
  · cases h
def jn_lstore (i : Nat) (pc : Nat) (c : jn_C) : Option (Nat × jn_C) := match c.2.1 with
  | .long x :: st => if i + 1 < c.1.length then some (pc + 2, jn_s2 c.1 i (.long x), st, c.2.2) else none
  | _ => none
theorem jn_lstore_ok {mi : jn_MI} {pc : Nat} {i : Nat} (hd : decode mi.2.1 pc = .ok (.lstore i, 2)) : jn_G mi pc (jn_lstore i) := by
  intro p l e R s m args below meth c Q D dA c0 s0 X hR ls st M pc' ls' st' M' h hB K arr H locs cells slots hl hM hc hs
  obtain ⟨hx, hb, hml, hts, hown, hnm, hK⟩ := X
  dsimp only [jn_lstore] at h
  split at h
  · split at h
    · rename_i hi2
      cases h
      refine lv_lstore hx hb hd hl.2 (by rw [← hl.1]; exact hi2) rfl (fun arr' h2 => K arr' H locs cells slots (hl.s2 (by omega) h2) hM hc hs)
    · cases h
  · cases h
def jn_astore_n (i : Nat) (pc : Nat) (c : jn_C) : Option (Nat × jn_C) := match c.2.1 with
  | .ref x :: st => if i < c.1.length then some (pc + 1, jn_s1 c.1 i (.ref x), st, c.2.2) else none
  | .null :: st => if i < c.1.length then some (pc + 1, jn_s1 c.1 i .null, st, c.2.2) else none
  | _ => none
theorem jn_astore_n_ok {mi : jn_MI} {pc : Nat} {i : Nat} {k : Fin 4} (hd : decode mi.2.1 pc = .ok (.astore_n k, 1)) (hi : (k : Nat) = i) : jn_G mi pc (jn_astore_n i) := by
  intro p l e R s m args below meth c Q D dA c0 s0 X hR ls st M pc' ls' st' M' h hB K arr H locs cells slots hl hM hc hs
  obtain ⟨hx, hb, hml, hts, hown, hnm, hK⟩ := X
  dsimp only [jn_astore_n] at h
  split at h
  · split at h
    · rename_i hi2
      cases h
      refine lv_astore_n hx hb hd hi hl.2 (by rw [← hl.1]; exact hi2) rfl (fun arr' h2 => K arr' H locs cells slots (hl.s1 (by omega) h2) hM hc hs)
    · cases h
  · split at h
    · rename_i hi2
      cases h
      refine lv_astore_nN hx hb hd hi hl.2 (by rw [← hl.1]; exact hi2) rfl (fun arr' h2 => K arr' H locs cells slots (hl.s1 (by omega) h2) hM hc hs)
    · cases h
  · cases h
def jn_astore (i : Nat) (pc : Nat) (c : jn_C) : Option (Nat × jn_C) := match c.2.1 with
  | .ref x :: st => if i < c.1.length then some (pc + 2, jn_s1 c.1 i (.ref x), st, c.2.2) else none
  | .null :: st => if i < c.1.length then some (pc + 2, jn_s1 c.1 i .null, st, c.2.2) else none
  | _ => none
theorem jn_astore_ok {mi : jn_MI} {pc : Nat} {i : Nat} (hd : decode mi.2.1 pc = .ok (.astore i, 2)) : jn_G mi pc (jn_astore i) := by
  intro p l e R s m args below meth c Q D dA c0 s0 X hR ls st M pc' ls' st' M' h hB K arr H locs cells slots hl hM hc hs
  obtain ⟨hx, hb, hml, hts, hown, hnm, hK⟩ := X
  dsimp only [jn_astore] at h
  split at h
  · split at h
    · rename_i hi2
      cases h
      refine lv_astore hx hb hd hl.2 (by rw [← hl.1]; exact hi2) rfl (fun arr' h2 => K arr' H locs cells slots (hl.s1 (by omega) h2) hM hc hs)
    · cases h
  · split at h
    · rename_i hi2
      cases h
      refine lv_astoreN hx hb hd hl.2 (by rw [← hl.1]; exact hi2) rfl (fun arr' h2 => K arr' H locs cells slots (hl.s1 (by omega) h2) hM hc hs)
    · cases h
  · cases h
def jn_iinc (i : Nat) (n : Int) (pc : Nat) (c : jn_C) : Option (Nat × jn_C) := match c.1[i]? with
  | some (some (.int x)) => some (pc + 3, jn_s1 c.1 i (.int (x + Int32.ofInt n)), c.2.1, c.2.2)
  | _ => none
theorem jn_iinc_ok {mi : jn_MI} {pc : Nat} {i : Nat} {n : Int} (hd : decode mi.2.1 pc = .ok (.iinc i n, 3)) : jn_G mi pc (jn_iinc i n) := by
  intro p l e R s m args below meth c Q D dA c0 s0 X hR ls st M pc' ls' st' M' h hB K arr H locs cells slots hl hM hc hs
  obtain ⟨hx, hb, hml, hts, hown, hnm, hK⟩ := X
  dsimp only [jn_iinc] at h
  split at h
  · rename_i x hv
    cases h
    have hm : (i, Value.int x) ∈ jn_ix 0 ls := (jn_ix_mem ls 0 i _).mpr ⟨Nat.zero_le _, by simpa using hv⟩
    obtain ⟨k, hk⟩ := List.getElem?_of_mem hm
    have hi2 : i < ls.length := (List.getElem?_eq_some_iff.mp hv).1
    refine lv_iinc hx hb hd hl.2 hk rfl (by rw [← hl.1]; exact hi2) rfl (fun arr' h2 => K arr' H locs cells slots (hl.s1 hi2 h2) hM hc hs)
  · cases h
def jn_iadd (pc : Nat) (c : jn_C) : Option (Nat × jn_C) := match c.2.1 with
  | .int y :: .int x :: st => some (pc + 1, c.1, .int (x + y) :: st, c.2.2)
  | _ => none
theorem jn_iadd_ok {mi : jn_MI} {pc : Nat} (hd : decode mi.2.1 pc = .ok (.iadd, 1)) : jn_G mi pc (jn_iadd) := by
  intro p l e R s m args below meth c Q D dA c0 s0 X hR ls st M pc' ls' st' M' h hB K arr H locs cells slots hl hM hc hs
  obtain ⟨hx, hb, hml, hts, hown, hnm, hK⟩ := X
  dsimp only [jn_iadd] at h
  split at h
  · cases h
    exact lv_iadd hx hb hd (K arr H locs cells slots hl hM hc hs)
  · cases h
def jn_isub (pc : Nat) (c : jn_C) : Option (Nat × jn_C) := match c.2.1 with
  | .int y :: .int x :: st => some (pc + 1, c.1, .int (x - y) :: st, c.2.2)
  | _ => none
theorem jn_isub_ok {mi : jn_MI} {pc : Nat} (hd : decode mi.2.1 pc = .ok (.isub, 1)) : jn_G mi pc (jn_isub) := by
  intro p l e R s m args below meth c Q D dA c0 s0 X hR ls st M pc' ls' st' M' h hB K arr H locs cells slots hl hM hc hs
  obtain ⟨hx, hb, hml, hts, hown, hnm, hK⟩ := X
  dsimp only [jn_isub] at h
  split at h
  · cases h
    exact lv_isub hx hb hd (K arr H locs cells slots hl hM hc hs)
  · cases h
def jn_imul (pc : Nat) (c : jn_C) : Option (Nat × jn_C) := match c.2.1 with
  | .int y :: .int x :: st => some (pc + 1, c.1, .int (x * y) :: st, c.2.2)
  | _ => none
theorem jn_imul_ok {mi : jn_MI} {pc : Nat} (hd : decode mi.2.1 pc = .ok (.imul, 1)) : jn_G mi pc (jn_imul) := by
  intro p l e R s m args below meth c Q D dA c0 s0 X hR ls st M pc' ls' st' M' h hB K arr H locs cells slots hl hM hc hs
  obtain ⟨hx, hb, hml, hts, hown, hnm, hK⟩ := X
  dsimp only [jn_imul] at h
  split at h
  · cases h
    exact lv_imul hx hb hd (K arr H locs cells slots hl hM hc hs)
  · cases h
def jn_iand (pc : Nat) (c : jn_C) : Option (Nat × jn_C) := match c.2.1 with
  | .int y :: .int x :: st => some (pc + 1, c.1, .int (x &&& y) :: st, c.2.2)
  | _ => none
theorem jn_iand_ok {mi : jn_MI} {pc : Nat} (hd : decode mi.2.1 pc = .ok (.iand, 1)) : jn_G mi pc (jn_iand) := by
  intro p l e R s m args below meth c Q D dA c0 s0 X hR ls st M pc' ls' st' M' h hB K arr H locs cells slots hl hM hc hs
  obtain ⟨hx, hb, hml, hts, hown, hnm, hK⟩ := X
  dsimp only [jn_iand] at h
  split at h
  · cases h
    exact lv_iand hx hb hd (K arr H locs cells slots hl hM hc hs)
  · cases h
def jn_ior (pc : Nat) (c : jn_C) : Option (Nat × jn_C) := match c.2.1 with
  | .int y :: .int x :: st => some (pc + 1, c.1, .int (x ||| y) :: st, c.2.2)
  | _ => none
theorem jn_ior_ok {mi : jn_MI} {pc : Nat} (hd : decode mi.2.1 pc = .ok (.ior, 1)) : jn_G mi pc (jn_ior) := by
  intro p l e R s m args below meth c Q D dA c0 s0 X hR ls st M pc' ls' st' M' h hB K arr H locs cells slots hl hM hc hs
  obtain ⟨hx, hb, hml, hts, hown, hnm, hK⟩ := X
  dsimp only [jn_ior] at h
  split at h
  · cases h
    exact lv_ior hx hb hd (K arr H locs cells slots hl hM hc hs)
  · cases h
def jn_ixor (pc : Nat) (c : jn_C) : Option (Nat × jn_C) := match c.2.1 with
  | .int y :: .int x :: st => some (pc + 1, c.1, .int (x ^^^ y) :: st, c.2.2)
  | _ => none
theorem jn_ixor_ok {mi : jn_MI} {pc : Nat} (hd : decode mi.2.1 pc = .ok (.ixor, 1)) : jn_G mi pc (jn_ixor) := by
  intro p l e R s m args below meth c Q D dA c0 s0 X hR ls st M pc' ls' st' M' h hB K arr H locs cells slots hl hM hc hs
  obtain ⟨hx, hb, hml, hts, hown, hnm, hK⟩ := X
  dsimp only [jn_ixor] at h
  split at h
  · cases h
    exact lv_ixor hx hb hd (K arr H locs cells slots hl hM hc hs)
  · cases h
def jn_ishl (pc : Nat) (c : jn_C) : Option (Nat × jn_C) := match c.2.1 with
  | .int y :: .int x :: st => some (pc + 1, c.1, .int (x <<< (y &&& 31)) :: st, c.2.2)
  | _ => none
theorem jn_ishl_ok {mi : jn_MI} {pc : Nat} (hd : decode mi.2.1 pc = .ok (.ishl, 1)) : jn_G mi pc (jn_ishl) := by
  intro p l e R s m args below meth c Q D dA c0 s0 X hR ls st M pc' ls' st' M' h hB K arr H locs cells slots hl hM hc hs
  obtain ⟨hx, hb, hml, hts, hown, hnm, hK⟩ := X
  dsimp only [jn_ishl] at h
  split at h
  · cases h
    exact lv_ishl hx hb hd (K arr H locs cells slots hl hM hc hs)
  · cases h
def jn_ishr (pc : Nat) (c : jn_C) : Option (Nat × jn_C) := match c.2.1 with
  | .int y :: .int x :: st => some (pc + 1, c.1, .int (x >>> (y &&& 31)) :: st, c.2.2)
  | _ => none
theorem jn_ishr_ok {mi : jn_MI} {pc : Nat} (hd : decode mi.2.1 pc = .ok (.ishr, 1)) : jn_G mi pc (jn_ishr) := by
  intro p l e R s m args below meth c Q D dA c0 s0 X hR ls st M pc' ls' st' M' h hB K arr H locs cells slots hl hM hc hs
  obtain ⟨hx, hb, hml, hts, hown, hnm, hK⟩ := X
  dsimp only [jn_ishr] at h
  split at h
  · cases h
    exact lv_ishr hx hb hd (K arr H locs cells slots hl hM hc hs)
  · cases h
def jn_ladd (pc : Nat) (c : jn_C) : Option (Nat × jn_C) := match c.2.1 with
  | .long y :: .long x :: st => some (pc + 1, c.1, .long (x + y) :: st, c.2.2)
  | _ => none
theorem jn_ladd_ok {mi : jn_MI} {pc : Nat} (hd : decode mi.2.1 pc = .ok (.ladd, 1)) : jn_G mi pc (jn_ladd) := by
  intro p l e R s m args below meth c Q D dA c0 s0 X hR ls st M pc' ls' st' M' h hB K arr H locs cells slots hl hM hc hs
  obtain ⟨hx, hb, hml, hts, hown, hnm, hK⟩ := X
  dsimp only [jn_ladd] at h
  split at h
  · cases h
    exact lv_ladd hx hb hd (K arr H locs cells slots hl hM hc hs)
  · cases h
def jn_lsub (pc : Nat) (c : jn_C) : Option (Nat × jn_C) := match c.2.1 with
  | .long y :: .long x :: st => some (pc + 1, c.1, .long (x - y) :: st, c.2.2)
  | _ => none
theorem jn_lsub_ok {mi : jn_MI} {pc : Nat} (hd : decode mi.2.1 pc = .ok (.lsub, 1)) : jn_G mi pc (jn_lsub) := by
  intro p l e R s m args below meth c Q D dA c0 s0 X hR ls st M pc' ls' st' M' h hB K arr H locs cells slots hl hM hc hs
  obtain ⟨hx, hb, hml, hts, hown, hnm, hK⟩ := X
  dsimp only [jn_lsub] at h
  split at h
  · cases h
    exact lv_lsub hx hb hd (K arr H locs cells slots hl hM hc hs)
  · cases h
def jn_lmul (pc : Nat) (c : jn_C) : Option (Nat × jn_C) := match c.2.1 with
  | .long y :: .long x :: st => some (pc + 1, c.1, .long (x * y) :: st, c.2.2)
  | _ => none
theorem jn_lmul_ok {mi : jn_MI} {pc : Nat} (hd : decode mi.2.1 pc = .ok (.lmul, 1)) : jn_G mi pc (jn_lmul) := by
  intro p l e R s m args below meth c Q D dA c0 s0 X hR ls st M pc' ls' st' M' h hB K arr H locs cells slots hl hM hc hs
  obtain ⟨hx, hb, hml, hts, hown, hnm, hK⟩ := X
  dsimp only [jn_lmul] at h
  split at h
  · cases h
    exact lv_lmul hx hb hd (K arr H locs cells slots hl hM hc hs)
  · cases h
def jn_lxor (pc : Nat) (c : jn_C) : Option (Nat × jn_C) := match c.2.1 with
  | .long y :: .long x :: st => some (pc + 1, c.1, .long (x ^^^ y) :: st, c.2.2)
  | _ => none
theorem jn_lxor_ok {mi : jn_MI} {pc : Nat} (hd : decode mi.2.1 pc = .ok (.lxor, 1)) : jn_G mi pc (jn_lxor) := by
  intro p l e R s m args below meth c Q D dA c0 s0 X hR ls st M pc' ls' st' M' h hB K arr H locs cells slots hl hM hc hs
  obtain ⟨hx, hb, hml, hts, hown, hnm, hK⟩ := X
  dsimp only [jn_lxor] at h
  split at h
  · cases h
    exact lv_lxor hx hb hd (K arr H locs cells slots hl hM hc hs)
  · cases h
def jn_iushr (pc : Nat) (c : jn_C) : Option (Nat × jn_C) := match c.2.1 with
  | .int y :: .int x :: st => some (pc + 1, c.1, .int ((x.toUInt32 >>> (y.toUInt32 &&& Int32.toUInt32 31)).toInt32) :: st, c.2.2)
  | _ => none
theorem jn_iushr_ok {mi : jn_MI} {pc : Nat} (hd : decode mi.2.1 pc = .ok (.iushr, 1)) : jn_G mi pc (jn_iushr) := by
  intro p l e R s m args below meth c Q D dA c0 s0 X hR ls st M pc' ls' st' M' h hB K arr H locs cells slots hl hM hc hs
  obtain ⟨hx, hb, hml, hts, hown, hnm, hK⟩ := X
  dsimp only [jn_iushr] at h
  split at h
  · cases h
    exact lv_iushr hx hb hd rfl (K arr H locs cells slots hl hM hc hs)
  · cases h
def jn_idiv (pc : Nat) (c : jn_C) : Option (Nat × jn_C) := match c.2.1 with
  | .int y :: .int x :: st => if y = 0 then none else some (pc + 1, c.1, .int (x / y) :: st, c.2.2)
  | _ => none
theorem jn_idiv_ok {mi : jn_MI} {pc : Nat} (hd : decode mi.2.1 pc = .ok (.idiv, 1)) : jn_G mi pc (jn_idiv) := by
  intro p l e R s m args below meth c Q D dA c0 s0 X hR ls st M pc' ls' st' M' h hB K arr H locs cells slots hl hM hc hs
  obtain ⟨hx, hb, hml, hts, hown, hnm, hK⟩ := X
  dsimp only [jn_idiv] at h
  split at h
  · split at h
    · cases h
    · rename_i hne
      cases h
      exact lv_idiv hx hb hd hne (K arr H locs cells slots hl hM hc hs)
  · cases h
def jn_irem (pc : Nat) (c : jn_C) : Option (Nat × jn_C) := match c.2.1 with
  | .int y :: .int x :: st => if y = 0 then none else some (pc + 1, c.1, .int (x - x / y * y) :: st, c.2.2)
  | _ => none
theorem jn_irem_ok {mi : jn_MI} {pc : Nat} (hd : decode mi.2.1 pc = .ok (.irem, 1)) : jn_G mi pc (jn_irem) := by
  intro p l e R s m args below meth c Q D dA c0 s0 X hR ls st M pc' ls' st' M' h hB K arr H locs cells slots hl hM hc hs
  obtain ⟨hx, hb, hml, hts, hown, hnm, hK⟩ := X
  dsimp only [jn_irem] at h
  split at h
  · split at h
    · cases h
    · rename_i hne
      cases h
      exact lv_irem hx hb hd hne (K arr H locs cells slots hl hM hc hs)
  · cases h
def jn_ldiv (pc : Nat) (c : jn_C) : Option (Nat × jn_C) := match c.2.1 with
  | .long y :: .long x :: st => if y = 0 then none else some (pc + 1, c.1, .long (x / y) :: st, c.2.2)
  | _ => none
theorem jn_ldiv_ok {mi : jn_MI} {pc : Nat} (hd : decode mi.2.1 pc = .ok (.ldiv, 1)) : jn_G mi pc (jn_ldiv) := by
  intro p l e R s m args below meth c Q D dA c0 s0 X hR ls st M pc' ls' st' M' h hB K arr H locs cells slots hl hM hc hs
  obtain ⟨hx, hb, hml, hts, hown, hnm, hK⟩ := X
  dsimp only [jn_ldiv] at h
  split at h
  · split at h
    · cases h
    · rename_i hne
      cases h
      exact lv_ldiv hx hb hd hne (K arr H locs cells slots hl hM hc hs)
  · cases h
def jn_lrem (pc : Nat) (c : jn_C) : Option (Nat × jn_C) := match c.2.1 with
  | .long y :: .long x :: st => if y = 0 then none else some (pc + 1, c.1, .long (x - x / y * y) :: st, c.2.2)
  | _ => none
theorem jn_lrem_ok {mi : jn_MI} {pc : Nat} (hd : decode mi.2.1 pc = .ok (.lrem, 1)) : jn_G mi pc (jn_lrem) := by
  intro p l e R s m args below meth c Q D dA c0 s0 X hR ls st M pc' ls' st' M' h hB K arr H locs cells slots hl hM hc hs
  obtain ⟨hx, hb, hml, hts, hown, hnm, hK⟩ := X
  dsimp only [jn_lrem] at h
  split at h
  · split at h
    · cases h
    · rename_i hne
      cases h
      exact lv_lrem hx hb hd hne (K arr H locs cells slots hl hM hc hs)
  · cases h
def jn_ineg (pc : Nat) (c : jn_C) : Option (Nat × jn_C) := match c.2.1 with
  | .int x :: st => some (pc + 1, c.1, .int (-x) :: st, c.2.2)
  | _ => none
theorem jn_ineg_ok {mi : jn_MI} {pc : Nat} (hd : decode mi.2.1 pc = .ok (.ineg, 1)) : jn_G mi pc (jn_ineg) := by
  intro p l e R s m args below meth c Q D dA c0 s0 X hR ls st M pc' ls' st' M' h hB K arr H locs cells slots hl hM hc hs
  obtain ⟨hx, hb, hml, hts, hown, hnm, hK⟩ := X
  dsimp only [jn_ineg] at h
  split at h
  · cases h
    exact lv_ineg hx hb hd (K arr H locs cells slots hl hM hc hs)
  · cases h
def jn_lneg (pc : Nat) (c : jn_C) : Option (Nat × jn_C) := match c.2.1 with
  | .long x :: st => some (pc + 1, c.1, .long (-x) :: st, c.2.2)
  | _ => none
theorem jn_lneg_ok {mi : jn_MI} {pc : Nat} (hd : decode mi.2.1 pc = .ok (.lneg, 1)) : jn_G mi pc (jn_lneg) := by
  intro p l e R s m args below meth c Q D dA c0 s0 X hR ls st M pc' ls' st' M' h hB K arr H locs cells slots hl hM hc hs
  obtain ⟨hx, hb, hml, hts, hown, hnm, hK⟩ := X
  dsimp only [jn_lneg] at h
  split at h
  · cases h
    exact lv_lneg hx hb hd (K arr H locs cells slots hl hM hc hs)
  · cases h
def jn_i2l (pc : Nat) (c : jn_C) : Option (Nat × jn_C) := match c.2.1 with
  | .int x :: st => some (pc + 1, c.1, .long x.toInt64 :: st, c.2.2)
  | _ => none
theorem jn_i2l_ok {mi : jn_MI} {pc : Nat} (hd : decode mi.2.1 pc = .ok (.i2l, 1)) : jn_G mi pc (jn_i2l) := by
  intro p l e R s m args below meth c Q D dA c0 s0 X hR ls st M pc' ls' st' M' h hB K arr H locs cells slots hl hM hc hs
  obtain ⟨hx, hb, hml, hts, hown, hnm, hK⟩ := X
  dsimp only [jn_i2l] at h
  split at h
  · cases h
    exact lv_i2l hx hb hd rfl (K arr H locs cells slots hl hM hc hs)
  · cases h
def jn_l2i (pc : Nat) (c : jn_C) : Option (Nat × jn_C) := match c.2.1 with
  | .long x :: st => some (pc + 1, c.1, .int x.toInt32 :: st, c.2.2)
  | _ => none
theorem jn_l2i_ok {mi : jn_MI} {pc : Nat} (hd : decode mi.2.1 pc = .ok (.l2i, 1)) : jn_G mi pc (jn_l2i) := by
  intro p l e R s m args below meth c Q D dA c0 s0 X hR ls st M pc' ls' st' M' h hB K arr H locs cells slots hl hM hc hs
  obtain ⟨hx, hb, hml, hts, hown, hnm, hK⟩ := X
  dsimp only [jn_l2i] at h
  split at h
  · cases h
    exact lv_l2i hx hb hd rfl (K arr H locs cells slots hl hM hc hs)
  · cases h
def jn_lcmp (pc : Nat) (c : jn_C) : Option (Nat × jn_C) := match c.2.1 with
  | .long y :: .long x :: st => some (pc + 1, c.1, .int (lg_cmp x y) :: st, c.2.2)
  | _ => none
theorem jn_lcmp_ok {mi : jn_MI} {pc : Nat} (hd : decode mi.2.1 pc = .ok (.lcmp, 1)) : jn_G mi pc (jn_lcmp) := by
  intro p l e R s m args below meth c Q D dA c0 s0 X hR ls st M pc' ls' st' M' h hB K arr H locs cells slots hl hM hc hs
  obtain ⟨hx, hb, hml, hts, hown, hnm, hK⟩ := X
  dsimp only [jn_lcmp] at h
  split at h
  · cases h
    exact W.lcmp hx hb hd (K arr H locs cells slots hl hM hc hs)
  · cases h
def jn_dup (pc : Nat) (c : jn_C) : Option (Nat × jn_C) := match c.2.1 with
  | v :: st => if v.category = 1 then some (pc + 1, c.1, v :: v :: st, c.2.2) else none
  | _ => none
theorem jn_dup_ok {mi : jn_MI} {pc : Nat} (hd : decode mi.2.1 pc = .ok (.dup, 1)) : jn_G mi pc (jn_dup) := by
  intro p l e R s m args below meth c Q D dA c0 s0 X hR ls st M pc' ls' st' M' h hB K arr H locs cells slots hl hM hc hs
  obtain ⟨hx, hb, hml, hts, hown, hnm, hK⟩ := X
  dsimp only [jn_dup] at h
  split at h
  · split at h
    · rename_i hv
      cases h
      exact lv_dup hx hb hd hv (K arr H locs cells slots hl hM hc hs)
    · cases h
  · cases h
def jn_pop (pc : Nat) (c : jn_C) : Option (Nat × jn_C) := match c.2.1 with
  | v :: st => if v.category = 1 then some (pc + 1, c.1, st, c.2.2) else none
  | _ => none
theorem jn_pop_ok {mi : jn_MI} {pc : Nat} (hd : decode mi.2.1 pc = .ok (.pop, 1)) : jn_G mi pc (jn_pop) := by
  intro p l e R s m args below meth c Q D dA c0 s0 X hR ls st M pc' ls' st' M' h hB K arr H locs cells slots hl hM hc hs
  obtain ⟨hx, hb, hml, hts, hown, hnm, hK⟩ := X
  dsimp only [jn_pop] at h
  split at h
  · split at h
    · rename_i hv
      cases h
      exact lv_pop hx hb hd hv (K arr H locs cells slots hl hM hc hs)
    · cases h
  · cases h
def jn_dup2 (pc : Nat) (c : jn_C) : Option (Nat × jn_C) := match c.2.1 with
  | v :: w :: st => if v.category = 1 ∧ w.category = 1 then some (pc + 1, c.1, v :: w :: v :: w :: st, c.2.2) else none
  | _ => none
theorem jn_dup2_ok {mi : jn_MI} {pc : Nat} (hd : decode mi.2.1 pc = .ok (.dup2, 1)) : jn_G mi pc (jn_dup2) := by
  intro p l e R s m args below meth c Q D dA c0 s0 X hR ls st M pc' ls' st' M' h hB K arr H locs cells slots hl hM hc hs
  obtain ⟨hx, hb, hml, hts, hown, hnm, hK⟩ := X
  dsimp only [jn_dup2] at h
  split at h
  · split at h
    · rename_i hv
      cases h
      exact lv_dup2_11 hx hb hd hv.1 hv.2 (K arr H locs cells slots hl hM hc hs)
    · cases h
  · cases h
def jn_ifeq (t : Nat) (pc : Nat) (c : jn_C) : Option (Nat × jn_C) := match c.2.1 with
  | .int x :: st => some (if x = 0 then t else pc + 3, c.1, st, c.2.2)
  | _ => none
theorem jn_ifeq_ok {mi : jn_MI} {pc : Nat} {t : Nat} {off : Int} (hd : decode mi.2.1 pc = .ok (.ifCond .eq off, 3)) (ht : (pc : Int) + off = (t : Int)) : jn_G mi pc (jn_ifeq t) := by
  intro p l e R s m args below meth c Q D dA c0 s0 X hR ls st M pc' ls' st' M' h hB K arr H locs cells slots hl hM hc hs
  obtain ⟨hx, hb, hml, hts, hown, hnm, hK⟩ := X
  dsimp only [jn_ifeq] at h
  split at h
  · rename_i x rest
    cases h
    refine lv_if_eq hx hb hd ht (fun hq => ?_) (fun hq => ?_)
    · rw [if_pos (by first | exact hq | simpa using hq)] at K
      exact K arr H locs cells slots hl hM hc hs
    · rw [if_neg (by first | exact hq | simpa using hq)] at K
      exact K arr H locs cells slots hl hM hc hs
  · cases h
def jn_ifne (t : Nat) (pc : Nat) (c : jn_C) : Option (Nat × jn_C) := match c.2.1 with
  | .int x :: st => some (if ¬ x = 0 then t else pc + 3, c.1, st, c.2.2)
  | _ => none
theorem jn_ifne_ok {mi : jn_MI} {pc : Nat} {t : Nat} {off : Int} (hd : decode mi.2.1 pc = .ok (.ifCond .ne off, 3)) (ht : (pc : Int) + off = (t : Int)) : jn_G mi pc (jn_ifne t) := by
  intro p l e R s m args below meth c Q D dA c0 s0 X hR ls st M pc' ls' st' M' h hB K arr H locs cells slots hl hM hc hs
  obtain ⟨hx, hb, hml, hts, hown, hnm, hK⟩ := X
  dsimp only [jn_ifne] at h
  split at h
  · rename_i x rest
    cases h
    refine lv_if_ne hx hb hd ht (fun hq => ?_) (fun hq => ?_)
    · rw [if_pos (by first | exact hq | simpa using hq)] at K
      exact K arr H locs cells slots hl hM hc hs
    · rw [if_neg (by first | exact hq | simpa using hq)] at K
      exact K arr H locs cells slots hl hM hc hs
  · cases h
def jn_iflt (t : Nat) (pc : Nat) (c : jn_C) : Option (Nat × jn_C) := match c.2.1 with
  | .int x :: st => some (if x < 0 then t else pc + 3, c.1, st, c.2.2)
  | _ => none
theorem jn_iflt_ok {mi : jn_MI} {pc : Nat} {t : Nat} {off : Int} (hd : decode mi.2.1 pc = .ok (.ifCond .lt off, 3)) (ht : (pc : Int) + off = (t : Int)) : jn_G mi pc (jn_iflt t) := by
  intro p l e R s m args below meth c Q D dA c0 s0 X hR ls st M pc' ls' st' M' h hB K arr H locs cells slots hl hM hc hs
  obtain ⟨hx, hb, hml, hts, hown, hnm, hK⟩ := X
  dsimp only [jn_iflt] at h
  split at h
  · rename_i x rest
    cases h
    refine lv_if_lt hx hb hd ht (fun hq => ?_) (fun hq => ?_)
    · rw [if_pos (by first | exact hq | simpa using hq)] at K
      exact K arr H locs cells slots hl hM hc hs
    · rw [if_neg (by first | exact hq | simpa using hq)] at K
      exact K arr H locs cells slots hl hM hc hs
  · cases h
def jn_ifge (t : Nat) (pc : Nat) (c : jn_C) : Option (Nat × jn_C) := match c.2.1 with
  | .int x :: st => some (if 0 ≤ x then t else pc + 3, c.1, st, c.2.2)
  | _ => none
theorem jn_ifge_ok {mi : jn_MI} {pc : Nat} {t : Nat} {off : Int} (hd : decode mi.2.1 pc = .ok (.ifCond .ge off, 3)) (ht : (pc : Int) + off = (t : Int)) : jn_G mi pc (jn_ifge t) := by
  intro p l e R s m args below meth c Q D dA c0 s0 X hR ls st M pc' ls' st' M' h hB K arr H locs cells slots hl hM hc hs
  obtain ⟨hx, hb, hml, hts, hown, hnm, hK⟩ := X
  dsimp only [jn_ifge] at h
  split at h
  · rename_i x rest
    cases h
    refine lv_if_ge hx hb hd ht (fun hq => ?_) (fun hq => ?_)
    · rw [if_pos (by first | exact hq | simpa using hq)] at K
      exact K arr H locs cells slots hl hM hc hs
    · rw [if_neg (by first | exact hq | simpa using hq)] at K
      exact K arr H locs cells slots hl hM hc hs
  · cases h
def jn_ifgt (t : Nat) (pc : Nat) (c : jn_C) : Option (Nat × jn_C) := match c.2.1 with
  | .int x :: st => some (if 0 < x then t else pc + 3, c.1, st, c.2.2)
  | _ => none
theorem jn_ifgt_ok {mi : jn_MI} {pc : Nat} {t : Nat} {off : Int} (hd : decode mi.2.1 pc = .ok (.ifCond .gt off, 3)) (ht : (pc : Int) + off = (t : Int)) : jn_G mi pc (jn_ifgt t) := by
  intro p l e R s m args below meth c Q D dA c0 s0 X hR ls st M pc' ls' st' M' h hB K arr H locs cells slots hl hM hc hs
  obtain ⟨hx, hb, hml, hts, hown, hnm, hK⟩ := X
  dsimp only [jn_ifgt] at h
  split at h
  · rename_i x rest
    cases h
    refine lv_if_gt hx hb hd ht (fun hq => ?_) (fun hq => ?_)
    · rw [if_pos (by first | exact hq | simpa using hq)] at K
      exact K arr H locs cells slots hl hM hc hs
    · rw [if_neg (by first | exact hq | simpa using hq)] at K
      exact K arr H locs cells slots hl hM hc hs
  · cases h
def jn_ifle (t : Nat) (pc : Nat) (c : jn_C) : Option (Nat × jn_C) := match c.2.1 with
  | .int x :: st => some (if x ≤ 0 then t else pc + 3, c.1, st, c.2.2)
  | _ => none
theorem jn_ifle_ok {mi : jn_MI} {pc : Nat} {t : Nat} {off : Int} (hd : decode mi.2.1 pc = .ok (.ifCond .le off, 3)) (ht : (pc : Int) + off = (t : Int)) : jn_G mi pc (jn_ifle t) := by
  intro p l e R s m args below meth c Q D dA c0 s0 X hR ls st M pc' ls' st' M' h hB K arr H locs cells slots hl hM hc hs
  obtain ⟨hx, hb, hml, hts, hown, hnm, hK⟩ := X
  dsimp only [jn_ifle] at h
  split at h
  · rename_i x rest
    cases h
    refine lv_if_le hx hb hd ht (fun hq => ?_) (fun hq => ?_)
    · rw [if_pos (by first | exact hq | simpa using hq)] at K
      exact K arr H locs cells slots hl hM hc hs
    · rw [if_neg (by first | exact hq | simpa using hq)] at K
      exact K arr H locs cells slots hl hM hc hs
  · cases h
def jn_iceq (t : Nat) (pc : Nat) (c : jn_C) : Option (Nat × jn_C) := match c.2.1 with
  | .int y :: .int x :: st => some (if x = y then t else pc + 3, c.1, st, c.2.2)
  | _ => none
theorem jn_iceq_ok {mi : jn_MI} {pc : Nat} {t : Nat} {off : Int} (hd : decode mi.2.1 pc = .ok (.if_icmp .eq off, 3)) (ht : (pc : Int) + off = (t : Int)) : jn_G mi pc (jn_iceq t) := by
  intro p l e R s m args below meth c Q D dA c0 s0 X hR ls st M pc' ls' st' M' h hB K arr H locs cells slots hl hM hc hs
  obtain ⟨hx, hb, hml, hts, hown, hnm, hK⟩ := X
  dsimp only [jn_iceq] at h
  split at h
  · rename_i y x rest
    cases h
    refine lv_icmp_eq hx hb hd ht (fun hq => ?_) (fun hq => ?_)
    · rw [if_pos (by first | exact hq | simpa using hq)] at K
      exact K arr H locs cells slots hl hM hc hs
    · rw [if_neg (by first | exact hq | simpa using hq)] at K
      exact K arr H locs cells slots hl hM hc hs
  · cases h
def jn_icne (t : Nat) (pc : Nat) (c : jn_C) : Option (Nat × jn_C) := match c.2.1 with
  | .int y :: .int x :: st => some (if ¬ x = y then t else pc + 3, c.1, st, c.2.2)
  | _ => none
theorem jn_icne_ok {mi : jn_MI} {pc : Nat} {t : Nat} {off : Int} (hd : decode mi.2.1 pc = .ok (.if_icmp .ne off, 3)) (ht : (pc : Int) + off = (t : Int)) : jn_G mi pc (jn_icne t) := by
  intro p l e R s m args below meth c Q D dA c0 s0 X hR ls st M pc' ls' st' M' h hB K arr H locs cells slots hl hM hc hs
  obtain ⟨hx, hb, hml, hts, hown, hnm, hK⟩ := X
  dsimp only [jn_icne] at h
  split at h
  · rename_i y x rest
    cases h
    refine lv_icmp_ne hx hb hd ht (fun hq => ?_) (fun hq => ?_)
    · rw [if_pos (by first | exact hq | simpa using hq)] at K
      exact K arr H locs cells slots hl hM hc hs
    · rw [if_neg (by first | exact hq | simpa using hq)] at K
      exact K arr H locs cells slots hl hM hc hs
  · cases h
def jn_iclt (t : Nat) (pc : Nat) (c : jn_C) : Option (Nat × jn_C) := match c.2.1 with
  | .int y :: .int x :: st => some (if x < y then t else pc + 3, c.1, st, c.2.2)
  | _ => none
theorem jn_iclt_ok {mi : jn_MI} {pc : Nat} {t : Nat} {off : Int} (hd : decode mi.2.1 pc = .ok (.if_icmp .lt off, 3)) (ht : (pc : Int) + off = (t : Int)) : jn_G mi pc (jn_iclt t) := by
  intro p l e R s m args below meth c Q D dA c0 s0 X hR ls st M pc' ls' st' M' h hB K arr H locs cells slots hl hM hc hs
  obtain ⟨hx, hb, hml, hts, hown, hnm, hK⟩ := X
  dsimp only [jn_iclt] at h
  split at h
  · rename_i y x rest
    cases h
    refine lv_icmp_lt hx hb hd ht (fun hq => ?_) (fun hq => ?_)
    · rw [if_pos (by first | exact hq | simpa using hq)] at K
      exact K arr H locs cells slots hl hM hc hs
    · rw [if_neg (by first | exact hq | simpa using hq)] at K
      exact K arr H locs cells slots hl hM hc hs
  · cases h
def jn_icge (t : Nat) (pc : Nat) (c : jn_C) : Option (Nat × jn_C) := match c.2.1 with
  | .int y :: .int x :: st => some (if y ≤ x then t else pc + 3, c.1, st, c.2.2)
  | _ => none
theorem jn_icge_ok {mi : jn_MI} {pc : Nat} {t : Nat} {off : Int} (hd : decode mi.2.1 pc = .ok (.if_icmp .ge off, 3)) (ht : (pc : Int) + off = (t : Int)) : jn_G mi pc (jn_icge t) := by
  intro p l e R s m args below meth c Q D dA c0 s0 X hR ls st M pc' ls' st' M' h hB K arr H locs cells slots hl hM hc hs
  obtain ⟨hx, hb, hml, hts, hown, hnm, hK⟩ := X
  dsimp only [jn_icge] at h
  split at h
  · rename_i y x rest
    cases h
    refine lv_icmp_ge hx hb hd ht (fun hq => ?_) (fun hq => ?_)
    · rw [if_pos (by first | exact hq | simpa using hq)] at K
      exact K arr H locs cells slots hl hM hc hs
    · rw [if_neg (by first | exact hq | simpa using hq)] at K
      exact K arr H locs cells slots hl hM hc hs
  · cases h
def jn_icgt (t : Nat) (pc : Nat) (c : jn_C) : Option (Nat × jn_C) := match c.2.1 with
  | .int y :: .int x :: st => some (if y < x then t else pc + 3, c.1, st, c.2.2)
  | _ => none
theorem jn_icgt_ok {mi : jn_MI} {pc : Nat} {t : Nat} {off : Int} (hd : decode mi.2.1 pc = .ok (.if_icmp .gt off, 3)) (ht : (pc : Int) + off = (t : Int)) : jn_G mi pc (jn_icgt t) := by
  intro p l e R s m args below meth c Q D dA c0 s0 X hR ls st M pc' ls' st' M' h hB K arr H locs cells slots hl hM hc hs
  obtain ⟨hx, hb, hml, hts, hown, hnm, hK⟩ := X
  dsimp only [jn_icgt] at h
  split at h
  · rename_i y x rest
    cases h
    refine lv_icmp_gt hx hb hd ht (fun hq => ?_) (fun hq => ?_)
    · rw [if_pos (by first | exact hq | simpa using hq)] at K
      exact K arr H locs cells slots hl hM hc hs
    · rw [if_neg (by first | exact hq | simpa using hq)] at K
      exact K arr H locs cells slots hl hM hc hs
  · cases h
def jn_icle (t : Nat) (pc : Nat) (c : jn_C) : Option (Nat × jn_C) := match c.2.1 with
  | .int y :: .int x :: st => some (if x ≤ y then t else pc + 3, c.1, st, c.2.2)
  | _ => none
theorem jn_icle_ok {mi : jn_MI} {pc : Nat} {t : Nat} {off : Int} (hd : decode mi.2.1 pc = .ok (.if_icmp .le off, 3)) (ht : (pc : Int) + off = (t : Int)) : jn_G mi pc (jn_icle t) := by
  intro p l e R s m args below meth c Q D dA c0 s0 X hR ls st M pc' ls' st' M' h hB K arr H locs cells slots hl hM hc hs
  obtain ⟨hx, hb, hml, hts, hown, hnm, hK⟩ := X
  dsimp only [jn_icle] at h
  split at h
  · rename_i y x rest
    cases h
    refine lv_icmp_le hx hb hd ht (fun hq => ?_) (fun hq => ?_)
    · rw [if_pos (by first | exact hq | simpa using hq)] at K
      exact K arr H locs cells slots hl hM hc hs
    · rw [if_neg (by first | exact hq | simpa using hq)] at K
      exact K arr H locs cells slots hl hM hc hs
  · cases h
def jn_ifnull (t : Nat) (pc : Nat) (c : jn_C) : Option (Nat × jn_C) := match c.2.1 with
  | .ref _ :: st => some (pc + 3, c.1, st, c.2.2)
  | .null :: st => some (t, c.1, st, c.2.2)
  | _ => none
theorem jn_ifnull_ok {mi : jn_MI} {pc : Nat} {t : Nat} {off : Int} (hd : decode mi.2.1 pc = .ok (.ifnull off, 3)) (ht : (pc : Int) + off = (t : Int)) : jn_G mi pc (jn_ifnull t) := by
  intro p l e R s m args below meth c Q D dA c0 s0 X hR ls st M pc' ls' st' M' h hB K arr H locs cells slots hl hM hc hs
  obtain ⟨hx, hb, hml, hts, hown, hnm, hK⟩ := X
  dsimp only [jn_ifnull] at h
  split at h
  · cases h
    exact lv_ifnull hx hb hd (K arr H locs cells slots hl hM hc hs)
  · cases h
    exact lv_ifnullN hx hb hd ht (K arr H locs cells slots hl hM hc hs)
  · cases h
def jn_ifnonnull (t : Nat) (pc : Nat) (c : jn_C) : Option (Nat × jn_C) := match c.2.1 with
  | .ref _ :: st => some (t, c.1, st, c.2.2)
  | .null :: st => some (pc + 3, c.1, st, c.2.2)
  | _ => none
theorem jn_ifnonnull_ok {mi : jn_MI} {pc : Nat} {t : Nat} {off : Int} (hd : decode mi.2.1 pc = .ok (.ifnonnull off, 3)) (ht : (pc : Int) + off = (t : Int)) : jn_G mi pc (jn_ifnonnull t) := by
  intro p l e R s m args below meth c Q D dA c0 s0 X hR ls st M pc' ls' st' M' h hB K arr H locs cells slots hl hM hc hs
  obtain ⟨hx, hb, hml, hts, hown, hnm, hK⟩ := X
  dsimp only [jn_ifnonnull] at h
  split at h
  · cases h
    exact lv_ifnonnull hx hb hd ht (K arr H locs cells slots hl hM hc hs)
  · cases h
    exact lv_ifnonnullN hx hb hd (K arr H locs cells slots hl hM hc hs)
  · cases h
def jn_goto (t : Nat) (pc : Nat) (c : jn_C) : Option (Nat × jn_C) := some (t, c.1, c.2.1, c.2.2)
theorem jn_goto_ok {mi : jn_MI} {pc : Nat} {t : Nat} {off : Int} (hd : decode mi.2.1 pc = .ok (.goto off, 3)) (ht : (pc : Int) + off = (t : Int)) : jn_G mi pc (jn_goto t) := by
  intro p l e R s m args below meth c Q D dA c0 s0 X hR ls st M pc' ls' st' M' h hB K arr H locs cells slots hl hM hc hs
  obtain ⟨hx, hb, hml, hts, hown, hnm, hK⟩ := X
  dsimp only [jn_goto] at h
  cases h
  exact lv_goto hx hb hd ht (K arr H locs cells slots hl hM hc hs)
def jn_table (lo hi : Int) (ts : List Nat) (dt : Nat) (pc : Nat) (c : jn_C) : Option (Nat × jn_C) := match c.2.1 with
  | .int x :: st => if x.toInt < lo ∨ hi < x.toInt then some (dt, c.1, st, c.2.2) else match ts[(x.toInt - lo).toNat]? with
    | some t => some (t, c.1, st, c.2.2)
    | none => none
  | _ => none
theorem jn_table_ok {mi : jn_MI} {pc : Nat} {dflt lo hi : Int} {offs : Array Int} {len dt : Nat} {ts : List Nat} (hd : decode mi.2.1 pc = .ok (.tableswitch dflt lo hi offs, len)) (h1 : (pc : Int) + dflt = (dt : Int)) (h2 : offs.toList.map (fun o => (pc : Int) + o) = ts.map (fun (t : Nat) => (t : Int))) : jn_G mi pc (jn_table lo hi ts dt) := by
  intro p l e R s m args below meth c Q D dA c0 s0 X hR ls st M pc' ls' st' M' h hB K arr H locs cells slots hl hM hc hs
  obtain ⟨hx, hb, hml, hts, hown, hnm, hK⟩ := X
  dsimp only [jn_table] at h
  split at h
  · rename_i x rest
    split at h
    · rename_i hq
      cases h
      exact lv_tableOut hx hb hd hq h1 (K arr H locs cells slots hl hM hc hs)
    · rename_i hq
      split at h
      · rename_i t ht
        have h3 : (offs.toList.map (fun o => (pc : Int) + o))[(x.toInt - lo).toNat]? = some (t : Int) := by rw [h2, List.getElem?_map, ht]; rfl
        rw [List.getElem?_map] at h3
        cases h4 : offs.toList[(x.toInt - lo).toNat]? with
        | none => rw [h4] at h3; cases h3
        | some off =>
          rw [h4] at h3
          have h5 : (pc : Int) + off = (t : Int) := Option.some.inj h3
          cases h
          exact lv_tableIn hx hb hd (fun q => hq (Or.inl q)) (fun q => hq (Or.inr q)) (by rw [← Array.getElem?_toList]; exact h4) h5 (K arr H locs cells slots hl hM hc hs)
      · cases h
  · cases h
