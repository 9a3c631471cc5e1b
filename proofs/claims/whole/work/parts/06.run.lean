/-! Runs of the small machine, and that they are the machine's. -/
def jn_mo (f : Nat → jn_C → Option (Nat × jn_C)) : Prop := ∀ pc c q, f pc c = some q → q.2.2.2.1 = c.2.2.1 ∧ q.2.2.2.2.1 = c.2.2.2.1 ∧ c.2.2.2.2.length ≤ q.2.2.2.2.2.length ∧ jn_sl jn_N c.2.2.2.2 ≤ jn_sl jn_N q.2.2.2.2.2
theorem jn_iconst_mo (n : Int) : jn_mo (jn_iconst n) := by
  intro pc c q h
  dsimp only [jn_iconst] at h
  repeat' (split at h)
  all_goals first | (cases h; done) | (cases h; exact ⟨rfl, rfl, Nat.le_refl _, Nat.le_refl _⟩)
theorem jn_bipush_mo (v : Int32) : jn_mo (jn_bipush v) := by
  intro pc c q h
  dsimp only [jn_bipush] at h
  repeat' (split at h)
  all_goals first | (cases h; done) | (cases h; exact ⟨rfl, rfl, Nat.le_refl _, Nat.le_refl _⟩)
theorem jn_sipush_mo (v : Int32) : jn_mo (jn_sipush v) := by
  intro pc c q h
  dsimp only [jn_sipush] at h
  repeat' (split at h)
  all_goals first | (cases h; done) | (cases h; exact ⟨rfl, rfl, Nat.le_refl _, Nat.le_refl _⟩)
theorem jn_ldc_mo (v : Int32) : jn_mo (jn_ldc v) := by
  intro pc c q h
  dsimp only [jn_ldc] at h
  repeat' (split at h)
  all_goals first | (cases h; done) | (cases h; exact ⟨rfl, rfl, Nat.le_refl _, Nat.le_refl _⟩)
theorem jn_ldcw_mo (v : Int32) : jn_mo (jn_ldcw v) := by
  intro pc c q h
  dsimp only [jn_ldcw] at h
  repeat' (split at h)
  all_goals first | (cases h; done) | (cases h; exact ⟨rfl, rfl, Nat.le_refl _, Nat.le_refl _⟩)
theorem jn_ldc2_mo (v : Int64) : jn_mo (jn_ldc2 v) := by
  intro pc c q h
  dsimp only [jn_ldc2] at h
  repeat' (split at h)
  all_goals first | (cases h; done) | (cases h; exact ⟨rfl, rfl, Nat.le_refl _, Nat.le_refl _⟩)
theorem jn_lconst_mo (v : Int64) : jn_mo (jn_lconst v) := by
  intro pc c q h
  dsimp only [jn_lconst] at h
  repeat' (split at h)
  all_goals first | (cases h; done) | (cases h; exact ⟨rfl, rfl, Nat.le_refl _, Nat.le_refl _⟩)
theorem jn_null_mo : jn_mo (jn_null) := by
  intro pc c q h
  dsimp only [jn_null] at h
  repeat' (split at h)
  all_goals first | (cases h; done) | (cases h; exact ⟨rfl, rfl, Nat.le_refl _, Nat.le_refl _⟩)
theorem jn_iload_n_mo (i : Nat) : jn_mo (jn_iload_n i) := by
  intro pc c q h
  dsimp only [jn_iload_n] at h
  repeat' (split at h)
  all_goals first | (cases h; done) | (cases h; exact ⟨rfl, rfl, Nat.le_refl _, Nat.le_refl _⟩)
theorem jn_iload_mo (i : Nat) : jn_mo (jn_iload i) := by
  intro pc c q h
  dsimp only [jn_iload] at h
  repeat' (split at h)
  all_goals first | (cases h; done) | (cases h; exact ⟨rfl, rfl, Nat.le_refl _, Nat.le_refl _⟩)
theorem jn_lload_n_mo (i : Nat) : jn_mo (jn_lload_n i) := by
  intro pc c q h
  dsimp only [jn_lload_n] at h
  repeat' (split at h)
  all_goals first | (cases h; done) | (cases h; exact ⟨rfl, rfl, Nat.le_refl _, Nat.le_refl _⟩)
theorem jn_lload_mo (i : Nat) : jn_mo (jn_lload i) := by
  intro pc c q h
  dsimp only [jn_lload] at h
  repeat' (split at h)
  all_goals first | (cases h; done) | (cases h; exact ⟨rfl, rfl, Nat.le_refl _, Nat.le_refl _⟩)
theorem jn_aload_n_mo (i : Nat) : jn_mo (jn_aload_n i) := by
  intro pc c q h
  dsimp only [jn_aload_n] at h
  repeat' (split at h)
  all_goals first | (cases h; done) | (cases h; exact ⟨rfl, rfl, Nat.le_refl _, Nat.le_refl _⟩)
theorem jn_aload_mo (i : Nat) : jn_mo (jn_aload i) := by
  intro pc c q h
  dsimp only [jn_aload] at h
  repeat' (split at h)
  all_goals first | (cases h; done) | (cases h; exact ⟨rfl, rfl, Nat.le_refl _, Nat.le_refl _⟩)
theorem jn_istore_n_mo (i : Nat) : jn_mo (jn_istore_n i) := by
  intro pc c q h
  dsimp only [jn_istore_n] at h
  repeat' (split at h)
  all_goals first | (cases h; done) | (cases h; exact ⟨rfl, rfl, Nat.le_refl _, Nat.le_refl _⟩)
theorem jn_istore_mo (i : Nat) : jn_mo (jn_istore i) := by
  intro pc c q h
  dsimp only [jn_istore] at h
  repeat' (split at h)
  all_goals first | (cases h; done) | (cases h; exact ⟨rfl, rfl, Nat.le_refl _, Nat.le_refl _⟩)
theorem jn_lstore_n_mo (i : Nat) : jn_mo (jn_lstore_n i) := by
  intro pc c q h
  dsimp only [jn_lstore_n] at h
  repeat' (split at h)
  all_goals first | (cases h; done) | (cases h; exact ⟨rfl, rfl, Nat.le_refl _, Nat.le_refl _⟩)
theorem jn_lstore_mo (i : Nat) : jn_mo (jn_lstore i) := by
  intro pc c q h
  dsimp only [jn_lstore] at h
  repeat' (split at h)
  all_goals first | (cases h; done) | (cases h; exact ⟨rfl, rfl, Nat.le_refl _, Nat.le_refl _⟩)
theorem jn_astore_n_mo (i : Nat) : jn_mo (jn_astore_n i) := by
  intro pc c q h
  dsimp only [jn_astore_n] at h
  repeat' (split at h)
  all_goals first | (cases h; done) | (cases h; exact ⟨rfl, rfl, Nat.le_refl _, Nat.le_refl _⟩)
theorem jn_astore_mo (i : Nat) : jn_mo (jn_astore i) := by
  intro pc c q h
  dsimp only [jn_astore] at h
  repeat' (split at h)
  all_goals first | (cases h; done) | (cases h; exact ⟨rfl, rfl, Nat.le_refl _, Nat.le_refl _⟩)
theorem jn_iinc_mo (i : Nat) (n : Int) : jn_mo (jn_iinc i n) := by
  intro pc c q h
  dsimp only [jn_iinc] at h
  repeat' (split at h)
  all_goals first | (cases h; done) | (cases h; exact ⟨rfl, rfl, Nat.le_refl _, Nat.le_refl _⟩)
theorem jn_iadd_mo : jn_mo (jn_iadd) := by
  intro pc c q h
  dsimp only [jn_iadd] at h
  repeat' (split at h)
  all_goals first | (cases h; done) | (cases h; exact ⟨rfl, rfl, Nat.le_refl _, Nat.le_refl _⟩)
theorem jn_isub_mo : jn_mo (jn_isub) := by
  intro pc c q h
  dsimp only [jn_isub] at h
  repeat' (split at h)
  all_goals first | (cases h; done) | (cases h; exact ⟨rfl, rfl, Nat.le_refl _, Nat.le_refl _⟩)
theorem jn_imul_mo : jn_mo (jn_imul) := by
  intro pc c q h
  dsimp only [jn_imul] at h
  repeat' (split at h)
  all_goals first | (cases h; done) | (cases h; exact ⟨rfl, rfl, Nat.le_refl _, Nat.le_refl _⟩)
theorem jn_iand_mo : jn_mo (jn_iand) := by
  intro pc c q h
  dsimp only [jn_iand] at h
  repeat' (split at h)
  all_goals first | (cases h; done) | (cases h; exact ⟨rfl, rfl, Nat.le_refl _, Nat.le_refl _⟩)
theorem jn_ior_mo : jn_mo (jn_ior) := by
  intro pc c q h
  dsimp only [jn_ior] at h
  repeat' (split at h)
  all_goals first | (cases h; done) | (cases h; exact ⟨rfl, rfl, Nat.le_refl _, Nat.le_refl _⟩)
theorem jn_ixor_mo : jn_mo (jn_ixor) := by
  intro pc c q h
  dsimp only [jn_ixor] at h
  repeat' (split at h)
  all_goals first | (cases h; done) | (cases h; exact ⟨rfl, rfl, Nat.le_refl _, Nat.le_refl _⟩)
theorem jn_ishl_mo : jn_mo (jn_ishl) := by
  intro pc c q h
  dsimp only [jn_ishl] at h
  repeat' (split at h)
  all_goals first | (cases h; done) | (cases h; exact ⟨rfl, rfl, Nat.le_refl _, Nat.le_refl _⟩)
theorem jn_ishr_mo : jn_mo (jn_ishr) := by
  intro pc c q h
  dsimp only [jn_ishr] at h
  repeat' (split at h)
  all_goals first | (cases h; done) | (cases h; exact ⟨rfl, rfl, Nat.le_refl _, Nat.le_refl _⟩)
theorem jn_ladd_mo : jn_mo (jn_ladd) := by
  intro pc c q h
  dsimp only [jn_ladd] at h
  repeat' (split at h)
  all_goals first | (cases h; done) | (cases h; exact ⟨rfl, rfl, Nat.le_refl _, Nat.le_refl _⟩)
theorem jn_lsub_mo : jn_mo (jn_lsub) := by
  intro pc c q h
  dsimp only [jn_lsub] at h
  repeat' (split at h)
  all_goals first | (cases h; done) | (cases h; exact ⟨rfl, rfl, Nat.le_refl _, Nat.le_refl _⟩)
theorem jn_lmul_mo : jn_mo (jn_lmul) := by
  intro pc c q h
  dsimp only [jn_lmul] at h
  repeat' (split at h)
  all_goals first | (cases h; done) | (cases h; exact ⟨rfl, rfl, Nat.le_refl _, Nat.le_refl _⟩)
theorem jn_lxor_mo : jn_mo (jn_lxor) := by
  intro pc c q h
  dsimp only [jn_lxor] at h
  repeat' (split at h)
  all_goals first | (cases h; done) | (cases h; exact ⟨rfl, rfl, Nat.le_refl _, Nat.le_refl _⟩)
theorem jn_iushr_mo : jn_mo (jn_iushr) := by
  intro pc c q h
  dsimp only [jn_iushr] at h
  repeat' (split at h)
  all_goals first | (cases h; done) | (cases h; exact ⟨rfl, rfl, Nat.le_refl _, Nat.le_refl _⟩)
theorem jn_idiv_mo : jn_mo (jn_idiv) := by
  intro pc c q h
  dsimp only [jn_idiv] at h
  repeat' (split at h)
  all_goals first | (cases h; done) | (cases h; exact ⟨rfl, rfl, Nat.le_refl _, Nat.le_refl _⟩)
theorem jn_irem_mo : jn_mo (jn_irem) := by
  intro pc c q h
  dsimp only [jn_irem] at h
  repeat' (split at h)
  all_goals first | (cases h; done) | (cases h; exact ⟨rfl, rfl, Nat.le_refl _, Nat.le_refl _⟩)
theorem jn_ldiv_mo : jn_mo (jn_ldiv) := by
  intro pc c q h
  dsimp only [jn_ldiv] at h
  repeat' (split at h)
  all_goals first | (cases h; done) | (cases h; exact ⟨rfl, rfl, Nat.le_refl _, Nat.le_refl _⟩)
theorem jn_lrem_mo : jn_mo (jn_lrem) := by
  intro pc c q h
  dsimp only [jn_lrem] at h
  repeat' (split at h)
  all_goals first | (cases h; done) | (cases h; exact ⟨rfl, rfl, Nat.le_refl _, Nat.le_refl _⟩)
theorem jn_ineg_mo : jn_mo (jn_ineg) := by
  intro pc c q h
  dsimp only [jn_ineg] at h
  repeat' (split at h)
  all_goals first | (cases h; done) | (cases h; exact ⟨rfl, rfl, Nat.le_refl _, Nat.le_refl _⟩)
theorem jn_lneg_mo : jn_mo (jn_lneg) := by
  intro pc c q h
  dsimp only [jn_lneg] at h
  repeat' (split at h)
  all_goals first | (cases h; done) | (cases h; exact ⟨rfl, rfl, Nat.le_refl _, Nat.le_refl _⟩)
theorem jn_i2l_mo : jn_mo (jn_i2l) := by
  intro pc c q h
  dsimp only [jn_i2l] at h
  repeat' (split at h)
  all_goals first | (cases h; done) | (cases h; exact ⟨rfl, rfl, Nat.le_refl _, Nat.le_refl _⟩)
theorem jn_l2i_mo : jn_mo (jn_l2i) := by
  intro pc c q h
  dsimp only [jn_l2i] at h
  repeat' (split at h)
  all_goals first | (cases h; done) | (cases h; exact ⟨rfl, rfl, Nat.le_refl _, Nat.le_refl _⟩)
theorem jn_lcmp_mo : jn_mo (jn_lcmp) := by
  intro pc c q h
  dsimp only [jn_lcmp] at h
  repeat' (split at h)
  all_goals first | (cases h; done) | (cases h; exact ⟨rfl, rfl, Nat.le_refl _, Nat.le_refl _⟩)
theorem jn_dup_mo : jn_mo (jn_dup) := by
  intro pc c q h
  dsimp only [jn_dup] at h
  repeat' (split at h)
  all_goals first | (cases h; done) | (cases h; exact ⟨rfl, rfl, Nat.le_refl _, Nat.le_refl _⟩)
theorem jn_pop_mo : jn_mo (jn_pop) := by
  intro pc c q h
  dsimp only [jn_pop] at h
  repeat' (split at h)
  all_goals first | (cases h; done) | (cases h; exact ⟨rfl, rfl, Nat.le_refl _, Nat.le_refl _⟩)
theorem jn_dup2_mo : jn_mo (jn_dup2) := by
  intro pc c q h
  dsimp only [jn_dup2] at h
  repeat' (split at h)
  all_goals first | (cases h; done) | (cases h; exact ⟨rfl, rfl, Nat.le_refl _, Nat.le_refl _⟩)
theorem jn_ifeq_mo (t : Nat) : jn_mo (jn_ifeq t) := by
  intro pc c q h
  dsimp only [jn_ifeq] at h
  repeat' (split at h)
  all_goals first | (cases h; done) | (cases h; exact ⟨rfl, rfl, Nat.le_refl _, Nat.le_refl _⟩)
theorem jn_ifne_mo (t : Nat) : jn_mo (jn_ifne t) := by
  intro pc c q h
  dsimp only [jn_ifne] at h
  repeat' (split at h)
  all_goals first | (cases h; done) | (cases h; exact ⟨rfl, rfl, Nat.le_refl _, Nat.le_refl _⟩)
theorem jn_iflt_mo (t : Nat) : jn_mo (jn_iflt t) := by
  intro pc c q h
  dsimp only [jn_iflt] at h
  repeat' (split at h)
  all_goals first | (cases h; done) | (cases h; exact ⟨rfl, rfl, Nat.le_refl _, Nat.le_refl _⟩)
theorem jn_ifge_mo (t : Nat) : jn_mo (jn_ifge t) := by
  intro pc c q h
  dsimp only [jn_ifge] at h
  repeat' (split at h)
  all_goals first | (cases h; done) | (cases h; exact ⟨rfl, rfl, Nat.le_refl _, Nat.le_refl _⟩)
theorem jn_ifgt_mo (t : Nat) : jn_mo (jn_ifgt t) := by
  intro pc c q h
  dsimp only [jn_ifgt] at h
  repeat' (split at h)
  all_goals first | (cases h; done) | (cases h; exact ⟨rfl, rfl, Nat.le_refl _, Nat.le_refl _⟩)
theorem jn_ifle_mo (t : Nat) : jn_mo (jn_ifle t) := by
  intro pc c q h
  dsimp only [jn_ifle] at h
  repeat' (split at h)
  all_goals first | (cases h; done) | (cases h; exact ⟨rfl, rfl, Nat.le_refl _, Nat.le_refl _⟩)
theorem jn_iceq_mo (t : Nat) : jn_mo (jn_iceq t) := by
  intro pc c q h
  dsimp only [jn_iceq] at h
  repeat' (split at h)
  all_goals first | (cases h; done) | (cases h; exact ⟨rfl, rfl, Nat.le_refl _, Nat.le_refl _⟩)
theorem jn_icne_mo (t : Nat) : jn_mo (jn_icne t) := by
  intro pc c q h
  dsimp only [jn_icne] at h
  repeat' (split at h)
  all_goals first | (cases h; done) | (cases h; exact ⟨rfl, rfl, Nat.le_refl _, Nat.le_refl _⟩)
theorem jn_iclt_mo (t : Nat) : jn_mo (jn_iclt t) := by
  intro pc c q h
  dsimp only [jn_iclt] at h
  repeat' (split at h)
  all_goals first | (cases h; done) | (cases h; exact ⟨rfl, rfl, Nat.le_refl _, Nat.le_refl _⟩)
theorem jn_icge_mo (t : Nat) : jn_mo (jn_icge t) := by
  intro pc c q h
  dsimp only [jn_icge] at h
  repeat' (split at h)
  all_goals first | (cases h; done) | (cases h; exact ⟨rfl, rfl, Nat.le_refl _, Nat.le_refl _⟩)
theorem jn_icgt_mo (t : Nat) : jn_mo (jn_icgt t) := by
  intro pc c q h
  dsimp only [jn_icgt] at h
  repeat' (split at h)
  all_goals first | (cases h; done) | (cases h; exact ⟨rfl, rfl, Nat.le_refl _, Nat.le_refl _⟩)
theorem jn_icle_mo (t : Nat) : jn_mo (jn_icle t) := by
  intro pc c q h
  dsimp only [jn_icle] at h
  repeat' (split at h)
  all_goals first | (cases h; done) | (cases h; exact ⟨rfl, rfl, Nat.le_refl _, Nat.le_refl _⟩)
theorem jn_ifnull_mo (t : Nat) : jn_mo (jn_ifnull t) := by
  intro pc c q h
  dsimp only [jn_ifnull] at h
  repeat' (split at h)
  all_goals first | (cases h; done) | (cases h; exact ⟨rfl, rfl, Nat.le_refl _, Nat.le_refl _⟩)
theorem jn_ifnonnull_mo (t : Nat) : jn_mo (jn_ifnonnull t) := by
  intro pc c q h
  dsimp only [jn_ifnonnull] at h
  repeat' (split at h)
  all_goals first | (cases h; done) | (cases h; exact ⟨rfl, rfl, Nat.le_refl _, Nat.le_refl _⟩)
theorem jn_goto_mo (t : Nat) : jn_mo (jn_goto t) := by
  intro pc c q h
  dsimp only [jn_goto] at h
  repeat' (split at h)
  all_goals first | (cases h; done) | (cases h; exact ⟨rfl, rfl, Nat.le_refl _, Nat.le_refl _⟩)
theorem jn_table_mo (lo hi : Int) (ts : List Nat) (dt : Nat) : jn_mo (jn_table lo hi ts dt) := by
  intro pc c q h
  dsimp only [jn_table] at h
  repeat' (split at h)
  all_goals first | (cases h; done) | (cases h; exact ⟨rfl, rfl, Nat.le_refl _, Nat.le_refl _⟩)
theorem jn_getf_mo (ci k : Nat) : jn_mo (jn_getf ci k) := by
  intro pc c q h
  dsimp only [jn_getf] at h
  repeat' (split at h)
  all_goals first | (cases h; done) | (cases h; exact ⟨rfl, rfl, Nat.le_refl _, Nat.le_refl _⟩)
theorem jn_putf_mo (ci k κ : Nat) : jn_mo (jn_putf ci k κ) := by
  intro pc c q h
  dsimp only [jn_putf] at h
  repeat' (split at h)
  all_goals first | (cases h; done) | (cases h; (rename_i hcj; obtain ⟨rfl, -, -⟩ := hcj; exact ⟨rfl, rfl, Nat.le_of_eq jn_wr_len.symm, Nat.le_of_eq (jn_wr_sl (by assumption) (by rfl)).symm⟩))
theorem jn_putF_mo (ci k κ : Nat) : jn_mo (jn_putF ci k κ) := by
  intro pc c q h
  dsimp only [jn_putF] at h
  repeat' (split at h)
  all_goals first | (cases h; done) | (cases h; (rename_i hcj; obtain ⟨rfl, -, -⟩ := hcj; exact ⟨rfl, rfl, Nat.le_of_eq jn_wr_len.symm, Nat.le_of_eq (jn_wr_sl (by assumption) (by rfl)).symm⟩))
theorem jn_laload_mo : jn_mo (jn_laload) := by
  intro pc c q h
  dsimp only [jn_laload] at h
  repeat' (split at h)
  all_goals first | (cases h; done) | (cases h; exact ⟨rfl, rfl, Nat.le_refl _, Nat.le_refl _⟩)
theorem jn_zaload_mo : jn_mo (jn_zaload) := by
  intro pc c q h
  dsimp only [jn_zaload] at h
  repeat' (split at h)
  all_goals first | (cases h; done) | (cases h; exact ⟨rfl, rfl, Nat.le_refl _, Nat.le_refl _⟩)
theorem jn_iaload_mo : jn_mo (jn_iaload) := by
  intro pc c q h
  dsimp only [jn_iaload] at h
  repeat' (split at h)
  all_goals first | (cases h; done) | (cases h; exact ⟨rfl, rfl, Nat.le_refl _, Nat.le_refl _⟩)
theorem jn_slen_mo : jn_mo (jn_slen) := by
  intro pc c q h
  dsimp only [jn_slen] at h
  repeat' (split at h)
  all_goals first | (cases h; done) | (cases h; exact ⟨rfl, rfl, Nat.le_refl _, Nat.le_refl _⟩)
theorem jn_aaload_mo : jn_mo (jn_aaload) := by
  intro pc c q h
  dsimp only [jn_aaload] at h
  repeat' (split at h)
  all_goals first | (cases h; done) | (cases h; exact ⟨rfl, rfl, Nat.le_refl _, Nat.le_refl _⟩)
theorem jn_aastore_mo : jn_mo (jn_aastore) := by
  intro pc c q h
  dsimp only [jn_aastore] at h
  repeat' (split at h)
  all_goals first | (cases h; done) | (cases h; exact ⟨rfl, rfl, Nat.le_of_eq jn_wr_len.symm, Nat.le_of_eq (jn_wr_sl (by assumption) (by rfl)).symm⟩)
theorem jn_iastore_mo : jn_mo (jn_iastore) := by
  intro pc c q h
  dsimp only [jn_iastore] at h
  repeat' (split at h)
  all_goals first | (cases h; done) | (cases h; exact ⟨rfl, rfl, Nat.le_of_eq jn_wr_len.symm, Nat.le_of_eq (jn_wr_sl (by assumption) (by rfl)).symm⟩)
theorem jn_lastore_mo : jn_mo (jn_lastore) := by
  intro pc c q h
  dsimp only [jn_lastore] at h
  repeat' (split at h)
  all_goals first | (cases h; done) | (cases h; exact ⟨rfl, rfl, Nat.le_of_eq jn_wr_len.symm, Nat.le_of_eq (jn_wr_sl (by assumption) (by rfl)).symm⟩)
theorem jn_zastore_mo : jn_mo (jn_zastore) := by
  intro pc c q h
  dsimp only [jn_zastore] at h
  repeat' (split at h)
  all_goals first | (cases h; done) | (cases h; exact ⟨rfl, rfl, Nat.le_of_eq jn_wr_len.symm, Nat.le_of_eq (jn_wr_sl (by assumption) (by rfl)).symm⟩)
theorem jn_new_mo (ci N : Nat) (fs : List Value) : jn_mo (jn_new ci N fs) := by
  intro pc c q h
  dsimp only [jn_new] at h
  repeat' (split at h)
  all_goals first | (cases h; done) | (cases h; exact ⟨rfl, rfl, by simp [jn_ad], by simp [jn_ad, jn_sl_app]⟩)
theorem jn_newI_mo : jn_mo (jn_newI) := by
  intro pc c q h
  dsimp only [jn_newI] at h
  repeat' (split at h)
  all_goals first | (cases h; done) | (cases h; exact ⟨rfl, rfl, by simp [jn_ad], by simp [jn_ad, jn_sl_app]⟩)
theorem jn_newL_mo : jn_mo (jn_newL) := by
  intro pc c q h
  dsimp only [jn_newL] at h
  repeat' (split at h)
  all_goals first | (cases h; done) | (cases h; exact ⟨rfl, rfl, by simp [jn_ad], by simp [jn_ad, jn_sl_app]⟩)
theorem jn_newZ_mo : jn_mo (jn_newZ) := by
  intro pc c q h
  dsimp only [jn_newZ] at h
  repeat' (split at h)
  all_goals first | (cases h; done) | (cases h; exact ⟨rfl, rfl, by simp [jn_ad], by simp [jn_ad, jn_sl_app]⟩)
theorem jn_newA_mo (t : Nat) : jn_mo (jn_newA t) := by
  intro pc c q h
  dsimp only [jn_newA] at h
  repeat' (split at h)
  all_goals first | (cases h; done) | (cases h; exact ⟨rfl, rfl, by simp [jn_ad], by simp [jn_ad, jn_sl_app]⟩)
theorem jn_oinit_mo : jn_mo (jn_oinit) := by
  intro pc c q h
  dsimp only [jn_oinit] at h
  repeat' (split at h)
  all_goals first | (cases h; done) | (cases h; exact ⟨rfl, rfl, Nat.le_refl _, Nat.le_refl _⟩)
theorem jn_acopy_mo : jn_mo (jn_acopy) := by
  intro pc c q h
  dsimp only [jn_acopy] at h
  repeat' (split at h)
  all_goals first | (cases h; done) | (cases h; exact ⟨rfl, rfl, Nat.le_of_eq jn_wr_len.symm, Nat.le_of_eq (jn_wr_sl (by assumption) (by rfl)).symm⟩)
/-- a step; a call (method, kind: 0 static, 1 special, i + 2 virtual on an object of class i; how many values); a return (0 void, 1 int, 2 boolean, 3 long, 4 reference) -/
abbrev jn_E : Type := (Nat → jn_C → Option (Nat × jn_C)) ⊕ (Nat × Nat × Nat) ⊕ Nat
abbrev jn_Me : Type := jn_MI × MethodName × Option FieldType × List (Nat × jn_E)
def jn_find : List (Nat × jn_E) → Nat → Option jn_E
  | [], _ => none
  | (q, e) :: l, pc => if q = pc then some e else jn_find l pc
def jn_args : List Value → jn_Lo
  | [] => []
  | v :: l => if v.category = 2 then some v :: none :: jn_args l else some v :: jn_args l
def jn_en (n : Nat) (vs : List Value) : jn_Lo := jn_args vs ++ List.replicate (n - (jn_args vs).length) none
def jn_ret (k : Nat) (st : List Value) : Option (Option Value) := match st with
  | [] => if k = 0 then some none else none
  | [.int v] => if k = 1 ∨ (k = 2 ∧ (v = 0 ∨ v = 1)) then some (some (.int v)) else none
  | [.long v] => if k = 3 then some (some (.long v)) else none
  | [.ref a] => if k = 4 then some (some (.ref a)) else none
  | [.null] => if k = 4 then some (some .null) else none
  | _ => none
/-- the receiver -/
def jn_rc (κ : Nat) (M : jn_M) (vs : List Value) : Bool := match κ with
  | 0 => true
  | 1 => match vs with
    | .ref _ :: _ => true
    | _ => false
  | i + 2 => match vs with
    | .ref b :: _ => match jn_rd M b with
      | some (.inr (j, _)) => j == i
      | _ => false
    | _ => false
def jn_run (G : Nat → jn_Me) : Nat → Nat → Nat → Nat → jn_C → Option (Option Value × jn_M)
  | 0, _, _, _, _ => none
  | n + 1, d, mi, pc, c => match jn_find (G mi).2.2.2 pc with
    | none => none
    | some (.inl f) => match f pc c with
      | none => none
      | some q => jn_run G n d mi q.1 q.2
    | some (.inr (.inl (cm, κ, na))) => match d with
      | d' + 2 => if na ≤ c.2.1.length ∧ ((c.2.1.drop na).map fun v => v.category).sum ≤ 8 ∧ (jn_args (c.2.1.take na).reverse).length ≤ (G cm).1.2.2.1 ∧ jn_rc κ c.2.2 (c.2.1.take na).reverse = true then
          match jn_run G n (d' + 1) cm 0 (jn_en (G cm).1.2.2.1 (c.2.1.take na).reverse, [], c.2.2) with
          | none => none
          | some r => jn_run G n (d' + 2) mi (pc + 3) (c.1, r.1.toList ++ c.2.1.drop na, r.2)
        else none
      | _ => none
    | some (.inr (.inr k)) => match jn_ret k c.2.1 with
      | none => none
      | some v => some (v, c.2.2)
theorem jn_args_len : ∀ (vs : List Value), (jn_args vs).length = (lg_sl vs).length
  | [] => rfl
  | v :: vs => by
    have ih := jn_args_len vs
    simp only [lg_sl] at ih
    by_cases h : v.category = 2
    · simp [jn_args, lg_sl, h, ih]
    · simp [jn_args, lg_sl, h, ih]
theorem jn_args_at : ∀ (vs : List Value) (k0 k : Nat) (w : Value), (jn_args vs)[k]? = some (some w) → (k0 + k, w) ∈ lv_args k0 vs
  | [], k0, k, w, h => by simp [jn_args] at h
  | v :: vs, k0, k, w, h => by
    by_cases hc : v.category = 2
    · rw [jn_args, if_pos hc] at h
      rw [lv_args, if_pos hc]
      match k, h with
      | 0, h => simp at h; subst h; exact List.mem_cons_self
      | 1, h => simp at h
      | k + 2, h =>
        have h1 := jn_args_at vs (k0 + 2) k w (by simpa using h)
        rw [show k0 + (k + 2) = k0 + 2 + k by omega]
        exact List.mem_cons_of_mem _ h1
    · rw [jn_args, if_neg hc] at h
      rw [lv_args, if_neg hc]
      match k, h with
      | 0, h => simp at h; subst h; exact List.mem_cons_self
      | k + 1, h =>
        have h1 := jn_args_at vs (k0 + 1) k w (by simpa using h)
        rw [show k0 + (k + 1) = k0 + 1 + k by omega]
        exact List.mem_cons_of_mem _ h1
theorem jn_entry (vs : List Value) {n : Nat} (h : (jn_args vs).length ≤ n) : jn_lh ((lg_sl vs ++ List.replicate (n - (lg_sl vs).length) Slot.unset).toArray) n (jn_en n vs) := by
  have h1 := lv_entry vs (n := n) (by rw [← jn_args_len]; exact h)
  refine ⟨by simp [jn_en]; omega, h1.1, h1.2.1, ?_⟩
  rintro ⟨k, w⟩ hq
  apply h1.2.2
  have h3 := ((jn_ix_mem _ 0 k w).mp hq).2
  rw [Nat.sub_zero] at h3
  unfold jn_en at h3
  by_cases hk : k < (jn_args vs).length
  · rw [List.getElem?_append_left hk] at h3
    have h4 := jn_args_at vs 0 k w h3
    rwa [Nat.zero_add] at h4
  · rw [List.getElem?_append_right (by omega), List.getElem?_replicate] at h3
    split at h3 <;> cases h3
def jn_ri : Nat → Instr
  | 0 => .return_
  | 1 => .ireturn
  | 2 => .ireturn
  | 3 => .lreturn
  | _ => .areturn
/-- the words that move by themselves; the four others -/
def jn_tg : List Jvm.Cond := jn_tb.filter goodWord
def jn_n1 : Jvm.Cond := .methodLinkNest "DebtNet" 43 ⟨"DebtNet$Table", "<init>", "()V"⟩ "DebtNet"
def jn_n2 : Jvm.Cond := .methodLinkNest "DebtNet$Breaker" 11 ⟨"DebtNet$Taking", "<init>", "()V"⟩ "DebtNet"
def jn_n3 : Jvm.Cond := .arrayOver (.object "DebtNet$Net")
def jn_n4 : Jvm.Cond := .arrayOver (.object "DebtNet$Book")
def jn_Ex (U : State) : Prop := va_Nw jn_n1 U ∧ va_Nw jn_n2 U ∧ va_AO "DebtNet$Net" U ∧ va_AO "DebtNet$Book" U
theorem jn_tbl_all : ∀ w ∈ jn_tb, goodWord w = true ∨ w = jn_n1 ∨ w = jn_n2 ∨ w = jn_n3 ∨ w = jn_n4 := by decide +kernel
theorem jn_Ex.warm {s U : State} (hW : s.WarmedH U.vm) (h : jn_Ex s) : jn_Ex U := ⟨va_Nw.warmM hW h.1, va_Nw.warmM hW h.2.1, va_AO.moved hW.alike h.2.2.1, va_AO.moved hW.alike h.2.2.2⟩
theorem jn_Ex.same {s U : State} (hv : s.vm = U.vm) (h : jn_Ex s) : jn_Ex U := ⟨va_Nw.same rfl hv h.1, va_Nw.same rfl hv h.2.1, va_AO.moved (by rw [hv]; exact Vm.Alike.refl _) h.2.2.1, va_AO.moved (by rw [hv]; exact Vm.Alike.refl _) h.2.2.2⟩
theorem jn_Ex.all {s : State} {args : Array Value} (h : jn_Ex s) (hg : ∀ w ∈ jn_tg, w.before args s = true) : ∀ w ∈ jn_tb, w.before args s = true := by
  intro w hw
  rcases jn_tbl_all w hw with h1 | rfl | rfl | rfl | rfl
  · exact hg w (List.mem_filter.mpr ⟨hw, h1⟩)
  · exact va_Nw.use rfl h.1
  · exact va_Nw.use rfl h.2.1
  · exact va_AO.use h.2.2.1
  · exact va_AO.use h.2.2.2
/-- the callee's words -/
def jn_wd (me : jn_Me) : List Jvm.Cond := .code me.2.1 me.1.2.1 me.1.2.2.1 me.2.2.1 :: jn_tg
def jn_GC (mi : jn_MI) (pc : Nat) (me : jn_Me) (κ na : Nat) : Prop :=
  ∀ (p : Program) (l : Launch) (e : Env) (R : Room) (s : State) (m : MethodId) (args : Array Value) (below : List Frame) (meth : Method) (c : Code) (D : va_G) (dA : Nat → ClassId), jn_Ctx mi p s m args meth c D dA →
  ∀ (vs rest : List Value) (arr : Array Slot) (H : Heap) (locs : List Loc) (cells slots mc ms : Nat) (rm : Room) (Pc : Array Value → State → Prop) (Qc : Array Value → State → Outcome → State → Prop) (free : Addr → Prop),
    Met l me.2.1 (jn_wd me) rm Pc Qc mc ms free → rm.cells = mc → rm.slots = ms → rm.frames + 1 ≤ R.frames → 8 + (me.1.2.2.1 + 11) + rm.locals ≤ R.locals → FrameBlind Pc → (∀ U : State, U.heap = H → s.WarmedH U.vm → Pc vs.toArray U) → vs.length = na →
    (∀ i, κ = i + 2 → ∃ (b : Nat) (As : List Value) (q : vw_C) (cellB : Cell), vs = .ref b :: As ∧ vwCl[i]? = some q ∧ H[b]? = some cellB ∧ cellB.vm.isStatics = false ∧ s.vm.findClass q.1 = some cellB.cls) →
    (κ = 1 → ∃ (b : Nat) (As : List Value), vs = .ref b :: As) →
    arr.size = mi.2.2.1 → (rest.map fun v => v.category).sum ≤ 8 → cells + mc ≤ R.cells ∧ slots + ms ≤ R.slots →
    va_Run p l e R s m args below meth c H locs cells slots mc ms (F0 m pc arr (vs.reverse ++ rest)) rest (Qc vs.toArray) free
theorem jn_good_wd {me : jn_Me} (h : Cond.code me.2.1 me.1.2.1 me.1.2.2.1 me.2.2.1 ∈ jn_tb) : GoodIn jn_tb (jn_wd me) := by
  intro w hw
  rcases List.mem_cons.mp hw with rfl | h2
  · refine ⟨h, good_of_word ?_⟩
    rcases jn_tbl_all _ h with h1 | h1 | h1 | h1 | h1
    · exact h1
    · cases h1
    · cases h1
    · cases h1
    · cases h1
  · obtain ⟨h3, h4⟩ := List.mem_filter.mp h2
    exact ⟨h3, good_of_word h4⟩
theorem jn_callV {mi : jn_MI} {pc i na ci : Nat} {me : jn_Me} {q : vw_C} (hd : decode mi.2.1 pc = .ok (.invokevirtual i, 3)) (hc : vwCl[ci]? = some q) (hcode : Cond.code me.2.1 me.1.2.1 me.1.2.2.1 me.2.2.1 ∈ jn_tb) (hw1 : Cond.methodLink mi.1 i me.2.1 ∈ jn_tb) (hw2 : Cond.instanceMethod me.2.1 ∈ jn_tb) (hw3 : Cond.selects q.1 me.2.1 me.2.1 ∈ jn_tb) (hw4 : Cond.initialized me.2.1.cls ∈ jn_tb)
    (hy : me.2.1.cls ≠ "java/lang/invoke/MethodHandle" ∧ me.2.1.cls ≠ "java/lang/invoke/VarHandle" ∧ (parseMethodDescriptor me.2.1.desc).map (fun d => d.parameters.length) = some na) : jn_GC mi pc me (ci + 2) (na + 1) := by
  intro p l e R s m args below meth c D dA X vs rest arr H locs cells slots mc ms rm Pc Qc free hM e1 e2 e3 e4 hB hP hlen hrc _ harr hrest hf
  obtain ⟨hx, hb, hml, hts, hown, hnm, hK⟩ := X
  obtain ⟨b, As, q', cellB, rfl, hq', h1, h2, h3⟩ := hrc ci rfl
  have hqq : q' = q := Option.some.inj (hq'.symm.trans hc)
  subst hqq
  have cw : CallW R s args mi.1 q'.1 i me.2.1 me.1.2.1 me.1.2.2.1 me.2.2.1 (jn_wd me) rm mc ms na := ⟨callB_of na hts (jn_good_wd hcode) rfl e1 e2 (hts _ hw4) (hts _ hw1) hy ⟨e3, e4⟩, hts _ hw2, hts _ hw3⟩
  have h := va_runV (Ts := jn_tb) (nL := mi.2.2.1) (b := b) (As := As) (rest := rest) (g := F0 m pc arr ((Value.ref b :: As).reverse ++ rest)) (locs := locs) (cells := cells) (slots := slots) (H := H) (e := e) (below := below) (meth := meth) ⟨hx, hb, hml, hown, hts⟩ hM cw ⟨hB, ⟨cellB, h1, h2, h3⟩, hP⟩ rfl (by simpa using hlen) harr (by simp) (lv_room hrest) hd hf
  exact h
theorem jn_callS {mi : jn_MI} {pc i na : Nat} {me : jn_Me} (hd : decode mi.2.1 pc = .ok (.invokestatic i, 3)) (hcode : Cond.code me.2.1 me.1.2.1 me.1.2.2.1 me.2.2.1 ∈ jn_tb) (hw1 : Cond.methodLink mi.1 i me.2.1 ∈ jn_tb) (hw2 : Cond.static me.2.1 ∈ jn_tb) (hw4 : Cond.initialized me.2.1.cls ∈ jn_tb)
    (hy : me.2.1.cls ≠ "java/lang/invoke/MethodHandle" ∧ me.2.1.cls ≠ "java/lang/invoke/VarHandle" ∧ (parseMethodDescriptor me.2.1.desc).map (fun d => d.parameters.length) = some na) : jn_GC mi pc me 0 na := by
  intro p l e R s m args below meth c D dA X vs rest arr H locs cells slots mc ms rm Pc Qc free hM e1 e2 e3 e4 hB hP hlen _ _ harr hrest hf
  obtain ⟨hx, hb, hml, hts, hown, hnm, hK⟩ := X
  have cw : CallB R s args mi.1 i me.2.1 me.1.2.1 me.1.2.2.1 me.2.2.1 (jn_wd me) rm mc ms na := callB_of na hts (jn_good_wd hcode) rfl e1 e2 (hts _ hw4) (hts _ hw1) hy ⟨e3, e4⟩
  exact va_runS (Ts := jn_tb) (nL := mi.2.2.1) (As := vs) (rest := rest) (g := F0 m pc arr (vs.reverse ++ rest)) ⟨hx, hb, hml, hown, hts⟩ hM ⟨cw, hts _ hw2⟩ ⟨hB, hP⟩ rfl hlen harr rfl (lv_room hrest) hd hf
theorem jn_callI {mi : jn_MI} {pc i na : Nat} {me : jn_Me} (hd : decode mi.2.1 pc = .ok (.invokespecial i, 3)) (hret : me.2.2.1 = none) (hcode : Cond.code me.2.1 me.1.2.1 me.1.2.2.1 me.2.2.1 ∈ jn_tb) (hw1 : Cond.methodLink mi.1 i me.2.1 ∈ jn_tb) (hw2 : Cond.instanceMethod me.2.1 ∈ jn_tb) (hw4 : Cond.initialized me.2.1.cls ∈ jn_tb) (hini : me.2.1.name = "<init>")
    (hy : me.2.1.cls ≠ "java/lang/invoke/MethodHandle" ∧ me.2.1.cls ≠ "java/lang/invoke/VarHandle" ∧ (parseMethodDescriptor me.2.1.desc).map (fun d => d.parameters.length) = some na) : jn_GC mi pc me 1 (na + 1) := by
  intro p l e R s m args below meth c D dA X vs rest arr H locs cells slots mc ms rm Pc Qc free hM e1 e2 e3 e4 hB hP hlen _ hrc harr hrest hf
  obtain ⟨hx, hb, hml, hts, hown, hnm, hK⟩ := X
  obtain ⟨b, As, rfl⟩ := hrc rfl
  have cw : CallB R s args mi.1 i me.2.1 me.1.2.1 me.1.2.2.1 none (jn_wd me) rm mc ms na := by
    have := callB_of (R := R) (rm := rm) (mc := mc) (ms := ms) na hts (jn_good_wd hcode) rfl e1 e2 (hts _ hw4) (hts _ hw1) hy ⟨e3, e4⟩
    rwa [hret] at this
  exact va_runI (Ts := jn_tb) (nL := mi.2.2.1) (b := b) (As := As) (rest := rest) (g := F0 m pc arr ((Value.ref b :: As).reverse ++ rest)) ⟨hx, hb, hml, hown, hts⟩ hM ⟨cw, hini, hts _ hw2⟩ ⟨hB, hP⟩ rfl (by simpa using hlen) harr (by simp) (lv_room hrest) hd hf
theorem jn_callN {mi : jn_MI} {pc i na : Nat} {host : String} {me : jn_Me} (hd : decode mi.2.1 pc = .ok (.invokespecial i, 3)) (hret : me.2.2.1 = none) (hcode : Cond.code me.2.1 me.1.2.1 me.1.2.2.1 me.2.2.1 ∈ jn_tb) (hw1 : Cond.methodLinkNest mi.1 i me.2.1 host ∈ jn_tb) (hw2 : Cond.instanceMethod me.2.1 ∈ jn_tb) (hw4 : Cond.initialized me.2.1.cls ∈ jn_tb) (hini : me.2.1.name = "<init>")
    (hy : me.2.1.cls ≠ "java/lang/invoke/MethodHandle" ∧ me.2.1.cls ≠ "java/lang/invoke/VarHandle" ∧ (parseMethodDescriptor me.2.1.desc).map (fun d => d.parameters.length) = some na) : jn_GC mi pc me 1 (na + 1) := by
  intro p l e R s m args below meth c D dA X vs rest arr H locs cells slots mc ms rm Pc Qc free hM e1 e2 e3 e4 hB hP hlen _ hrc harr hrest hf
  obtain ⟨hx, hb, hml, hts, hown, hnm, hK⟩ := X
  obtain ⟨b, As, rfl⟩ := hrc rfl
  have cw : va_CN R s args mi.1 i me.2.1 host me.1.2.1 me.1.2.2.1 none (jn_wd me) rm mc ms na := by
    have hGo := jn_good_wd hcode
    refine ⟨⟨e1, e2, e3, e4, pay_in hts hGo, ?_⟩, ?_, hts _ hw4, ⟨hy.1, hy.2.1⟩, fun sig h => ?_, hts _ hw1⟩
    · rw [← hret]; exact List.mem_cons_self
    · rw [← hret]; exact hts _ hcode
    · have h2 := hy.2.2
      rw [h] at h2
      exact (Option.some.inj h2).symm
  exact va_runIN (Ts := jn_tb) (nL := mi.2.2.1) (b := b) (As := As) (rest := rest) (g := F0 m pc arr ((Value.ref b :: As).reverse ++ rest)) ⟨hx, hb, hml, hown, hts⟩ hM ⟨cw, hini, hts _ hw2⟩ ⟨hB, hP⟩ rfl (by simpa using hlen) harr (by simp) (lv_room hrest) hd hf

def jn_rt (k : Nat) (ret : Option FieldType) : Prop := match k with
  | 0 => ret = none
  | 1 => ret = some .int
  | 2 => ret = some .boolean
  | 3 => ret = some .long
  | _ => ∃ C, ret = some (.object C)
def jn_GE (G : Nat → jn_Me) (mi pc : Nat) : jn_E → Prop
  | .inl f => jn_G (G mi).1 pc f ∧ jn_mo f
  | .inr (.inl (cm, κ, na)) => jn_GC (G mi).1 pc (G cm) κ na
  | .inr (.inr k) => decode (G mi).1.2.1 pc = .ok (jn_ri k, 1) ∧ jn_rt k (G mi).2.2.1
def jn_GM (G : Nat → jn_Me) (mi : Nat) : Prop :=
  (G mi).1.1 = (G mi).2.1.cls ∧ (G mi).1.2.2.2 = (G mi).2.1.name ∧ plainFor (G mi).2.1 = true ∧ (G mi).1.2.2.1 ≤ 23 ∧ ∀ pc e, jn_find (G mi).2.2.2 pc = some e → jn_GE G mi pc e
theorem jn_mono {G : Nat → jn_Me} (hG : ∀ mi, jn_GM G mi) : ∀ (n d mi pc : Nat) (cf : jn_C) (r : Option Value × jn_M), jn_run G n d mi pc cf = some r → r.2.1 = cf.2.2.1 ∧ r.2.2.1 = cf.2.2.2.1 ∧ cf.2.2.2.2.length ≤ r.2.2.2.length ∧ jn_sl jn_N cf.2.2.2.2 ≤ jn_sl jn_N r.2.2.2 := by
  intro n
  induction n with
  | zero => intro d mi pc cf r h; simp [jn_run] at h
  | succ n ih =>
    intro d mi pc cf r h
    unfold jn_run at h
    split at h
    · cases h
    · rename_i f hf
      have hE := (hG mi).2.2.2.2 pc _ hf
      split at h
      · cases h
      · rename_i q hq
        obtain ⟨a1, a2, a3, a4⟩ := hE.2 pc cf q hq
        obtain ⟨b1, b2, b3, b4⟩ := ih _ _ _ _ _ h
        exact ⟨b1.trans a1, b2.trans a2, Nat.le_trans a3 b3, Nat.le_trans a4 b4⟩
    · split at h
      · split at h
        · split at h
          · cases h
          · rename_i q hq
            obtain ⟨a1, a2, a3, a4⟩ := ih _ _ _ _ _ hq
            obtain ⟨b1, b2, b3, b4⟩ := ih _ _ _ _ _ h
            exact ⟨b1.trans a1, b2.trans a2, Nat.le_trans a3 b3, Nat.le_trans a4 b4⟩
        · cases h
      · cases h
    · split at h
      · cases h
      · cases h
        exact ⟨rfl, rfl, Nat.le_refl _, Nat.le_refl _⟩
/-- what a callee finds -/
def jn_Pr (D : va_G) (dA : Nat → ClassId) (M : jn_M) (U : State) : Prop :=
  va_P D vwCl (jn_ws dA M.2.1 M.2.2) U.heap ∧ U.heap.size = jn_nx M ∧ va_X M.1.1 M.1.2.1 M.1.2.2 U U.heap ∧ M.1.1 < M.2.1 ∧ va_K D vwCl (jn_tys dA) U ∧ jn_Ex U
def jn_Qr (D : va_G) (dA : Nat → ClassId) (M : jn_M) (r : Option Value × jn_M) : Array Value → State → Outcome → State → Prop := fun _ st o t =>
  o = .returned r.1 ∧ va_P D vwCl (jn_ws dA r.2.2.1 r.2.2.2) t.heap ∧ va_F (fun q => M.2.1 ≤ q) st t
theorem jn_blind (D : va_G) (dA : Nat → ClassId) (M : jn_M) (vs : List Value) : FrameBlind (va_Pc vs (jn_Pr D dA M)) := by
  intro a U g mk h
  obtain ⟨h0, h1, h2, h3, h4, h5, h6⟩ := h
  exact ⟨h0, h1, h2, va_X.moved (U := U.calling g mk a) (Vm.Alike.refl U.vm) h3, h4, va_K.moved (u := U) (U := U.calling g mk a) (Vm.Alike.refl U.vm) h5, h6.same rfl⟩
/-- where a run ends -/
def jn_Z (G : Nat → jn_Me) (mi : Nat) (p : Program) (l : Launch) (e : Env) (R : Room) (s : State) (m : MethodId) (args : Array Value) (below : List Frame) (meth : Method) (c : Code) (Q : State → Prop) (D : va_G) (dA : Nat → ClassId) (c0 s0 : Nat) (r : Option Value × jn_M) : Prop :=
  ∀ (pc k : Nat) (arr : Array Slot) (H : Heap) (locs : List Loc) (cells slots : Nat) (st : List Value), decode (G mi).1.2.1 pc = .ok (jn_ri k, 1) → jn_rt k (G mi).2.2.1 → jn_ret k st = some r.1 → jn_Mem D dA s c0 r.2 H locs → cells + c0 = r.2.2.2.length → slots + s0 = jn_sl jn_N r.2.2.2 → W p l e R s m args below meth c H locs cells slots Q (F0 m pc arr st)
/-- a contract out of its body, for a method that no native stands for -/
theorem jn_ofW {l : Launch} {y : MethodName} {ws ws' : List Jvm.Cond} {rm : Room} {Pc : Array Value → State → Prop} {Qc : Array Value → State → Outcome → State → Prop} {mc ms : Nat} {free : Addr → Prop} {cc : ByteArray} {maxL : Nat} {ret : Option FieldType}
    (hy : plainFor y = true) (hw : ws = Cond.code y cc maxL ret :: ws')
    (body : ∀ p e s m args below meth c s₁, BodyLoose p l y (headSpec ws rm) cc maxL ret e s m args below meth c s₁ → c.maxLocals = maxL → Pc args s →
      W p l e (headSpec ws rm).room s m args below meth c s.heap [] 0 0 (MQ below Qc args s mc ms free) (entryFrame m args maxL)) : Met l y ws rm Pc Qc mc ms free := by
  refine MetFree.of_bodySF (code := cc) (maxLocals := maxL) (ret := ret) hy (fun args s m h hn => ?_) (fun p e s m args below meth c s₁ B hml hP _ => ?_)
  · have hc := atoms_spec (ws := ws) h _ (hw ▸ List.mem_cons_self)
    obtain ⟨meth, c, g⟩ := Cond.code_spec hn hc
    exact ⟨meth, c, g.1, g.2.1, g.2.2.1, g.2.2.2.1, g.2.2.2.2.1, g.2.2.2.2.2.1⟩
  · have hh : s₁.heap = s.heap := by rw [B.state]; rfl
    obtain ⟨t, st, o, hr, he, hq, hf⟩ := body p e s m args below meth c s₁ B hml hP s₁ hh (Stand.of_body B)
    exact ⟨t, o, st, hr, he, hq, hf⟩
/-- a return of a method, with its contract's end -/
theorem jn_end {p : Program} {l : Launch} {e : Env} {R : Room} {s : State} {m : MethodId} {args : Array Value} {below : List Frame} {meth : Method} {c : Code} {H : Heap} {locs : List Loc} {cells slots pc k : Nat} {arr : Array Slot} {st : List Value} {v : Option Value} {cc : ByteArray} {ret : Option FieldType} {Qc : Array Value → State → Outcome → State → Prop} {free : Addr → Prop}
    (hx : p.tables.exec = Jvm.exec) (hb : c.code = cc) (hr : meth.sig.returnType = ret) (hlocks : meth.locks = false) (hd : decode cc pc = .ok (jn_ri k, 1)) (hk : jn_rt k ret) (hv : jn_ret k st = some v) (hq : ∀ t : State, t.heap = H → s.WarmedH t.vm → Qc args s (.returned v) t) (hf : ∀ q ∈ locs, free q.base) :
    W p l e R s m args below meth c H locs cells slots (MQ below Qc args s cells slots free) (F0 m pc arr st) := by
  unfold jn_ret at hv
  split at hv
  · split at hv
    · rename_i h0
      subst h0
      cases hv
      exact W.vret hx hb (hr.trans hk) hq hf hd
    · cases hv
  · split at hv
    · rename_i x h0
      cases hv
      rcases h0 with rfl | ⟨rfl, h1⟩
      · exact W.iret hx hb (hr.trans hk) hq hf hd
      · exact W.zret (ty := .boolean) hx hb (hr.trans hk) (by rcases h1 with rfl | rfl <;> decide +kernel) hq hf hd
    · cases hv
  · split at hv
    · rename_i h0
      subst h0
      cases hv
      exact W.lret hx hb (hr.trans hk) hq hf hd
    · cases hv
  · split at hv
    · rename_i a h0
      subst h0
      cases hv
      obtain ⟨C, hC⟩ := hk
      exact W.aret hx hb (hr.trans hC) (Or.inl ⟨C, rfl⟩) (Or.inr ⟨_, rfl⟩) hq hf hd
    · cases hv
  · split at hv
    · rename_i h0
      subst h0
      cases hv
      obtain ⟨C, hC⟩ := hk
      exact W.aret hx hb (hr.trans hC) (Or.inl ⟨C, rfl⟩) (Or.inl rfl) hq hf hd
    · cases hv
  · cases hv
theorem jn_core {G : Nat → jn_Me} (hG : ∀ mi, jn_GM G mi) : ∀ (n d mi pc : Nat) (cf : jn_C) (r : Option Value × jn_M), jn_run G n d mi pc cf = some r →
    ∀ (p : Program) (l : Launch) (e : Env) (R : Room) (s : State) (m : MethodId) (args : Array Value) (below : List Frame) (meth : Method) (c : Code) (Q : State → Prop) (D : va_G) (dA : Nat → ClassId) (c0 s0 : Nat), jn_Ctx (G mi).1 p s m args meth c D dA → jn_Ex s → 1 ≤ d → d ≤ R.frames → 42 * d ≤ R.locals → r.2.2.2.length ≤ R.cells + c0 → jn_sl jn_N r.2.2.2 ≤ R.slots + s0 →
      jn_Z G mi p l e R s m args below meth c Q D dA c0 s0 r → jn_R p l e R s m args below meth c Q D dA c0 s0 (G mi).1.2.2.1 pc cf.1 cf.2.1 cf.2.2 := by
  intro n
  induction n with
  | zero => intro d mi pc cf r h; simp [jn_run] at h
  | succ n ih =>
    intro d mi pc cf r h p l e R s m args below meth c Q D dA c0 s0 X hEx hd1 hdf hdl hb1 hb2 hZ
    have h' := h
    unfold jn_run at h
    split at h
    · cases h
    · rename_i f hf
      have hE := (hG mi).2.2.2.2 pc _ hf
      split at h
      · cases h
      · rename_i q hq
        have hm := jn_mono hG _ _ _ _ _ _ h
        exact hE.1 p l e R s m args below meth c Q D dA c0 s0 X ⟨by omega, by omega⟩ cf.1 cf.2.1 cf.2.2 q.1 q.2.1 q.2.2.1 q.2.2.2 hq ⟨Nat.le_trans hm.2.2.1 hb1, Nat.le_trans hm.2.2.2 hb2⟩ (ih _ _ _ _ _ h p l e R s m args below meth c Q D dA c0 s0 X hEx hd1 hdf hdl hb1 hb2 hZ)
    · rename_i cm κ na hf
      have hE := (hG mi).2.2.2.2 pc _ hf
      split at h
      · rename_i d'
        split at h
        · rename_i hg
          obtain ⟨hna, hrest, hargs, hrc⟩ := hg
          split at h
          · cases h
          · rename_i r1 hr1
            have hm1 := jn_mono hG _ _ _ _ _ _ hr1
            have hm2 := jn_mono hG _ _ _ _ _ _ h
            dsimp only at hm1 hm2
            generalize hvs : (cf.2.1.take na).reverse = vs at hr1 hargs hrc
            generalize hre : cf.2.1.drop na = rest at h hrest
            have hst : cf.2.1 = vs.reverse ++ rest := by rw [← hvs, ← hre, List.reverse_reverse, List.take_append_drop]
            have hlen : vs.length = na := by rw [← hvs]; simp; omega
            obtain ⟨hx, hbc, hml, hts, hown, hnm, hK⟩ := X
            obtain ⟨mc, hmc⟩ : ∃ mc, cf.2.2.2.2.length + mc = r1.2.2.2.length := ⟨_, Nat.add_sub_cancel' hm1.2.2.1⟩
            obtain ⟨ms, hms⟩ : ∃ ms, jn_sl jn_N cf.2.2.2.2 + ms = jn_sl jn_N r1.2.2.2 := ⟨_, Nat.add_sub_cancel' hm1.2.2.2⟩
            have hM : Met l (G cm).2.1 (jn_wd (G cm)) ({ frames := d' + 1, cells := mc, slots := ms, locals := 42 * (d' + 1) }) (va_Pc vs (jn_Pr D dA cf.2.2)) (jn_Qr D dA cf.2.2 r1) mc ms (fun q => cf.2.2.2.1 ≤ q) := by
              refine jn_ofW (cc := (G cm).1.2.1) (maxL := (G cm).1.2.2.1) (ret := (G cm).2.2.1) (hG cm).2.2.1 rfl ?_
              intro p e s m args below meth c s₁ B hml hv
              obtain ⟨rfl, hP, hz, hXs, hbb, hK, hEx⟩ := hv
              rw [lg_entry_eq]
              have hlh := jn_entry vs hargs
              generalize (lg_sl vs ++ List.replicate ((G cm).1.2.2.1 - (lg_sl vs).length) Slot.unset).toArray = arr at hlh ⊢
              have X1 : jn_Ctx (G cm).1 p s m vs.toArray meth c D dA := ⟨B.exec, B.bytes, hml, hEx.all (fun w hw => atoms_spec (ws := jn_wd (G cm)) B.pre w (List.mem_cons_of_mem _ hw)), by rw [(hG cm).1]; exact findClass_of_methodNamed B.named, fun _ => by rw [(hG cm).2.1]; exact (name_of_methodNamed B.named B.method).1, hK⟩
              refine ih _ _ _ _ _ hr1 p l e _ s m vs.toArray below meth c _ D dA cf.2.2.2.2.length (jn_sl jn_N cf.2.2.2.2) X1 hEx (by omega) (Nat.le_refl _) (Nat.le_refl _) (by show _ ≤ mc + _; omega) (by show _ ≤ ms + _; omega) ?_ arr s.heap [] 0 0 hlh ⟨hP, va_S.rf, hXs, hbb, hz⟩ (by simp) (by simp)
              intro pc k arr H locs cells slots st e1 e2 e3 hM1 e4 e5
              have hc : cells = mc := by omega
              have hs : slots = ms := by omega
              subst hc
              subst hs
              obtain ⟨hP1, hS1, -, -, -⟩ := hM1
              rw [hm1.2.1] at hS1
              exact jn_end B.exec B.bytes B.returns B.notSynchronized e1 e2 e3 (fun t ht hW => ⟨rfl, by rw [ht]; exact hP1, by rw [ht]; exact hS1.1, fun q h1 h2 => by rw [ht]; exact hS1.2.1 q h1 h2⟩) hS1.2.2
            intro arr H locs cells slots hl hMm hc hs
            have hP0 := hMm.1
            have hzz : ∀ T : State, T.heap = H → Stand p l e R s m args below meth c T locs cells slots → H.size = jn_nx cf.2.2 := by
              intro T hT X
              have h9 : T.heap.size ≤ s.heap.size + cells := X.same.2.2.1
              rw [hT] at h9
              exact hMm.size hc h9
            rw [hst]
            intro T hT Xs
            have hsz := hzz T hT Xs
            have hrun := hE p l e R s m args below meth c D dA ⟨hx, hbc, hml, hts, hown, hnm, hK⟩ vs rest arr H locs cells slots mc ms _ _ _ _ hM rfl rfl (by show d' + 1 + 1 ≤ _; omega) (by have h8 := (hG cm).2.2.2.1; show _ + 42 * (d' + 1) ≤ _; omega) (jn_blind D dA cf.2.2 vs)
              (fun U hU hW => ⟨rfl, by rw [hU]; exact hP0, by rw [hU]; exact hsz, by
                have h7 := (hMm.2.2.1.kept (H1 := H) (hMm.2.1.2.1 _ (by have h5 := hMm.2.2.2.2; have h4 := hMm.2.2.2.1; omega) (by have h4 := hMm.2.2.2.1; show ¬ cf.2.2.2.1 ≤ cf.2.2.1.1; omega))).moved hW.alike
                rw [hU]
                exact h7, hMm.2.2.2.1, va_K.moved hW.alike hK, hEx.warm hW⟩) hlen
              (fun i hi => by
                subst hi
                unfold jn_rc at hrc
                split at hrc
                · rename_i heq; omega
                · rename_i heq; omega
                · rename_i i' heq
                  have hii : i' = i := by omega
                  subst hii
                  split at hrc
                  · rename_i b As
                    split at hrc
                    · rename_i j fs hrd
                      have hj : j = i' := by simpa using hrc
                      subst hj
                      have he := jn_rd_ws dA hrd
                      obtain ⟨q, hq1, -⟩ := hP0 _ _ he
                      obtain ⟨cell, g1, g2, g3⟩ := va_recv hK hP0 hq1 he
                      exact ⟨b, As, q, cell, rfl, hq1, g1, g2, g3⟩
                    · cases hrc
                  · cases hrc)
              (fun h1 => by
                subst h1
                unfold jn_rc at hrc
                dsimp only at hrc
                split at hrc
                · exact ⟨_, _, rfl⟩
                · cases hrc) hl.2.1 hrest ⟨by have := hm2.2.2.1; omega, by have := hm2.2.2.2; omega⟩
            obtain ⟨v, st₀, t, T', L, g0, X', hL, e1, e2, ⟨ho, hP1, hz, hk⟩, stp⟩ := hrun T hT Xs
            cases ho
            rw [g0] at hz hk
            have hS := hMm.2.1
            have hMm' : jn_Mem D dA s c0 r1.2 T'.heap (locs ++ L) := by
              refine ⟨by rw [e1]; exact hP1, ?_, ?_, ?_, ?_⟩
              · rw [hm1.2.1]
                refine ⟨Nat.le_trans hS.1 (by rw [e1]; exact hz), fun q h1 h2 => ?_, fun q hq => ?_⟩
                · rw [e1, hk q (Nat.lt_of_lt_of_le h1 hS.1) h2]
                  exact hS.2.1 q h1 h2
                · rcases List.mem_append.mp hq with h3 | h3
                  · exact hS.2.2 q h3
                  · exact hL q h3
              · rw [hm1.1]; exact hMm.2.2.1
              · rw [hm1.1, hm1.2.1]; exact hMm.2.2.2.1
              · rw [hm1.2.1]; exact hMm.2.2.2.2
            obtain ⟨t2, a1, b1⟩ := ih _ _ _ _ _ h p l e R s m args below meth c Q D dA c0 s0 ⟨hx, hbc, hml, hts, hown, hnm, hK⟩ hEx hd1 hdf hdl hb1 hb2 hZ arr T'.heap (locs ++ L) (cells + mc) (slots + ms) hl hMm' (by show _ = r1.2.2.2.length; omega) (by show _ = jn_sl jn_N r1.2.2.2; omega) T' rfl X'
            exact ⟨t2, stp t2 a1, b1⟩
        · cases h
      · cases h
    · rename_i k hf
      have hE := (hG mi).2.2.2.2 pc _ hf
      split at h
      · cases h
      · rename_i v hv
        cases h
        intro arr H locs cells slots hl hMm hc hs
        exact hZ pc k arr H locs cells slots cf.2.1 hE.1 hE.2 hv hMm hc hs
