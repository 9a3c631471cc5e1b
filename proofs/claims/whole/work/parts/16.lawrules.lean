/-! An equation for each instruction of each method, by program. -/
set_option maxRecDepth 100000 in
theorem jn_w171_0 {d : Nat} {ls : jn_Lo} {st : List Value} {M : jn_M} {Q : Option Value → jn_M → Prop} : jn_W d 171 0 ls (st) M Q = jn_W d 171 3 ls (.ref (jn_nx M) :: st) (jn_ad M (.inr (6, [.null, .int 0, .null, .int 0, .null, .int 0, .null, .null, .null, .null, .null]))) Q := jn_W_eq (f := jn_new 6 11 [.null, .int 0, .null, .int 0, .null, .int 0, .null, .null, .null, .null, .null]) rfl rfl
set_option maxRecDepth 100000 in
theorem jn_w171_3 {d : Nat} {ls : jn_Lo} {x : Int32} {st : List Value} {M : jn_M} {Q : Option Value → jn_M → Prop} : jn_W d 171 3 ls (.int x :: st) M Q = jn_W d 171 4 ls (.int x :: .int x :: st) M Q := jn_W_eq (f := jn_dup) rfl rfl
set_option maxRecDepth 100000 in
theorem jn_w171_3r {d : Nat} {ls : jn_Lo} {x : Nat} {st : List Value} {M : jn_M} {Q : Option Value → jn_M → Prop} : jn_W d 171 3 ls (.ref x :: st) M Q = jn_W d 171 4 ls (.ref x :: .ref x :: st) M Q := jn_W_eq (f := jn_dup) rfl rfl
set_option maxRecDepth 100000 in
theorem jn_w171_4 {d : Nat} {ls : jn_Lo} {a0 : Nat} {k : Nat} {v : Option Value} {M1 : jn_M} {st : List Value} {M : jn_M} {Q : Option Value → jn_M → Prop} (h : jn_V 45 k [.ref a0] M v M1) (hk : 1 ≤ k ∧ k + 1 ≤ d) : jn_W d 171 4 ls (.ref a0 :: st) M Q = ((jn_sm 8 st = true ∧ jn_rc 1 M [.ref a0] = true) ∧ jn_W d 171 7 ls (v.toList ++ st) M1 Q) := jn_W_call (na := 1) rfl h hk rfl rfl (Nat.le_of_ble_eq_true rfl)
set_option maxRecDepth 100000 in
theorem jn_w171_7 {d : Nat} {l0 l1 l2 l3 : Option Value} {x : Nat} {st : List Value} {M : jn_M} {Q : Option Value → jn_M → Prop} : jn_W d 171 7 [l0, l1, l2, l3] (.ref x :: st) M Q = jn_W d 171 8 [jn_kk l0, some (.ref x), l2, l3] (st) M Q := by rcases l0 with _ | (_ | _ | _ | _ | _ | _ | _) <;> exact jn_W_eq (f := jn_astore_n 1) rfl rfl
set_option maxRecDepth 100000 in
theorem jn_w171_7n {d : Nat} {l0 l1 l2 l3 : Option Value} {st : List Value} {M : jn_M} {Q : Option Value → jn_M → Prop} : jn_W d 171 7 [l0, l1, l2, l3] (.null :: st) M Q = jn_W d 171 8 [jn_kk l0, some (.null), l2, l3] (st) M Q := by rcases l0 with _ | (_ | _ | _ | _ | _ | _ | _) <;> exact jn_W_eq (f := jn_astore_n 1) rfl rfl
set_option maxRecDepth 100000 in
theorem jn_w171_8 {d : Nat} {ls : jn_Lo} {st : List Value} {M : jn_M} {Q : Option Value → jn_M → Prop} : jn_W d 171 8 ls (st) M Q = jn_W d 171 11 ls (.ref (jn_nx M) :: st) (jn_ad M (.inr (7, [.null, .null, .int 0, .int 0, .null, .null, .null, .null, .null, .null, .null, .null, .null, .null, .null, .null, .null, .null, .null, .null, .null, .int 0]))) Q := jn_W_eq (f := jn_new 7 22 [.null, .null, .int 0, .int 0, .null, .null, .null, .null, .null, .null, .null, .null, .null, .null, .null, .null, .null, .null, .null, .null, .null, .int 0]) rfl rfl
set_option maxRecDepth 100000 in
theorem jn_w171_11 {d : Nat} {ls : jn_Lo} {x : Int32} {st : List Value} {M : jn_M} {Q : Option Value → jn_M → Prop} : jn_W d 171 11 ls (.int x :: st) M Q = jn_W d 171 12 ls (.int x :: .int x :: st) M Q := jn_W_eq (f := jn_dup) rfl rfl
set_option maxRecDepth 100000 in
theorem jn_w171_11r {d : Nat} {ls : jn_Lo} {x : Nat} {st : List Value} {M : jn_M} {Q : Option Value → jn_M → Prop} : jn_W d 171 11 ls (.ref x :: st) M Q = jn_W d 171 12 ls (.ref x :: .ref x :: st) M Q := jn_W_eq (f := jn_dup) rfl rfl
set_option maxRecDepth 100000 in
theorem jn_w171_12 {d : Nat} {ls : jn_Lo} {a0 : Nat} {k : Nat} {v : Option Value} {M1 : jn_M} {st : List Value} {M : jn_M} {Q : Option Value → jn_M → Prop} (h : jn_V 93 k [.ref a0] M v M1) (hk : 1 ≤ k ∧ k + 1 ≤ d) : jn_W d 171 12 ls (.ref a0 :: st) M Q = ((jn_sm 8 st = true ∧ jn_rc 1 M [.ref a0] = true) ∧ jn_W d 171 15 ls (v.toList ++ st) M1 Q) := jn_W_call (na := 1) rfl h hk rfl rfl (Nat.le_of_ble_eq_true rfl)
set_option maxRecDepth 100000 in
theorem jn_w171_15 {d : Nat} {l0 l1 l2 l3 : Option Value} {x : Nat} {st : List Value} {M : jn_M} {Q : Option Value → jn_M → Prop} : jn_W d 171 15 [l0, l1, l2, l3] (.ref x :: st) M Q = jn_W d 171 16 [l0, jn_kk l1, some (.ref x), l3] (st) M Q := by rcases l1 with _ | (_ | _ | _ | _ | _ | _ | _) <;> exact jn_W_eq (f := jn_astore_n 2) rfl rfl
set_option maxRecDepth 100000 in
theorem jn_w171_15n {d : Nat} {l0 l1 l2 l3 : Option Value} {st : List Value} {M : jn_M} {Q : Option Value → jn_M → Prop} : jn_W d 171 15 [l0, l1, l2, l3] (.null :: st) M Q = jn_W d 171 16 [l0, jn_kk l1, some (.null), l3] (st) M Q := by rcases l1 with _ | (_ | _ | _ | _ | _ | _ | _) <;> exact jn_W_eq (f := jn_astore_n 2) rfl rfl
set_option maxRecDepth 100000 in
theorem jn_w171_16 {d : Nat} {ls : jn_Lo} {st : List Value} {M : jn_M} {Q : Option Value → jn_M → Prop} : jn_W d 171 16 ls (st) M Q = jn_W d 171 17 ls (.int (nI 0) :: st) M Q := by rw [← jn_k_0]; exact jn_W_eq (f := jn_iconst 0) rfl rfl
set_option maxRecDepth 100000 in
theorem jn_w171_17 {d : Nat} {l0 l1 l2 l3 : Option Value} {x : Int32} {st : List Value} {M : jn_M} {Q : Option Value → jn_M → Prop} : jn_W d 171 17 [l0, l1, l2, l3] (.int x :: st) M Q = jn_W d 171 18 [l0, l1, jn_kk l2, some (.int x)] (st) M Q := by rcases l2 with _ | (_ | _ | _ | _ | _ | _ | _) <;> exact jn_W_eq (f := jn_istore_n 3) rfl rfl
set_option maxRecDepth 100000 in
theorem jn_w171_18 {d : Nat} {l0 l1 l2 : Option Value} {x : Int32} {st : List Value} {M : jn_M} {Q : Option Value → jn_M → Prop} : jn_W d 171 18 [l0, l1, l2, some (.int x)] (st) M Q = jn_W d 171 19 [l0, l1, l2, some (.int x)] (.int x :: st) M Q := jn_W_eq (f := jn_iload_n 3) rfl rfl
set_option maxRecDepth 100000 in
theorem jn_w171_19 {d : Nat} {l1 l2 l3 : Option Value} {x : Nat} {st : List Value} {M : jn_M} {Q : Option Value → jn_M → Prop} : jn_W d 171 19 [some (.ref x), l1, l2, l3] (st) M Q = jn_W d 171 20 [some (.ref x), l1, l2, l3] (.ref x :: st) M Q := jn_W_eq (f := jn_aload_n 0) rfl rfl
set_option maxRecDepth 100000 in
theorem jn_w171_19n {d : Nat} {l1 l2 l3 : Option Value} {st : List Value} {M : jn_M} {Q : Option Value → jn_M → Prop} : jn_W d 171 19 [some .null, l1, l2, l3] (st) M Q = jn_W d 171 20 [some .null, l1, l2, l3] (.null :: st) M Q := jn_W_eq (f := jn_aload_n 0) rfl rfl
set_option maxRecDepth 100000 in
theorem jn_w171_20 {d : Nat} {ls : jn_Lo} {a : Nat} {st : List Value} {M : jn_M} {Q : Option Value → jn_M → Prop} (h : a = M.1.1) : jn_W d 171 20 ls (.ref a :: st) M Q = jn_W d 171 21 ls (.int (nI M.1.2.1) :: st) M Q := jn_W_eq (f := jn_slen) rfl (if_pos h)
set_option maxRecDepth 100000 in
theorem jn_w171_21 {d : Nat} {ls : jn_Lo} {st : List Value} {M : jn_M} {Q : Option Value → jn_M → Prop} : jn_W d 171 21 ls (st) M Q = jn_W d 171 22 ls (.int (nI 5) :: st) M Q := by rw [← jn_k_5]; exact jn_W_eq (f := jn_iconst 5) rfl rfl
set_option maxRecDepth 100000 in
theorem jn_w171_22 {d : Nat} {ls : jn_Lo} {x y : Int32} {st : List Value} {M : jn_M} {Q : Option Value → jn_M → Prop} : jn_W d 171 22 ls (.int y :: .int x :: st) M Q = jn_W d 171 23 ls (.int (x - y) :: st) M Q := jn_W_eq (f := jn_isub) rfl rfl
set_option maxRecDepth 100000 in
theorem jn_w171_23 {d : Nat} {ls : jn_Lo} {x y : Int32} {st : List Value} {M : jn_M} {Q : Option Value → jn_M → Prop} : jn_W d 171 23 ls (.int y :: .int x :: st) M Q = if y < x then jn_W d 171 1258 ls (st) M Q else jn_W d 171 26 ls (st) M Q := jn_W_br (f := jn_icgt 1258) _ rfl rfl
set_option maxRecDepth 100000 in
theorem jn_w171_26 {d : Nat} {l1 l2 l3 : Option Value} {x : Nat} {st : List Value} {M : jn_M} {Q : Option Value → jn_M → Prop} : jn_W d 171 26 [some (.ref x), l1, l2, l3] (st) M Q = jn_W d 171 27 [some (.ref x), l1, l2, l3] (.ref x :: st) M Q := jn_W_eq (f := jn_aload_n 0) rfl rfl
set_option maxRecDepth 100000 in
theorem jn_w171_26n {d : Nat} {l1 l2 l3 : Option Value} {st : List Value} {M : jn_M} {Q : Option Value → jn_M → Prop} : jn_W d 171 26 [some .null, l1, l2, l3] (st) M Q = jn_W d 171 27 [some .null, l1, l2, l3] (.null :: st) M Q := jn_W_eq (f := jn_aload_n 0) rfl rfl
set_option maxRecDepth 100000 in
theorem jn_w171_27 {d : Nat} {l0 l1 l2 : Option Value} {x : Int32} {st : List Value} {M : jn_M} {Q : Option Value → jn_M → Prop} : jn_W d 171 27 [l0, l1, l2, some (.int x)] (st) M Q = jn_W d 171 28 [l0, l1, l2, some (.int x)] (.int x :: st) M Q := jn_W_eq (f := jn_iload_n 3) rfl rfl
set_option maxRecDepth 100000 in
theorem jn_w171_28 {d : Nat} {ls : jn_Lo} {a : Nat} {i : Int32} {st : List Value} {M : jn_M} {Q : Option Value → jn_M → Prop} : jn_W d 171 28 ls (.int i :: .ref a :: st) M Q = (jn_aiO (jn_rs M a) 0 i = true ∧ jn_W d 171 29 ls (.int (jn_aiV (jn_rs M a) i) :: st) M Q) := jn_W_eqc (f := jn_iaload) rfl jn_iaload_e
set_option maxRecDepth 100000 in
theorem jn_w171_29 {d : Nat} {ls : jn_Lo} {st : List Value} {M : jn_M} {Q : Option Value → jn_M → Prop} : jn_W d 171 29 ls (st) M Q = jn_W d 171 31 ls (.int (nI 63) :: st) M Q := by rw [← jn_b_63]; exact jn_W_eq (f := jn_bipush 63) rfl rfl
set_option maxRecDepth 100000 in
theorem jn_w171_31 {d : Nat} {ls : jn_Lo} {x y : Int32} {st : List Value} {M : jn_M} {Q : Option Value → jn_M → Prop} : jn_W d 171 31 ls (.int y :: .int x :: st) M Q = jn_W d 171 32 ls (.int (x &&& y) :: st) M Q := jn_W_eq (f := jn_iand) rfl rfl
set_option maxRecDepth 100000 in
theorem jn_w171_32 {d : Nat} {ls : jn_Lo} {x : Int32} {st : List Value} {M : jn_M} {Q : Option Value → jn_M → Prop} : jn_W d 171 32 ls (.int x :: st) M Q = jn_W d 171 (jn_tx 0 33 [184, 207, 260, 293, 336, 360, 394, 464, 487, 510, 553, 586, 609, 632, 675, 708, 731, 790, 803, 836, 869, 902, 935, 958, 981, 1004, 1028, 1061, 1094, 1117, 1150, 1163, 1186, 1229] 1252 x) ls st M Q := jn_W_eq (f := jn_table 0 33 [184, 207, 260, 293, 336, 360, 394, 464, 487, 510, 553, 586, 609, 632, 675, 708, 731, 790, 803, 836, 869, 902, 935, 958, 981, 1004, 1028, 1061, 1094, 1117, 1150, 1163, 1186, 1229] 1252) rfl (jn_table_e (by decide))
set_option maxRecDepth 100000 in
theorem jn_w171_184 {d : Nat} {l0 l2 l3 : Option Value} {x : Nat} {st : List Value} {M : jn_M} {Q : Option Value → jn_M → Prop} : jn_W d 171 184 [l0, some (.ref x), l2, l3] (st) M Q = jn_W d 171 185 [l0, some (.ref x), l2, l3] (.ref x :: st) M Q := jn_W_eq (f := jn_aload_n 1) rfl rfl
set_option maxRecDepth 100000 in
theorem jn_w171_184n {d : Nat} {l0 l2 l3 : Option Value} {st : List Value} {M : jn_M} {Q : Option Value → jn_M → Prop} : jn_W d 171 184 [l0, some .null, l2, l3] (st) M Q = jn_W d 171 185 [l0, some .null, l2, l3] (.null :: st) M Q := jn_W_eq (f := jn_aload_n 1) rfl rfl
set_option maxRecDepth 100000 in
theorem jn_w171_185 {d : Nat} {l1 l2 l3 : Option Value} {x : Nat} {st : List Value} {M : jn_M} {Q : Option Value → jn_M → Prop} : jn_W d 171 185 [some (.ref x), l1, l2, l3] (st) M Q = jn_W d 171 186 [some (.ref x), l1, l2, l3] (.ref x :: st) M Q := jn_W_eq (f := jn_aload_n 0) rfl rfl
set_option maxRecDepth 100000 in
theorem jn_w171_185n {d : Nat} {l1 l2 l3 : Option Value} {st : List Value} {M : jn_M} {Q : Option Value → jn_M → Prop} : jn_W d 171 185 [some .null, l1, l2, l3] (st) M Q = jn_W d 171 186 [some .null, l1, l2, l3] (.null :: st) M Q := jn_W_eq (f := jn_aload_n 0) rfl rfl
set_option maxRecDepth 100000 in
theorem jn_w171_186 {d : Nat} {l0 l1 l2 : Option Value} {x : Int32} {st : List Value} {M : jn_M} {Q : Option Value → jn_M → Prop} : jn_W d 171 186 [l0, l1, l2, some (.int x)] (st) M Q = jn_W d 171 187 [l0, l1, l2, some (.int x)] (.int x :: st) M Q := jn_W_eq (f := jn_iload_n 3) rfl rfl
set_option maxRecDepth 100000 in
theorem jn_w171_187 {d : Nat} {ls : jn_Lo} {st : List Value} {M : jn_M} {Q : Option Value → jn_M → Prop} : jn_W d 171 187 ls (st) M Q = jn_W d 171 188 ls (.int (nI 1) :: st) M Q := by rw [← jn_k_1]; exact jn_W_eq (f := jn_iconst 1) rfl rfl
set_option maxRecDepth 100000 in
theorem jn_w171_188 {d : Nat} {ls : jn_Lo} {x y : Int32} {st : List Value} {M : jn_M} {Q : Option Value → jn_M → Prop} : jn_W d 171 188 ls (.int y :: .int x :: st) M Q = jn_W d 171 189 ls (.int (x + y) :: st) M Q := jn_W_eq (f := jn_iadd) rfl rfl
set_option maxRecDepth 100000 in
theorem jn_w171_189 {d : Nat} {ls : jn_Lo} {a : Nat} {i : Int32} {st : List Value} {M : jn_M} {Q : Option Value → jn_M → Prop} : jn_W d 171 189 ls (.int i :: .ref a :: st) M Q = (jn_aiO (jn_rs M a) 0 i = true ∧ jn_W d 171 190 ls (.int (jn_aiV (jn_rs M a) i) :: st) M Q) := jn_W_eqc (f := jn_iaload) rfl jn_iaload_e
set_option maxRecDepth 100000 in
theorem jn_w171_190 {d : Nat} {ls : jn_Lo} {a0 : Nat} {a1 : Int32} {k : Nat} {v : Option Value} {M1 : jn_M} {st : List Value} {M : jn_M} {Q : Option Value → jn_M → Prop} (h : jn_V 46 k [.ref a0, .int a1] M v M1) (hk : 1 ≤ k ∧ k + 1 ≤ d) : jn_W d 171 190 ls (.int a1 :: .ref a0 :: st) M Q = ((jn_sm 8 st = true ∧ jn_rc 8 M [.ref a0, .int a1] = true) ∧ jn_W d 171 193 ls (v.toList ++ st) M1 Q) := jn_W_call (na := 2) rfl h hk rfl rfl (Nat.le_of_ble_eq_true rfl)
set_option maxRecDepth 100000 in
theorem jn_w171_193 {d : Nat} {l0 l1 l3 : Option Value} {x : Nat} {st : List Value} {M : jn_M} {Q : Option Value → jn_M → Prop} : jn_W d 171 193 [l0, l1, some (.ref x), l3] (st) M Q = jn_W d 171 194 [l0, l1, some (.ref x), l3] (.ref x :: st) M Q := jn_W_eq (f := jn_aload_n 2) rfl rfl
set_option maxRecDepth 100000 in
theorem jn_w171_193n {d : Nat} {l0 l1 l3 : Option Value} {st : List Value} {M : jn_M} {Q : Option Value → jn_M → Prop} : jn_W d 171 193 [l0, l1, some .null, l3] (st) M Q = jn_W d 171 194 [l0, l1, some .null, l3] (.null :: st) M Q := jn_W_eq (f := jn_aload_n 2) rfl rfl
set_option maxRecDepth 100000 in
theorem jn_w171_194 {d : Nat} {l1 l2 l3 : Option Value} {x : Nat} {st : List Value} {M : jn_M} {Q : Option Value → jn_M → Prop} : jn_W d 171 194 [some (.ref x), l1, l2, l3] (st) M Q = jn_W d 171 195 [some (.ref x), l1, l2, l3] (.ref x :: st) M Q := jn_W_eq (f := jn_aload_n 0) rfl rfl
set_option maxRecDepth 100000 in
theorem jn_w171_194n {d : Nat} {l1 l2 l3 : Option Value} {st : List Value} {M : jn_M} {Q : Option Value → jn_M → Prop} : jn_W d 171 194 [some .null, l1, l2, l3] (st) M Q = jn_W d 171 195 [some .null, l1, l2, l3] (.null :: st) M Q := jn_W_eq (f := jn_aload_n 0) rfl rfl
set_option maxRecDepth 100000 in
theorem jn_w171_195 {d : Nat} {l0 l1 l2 : Option Value} {x : Int32} {st : List Value} {M : jn_M} {Q : Option Value → jn_M → Prop} : jn_W d 171 195 [l0, l1, l2, some (.int x)] (st) M Q = jn_W d 171 196 [l0, l1, l2, some (.int x)] (.int x :: st) M Q := jn_W_eq (f := jn_iload_n 3) rfl rfl
set_option maxRecDepth 100000 in
theorem jn_w171_196 {d : Nat} {ls : jn_Lo} {st : List Value} {M : jn_M} {Q : Option Value → jn_M → Prop} : jn_W d 171 196 ls (st) M Q = jn_W d 171 197 ls (.int (nI 1) :: st) M Q := by rw [← jn_k_1]; exact jn_W_eq (f := jn_iconst 1) rfl rfl
set_option maxRecDepth 100000 in
theorem jn_w171_197 {d : Nat} {ls : jn_Lo} {x y : Int32} {st : List Value} {M : jn_M} {Q : Option Value → jn_M → Prop} : jn_W d 171 197 ls (.int y :: .int x :: st) M Q = jn_W d 171 198 ls (.int (x + y) :: st) M Q := jn_W_eq (f := jn_iadd) rfl rfl
set_option maxRecDepth 100000 in
theorem jn_w171_198 {d : Nat} {ls : jn_Lo} {a : Nat} {i : Int32} {st : List Value} {M : jn_M} {Q : Option Value → jn_M → Prop} : jn_W d 171 198 ls (.int i :: .ref a :: st) M Q = (jn_aiO (jn_rs M a) 0 i = true ∧ jn_W d 171 199 ls (.int (jn_aiV (jn_rs M a) i) :: st) M Q) := jn_W_eqc (f := jn_iaload) rfl jn_iaload_e
set_option maxRecDepth 100000 in
theorem jn_w171_199 {d : Nat} {ls : jn_Lo} {a0 : Nat} {a1 : Int32} {k : Nat} {v : Option Value} {M1 : jn_M} {st : List Value} {M : jn_M} {Q : Option Value → jn_M → Prop} (h : jn_V 101 k [.ref a0, .int a1] M v M1) (hk : 1 ≤ k ∧ k + 1 ≤ d) : jn_W d 171 199 ls (.int a1 :: .ref a0 :: st) M Q = ((jn_sm 8 st = true ∧ jn_rc 9 M [.ref a0, .int a1] = true) ∧ jn_W d 171 202 ls (v.toList ++ st) M1 Q) := jn_W_call (na := 2) rfl h hk rfl rfl (Nat.le_of_ble_eq_true rfl)
set_option maxRecDepth 100000 in
theorem jn_w171_202 {d : Nat} {ls : jn_Lo} {x y : Int32} {st : List Value} {M : jn_M} {Q : Option Value → jn_M → Prop} : jn_W d 171 202 ls (.int y :: .int x :: st) M Q = if x = y then jn_W d 171 1252 ls (st) M Q else jn_W d 171 205 ls (st) M Q := jn_W_br (f := jn_iceq 1252) _ rfl rfl
set_option maxRecDepth 100000 in
theorem jn_w171_205 {d : Nat} {ls : jn_Lo} {st : List Value} {M : jn_M} {Q : Option Value → jn_M → Prop} : jn_W d 171 205 ls (st) M Q = jn_W d 171 206 ls (.int (nI 0) :: st) M Q := by rw [← jn_k_0]; exact jn_W_eq (f := jn_iconst 0) rfl rfl
set_option maxRecDepth 100000 in
theorem jn_w171_206 {d : Nat} {ls : jn_Lo} {v : Int32} {M : jn_M} {Q : Option Value → jn_M → Prop} : jn_W d 171 206 ls [.int v] M Q = (jn_zb v = true ∧ Q (some (.int v)) M) := jn_W_retc (k := 2) rfl jn_ret2_e
set_option maxRecDepth 100000 in
theorem jn_w171_207 {d : Nat} {l0 l2 l3 : Option Value} {x : Nat} {st : List Value} {M : jn_M} {Q : Option Value → jn_M → Prop} : jn_W d 171 207 [l0, some (.ref x), l2, l3] (st) M Q = jn_W d 171 208 [l0, some (.ref x), l2, l3] (.ref x :: st) M Q := jn_W_eq (f := jn_aload_n 1) rfl rfl
set_option maxRecDepth 100000 in
theorem jn_w171_207n {d : Nat} {l0 l2 l3 : Option Value} {st : List Value} {M : jn_M} {Q : Option Value → jn_M → Prop} : jn_W d 171 207 [l0, some .null, l2, l3] (st) M Q = jn_W d 171 208 [l0, some .null, l2, l3] (.null :: st) M Q := jn_W_eq (f := jn_aload_n 1) rfl rfl
set_option maxRecDepth 100000 in
theorem jn_w171_208 {d : Nat} {l1 l2 l3 : Option Value} {x : Nat} {st : List Value} {M : jn_M} {Q : Option Value → jn_M → Prop} : jn_W d 171 208 [some (.ref x), l1, l2, l3] (st) M Q = jn_W d 171 209 [some (.ref x), l1, l2, l3] (.ref x :: st) M Q := jn_W_eq (f := jn_aload_n 0) rfl rfl
set_option maxRecDepth 100000 in
theorem jn_w171_208n {d : Nat} {l1 l2 l3 : Option Value} {st : List Value} {M : jn_M} {Q : Option Value → jn_M → Prop} : jn_W d 171 208 [some .null, l1, l2, l3] (st) M Q = jn_W d 171 209 [some .null, l1, l2, l3] (.null :: st) M Q := jn_W_eq (f := jn_aload_n 0) rfl rfl
set_option maxRecDepth 100000 in
theorem jn_w171_209 {d : Nat} {l0 l1 l2 : Option Value} {x : Int32} {st : List Value} {M : jn_M} {Q : Option Value → jn_M → Prop} : jn_W d 171 209 [l0, l1, l2, some (.int x)] (st) M Q = jn_W d 171 210 [l0, l1, l2, some (.int x)] (.int x :: st) M Q := jn_W_eq (f := jn_iload_n 3) rfl rfl
set_option maxRecDepth 100000 in
theorem jn_w171_210 {d : Nat} {ls : jn_Lo} {st : List Value} {M : jn_M} {Q : Option Value → jn_M → Prop} : jn_W d 171 210 ls (st) M Q = jn_W d 171 211 ls (.int (nI 1) :: st) M Q := by rw [← jn_k_1]; exact jn_W_eq (f := jn_iconst 1) rfl rfl
set_option maxRecDepth 100000 in
theorem jn_w171_211 {d : Nat} {ls : jn_Lo} {x y : Int32} {st : List Value} {M : jn_M} {Q : Option Value → jn_M → Prop} : jn_W d 171 211 ls (.int y :: .int x :: st) M Q = jn_W d 171 212 ls (.int (x + y) :: st) M Q := jn_W_eq (f := jn_iadd) rfl rfl
set_option maxRecDepth 100000 in
theorem jn_w171_212 {d : Nat} {ls : jn_Lo} {a : Nat} {i : Int32} {st : List Value} {M : jn_M} {Q : Option Value → jn_M → Prop} : jn_W d 171 212 ls (.int i :: .ref a :: st) M Q = (jn_aiO (jn_rs M a) 0 i = true ∧ jn_W d 171 213 ls (.int (jn_aiV (jn_rs M a) i) :: st) M Q) := jn_W_eqc (f := jn_iaload) rfl jn_iaload_e
set_option maxRecDepth 100000 in
theorem jn_w171_213 {d : Nat} {l1 l2 l3 : Option Value} {x : Nat} {st : List Value} {M : jn_M} {Q : Option Value → jn_M → Prop} : jn_W d 171 213 [some (.ref x), l1, l2, l3] (st) M Q = jn_W d 171 214 [some (.ref x), l1, l2, l3] (.ref x :: st) M Q := jn_W_eq (f := jn_aload_n 0) rfl rfl
set_option maxRecDepth 100000 in
theorem jn_w171_213n {d : Nat} {l1 l2 l3 : Option Value} {st : List Value} {M : jn_M} {Q : Option Value → jn_M → Prop} : jn_W d 171 213 [some .null, l1, l2, l3] (st) M Q = jn_W d 171 214 [some .null, l1, l2, l3] (.null :: st) M Q := jn_W_eq (f := jn_aload_n 0) rfl rfl
set_option maxRecDepth 100000 in
theorem jn_w171_214 {d : Nat} {l0 l1 l2 : Option Value} {x : Int32} {st : List Value} {M : jn_M} {Q : Option Value → jn_M → Prop} : jn_W d 171 214 [l0, l1, l2, some (.int x)] (st) M Q = jn_W d 171 215 [l0, l1, l2, some (.int x)] (.int x :: st) M Q := jn_W_eq (f := jn_iload_n 3) rfl rfl
set_option maxRecDepth 100000 in
theorem jn_w171_215 {d : Nat} {ls : jn_Lo} {st : List Value} {M : jn_M} {Q : Option Value → jn_M → Prop} : jn_W d 171 215 ls (st) M Q = jn_W d 171 216 ls (.int (nI 2) :: st) M Q := by rw [← jn_k_2]; exact jn_W_eq (f := jn_iconst 2) rfl rfl
set_option maxRecDepth 100000 in
theorem jn_w171_216 {d : Nat} {ls : jn_Lo} {x y : Int32} {st : List Value} {M : jn_M} {Q : Option Value → jn_M → Prop} : jn_W d 171 216 ls (.int y :: .int x :: st) M Q = jn_W d 171 217 ls (.int (x + y) :: st) M Q := jn_W_eq (f := jn_iadd) rfl rfl
set_option maxRecDepth 100000 in
theorem jn_w171_217 {d : Nat} {ls : jn_Lo} {a : Nat} {i : Int32} {st : List Value} {M : jn_M} {Q : Option Value → jn_M → Prop} : jn_W d 171 217 ls (.int i :: .ref a :: st) M Q = (jn_aiO (jn_rs M a) 0 i = true ∧ jn_W d 171 218 ls (.int (jn_aiV (jn_rs M a) i) :: st) M Q) := jn_W_eqc (f := jn_iaload) rfl jn_iaload_e
set_option maxRecDepth 100000 in
theorem jn_w171_218 {d : Nat} {l1 l2 l3 : Option Value} {x : Nat} {st : List Value} {M : jn_M} {Q : Option Value → jn_M → Prop} : jn_W d 171 218 [some (.ref x), l1, l2, l3] (st) M Q = jn_W d 171 219 [some (.ref x), l1, l2, l3] (.ref x :: st) M Q := jn_W_eq (f := jn_aload_n 0) rfl rfl
set_option maxRecDepth 100000 in
theorem jn_w171_218n {d : Nat} {l1 l2 l3 : Option Value} {st : List Value} {M : jn_M} {Q : Option Value → jn_M → Prop} : jn_W d 171 218 [some .null, l1, l2, l3] (st) M Q = jn_W d 171 219 [some .null, l1, l2, l3] (.null :: st) M Q := jn_W_eq (f := jn_aload_n 0) rfl rfl
set_option maxRecDepth 100000 in
theorem jn_w171_219 {d : Nat} {l0 l1 l2 : Option Value} {x : Int32} {st : List Value} {M : jn_M} {Q : Option Value → jn_M → Prop} : jn_W d 171 219 [l0, l1, l2, some (.int x)] (st) M Q = jn_W d 171 220 [l0, l1, l2, some (.int x)] (.int x :: st) M Q := jn_W_eq (f := jn_iload_n 3) rfl rfl
set_option maxRecDepth 100000 in
theorem jn_w171_220 {d : Nat} {ls : jn_Lo} {st : List Value} {M : jn_M} {Q : Option Value → jn_M → Prop} : jn_W d 171 220 ls (st) M Q = jn_W d 171 221 ls (.int (nI 3) :: st) M Q := by rw [← jn_k_3]; exact jn_W_eq (f := jn_iconst 3) rfl rfl
set_option maxRecDepth 100000 in
theorem jn_w171_221 {d : Nat} {ls : jn_Lo} {x y : Int32} {st : List Value} {M : jn_M} {Q : Option Value → jn_M → Prop} : jn_W d 171 221 ls (.int y :: .int x :: st) M Q = jn_W d 171 222 ls (.int (x + y) :: st) M Q := jn_W_eq (f := jn_iadd) rfl rfl
set_option maxRecDepth 100000 in
theorem jn_w171_222 {d : Nat} {ls : jn_Lo} {a : Nat} {i : Int32} {st : List Value} {M : jn_M} {Q : Option Value → jn_M → Prop} : jn_W d 171 222 ls (.int i :: .ref a :: st) M Q = (jn_aiO (jn_rs M a) 0 i = true ∧ jn_W d 171 223 ls (.int (jn_aiV (jn_rs M a) i) :: st) M Q) := jn_W_eqc (f := jn_iaload) rfl jn_iaload_e
set_option maxRecDepth 100000 in
theorem jn_w171_223 {d : Nat} {l1 l2 l3 : Option Value} {x : Nat} {st : List Value} {M : jn_M} {Q : Option Value → jn_M → Prop} : jn_W d 171 223 [some (.ref x), l1, l2, l3] (st) M Q = jn_W d 171 224 [some (.ref x), l1, l2, l3] (.ref x :: st) M Q := jn_W_eq (f := jn_aload_n 0) rfl rfl
set_option maxRecDepth 100000 in
theorem jn_w171_223n {d : Nat} {l1 l2 l3 : Option Value} {st : List Value} {M : jn_M} {Q : Option Value → jn_M → Prop} : jn_W d 171 223 [some .null, l1, l2, l3] (st) M Q = jn_W d 171 224 [some .null, l1, l2, l3] (.null :: st) M Q := jn_W_eq (f := jn_aload_n 0) rfl rfl
set_option maxRecDepth 100000 in
theorem jn_w171_224 {d : Nat} {l0 l1 l2 : Option Value} {x : Int32} {st : List Value} {M : jn_M} {Q : Option Value → jn_M → Prop} : jn_W d 171 224 [l0, l1, l2, some (.int x)] (st) M Q = jn_W d 171 225 [l0, l1, l2, some (.int x)] (.int x :: st) M Q := jn_W_eq (f := jn_iload_n 3) rfl rfl
set_option maxRecDepth 100000 in
theorem jn_w171_225 {d : Nat} {ls : jn_Lo} {st : List Value} {M : jn_M} {Q : Option Value → jn_M → Prop} : jn_W d 171 225 ls (st) M Q = jn_W d 171 226 ls (.int (nI 4) :: st) M Q := by rw [← jn_k_4]; exact jn_W_eq (f := jn_iconst 4) rfl rfl
set_option maxRecDepth 100000 in
theorem jn_w171_226 {d : Nat} {ls : jn_Lo} {x y : Int32} {st : List Value} {M : jn_M} {Q : Option Value → jn_M → Prop} : jn_W d 171 226 ls (.int y :: .int x :: st) M Q = jn_W d 171 227 ls (.int (x + y) :: st) M Q := jn_W_eq (f := jn_iadd) rfl rfl
set_option maxRecDepth 100000 in
theorem jn_w171_227 {d : Nat} {ls : jn_Lo} {a : Nat} {i : Int32} {st : List Value} {M : jn_M} {Q : Option Value → jn_M → Prop} : jn_W d 171 227 ls (.int i :: .ref a :: st) M Q = (jn_aiO (jn_rs M a) 0 i = true ∧ jn_W d 171 228 ls (.int (jn_aiV (jn_rs M a) i) :: st) M Q) := jn_W_eqc (f := jn_iaload) rfl jn_iaload_e
set_option maxRecDepth 100000 in
theorem jn_w171_228 {d : Nat} {ls : jn_Lo} {a0 : Nat} {a1 : Int32} {a2 : Int32} {a3 : Int32} {a4 : Int32} {k : Nat} {v : Option Value} {M1 : jn_M} {st : List Value} {M : jn_M} {Q : Option Value → jn_M → Prop} (h : jn_V 47 k [.ref a0, .int a1, .int a2, .int a3, .int a4] M v M1) (hk : 1 ≤ k ∧ k + 1 ≤ d) : jn_W d 171 228 ls (.int a4 :: .int a3 :: .int a2 :: .int a1 :: .ref a0 :: st) M Q = ((jn_sm 8 st = true ∧ jn_rc 8 M [.ref a0, .int a1, .int a2, .int a3, .int a4] = true) ∧ jn_W d 171 231 ls (v.toList ++ st) M1 Q) := jn_W_call (na := 5) rfl h hk rfl rfl (Nat.le_of_ble_eq_true rfl)
set_option maxRecDepth 100000 in
theorem jn_w171_231 {d : Nat} {l0 l1 l3 : Option Value} {x : Nat} {st : List Value} {M : jn_M} {Q : Option Value → jn_M → Prop} : jn_W d 171 231 [l0, l1, some (.ref x), l3] (st) M Q = jn_W d 171 232 [l0, l1, some (.ref x), l3] (.ref x :: st) M Q := jn_W_eq (f := jn_aload_n 2) rfl rfl
set_option maxRecDepth 100000 in
theorem jn_w171_231n {d : Nat} {l0 l1 l3 : Option Value} {st : List Value} {M : jn_M} {Q : Option Value → jn_M → Prop} : jn_W d 171 231 [l0, l1, some .null, l3] (st) M Q = jn_W d 171 232 [l0, l1, some .null, l3] (.null :: st) M Q := jn_W_eq (f := jn_aload_n 2) rfl rfl
set_option maxRecDepth 100000 in
theorem jn_w171_232 {d : Nat} {l1 l2 l3 : Option Value} {x : Nat} {st : List Value} {M : jn_M} {Q : Option Value → jn_M → Prop} : jn_W d 171 232 [some (.ref x), l1, l2, l3] (st) M Q = jn_W d 171 233 [some (.ref x), l1, l2, l3] (.ref x :: st) M Q := jn_W_eq (f := jn_aload_n 0) rfl rfl
set_option maxRecDepth 100000 in
theorem jn_w171_232n {d : Nat} {l1 l2 l3 : Option Value} {st : List Value} {M : jn_M} {Q : Option Value → jn_M → Prop} : jn_W d 171 232 [some .null, l1, l2, l3] (st) M Q = jn_W d 171 233 [some .null, l1, l2, l3] (.null :: st) M Q := jn_W_eq (f := jn_aload_n 0) rfl rfl
set_option maxRecDepth 100000 in
theorem jn_w171_233 {d : Nat} {l0 l1 l2 : Option Value} {x : Int32} {st : List Value} {M : jn_M} {Q : Option Value → jn_M → Prop} : jn_W d 171 233 [l0, l1, l2, some (.int x)] (st) M Q = jn_W d 171 234 [l0, l1, l2, some (.int x)] (.int x :: st) M Q := jn_W_eq (f := jn_iload_n 3) rfl rfl
set_option maxRecDepth 100000 in
theorem jn_w171_234 {d : Nat} {ls : jn_Lo} {st : List Value} {M : jn_M} {Q : Option Value → jn_M → Prop} : jn_W d 171 234 ls (st) M Q = jn_W d 171 235 ls (.int (nI 1) :: st) M Q := by rw [← jn_k_1]; exact jn_W_eq (f := jn_iconst 1) rfl rfl
set_option maxRecDepth 100000 in
theorem jn_w171_235 {d : Nat} {ls : jn_Lo} {x y : Int32} {st : List Value} {M : jn_M} {Q : Option Value → jn_M → Prop} : jn_W d 171 235 ls (.int y :: .int x :: st) M Q = jn_W d 171 236 ls (.int (x + y) :: st) M Q := jn_W_eq (f := jn_iadd) rfl rfl
set_option maxRecDepth 100000 in
theorem jn_w171_236 {d : Nat} {ls : jn_Lo} {a : Nat} {i : Int32} {st : List Value} {M : jn_M} {Q : Option Value → jn_M → Prop} : jn_W d 171 236 ls (.int i :: .ref a :: st) M Q = (jn_aiO (jn_rs M a) 0 i = true ∧ jn_W d 171 237 ls (.int (jn_aiV (jn_rs M a) i) :: st) M Q) := jn_W_eqc (f := jn_iaload) rfl jn_iaload_e
set_option maxRecDepth 100000 in
theorem jn_w171_237 {d : Nat} {l1 l2 l3 : Option Value} {x : Nat} {st : List Value} {M : jn_M} {Q : Option Value → jn_M → Prop} : jn_W d 171 237 [some (.ref x), l1, l2, l3] (st) M Q = jn_W d 171 238 [some (.ref x), l1, l2, l3] (.ref x :: st) M Q := jn_W_eq (f := jn_aload_n 0) rfl rfl
set_option maxRecDepth 100000 in
theorem jn_w171_237n {d : Nat} {l1 l2 l3 : Option Value} {st : List Value} {M : jn_M} {Q : Option Value → jn_M → Prop} : jn_W d 171 237 [some .null, l1, l2, l3] (st) M Q = jn_W d 171 238 [some .null, l1, l2, l3] (.null :: st) M Q := jn_W_eq (f := jn_aload_n 0) rfl rfl
set_option maxRecDepth 100000 in
theorem jn_w171_238 {d : Nat} {l0 l1 l2 : Option Value} {x : Int32} {st : List Value} {M : jn_M} {Q : Option Value → jn_M → Prop} : jn_W d 171 238 [l0, l1, l2, some (.int x)] (st) M Q = jn_W d 171 239 [l0, l1, l2, some (.int x)] (.int x :: st) M Q := jn_W_eq (f := jn_iload_n 3) rfl rfl
set_option maxRecDepth 100000 in
theorem jn_w171_239 {d : Nat} {ls : jn_Lo} {st : List Value} {M : jn_M} {Q : Option Value → jn_M → Prop} : jn_W d 171 239 ls (st) M Q = jn_W d 171 240 ls (.int (nI 2) :: st) M Q := by rw [← jn_k_2]; exact jn_W_eq (f := jn_iconst 2) rfl rfl
set_option maxRecDepth 100000 in
theorem jn_w171_240 {d : Nat} {ls : jn_Lo} {x y : Int32} {st : List Value} {M : jn_M} {Q : Option Value → jn_M → Prop} : jn_W d 171 240 ls (.int y :: .int x :: st) M Q = jn_W d 171 241 ls (.int (x + y) :: st) M Q := jn_W_eq (f := jn_iadd) rfl rfl
set_option maxRecDepth 100000 in
theorem jn_w171_241 {d : Nat} {ls : jn_Lo} {a : Nat} {i : Int32} {st : List Value} {M : jn_M} {Q : Option Value → jn_M → Prop} : jn_W d 171 241 ls (.int i :: .ref a :: st) M Q = (jn_aiO (jn_rs M a) 0 i = true ∧ jn_W d 171 242 ls (.int (jn_aiV (jn_rs M a) i) :: st) M Q) := jn_W_eqc (f := jn_iaload) rfl jn_iaload_e
set_option maxRecDepth 100000 in
theorem jn_w171_242 {d : Nat} {l1 l2 l3 : Option Value} {x : Nat} {st : List Value} {M : jn_M} {Q : Option Value → jn_M → Prop} : jn_W d 171 242 [some (.ref x), l1, l2, l3] (st) M Q = jn_W d 171 243 [some (.ref x), l1, l2, l3] (.ref x :: st) M Q := jn_W_eq (f := jn_aload_n 0) rfl rfl
set_option maxRecDepth 100000 in
theorem jn_w171_242n {d : Nat} {l1 l2 l3 : Option Value} {st : List Value} {M : jn_M} {Q : Option Value → jn_M → Prop} : jn_W d 171 242 [some .null, l1, l2, l3] (st) M Q = jn_W d 171 243 [some .null, l1, l2, l3] (.null :: st) M Q := jn_W_eq (f := jn_aload_n 0) rfl rfl
set_option maxRecDepth 100000 in
theorem jn_w171_243 {d : Nat} {l0 l1 l2 : Option Value} {x : Int32} {st : List Value} {M : jn_M} {Q : Option Value → jn_M → Prop} : jn_W d 171 243 [l0, l1, l2, some (.int x)] (st) M Q = jn_W d 171 244 [l0, l1, l2, some (.int x)] (.int x :: st) M Q := jn_W_eq (f := jn_iload_n 3) rfl rfl
set_option maxRecDepth 100000 in
theorem jn_w171_244 {d : Nat} {ls : jn_Lo} {st : List Value} {M : jn_M} {Q : Option Value → jn_M → Prop} : jn_W d 171 244 ls (st) M Q = jn_W d 171 245 ls (.int (nI 3) :: st) M Q := by rw [← jn_k_3]; exact jn_W_eq (f := jn_iconst 3) rfl rfl
set_option maxRecDepth 100000 in
theorem jn_w171_245 {d : Nat} {ls : jn_Lo} {x y : Int32} {st : List Value} {M : jn_M} {Q : Option Value → jn_M → Prop} : jn_W d 171 245 ls (.int y :: .int x :: st) M Q = jn_W d 171 246 ls (.int (x + y) :: st) M Q := jn_W_eq (f := jn_iadd) rfl rfl
set_option maxRecDepth 100000 in
theorem jn_w171_246 {d : Nat} {ls : jn_Lo} {a : Nat} {i : Int32} {st : List Value} {M : jn_M} {Q : Option Value → jn_M → Prop} : jn_W d 171 246 ls (.int i :: .ref a :: st) M Q = (jn_aiO (jn_rs M a) 0 i = true ∧ jn_W d 171 247 ls (.int (jn_aiV (jn_rs M a) i) :: st) M Q) := jn_W_eqc (f := jn_iaload) rfl jn_iaload_e
set_option maxRecDepth 100000 in
theorem jn_w171_247 {d : Nat} {l1 l2 l3 : Option Value} {x : Nat} {st : List Value} {M : jn_M} {Q : Option Value → jn_M → Prop} : jn_W d 171 247 [some (.ref x), l1, l2, l3] (st) M Q = jn_W d 171 248 [some (.ref x), l1, l2, l3] (.ref x :: st) M Q := jn_W_eq (f := jn_aload_n 0) rfl rfl
set_option maxRecDepth 100000 in
theorem jn_w171_247n {d : Nat} {l1 l2 l3 : Option Value} {st : List Value} {M : jn_M} {Q : Option Value → jn_M → Prop} : jn_W d 171 247 [some .null, l1, l2, l3] (st) M Q = jn_W d 171 248 [some .null, l1, l2, l3] (.null :: st) M Q := jn_W_eq (f := jn_aload_n 0) rfl rfl
set_option maxRecDepth 100000 in
theorem jn_w171_248 {d : Nat} {l0 l1 l2 : Option Value} {x : Int32} {st : List Value} {M : jn_M} {Q : Option Value → jn_M → Prop} : jn_W d 171 248 [l0, l1, l2, some (.int x)] (st) M Q = jn_W d 171 249 [l0, l1, l2, some (.int x)] (.int x :: st) M Q := jn_W_eq (f := jn_iload_n 3) rfl rfl
set_option maxRecDepth 100000 in
theorem jn_w171_249 {d : Nat} {ls : jn_Lo} {st : List Value} {M : jn_M} {Q : Option Value → jn_M → Prop} : jn_W d 171 249 ls (st) M Q = jn_W d 171 250 ls (.int (nI 4) :: st) M Q := by rw [← jn_k_4]; exact jn_W_eq (f := jn_iconst 4) rfl rfl
set_option maxRecDepth 100000 in
theorem jn_w171_250 {d : Nat} {ls : jn_Lo} {x y : Int32} {st : List Value} {M : jn_M} {Q : Option Value → jn_M → Prop} : jn_W d 171 250 ls (.int y :: .int x :: st) M Q = jn_W d 171 251 ls (.int (x + y) :: st) M Q := jn_W_eq (f := jn_iadd) rfl rfl
set_option maxRecDepth 100000 in
theorem jn_w171_251 {d : Nat} {ls : jn_Lo} {a : Nat} {i : Int32} {st : List Value} {M : jn_M} {Q : Option Value → jn_M → Prop} : jn_W d 171 251 ls (.int i :: .ref a :: st) M Q = (jn_aiO (jn_rs M a) 0 i = true ∧ jn_W d 171 252 ls (.int (jn_aiV (jn_rs M a) i) :: st) M Q) := jn_W_eqc (f := jn_iaload) rfl jn_iaload_e
set_option maxRecDepth 100000 in
theorem jn_w171_252 {d : Nat} {ls : jn_Lo} {a0 : Nat} {a1 : Int32} {a2 : Int32} {a3 : Int32} {a4 : Int32} {k : Nat} {v : Option Value} {M1 : jn_M} {st : List Value} {M : jn_M} {Q : Option Value → jn_M → Prop} (h : jn_V 102 k [.ref a0, .int a1, .int a2, .int a3, .int a4] M v M1) (hk : 1 ≤ k ∧ k + 1 ≤ d) : jn_W d 171 252 ls (.int a4 :: .int a3 :: .int a2 :: .int a1 :: .ref a0 :: st) M Q = ((jn_sm 8 st = true ∧ jn_rc 9 M [.ref a0, .int a1, .int a2, .int a3, .int a4] = true) ∧ jn_W d 171 255 ls (v.toList ++ st) M1 Q) := jn_W_call (na := 5) rfl h hk rfl rfl (Nat.le_of_ble_eq_true rfl)
set_option maxRecDepth 100000 in
theorem jn_w171_255 {d : Nat} {ls : jn_Lo} {x y : Int32} {st : List Value} {M : jn_M} {Q : Option Value → jn_M → Prop} : jn_W d 171 255 ls (.int y :: .int x :: st) M Q = if x = y then jn_W d 171 1252 ls (st) M Q else jn_W d 171 258 ls (st) M Q := jn_W_br (f := jn_iceq 1252) _ rfl rfl
set_option maxRecDepth 100000 in
theorem jn_w171_258 {d : Nat} {ls : jn_Lo} {st : List Value} {M : jn_M} {Q : Option Value → jn_M → Prop} : jn_W d 171 258 ls (st) M Q = jn_W d 171 259 ls (.int (nI 0) :: st) M Q := by rw [← jn_k_0]; exact jn_W_eq (f := jn_iconst 0) rfl rfl
set_option maxRecDepth 100000 in
theorem jn_w171_259 {d : Nat} {ls : jn_Lo} {v : Int32} {M : jn_M} {Q : Option Value → jn_M → Prop} : jn_W d 171 259 ls [.int v] M Q = (jn_zb v = true ∧ Q (some (.int v)) M) := jn_W_retc (k := 2) rfl jn_ret2_e
set_option maxRecDepth 100000 in
theorem jn_w171_260 {d : Nat} {l0 l2 l3 : Option Value} {x : Nat} {st : List Value} {M : jn_M} {Q : Option Value → jn_M → Prop} : jn_W d 171 260 [l0, some (.ref x), l2, l3] (st) M Q = jn_W d 171 261 [l0, some (.ref x), l2, l3] (.ref x :: st) M Q := jn_W_eq (f := jn_aload_n 1) rfl rfl
set_option maxRecDepth 100000 in
theorem jn_w171_260n {d : Nat} {l0 l2 l3 : Option Value} {st : List Value} {M : jn_M} {Q : Option Value → jn_M → Prop} : jn_W d 171 260 [l0, some .null, l2, l3] (st) M Q = jn_W d 171 261 [l0, some .null, l2, l3] (.null :: st) M Q := jn_W_eq (f := jn_aload_n 1) rfl rfl
set_option maxRecDepth 100000 in
theorem jn_w171_261 {d : Nat} {l1 l2 l3 : Option Value} {x : Nat} {st : List Value} {M : jn_M} {Q : Option Value → jn_M → Prop} : jn_W d 171 261 [some (.ref x), l1, l2, l3] (st) M Q = jn_W d 171 262 [some (.ref x), l1, l2, l3] (.ref x :: st) M Q := jn_W_eq (f := jn_aload_n 0) rfl rfl
set_option maxRecDepth 100000 in
theorem jn_w171_261n {d : Nat} {l1 l2 l3 : Option Value} {st : List Value} {M : jn_M} {Q : Option Value → jn_M → Prop} : jn_W d 171 261 [some .null, l1, l2, l3] (st) M Q = jn_W d 171 262 [some .null, l1, l2, l3] (.null :: st) M Q := jn_W_eq (f := jn_aload_n 0) rfl rfl
set_option maxRecDepth 100000 in
theorem jn_w171_262 {d : Nat} {l0 l1 l2 : Option Value} {x : Int32} {st : List Value} {M : jn_M} {Q : Option Value → jn_M → Prop} : jn_W d 171 262 [l0, l1, l2, some (.int x)] (st) M Q = jn_W d 171 263 [l0, l1, l2, some (.int x)] (.int x :: st) M Q := jn_W_eq (f := jn_iload_n 3) rfl rfl
set_option maxRecDepth 100000 in
theorem jn_w171_263 {d : Nat} {ls : jn_Lo} {st : List Value} {M : jn_M} {Q : Option Value → jn_M → Prop} : jn_W d 171 263 ls (st) M Q = jn_W d 171 264 ls (.int (nI 1) :: st) M Q := by rw [← jn_k_1]; exact jn_W_eq (f := jn_iconst 1) rfl rfl
set_option maxRecDepth 100000 in
theorem jn_w171_264 {d : Nat} {ls : jn_Lo} {x y : Int32} {st : List Value} {M : jn_M} {Q : Option Value → jn_M → Prop} : jn_W d 171 264 ls (.int y :: .int x :: st) M Q = jn_W d 171 265 ls (.int (x + y) :: st) M Q := jn_W_eq (f := jn_iadd) rfl rfl
set_option maxRecDepth 100000 in
theorem jn_w171_265 {d : Nat} {ls : jn_Lo} {a : Nat} {i : Int32} {st : List Value} {M : jn_M} {Q : Option Value → jn_M → Prop} : jn_W d 171 265 ls (.int i :: .ref a :: st) M Q = (jn_aiO (jn_rs M a) 0 i = true ∧ jn_W d 171 266 ls (.int (jn_aiV (jn_rs M a) i) :: st) M Q) := jn_W_eqc (f := jn_iaload) rfl jn_iaload_e
set_option maxRecDepth 100000 in
theorem jn_w171_266 {d : Nat} {l1 l2 l3 : Option Value} {x : Nat} {st : List Value} {M : jn_M} {Q : Option Value → jn_M → Prop} : jn_W d 171 266 [some (.ref x), l1, l2, l3] (st) M Q = jn_W d 171 267 [some (.ref x), l1, l2, l3] (.ref x :: st) M Q := jn_W_eq (f := jn_aload_n 0) rfl rfl
set_option maxRecDepth 100000 in
theorem jn_w171_266n {d : Nat} {l1 l2 l3 : Option Value} {st : List Value} {M : jn_M} {Q : Option Value → jn_M → Prop} : jn_W d 171 266 [some .null, l1, l2, l3] (st) M Q = jn_W d 171 267 [some .null, l1, l2, l3] (.null :: st) M Q := jn_W_eq (f := jn_aload_n 0) rfl rfl
set_option maxRecDepth 100000 in
theorem jn_w171_267 {d : Nat} {l0 l1 l2 : Option Value} {x : Int32} {st : List Value} {M : jn_M} {Q : Option Value → jn_M → Prop} : jn_W d 171 267 [l0, l1, l2, some (.int x)] (st) M Q = jn_W d 171 268 [l0, l1, l2, some (.int x)] (.int x :: st) M Q := jn_W_eq (f := jn_iload_n 3) rfl rfl
set_option maxRecDepth 100000 in
theorem jn_w171_268 {d : Nat} {ls : jn_Lo} {st : List Value} {M : jn_M} {Q : Option Value → jn_M → Prop} : jn_W d 171 268 ls (st) M Q = jn_W d 171 269 ls (.int (nI 2) :: st) M Q := by rw [← jn_k_2]; exact jn_W_eq (f := jn_iconst 2) rfl rfl
set_option maxRecDepth 100000 in
theorem jn_w171_269 {d : Nat} {ls : jn_Lo} {x y : Int32} {st : List Value} {M : jn_M} {Q : Option Value → jn_M → Prop} : jn_W d 171 269 ls (.int y :: .int x :: st) M Q = jn_W d 171 270 ls (.int (x + y) :: st) M Q := jn_W_eq (f := jn_iadd) rfl rfl
set_option maxRecDepth 100000 in
theorem jn_w171_270 {d : Nat} {ls : jn_Lo} {a : Nat} {i : Int32} {st : List Value} {M : jn_M} {Q : Option Value → jn_M → Prop} : jn_W d 171 270 ls (.int i :: .ref a :: st) M Q = (jn_aiO (jn_rs M a) 0 i = true ∧ jn_W d 171 271 ls (.int (jn_aiV (jn_rs M a) i) :: st) M Q) := jn_W_eqc (f := jn_iaload) rfl jn_iaload_e
set_option maxRecDepth 100000 in
theorem jn_w171_271 {d : Nat} {ls : jn_Lo} {a0 : Nat} {a1 : Int32} {a2 : Int32} {k : Nat} {v : Option Value} {M1 : jn_M} {st : List Value} {M : jn_M} {Q : Option Value → jn_M → Prop} (h : jn_V 48 k [.ref a0, .int a1, .int a2] M v M1) (hk : 1 ≤ k ∧ k + 1 ≤ d) : jn_W d 171 271 ls (.int a2 :: .int a1 :: .ref a0 :: st) M Q = ((jn_sm 8 st = true ∧ jn_rc 8 M [.ref a0, .int a1, .int a2] = true) ∧ jn_W d 171 274 ls (v.toList ++ st) M1 Q) := jn_W_call (na := 3) rfl h hk rfl rfl (Nat.le_of_ble_eq_true rfl)
set_option maxRecDepth 100000 in
theorem jn_w171_274 {d : Nat} {l0 l1 l3 : Option Value} {x : Nat} {st : List Value} {M : jn_M} {Q : Option Value → jn_M → Prop} : jn_W d 171 274 [l0, l1, some (.ref x), l3] (st) M Q = jn_W d 171 275 [l0, l1, some (.ref x), l3] (.ref x :: st) M Q := jn_W_eq (f := jn_aload_n 2) rfl rfl
set_option maxRecDepth 100000 in
theorem jn_w171_274n {d : Nat} {l0 l1 l3 : Option Value} {st : List Value} {M : jn_M} {Q : Option Value → jn_M → Prop} : jn_W d 171 274 [l0, l1, some .null, l3] (st) M Q = jn_W d 171 275 [l0, l1, some .null, l3] (.null :: st) M Q := jn_W_eq (f := jn_aload_n 2) rfl rfl
set_option maxRecDepth 100000 in
theorem jn_w171_275 {d : Nat} {l1 l2 l3 : Option Value} {x : Nat} {st : List Value} {M : jn_M} {Q : Option Value → jn_M → Prop} : jn_W d 171 275 [some (.ref x), l1, l2, l3] (st) M Q = jn_W d 171 276 [some (.ref x), l1, l2, l3] (.ref x :: st) M Q := jn_W_eq (f := jn_aload_n 0) rfl rfl
set_option maxRecDepth 100000 in
theorem jn_w171_275n {d : Nat} {l1 l2 l3 : Option Value} {st : List Value} {M : jn_M} {Q : Option Value → jn_M → Prop} : jn_W d 171 275 [some .null, l1, l2, l3] (st) M Q = jn_W d 171 276 [some .null, l1, l2, l3] (.null :: st) M Q := jn_W_eq (f := jn_aload_n 0) rfl rfl
set_option maxRecDepth 100000 in
theorem jn_w171_276 {d : Nat} {l0 l1 l2 : Option Value} {x : Int32} {st : List Value} {M : jn_M} {Q : Option Value → jn_M → Prop} : jn_W d 171 276 [l0, l1, l2, some (.int x)] (st) M Q = jn_W d 171 277 [l0, l1, l2, some (.int x)] (.int x :: st) M Q := jn_W_eq (f := jn_iload_n 3) rfl rfl
set_option maxRecDepth 100000 in
theorem jn_w171_277 {d : Nat} {ls : jn_Lo} {st : List Value} {M : jn_M} {Q : Option Value → jn_M → Prop} : jn_W d 171 277 ls (st) M Q = jn_W d 171 278 ls (.int (nI 1) :: st) M Q := by rw [← jn_k_1]; exact jn_W_eq (f := jn_iconst 1) rfl rfl
set_option maxRecDepth 100000 in
theorem jn_w171_278 {d : Nat} {ls : jn_Lo} {x y : Int32} {st : List Value} {M : jn_M} {Q : Option Value → jn_M → Prop} : jn_W d 171 278 ls (.int y :: .int x :: st) M Q = jn_W d 171 279 ls (.int (x + y) :: st) M Q := jn_W_eq (f := jn_iadd) rfl rfl
set_option maxRecDepth 100000 in
theorem jn_w171_279 {d : Nat} {ls : jn_Lo} {a : Nat} {i : Int32} {st : List Value} {M : jn_M} {Q : Option Value → jn_M → Prop} : jn_W d 171 279 ls (.int i :: .ref a :: st) M Q = (jn_aiO (jn_rs M a) 0 i = true ∧ jn_W d 171 280 ls (.int (jn_aiV (jn_rs M a) i) :: st) M Q) := jn_W_eqc (f := jn_iaload) rfl jn_iaload_e
set_option maxRecDepth 100000 in
theorem jn_w171_280 {d : Nat} {l1 l2 l3 : Option Value} {x : Nat} {st : List Value} {M : jn_M} {Q : Option Value → jn_M → Prop} : jn_W d 171 280 [some (.ref x), l1, l2, l3] (st) M Q = jn_W d 171 281 [some (.ref x), l1, l2, l3] (.ref x :: st) M Q := jn_W_eq (f := jn_aload_n 0) rfl rfl
set_option maxRecDepth 100000 in
theorem jn_w171_280n {d : Nat} {l1 l2 l3 : Option Value} {st : List Value} {M : jn_M} {Q : Option Value → jn_M → Prop} : jn_W d 171 280 [some .null, l1, l2, l3] (st) M Q = jn_W d 171 281 [some .null, l1, l2, l3] (.null :: st) M Q := jn_W_eq (f := jn_aload_n 0) rfl rfl
set_option maxRecDepth 100000 in
theorem jn_w171_281 {d : Nat} {l0 l1 l2 : Option Value} {x : Int32} {st : List Value} {M : jn_M} {Q : Option Value → jn_M → Prop} : jn_W d 171 281 [l0, l1, l2, some (.int x)] (st) M Q = jn_W d 171 282 [l0, l1, l2, some (.int x)] (.int x :: st) M Q := jn_W_eq (f := jn_iload_n 3) rfl rfl
set_option maxRecDepth 100000 in
theorem jn_w171_282 {d : Nat} {ls : jn_Lo} {st : List Value} {M : jn_M} {Q : Option Value → jn_M → Prop} : jn_W d 171 282 ls (st) M Q = jn_W d 171 283 ls (.int (nI 2) :: st) M Q := by rw [← jn_k_2]; exact jn_W_eq (f := jn_iconst 2) rfl rfl
set_option maxRecDepth 100000 in
theorem jn_w171_283 {d : Nat} {ls : jn_Lo} {x y : Int32} {st : List Value} {M : jn_M} {Q : Option Value → jn_M → Prop} : jn_W d 171 283 ls (.int y :: .int x :: st) M Q = jn_W d 171 284 ls (.int (x + y) :: st) M Q := jn_W_eq (f := jn_iadd) rfl rfl
set_option maxRecDepth 100000 in
theorem jn_w171_284 {d : Nat} {ls : jn_Lo} {a : Nat} {i : Int32} {st : List Value} {M : jn_M} {Q : Option Value → jn_M → Prop} : jn_W d 171 284 ls (.int i :: .ref a :: st) M Q = (jn_aiO (jn_rs M a) 0 i = true ∧ jn_W d 171 285 ls (.int (jn_aiV (jn_rs M a) i) :: st) M Q) := jn_W_eqc (f := jn_iaload) rfl jn_iaload_e
set_option maxRecDepth 100000 in
theorem jn_w171_285 {d : Nat} {ls : jn_Lo} {a0 : Nat} {a1 : Int32} {a2 : Int32} {k : Nat} {v : Option Value} {M1 : jn_M} {st : List Value} {M : jn_M} {Q : Option Value → jn_M → Prop} (h : jn_V 108 k [.ref a0, .int a1, .int a2] M v M1) (hk : 1 ≤ k ∧ k + 1 ≤ d) : jn_W d 171 285 ls (.int a2 :: .int a1 :: .ref a0 :: st) M Q = ((jn_sm 8 st = true ∧ jn_rc 9 M [.ref a0, .int a1, .int a2] = true) ∧ jn_W d 171 288 ls (v.toList ++ st) M1 Q) := jn_W_call (na := 3) rfl h hk rfl rfl (Nat.le_of_ble_eq_true rfl)
set_option maxRecDepth 100000 in
theorem jn_w171_288 {d : Nat} {ls : jn_Lo} {x y : Int32} {st : List Value} {M : jn_M} {Q : Option Value → jn_M → Prop} : jn_W d 171 288 ls (.int y :: .int x :: st) M Q = if x = y then jn_W d 171 1252 ls (st) M Q else jn_W d 171 291 ls (st) M Q := jn_W_br (f := jn_iceq 1252) _ rfl rfl
set_option maxRecDepth 100000 in
theorem jn_w171_291 {d : Nat} {ls : jn_Lo} {st : List Value} {M : jn_M} {Q : Option Value → jn_M → Prop} : jn_W d 171 291 ls (st) M Q = jn_W d 171 292 ls (.int (nI 0) :: st) M Q := by rw [← jn_k_0]; exact jn_W_eq (f := jn_iconst 0) rfl rfl
set_option maxRecDepth 100000 in
theorem jn_w171_292 {d : Nat} {ls : jn_Lo} {v : Int32} {M : jn_M} {Q : Option Value → jn_M → Prop} : jn_W d 171 292 ls [.int v] M Q = (jn_zb v = true ∧ Q (some (.int v)) M) := jn_W_retc (k := 2) rfl jn_ret2_e
set_option maxRecDepth 100000 in
theorem jn_w171_293 {d : Nat} {l0 l2 l3 : Option Value} {x : Nat} {st : List Value} {M : jn_M} {Q : Option Value → jn_M → Prop} : jn_W d 171 293 [l0, some (.ref x), l2, l3] (st) M Q = jn_W d 171 294 [l0, some (.ref x), l2, l3] (.ref x :: st) M Q := jn_W_eq (f := jn_aload_n 1) rfl rfl
set_option maxRecDepth 100000 in
theorem jn_w171_293n {d : Nat} {l0 l2 l3 : Option Value} {st : List Value} {M : jn_M} {Q : Option Value → jn_M → Prop} : jn_W d 171 293 [l0, some .null, l2, l3] (st) M Q = jn_W d 171 294 [l0, some .null, l2, l3] (.null :: st) M Q := jn_W_eq (f := jn_aload_n 1) rfl rfl
set_option maxRecDepth 100000 in
theorem jn_w171_294 {d : Nat} {l1 l2 l3 : Option Value} {x : Nat} {st : List Value} {M : jn_M} {Q : Option Value → jn_M → Prop} : jn_W d 171 294 [some (.ref x), l1, l2, l3] (st) M Q = jn_W d 171 295 [some (.ref x), l1, l2, l3] (.ref x :: st) M Q := jn_W_eq (f := jn_aload_n 0) rfl rfl
set_option maxRecDepth 100000 in
theorem jn_w171_294n {d : Nat} {l1 l2 l3 : Option Value} {st : List Value} {M : jn_M} {Q : Option Value → jn_M → Prop} : jn_W d 171 294 [some .null, l1, l2, l3] (st) M Q = jn_W d 171 295 [some .null, l1, l2, l3] (.null :: st) M Q := jn_W_eq (f := jn_aload_n 0) rfl rfl
set_option maxRecDepth 100000 in
theorem jn_w171_295 {d : Nat} {l0 l1 l2 : Option Value} {x : Int32} {st : List Value} {M : jn_M} {Q : Option Value → jn_M → Prop} : jn_W d 171 295 [l0, l1, l2, some (.int x)] (st) M Q = jn_W d 171 296 [l0, l1, l2, some (.int x)] (.int x :: st) M Q := jn_W_eq (f := jn_iload_n 3) rfl rfl
set_option maxRecDepth 100000 in
theorem jn_w171_296 {d : Nat} {ls : jn_Lo} {st : List Value} {M : jn_M} {Q : Option Value → jn_M → Prop} : jn_W d 171 296 ls (st) M Q = jn_W d 171 297 ls (.int (nI 1) :: st) M Q := by rw [← jn_k_1]; exact jn_W_eq (f := jn_iconst 1) rfl rfl
set_option maxRecDepth 100000 in
theorem jn_w171_297 {d : Nat} {ls : jn_Lo} {x y : Int32} {st : List Value} {M : jn_M} {Q : Option Value → jn_M → Prop} : jn_W d 171 297 ls (.int y :: .int x :: st) M Q = jn_W d 171 298 ls (.int (x + y) :: st) M Q := jn_W_eq (f := jn_iadd) rfl rfl
set_option maxRecDepth 100000 in
theorem jn_w171_298 {d : Nat} {ls : jn_Lo} {a : Nat} {i : Int32} {st : List Value} {M : jn_M} {Q : Option Value → jn_M → Prop} : jn_W d 171 298 ls (.int i :: .ref a :: st) M Q = (jn_aiO (jn_rs M a) 0 i = true ∧ jn_W d 171 299 ls (.int (jn_aiV (jn_rs M a) i) :: st) M Q) := jn_W_eqc (f := jn_iaload) rfl jn_iaload_e
set_option maxRecDepth 100000 in
theorem jn_w171_299 {d : Nat} {l1 l2 l3 : Option Value} {x : Nat} {st : List Value} {M : jn_M} {Q : Option Value → jn_M → Prop} : jn_W d 171 299 [some (.ref x), l1, l2, l3] (st) M Q = jn_W d 171 300 [some (.ref x), l1, l2, l3] (.ref x :: st) M Q := jn_W_eq (f := jn_aload_n 0) rfl rfl
set_option maxRecDepth 100000 in
theorem jn_w171_299n {d : Nat} {l1 l2 l3 : Option Value} {st : List Value} {M : jn_M} {Q : Option Value → jn_M → Prop} : jn_W d 171 299 [some .null, l1, l2, l3] (st) M Q = jn_W d 171 300 [some .null, l1, l2, l3] (.null :: st) M Q := jn_W_eq (f := jn_aload_n 0) rfl rfl
set_option maxRecDepth 100000 in
theorem jn_w171_300 {d : Nat} {l0 l1 l2 : Option Value} {x : Int32} {st : List Value} {M : jn_M} {Q : Option Value → jn_M → Prop} : jn_W d 171 300 [l0, l1, l2, some (.int x)] (st) M Q = jn_W d 171 301 [l0, l1, l2, some (.int x)] (.int x :: st) M Q := jn_W_eq (f := jn_iload_n 3) rfl rfl
set_option maxRecDepth 100000 in
theorem jn_w171_301 {d : Nat} {ls : jn_Lo} {st : List Value} {M : jn_M} {Q : Option Value → jn_M → Prop} : jn_W d 171 301 ls (st) M Q = jn_W d 171 302 ls (.int (nI 2) :: st) M Q := by rw [← jn_k_2]; exact jn_W_eq (f := jn_iconst 2) rfl rfl
set_option maxRecDepth 100000 in
theorem jn_w171_302 {d : Nat} {ls : jn_Lo} {x y : Int32} {st : List Value} {M : jn_M} {Q : Option Value → jn_M → Prop} : jn_W d 171 302 ls (.int y :: .int x :: st) M Q = jn_W d 171 303 ls (.int (x + y) :: st) M Q := jn_W_eq (f := jn_iadd) rfl rfl
set_option maxRecDepth 100000 in
theorem jn_w171_303 {d : Nat} {ls : jn_Lo} {a : Nat} {i : Int32} {st : List Value} {M : jn_M} {Q : Option Value → jn_M → Prop} : jn_W d 171 303 ls (.int i :: .ref a :: st) M Q = (jn_aiO (jn_rs M a) 0 i = true ∧ jn_W d 171 304 ls (.int (jn_aiV (jn_rs M a) i) :: st) M Q) := jn_W_eqc (f := jn_iaload) rfl jn_iaload_e
set_option maxRecDepth 100000 in
theorem jn_w171_304 {d : Nat} {l1 l2 l3 : Option Value} {x : Nat} {st : List Value} {M : jn_M} {Q : Option Value → jn_M → Prop} : jn_W d 171 304 [some (.ref x), l1, l2, l3] (st) M Q = jn_W d 171 305 [some (.ref x), l1, l2, l3] (.ref x :: st) M Q := jn_W_eq (f := jn_aload_n 0) rfl rfl
set_option maxRecDepth 100000 in
theorem jn_w171_304n {d : Nat} {l1 l2 l3 : Option Value} {st : List Value} {M : jn_M} {Q : Option Value → jn_M → Prop} : jn_W d 171 304 [some .null, l1, l2, l3] (st) M Q = jn_W d 171 305 [some .null, l1, l2, l3] (.null :: st) M Q := jn_W_eq (f := jn_aload_n 0) rfl rfl
set_option maxRecDepth 100000 in
theorem jn_w171_305 {d : Nat} {l0 l1 l2 : Option Value} {x : Int32} {st : List Value} {M : jn_M} {Q : Option Value → jn_M → Prop} : jn_W d 171 305 [l0, l1, l2, some (.int x)] (st) M Q = jn_W d 171 306 [l0, l1, l2, some (.int x)] (.int x :: st) M Q := jn_W_eq (f := jn_iload_n 3) rfl rfl
set_option maxRecDepth 100000 in
theorem jn_w171_306 {d : Nat} {ls : jn_Lo} {st : List Value} {M : jn_M} {Q : Option Value → jn_M → Prop} : jn_W d 171 306 ls (st) M Q = jn_W d 171 307 ls (.int (nI 3) :: st) M Q := by rw [← jn_k_3]; exact jn_W_eq (f := jn_iconst 3) rfl rfl
set_option maxRecDepth 100000 in
theorem jn_w171_307 {d : Nat} {ls : jn_Lo} {x y : Int32} {st : List Value} {M : jn_M} {Q : Option Value → jn_M → Prop} : jn_W d 171 307 ls (.int y :: .int x :: st) M Q = jn_W d 171 308 ls (.int (x + y) :: st) M Q := jn_W_eq (f := jn_iadd) rfl rfl
set_option maxRecDepth 100000 in
theorem jn_w171_308 {d : Nat} {ls : jn_Lo} {a : Nat} {i : Int32} {st : List Value} {M : jn_M} {Q : Option Value → jn_M → Prop} : jn_W d 171 308 ls (.int i :: .ref a :: st) M Q = (jn_aiO (jn_rs M a) 0 i = true ∧ jn_W d 171 309 ls (.int (jn_aiV (jn_rs M a) i) :: st) M Q) := jn_W_eqc (f := jn_iaload) rfl jn_iaload_e
set_option maxRecDepth 100000 in
theorem jn_w171_309 {d : Nat} {ls : jn_Lo} {a0 : Nat} {a1 : Int32} {a2 : Int32} {a3 : Int32} {k : Nat} {v : Option Value} {M1 : jn_M} {st : List Value} {M : jn_M} {Q : Option Value → jn_M → Prop} (h : jn_V 49 k [.ref a0, .int a1, .int a2, .int a3] M v M1) (hk : 1 ≤ k ∧ k + 1 ≤ d) : jn_W d 171 309 ls (.int a3 :: .int a2 :: .int a1 :: .ref a0 :: st) M Q = ((jn_sm 8 st = true ∧ jn_rc 8 M [.ref a0, .int a1, .int a2, .int a3] = true) ∧ jn_W d 171 312 ls (v.toList ++ st) M1 Q) := jn_W_call (na := 4) rfl h hk rfl rfl (Nat.le_of_ble_eq_true rfl)
set_option maxRecDepth 100000 in
theorem jn_w171_312 {d : Nat} {l0 l1 l3 : Option Value} {x : Nat} {st : List Value} {M : jn_M} {Q : Option Value → jn_M → Prop} : jn_W d 171 312 [l0, l1, some (.ref x), l3] (st) M Q = jn_W d 171 313 [l0, l1, some (.ref x), l3] (.ref x :: st) M Q := jn_W_eq (f := jn_aload_n 2) rfl rfl
set_option maxRecDepth 100000 in
theorem jn_w171_312n {d : Nat} {l0 l1 l3 : Option Value} {st : List Value} {M : jn_M} {Q : Option Value → jn_M → Prop} : jn_W d 171 312 [l0, l1, some .null, l3] (st) M Q = jn_W d 171 313 [l0, l1, some .null, l3] (.null :: st) M Q := jn_W_eq (f := jn_aload_n 2) rfl rfl
set_option maxRecDepth 100000 in
theorem jn_w171_313 {d : Nat} {l1 l2 l3 : Option Value} {x : Nat} {st : List Value} {M : jn_M} {Q : Option Value → jn_M → Prop} : jn_W d 171 313 [some (.ref x), l1, l2, l3] (st) M Q = jn_W d 171 314 [some (.ref x), l1, l2, l3] (.ref x :: st) M Q := jn_W_eq (f := jn_aload_n 0) rfl rfl
set_option maxRecDepth 100000 in
theorem jn_w171_313n {d : Nat} {l1 l2 l3 : Option Value} {st : List Value} {M : jn_M} {Q : Option Value → jn_M → Prop} : jn_W d 171 313 [some .null, l1, l2, l3] (st) M Q = jn_W d 171 314 [some .null, l1, l2, l3] (.null :: st) M Q := jn_W_eq (f := jn_aload_n 0) rfl rfl
set_option maxRecDepth 100000 in
theorem jn_w171_314 {d : Nat} {l0 l1 l2 : Option Value} {x : Int32} {st : List Value} {M : jn_M} {Q : Option Value → jn_M → Prop} : jn_W d 171 314 [l0, l1, l2, some (.int x)] (st) M Q = jn_W d 171 315 [l0, l1, l2, some (.int x)] (.int x :: st) M Q := jn_W_eq (f := jn_iload_n 3) rfl rfl
set_option maxRecDepth 100000 in
theorem jn_w171_315 {d : Nat} {ls : jn_Lo} {st : List Value} {M : jn_M} {Q : Option Value → jn_M → Prop} : jn_W d 171 315 ls (st) M Q = jn_W d 171 316 ls (.int (nI 1) :: st) M Q := by rw [← jn_k_1]; exact jn_W_eq (f := jn_iconst 1) rfl rfl
set_option maxRecDepth 100000 in
theorem jn_w171_316 {d : Nat} {ls : jn_Lo} {x y : Int32} {st : List Value} {M : jn_M} {Q : Option Value → jn_M → Prop} : jn_W d 171 316 ls (.int y :: .int x :: st) M Q = jn_W d 171 317 ls (.int (x + y) :: st) M Q := jn_W_eq (f := jn_iadd) rfl rfl
set_option maxRecDepth 100000 in
theorem jn_w171_317 {d : Nat} {ls : jn_Lo} {a : Nat} {i : Int32} {st : List Value} {M : jn_M} {Q : Option Value → jn_M → Prop} : jn_W d 171 317 ls (.int i :: .ref a :: st) M Q = (jn_aiO (jn_rs M a) 0 i = true ∧ jn_W d 171 318 ls (.int (jn_aiV (jn_rs M a) i) :: st) M Q) := jn_W_eqc (f := jn_iaload) rfl jn_iaload_e
set_option maxRecDepth 100000 in
theorem jn_w171_318 {d : Nat} {l1 l2 l3 : Option Value} {x : Nat} {st : List Value} {M : jn_M} {Q : Option Value → jn_M → Prop} : jn_W d 171 318 [some (.ref x), l1, l2, l3] (st) M Q = jn_W d 171 319 [some (.ref x), l1, l2, l3] (.ref x :: st) M Q := jn_W_eq (f := jn_aload_n 0) rfl rfl
set_option maxRecDepth 100000 in
theorem jn_w171_318n {d : Nat} {l1 l2 l3 : Option Value} {st : List Value} {M : jn_M} {Q : Option Value → jn_M → Prop} : jn_W d 171 318 [some .null, l1, l2, l3] (st) M Q = jn_W d 171 319 [some .null, l1, l2, l3] (.null :: st) M Q := jn_W_eq (f := jn_aload_n 0) rfl rfl
set_option maxRecDepth 100000 in
theorem jn_w171_319 {d : Nat} {l0 l1 l2 : Option Value} {x : Int32} {st : List Value} {M : jn_M} {Q : Option Value → jn_M → Prop} : jn_W d 171 319 [l0, l1, l2, some (.int x)] (st) M Q = jn_W d 171 320 [l0, l1, l2, some (.int x)] (.int x :: st) M Q := jn_W_eq (f := jn_iload_n 3) rfl rfl
set_option maxRecDepth 100000 in
theorem jn_w171_320 {d : Nat} {ls : jn_Lo} {st : List Value} {M : jn_M} {Q : Option Value → jn_M → Prop} : jn_W d 171 320 ls (st) M Q = jn_W d 171 321 ls (.int (nI 2) :: st) M Q := by rw [← jn_k_2]; exact jn_W_eq (f := jn_iconst 2) rfl rfl
set_option maxRecDepth 100000 in
theorem jn_w171_321 {d : Nat} {ls : jn_Lo} {x y : Int32} {st : List Value} {M : jn_M} {Q : Option Value → jn_M → Prop} : jn_W d 171 321 ls (.int y :: .int x :: st) M Q = jn_W d 171 322 ls (.int (x + y) :: st) M Q := jn_W_eq (f := jn_iadd) rfl rfl
set_option maxRecDepth 100000 in
theorem jn_w171_322 {d : Nat} {ls : jn_Lo} {a : Nat} {i : Int32} {st : List Value} {M : jn_M} {Q : Option Value → jn_M → Prop} : jn_W d 171 322 ls (.int i :: .ref a :: st) M Q = (jn_aiO (jn_rs M a) 0 i = true ∧ jn_W d 171 323 ls (.int (jn_aiV (jn_rs M a) i) :: st) M Q) := jn_W_eqc (f := jn_iaload) rfl jn_iaload_e
set_option maxRecDepth 100000 in
theorem jn_w171_323 {d : Nat} {l1 l2 l3 : Option Value} {x : Nat} {st : List Value} {M : jn_M} {Q : Option Value → jn_M → Prop} : jn_W d 171 323 [some (.ref x), l1, l2, l3] (st) M Q = jn_W d 171 324 [some (.ref x), l1, l2, l3] (.ref x :: st) M Q := jn_W_eq (f := jn_aload_n 0) rfl rfl
set_option maxRecDepth 100000 in
theorem jn_w171_323n {d : Nat} {l1 l2 l3 : Option Value} {st : List Value} {M : jn_M} {Q : Option Value → jn_M → Prop} : jn_W d 171 323 [some .null, l1, l2, l3] (st) M Q = jn_W d 171 324 [some .null, l1, l2, l3] (.null :: st) M Q := jn_W_eq (f := jn_aload_n 0) rfl rfl
set_option maxRecDepth 100000 in
theorem jn_w171_324 {d : Nat} {l0 l1 l2 : Option Value} {x : Int32} {st : List Value} {M : jn_M} {Q : Option Value → jn_M → Prop} : jn_W d 171 324 [l0, l1, l2, some (.int x)] (st) M Q = jn_W d 171 325 [l0, l1, l2, some (.int x)] (.int x :: st) M Q := jn_W_eq (f := jn_iload_n 3) rfl rfl
set_option maxRecDepth 100000 in
theorem jn_w171_325 {d : Nat} {ls : jn_Lo} {st : List Value} {M : jn_M} {Q : Option Value → jn_M → Prop} : jn_W d 171 325 ls (st) M Q = jn_W d 171 326 ls (.int (nI 3) :: st) M Q := by rw [← jn_k_3]; exact jn_W_eq (f := jn_iconst 3) rfl rfl
set_option maxRecDepth 100000 in
theorem jn_w171_326 {d : Nat} {ls : jn_Lo} {x y : Int32} {st : List Value} {M : jn_M} {Q : Option Value → jn_M → Prop} : jn_W d 171 326 ls (.int y :: .int x :: st) M Q = jn_W d 171 327 ls (.int (x + y) :: st) M Q := jn_W_eq (f := jn_iadd) rfl rfl
set_option maxRecDepth 100000 in
theorem jn_w171_327 {d : Nat} {ls : jn_Lo} {a : Nat} {i : Int32} {st : List Value} {M : jn_M} {Q : Option Value → jn_M → Prop} : jn_W d 171 327 ls (.int i :: .ref a :: st) M Q = (jn_aiO (jn_rs M a) 0 i = true ∧ jn_W d 171 328 ls (.int (jn_aiV (jn_rs M a) i) :: st) M Q) := jn_W_eqc (f := jn_iaload) rfl jn_iaload_e
set_option maxRecDepth 100000 in
theorem jn_w171_328 {d : Nat} {ls : jn_Lo} {a0 : Nat} {a1 : Int32} {a2 : Int32} {a3 : Int32} {k : Nat} {v : Option Value} {M1 : jn_M} {st : List Value} {M : jn_M} {Q : Option Value → jn_M → Prop} (h : jn_V 109 k [.ref a0, .int a1, .int a2, .int a3] M v M1) (hk : 1 ≤ k ∧ k + 1 ≤ d) : jn_W d 171 328 ls (.int a3 :: .int a2 :: .int a1 :: .ref a0 :: st) M Q = ((jn_sm 8 st = true ∧ jn_rc 9 M [.ref a0, .int a1, .int a2, .int a3] = true) ∧ jn_W d 171 331 ls (v.toList ++ st) M1 Q) := jn_W_call (na := 4) rfl h hk rfl rfl (Nat.le_of_ble_eq_true rfl)
set_option maxRecDepth 100000 in
theorem jn_w171_331 {d : Nat} {ls : jn_Lo} {x y : Int32} {st : List Value} {M : jn_M} {Q : Option Value → jn_M → Prop} : jn_W d 171 331 ls (.int y :: .int x :: st) M Q = if x = y then jn_W d 171 1252 ls (st) M Q else jn_W d 171 334 ls (st) M Q := jn_W_br (f := jn_iceq 1252) _ rfl rfl
set_option maxRecDepth 100000 in
theorem jn_w171_334 {d : Nat} {ls : jn_Lo} {st : List Value} {M : jn_M} {Q : Option Value → jn_M → Prop} : jn_W d 171 334 ls (st) M Q = jn_W d 171 335 ls (.int (nI 0) :: st) M Q := by rw [← jn_k_0]; exact jn_W_eq (f := jn_iconst 0) rfl rfl
set_option maxRecDepth 100000 in
theorem jn_w171_335 {d : Nat} {ls : jn_Lo} {v : Int32} {M : jn_M} {Q : Option Value → jn_M → Prop} : jn_W d 171 335 ls [.int v] M Q = (jn_zb v = true ∧ Q (some (.int v)) M) := jn_W_retc (k := 2) rfl jn_ret2_e
set_option maxRecDepth 100000 in
theorem jn_w171_336 {d : Nat} {l0 l2 l3 : Option Value} {x : Nat} {st : List Value} {M : jn_M} {Q : Option Value → jn_M → Prop} : jn_W d 171 336 [l0, some (.ref x), l2, l3] (st) M Q = jn_W d 171 337 [l0, some (.ref x), l2, l3] (.ref x :: st) M Q := jn_W_eq (f := jn_aload_n 1) rfl rfl
set_option maxRecDepth 100000 in
theorem jn_w171_336n {d : Nat} {l0 l2 l3 : Option Value} {st : List Value} {M : jn_M} {Q : Option Value → jn_M → Prop} : jn_W d 171 336 [l0, some .null, l2, l3] (st) M Q = jn_W d 171 337 [l0, some .null, l2, l3] (.null :: st) M Q := jn_W_eq (f := jn_aload_n 1) rfl rfl
set_option maxRecDepth 100000 in
theorem jn_w171_337 {d : Nat} {l1 l2 l3 : Option Value} {x : Nat} {st : List Value} {M : jn_M} {Q : Option Value → jn_M → Prop} : jn_W d 171 337 [some (.ref x), l1, l2, l3] (st) M Q = jn_W d 171 338 [some (.ref x), l1, l2, l3] (.ref x :: st) M Q := jn_W_eq (f := jn_aload_n 0) rfl rfl
set_option maxRecDepth 100000 in
theorem jn_w171_337n {d : Nat} {l1 l2 l3 : Option Value} {st : List Value} {M : jn_M} {Q : Option Value → jn_M → Prop} : jn_W d 171 337 [some .null, l1, l2, l3] (st) M Q = jn_W d 171 338 [some .null, l1, l2, l3] (.null :: st) M Q := jn_W_eq (f := jn_aload_n 0) rfl rfl
set_option maxRecDepth 100000 in
theorem jn_w171_338 {d : Nat} {l0 l1 l2 : Option Value} {x : Int32} {st : List Value} {M : jn_M} {Q : Option Value → jn_M → Prop} : jn_W d 171 338 [l0, l1, l2, some (.int x)] (st) M Q = jn_W d 171 339 [l0, l1, l2, some (.int x)] (.int x :: st) M Q := jn_W_eq (f := jn_iload_n 3) rfl rfl
set_option maxRecDepth 100000 in
theorem jn_w171_339 {d : Nat} {ls : jn_Lo} {st : List Value} {M : jn_M} {Q : Option Value → jn_M → Prop} : jn_W d 171 339 ls (st) M Q = jn_W d 171 340 ls (.int (nI 1) :: st) M Q := by rw [← jn_k_1]; exact jn_W_eq (f := jn_iconst 1) rfl rfl
set_option maxRecDepth 100000 in
theorem jn_w171_340 {d : Nat} {ls : jn_Lo} {x y : Int32} {st : List Value} {M : jn_M} {Q : Option Value → jn_M → Prop} : jn_W d 171 340 ls (.int y :: .int x :: st) M Q = jn_W d 171 341 ls (.int (x + y) :: st) M Q := jn_W_eq (f := jn_iadd) rfl rfl
set_option maxRecDepth 100000 in
theorem jn_w171_341 {d : Nat} {ls : jn_Lo} {a : Nat} {i : Int32} {st : List Value} {M : jn_M} {Q : Option Value → jn_M → Prop} : jn_W d 171 341 ls (.int i :: .ref a :: st) M Q = (jn_aiO (jn_rs M a) 0 i = true ∧ jn_W d 171 342 ls (.int (jn_aiV (jn_rs M a) i) :: st) M Q) := jn_W_eqc (f := jn_iaload) rfl jn_iaload_e
set_option maxRecDepth 100000 in
theorem jn_w171_342 {d : Nat} {ls : jn_Lo} {a0 : Nat} {a1 : Int32} {k : Nat} {v : Option Value} {M1 : jn_M} {st : List Value} {M : jn_M} {Q : Option Value → jn_M → Prop} (h : jn_V 50 k [.ref a0, .int a1] M v M1) (hk : 1 ≤ k ∧ k + 1 ≤ d) : jn_W d 171 342 ls (.int a1 :: .ref a0 :: st) M Q = ((jn_sm 8 st = true ∧ jn_rc 8 M [.ref a0, .int a1] = true) ∧ jn_W d 171 345 ls (v.toList ++ st) M1 Q) := jn_W_call (na := 2) rfl h hk rfl rfl (Nat.le_of_ble_eq_true rfl)
set_option maxRecDepth 100000 in
theorem jn_w171_345 {d : Nat} {l0 l1 l3 : Option Value} {x : Nat} {st : List Value} {M : jn_M} {Q : Option Value → jn_M → Prop} : jn_W d 171 345 [l0, l1, some (.ref x), l3] (st) M Q = jn_W d 171 346 [l0, l1, some (.ref x), l3] (.ref x :: st) M Q := jn_W_eq (f := jn_aload_n 2) rfl rfl
set_option maxRecDepth 100000 in
theorem jn_w171_345n {d : Nat} {l0 l1 l3 : Option Value} {st : List Value} {M : jn_M} {Q : Option Value → jn_M → Prop} : jn_W d 171 345 [l0, l1, some .null, l3] (st) M Q = jn_W d 171 346 [l0, l1, some .null, l3] (.null :: st) M Q := jn_W_eq (f := jn_aload_n 2) rfl rfl
set_option maxRecDepth 100000 in
theorem jn_w171_346 {d : Nat} {l1 l2 l3 : Option Value} {x : Nat} {st : List Value} {M : jn_M} {Q : Option Value → jn_M → Prop} : jn_W d 171 346 [some (.ref x), l1, l2, l3] (st) M Q = jn_W d 171 347 [some (.ref x), l1, l2, l3] (.ref x :: st) M Q := jn_W_eq (f := jn_aload_n 0) rfl rfl
set_option maxRecDepth 100000 in
theorem jn_w171_346n {d : Nat} {l1 l2 l3 : Option Value} {st : List Value} {M : jn_M} {Q : Option Value → jn_M → Prop} : jn_W d 171 346 [some .null, l1, l2, l3] (st) M Q = jn_W d 171 347 [some .null, l1, l2, l3] (.null :: st) M Q := jn_W_eq (f := jn_aload_n 0) rfl rfl
set_option maxRecDepth 100000 in
theorem jn_w171_347 {d : Nat} {l0 l1 l2 : Option Value} {x : Int32} {st : List Value} {M : jn_M} {Q : Option Value → jn_M → Prop} : jn_W d 171 347 [l0, l1, l2, some (.int x)] (st) M Q = jn_W d 171 348 [l0, l1, l2, some (.int x)] (.int x :: st) M Q := jn_W_eq (f := jn_iload_n 3) rfl rfl
set_option maxRecDepth 100000 in
theorem jn_w171_348 {d : Nat} {ls : jn_Lo} {st : List Value} {M : jn_M} {Q : Option Value → jn_M → Prop} : jn_W d 171 348 ls (st) M Q = jn_W d 171 349 ls (.int (nI 1) :: st) M Q := by rw [← jn_k_1]; exact jn_W_eq (f := jn_iconst 1) rfl rfl
set_option maxRecDepth 100000 in
theorem jn_w171_349 {d : Nat} {ls : jn_Lo} {x y : Int32} {st : List Value} {M : jn_M} {Q : Option Value → jn_M → Prop} : jn_W d 171 349 ls (.int y :: .int x :: st) M Q = jn_W d 171 350 ls (.int (x + y) :: st) M Q := jn_W_eq (f := jn_iadd) rfl rfl
set_option maxRecDepth 100000 in
theorem jn_w171_350 {d : Nat} {ls : jn_Lo} {a : Nat} {i : Int32} {st : List Value} {M : jn_M} {Q : Option Value → jn_M → Prop} : jn_W d 171 350 ls (.int i :: .ref a :: st) M Q = (jn_aiO (jn_rs M a) 0 i = true ∧ jn_W d 171 351 ls (.int (jn_aiV (jn_rs M a) i) :: st) M Q) := jn_W_eqc (f := jn_iaload) rfl jn_iaload_e
set_option maxRecDepth 100000 in
theorem jn_w171_351 {d : Nat} {ls : jn_Lo} {a0 : Nat} {a1 : Int32} {k : Nat} {v : Option Value} {M1 : jn_M} {st : List Value} {M : jn_M} {Q : Option Value → jn_M → Prop} (h : jn_V 115 k [.ref a0, .int a1] M v M1) (hk : 1 ≤ k ∧ k + 1 ≤ d) : jn_W d 171 351 ls (.int a1 :: .ref a0 :: st) M Q = ((jn_sm 8 st = true ∧ jn_rc 9 M [.ref a0, .int a1] = true) ∧ jn_W d 171 354 ls (v.toList ++ st) M1 Q) := jn_W_call (na := 2) rfl h hk rfl rfl (Nat.le_of_ble_eq_true rfl)
set_option maxRecDepth 100000 in
theorem jn_w171_354 {d : Nat} {ls : jn_Lo} {x y : Int64} {st : List Value} {M : jn_M} {Q : Option Value → jn_M → Prop} : jn_W d 171 354 ls (.long y :: .long x :: st) M Q = jn_W d 171 355 ls (.int (lg_cmp x y) :: st) M Q := jn_W_eq (f := jn_lcmp) rfl rfl
set_option maxRecDepth 100000 in
theorem jn_w171_355 {d : Nat} {ls : jn_Lo} {x : Int32} {st : List Value} {M : jn_M} {Q : Option Value → jn_M → Prop} : jn_W d 171 355 ls (.int x :: st) M Q = if x = nI 0 then jn_W d 171 1252 ls (st) M Q else jn_W d 171 358 ls (st) M Q := jn_W_br (f := jn_ifeq 1252) _ rfl rfl
set_option maxRecDepth 100000 in
theorem jn_w171_358 {d : Nat} {ls : jn_Lo} {st : List Value} {M : jn_M} {Q : Option Value → jn_M → Prop} : jn_W d 171 358 ls (st) M Q = jn_W d 171 359 ls (.int (nI 0) :: st) M Q := by rw [← jn_k_0]; exact jn_W_eq (f := jn_iconst 0) rfl rfl
set_option maxRecDepth 100000 in
theorem jn_w171_359 {d : Nat} {ls : jn_Lo} {v : Int32} {M : jn_M} {Q : Option Value → jn_M → Prop} : jn_W d 171 359 ls [.int v] M Q = (jn_zb v = true ∧ Q (some (.int v)) M) := jn_W_retc (k := 2) rfl jn_ret2_e
set_option maxRecDepth 100000 in
theorem jn_w171_360 {d : Nat} {l0 l2 l3 : Option Value} {x : Nat} {st : List Value} {M : jn_M} {Q : Option Value → jn_M → Prop} : jn_W d 171 360 [l0, some (.ref x), l2, l3] (st) M Q = jn_W d 171 361 [l0, some (.ref x), l2, l3] (.ref x :: st) M Q := jn_W_eq (f := jn_aload_n 1) rfl rfl
set_option maxRecDepth 100000 in
theorem jn_w171_360n {d : Nat} {l0 l2 l3 : Option Value} {st : List Value} {M : jn_M} {Q : Option Value → jn_M → Prop} : jn_W d 171 360 [l0, some .null, l2, l3] (st) M Q = jn_W d 171 361 [l0, some .null, l2, l3] (.null :: st) M Q := jn_W_eq (f := jn_aload_n 1) rfl rfl
set_option maxRecDepth 100000 in
theorem jn_w171_361 {d : Nat} {l1 l2 l3 : Option Value} {x : Nat} {st : List Value} {M : jn_M} {Q : Option Value → jn_M → Prop} : jn_W d 171 361 [some (.ref x), l1, l2, l3] (st) M Q = jn_W d 171 362 [some (.ref x), l1, l2, l3] (.ref x :: st) M Q := jn_W_eq (f := jn_aload_n 0) rfl rfl
set_option maxRecDepth 100000 in
theorem jn_w171_361n {d : Nat} {l1 l2 l3 : Option Value} {st : List Value} {M : jn_M} {Q : Option Value → jn_M → Prop} : jn_W d 171 361 [some .null, l1, l2, l3] (st) M Q = jn_W d 171 362 [some .null, l1, l2, l3] (.null :: st) M Q := jn_W_eq (f := jn_aload_n 0) rfl rfl
set_option maxRecDepth 100000 in
theorem jn_w171_362 {d : Nat} {l0 l1 l2 : Option Value} {x : Int32} {st : List Value} {M : jn_M} {Q : Option Value → jn_M → Prop} : jn_W d 171 362 [l0, l1, l2, some (.int x)] (st) M Q = jn_W d 171 363 [l0, l1, l2, some (.int x)] (.int x :: st) M Q := jn_W_eq (f := jn_iload_n 3) rfl rfl
set_option maxRecDepth 100000 in
theorem jn_w171_363 {d : Nat} {ls : jn_Lo} {st : List Value} {M : jn_M} {Q : Option Value → jn_M → Prop} : jn_W d 171 363 ls (st) M Q = jn_W d 171 364 ls (.int (nI 1) :: st) M Q := by rw [← jn_k_1]; exact jn_W_eq (f := jn_iconst 1) rfl rfl
set_option maxRecDepth 100000 in
theorem jn_w171_364 {d : Nat} {ls : jn_Lo} {x y : Int32} {st : List Value} {M : jn_M} {Q : Option Value → jn_M → Prop} : jn_W d 171 364 ls (.int y :: .int x :: st) M Q = jn_W d 171 365 ls (.int (x + y) :: st) M Q := jn_W_eq (f := jn_iadd) rfl rfl
set_option maxRecDepth 100000 in
theorem jn_w171_365 {d : Nat} {ls : jn_Lo} {a : Nat} {i : Int32} {st : List Value} {M : jn_M} {Q : Option Value → jn_M → Prop} : jn_W d 171 365 ls (.int i :: .ref a :: st) M Q = (jn_aiO (jn_rs M a) 0 i = true ∧ jn_W d 171 366 ls (.int (jn_aiV (jn_rs M a) i) :: st) M Q) := jn_W_eqc (f := jn_iaload) rfl jn_iaload_e
set_option maxRecDepth 100000 in
theorem jn_w171_366 {d : Nat} {l1 l2 l3 : Option Value} {x : Nat} {st : List Value} {M : jn_M} {Q : Option Value → jn_M → Prop} : jn_W d 171 366 [some (.ref x), l1, l2, l3] (st) M Q = jn_W d 171 367 [some (.ref x), l1, l2, l3] (.ref x :: st) M Q := jn_W_eq (f := jn_aload_n 0) rfl rfl
set_option maxRecDepth 100000 in
theorem jn_w171_366n {d : Nat} {l1 l2 l3 : Option Value} {st : List Value} {M : jn_M} {Q : Option Value → jn_M → Prop} : jn_W d 171 366 [some .null, l1, l2, l3] (st) M Q = jn_W d 171 367 [some .null, l1, l2, l3] (.null :: st) M Q := jn_W_eq (f := jn_aload_n 0) rfl rfl
set_option maxRecDepth 100000 in
theorem jn_w171_367 {d : Nat} {l0 l1 l2 : Option Value} {x : Int32} {st : List Value} {M : jn_M} {Q : Option Value → jn_M → Prop} : jn_W d 171 367 [l0, l1, l2, some (.int x)] (st) M Q = jn_W d 171 368 [l0, l1, l2, some (.int x)] (.int x :: st) M Q := jn_W_eq (f := jn_iload_n 3) rfl rfl
set_option maxRecDepth 100000 in
theorem jn_w171_368 {d : Nat} {ls : jn_Lo} {st : List Value} {M : jn_M} {Q : Option Value → jn_M → Prop} : jn_W d 171 368 ls (st) M Q = jn_W d 171 369 ls (.int (nI 2) :: st) M Q := by rw [← jn_k_2]; exact jn_W_eq (f := jn_iconst 2) rfl rfl
set_option maxRecDepth 100000 in
theorem jn_w171_369 {d : Nat} {ls : jn_Lo} {x y : Int32} {st : List Value} {M : jn_M} {Q : Option Value → jn_M → Prop} : jn_W d 171 369 ls (.int y :: .int x :: st) M Q = jn_W d 171 370 ls (.int (x + y) :: st) M Q := jn_W_eq (f := jn_iadd) rfl rfl
set_option maxRecDepth 100000 in
theorem jn_w171_370 {d : Nat} {ls : jn_Lo} {a : Nat} {i : Int32} {st : List Value} {M : jn_M} {Q : Option Value → jn_M → Prop} : jn_W d 171 370 ls (.int i :: .ref a :: st) M Q = (jn_aiO (jn_rs M a) 0 i = true ∧ jn_W d 171 371 ls (.int (jn_aiV (jn_rs M a) i) :: st) M Q) := jn_W_eqc (f := jn_iaload) rfl jn_iaload_e
set_option maxRecDepth 100000 in
theorem jn_w171_371 {d : Nat} {ls : jn_Lo} {a0 : Nat} {a1 : Int32} {a2 : Int32} {k : Nat} {v : Option Value} {M1 : jn_M} {st : List Value} {M : jn_M} {Q : Option Value → jn_M → Prop} (h : jn_V 51 k [.ref a0, .int a1, .int a2] M v M1) (hk : 1 ≤ k ∧ k + 1 ≤ d) : jn_W d 171 371 ls (.int a2 :: .int a1 :: .ref a0 :: st) M Q = ((jn_sm 8 st = true ∧ jn_rc 8 M [.ref a0, .int a1, .int a2] = true) ∧ jn_W d 171 374 ls (v.toList ++ st) M1 Q) := jn_W_call (na := 3) rfl h hk rfl rfl (Nat.le_of_ble_eq_true rfl)
set_option maxRecDepth 100000 in
theorem jn_w171_374 {d : Nat} {l0 l1 l3 : Option Value} {x : Nat} {st : List Value} {M : jn_M} {Q : Option Value → jn_M → Prop} : jn_W d 171 374 [l0, l1, some (.ref x), l3] (st) M Q = jn_W d 171 375 [l0, l1, some (.ref x), l3] (.ref x :: st) M Q := jn_W_eq (f := jn_aload_n 2) rfl rfl
set_option maxRecDepth 100000 in
theorem jn_w171_374n {d : Nat} {l0 l1 l3 : Option Value} {st : List Value} {M : jn_M} {Q : Option Value → jn_M → Prop} : jn_W d 171 374 [l0, l1, some .null, l3] (st) M Q = jn_W d 171 375 [l0, l1, some .null, l3] (.null :: st) M Q := jn_W_eq (f := jn_aload_n 2) rfl rfl
set_option maxRecDepth 100000 in
theorem jn_w171_375 {d : Nat} {l1 l2 l3 : Option Value} {x : Nat} {st : List Value} {M : jn_M} {Q : Option Value → jn_M → Prop} : jn_W d 171 375 [some (.ref x), l1, l2, l3] (st) M Q = jn_W d 171 376 [some (.ref x), l1, l2, l3] (.ref x :: st) M Q := jn_W_eq (f := jn_aload_n 0) rfl rfl
set_option maxRecDepth 100000 in
theorem jn_w171_375n {d : Nat} {l1 l2 l3 : Option Value} {st : List Value} {M : jn_M} {Q : Option Value → jn_M → Prop} : jn_W d 171 375 [some .null, l1, l2, l3] (st) M Q = jn_W d 171 376 [some .null, l1, l2, l3] (.null :: st) M Q := jn_W_eq (f := jn_aload_n 0) rfl rfl
set_option maxRecDepth 100000 in
theorem jn_w171_376 {d : Nat} {l0 l1 l2 : Option Value} {x : Int32} {st : List Value} {M : jn_M} {Q : Option Value → jn_M → Prop} : jn_W d 171 376 [l0, l1, l2, some (.int x)] (st) M Q = jn_W d 171 377 [l0, l1, l2, some (.int x)] (.int x :: st) M Q := jn_W_eq (f := jn_iload_n 3) rfl rfl
set_option maxRecDepth 100000 in
theorem jn_w171_377 {d : Nat} {ls : jn_Lo} {st : List Value} {M : jn_M} {Q : Option Value → jn_M → Prop} : jn_W d 171 377 ls (st) M Q = jn_W d 171 378 ls (.int (nI 1) :: st) M Q := by rw [← jn_k_1]; exact jn_W_eq (f := jn_iconst 1) rfl rfl
set_option maxRecDepth 100000 in
theorem jn_w171_378 {d : Nat} {ls : jn_Lo} {x y : Int32} {st : List Value} {M : jn_M} {Q : Option Value → jn_M → Prop} : jn_W d 171 378 ls (.int y :: .int x :: st) M Q = jn_W d 171 379 ls (.int (x + y) :: st) M Q := jn_W_eq (f := jn_iadd) rfl rfl
set_option maxRecDepth 100000 in
theorem jn_w171_379 {d : Nat} {ls : jn_Lo} {a : Nat} {i : Int32} {st : List Value} {M : jn_M} {Q : Option Value → jn_M → Prop} : jn_W d 171 379 ls (.int i :: .ref a :: st) M Q = (jn_aiO (jn_rs M a) 0 i = true ∧ jn_W d 171 380 ls (.int (jn_aiV (jn_rs M a) i) :: st) M Q) := jn_W_eqc (f := jn_iaload) rfl jn_iaload_e
set_option maxRecDepth 100000 in
theorem jn_w171_380 {d : Nat} {l1 l2 l3 : Option Value} {x : Nat} {st : List Value} {M : jn_M} {Q : Option Value → jn_M → Prop} : jn_W d 171 380 [some (.ref x), l1, l2, l3] (st) M Q = jn_W d 171 381 [some (.ref x), l1, l2, l3] (.ref x :: st) M Q := jn_W_eq (f := jn_aload_n 0) rfl rfl
set_option maxRecDepth 100000 in
theorem jn_w171_380n {d : Nat} {l1 l2 l3 : Option Value} {st : List Value} {M : jn_M} {Q : Option Value → jn_M → Prop} : jn_W d 171 380 [some .null, l1, l2, l3] (st) M Q = jn_W d 171 381 [some .null, l1, l2, l3] (.null :: st) M Q := jn_W_eq (f := jn_aload_n 0) rfl rfl
set_option maxRecDepth 100000 in
theorem jn_w171_381 {d : Nat} {l0 l1 l2 : Option Value} {x : Int32} {st : List Value} {M : jn_M} {Q : Option Value → jn_M → Prop} : jn_W d 171 381 [l0, l1, l2, some (.int x)] (st) M Q = jn_W d 171 382 [l0, l1, l2, some (.int x)] (.int x :: st) M Q := jn_W_eq (f := jn_iload_n 3) rfl rfl
set_option maxRecDepth 100000 in
theorem jn_w171_382 {d : Nat} {ls : jn_Lo} {st : List Value} {M : jn_M} {Q : Option Value → jn_M → Prop} : jn_W d 171 382 ls (st) M Q = jn_W d 171 383 ls (.int (nI 2) :: st) M Q := by rw [← jn_k_2]; exact jn_W_eq (f := jn_iconst 2) rfl rfl
set_option maxRecDepth 100000 in
theorem jn_w171_383 {d : Nat} {ls : jn_Lo} {x y : Int32} {st : List Value} {M : jn_M} {Q : Option Value → jn_M → Prop} : jn_W d 171 383 ls (.int y :: .int x :: st) M Q = jn_W d 171 384 ls (.int (x + y) :: st) M Q := jn_W_eq (f := jn_iadd) rfl rfl
set_option maxRecDepth 100000 in
theorem jn_w171_384 {d : Nat} {ls : jn_Lo} {a : Nat} {i : Int32} {st : List Value} {M : jn_M} {Q : Option Value → jn_M → Prop} : jn_W d 171 384 ls (.int i :: .ref a :: st) M Q = (jn_aiO (jn_rs M a) 0 i = true ∧ jn_W d 171 385 ls (.int (jn_aiV (jn_rs M a) i) :: st) M Q) := jn_W_eqc (f := jn_iaload) rfl jn_iaload_e
set_option maxRecDepth 100000 in
theorem jn_w171_385 {d : Nat} {ls : jn_Lo} {a0 : Nat} {a1 : Int32} {a2 : Int32} {k : Nat} {v : Option Value} {M1 : jn_M} {st : List Value} {M : jn_M} {Q : Option Value → jn_M → Prop} (h : jn_V 118 k [.ref a0, .int a1, .int a2] M v M1) (hk : 1 ≤ k ∧ k + 1 ≤ d) : jn_W d 171 385 ls (.int a2 :: .int a1 :: .ref a0 :: st) M Q = ((jn_sm 8 st = true ∧ jn_rc 9 M [.ref a0, .int a1, .int a2] = true) ∧ jn_W d 171 388 ls (v.toList ++ st) M1 Q) := jn_W_call (na := 3) rfl h hk rfl rfl (Nat.le_of_ble_eq_true rfl)
set_option maxRecDepth 100000 in
theorem jn_w171_388 {d : Nat} {ls : jn_Lo} {x y : Int64} {st : List Value} {M : jn_M} {Q : Option Value → jn_M → Prop} : jn_W d 171 388 ls (.long y :: .long x :: st) M Q = jn_W d 171 389 ls (.int (lg_cmp x y) :: st) M Q := jn_W_eq (f := jn_lcmp) rfl rfl
set_option maxRecDepth 100000 in
theorem jn_w171_389 {d : Nat} {ls : jn_Lo} {x : Int32} {st : List Value} {M : jn_M} {Q : Option Value → jn_M → Prop} : jn_W d 171 389 ls (.int x :: st) M Q = if x = nI 0 then jn_W d 171 1252 ls (st) M Q else jn_W d 171 392 ls (st) M Q := jn_W_br (f := jn_ifeq 1252) _ rfl rfl
set_option maxRecDepth 100000 in
theorem jn_w171_392 {d : Nat} {ls : jn_Lo} {st : List Value} {M : jn_M} {Q : Option Value → jn_M → Prop} : jn_W d 171 392 ls (st) M Q = jn_W d 171 393 ls (.int (nI 0) :: st) M Q := by rw [← jn_k_0]; exact jn_W_eq (f := jn_iconst 0) rfl rfl
set_option maxRecDepth 100000 in
theorem jn_w171_393 {d : Nat} {ls : jn_Lo} {v : Int32} {M : jn_M} {Q : Option Value → jn_M → Prop} : jn_W d 171 393 ls [.int v] M Q = (jn_zb v = true ∧ Q (some (.int v)) M) := jn_W_retc (k := 2) rfl jn_ret2_e
set_option maxRecDepth 100000 in
theorem jn_w171_394 {d : Nat} {l0 l2 l3 : Option Value} {x : Nat} {st : List Value} {M : jn_M} {Q : Option Value → jn_M → Prop} : jn_W d 171 394 [l0, some (.ref x), l2, l3] (st) M Q = jn_W d 171 395 [l0, some (.ref x), l2, l3] (.ref x :: st) M Q := jn_W_eq (f := jn_aload_n 1) rfl rfl
set_option maxRecDepth 100000 in
theorem jn_w171_394n {d : Nat} {l0 l2 l3 : Option Value} {st : List Value} {M : jn_M} {Q : Option Value → jn_M → Prop} : jn_W d 171 394 [l0, some .null, l2, l3] (st) M Q = jn_W d 171 395 [l0, some .null, l2, l3] (.null :: st) M Q := jn_W_eq (f := jn_aload_n 1) rfl rfl
set_option maxRecDepth 100000 in
theorem jn_w171_395 {d : Nat} {l1 l2 l3 : Option Value} {x : Nat} {st : List Value} {M : jn_M} {Q : Option Value → jn_M → Prop} : jn_W d 171 395 [some (.ref x), l1, l2, l3] (st) M Q = jn_W d 171 396 [some (.ref x), l1, l2, l3] (.ref x :: st) M Q := jn_W_eq (f := jn_aload_n 0) rfl rfl
set_option maxRecDepth 100000 in
theorem jn_w171_395n {d : Nat} {l1 l2 l3 : Option Value} {st : List Value} {M : jn_M} {Q : Option Value → jn_M → Prop} : jn_W d 171 395 [some .null, l1, l2, l3] (st) M Q = jn_W d 171 396 [some .null, l1, l2, l3] (.null :: st) M Q := jn_W_eq (f := jn_aload_n 0) rfl rfl
set_option maxRecDepth 100000 in
theorem jn_w171_396 {d : Nat} {l0 l1 l2 : Option Value} {x : Int32} {st : List Value} {M : jn_M} {Q : Option Value → jn_M → Prop} : jn_W d 171 396 [l0, l1, l2, some (.int x)] (st) M Q = jn_W d 171 397 [l0, l1, l2, some (.int x)] (.int x :: st) M Q := jn_W_eq (f := jn_iload_n 3) rfl rfl
set_option maxRecDepth 100000 in
theorem jn_w171_397 {d : Nat} {ls : jn_Lo} {st : List Value} {M : jn_M} {Q : Option Value → jn_M → Prop} : jn_W d 171 397 ls (st) M Q = jn_W d 171 398 ls (.int (nI 1) :: st) M Q := by rw [← jn_k_1]; exact jn_W_eq (f := jn_iconst 1) rfl rfl
set_option maxRecDepth 100000 in
theorem jn_w171_398 {d : Nat} {ls : jn_Lo} {x y : Int32} {st : List Value} {M : jn_M} {Q : Option Value → jn_M → Prop} : jn_W d 171 398 ls (.int y :: .int x :: st) M Q = jn_W d 171 399 ls (.int (x + y) :: st) M Q := jn_W_eq (f := jn_iadd) rfl rfl
set_option maxRecDepth 100000 in
theorem jn_w171_399 {d : Nat} {ls : jn_Lo} {a : Nat} {i : Int32} {st : List Value} {M : jn_M} {Q : Option Value → jn_M → Prop} : jn_W d 171 399 ls (.int i :: .ref a :: st) M Q = (jn_aiO (jn_rs M a) 0 i = true ∧ jn_W d 171 400 ls (.int (jn_aiV (jn_rs M a) i) :: st) M Q) := jn_W_eqc (f := jn_iaload) rfl jn_iaload_e
set_option maxRecDepth 100000 in
theorem jn_w171_400 {d : Nat} {l1 l2 l3 : Option Value} {x : Nat} {st : List Value} {M : jn_M} {Q : Option Value → jn_M → Prop} : jn_W d 171 400 [some (.ref x), l1, l2, l3] (st) M Q = jn_W d 171 401 [some (.ref x), l1, l2, l3] (.ref x :: st) M Q := jn_W_eq (f := jn_aload_n 0) rfl rfl
set_option maxRecDepth 100000 in
theorem jn_w171_400n {d : Nat} {l1 l2 l3 : Option Value} {st : List Value} {M : jn_M} {Q : Option Value → jn_M → Prop} : jn_W d 171 400 [some .null, l1, l2, l3] (st) M Q = jn_W d 171 401 [some .null, l1, l2, l3] (.null :: st) M Q := jn_W_eq (f := jn_aload_n 0) rfl rfl
set_option maxRecDepth 100000 in
theorem jn_w171_401 {d : Nat} {l0 l1 l2 : Option Value} {x : Int32} {st : List Value} {M : jn_M} {Q : Option Value → jn_M → Prop} : jn_W d 171 401 [l0, l1, l2, some (.int x)] (st) M Q = jn_W d 171 402 [l0, l1, l2, some (.int x)] (.int x :: st) M Q := jn_W_eq (f := jn_iload_n 3) rfl rfl
set_option maxRecDepth 100000 in
theorem jn_w171_402 {d : Nat} {ls : jn_Lo} {st : List Value} {M : jn_M} {Q : Option Value → jn_M → Prop} : jn_W d 171 402 ls (st) M Q = jn_W d 171 403 ls (.int (nI 2) :: st) M Q := by rw [← jn_k_2]; exact jn_W_eq (f := jn_iconst 2) rfl rfl
set_option maxRecDepth 100000 in
theorem jn_w171_403 {d : Nat} {ls : jn_Lo} {x y : Int32} {st : List Value} {M : jn_M} {Q : Option Value → jn_M → Prop} : jn_W d 171 403 ls (.int y :: .int x :: st) M Q = jn_W d 171 404 ls (.int (x + y) :: st) M Q := jn_W_eq (f := jn_iadd) rfl rfl
set_option maxRecDepth 100000 in
theorem jn_w171_404 {d : Nat} {ls : jn_Lo} {a : Nat} {i : Int32} {st : List Value} {M : jn_M} {Q : Option Value → jn_M → Prop} : jn_W d 171 404 ls (.int i :: .ref a :: st) M Q = (jn_aiO (jn_rs M a) 0 i = true ∧ jn_W d 171 405 ls (.int (jn_aiV (jn_rs M a) i) :: st) M Q) := jn_W_eqc (f := jn_iaload) rfl jn_iaload_e
set_option maxRecDepth 100000 in
theorem jn_w171_405 {d : Nat} {l1 l2 l3 : Option Value} {x : Nat} {st : List Value} {M : jn_M} {Q : Option Value → jn_M → Prop} : jn_W d 171 405 [some (.ref x), l1, l2, l3] (st) M Q = jn_W d 171 406 [some (.ref x), l1, l2, l3] (.ref x :: st) M Q := jn_W_eq (f := jn_aload_n 0) rfl rfl
set_option maxRecDepth 100000 in
theorem jn_w171_405n {d : Nat} {l1 l2 l3 : Option Value} {st : List Value} {M : jn_M} {Q : Option Value → jn_M → Prop} : jn_W d 171 405 [some .null, l1, l2, l3] (st) M Q = jn_W d 171 406 [some .null, l1, l2, l3] (.null :: st) M Q := jn_W_eq (f := jn_aload_n 0) rfl rfl
set_option maxRecDepth 100000 in
theorem jn_w171_406 {d : Nat} {l0 l1 l2 : Option Value} {x : Int32} {st : List Value} {M : jn_M} {Q : Option Value → jn_M → Prop} : jn_W d 171 406 [l0, l1, l2, some (.int x)] (st) M Q = jn_W d 171 407 [l0, l1, l2, some (.int x)] (.int x :: st) M Q := jn_W_eq (f := jn_iload_n 3) rfl rfl
set_option maxRecDepth 100000 in
theorem jn_w171_407 {d : Nat} {ls : jn_Lo} {st : List Value} {M : jn_M} {Q : Option Value → jn_M → Prop} : jn_W d 171 407 ls (st) M Q = jn_W d 171 408 ls (.int (nI 3) :: st) M Q := by rw [← jn_k_3]; exact jn_W_eq (f := jn_iconst 3) rfl rfl
set_option maxRecDepth 100000 in
theorem jn_w171_408 {d : Nat} {ls : jn_Lo} {x y : Int32} {st : List Value} {M : jn_M} {Q : Option Value → jn_M → Prop} : jn_W d 171 408 ls (.int y :: .int x :: st) M Q = jn_W d 171 409 ls (.int (x + y) :: st) M Q := jn_W_eq (f := jn_iadd) rfl rfl
set_option maxRecDepth 100000 in
theorem jn_w171_409 {d : Nat} {ls : jn_Lo} {a : Nat} {i : Int32} {st : List Value} {M : jn_M} {Q : Option Value → jn_M → Prop} : jn_W d 171 409 ls (.int i :: .ref a :: st) M Q = (jn_aiO (jn_rs M a) 0 i = true ∧ jn_W d 171 410 ls (.int (jn_aiV (jn_rs M a) i) :: st) M Q) := jn_W_eqc (f := jn_iaload) rfl jn_iaload_e
set_option maxRecDepth 100000 in
theorem jn_w171_410 {d : Nat} {l1 l2 l3 : Option Value} {x : Nat} {st : List Value} {M : jn_M} {Q : Option Value → jn_M → Prop} : jn_W d 171 410 [some (.ref x), l1, l2, l3] (st) M Q = jn_W d 171 411 [some (.ref x), l1, l2, l3] (.ref x :: st) M Q := jn_W_eq (f := jn_aload_n 0) rfl rfl
set_option maxRecDepth 100000 in
theorem jn_w171_410n {d : Nat} {l1 l2 l3 : Option Value} {st : List Value} {M : jn_M} {Q : Option Value → jn_M → Prop} : jn_W d 171 410 [some .null, l1, l2, l3] (st) M Q = jn_W d 171 411 [some .null, l1, l2, l3] (.null :: st) M Q := jn_W_eq (f := jn_aload_n 0) rfl rfl
set_option maxRecDepth 100000 in
theorem jn_w171_411 {d : Nat} {l0 l1 l2 : Option Value} {x : Int32} {st : List Value} {M : jn_M} {Q : Option Value → jn_M → Prop} : jn_W d 171 411 [l0, l1, l2, some (.int x)] (st) M Q = jn_W d 171 412 [l0, l1, l2, some (.int x)] (.int x :: st) M Q := jn_W_eq (f := jn_iload_n 3) rfl rfl
set_option maxRecDepth 100000 in
theorem jn_w171_412 {d : Nat} {ls : jn_Lo} {st : List Value} {M : jn_M} {Q : Option Value → jn_M → Prop} : jn_W d 171 412 ls (st) M Q = jn_W d 171 413 ls (.int (nI 4) :: st) M Q := by rw [← jn_k_4]; exact jn_W_eq (f := jn_iconst 4) rfl rfl
set_option maxRecDepth 100000 in
theorem jn_w171_413 {d : Nat} {ls : jn_Lo} {x y : Int32} {st : List Value} {M : jn_M} {Q : Option Value → jn_M → Prop} : jn_W d 171 413 ls (.int y :: .int x :: st) M Q = jn_W d 171 414 ls (.int (x + y) :: st) M Q := jn_W_eq (f := jn_iadd) rfl rfl
set_option maxRecDepth 100000 in
theorem jn_w171_414 {d : Nat} {ls : jn_Lo} {a : Nat} {i : Int32} {st : List Value} {M : jn_M} {Q : Option Value → jn_M → Prop} : jn_W d 171 414 ls (.int i :: .ref a :: st) M Q = (jn_aiO (jn_rs M a) 0 i = true ∧ jn_W d 171 415 ls (.int (jn_aiV (jn_rs M a) i) :: st) M Q) := jn_W_eqc (f := jn_iaload) rfl jn_iaload_e
set_option maxRecDepth 100000 in
theorem jn_w171_415 {d : Nat} {ls : jn_Lo} {x : Int32} {st : List Value} {M : jn_M} {Q : Option Value → jn_M → Prop} : jn_W d 171 415 ls (.int x :: st) M Q = if x = nI 0 then jn_W d 171 422 ls (st) M Q else jn_W d 171 418 ls (st) M Q := jn_W_br (f := jn_ifeq 422) _ rfl rfl
set_option maxRecDepth 100000 in
theorem jn_w171_418 {d : Nat} {ls : jn_Lo} {st : List Value} {M : jn_M} {Q : Option Value → jn_M → Prop} : jn_W d 171 418 ls (st) M Q = jn_W d 171 419 ls (.int (nI 1) :: st) M Q := by rw [← jn_k_1]; exact jn_W_eq (f := jn_iconst 1) rfl rfl
set_option maxRecDepth 100000 in
theorem jn_w171_419 {d : Nat} {ls : jn_Lo} {st : List Value} {M : jn_M} {Q : Option Value → jn_M → Prop} : jn_W d 171 419 ls (st) M Q = jn_W d 171 423 ls (st) M Q := jn_W_eq (f := jn_goto 423) rfl rfl
set_option maxRecDepth 100000 in
theorem jn_w171_422 {d : Nat} {ls : jn_Lo} {st : List Value} {M : jn_M} {Q : Option Value → jn_M → Prop} : jn_W d 171 422 ls (st) M Q = jn_W d 171 423 ls (.int (nI 0) :: st) M Q := by rw [← jn_k_0]; exact jn_W_eq (f := jn_iconst 0) rfl rfl
set_option maxRecDepth 100000 in
theorem jn_w171_423 {d : Nat} {ls : jn_Lo} {a0 : Nat} {a1 : Int32} {a2 : Int32} {a3 : Int32} {a4 : Int32} {k : Nat} {v : Option Value} {M1 : jn_M} {st : List Value} {M : jn_M} {Q : Option Value → jn_M → Prop} (h : jn_V 52 k [.ref a0, .int a1, .int a2, .int a3, .int a4] M v M1) (hk : 1 ≤ k ∧ k + 1 ≤ d) : jn_W d 171 423 ls (.int a4 :: .int a3 :: .int a2 :: .int a1 :: .ref a0 :: st) M Q = ((jn_sm 8 st = true ∧ jn_rc 8 M [.ref a0, .int a1, .int a2, .int a3, .int a4] = true) ∧ jn_W d 171 426 ls (v.toList ++ st) M1 Q) := jn_W_call (na := 5) rfl h hk rfl rfl (Nat.le_of_ble_eq_true rfl)
set_option maxRecDepth 100000 in
theorem jn_w171_426 {d : Nat} {l0 l1 l3 : Option Value} {x : Nat} {st : List Value} {M : jn_M} {Q : Option Value → jn_M → Prop} : jn_W d 171 426 [l0, l1, some (.ref x), l3] (st) M Q = jn_W d 171 427 [l0, l1, some (.ref x), l3] (.ref x :: st) M Q := jn_W_eq (f := jn_aload_n 2) rfl rfl
set_option maxRecDepth 100000 in
theorem jn_w171_426n {d : Nat} {l0 l1 l3 : Option Value} {st : List Value} {M : jn_M} {Q : Option Value → jn_M → Prop} : jn_W d 171 426 [l0, l1, some .null, l3] (st) M Q = jn_W d 171 427 [l0, l1, some .null, l3] (.null :: st) M Q := jn_W_eq (f := jn_aload_n 2) rfl rfl
set_option maxRecDepth 100000 in
theorem jn_w171_427 {d : Nat} {l1 l2 l3 : Option Value} {x : Nat} {st : List Value} {M : jn_M} {Q : Option Value → jn_M → Prop} : jn_W d 171 427 [some (.ref x), l1, l2, l3] (st) M Q = jn_W d 171 428 [some (.ref x), l1, l2, l3] (.ref x :: st) M Q := jn_W_eq (f := jn_aload_n 0) rfl rfl
set_option maxRecDepth 100000 in
theorem jn_w171_427n {d : Nat} {l1 l2 l3 : Option Value} {st : List Value} {M : jn_M} {Q : Option Value → jn_M → Prop} : jn_W d 171 427 [some .null, l1, l2, l3] (st) M Q = jn_W d 171 428 [some .null, l1, l2, l3] (.null :: st) M Q := jn_W_eq (f := jn_aload_n 0) rfl rfl
set_option maxRecDepth 100000 in
theorem jn_w171_428 {d : Nat} {l0 l1 l2 : Option Value} {x : Int32} {st : List Value} {M : jn_M} {Q : Option Value → jn_M → Prop} : jn_W d 171 428 [l0, l1, l2, some (.int x)] (st) M Q = jn_W d 171 429 [l0, l1, l2, some (.int x)] (.int x :: st) M Q := jn_W_eq (f := jn_iload_n 3) rfl rfl
set_option maxRecDepth 100000 in
theorem jn_w171_429 {d : Nat} {ls : jn_Lo} {st : List Value} {M : jn_M} {Q : Option Value → jn_M → Prop} : jn_W d 171 429 ls (st) M Q = jn_W d 171 430 ls (.int (nI 1) :: st) M Q := by rw [← jn_k_1]; exact jn_W_eq (f := jn_iconst 1) rfl rfl
set_option maxRecDepth 100000 in
theorem jn_w171_430 {d : Nat} {ls : jn_Lo} {x y : Int32} {st : List Value} {M : jn_M} {Q : Option Value → jn_M → Prop} : jn_W d 171 430 ls (.int y :: .int x :: st) M Q = jn_W d 171 431 ls (.int (x + y) :: st) M Q := jn_W_eq (f := jn_iadd) rfl rfl
set_option maxRecDepth 100000 in
theorem jn_w171_431 {d : Nat} {ls : jn_Lo} {a : Nat} {i : Int32} {st : List Value} {M : jn_M} {Q : Option Value → jn_M → Prop} : jn_W d 171 431 ls (.int i :: .ref a :: st) M Q = (jn_aiO (jn_rs M a) 0 i = true ∧ jn_W d 171 432 ls (.int (jn_aiV (jn_rs M a) i) :: st) M Q) := jn_W_eqc (f := jn_iaload) rfl jn_iaload_e
set_option maxRecDepth 100000 in
theorem jn_w171_432 {d : Nat} {l1 l2 l3 : Option Value} {x : Nat} {st : List Value} {M : jn_M} {Q : Option Value → jn_M → Prop} : jn_W d 171 432 [some (.ref x), l1, l2, l3] (st) M Q = jn_W d 171 433 [some (.ref x), l1, l2, l3] (.ref x :: st) M Q := jn_W_eq (f := jn_aload_n 0) rfl rfl
set_option maxRecDepth 100000 in
theorem jn_w171_432n {d : Nat} {l1 l2 l3 : Option Value} {st : List Value} {M : jn_M} {Q : Option Value → jn_M → Prop} : jn_W d 171 432 [some .null, l1, l2, l3] (st) M Q = jn_W d 171 433 [some .null, l1, l2, l3] (.null :: st) M Q := jn_W_eq (f := jn_aload_n 0) rfl rfl
set_option maxRecDepth 100000 in
theorem jn_w171_433 {d : Nat} {l0 l1 l2 : Option Value} {x : Int32} {st : List Value} {M : jn_M} {Q : Option Value → jn_M → Prop} : jn_W d 171 433 [l0, l1, l2, some (.int x)] (st) M Q = jn_W d 171 434 [l0, l1, l2, some (.int x)] (.int x :: st) M Q := jn_W_eq (f := jn_iload_n 3) rfl rfl
set_option maxRecDepth 100000 in
theorem jn_w171_434 {d : Nat} {ls : jn_Lo} {st : List Value} {M : jn_M} {Q : Option Value → jn_M → Prop} : jn_W d 171 434 ls (st) M Q = jn_W d 171 435 ls (.int (nI 2) :: st) M Q := by rw [← jn_k_2]; exact jn_W_eq (f := jn_iconst 2) rfl rfl
set_option maxRecDepth 100000 in
theorem jn_w171_435 {d : Nat} {ls : jn_Lo} {x y : Int32} {st : List Value} {M : jn_M} {Q : Option Value → jn_M → Prop} : jn_W d 171 435 ls (.int y :: .int x :: st) M Q = jn_W d 171 436 ls (.int (x + y) :: st) M Q := jn_W_eq (f := jn_iadd) rfl rfl
set_option maxRecDepth 100000 in
theorem jn_w171_436 {d : Nat} {ls : jn_Lo} {a : Nat} {i : Int32} {st : List Value} {M : jn_M} {Q : Option Value → jn_M → Prop} : jn_W d 171 436 ls (.int i :: .ref a :: st) M Q = (jn_aiO (jn_rs M a) 0 i = true ∧ jn_W d 171 437 ls (.int (jn_aiV (jn_rs M a) i) :: st) M Q) := jn_W_eqc (f := jn_iaload) rfl jn_iaload_e
set_option maxRecDepth 100000 in
theorem jn_w171_437 {d : Nat} {l1 l2 l3 : Option Value} {x : Nat} {st : List Value} {M : jn_M} {Q : Option Value → jn_M → Prop} : jn_W d 171 437 [some (.ref x), l1, l2, l3] (st) M Q = jn_W d 171 438 [some (.ref x), l1, l2, l3] (.ref x :: st) M Q := jn_W_eq (f := jn_aload_n 0) rfl rfl
set_option maxRecDepth 100000 in
theorem jn_w171_437n {d : Nat} {l1 l2 l3 : Option Value} {st : List Value} {M : jn_M} {Q : Option Value → jn_M → Prop} : jn_W d 171 437 [some .null, l1, l2, l3] (st) M Q = jn_W d 171 438 [some .null, l1, l2, l3] (.null :: st) M Q := jn_W_eq (f := jn_aload_n 0) rfl rfl
set_option maxRecDepth 100000 in
theorem jn_w171_438 {d : Nat} {l0 l1 l2 : Option Value} {x : Int32} {st : List Value} {M : jn_M} {Q : Option Value → jn_M → Prop} : jn_W d 171 438 [l0, l1, l2, some (.int x)] (st) M Q = jn_W d 171 439 [l0, l1, l2, some (.int x)] (.int x :: st) M Q := jn_W_eq (f := jn_iload_n 3) rfl rfl
set_option maxRecDepth 100000 in
theorem jn_w171_439 {d : Nat} {ls : jn_Lo} {st : List Value} {M : jn_M} {Q : Option Value → jn_M → Prop} : jn_W d 171 439 ls (st) M Q = jn_W d 171 440 ls (.int (nI 3) :: st) M Q := by rw [← jn_k_3]; exact jn_W_eq (f := jn_iconst 3) rfl rfl
set_option maxRecDepth 100000 in
theorem jn_w171_440 {d : Nat} {ls : jn_Lo} {x y : Int32} {st : List Value} {M : jn_M} {Q : Option Value → jn_M → Prop} : jn_W d 171 440 ls (.int y :: .int x :: st) M Q = jn_W d 171 441 ls (.int (x + y) :: st) M Q := jn_W_eq (f := jn_iadd) rfl rfl
set_option maxRecDepth 100000 in
theorem jn_w171_441 {d : Nat} {ls : jn_Lo} {a : Nat} {i : Int32} {st : List Value} {M : jn_M} {Q : Option Value → jn_M → Prop} : jn_W d 171 441 ls (.int i :: .ref a :: st) M Q = (jn_aiO (jn_rs M a) 0 i = true ∧ jn_W d 171 442 ls (.int (jn_aiV (jn_rs M a) i) :: st) M Q) := jn_W_eqc (f := jn_iaload) rfl jn_iaload_e
set_option maxRecDepth 100000 in
theorem jn_w171_442 {d : Nat} {l1 l2 l3 : Option Value} {x : Nat} {st : List Value} {M : jn_M} {Q : Option Value → jn_M → Prop} : jn_W d 171 442 [some (.ref x), l1, l2, l3] (st) M Q = jn_W d 171 443 [some (.ref x), l1, l2, l3] (.ref x :: st) M Q := jn_W_eq (f := jn_aload_n 0) rfl rfl
set_option maxRecDepth 100000 in
theorem jn_w171_442n {d : Nat} {l1 l2 l3 : Option Value} {st : List Value} {M : jn_M} {Q : Option Value → jn_M → Prop} : jn_W d 171 442 [some .null, l1, l2, l3] (st) M Q = jn_W d 171 443 [some .null, l1, l2, l3] (.null :: st) M Q := jn_W_eq (f := jn_aload_n 0) rfl rfl
set_option maxRecDepth 100000 in
theorem jn_w171_443 {d : Nat} {l0 l1 l2 : Option Value} {x : Int32} {st : List Value} {M : jn_M} {Q : Option Value → jn_M → Prop} : jn_W d 171 443 [l0, l1, l2, some (.int x)] (st) M Q = jn_W d 171 444 [l0, l1, l2, some (.int x)] (.int x :: st) M Q := jn_W_eq (f := jn_iload_n 3) rfl rfl
set_option maxRecDepth 100000 in
theorem jn_w171_444 {d : Nat} {ls : jn_Lo} {st : List Value} {M : jn_M} {Q : Option Value → jn_M → Prop} : jn_W d 171 444 ls (st) M Q = jn_W d 171 445 ls (.int (nI 4) :: st) M Q := by rw [← jn_k_4]; exact jn_W_eq (f := jn_iconst 4) rfl rfl
set_option maxRecDepth 100000 in
theorem jn_w171_445 {d : Nat} {ls : jn_Lo} {x y : Int32} {st : List Value} {M : jn_M} {Q : Option Value → jn_M → Prop} : jn_W d 171 445 ls (.int y :: .int x :: st) M Q = jn_W d 171 446 ls (.int (x + y) :: st) M Q := jn_W_eq (f := jn_iadd) rfl rfl
set_option maxRecDepth 100000 in
theorem jn_w171_446 {d : Nat} {ls : jn_Lo} {a : Nat} {i : Int32} {st : List Value} {M : jn_M} {Q : Option Value → jn_M → Prop} : jn_W d 171 446 ls (.int i :: .ref a :: st) M Q = (jn_aiO (jn_rs M a) 0 i = true ∧ jn_W d 171 447 ls (.int (jn_aiV (jn_rs M a) i) :: st) M Q) := jn_W_eqc (f := jn_iaload) rfl jn_iaload_e
set_option maxRecDepth 100000 in
theorem jn_w171_447 {d : Nat} {ls : jn_Lo} {x : Int32} {st : List Value} {M : jn_M} {Q : Option Value → jn_M → Prop} : jn_W d 171 447 ls (.int x :: st) M Q = if x = nI 0 then jn_W d 171 454 ls (st) M Q else jn_W d 171 450 ls (st) M Q := jn_W_br (f := jn_ifeq 454) _ rfl rfl
set_option maxRecDepth 100000 in
theorem jn_w171_450 {d : Nat} {ls : jn_Lo} {st : List Value} {M : jn_M} {Q : Option Value → jn_M → Prop} : jn_W d 171 450 ls (st) M Q = jn_W d 171 451 ls (.int (nI 1) :: st) M Q := by rw [← jn_k_1]; exact jn_W_eq (f := jn_iconst 1) rfl rfl
set_option maxRecDepth 100000 in
theorem jn_w171_451 {d : Nat} {ls : jn_Lo} {st : List Value} {M : jn_M} {Q : Option Value → jn_M → Prop} : jn_W d 171 451 ls (st) M Q = jn_W d 171 455 ls (st) M Q := jn_W_eq (f := jn_goto 455) rfl rfl
set_option maxRecDepth 100000 in
theorem jn_w171_454 {d : Nat} {ls : jn_Lo} {st : List Value} {M : jn_M} {Q : Option Value → jn_M → Prop} : jn_W d 171 454 ls (st) M Q = jn_W d 171 455 ls (.int (nI 0) :: st) M Q := by rw [← jn_k_0]; exact jn_W_eq (f := jn_iconst 0) rfl rfl
set_option maxRecDepth 100000 in
theorem jn_w171_455 {d : Nat} {ls : jn_Lo} {a0 : Nat} {a1 : Int32} {a2 : Int32} {a3 : Int32} {a4 : Int32} {k : Nat} {v : Option Value} {M1 : jn_M} {st : List Value} {M : jn_M} {Q : Option Value → jn_M → Prop} (h : jn_V 119 k [.ref a0, .int a1, .int a2, .int a3, .int a4] M v M1) (hk : 1 ≤ k ∧ k + 1 ≤ d) : jn_W d 171 455 ls (.int a4 :: .int a3 :: .int a2 :: .int a1 :: .ref a0 :: st) M Q = ((jn_sm 8 st = true ∧ jn_rc 9 M [.ref a0, .int a1, .int a2, .int a3, .int a4] = true) ∧ jn_W d 171 458 ls (v.toList ++ st) M1 Q) := jn_W_call (na := 5) rfl h hk rfl rfl (Nat.le_of_ble_eq_true rfl)
set_option maxRecDepth 100000 in
theorem jn_w171_458 {d : Nat} {ls : jn_Lo} {x y : Int64} {st : List Value} {M : jn_M} {Q : Option Value → jn_M → Prop} : jn_W d 171 458 ls (.long y :: .long x :: st) M Q = jn_W d 171 459 ls (.int (lg_cmp x y) :: st) M Q := jn_W_eq (f := jn_lcmp) rfl rfl
set_option maxRecDepth 100000 in
theorem jn_w171_459 {d : Nat} {ls : jn_Lo} {x : Int32} {st : List Value} {M : jn_M} {Q : Option Value → jn_M → Prop} : jn_W d 171 459 ls (.int x :: st) M Q = if x = nI 0 then jn_W d 171 1252 ls (st) M Q else jn_W d 171 462 ls (st) M Q := jn_W_br (f := jn_ifeq 1252) _ rfl rfl
set_option maxRecDepth 100000 in
theorem jn_w171_462 {d : Nat} {ls : jn_Lo} {st : List Value} {M : jn_M} {Q : Option Value → jn_M → Prop} : jn_W d 171 462 ls (st) M Q = jn_W d 171 463 ls (.int (nI 0) :: st) M Q := by rw [← jn_k_0]; exact jn_W_eq (f := jn_iconst 0) rfl rfl
set_option maxRecDepth 100000 in
theorem jn_w171_463 {d : Nat} {ls : jn_Lo} {v : Int32} {M : jn_M} {Q : Option Value → jn_M → Prop} : jn_W d 171 463 ls [.int v] M Q = (jn_zb v = true ∧ Q (some (.int v)) M) := jn_W_retc (k := 2) rfl jn_ret2_e
set_option maxRecDepth 100000 in
theorem jn_w171_464 {d : Nat} {l0 l2 l3 : Option Value} {x : Nat} {st : List Value} {M : jn_M} {Q : Option Value → jn_M → Prop} : jn_W d 171 464 [l0, some (.ref x), l2, l3] (st) M Q = jn_W d 171 465 [l0, some (.ref x), l2, l3] (.ref x :: st) M Q := jn_W_eq (f := jn_aload_n 1) rfl rfl
set_option maxRecDepth 100000 in
theorem jn_w171_464n {d : Nat} {l0 l2 l3 : Option Value} {st : List Value} {M : jn_M} {Q : Option Value → jn_M → Prop} : jn_W d 171 464 [l0, some .null, l2, l3] (st) M Q = jn_W d 171 465 [l0, some .null, l2, l3] (.null :: st) M Q := jn_W_eq (f := jn_aload_n 1) rfl rfl
set_option maxRecDepth 100000 in
theorem jn_w171_465 {d : Nat} {l1 l2 l3 : Option Value} {x : Nat} {st : List Value} {M : jn_M} {Q : Option Value → jn_M → Prop} : jn_W d 171 465 [some (.ref x), l1, l2, l3] (st) M Q = jn_W d 171 466 [some (.ref x), l1, l2, l3] (.ref x :: st) M Q := jn_W_eq (f := jn_aload_n 0) rfl rfl
set_option maxRecDepth 100000 in
theorem jn_w171_465n {d : Nat} {l1 l2 l3 : Option Value} {st : List Value} {M : jn_M} {Q : Option Value → jn_M → Prop} : jn_W d 171 465 [some .null, l1, l2, l3] (st) M Q = jn_W d 171 466 [some .null, l1, l2, l3] (.null :: st) M Q := jn_W_eq (f := jn_aload_n 0) rfl rfl
set_option maxRecDepth 100000 in
theorem jn_w171_466 {d : Nat} {l0 l1 l2 : Option Value} {x : Int32} {st : List Value} {M : jn_M} {Q : Option Value → jn_M → Prop} : jn_W d 171 466 [l0, l1, l2, some (.int x)] (st) M Q = jn_W d 171 467 [l0, l1, l2, some (.int x)] (.int x :: st) M Q := jn_W_eq (f := jn_iload_n 3) rfl rfl
set_option maxRecDepth 100000 in
theorem jn_w171_467 {d : Nat} {ls : jn_Lo} {st : List Value} {M : jn_M} {Q : Option Value → jn_M → Prop} : jn_W d 171 467 ls (st) M Q = jn_W d 171 468 ls (.int (nI 1) :: st) M Q := by rw [← jn_k_1]; exact jn_W_eq (f := jn_iconst 1) rfl rfl
set_option maxRecDepth 100000 in
theorem jn_w171_468 {d : Nat} {ls : jn_Lo} {x y : Int32} {st : List Value} {M : jn_M} {Q : Option Value → jn_M → Prop} : jn_W d 171 468 ls (.int y :: .int x :: st) M Q = jn_W d 171 469 ls (.int (x + y) :: st) M Q := jn_W_eq (f := jn_iadd) rfl rfl
set_option maxRecDepth 100000 in
theorem jn_w171_469 {d : Nat} {ls : jn_Lo} {a : Nat} {i : Int32} {st : List Value} {M : jn_M} {Q : Option Value → jn_M → Prop} : jn_W d 171 469 ls (.int i :: .ref a :: st) M Q = (jn_aiO (jn_rs M a) 0 i = true ∧ jn_W d 171 470 ls (.int (jn_aiV (jn_rs M a) i) :: st) M Q) := jn_W_eqc (f := jn_iaload) rfl jn_iaload_e
set_option maxRecDepth 100000 in
theorem jn_w171_470 {d : Nat} {ls : jn_Lo} {a0 : Nat} {a1 : Int32} {k : Nat} {v : Option Value} {M1 : jn_M} {st : List Value} {M : jn_M} {Q : Option Value → jn_M → Prop} (h : jn_V 53 k [.ref a0, .int a1] M v M1) (hk : 1 ≤ k ∧ k + 1 ≤ d) : jn_W d 171 470 ls (.int a1 :: .ref a0 :: st) M Q = ((jn_sm 8 st = true ∧ jn_rc 8 M [.ref a0, .int a1] = true) ∧ jn_W d 171 473 ls (v.toList ++ st) M1 Q) := jn_W_call (na := 2) rfl h hk rfl rfl (Nat.le_of_ble_eq_true rfl)
set_option maxRecDepth 100000 in
theorem jn_w171_473 {d : Nat} {l0 l1 l3 : Option Value} {x : Nat} {st : List Value} {M : jn_M} {Q : Option Value → jn_M → Prop} : jn_W d 171 473 [l0, l1, some (.ref x), l3] (st) M Q = jn_W d 171 474 [l0, l1, some (.ref x), l3] (.ref x :: st) M Q := jn_W_eq (f := jn_aload_n 2) rfl rfl
set_option maxRecDepth 100000 in
theorem jn_w171_473n {d : Nat} {l0 l1 l3 : Option Value} {st : List Value} {M : jn_M} {Q : Option Value → jn_M → Prop} : jn_W d 171 473 [l0, l1, some .null, l3] (st) M Q = jn_W d 171 474 [l0, l1, some .null, l3] (.null :: st) M Q := jn_W_eq (f := jn_aload_n 2) rfl rfl
set_option maxRecDepth 100000 in
theorem jn_w171_474 {d : Nat} {l1 l2 l3 : Option Value} {x : Nat} {st : List Value} {M : jn_M} {Q : Option Value → jn_M → Prop} : jn_W d 171 474 [some (.ref x), l1, l2, l3] (st) M Q = jn_W d 171 475 [some (.ref x), l1, l2, l3] (.ref x :: st) M Q := jn_W_eq (f := jn_aload_n 0) rfl rfl
set_option maxRecDepth 100000 in
theorem jn_w171_474n {d : Nat} {l1 l2 l3 : Option Value} {st : List Value} {M : jn_M} {Q : Option Value → jn_M → Prop} : jn_W d 171 474 [some .null, l1, l2, l3] (st) M Q = jn_W d 171 475 [some .null, l1, l2, l3] (.null :: st) M Q := jn_W_eq (f := jn_aload_n 0) rfl rfl
set_option maxRecDepth 100000 in
theorem jn_w171_475 {d : Nat} {l0 l1 l2 : Option Value} {x : Int32} {st : List Value} {M : jn_M} {Q : Option Value → jn_M → Prop} : jn_W d 171 475 [l0, l1, l2, some (.int x)] (st) M Q = jn_W d 171 476 [l0, l1, l2, some (.int x)] (.int x :: st) M Q := jn_W_eq (f := jn_iload_n 3) rfl rfl
set_option maxRecDepth 100000 in
theorem jn_w171_476 {d : Nat} {ls : jn_Lo} {st : List Value} {M : jn_M} {Q : Option Value → jn_M → Prop} : jn_W d 171 476 ls (st) M Q = jn_W d 171 477 ls (.int (nI 1) :: st) M Q := by rw [← jn_k_1]; exact jn_W_eq (f := jn_iconst 1) rfl rfl
set_option maxRecDepth 100000 in
theorem jn_w171_477 {d : Nat} {ls : jn_Lo} {x y : Int32} {st : List Value} {M : jn_M} {Q : Option Value → jn_M → Prop} : jn_W d 171 477 ls (.int y :: .int x :: st) M Q = jn_W d 171 478 ls (.int (x + y) :: st) M Q := jn_W_eq (f := jn_iadd) rfl rfl
set_option maxRecDepth 100000 in
theorem jn_w171_478 {d : Nat} {ls : jn_Lo} {a : Nat} {i : Int32} {st : List Value} {M : jn_M} {Q : Option Value → jn_M → Prop} : jn_W d 171 478 ls (.int i :: .ref a :: st) M Q = (jn_aiO (jn_rs M a) 0 i = true ∧ jn_W d 171 479 ls (.int (jn_aiV (jn_rs M a) i) :: st) M Q) := jn_W_eqc (f := jn_iaload) rfl jn_iaload_e
set_option maxRecDepth 100000 in
theorem jn_w171_479 {d : Nat} {ls : jn_Lo} {a0 : Nat} {a1 : Int32} {k : Nat} {v : Option Value} {M1 : jn_M} {st : List Value} {M : jn_M} {Q : Option Value → jn_M → Prop} (h : jn_V 156 k [.ref a0, .int a1] M v M1) (hk : 1 ≤ k ∧ k + 1 ≤ d) : jn_W d 171 479 ls (.int a1 :: .ref a0 :: st) M Q = ((jn_sm 8 st = true ∧ jn_rc 9 M [.ref a0, .int a1] = true) ∧ jn_W d 171 482 ls (v.toList ++ st) M1 Q) := jn_W_call (na := 2) rfl h hk rfl rfl (Nat.le_of_ble_eq_true rfl)
set_option maxRecDepth 100000 in
theorem jn_w171_482 {d : Nat} {ls : jn_Lo} {x y : Int32} {st : List Value} {M : jn_M} {Q : Option Value → jn_M → Prop} : jn_W d 171 482 ls (.int y :: .int x :: st) M Q = if x = y then jn_W d 171 1252 ls (st) M Q else jn_W d 171 485 ls (st) M Q := jn_W_br (f := jn_iceq 1252) _ rfl rfl
set_option maxRecDepth 100000 in
theorem jn_w171_485 {d : Nat} {ls : jn_Lo} {st : List Value} {M : jn_M} {Q : Option Value → jn_M → Prop} : jn_W d 171 485 ls (st) M Q = jn_W d 171 486 ls (.int (nI 0) :: st) M Q := by rw [← jn_k_0]; exact jn_W_eq (f := jn_iconst 0) rfl rfl
set_option maxRecDepth 100000 in
theorem jn_w171_486 {d : Nat} {ls : jn_Lo} {v : Int32} {M : jn_M} {Q : Option Value → jn_M → Prop} : jn_W d 171 486 ls [.int v] M Q = (jn_zb v = true ∧ Q (some (.int v)) M) := jn_W_retc (k := 2) rfl jn_ret2_e
set_option maxRecDepth 100000 in
theorem jn_w171_487 {d : Nat} {l0 l2 l3 : Option Value} {x : Nat} {st : List Value} {M : jn_M} {Q : Option Value → jn_M → Prop} : jn_W d 171 487 [l0, some (.ref x), l2, l3] (st) M Q = jn_W d 171 488 [l0, some (.ref x), l2, l3] (.ref x :: st) M Q := jn_W_eq (f := jn_aload_n 1) rfl rfl
set_option maxRecDepth 100000 in
theorem jn_w171_487n {d : Nat} {l0 l2 l3 : Option Value} {st : List Value} {M : jn_M} {Q : Option Value → jn_M → Prop} : jn_W d 171 487 [l0, some .null, l2, l3] (st) M Q = jn_W d 171 488 [l0, some .null, l2, l3] (.null :: st) M Q := jn_W_eq (f := jn_aload_n 1) rfl rfl
set_option maxRecDepth 100000 in
theorem jn_w171_488 {d : Nat} {l1 l2 l3 : Option Value} {x : Nat} {st : List Value} {M : jn_M} {Q : Option Value → jn_M → Prop} : jn_W d 171 488 [some (.ref x), l1, l2, l3] (st) M Q = jn_W d 171 489 [some (.ref x), l1, l2, l3] (.ref x :: st) M Q := jn_W_eq (f := jn_aload_n 0) rfl rfl
set_option maxRecDepth 100000 in
theorem jn_w171_488n {d : Nat} {l1 l2 l3 : Option Value} {st : List Value} {M : jn_M} {Q : Option Value → jn_M → Prop} : jn_W d 171 488 [some .null, l1, l2, l3] (st) M Q = jn_W d 171 489 [some .null, l1, l2, l3] (.null :: st) M Q := jn_W_eq (f := jn_aload_n 0) rfl rfl
set_option maxRecDepth 100000 in
theorem jn_w171_489 {d : Nat} {l0 l1 l2 : Option Value} {x : Int32} {st : List Value} {M : jn_M} {Q : Option Value → jn_M → Prop} : jn_W d 171 489 [l0, l1, l2, some (.int x)] (st) M Q = jn_W d 171 490 [l0, l1, l2, some (.int x)] (.int x :: st) M Q := jn_W_eq (f := jn_iload_n 3) rfl rfl
set_option maxRecDepth 100000 in
theorem jn_w171_490 {d : Nat} {ls : jn_Lo} {st : List Value} {M : jn_M} {Q : Option Value → jn_M → Prop} : jn_W d 171 490 ls (st) M Q = jn_W d 171 491 ls (.int (nI 1) :: st) M Q := by rw [← jn_k_1]; exact jn_W_eq (f := jn_iconst 1) rfl rfl
set_option maxRecDepth 100000 in
theorem jn_w171_491 {d : Nat} {ls : jn_Lo} {x y : Int32} {st : List Value} {M : jn_M} {Q : Option Value → jn_M → Prop} : jn_W d 171 491 ls (.int y :: .int x :: st) M Q = jn_W d 171 492 ls (.int (x + y) :: st) M Q := jn_W_eq (f := jn_iadd) rfl rfl
set_option maxRecDepth 100000 in
theorem jn_w171_492 {d : Nat} {ls : jn_Lo} {a : Nat} {i : Int32} {st : List Value} {M : jn_M} {Q : Option Value → jn_M → Prop} : jn_W d 171 492 ls (.int i :: .ref a :: st) M Q = (jn_aiO (jn_rs M a) 0 i = true ∧ jn_W d 171 493 ls (.int (jn_aiV (jn_rs M a) i) :: st) M Q) := jn_W_eqc (f := jn_iaload) rfl jn_iaload_e
set_option maxRecDepth 100000 in
theorem jn_w171_493 {d : Nat} {ls : jn_Lo} {a0 : Nat} {a1 : Int32} {k : Nat} {v : Option Value} {M1 : jn_M} {st : List Value} {M : jn_M} {Q : Option Value → jn_M → Prop} (h : jn_V 54 k [.ref a0, .int a1] M v M1) (hk : 1 ≤ k ∧ k + 1 ≤ d) : jn_W d 171 493 ls (.int a1 :: .ref a0 :: st) M Q = ((jn_sm 8 st = true ∧ jn_rc 8 M [.ref a0, .int a1] = true) ∧ jn_W d 171 496 ls (v.toList ++ st) M1 Q) := jn_W_call (na := 2) rfl h hk rfl rfl (Nat.le_of_ble_eq_true rfl)
set_option maxRecDepth 100000 in
theorem jn_w171_496 {d : Nat} {l0 l1 l3 : Option Value} {x : Nat} {st : List Value} {M : jn_M} {Q : Option Value → jn_M → Prop} : jn_W d 171 496 [l0, l1, some (.ref x), l3] (st) M Q = jn_W d 171 497 [l0, l1, some (.ref x), l3] (.ref x :: st) M Q := jn_W_eq (f := jn_aload_n 2) rfl rfl
set_option maxRecDepth 100000 in
theorem jn_w171_496n {d : Nat} {l0 l1 l3 : Option Value} {st : List Value} {M : jn_M} {Q : Option Value → jn_M → Prop} : jn_W d 171 496 [l0, l1, some .null, l3] (st) M Q = jn_W d 171 497 [l0, l1, some .null, l3] (.null :: st) M Q := jn_W_eq (f := jn_aload_n 2) rfl rfl
set_option maxRecDepth 100000 in
theorem jn_w171_497 {d : Nat} {l1 l2 l3 : Option Value} {x : Nat} {st : List Value} {M : jn_M} {Q : Option Value → jn_M → Prop} : jn_W d 171 497 [some (.ref x), l1, l2, l3] (st) M Q = jn_W d 171 498 [some (.ref x), l1, l2, l3] (.ref x :: st) M Q := jn_W_eq (f := jn_aload_n 0) rfl rfl
set_option maxRecDepth 100000 in
theorem jn_w171_497n {d : Nat} {l1 l2 l3 : Option Value} {st : List Value} {M : jn_M} {Q : Option Value → jn_M → Prop} : jn_W d 171 497 [some .null, l1, l2, l3] (st) M Q = jn_W d 171 498 [some .null, l1, l2, l3] (.null :: st) M Q := jn_W_eq (f := jn_aload_n 0) rfl rfl
set_option maxRecDepth 100000 in
theorem jn_w171_498 {d : Nat} {l0 l1 l2 : Option Value} {x : Int32} {st : List Value} {M : jn_M} {Q : Option Value → jn_M → Prop} : jn_W d 171 498 [l0, l1, l2, some (.int x)] (st) M Q = jn_W d 171 499 [l0, l1, l2, some (.int x)] (.int x :: st) M Q := jn_W_eq (f := jn_iload_n 3) rfl rfl
set_option maxRecDepth 100000 in
theorem jn_w171_499 {d : Nat} {ls : jn_Lo} {st : List Value} {M : jn_M} {Q : Option Value → jn_M → Prop} : jn_W d 171 499 ls (st) M Q = jn_W d 171 500 ls (.int (nI 1) :: st) M Q := by rw [← jn_k_1]; exact jn_W_eq (f := jn_iconst 1) rfl rfl
set_option maxRecDepth 100000 in
theorem jn_w171_500 {d : Nat} {ls : jn_Lo} {x y : Int32} {st : List Value} {M : jn_M} {Q : Option Value → jn_M → Prop} : jn_W d 171 500 ls (.int y :: .int x :: st) M Q = jn_W d 171 501 ls (.int (x + y) :: st) M Q := jn_W_eq (f := jn_iadd) rfl rfl
set_option maxRecDepth 100000 in
theorem jn_w171_501 {d : Nat} {ls : jn_Lo} {a : Nat} {i : Int32} {st : List Value} {M : jn_M} {Q : Option Value → jn_M → Prop} : jn_W d 171 501 ls (.int i :: .ref a :: st) M Q = (jn_aiO (jn_rs M a) 0 i = true ∧ jn_W d 171 502 ls (.int (jn_aiV (jn_rs M a) i) :: st) M Q) := jn_W_eqc (f := jn_iaload) rfl jn_iaload_e
set_option maxRecDepth 100000 in
theorem jn_w171_502 {d : Nat} {ls : jn_Lo} {a0 : Nat} {a1 : Int32} {k : Nat} {v : Option Value} {M1 : jn_M} {st : List Value} {M : jn_M} {Q : Option Value → jn_M → Prop} (h : jn_V 120 k [.ref a0, .int a1] M v M1) (hk : 1 ≤ k ∧ k + 1 ≤ d) : jn_W d 171 502 ls (.int a1 :: .ref a0 :: st) M Q = ((jn_sm 8 st = true ∧ jn_rc 9 M [.ref a0, .int a1] = true) ∧ jn_W d 171 505 ls (v.toList ++ st) M1 Q) := jn_W_call (na := 2) rfl h hk rfl rfl (Nat.le_of_ble_eq_true rfl)
set_option maxRecDepth 100000 in
theorem jn_w171_505 {d : Nat} {ls : jn_Lo} {x y : Int32} {st : List Value} {M : jn_M} {Q : Option Value → jn_M → Prop} : jn_W d 171 505 ls (.int y :: .int x :: st) M Q = if x = y then jn_W d 171 1252 ls (st) M Q else jn_W d 171 508 ls (st) M Q := jn_W_br (f := jn_iceq 1252) _ rfl rfl
set_option maxRecDepth 100000 in
theorem jn_w171_508 {d : Nat} {ls : jn_Lo} {st : List Value} {M : jn_M} {Q : Option Value → jn_M → Prop} : jn_W d 171 508 ls (st) M Q = jn_W d 171 509 ls (.int (nI 0) :: st) M Q := by rw [← jn_k_0]; exact jn_W_eq (f := jn_iconst 0) rfl rfl
set_option maxRecDepth 100000 in
theorem jn_w171_509 {d : Nat} {ls : jn_Lo} {v : Int32} {M : jn_M} {Q : Option Value → jn_M → Prop} : jn_W d 171 509 ls [.int v] M Q = (jn_zb v = true ∧ Q (some (.int v)) M) := jn_W_retc (k := 2) rfl jn_ret2_e
set_option maxRecDepth 100000 in
theorem jn_w171_510 {d : Nat} {l0 l2 l3 : Option Value} {x : Nat} {st : List Value} {M : jn_M} {Q : Option Value → jn_M → Prop} : jn_W d 171 510 [l0, some (.ref x), l2, l3] (st) M Q = jn_W d 171 511 [l0, some (.ref x), l2, l3] (.ref x :: st) M Q := jn_W_eq (f := jn_aload_n 1) rfl rfl
set_option maxRecDepth 100000 in
theorem jn_w171_510n {d : Nat} {l0 l2 l3 : Option Value} {st : List Value} {M : jn_M} {Q : Option Value → jn_M → Prop} : jn_W d 171 510 [l0, some .null, l2, l3] (st) M Q = jn_W d 171 511 [l0, some .null, l2, l3] (.null :: st) M Q := jn_W_eq (f := jn_aload_n 1) rfl rfl
set_option maxRecDepth 100000 in
theorem jn_w171_511 {d : Nat} {l1 l2 l3 : Option Value} {x : Nat} {st : List Value} {M : jn_M} {Q : Option Value → jn_M → Prop} : jn_W d 171 511 [some (.ref x), l1, l2, l3] (st) M Q = jn_W d 171 512 [some (.ref x), l1, l2, l3] (.ref x :: st) M Q := jn_W_eq (f := jn_aload_n 0) rfl rfl
set_option maxRecDepth 100000 in
theorem jn_w171_511n {d : Nat} {l1 l2 l3 : Option Value} {st : List Value} {M : jn_M} {Q : Option Value → jn_M → Prop} : jn_W d 171 511 [some .null, l1, l2, l3] (st) M Q = jn_W d 171 512 [some .null, l1, l2, l3] (.null :: st) M Q := jn_W_eq (f := jn_aload_n 0) rfl rfl
set_option maxRecDepth 100000 in
theorem jn_w171_512 {d : Nat} {l0 l1 l2 : Option Value} {x : Int32} {st : List Value} {M : jn_M} {Q : Option Value → jn_M → Prop} : jn_W d 171 512 [l0, l1, l2, some (.int x)] (st) M Q = jn_W d 171 513 [l0, l1, l2, some (.int x)] (.int x :: st) M Q := jn_W_eq (f := jn_iload_n 3) rfl rfl
set_option maxRecDepth 100000 in
theorem jn_w171_513 {d : Nat} {ls : jn_Lo} {st : List Value} {M : jn_M} {Q : Option Value → jn_M → Prop} : jn_W d 171 513 ls (st) M Q = jn_W d 171 514 ls (.int (nI 1) :: st) M Q := by rw [← jn_k_1]; exact jn_W_eq (f := jn_iconst 1) rfl rfl
set_option maxRecDepth 100000 in
theorem jn_w171_514 {d : Nat} {ls : jn_Lo} {x y : Int32} {st : List Value} {M : jn_M} {Q : Option Value → jn_M → Prop} : jn_W d 171 514 ls (.int y :: .int x :: st) M Q = jn_W d 171 515 ls (.int (x + y) :: st) M Q := jn_W_eq (f := jn_iadd) rfl rfl
set_option maxRecDepth 100000 in
theorem jn_w171_515 {d : Nat} {ls : jn_Lo} {a : Nat} {i : Int32} {st : List Value} {M : jn_M} {Q : Option Value → jn_M → Prop} : jn_W d 171 515 ls (.int i :: .ref a :: st) M Q = (jn_aiO (jn_rs M a) 0 i = true ∧ jn_W d 171 516 ls (.int (jn_aiV (jn_rs M a) i) :: st) M Q) := jn_W_eqc (f := jn_iaload) rfl jn_iaload_e
set_option maxRecDepth 100000 in
theorem jn_w171_516 {d : Nat} {l1 l2 l3 : Option Value} {x : Nat} {st : List Value} {M : jn_M} {Q : Option Value → jn_M → Prop} : jn_W d 171 516 [some (.ref x), l1, l2, l3] (st) M Q = jn_W d 171 517 [some (.ref x), l1, l2, l3] (.ref x :: st) M Q := jn_W_eq (f := jn_aload_n 0) rfl rfl
set_option maxRecDepth 100000 in
theorem jn_w171_516n {d : Nat} {l1 l2 l3 : Option Value} {st : List Value} {M : jn_M} {Q : Option Value → jn_M → Prop} : jn_W d 171 516 [some .null, l1, l2, l3] (st) M Q = jn_W d 171 517 [some .null, l1, l2, l3] (.null :: st) M Q := jn_W_eq (f := jn_aload_n 0) rfl rfl
set_option maxRecDepth 100000 in
theorem jn_w171_517 {d : Nat} {l0 l1 l2 : Option Value} {x : Int32} {st : List Value} {M : jn_M} {Q : Option Value → jn_M → Prop} : jn_W d 171 517 [l0, l1, l2, some (.int x)] (st) M Q = jn_W d 171 518 [l0, l1, l2, some (.int x)] (.int x :: st) M Q := jn_W_eq (f := jn_iload_n 3) rfl rfl
set_option maxRecDepth 100000 in
theorem jn_w171_518 {d : Nat} {ls : jn_Lo} {st : List Value} {M : jn_M} {Q : Option Value → jn_M → Prop} : jn_W d 171 518 ls (st) M Q = jn_W d 171 519 ls (.int (nI 2) :: st) M Q := by rw [← jn_k_2]; exact jn_W_eq (f := jn_iconst 2) rfl rfl
set_option maxRecDepth 100000 in
theorem jn_w171_519 {d : Nat} {ls : jn_Lo} {x y : Int32} {st : List Value} {M : jn_M} {Q : Option Value → jn_M → Prop} : jn_W d 171 519 ls (.int y :: .int x :: st) M Q = jn_W d 171 520 ls (.int (x + y) :: st) M Q := jn_W_eq (f := jn_iadd) rfl rfl
set_option maxRecDepth 100000 in
theorem jn_w171_520 {d : Nat} {ls : jn_Lo} {a : Nat} {i : Int32} {st : List Value} {M : jn_M} {Q : Option Value → jn_M → Prop} : jn_W d 171 520 ls (.int i :: .ref a :: st) M Q = (jn_aiO (jn_rs M a) 0 i = true ∧ jn_W d 171 521 ls (.int (jn_aiV (jn_rs M a) i) :: st) M Q) := jn_W_eqc (f := jn_iaload) rfl jn_iaload_e
set_option maxRecDepth 100000 in
theorem jn_w171_521 {d : Nat} {l1 l2 l3 : Option Value} {x : Nat} {st : List Value} {M : jn_M} {Q : Option Value → jn_M → Prop} : jn_W d 171 521 [some (.ref x), l1, l2, l3] (st) M Q = jn_W d 171 522 [some (.ref x), l1, l2, l3] (.ref x :: st) M Q := jn_W_eq (f := jn_aload_n 0) rfl rfl
set_option maxRecDepth 100000 in
theorem jn_w171_521n {d : Nat} {l1 l2 l3 : Option Value} {st : List Value} {M : jn_M} {Q : Option Value → jn_M → Prop} : jn_W d 171 521 [some .null, l1, l2, l3] (st) M Q = jn_W d 171 522 [some .null, l1, l2, l3] (.null :: st) M Q := jn_W_eq (f := jn_aload_n 0) rfl rfl
set_option maxRecDepth 100000 in
theorem jn_w171_522 {d : Nat} {l0 l1 l2 : Option Value} {x : Int32} {st : List Value} {M : jn_M} {Q : Option Value → jn_M → Prop} : jn_W d 171 522 [l0, l1, l2, some (.int x)] (st) M Q = jn_W d 171 523 [l0, l1, l2, some (.int x)] (.int x :: st) M Q := jn_W_eq (f := jn_iload_n 3) rfl rfl
set_option maxRecDepth 100000 in
theorem jn_w171_523 {d : Nat} {ls : jn_Lo} {st : List Value} {M : jn_M} {Q : Option Value → jn_M → Prop} : jn_W d 171 523 ls (st) M Q = jn_W d 171 524 ls (.int (nI 3) :: st) M Q := by rw [← jn_k_3]; exact jn_W_eq (f := jn_iconst 3) rfl rfl
set_option maxRecDepth 100000 in
theorem jn_w171_524 {d : Nat} {ls : jn_Lo} {x y : Int32} {st : List Value} {M : jn_M} {Q : Option Value → jn_M → Prop} : jn_W d 171 524 ls (.int y :: .int x :: st) M Q = jn_W d 171 525 ls (.int (x + y) :: st) M Q := jn_W_eq (f := jn_iadd) rfl rfl
set_option maxRecDepth 100000 in
theorem jn_w171_525 {d : Nat} {ls : jn_Lo} {a : Nat} {i : Int32} {st : List Value} {M : jn_M} {Q : Option Value → jn_M → Prop} : jn_W d 171 525 ls (.int i :: .ref a :: st) M Q = (jn_aiO (jn_rs M a) 0 i = true ∧ jn_W d 171 526 ls (.int (jn_aiV (jn_rs M a) i) :: st) M Q) := jn_W_eqc (f := jn_iaload) rfl jn_iaload_e
set_option maxRecDepth 100000 in
theorem jn_w171_526 {d : Nat} {ls : jn_Lo} {a0 : Nat} {a1 : Int32} {a2 : Int32} {a3 : Int32} {k : Nat} {v : Option Value} {M1 : jn_M} {st : List Value} {M : jn_M} {Q : Option Value → jn_M → Prop} (h : jn_V 55 k [.ref a0, .int a1, .int a2, .int a3] M v M1) (hk : 1 ≤ k ∧ k + 1 ≤ d) : jn_W d 171 526 ls (.int a3 :: .int a2 :: .int a1 :: .ref a0 :: st) M Q = ((jn_sm 8 st = true ∧ jn_rc 8 M [.ref a0, .int a1, .int a2, .int a3] = true) ∧ jn_W d 171 529 ls (v.toList ++ st) M1 Q) := jn_W_call (na := 4) rfl h hk rfl rfl (Nat.le_of_ble_eq_true rfl)
set_option maxRecDepth 100000 in
theorem jn_w171_529 {d : Nat} {l0 l1 l3 : Option Value} {x : Nat} {st : List Value} {M : jn_M} {Q : Option Value → jn_M → Prop} : jn_W d 171 529 [l0, l1, some (.ref x), l3] (st) M Q = jn_W d 171 530 [l0, l1, some (.ref x), l3] (.ref x :: st) M Q := jn_W_eq (f := jn_aload_n 2) rfl rfl
set_option maxRecDepth 100000 in
theorem jn_w171_529n {d : Nat} {l0 l1 l3 : Option Value} {st : List Value} {M : jn_M} {Q : Option Value → jn_M → Prop} : jn_W d 171 529 [l0, l1, some .null, l3] (st) M Q = jn_W d 171 530 [l0, l1, some .null, l3] (.null :: st) M Q := jn_W_eq (f := jn_aload_n 2) rfl rfl
set_option maxRecDepth 100000 in
theorem jn_w171_530 {d : Nat} {l1 l2 l3 : Option Value} {x : Nat} {st : List Value} {M : jn_M} {Q : Option Value → jn_M → Prop} : jn_W d 171 530 [some (.ref x), l1, l2, l3] (st) M Q = jn_W d 171 531 [some (.ref x), l1, l2, l3] (.ref x :: st) M Q := jn_W_eq (f := jn_aload_n 0) rfl rfl
set_option maxRecDepth 100000 in
theorem jn_w171_530n {d : Nat} {l1 l2 l3 : Option Value} {st : List Value} {M : jn_M} {Q : Option Value → jn_M → Prop} : jn_W d 171 530 [some .null, l1, l2, l3] (st) M Q = jn_W d 171 531 [some .null, l1, l2, l3] (.null :: st) M Q := jn_W_eq (f := jn_aload_n 0) rfl rfl
set_option maxRecDepth 100000 in
theorem jn_w171_531 {d : Nat} {l0 l1 l2 : Option Value} {x : Int32} {st : List Value} {M : jn_M} {Q : Option Value → jn_M → Prop} : jn_W d 171 531 [l0, l1, l2, some (.int x)] (st) M Q = jn_W d 171 532 [l0, l1, l2, some (.int x)] (.int x :: st) M Q := jn_W_eq (f := jn_iload_n 3) rfl rfl
set_option maxRecDepth 100000 in
theorem jn_w171_532 {d : Nat} {ls : jn_Lo} {st : List Value} {M : jn_M} {Q : Option Value → jn_M → Prop} : jn_W d 171 532 ls (st) M Q = jn_W d 171 533 ls (.int (nI 1) :: st) M Q := by rw [← jn_k_1]; exact jn_W_eq (f := jn_iconst 1) rfl rfl
set_option maxRecDepth 100000 in
theorem jn_w171_533 {d : Nat} {ls : jn_Lo} {x y : Int32} {st : List Value} {M : jn_M} {Q : Option Value → jn_M → Prop} : jn_W d 171 533 ls (.int y :: .int x :: st) M Q = jn_W d 171 534 ls (.int (x + y) :: st) M Q := jn_W_eq (f := jn_iadd) rfl rfl
set_option maxRecDepth 100000 in
theorem jn_w171_534 {d : Nat} {ls : jn_Lo} {a : Nat} {i : Int32} {st : List Value} {M : jn_M} {Q : Option Value → jn_M → Prop} : jn_W d 171 534 ls (.int i :: .ref a :: st) M Q = (jn_aiO (jn_rs M a) 0 i = true ∧ jn_W d 171 535 ls (.int (jn_aiV (jn_rs M a) i) :: st) M Q) := jn_W_eqc (f := jn_iaload) rfl jn_iaload_e
set_option maxRecDepth 100000 in
theorem jn_w171_535 {d : Nat} {l1 l2 l3 : Option Value} {x : Nat} {st : List Value} {M : jn_M} {Q : Option Value → jn_M → Prop} : jn_W d 171 535 [some (.ref x), l1, l2, l3] (st) M Q = jn_W d 171 536 [some (.ref x), l1, l2, l3] (.ref x :: st) M Q := jn_W_eq (f := jn_aload_n 0) rfl rfl
set_option maxRecDepth 100000 in
theorem jn_w171_535n {d : Nat} {l1 l2 l3 : Option Value} {st : List Value} {M : jn_M} {Q : Option Value → jn_M → Prop} : jn_W d 171 535 [some .null, l1, l2, l3] (st) M Q = jn_W d 171 536 [some .null, l1, l2, l3] (.null :: st) M Q := jn_W_eq (f := jn_aload_n 0) rfl rfl
set_option maxRecDepth 100000 in
theorem jn_w171_536 {d : Nat} {l0 l1 l2 : Option Value} {x : Int32} {st : List Value} {M : jn_M} {Q : Option Value → jn_M → Prop} : jn_W d 171 536 [l0, l1, l2, some (.int x)] (st) M Q = jn_W d 171 537 [l0, l1, l2, some (.int x)] (.int x :: st) M Q := jn_W_eq (f := jn_iload_n 3) rfl rfl
set_option maxRecDepth 100000 in
theorem jn_w171_537 {d : Nat} {ls : jn_Lo} {st : List Value} {M : jn_M} {Q : Option Value → jn_M → Prop} : jn_W d 171 537 ls (st) M Q = jn_W d 171 538 ls (.int (nI 2) :: st) M Q := by rw [← jn_k_2]; exact jn_W_eq (f := jn_iconst 2) rfl rfl
set_option maxRecDepth 100000 in
theorem jn_w171_538 {d : Nat} {ls : jn_Lo} {x y : Int32} {st : List Value} {M : jn_M} {Q : Option Value → jn_M → Prop} : jn_W d 171 538 ls (.int y :: .int x :: st) M Q = jn_W d 171 539 ls (.int (x + y) :: st) M Q := jn_W_eq (f := jn_iadd) rfl rfl
set_option maxRecDepth 100000 in
theorem jn_w171_539 {d : Nat} {ls : jn_Lo} {a : Nat} {i : Int32} {st : List Value} {M : jn_M} {Q : Option Value → jn_M → Prop} : jn_W d 171 539 ls (.int i :: .ref a :: st) M Q = (jn_aiO (jn_rs M a) 0 i = true ∧ jn_W d 171 540 ls (.int (jn_aiV (jn_rs M a) i) :: st) M Q) := jn_W_eqc (f := jn_iaload) rfl jn_iaload_e
set_option maxRecDepth 100000 in
theorem jn_w171_540 {d : Nat} {l1 l2 l3 : Option Value} {x : Nat} {st : List Value} {M : jn_M} {Q : Option Value → jn_M → Prop} : jn_W d 171 540 [some (.ref x), l1, l2, l3] (st) M Q = jn_W d 171 541 [some (.ref x), l1, l2, l3] (.ref x :: st) M Q := jn_W_eq (f := jn_aload_n 0) rfl rfl
set_option maxRecDepth 100000 in
theorem jn_w171_540n {d : Nat} {l1 l2 l3 : Option Value} {st : List Value} {M : jn_M} {Q : Option Value → jn_M → Prop} : jn_W d 171 540 [some .null, l1, l2, l3] (st) M Q = jn_W d 171 541 [some .null, l1, l2, l3] (.null :: st) M Q := jn_W_eq (f := jn_aload_n 0) rfl rfl
set_option maxRecDepth 100000 in
theorem jn_w171_541 {d : Nat} {l0 l1 l2 : Option Value} {x : Int32} {st : List Value} {M : jn_M} {Q : Option Value → jn_M → Prop} : jn_W d 171 541 [l0, l1, l2, some (.int x)] (st) M Q = jn_W d 171 542 [l0, l1, l2, some (.int x)] (.int x :: st) M Q := jn_W_eq (f := jn_iload_n 3) rfl rfl
set_option maxRecDepth 100000 in
theorem jn_w171_542 {d : Nat} {ls : jn_Lo} {st : List Value} {M : jn_M} {Q : Option Value → jn_M → Prop} : jn_W d 171 542 ls (st) M Q = jn_W d 171 543 ls (.int (nI 3) :: st) M Q := by rw [← jn_k_3]; exact jn_W_eq (f := jn_iconst 3) rfl rfl
set_option maxRecDepth 100000 in
theorem jn_w171_543 {d : Nat} {ls : jn_Lo} {x y : Int32} {st : List Value} {M : jn_M} {Q : Option Value → jn_M → Prop} : jn_W d 171 543 ls (.int y :: .int x :: st) M Q = jn_W d 171 544 ls (.int (x + y) :: st) M Q := jn_W_eq (f := jn_iadd) rfl rfl
set_option maxRecDepth 100000 in
theorem jn_w171_544 {d : Nat} {ls : jn_Lo} {a : Nat} {i : Int32} {st : List Value} {M : jn_M} {Q : Option Value → jn_M → Prop} : jn_W d 171 544 ls (.int i :: .ref a :: st) M Q = (jn_aiO (jn_rs M a) 0 i = true ∧ jn_W d 171 545 ls (.int (jn_aiV (jn_rs M a) i) :: st) M Q) := jn_W_eqc (f := jn_iaload) rfl jn_iaload_e
set_option maxRecDepth 100000 in
theorem jn_w171_545 {d : Nat} {ls : jn_Lo} {a0 : Nat} {a1 : Int32} {a2 : Int32} {a3 : Int32} {k : Nat} {v : Option Value} {M1 : jn_M} {st : List Value} {M : jn_M} {Q : Option Value → jn_M → Prop} (h : jn_V 122 k [.ref a0, .int a1, .int a2, .int a3] M v M1) (hk : 1 ≤ k ∧ k + 1 ≤ d) : jn_W d 171 545 ls (.int a3 :: .int a2 :: .int a1 :: .ref a0 :: st) M Q = ((jn_sm 8 st = true ∧ jn_rc 9 M [.ref a0, .int a1, .int a2, .int a3] = true) ∧ jn_W d 171 548 ls (v.toList ++ st) M1 Q) := jn_W_call (na := 4) rfl h hk rfl rfl (Nat.le_of_ble_eq_true rfl)
set_option maxRecDepth 100000 in
theorem jn_w171_548 {d : Nat} {ls : jn_Lo} {x y : Int32} {st : List Value} {M : jn_M} {Q : Option Value → jn_M → Prop} : jn_W d 171 548 ls (.int y :: .int x :: st) M Q = if x = y then jn_W d 171 1252 ls (st) M Q else jn_W d 171 551 ls (st) M Q := jn_W_br (f := jn_iceq 1252) _ rfl rfl
set_option maxRecDepth 100000 in
theorem jn_w171_551 {d : Nat} {ls : jn_Lo} {st : List Value} {M : jn_M} {Q : Option Value → jn_M → Prop} : jn_W d 171 551 ls (st) M Q = jn_W d 171 552 ls (.int (nI 0) :: st) M Q := by rw [← jn_k_0]; exact jn_W_eq (f := jn_iconst 0) rfl rfl
set_option maxRecDepth 100000 in
theorem jn_w171_552 {d : Nat} {ls : jn_Lo} {v : Int32} {M : jn_M} {Q : Option Value → jn_M → Prop} : jn_W d 171 552 ls [.int v] M Q = (jn_zb v = true ∧ Q (some (.int v)) M) := jn_W_retc (k := 2) rfl jn_ret2_e
set_option maxRecDepth 100000 in
theorem jn_w171_553 {d : Nat} {l0 l2 l3 : Option Value} {x : Nat} {st : List Value} {M : jn_M} {Q : Option Value → jn_M → Prop} : jn_W d 171 553 [l0, some (.ref x), l2, l3] (st) M Q = jn_W d 171 554 [l0, some (.ref x), l2, l3] (.ref x :: st) M Q := jn_W_eq (f := jn_aload_n 1) rfl rfl
set_option maxRecDepth 100000 in
theorem jn_w171_553n {d : Nat} {l0 l2 l3 : Option Value} {st : List Value} {M : jn_M} {Q : Option Value → jn_M → Prop} : jn_W d 171 553 [l0, some .null, l2, l3] (st) M Q = jn_W d 171 554 [l0, some .null, l2, l3] (.null :: st) M Q := jn_W_eq (f := jn_aload_n 1) rfl rfl
set_option maxRecDepth 100000 in
theorem jn_w171_554 {d : Nat} {l1 l2 l3 : Option Value} {x : Nat} {st : List Value} {M : jn_M} {Q : Option Value → jn_M → Prop} : jn_W d 171 554 [some (.ref x), l1, l2, l3] (st) M Q = jn_W d 171 555 [some (.ref x), l1, l2, l3] (.ref x :: st) M Q := jn_W_eq (f := jn_aload_n 0) rfl rfl
set_option maxRecDepth 100000 in
theorem jn_w171_554n {d : Nat} {l1 l2 l3 : Option Value} {st : List Value} {M : jn_M} {Q : Option Value → jn_M → Prop} : jn_W d 171 554 [some .null, l1, l2, l3] (st) M Q = jn_W d 171 555 [some .null, l1, l2, l3] (.null :: st) M Q := jn_W_eq (f := jn_aload_n 0) rfl rfl
set_option maxRecDepth 100000 in
theorem jn_w171_555 {d : Nat} {l0 l1 l2 : Option Value} {x : Int32} {st : List Value} {M : jn_M} {Q : Option Value → jn_M → Prop} : jn_W d 171 555 [l0, l1, l2, some (.int x)] (st) M Q = jn_W d 171 556 [l0, l1, l2, some (.int x)] (.int x :: st) M Q := jn_W_eq (f := jn_iload_n 3) rfl rfl
set_option maxRecDepth 100000 in
theorem jn_w171_556 {d : Nat} {ls : jn_Lo} {st : List Value} {M : jn_M} {Q : Option Value → jn_M → Prop} : jn_W d 171 556 ls (st) M Q = jn_W d 171 557 ls (.int (nI 1) :: st) M Q := by rw [← jn_k_1]; exact jn_W_eq (f := jn_iconst 1) rfl rfl
set_option maxRecDepth 100000 in
theorem jn_w171_557 {d : Nat} {ls : jn_Lo} {x y : Int32} {st : List Value} {M : jn_M} {Q : Option Value → jn_M → Prop} : jn_W d 171 557 ls (.int y :: .int x :: st) M Q = jn_W d 171 558 ls (.int (x + y) :: st) M Q := jn_W_eq (f := jn_iadd) rfl rfl
set_option maxRecDepth 100000 in
theorem jn_w171_558 {d : Nat} {ls : jn_Lo} {a : Nat} {i : Int32} {st : List Value} {M : jn_M} {Q : Option Value → jn_M → Prop} : jn_W d 171 558 ls (.int i :: .ref a :: st) M Q = (jn_aiO (jn_rs M a) 0 i = true ∧ jn_W d 171 559 ls (.int (jn_aiV (jn_rs M a) i) :: st) M Q) := jn_W_eqc (f := jn_iaload) rfl jn_iaload_e
set_option maxRecDepth 100000 in
theorem jn_w171_559 {d : Nat} {l1 l2 l3 : Option Value} {x : Nat} {st : List Value} {M : jn_M} {Q : Option Value → jn_M → Prop} : jn_W d 171 559 [some (.ref x), l1, l2, l3] (st) M Q = jn_W d 171 560 [some (.ref x), l1, l2, l3] (.ref x :: st) M Q := jn_W_eq (f := jn_aload_n 0) rfl rfl
set_option maxRecDepth 100000 in
theorem jn_w171_559n {d : Nat} {l1 l2 l3 : Option Value} {st : List Value} {M : jn_M} {Q : Option Value → jn_M → Prop} : jn_W d 171 559 [some .null, l1, l2, l3] (st) M Q = jn_W d 171 560 [some .null, l1, l2, l3] (.null :: st) M Q := jn_W_eq (f := jn_aload_n 0) rfl rfl
set_option maxRecDepth 100000 in
theorem jn_w171_560 {d : Nat} {l0 l1 l2 : Option Value} {x : Int32} {st : List Value} {M : jn_M} {Q : Option Value → jn_M → Prop} : jn_W d 171 560 [l0, l1, l2, some (.int x)] (st) M Q = jn_W d 171 561 [l0, l1, l2, some (.int x)] (.int x :: st) M Q := jn_W_eq (f := jn_iload_n 3) rfl rfl
set_option maxRecDepth 100000 in
theorem jn_w171_561 {d : Nat} {ls : jn_Lo} {st : List Value} {M : jn_M} {Q : Option Value → jn_M → Prop} : jn_W d 171 561 ls (st) M Q = jn_W d 171 562 ls (.int (nI 2) :: st) M Q := by rw [← jn_k_2]; exact jn_W_eq (f := jn_iconst 2) rfl rfl
set_option maxRecDepth 100000 in
theorem jn_w171_562 {d : Nat} {ls : jn_Lo} {x y : Int32} {st : List Value} {M : jn_M} {Q : Option Value → jn_M → Prop} : jn_W d 171 562 ls (.int y :: .int x :: st) M Q = jn_W d 171 563 ls (.int (x + y) :: st) M Q := jn_W_eq (f := jn_iadd) rfl rfl
set_option maxRecDepth 100000 in
theorem jn_w171_563 {d : Nat} {ls : jn_Lo} {a : Nat} {i : Int32} {st : List Value} {M : jn_M} {Q : Option Value → jn_M → Prop} : jn_W d 171 563 ls (.int i :: .ref a :: st) M Q = (jn_aiO (jn_rs M a) 0 i = true ∧ jn_W d 171 564 ls (.int (jn_aiV (jn_rs M a) i) :: st) M Q) := jn_W_eqc (f := jn_iaload) rfl jn_iaload_e
set_option maxRecDepth 100000 in
theorem jn_w171_564 {d : Nat} {ls : jn_Lo} {a0 : Nat} {a1 : Int32} {a2 : Int32} {k : Nat} {v : Option Value} {M1 : jn_M} {st : List Value} {M : jn_M} {Q : Option Value → jn_M → Prop} (h : jn_V 56 k [.ref a0, .int a1, .int a2] M v M1) (hk : 1 ≤ k ∧ k + 1 ≤ d) : jn_W d 171 564 ls (.int a2 :: .int a1 :: .ref a0 :: st) M Q = ((jn_sm 8 st = true ∧ jn_rc 8 M [.ref a0, .int a1, .int a2] = true) ∧ jn_W d 171 567 ls (v.toList ++ st) M1 Q) := jn_W_call (na := 3) rfl h hk rfl rfl (Nat.le_of_ble_eq_true rfl)
set_option maxRecDepth 100000 in
theorem jn_w171_567 {d : Nat} {l0 l1 l3 : Option Value} {x : Nat} {st : List Value} {M : jn_M} {Q : Option Value → jn_M → Prop} : jn_W d 171 567 [l0, l1, some (.ref x), l3] (st) M Q = jn_W d 171 568 [l0, l1, some (.ref x), l3] (.ref x :: st) M Q := jn_W_eq (f := jn_aload_n 2) rfl rfl
set_option maxRecDepth 100000 in
theorem jn_w171_567n {d : Nat} {l0 l1 l3 : Option Value} {st : List Value} {M : jn_M} {Q : Option Value → jn_M → Prop} : jn_W d 171 567 [l0, l1, some .null, l3] (st) M Q = jn_W d 171 568 [l0, l1, some .null, l3] (.null :: st) M Q := jn_W_eq (f := jn_aload_n 2) rfl rfl
set_option maxRecDepth 100000 in
theorem jn_w171_568 {d : Nat} {l1 l2 l3 : Option Value} {x : Nat} {st : List Value} {M : jn_M} {Q : Option Value → jn_M → Prop} : jn_W d 171 568 [some (.ref x), l1, l2, l3] (st) M Q = jn_W d 171 569 [some (.ref x), l1, l2, l3] (.ref x :: st) M Q := jn_W_eq (f := jn_aload_n 0) rfl rfl
set_option maxRecDepth 100000 in
theorem jn_w171_568n {d : Nat} {l1 l2 l3 : Option Value} {st : List Value} {M : jn_M} {Q : Option Value → jn_M → Prop} : jn_W d 171 568 [some .null, l1, l2, l3] (st) M Q = jn_W d 171 569 [some .null, l1, l2, l3] (.null :: st) M Q := jn_W_eq (f := jn_aload_n 0) rfl rfl
set_option maxRecDepth 100000 in
theorem jn_w171_569 {d : Nat} {l0 l1 l2 : Option Value} {x : Int32} {st : List Value} {M : jn_M} {Q : Option Value → jn_M → Prop} : jn_W d 171 569 [l0, l1, l2, some (.int x)] (st) M Q = jn_W d 171 570 [l0, l1, l2, some (.int x)] (.int x :: st) M Q := jn_W_eq (f := jn_iload_n 3) rfl rfl
set_option maxRecDepth 100000 in
theorem jn_w171_570 {d : Nat} {ls : jn_Lo} {st : List Value} {M : jn_M} {Q : Option Value → jn_M → Prop} : jn_W d 171 570 ls (st) M Q = jn_W d 171 571 ls (.int (nI 1) :: st) M Q := by rw [← jn_k_1]; exact jn_W_eq (f := jn_iconst 1) rfl rfl
set_option maxRecDepth 100000 in
theorem jn_w171_571 {d : Nat} {ls : jn_Lo} {x y : Int32} {st : List Value} {M : jn_M} {Q : Option Value → jn_M → Prop} : jn_W d 171 571 ls (.int y :: .int x :: st) M Q = jn_W d 171 572 ls (.int (x + y) :: st) M Q := jn_W_eq (f := jn_iadd) rfl rfl
set_option maxRecDepth 100000 in
theorem jn_w171_572 {d : Nat} {ls : jn_Lo} {a : Nat} {i : Int32} {st : List Value} {M : jn_M} {Q : Option Value → jn_M → Prop} : jn_W d 171 572 ls (.int i :: .ref a :: st) M Q = (jn_aiO (jn_rs M a) 0 i = true ∧ jn_W d 171 573 ls (.int (jn_aiV (jn_rs M a) i) :: st) M Q) := jn_W_eqc (f := jn_iaload) rfl jn_iaload_e
set_option maxRecDepth 100000 in
theorem jn_w171_573 {d : Nat} {l1 l2 l3 : Option Value} {x : Nat} {st : List Value} {M : jn_M} {Q : Option Value → jn_M → Prop} : jn_W d 171 573 [some (.ref x), l1, l2, l3] (st) M Q = jn_W d 171 574 [some (.ref x), l1, l2, l3] (.ref x :: st) M Q := jn_W_eq (f := jn_aload_n 0) rfl rfl
set_option maxRecDepth 100000 in
theorem jn_w171_573n {d : Nat} {l1 l2 l3 : Option Value} {st : List Value} {M : jn_M} {Q : Option Value → jn_M → Prop} : jn_W d 171 573 [some .null, l1, l2, l3] (st) M Q = jn_W d 171 574 [some .null, l1, l2, l3] (.null :: st) M Q := jn_W_eq (f := jn_aload_n 0) rfl rfl
set_option maxRecDepth 100000 in
theorem jn_w171_574 {d : Nat} {l0 l1 l2 : Option Value} {x : Int32} {st : List Value} {M : jn_M} {Q : Option Value → jn_M → Prop} : jn_W d 171 574 [l0, l1, l2, some (.int x)] (st) M Q = jn_W d 171 575 [l0, l1, l2, some (.int x)] (.int x :: st) M Q := jn_W_eq (f := jn_iload_n 3) rfl rfl
set_option maxRecDepth 100000 in
theorem jn_w171_575 {d : Nat} {ls : jn_Lo} {st : List Value} {M : jn_M} {Q : Option Value → jn_M → Prop} : jn_W d 171 575 ls (st) M Q = jn_W d 171 576 ls (.int (nI 2) :: st) M Q := by rw [← jn_k_2]; exact jn_W_eq (f := jn_iconst 2) rfl rfl
set_option maxRecDepth 100000 in
theorem jn_w171_576 {d : Nat} {ls : jn_Lo} {x y : Int32} {st : List Value} {M : jn_M} {Q : Option Value → jn_M → Prop} : jn_W d 171 576 ls (.int y :: .int x :: st) M Q = jn_W d 171 577 ls (.int (x + y) :: st) M Q := jn_W_eq (f := jn_iadd) rfl rfl
set_option maxRecDepth 100000 in
theorem jn_w171_577 {d : Nat} {ls : jn_Lo} {a : Nat} {i : Int32} {st : List Value} {M : jn_M} {Q : Option Value → jn_M → Prop} : jn_W d 171 577 ls (.int i :: .ref a :: st) M Q = (jn_aiO (jn_rs M a) 0 i = true ∧ jn_W d 171 578 ls (.int (jn_aiV (jn_rs M a) i) :: st) M Q) := jn_W_eqc (f := jn_iaload) rfl jn_iaload_e
set_option maxRecDepth 100000 in
theorem jn_w171_578 {d : Nat} {ls : jn_Lo} {a0 : Nat} {a1 : Int32} {a2 : Int32} {k : Nat} {v : Option Value} {M1 : jn_M} {st : List Value} {M : jn_M} {Q : Option Value → jn_M → Prop} (h : jn_V 123 k [.ref a0, .int a1, .int a2] M v M1) (hk : 1 ≤ k ∧ k + 1 ≤ d) : jn_W d 171 578 ls (.int a2 :: .int a1 :: .ref a0 :: st) M Q = ((jn_sm 8 st = true ∧ jn_rc 9 M [.ref a0, .int a1, .int a2] = true) ∧ jn_W d 171 581 ls (v.toList ++ st) M1 Q) := jn_W_call (na := 3) rfl h hk rfl rfl (Nat.le_of_ble_eq_true rfl)
set_option maxRecDepth 100000 in
theorem jn_w171_581 {d : Nat} {ls : jn_Lo} {x y : Int32} {st : List Value} {M : jn_M} {Q : Option Value → jn_M → Prop} : jn_W d 171 581 ls (.int y :: .int x :: st) M Q = if x = y then jn_W d 171 1252 ls (st) M Q else jn_W d 171 584 ls (st) M Q := jn_W_br (f := jn_iceq 1252) _ rfl rfl
set_option maxRecDepth 100000 in
theorem jn_w171_584 {d : Nat} {ls : jn_Lo} {st : List Value} {M : jn_M} {Q : Option Value → jn_M → Prop} : jn_W d 171 584 ls (st) M Q = jn_W d 171 585 ls (.int (nI 0) :: st) M Q := by rw [← jn_k_0]; exact jn_W_eq (f := jn_iconst 0) rfl rfl
set_option maxRecDepth 100000 in
theorem jn_w171_585 {d : Nat} {ls : jn_Lo} {v : Int32} {M : jn_M} {Q : Option Value → jn_M → Prop} : jn_W d 171 585 ls [.int v] M Q = (jn_zb v = true ∧ Q (some (.int v)) M) := jn_W_retc (k := 2) rfl jn_ret2_e
set_option maxRecDepth 100000 in
theorem jn_w171_586 {d : Nat} {l0 l2 l3 : Option Value} {x : Nat} {st : List Value} {M : jn_M} {Q : Option Value → jn_M → Prop} : jn_W d 171 586 [l0, some (.ref x), l2, l3] (st) M Q = jn_W d 171 587 [l0, some (.ref x), l2, l3] (.ref x :: st) M Q := jn_W_eq (f := jn_aload_n 1) rfl rfl
set_option maxRecDepth 100000 in
theorem jn_w171_586n {d : Nat} {l0 l2 l3 : Option Value} {st : List Value} {M : jn_M} {Q : Option Value → jn_M → Prop} : jn_W d 171 586 [l0, some .null, l2, l3] (st) M Q = jn_W d 171 587 [l0, some .null, l2, l3] (.null :: st) M Q := jn_W_eq (f := jn_aload_n 1) rfl rfl
set_option maxRecDepth 100000 in
theorem jn_w171_587 {d : Nat} {l1 l2 l3 : Option Value} {x : Nat} {st : List Value} {M : jn_M} {Q : Option Value → jn_M → Prop} : jn_W d 171 587 [some (.ref x), l1, l2, l3] (st) M Q = jn_W d 171 588 [some (.ref x), l1, l2, l3] (.ref x :: st) M Q := jn_W_eq (f := jn_aload_n 0) rfl rfl
set_option maxRecDepth 100000 in
theorem jn_w171_587n {d : Nat} {l1 l2 l3 : Option Value} {st : List Value} {M : jn_M} {Q : Option Value → jn_M → Prop} : jn_W d 171 587 [some .null, l1, l2, l3] (st) M Q = jn_W d 171 588 [some .null, l1, l2, l3] (.null :: st) M Q := jn_W_eq (f := jn_aload_n 0) rfl rfl
set_option maxRecDepth 100000 in
theorem jn_w171_588 {d : Nat} {l0 l1 l2 : Option Value} {x : Int32} {st : List Value} {M : jn_M} {Q : Option Value → jn_M → Prop} : jn_W d 171 588 [l0, l1, l2, some (.int x)] (st) M Q = jn_W d 171 589 [l0, l1, l2, some (.int x)] (.int x :: st) M Q := jn_W_eq (f := jn_iload_n 3) rfl rfl
set_option maxRecDepth 100000 in
theorem jn_w171_589 {d : Nat} {ls : jn_Lo} {st : List Value} {M : jn_M} {Q : Option Value → jn_M → Prop} : jn_W d 171 589 ls (st) M Q = jn_W d 171 590 ls (.int (nI 1) :: st) M Q := by rw [← jn_k_1]; exact jn_W_eq (f := jn_iconst 1) rfl rfl
set_option maxRecDepth 100000 in
theorem jn_w171_590 {d : Nat} {ls : jn_Lo} {x y : Int32} {st : List Value} {M : jn_M} {Q : Option Value → jn_M → Prop} : jn_W d 171 590 ls (.int y :: .int x :: st) M Q = jn_W d 171 591 ls (.int (x + y) :: st) M Q := jn_W_eq (f := jn_iadd) rfl rfl
set_option maxRecDepth 100000 in
theorem jn_w171_591 {d : Nat} {ls : jn_Lo} {a : Nat} {i : Int32} {st : List Value} {M : jn_M} {Q : Option Value → jn_M → Prop} : jn_W d 171 591 ls (.int i :: .ref a :: st) M Q = (jn_aiO (jn_rs M a) 0 i = true ∧ jn_W d 171 592 ls (.int (jn_aiV (jn_rs M a) i) :: st) M Q) := jn_W_eqc (f := jn_iaload) rfl jn_iaload_e
set_option maxRecDepth 100000 in
theorem jn_w171_592 {d : Nat} {ls : jn_Lo} {a0 : Nat} {a1 : Int32} {k : Nat} {v : Option Value} {M1 : jn_M} {st : List Value} {M : jn_M} {Q : Option Value → jn_M → Prop} (h : jn_V 57 k [.ref a0, .int a1] M v M1) (hk : 1 ≤ k ∧ k + 1 ≤ d) : jn_W d 171 592 ls (.int a1 :: .ref a0 :: st) M Q = ((jn_sm 8 st = true ∧ jn_rc 8 M [.ref a0, .int a1] = true) ∧ jn_W d 171 595 ls (v.toList ++ st) M1 Q) := jn_W_call (na := 2) rfl h hk rfl rfl (Nat.le_of_ble_eq_true rfl)
set_option maxRecDepth 100000 in
theorem jn_w171_595 {d : Nat} {l0 l1 l3 : Option Value} {x : Nat} {st : List Value} {M : jn_M} {Q : Option Value → jn_M → Prop} : jn_W d 171 595 [l0, l1, some (.ref x), l3] (st) M Q = jn_W d 171 596 [l0, l1, some (.ref x), l3] (.ref x :: st) M Q := jn_W_eq (f := jn_aload_n 2) rfl rfl
set_option maxRecDepth 100000 in
theorem jn_w171_595n {d : Nat} {l0 l1 l3 : Option Value} {st : List Value} {M : jn_M} {Q : Option Value → jn_M → Prop} : jn_W d 171 595 [l0, l1, some .null, l3] (st) M Q = jn_W d 171 596 [l0, l1, some .null, l3] (.null :: st) M Q := jn_W_eq (f := jn_aload_n 2) rfl rfl
set_option maxRecDepth 100000 in
theorem jn_w171_596 {d : Nat} {l1 l2 l3 : Option Value} {x : Nat} {st : List Value} {M : jn_M} {Q : Option Value → jn_M → Prop} : jn_W d 171 596 [some (.ref x), l1, l2, l3] (st) M Q = jn_W d 171 597 [some (.ref x), l1, l2, l3] (.ref x :: st) M Q := jn_W_eq (f := jn_aload_n 0) rfl rfl
set_option maxRecDepth 100000 in
theorem jn_w171_596n {d : Nat} {l1 l2 l3 : Option Value} {st : List Value} {M : jn_M} {Q : Option Value → jn_M → Prop} : jn_W d 171 596 [some .null, l1, l2, l3] (st) M Q = jn_W d 171 597 [some .null, l1, l2, l3] (.null :: st) M Q := jn_W_eq (f := jn_aload_n 0) rfl rfl
set_option maxRecDepth 100000 in
theorem jn_w171_597 {d : Nat} {l0 l1 l2 : Option Value} {x : Int32} {st : List Value} {M : jn_M} {Q : Option Value → jn_M → Prop} : jn_W d 171 597 [l0, l1, l2, some (.int x)] (st) M Q = jn_W d 171 598 [l0, l1, l2, some (.int x)] (.int x :: st) M Q := jn_W_eq (f := jn_iload_n 3) rfl rfl
set_option maxRecDepth 100000 in
theorem jn_w171_598 {d : Nat} {ls : jn_Lo} {st : List Value} {M : jn_M} {Q : Option Value → jn_M → Prop} : jn_W d 171 598 ls (st) M Q = jn_W d 171 599 ls (.int (nI 1) :: st) M Q := by rw [← jn_k_1]; exact jn_W_eq (f := jn_iconst 1) rfl rfl
set_option maxRecDepth 100000 in
theorem jn_w171_599 {d : Nat} {ls : jn_Lo} {x y : Int32} {st : List Value} {M : jn_M} {Q : Option Value → jn_M → Prop} : jn_W d 171 599 ls (.int y :: .int x :: st) M Q = jn_W d 171 600 ls (.int (x + y) :: st) M Q := jn_W_eq (f := jn_iadd) rfl rfl
set_option maxRecDepth 100000 in
theorem jn_w171_600 {d : Nat} {ls : jn_Lo} {a : Nat} {i : Int32} {st : List Value} {M : jn_M} {Q : Option Value → jn_M → Prop} : jn_W d 171 600 ls (.int i :: .ref a :: st) M Q = (jn_aiO (jn_rs M a) 0 i = true ∧ jn_W d 171 601 ls (.int (jn_aiV (jn_rs M a) i) :: st) M Q) := jn_W_eqc (f := jn_iaload) rfl jn_iaload_e
set_option maxRecDepth 100000 in
theorem jn_w171_601 {d : Nat} {ls : jn_Lo} {a0 : Nat} {a1 : Int32} {k : Nat} {v : Option Value} {M1 : jn_M} {st : List Value} {M : jn_M} {Q : Option Value → jn_M → Prop} (h : jn_V 125 k [.ref a0, .int a1] M v M1) (hk : 1 ≤ k ∧ k + 1 ≤ d) : jn_W d 171 601 ls (.int a1 :: .ref a0 :: st) M Q = ((jn_sm 8 st = true ∧ jn_rc 9 M [.ref a0, .int a1] = true) ∧ jn_W d 171 604 ls (v.toList ++ st) M1 Q) := jn_W_call (na := 2) rfl h hk rfl rfl (Nat.le_of_ble_eq_true rfl)
set_option maxRecDepth 100000 in
theorem jn_w171_604 {d : Nat} {ls : jn_Lo} {x y : Int32} {st : List Value} {M : jn_M} {Q : Option Value → jn_M → Prop} : jn_W d 171 604 ls (.int y :: .int x :: st) M Q = if x = y then jn_W d 171 1252 ls (st) M Q else jn_W d 171 607 ls (st) M Q := jn_W_br (f := jn_iceq 1252) _ rfl rfl
set_option maxRecDepth 100000 in
theorem jn_w171_607 {d : Nat} {ls : jn_Lo} {st : List Value} {M : jn_M} {Q : Option Value → jn_M → Prop} : jn_W d 171 607 ls (st) M Q = jn_W d 171 608 ls (.int (nI 0) :: st) M Q := by rw [← jn_k_0]; exact jn_W_eq (f := jn_iconst 0) rfl rfl
set_option maxRecDepth 100000 in
theorem jn_w171_608 {d : Nat} {ls : jn_Lo} {v : Int32} {M : jn_M} {Q : Option Value → jn_M → Prop} : jn_W d 171 608 ls [.int v] M Q = (jn_zb v = true ∧ Q (some (.int v)) M) := jn_W_retc (k := 2) rfl jn_ret2_e
set_option maxRecDepth 100000 in
theorem jn_w171_609 {d : Nat} {l0 l2 l3 : Option Value} {x : Nat} {st : List Value} {M : jn_M} {Q : Option Value → jn_M → Prop} : jn_W d 171 609 [l0, some (.ref x), l2, l3] (st) M Q = jn_W d 171 610 [l0, some (.ref x), l2, l3] (.ref x :: st) M Q := jn_W_eq (f := jn_aload_n 1) rfl rfl
set_option maxRecDepth 100000 in
theorem jn_w171_609n {d : Nat} {l0 l2 l3 : Option Value} {st : List Value} {M : jn_M} {Q : Option Value → jn_M → Prop} : jn_W d 171 609 [l0, some .null, l2, l3] (st) M Q = jn_W d 171 610 [l0, some .null, l2, l3] (.null :: st) M Q := jn_W_eq (f := jn_aload_n 1) rfl rfl
set_option maxRecDepth 100000 in
theorem jn_w171_610 {d : Nat} {l1 l2 l3 : Option Value} {x : Nat} {st : List Value} {M : jn_M} {Q : Option Value → jn_M → Prop} : jn_W d 171 610 [some (.ref x), l1, l2, l3] (st) M Q = jn_W d 171 611 [some (.ref x), l1, l2, l3] (.ref x :: st) M Q := jn_W_eq (f := jn_aload_n 0) rfl rfl
set_option maxRecDepth 100000 in
theorem jn_w171_610n {d : Nat} {l1 l2 l3 : Option Value} {st : List Value} {M : jn_M} {Q : Option Value → jn_M → Prop} : jn_W d 171 610 [some .null, l1, l2, l3] (st) M Q = jn_W d 171 611 [some .null, l1, l2, l3] (.null :: st) M Q := jn_W_eq (f := jn_aload_n 0) rfl rfl
set_option maxRecDepth 100000 in
theorem jn_w171_611 {d : Nat} {l0 l1 l2 : Option Value} {x : Int32} {st : List Value} {M : jn_M} {Q : Option Value → jn_M → Prop} : jn_W d 171 611 [l0, l1, l2, some (.int x)] (st) M Q = jn_W d 171 612 [l0, l1, l2, some (.int x)] (.int x :: st) M Q := jn_W_eq (f := jn_iload_n 3) rfl rfl
set_option maxRecDepth 100000 in
theorem jn_w171_612 {d : Nat} {ls : jn_Lo} {st : List Value} {M : jn_M} {Q : Option Value → jn_M → Prop} : jn_W d 171 612 ls (st) M Q = jn_W d 171 613 ls (.int (nI 1) :: st) M Q := by rw [← jn_k_1]; exact jn_W_eq (f := jn_iconst 1) rfl rfl
set_option maxRecDepth 100000 in
theorem jn_w171_613 {d : Nat} {ls : jn_Lo} {x y : Int32} {st : List Value} {M : jn_M} {Q : Option Value → jn_M → Prop} : jn_W d 171 613 ls (.int y :: .int x :: st) M Q = jn_W d 171 614 ls (.int (x + y) :: st) M Q := jn_W_eq (f := jn_iadd) rfl rfl
set_option maxRecDepth 100000 in
theorem jn_w171_614 {d : Nat} {ls : jn_Lo} {a : Nat} {i : Int32} {st : List Value} {M : jn_M} {Q : Option Value → jn_M → Prop} : jn_W d 171 614 ls (.int i :: .ref a :: st) M Q = (jn_aiO (jn_rs M a) 0 i = true ∧ jn_W d 171 615 ls (.int (jn_aiV (jn_rs M a) i) :: st) M Q) := jn_W_eqc (f := jn_iaload) rfl jn_iaload_e
set_option maxRecDepth 100000 in
theorem jn_w171_615 {d : Nat} {ls : jn_Lo} {a0 : Nat} {a1 : Int32} {k : Nat} {v : Option Value} {M1 : jn_M} {st : List Value} {M : jn_M} {Q : Option Value → jn_M → Prop} (h : jn_V 58 k [.ref a0, .int a1] M v M1) (hk : 1 ≤ k ∧ k + 1 ≤ d) : jn_W d 171 615 ls (.int a1 :: .ref a0 :: st) M Q = ((jn_sm 8 st = true ∧ jn_rc 8 M [.ref a0, .int a1] = true) ∧ jn_W d 171 618 ls (v.toList ++ st) M1 Q) := jn_W_call (na := 2) rfl h hk rfl rfl (Nat.le_of_ble_eq_true rfl)
set_option maxRecDepth 100000 in
theorem jn_w171_618 {d : Nat} {l0 l1 l3 : Option Value} {x : Nat} {st : List Value} {M : jn_M} {Q : Option Value → jn_M → Prop} : jn_W d 171 618 [l0, l1, some (.ref x), l3] (st) M Q = jn_W d 171 619 [l0, l1, some (.ref x), l3] (.ref x :: st) M Q := jn_W_eq (f := jn_aload_n 2) rfl rfl
set_option maxRecDepth 100000 in
theorem jn_w171_618n {d : Nat} {l0 l1 l3 : Option Value} {st : List Value} {M : jn_M} {Q : Option Value → jn_M → Prop} : jn_W d 171 618 [l0, l1, some .null, l3] (st) M Q = jn_W d 171 619 [l0, l1, some .null, l3] (.null :: st) M Q := jn_W_eq (f := jn_aload_n 2) rfl rfl
set_option maxRecDepth 100000 in
theorem jn_w171_619 {d : Nat} {l1 l2 l3 : Option Value} {x : Nat} {st : List Value} {M : jn_M} {Q : Option Value → jn_M → Prop} : jn_W d 171 619 [some (.ref x), l1, l2, l3] (st) M Q = jn_W d 171 620 [some (.ref x), l1, l2, l3] (.ref x :: st) M Q := jn_W_eq (f := jn_aload_n 0) rfl rfl
set_option maxRecDepth 100000 in
theorem jn_w171_619n {d : Nat} {l1 l2 l3 : Option Value} {st : List Value} {M : jn_M} {Q : Option Value → jn_M → Prop} : jn_W d 171 619 [some .null, l1, l2, l3] (st) M Q = jn_W d 171 620 [some .null, l1, l2, l3] (.null :: st) M Q := jn_W_eq (f := jn_aload_n 0) rfl rfl
set_option maxRecDepth 100000 in
theorem jn_w171_620 {d : Nat} {l0 l1 l2 : Option Value} {x : Int32} {st : List Value} {M : jn_M} {Q : Option Value → jn_M → Prop} : jn_W d 171 620 [l0, l1, l2, some (.int x)] (st) M Q = jn_W d 171 621 [l0, l1, l2, some (.int x)] (.int x :: st) M Q := jn_W_eq (f := jn_iload_n 3) rfl rfl
set_option maxRecDepth 100000 in
theorem jn_w171_621 {d : Nat} {ls : jn_Lo} {st : List Value} {M : jn_M} {Q : Option Value → jn_M → Prop} : jn_W d 171 621 ls (st) M Q = jn_W d 171 622 ls (.int (nI 1) :: st) M Q := by rw [← jn_k_1]; exact jn_W_eq (f := jn_iconst 1) rfl rfl
set_option maxRecDepth 100000 in
theorem jn_w171_622 {d : Nat} {ls : jn_Lo} {x y : Int32} {st : List Value} {M : jn_M} {Q : Option Value → jn_M → Prop} : jn_W d 171 622 ls (.int y :: .int x :: st) M Q = jn_W d 171 623 ls (.int (x + y) :: st) M Q := jn_W_eq (f := jn_iadd) rfl rfl
set_option maxRecDepth 100000 in
theorem jn_w171_623 {d : Nat} {ls : jn_Lo} {a : Nat} {i : Int32} {st : List Value} {M : jn_M} {Q : Option Value → jn_M → Prop} : jn_W d 171 623 ls (.int i :: .ref a :: st) M Q = (jn_aiO (jn_rs M a) 0 i = true ∧ jn_W d 171 624 ls (.int (jn_aiV (jn_rs M a) i) :: st) M Q) := jn_W_eqc (f := jn_iaload) rfl jn_iaload_e
set_option maxRecDepth 100000 in
theorem jn_w171_624 {d : Nat} {ls : jn_Lo} {a0 : Nat} {a1 : Int32} {k : Nat} {v : Option Value} {M1 : jn_M} {st : List Value} {M : jn_M} {Q : Option Value → jn_M → Prop} (h : jn_V 126 k [.ref a0, .int a1] M v M1) (hk : 1 ≤ k ∧ k + 1 ≤ d) : jn_W d 171 624 ls (.int a1 :: .ref a0 :: st) M Q = ((jn_sm 8 st = true ∧ jn_rc 9 M [.ref a0, .int a1] = true) ∧ jn_W d 171 627 ls (v.toList ++ st) M1 Q) := jn_W_call (na := 2) rfl h hk rfl rfl (Nat.le_of_ble_eq_true rfl)
set_option maxRecDepth 100000 in
theorem jn_w171_627 {d : Nat} {ls : jn_Lo} {x y : Int32} {st : List Value} {M : jn_M} {Q : Option Value → jn_M → Prop} : jn_W d 171 627 ls (.int y :: .int x :: st) M Q = if x = y then jn_W d 171 1252 ls (st) M Q else jn_W d 171 630 ls (st) M Q := jn_W_br (f := jn_iceq 1252) _ rfl rfl
set_option maxRecDepth 100000 in
theorem jn_w171_630 {d : Nat} {ls : jn_Lo} {st : List Value} {M : jn_M} {Q : Option Value → jn_M → Prop} : jn_W d 171 630 ls (st) M Q = jn_W d 171 631 ls (.int (nI 0) :: st) M Q := by rw [← jn_k_0]; exact jn_W_eq (f := jn_iconst 0) rfl rfl
set_option maxRecDepth 100000 in
theorem jn_w171_631 {d : Nat} {ls : jn_Lo} {v : Int32} {M : jn_M} {Q : Option Value → jn_M → Prop} : jn_W d 171 631 ls [.int v] M Q = (jn_zb v = true ∧ Q (some (.int v)) M) := jn_W_retc (k := 2) rfl jn_ret2_e
set_option maxRecDepth 100000 in
theorem jn_w171_632 {d : Nat} {l0 l2 l3 : Option Value} {x : Nat} {st : List Value} {M : jn_M} {Q : Option Value → jn_M → Prop} : jn_W d 171 632 [l0, some (.ref x), l2, l3] (st) M Q = jn_W d 171 633 [l0, some (.ref x), l2, l3] (.ref x :: st) M Q := jn_W_eq (f := jn_aload_n 1) rfl rfl
set_option maxRecDepth 100000 in
theorem jn_w171_632n {d : Nat} {l0 l2 l3 : Option Value} {st : List Value} {M : jn_M} {Q : Option Value → jn_M → Prop} : jn_W d 171 632 [l0, some .null, l2, l3] (st) M Q = jn_W d 171 633 [l0, some .null, l2, l3] (.null :: st) M Q := jn_W_eq (f := jn_aload_n 1) rfl rfl
set_option maxRecDepth 100000 in
theorem jn_w171_633 {d : Nat} {l1 l2 l3 : Option Value} {x : Nat} {st : List Value} {M : jn_M} {Q : Option Value → jn_M → Prop} : jn_W d 171 633 [some (.ref x), l1, l2, l3] (st) M Q = jn_W d 171 634 [some (.ref x), l1, l2, l3] (.ref x :: st) M Q := jn_W_eq (f := jn_aload_n 0) rfl rfl
set_option maxRecDepth 100000 in
theorem jn_w171_633n {d : Nat} {l1 l2 l3 : Option Value} {st : List Value} {M : jn_M} {Q : Option Value → jn_M → Prop} : jn_W d 171 633 [some .null, l1, l2, l3] (st) M Q = jn_W d 171 634 [some .null, l1, l2, l3] (.null :: st) M Q := jn_W_eq (f := jn_aload_n 0) rfl rfl
set_option maxRecDepth 100000 in
theorem jn_w171_634 {d : Nat} {l0 l1 l2 : Option Value} {x : Int32} {st : List Value} {M : jn_M} {Q : Option Value → jn_M → Prop} : jn_W d 171 634 [l0, l1, l2, some (.int x)] (st) M Q = jn_W d 171 635 [l0, l1, l2, some (.int x)] (.int x :: st) M Q := jn_W_eq (f := jn_iload_n 3) rfl rfl
set_option maxRecDepth 100000 in
theorem jn_w171_635 {d : Nat} {ls : jn_Lo} {st : List Value} {M : jn_M} {Q : Option Value → jn_M → Prop} : jn_W d 171 635 ls (st) M Q = jn_W d 171 636 ls (.int (nI 1) :: st) M Q := by rw [← jn_k_1]; exact jn_W_eq (f := jn_iconst 1) rfl rfl
set_option maxRecDepth 100000 in
theorem jn_w171_636 {d : Nat} {ls : jn_Lo} {x y : Int32} {st : List Value} {M : jn_M} {Q : Option Value → jn_M → Prop} : jn_W d 171 636 ls (.int y :: .int x :: st) M Q = jn_W d 171 637 ls (.int (x + y) :: st) M Q := jn_W_eq (f := jn_iadd) rfl rfl
set_option maxRecDepth 100000 in
theorem jn_w171_637 {d : Nat} {ls : jn_Lo} {a : Nat} {i : Int32} {st : List Value} {M : jn_M} {Q : Option Value → jn_M → Prop} : jn_W d 171 637 ls (.int i :: .ref a :: st) M Q = (jn_aiO (jn_rs M a) 0 i = true ∧ jn_W d 171 638 ls (.int (jn_aiV (jn_rs M a) i) :: st) M Q) := jn_W_eqc (f := jn_iaload) rfl jn_iaload_e
set_option maxRecDepth 100000 in
theorem jn_w171_638 {d : Nat} {l1 l2 l3 : Option Value} {x : Nat} {st : List Value} {M : jn_M} {Q : Option Value → jn_M → Prop} : jn_W d 171 638 [some (.ref x), l1, l2, l3] (st) M Q = jn_W d 171 639 [some (.ref x), l1, l2, l3] (.ref x :: st) M Q := jn_W_eq (f := jn_aload_n 0) rfl rfl
set_option maxRecDepth 100000 in
theorem jn_w171_638n {d : Nat} {l1 l2 l3 : Option Value} {st : List Value} {M : jn_M} {Q : Option Value → jn_M → Prop} : jn_W d 171 638 [some .null, l1, l2, l3] (st) M Q = jn_W d 171 639 [some .null, l1, l2, l3] (.null :: st) M Q := jn_W_eq (f := jn_aload_n 0) rfl rfl
set_option maxRecDepth 100000 in
theorem jn_w171_639 {d : Nat} {l0 l1 l2 : Option Value} {x : Int32} {st : List Value} {M : jn_M} {Q : Option Value → jn_M → Prop} : jn_W d 171 639 [l0, l1, l2, some (.int x)] (st) M Q = jn_W d 171 640 [l0, l1, l2, some (.int x)] (.int x :: st) M Q := jn_W_eq (f := jn_iload_n 3) rfl rfl
set_option maxRecDepth 100000 in
theorem jn_w171_640 {d : Nat} {ls : jn_Lo} {st : List Value} {M : jn_M} {Q : Option Value → jn_M → Prop} : jn_W d 171 640 ls (st) M Q = jn_W d 171 641 ls (.int (nI 2) :: st) M Q := by rw [← jn_k_2]; exact jn_W_eq (f := jn_iconst 2) rfl rfl
set_option maxRecDepth 100000 in
theorem jn_w171_641 {d : Nat} {ls : jn_Lo} {x y : Int32} {st : List Value} {M : jn_M} {Q : Option Value → jn_M → Prop} : jn_W d 171 641 ls (.int y :: .int x :: st) M Q = jn_W d 171 642 ls (.int (x + y) :: st) M Q := jn_W_eq (f := jn_iadd) rfl rfl
set_option maxRecDepth 100000 in
theorem jn_w171_642 {d : Nat} {ls : jn_Lo} {a : Nat} {i : Int32} {st : List Value} {M : jn_M} {Q : Option Value → jn_M → Prop} : jn_W d 171 642 ls (.int i :: .ref a :: st) M Q = (jn_aiO (jn_rs M a) 0 i = true ∧ jn_W d 171 643 ls (.int (jn_aiV (jn_rs M a) i) :: st) M Q) := jn_W_eqc (f := jn_iaload) rfl jn_iaload_e
set_option maxRecDepth 100000 in
theorem jn_w171_643 {d : Nat} {l1 l2 l3 : Option Value} {x : Nat} {st : List Value} {M : jn_M} {Q : Option Value → jn_M → Prop} : jn_W d 171 643 [some (.ref x), l1, l2, l3] (st) M Q = jn_W d 171 644 [some (.ref x), l1, l2, l3] (.ref x :: st) M Q := jn_W_eq (f := jn_aload_n 0) rfl rfl
set_option maxRecDepth 100000 in
theorem jn_w171_643n {d : Nat} {l1 l2 l3 : Option Value} {st : List Value} {M : jn_M} {Q : Option Value → jn_M → Prop} : jn_W d 171 643 [some .null, l1, l2, l3] (st) M Q = jn_W d 171 644 [some .null, l1, l2, l3] (.null :: st) M Q := jn_W_eq (f := jn_aload_n 0) rfl rfl
set_option maxRecDepth 100000 in
theorem jn_w171_644 {d : Nat} {l0 l1 l2 : Option Value} {x : Int32} {st : List Value} {M : jn_M} {Q : Option Value → jn_M → Prop} : jn_W d 171 644 [l0, l1, l2, some (.int x)] (st) M Q = jn_W d 171 645 [l0, l1, l2, some (.int x)] (.int x :: st) M Q := jn_W_eq (f := jn_iload_n 3) rfl rfl
set_option maxRecDepth 100000 in
theorem jn_w171_645 {d : Nat} {ls : jn_Lo} {st : List Value} {M : jn_M} {Q : Option Value → jn_M → Prop} : jn_W d 171 645 ls (st) M Q = jn_W d 171 646 ls (.int (nI 3) :: st) M Q := by rw [← jn_k_3]; exact jn_W_eq (f := jn_iconst 3) rfl rfl
set_option maxRecDepth 100000 in
theorem jn_w171_646 {d : Nat} {ls : jn_Lo} {x y : Int32} {st : List Value} {M : jn_M} {Q : Option Value → jn_M → Prop} : jn_W d 171 646 ls (.int y :: .int x :: st) M Q = jn_W d 171 647 ls (.int (x + y) :: st) M Q := jn_W_eq (f := jn_iadd) rfl rfl
set_option maxRecDepth 100000 in
theorem jn_w171_647 {d : Nat} {ls : jn_Lo} {a : Nat} {i : Int32} {st : List Value} {M : jn_M} {Q : Option Value → jn_M → Prop} : jn_W d 171 647 ls (.int i :: .ref a :: st) M Q = (jn_aiO (jn_rs M a) 0 i = true ∧ jn_W d 171 648 ls (.int (jn_aiV (jn_rs M a) i) :: st) M Q) := jn_W_eqc (f := jn_iaload) rfl jn_iaload_e
set_option maxRecDepth 100000 in
theorem jn_w171_648 {d : Nat} {ls : jn_Lo} {a0 : Nat} {a1 : Int32} {a2 : Int32} {a3 : Int32} {k : Nat} {v : Option Value} {M1 : jn_M} {st : List Value} {M : jn_M} {Q : Option Value → jn_M → Prop} (h : jn_V 59 k [.ref a0, .int a1, .int a2, .int a3] M v M1) (hk : 1 ≤ k ∧ k + 1 ≤ d) : jn_W d 171 648 ls (.int a3 :: .int a2 :: .int a1 :: .ref a0 :: st) M Q = ((jn_sm 8 st = true ∧ jn_rc 8 M [.ref a0, .int a1, .int a2, .int a3] = true) ∧ jn_W d 171 651 ls (v.toList ++ st) M1 Q) := jn_W_call (na := 4) rfl h hk rfl rfl (Nat.le_of_ble_eq_true rfl)
set_option maxRecDepth 100000 in
theorem jn_w171_651 {d : Nat} {l0 l1 l3 : Option Value} {x : Nat} {st : List Value} {M : jn_M} {Q : Option Value → jn_M → Prop} : jn_W d 171 651 [l0, l1, some (.ref x), l3] (st) M Q = jn_W d 171 652 [l0, l1, some (.ref x), l3] (.ref x :: st) M Q := jn_W_eq (f := jn_aload_n 2) rfl rfl
set_option maxRecDepth 100000 in
theorem jn_w171_651n {d : Nat} {l0 l1 l3 : Option Value} {st : List Value} {M : jn_M} {Q : Option Value → jn_M → Prop} : jn_W d 171 651 [l0, l1, some .null, l3] (st) M Q = jn_W d 171 652 [l0, l1, some .null, l3] (.null :: st) M Q := jn_W_eq (f := jn_aload_n 2) rfl rfl
set_option maxRecDepth 100000 in
theorem jn_w171_652 {d : Nat} {l1 l2 l3 : Option Value} {x : Nat} {st : List Value} {M : jn_M} {Q : Option Value → jn_M → Prop} : jn_W d 171 652 [some (.ref x), l1, l2, l3] (st) M Q = jn_W d 171 653 [some (.ref x), l1, l2, l3] (.ref x :: st) M Q := jn_W_eq (f := jn_aload_n 0) rfl rfl
set_option maxRecDepth 100000 in
theorem jn_w171_652n {d : Nat} {l1 l2 l3 : Option Value} {st : List Value} {M : jn_M} {Q : Option Value → jn_M → Prop} : jn_W d 171 652 [some .null, l1, l2, l3] (st) M Q = jn_W d 171 653 [some .null, l1, l2, l3] (.null :: st) M Q := jn_W_eq (f := jn_aload_n 0) rfl rfl
set_option maxRecDepth 100000 in
theorem jn_w171_653 {d : Nat} {l0 l1 l2 : Option Value} {x : Int32} {st : List Value} {M : jn_M} {Q : Option Value → jn_M → Prop} : jn_W d 171 653 [l0, l1, l2, some (.int x)] (st) M Q = jn_W d 171 654 [l0, l1, l2, some (.int x)] (.int x :: st) M Q := jn_W_eq (f := jn_iload_n 3) rfl rfl
set_option maxRecDepth 100000 in
theorem jn_w171_654 {d : Nat} {ls : jn_Lo} {st : List Value} {M : jn_M} {Q : Option Value → jn_M → Prop} : jn_W d 171 654 ls (st) M Q = jn_W d 171 655 ls (.int (nI 1) :: st) M Q := by rw [← jn_k_1]; exact jn_W_eq (f := jn_iconst 1) rfl rfl
set_option maxRecDepth 100000 in
theorem jn_w171_655 {d : Nat} {ls : jn_Lo} {x y : Int32} {st : List Value} {M : jn_M} {Q : Option Value → jn_M → Prop} : jn_W d 171 655 ls (.int y :: .int x :: st) M Q = jn_W d 171 656 ls (.int (x + y) :: st) M Q := jn_W_eq (f := jn_iadd) rfl rfl
set_option maxRecDepth 100000 in
theorem jn_w171_656 {d : Nat} {ls : jn_Lo} {a : Nat} {i : Int32} {st : List Value} {M : jn_M} {Q : Option Value → jn_M → Prop} : jn_W d 171 656 ls (.int i :: .ref a :: st) M Q = (jn_aiO (jn_rs M a) 0 i = true ∧ jn_W d 171 657 ls (.int (jn_aiV (jn_rs M a) i) :: st) M Q) := jn_W_eqc (f := jn_iaload) rfl jn_iaload_e
set_option maxRecDepth 100000 in
theorem jn_w171_657 {d : Nat} {l1 l2 l3 : Option Value} {x : Nat} {st : List Value} {M : jn_M} {Q : Option Value → jn_M → Prop} : jn_W d 171 657 [some (.ref x), l1, l2, l3] (st) M Q = jn_W d 171 658 [some (.ref x), l1, l2, l3] (.ref x :: st) M Q := jn_W_eq (f := jn_aload_n 0) rfl rfl
set_option maxRecDepth 100000 in
theorem jn_w171_657n {d : Nat} {l1 l2 l3 : Option Value} {st : List Value} {M : jn_M} {Q : Option Value → jn_M → Prop} : jn_W d 171 657 [some .null, l1, l2, l3] (st) M Q = jn_W d 171 658 [some .null, l1, l2, l3] (.null :: st) M Q := jn_W_eq (f := jn_aload_n 0) rfl rfl
set_option maxRecDepth 100000 in
theorem jn_w171_658 {d : Nat} {l0 l1 l2 : Option Value} {x : Int32} {st : List Value} {M : jn_M} {Q : Option Value → jn_M → Prop} : jn_W d 171 658 [l0, l1, l2, some (.int x)] (st) M Q = jn_W d 171 659 [l0, l1, l2, some (.int x)] (.int x :: st) M Q := jn_W_eq (f := jn_iload_n 3) rfl rfl
set_option maxRecDepth 100000 in
theorem jn_w171_659 {d : Nat} {ls : jn_Lo} {st : List Value} {M : jn_M} {Q : Option Value → jn_M → Prop} : jn_W d 171 659 ls (st) M Q = jn_W d 171 660 ls (.int (nI 2) :: st) M Q := by rw [← jn_k_2]; exact jn_W_eq (f := jn_iconst 2) rfl rfl
set_option maxRecDepth 100000 in
theorem jn_w171_660 {d : Nat} {ls : jn_Lo} {x y : Int32} {st : List Value} {M : jn_M} {Q : Option Value → jn_M → Prop} : jn_W d 171 660 ls (.int y :: .int x :: st) M Q = jn_W d 171 661 ls (.int (x + y) :: st) M Q := jn_W_eq (f := jn_iadd) rfl rfl
set_option maxRecDepth 100000 in
theorem jn_w171_661 {d : Nat} {ls : jn_Lo} {a : Nat} {i : Int32} {st : List Value} {M : jn_M} {Q : Option Value → jn_M → Prop} : jn_W d 171 661 ls (.int i :: .ref a :: st) M Q = (jn_aiO (jn_rs M a) 0 i = true ∧ jn_W d 171 662 ls (.int (jn_aiV (jn_rs M a) i) :: st) M Q) := jn_W_eqc (f := jn_iaload) rfl jn_iaload_e
set_option maxRecDepth 100000 in
theorem jn_w171_662 {d : Nat} {l1 l2 l3 : Option Value} {x : Nat} {st : List Value} {M : jn_M} {Q : Option Value → jn_M → Prop} : jn_W d 171 662 [some (.ref x), l1, l2, l3] (st) M Q = jn_W d 171 663 [some (.ref x), l1, l2, l3] (.ref x :: st) M Q := jn_W_eq (f := jn_aload_n 0) rfl rfl
set_option maxRecDepth 100000 in
theorem jn_w171_662n {d : Nat} {l1 l2 l3 : Option Value} {st : List Value} {M : jn_M} {Q : Option Value → jn_M → Prop} : jn_W d 171 662 [some .null, l1, l2, l3] (st) M Q = jn_W d 171 663 [some .null, l1, l2, l3] (.null :: st) M Q := jn_W_eq (f := jn_aload_n 0) rfl rfl
set_option maxRecDepth 100000 in
theorem jn_w171_663 {d : Nat} {l0 l1 l2 : Option Value} {x : Int32} {st : List Value} {M : jn_M} {Q : Option Value → jn_M → Prop} : jn_W d 171 663 [l0, l1, l2, some (.int x)] (st) M Q = jn_W d 171 664 [l0, l1, l2, some (.int x)] (.int x :: st) M Q := jn_W_eq (f := jn_iload_n 3) rfl rfl
set_option maxRecDepth 100000 in
theorem jn_w171_664 {d : Nat} {ls : jn_Lo} {st : List Value} {M : jn_M} {Q : Option Value → jn_M → Prop} : jn_W d 171 664 ls (st) M Q = jn_W d 171 665 ls (.int (nI 3) :: st) M Q := by rw [← jn_k_3]; exact jn_W_eq (f := jn_iconst 3) rfl rfl
set_option maxRecDepth 100000 in
theorem jn_w171_665 {d : Nat} {ls : jn_Lo} {x y : Int32} {st : List Value} {M : jn_M} {Q : Option Value → jn_M → Prop} : jn_W d 171 665 ls (.int y :: .int x :: st) M Q = jn_W d 171 666 ls (.int (x + y) :: st) M Q := jn_W_eq (f := jn_iadd) rfl rfl
set_option maxRecDepth 100000 in
theorem jn_w171_666 {d : Nat} {ls : jn_Lo} {a : Nat} {i : Int32} {st : List Value} {M : jn_M} {Q : Option Value → jn_M → Prop} : jn_W d 171 666 ls (.int i :: .ref a :: st) M Q = (jn_aiO (jn_rs M a) 0 i = true ∧ jn_W d 171 667 ls (.int (jn_aiV (jn_rs M a) i) :: st) M Q) := jn_W_eqc (f := jn_iaload) rfl jn_iaload_e
set_option maxRecDepth 100000 in
theorem jn_w171_667 {d : Nat} {ls : jn_Lo} {a0 : Nat} {a1 : Int32} {a2 : Int32} {a3 : Int32} {k : Nat} {v : Option Value} {M1 : jn_M} {st : List Value} {M : jn_M} {Q : Option Value → jn_M → Prop} (h : jn_V 130 k [.ref a0, .int a1, .int a2, .int a3] M v M1) (hk : 1 ≤ k ∧ k + 1 ≤ d) : jn_W d 171 667 ls (.int a3 :: .int a2 :: .int a1 :: .ref a0 :: st) M Q = ((jn_sm 8 st = true ∧ jn_rc 9 M [.ref a0, .int a1, .int a2, .int a3] = true) ∧ jn_W d 171 670 ls (v.toList ++ st) M1 Q) := jn_W_call (na := 4) rfl h hk rfl rfl (Nat.le_of_ble_eq_true rfl)
set_option maxRecDepth 100000 in
theorem jn_w171_670 {d : Nat} {ls : jn_Lo} {x y : Int32} {st : List Value} {M : jn_M} {Q : Option Value → jn_M → Prop} : jn_W d 171 670 ls (.int y :: .int x :: st) M Q = if x = y then jn_W d 171 1252 ls (st) M Q else jn_W d 171 673 ls (st) M Q := jn_W_br (f := jn_iceq 1252) _ rfl rfl
set_option maxRecDepth 100000 in
theorem jn_w171_673 {d : Nat} {ls : jn_Lo} {st : List Value} {M : jn_M} {Q : Option Value → jn_M → Prop} : jn_W d 171 673 ls (st) M Q = jn_W d 171 674 ls (.int (nI 0) :: st) M Q := by rw [← jn_k_0]; exact jn_W_eq (f := jn_iconst 0) rfl rfl
set_option maxRecDepth 100000 in
theorem jn_w171_674 {d : Nat} {ls : jn_Lo} {v : Int32} {M : jn_M} {Q : Option Value → jn_M → Prop} : jn_W d 171 674 ls [.int v] M Q = (jn_zb v = true ∧ Q (some (.int v)) M) := jn_W_retc (k := 2) rfl jn_ret2_e
set_option maxRecDepth 100000 in
theorem jn_w171_675 {d : Nat} {l0 l2 l3 : Option Value} {x : Nat} {st : List Value} {M : jn_M} {Q : Option Value → jn_M → Prop} : jn_W d 171 675 [l0, some (.ref x), l2, l3] (st) M Q = jn_W d 171 676 [l0, some (.ref x), l2, l3] (.ref x :: st) M Q := jn_W_eq (f := jn_aload_n 1) rfl rfl
set_option maxRecDepth 100000 in
theorem jn_w171_675n {d : Nat} {l0 l2 l3 : Option Value} {st : List Value} {M : jn_M} {Q : Option Value → jn_M → Prop} : jn_W d 171 675 [l0, some .null, l2, l3] (st) M Q = jn_W d 171 676 [l0, some .null, l2, l3] (.null :: st) M Q := jn_W_eq (f := jn_aload_n 1) rfl rfl
set_option maxRecDepth 100000 in
theorem jn_w171_676 {d : Nat} {l1 l2 l3 : Option Value} {x : Nat} {st : List Value} {M : jn_M} {Q : Option Value → jn_M → Prop} : jn_W d 171 676 [some (.ref x), l1, l2, l3] (st) M Q = jn_W d 171 677 [some (.ref x), l1, l2, l3] (.ref x :: st) M Q := jn_W_eq (f := jn_aload_n 0) rfl rfl
set_option maxRecDepth 100000 in
theorem jn_w171_676n {d : Nat} {l1 l2 l3 : Option Value} {st : List Value} {M : jn_M} {Q : Option Value → jn_M → Prop} : jn_W d 171 676 [some .null, l1, l2, l3] (st) M Q = jn_W d 171 677 [some .null, l1, l2, l3] (.null :: st) M Q := jn_W_eq (f := jn_aload_n 0) rfl rfl
set_option maxRecDepth 100000 in
theorem jn_w171_677 {d : Nat} {l0 l1 l2 : Option Value} {x : Int32} {st : List Value} {M : jn_M} {Q : Option Value → jn_M → Prop} : jn_W d 171 677 [l0, l1, l2, some (.int x)] (st) M Q = jn_W d 171 678 [l0, l1, l2, some (.int x)] (.int x :: st) M Q := jn_W_eq (f := jn_iload_n 3) rfl rfl
set_option maxRecDepth 100000 in
theorem jn_w171_678 {d : Nat} {ls : jn_Lo} {st : List Value} {M : jn_M} {Q : Option Value → jn_M → Prop} : jn_W d 171 678 ls (st) M Q = jn_W d 171 679 ls (.int (nI 1) :: st) M Q := by rw [← jn_k_1]; exact jn_W_eq (f := jn_iconst 1) rfl rfl
set_option maxRecDepth 100000 in
theorem jn_w171_679 {d : Nat} {ls : jn_Lo} {x y : Int32} {st : List Value} {M : jn_M} {Q : Option Value → jn_M → Prop} : jn_W d 171 679 ls (.int y :: .int x :: st) M Q = jn_W d 171 680 ls (.int (x + y) :: st) M Q := jn_W_eq (f := jn_iadd) rfl rfl
set_option maxRecDepth 100000 in
theorem jn_w171_680 {d : Nat} {ls : jn_Lo} {a : Nat} {i : Int32} {st : List Value} {M : jn_M} {Q : Option Value → jn_M → Prop} : jn_W d 171 680 ls (.int i :: .ref a :: st) M Q = (jn_aiO (jn_rs M a) 0 i = true ∧ jn_W d 171 681 ls (.int (jn_aiV (jn_rs M a) i) :: st) M Q) := jn_W_eqc (f := jn_iaload) rfl jn_iaload_e
set_option maxRecDepth 100000 in
theorem jn_w171_681 {d : Nat} {l1 l2 l3 : Option Value} {x : Nat} {st : List Value} {M : jn_M} {Q : Option Value → jn_M → Prop} : jn_W d 171 681 [some (.ref x), l1, l2, l3] (st) M Q = jn_W d 171 682 [some (.ref x), l1, l2, l3] (.ref x :: st) M Q := jn_W_eq (f := jn_aload_n 0) rfl rfl
set_option maxRecDepth 100000 in
theorem jn_w171_681n {d : Nat} {l1 l2 l3 : Option Value} {st : List Value} {M : jn_M} {Q : Option Value → jn_M → Prop} : jn_W d 171 681 [some .null, l1, l2, l3] (st) M Q = jn_W d 171 682 [some .null, l1, l2, l3] (.null :: st) M Q := jn_W_eq (f := jn_aload_n 0) rfl rfl
set_option maxRecDepth 100000 in
theorem jn_w171_682 {d : Nat} {l0 l1 l2 : Option Value} {x : Int32} {st : List Value} {M : jn_M} {Q : Option Value → jn_M → Prop} : jn_W d 171 682 [l0, l1, l2, some (.int x)] (st) M Q = jn_W d 171 683 [l0, l1, l2, some (.int x)] (.int x :: st) M Q := jn_W_eq (f := jn_iload_n 3) rfl rfl
set_option maxRecDepth 100000 in
theorem jn_w171_683 {d : Nat} {ls : jn_Lo} {st : List Value} {M : jn_M} {Q : Option Value → jn_M → Prop} : jn_W d 171 683 ls (st) M Q = jn_W d 171 684 ls (.int (nI 2) :: st) M Q := by rw [← jn_k_2]; exact jn_W_eq (f := jn_iconst 2) rfl rfl
set_option maxRecDepth 100000 in
theorem jn_w171_684 {d : Nat} {ls : jn_Lo} {x y : Int32} {st : List Value} {M : jn_M} {Q : Option Value → jn_M → Prop} : jn_W d 171 684 ls (.int y :: .int x :: st) M Q = jn_W d 171 685 ls (.int (x + y) :: st) M Q := jn_W_eq (f := jn_iadd) rfl rfl
set_option maxRecDepth 100000 in
theorem jn_w171_685 {d : Nat} {ls : jn_Lo} {a : Nat} {i : Int32} {st : List Value} {M : jn_M} {Q : Option Value → jn_M → Prop} : jn_W d 171 685 ls (.int i :: .ref a :: st) M Q = (jn_aiO (jn_rs M a) 0 i = true ∧ jn_W d 171 686 ls (.int (jn_aiV (jn_rs M a) i) :: st) M Q) := jn_W_eqc (f := jn_iaload) rfl jn_iaload_e
set_option maxRecDepth 100000 in
theorem jn_w171_686 {d : Nat} {ls : jn_Lo} {a0 : Nat} {a1 : Int32} {a2 : Int32} {k : Nat} {v : Option Value} {M1 : jn_M} {st : List Value} {M : jn_M} {Q : Option Value → jn_M → Prop} (h : jn_V 60 k [.ref a0, .int a1, .int a2] M v M1) (hk : 1 ≤ k ∧ k + 1 ≤ d) : jn_W d 171 686 ls (.int a2 :: .int a1 :: .ref a0 :: st) M Q = ((jn_sm 8 st = true ∧ jn_rc 8 M [.ref a0, .int a1, .int a2] = true) ∧ jn_W d 171 689 ls (v.toList ++ st) M1 Q) := jn_W_call (na := 3) rfl h hk rfl rfl (Nat.le_of_ble_eq_true rfl)
set_option maxRecDepth 100000 in
theorem jn_w171_689 {d : Nat} {l0 l1 l3 : Option Value} {x : Nat} {st : List Value} {M : jn_M} {Q : Option Value → jn_M → Prop} : jn_W d 171 689 [l0, l1, some (.ref x), l3] (st) M Q = jn_W d 171 690 [l0, l1, some (.ref x), l3] (.ref x :: st) M Q := jn_W_eq (f := jn_aload_n 2) rfl rfl
set_option maxRecDepth 100000 in
theorem jn_w171_689n {d : Nat} {l0 l1 l3 : Option Value} {st : List Value} {M : jn_M} {Q : Option Value → jn_M → Prop} : jn_W d 171 689 [l0, l1, some .null, l3] (st) M Q = jn_W d 171 690 [l0, l1, some .null, l3] (.null :: st) M Q := jn_W_eq (f := jn_aload_n 2) rfl rfl
set_option maxRecDepth 100000 in
theorem jn_w171_690 {d : Nat} {l1 l2 l3 : Option Value} {x : Nat} {st : List Value} {M : jn_M} {Q : Option Value → jn_M → Prop} : jn_W d 171 690 [some (.ref x), l1, l2, l3] (st) M Q = jn_W d 171 691 [some (.ref x), l1, l2, l3] (.ref x :: st) M Q := jn_W_eq (f := jn_aload_n 0) rfl rfl
set_option maxRecDepth 100000 in
theorem jn_w171_690n {d : Nat} {l1 l2 l3 : Option Value} {st : List Value} {M : jn_M} {Q : Option Value → jn_M → Prop} : jn_W d 171 690 [some .null, l1, l2, l3] (st) M Q = jn_W d 171 691 [some .null, l1, l2, l3] (.null :: st) M Q := jn_W_eq (f := jn_aload_n 0) rfl rfl
set_option maxRecDepth 100000 in
theorem jn_w171_691 {d : Nat} {l0 l1 l2 : Option Value} {x : Int32} {st : List Value} {M : jn_M} {Q : Option Value → jn_M → Prop} : jn_W d 171 691 [l0, l1, l2, some (.int x)] (st) M Q = jn_W d 171 692 [l0, l1, l2, some (.int x)] (.int x :: st) M Q := jn_W_eq (f := jn_iload_n 3) rfl rfl
set_option maxRecDepth 100000 in
theorem jn_w171_692 {d : Nat} {ls : jn_Lo} {st : List Value} {M : jn_M} {Q : Option Value → jn_M → Prop} : jn_W d 171 692 ls (st) M Q = jn_W d 171 693 ls (.int (nI 1) :: st) M Q := by rw [← jn_k_1]; exact jn_W_eq (f := jn_iconst 1) rfl rfl
set_option maxRecDepth 100000 in
theorem jn_w171_693 {d : Nat} {ls : jn_Lo} {x y : Int32} {st : List Value} {M : jn_M} {Q : Option Value → jn_M → Prop} : jn_W d 171 693 ls (.int y :: .int x :: st) M Q = jn_W d 171 694 ls (.int (x + y) :: st) M Q := jn_W_eq (f := jn_iadd) rfl rfl
set_option maxRecDepth 100000 in
theorem jn_w171_694 {d : Nat} {ls : jn_Lo} {a : Nat} {i : Int32} {st : List Value} {M : jn_M} {Q : Option Value → jn_M → Prop} : jn_W d 171 694 ls (.int i :: .ref a :: st) M Q = (jn_aiO (jn_rs M a) 0 i = true ∧ jn_W d 171 695 ls (.int (jn_aiV (jn_rs M a) i) :: st) M Q) := jn_W_eqc (f := jn_iaload) rfl jn_iaload_e
set_option maxRecDepth 100000 in
theorem jn_w171_695 {d : Nat} {l1 l2 l3 : Option Value} {x : Nat} {st : List Value} {M : jn_M} {Q : Option Value → jn_M → Prop} : jn_W d 171 695 [some (.ref x), l1, l2, l3] (st) M Q = jn_W d 171 696 [some (.ref x), l1, l2, l3] (.ref x :: st) M Q := jn_W_eq (f := jn_aload_n 0) rfl rfl
set_option maxRecDepth 100000 in
theorem jn_w171_695n {d : Nat} {l1 l2 l3 : Option Value} {st : List Value} {M : jn_M} {Q : Option Value → jn_M → Prop} : jn_W d 171 695 [some .null, l1, l2, l3] (st) M Q = jn_W d 171 696 [some .null, l1, l2, l3] (.null :: st) M Q := jn_W_eq (f := jn_aload_n 0) rfl rfl
set_option maxRecDepth 100000 in
theorem jn_w171_696 {d : Nat} {l0 l1 l2 : Option Value} {x : Int32} {st : List Value} {M : jn_M} {Q : Option Value → jn_M → Prop} : jn_W d 171 696 [l0, l1, l2, some (.int x)] (st) M Q = jn_W d 171 697 [l0, l1, l2, some (.int x)] (.int x :: st) M Q := jn_W_eq (f := jn_iload_n 3) rfl rfl
set_option maxRecDepth 100000 in
theorem jn_w171_697 {d : Nat} {ls : jn_Lo} {st : List Value} {M : jn_M} {Q : Option Value → jn_M → Prop} : jn_W d 171 697 ls (st) M Q = jn_W d 171 698 ls (.int (nI 2) :: st) M Q := by rw [← jn_k_2]; exact jn_W_eq (f := jn_iconst 2) rfl rfl
set_option maxRecDepth 100000 in
theorem jn_w171_698 {d : Nat} {ls : jn_Lo} {x y : Int32} {st : List Value} {M : jn_M} {Q : Option Value → jn_M → Prop} : jn_W d 171 698 ls (.int y :: .int x :: st) M Q = jn_W d 171 699 ls (.int (x + y) :: st) M Q := jn_W_eq (f := jn_iadd) rfl rfl
set_option maxRecDepth 100000 in
theorem jn_w171_699 {d : Nat} {ls : jn_Lo} {a : Nat} {i : Int32} {st : List Value} {M : jn_M} {Q : Option Value → jn_M → Prop} : jn_W d 171 699 ls (.int i :: .ref a :: st) M Q = (jn_aiO (jn_rs M a) 0 i = true ∧ jn_W d 171 700 ls (.int (jn_aiV (jn_rs M a) i) :: st) M Q) := jn_W_eqc (f := jn_iaload) rfl jn_iaload_e
set_option maxRecDepth 100000 in
theorem jn_w171_700 {d : Nat} {ls : jn_Lo} {a0 : Nat} {a1 : Int32} {a2 : Int32} {k : Nat} {v : Option Value} {M1 : jn_M} {st : List Value} {M : jn_M} {Q : Option Value → jn_M → Prop} (h : jn_V 131 k [.ref a0, .int a1, .int a2] M v M1) (hk : 1 ≤ k ∧ k + 1 ≤ d) : jn_W d 171 700 ls (.int a2 :: .int a1 :: .ref a0 :: st) M Q = ((jn_sm 8 st = true ∧ jn_rc 9 M [.ref a0, .int a1, .int a2] = true) ∧ jn_W d 171 703 ls (v.toList ++ st) M1 Q) := jn_W_call (na := 3) rfl h hk rfl rfl (Nat.le_of_ble_eq_true rfl)
set_option maxRecDepth 100000 in
theorem jn_w171_703 {d : Nat} {ls : jn_Lo} {x y : Int32} {st : List Value} {M : jn_M} {Q : Option Value → jn_M → Prop} : jn_W d 171 703 ls (.int y :: .int x :: st) M Q = if x = y then jn_W d 171 1252 ls (st) M Q else jn_W d 171 706 ls (st) M Q := jn_W_br (f := jn_iceq 1252) _ rfl rfl
set_option maxRecDepth 100000 in
theorem jn_w171_706 {d : Nat} {ls : jn_Lo} {st : List Value} {M : jn_M} {Q : Option Value → jn_M → Prop} : jn_W d 171 706 ls (st) M Q = jn_W d 171 707 ls (.int (nI 0) :: st) M Q := by rw [← jn_k_0]; exact jn_W_eq (f := jn_iconst 0) rfl rfl
set_option maxRecDepth 100000 in
theorem jn_w171_707 {d : Nat} {ls : jn_Lo} {v : Int32} {M : jn_M} {Q : Option Value → jn_M → Prop} : jn_W d 171 707 ls [.int v] M Q = (jn_zb v = true ∧ Q (some (.int v)) M) := jn_W_retc (k := 2) rfl jn_ret2_e
set_option maxRecDepth 100000 in
theorem jn_w171_708 {d : Nat} {l0 l2 l3 : Option Value} {x : Nat} {st : List Value} {M : jn_M} {Q : Option Value → jn_M → Prop} : jn_W d 171 708 [l0, some (.ref x), l2, l3] (st) M Q = jn_W d 171 709 [l0, some (.ref x), l2, l3] (.ref x :: st) M Q := jn_W_eq (f := jn_aload_n 1) rfl rfl
set_option maxRecDepth 100000 in
theorem jn_w171_708n {d : Nat} {l0 l2 l3 : Option Value} {st : List Value} {M : jn_M} {Q : Option Value → jn_M → Prop} : jn_W d 171 708 [l0, some .null, l2, l3] (st) M Q = jn_W d 171 709 [l0, some .null, l2, l3] (.null :: st) M Q := jn_W_eq (f := jn_aload_n 1) rfl rfl
set_option maxRecDepth 100000 in
theorem jn_w171_709 {d : Nat} {l1 l2 l3 : Option Value} {x : Nat} {st : List Value} {M : jn_M} {Q : Option Value → jn_M → Prop} : jn_W d 171 709 [some (.ref x), l1, l2, l3] (st) M Q = jn_W d 171 710 [some (.ref x), l1, l2, l3] (.ref x :: st) M Q := jn_W_eq (f := jn_aload_n 0) rfl rfl
set_option maxRecDepth 100000 in
theorem jn_w171_709n {d : Nat} {l1 l2 l3 : Option Value} {st : List Value} {M : jn_M} {Q : Option Value → jn_M → Prop} : jn_W d 171 709 [some .null, l1, l2, l3] (st) M Q = jn_W d 171 710 [some .null, l1, l2, l3] (.null :: st) M Q := jn_W_eq (f := jn_aload_n 0) rfl rfl
set_option maxRecDepth 100000 in
theorem jn_w171_710 {d : Nat} {l0 l1 l2 : Option Value} {x : Int32} {st : List Value} {M : jn_M} {Q : Option Value → jn_M → Prop} : jn_W d 171 710 [l0, l1, l2, some (.int x)] (st) M Q = jn_W d 171 711 [l0, l1, l2, some (.int x)] (.int x :: st) M Q := jn_W_eq (f := jn_iload_n 3) rfl rfl
set_option maxRecDepth 100000 in
theorem jn_w171_711 {d : Nat} {ls : jn_Lo} {st : List Value} {M : jn_M} {Q : Option Value → jn_M → Prop} : jn_W d 171 711 ls (st) M Q = jn_W d 171 712 ls (.int (nI 1) :: st) M Q := by rw [← jn_k_1]; exact jn_W_eq (f := jn_iconst 1) rfl rfl
set_option maxRecDepth 100000 in
theorem jn_w171_712 {d : Nat} {ls : jn_Lo} {x y : Int32} {st : List Value} {M : jn_M} {Q : Option Value → jn_M → Prop} : jn_W d 171 712 ls (.int y :: .int x :: st) M Q = jn_W d 171 713 ls (.int (x + y) :: st) M Q := jn_W_eq (f := jn_iadd) rfl rfl
set_option maxRecDepth 100000 in
theorem jn_w171_713 {d : Nat} {ls : jn_Lo} {a : Nat} {i : Int32} {st : List Value} {M : jn_M} {Q : Option Value → jn_M → Prop} : jn_W d 171 713 ls (.int i :: .ref a :: st) M Q = (jn_aiO (jn_rs M a) 0 i = true ∧ jn_W d 171 714 ls (.int (jn_aiV (jn_rs M a) i) :: st) M Q) := jn_W_eqc (f := jn_iaload) rfl jn_iaload_e
set_option maxRecDepth 100000 in
theorem jn_w171_714 {d : Nat} {ls : jn_Lo} {a0 : Nat} {a1 : Int32} {k : Nat} {v : Option Value} {M1 : jn_M} {st : List Value} {M : jn_M} {Q : Option Value → jn_M → Prop} (h : jn_V 61 k [.ref a0, .int a1] M v M1) (hk : 1 ≤ k ∧ k + 1 ≤ d) : jn_W d 171 714 ls (.int a1 :: .ref a0 :: st) M Q = ((jn_sm 8 st = true ∧ jn_rc 8 M [.ref a0, .int a1] = true) ∧ jn_W d 171 717 ls (v.toList ++ st) M1 Q) := jn_W_call (na := 2) rfl h hk rfl rfl (Nat.le_of_ble_eq_true rfl)
set_option maxRecDepth 100000 in
theorem jn_w171_717 {d : Nat} {l0 l1 l3 : Option Value} {x : Nat} {st : List Value} {M : jn_M} {Q : Option Value → jn_M → Prop} : jn_W d 171 717 [l0, l1, some (.ref x), l3] (st) M Q = jn_W d 171 718 [l0, l1, some (.ref x), l3] (.ref x :: st) M Q := jn_W_eq (f := jn_aload_n 2) rfl rfl
set_option maxRecDepth 100000 in
theorem jn_w171_717n {d : Nat} {l0 l1 l3 : Option Value} {st : List Value} {M : jn_M} {Q : Option Value → jn_M → Prop} : jn_W d 171 717 [l0, l1, some .null, l3] (st) M Q = jn_W d 171 718 [l0, l1, some .null, l3] (.null :: st) M Q := jn_W_eq (f := jn_aload_n 2) rfl rfl
set_option maxRecDepth 100000 in
theorem jn_w171_718 {d : Nat} {l1 l2 l3 : Option Value} {x : Nat} {st : List Value} {M : jn_M} {Q : Option Value → jn_M → Prop} : jn_W d 171 718 [some (.ref x), l1, l2, l3] (st) M Q = jn_W d 171 719 [some (.ref x), l1, l2, l3] (.ref x :: st) M Q := jn_W_eq (f := jn_aload_n 0) rfl rfl
set_option maxRecDepth 100000 in
theorem jn_w171_718n {d : Nat} {l1 l2 l3 : Option Value} {st : List Value} {M : jn_M} {Q : Option Value → jn_M → Prop} : jn_W d 171 718 [some .null, l1, l2, l3] (st) M Q = jn_W d 171 719 [some .null, l1, l2, l3] (.null :: st) M Q := jn_W_eq (f := jn_aload_n 0) rfl rfl
set_option maxRecDepth 100000 in
theorem jn_w171_719 {d : Nat} {l0 l1 l2 : Option Value} {x : Int32} {st : List Value} {M : jn_M} {Q : Option Value → jn_M → Prop} : jn_W d 171 719 [l0, l1, l2, some (.int x)] (st) M Q = jn_W d 171 720 [l0, l1, l2, some (.int x)] (.int x :: st) M Q := jn_W_eq (f := jn_iload_n 3) rfl rfl
set_option maxRecDepth 100000 in
theorem jn_w171_720 {d : Nat} {ls : jn_Lo} {st : List Value} {M : jn_M} {Q : Option Value → jn_M → Prop} : jn_W d 171 720 ls (st) M Q = jn_W d 171 721 ls (.int (nI 1) :: st) M Q := by rw [← jn_k_1]; exact jn_W_eq (f := jn_iconst 1) rfl rfl
set_option maxRecDepth 100000 in
theorem jn_w171_721 {d : Nat} {ls : jn_Lo} {x y : Int32} {st : List Value} {M : jn_M} {Q : Option Value → jn_M → Prop} : jn_W d 171 721 ls (.int y :: .int x :: st) M Q = jn_W d 171 722 ls (.int (x + y) :: st) M Q := jn_W_eq (f := jn_iadd) rfl rfl
set_option maxRecDepth 100000 in
theorem jn_w171_722 {d : Nat} {ls : jn_Lo} {a : Nat} {i : Int32} {st : List Value} {M : jn_M} {Q : Option Value → jn_M → Prop} : jn_W d 171 722 ls (.int i :: .ref a :: st) M Q = (jn_aiO (jn_rs M a) 0 i = true ∧ jn_W d 171 723 ls (.int (jn_aiV (jn_rs M a) i) :: st) M Q) := jn_W_eqc (f := jn_iaload) rfl jn_iaload_e
set_option maxRecDepth 100000 in
theorem jn_w171_723 {d : Nat} {ls : jn_Lo} {a0 : Nat} {a1 : Int32} {k : Nat} {v : Option Value} {M1 : jn_M} {st : List Value} {M : jn_M} {Q : Option Value → jn_M → Prop} (h : jn_V 133 k [.ref a0, .int a1] M v M1) (hk : 1 ≤ k ∧ k + 1 ≤ d) : jn_W d 171 723 ls (.int a1 :: .ref a0 :: st) M Q = ((jn_sm 8 st = true ∧ jn_rc 9 M [.ref a0, .int a1] = true) ∧ jn_W d 171 726 ls (v.toList ++ st) M1 Q) := jn_W_call (na := 2) rfl h hk rfl rfl (Nat.le_of_ble_eq_true rfl)
set_option maxRecDepth 100000 in
theorem jn_w171_726 {d : Nat} {ls : jn_Lo} {x y : Int32} {st : List Value} {M : jn_M} {Q : Option Value → jn_M → Prop} : jn_W d 171 726 ls (.int y :: .int x :: st) M Q = if x = y then jn_W d 171 1252 ls (st) M Q else jn_W d 171 729 ls (st) M Q := jn_W_br (f := jn_iceq 1252) _ rfl rfl
set_option maxRecDepth 100000 in
theorem jn_w171_729 {d : Nat} {ls : jn_Lo} {st : List Value} {M : jn_M} {Q : Option Value → jn_M → Prop} : jn_W d 171 729 ls (st) M Q = jn_W d 171 730 ls (.int (nI 0) :: st) M Q := by rw [← jn_k_0]; exact jn_W_eq (f := jn_iconst 0) rfl rfl
set_option maxRecDepth 100000 in
theorem jn_w171_730 {d : Nat} {ls : jn_Lo} {v : Int32} {M : jn_M} {Q : Option Value → jn_M → Prop} : jn_W d 171 730 ls [.int v] M Q = (jn_zb v = true ∧ Q (some (.int v)) M) := jn_W_retc (k := 2) rfl jn_ret2_e
set_option maxRecDepth 100000 in
theorem jn_w171_731 {d : Nat} {l0 l2 l3 : Option Value} {x : Nat} {st : List Value} {M : jn_M} {Q : Option Value → jn_M → Prop} : jn_W d 171 731 [l0, some (.ref x), l2, l3] (st) M Q = jn_W d 171 732 [l0, some (.ref x), l2, l3] (.ref x :: st) M Q := jn_W_eq (f := jn_aload_n 1) rfl rfl
set_option maxRecDepth 100000 in
theorem jn_w171_731n {d : Nat} {l0 l2 l3 : Option Value} {st : List Value} {M : jn_M} {Q : Option Value → jn_M → Prop} : jn_W d 171 731 [l0, some .null, l2, l3] (st) M Q = jn_W d 171 732 [l0, some .null, l2, l3] (.null :: st) M Q := jn_W_eq (f := jn_aload_n 1) rfl rfl
set_option maxRecDepth 100000 in
theorem jn_w171_732 {d : Nat} {l1 l2 l3 : Option Value} {x : Nat} {st : List Value} {M : jn_M} {Q : Option Value → jn_M → Prop} : jn_W d 171 732 [some (.ref x), l1, l2, l3] (st) M Q = jn_W d 171 733 [some (.ref x), l1, l2, l3] (.ref x :: st) M Q := jn_W_eq (f := jn_aload_n 0) rfl rfl
set_option maxRecDepth 100000 in
theorem jn_w171_732n {d : Nat} {l1 l2 l3 : Option Value} {st : List Value} {M : jn_M} {Q : Option Value → jn_M → Prop} : jn_W d 171 732 [some .null, l1, l2, l3] (st) M Q = jn_W d 171 733 [some .null, l1, l2, l3] (.null :: st) M Q := jn_W_eq (f := jn_aload_n 0) rfl rfl
set_option maxRecDepth 100000 in
theorem jn_w171_733 {d : Nat} {l0 l1 l2 : Option Value} {x : Int32} {st : List Value} {M : jn_M} {Q : Option Value → jn_M → Prop} : jn_W d 171 733 [l0, l1, l2, some (.int x)] (st) M Q = jn_W d 171 734 [l0, l1, l2, some (.int x)] (.int x :: st) M Q := jn_W_eq (f := jn_iload_n 3) rfl rfl
set_option maxRecDepth 100000 in
theorem jn_w171_734 {d : Nat} {ls : jn_Lo} {st : List Value} {M : jn_M} {Q : Option Value → jn_M → Prop} : jn_W d 171 734 ls (st) M Q = jn_W d 171 735 ls (.int (nI 1) :: st) M Q := by rw [← jn_k_1]; exact jn_W_eq (f := jn_iconst 1) rfl rfl
set_option maxRecDepth 100000 in
theorem jn_w171_735 {d : Nat} {ls : jn_Lo} {x y : Int32} {st : List Value} {M : jn_M} {Q : Option Value → jn_M → Prop} : jn_W d 171 735 ls (.int y :: .int x :: st) M Q = jn_W d 171 736 ls (.int (x + y) :: st) M Q := jn_W_eq (f := jn_iadd) rfl rfl
set_option maxRecDepth 100000 in
theorem jn_w171_736 {d : Nat} {ls : jn_Lo} {a : Nat} {i : Int32} {st : List Value} {M : jn_M} {Q : Option Value → jn_M → Prop} : jn_W d 171 736 ls (.int i :: .ref a :: st) M Q = (jn_aiO (jn_rs M a) 0 i = true ∧ jn_W d 171 737 ls (.int (jn_aiV (jn_rs M a) i) :: st) M Q) := jn_W_eqc (f := jn_iaload) rfl jn_iaload_e
set_option maxRecDepth 100000 in
theorem jn_w171_737 {d : Nat} {l1 l2 l3 : Option Value} {x : Nat} {st : List Value} {M : jn_M} {Q : Option Value → jn_M → Prop} : jn_W d 171 737 [some (.ref x), l1, l2, l3] (st) M Q = jn_W d 171 738 [some (.ref x), l1, l2, l3] (.ref x :: st) M Q := jn_W_eq (f := jn_aload_n 0) rfl rfl
set_option maxRecDepth 100000 in
theorem jn_w171_737n {d : Nat} {l1 l2 l3 : Option Value} {st : List Value} {M : jn_M} {Q : Option Value → jn_M → Prop} : jn_W d 171 737 [some .null, l1, l2, l3] (st) M Q = jn_W d 171 738 [some .null, l1, l2, l3] (.null :: st) M Q := jn_W_eq (f := jn_aload_n 0) rfl rfl
set_option maxRecDepth 100000 in
theorem jn_w171_738 {d : Nat} {l0 l1 l2 : Option Value} {x : Int32} {st : List Value} {M : jn_M} {Q : Option Value → jn_M → Prop} : jn_W d 171 738 [l0, l1, l2, some (.int x)] (st) M Q = jn_W d 171 739 [l0, l1, l2, some (.int x)] (.int x :: st) M Q := jn_W_eq (f := jn_iload_n 3) rfl rfl
set_option maxRecDepth 100000 in
theorem jn_w171_739 {d : Nat} {ls : jn_Lo} {st : List Value} {M : jn_M} {Q : Option Value → jn_M → Prop} : jn_W d 171 739 ls (st) M Q = jn_W d 171 740 ls (.int (nI 2) :: st) M Q := by rw [← jn_k_2]; exact jn_W_eq (f := jn_iconst 2) rfl rfl
set_option maxRecDepth 100000 in
theorem jn_w171_740 {d : Nat} {ls : jn_Lo} {x y : Int32} {st : List Value} {M : jn_M} {Q : Option Value → jn_M → Prop} : jn_W d 171 740 ls (.int y :: .int x :: st) M Q = jn_W d 171 741 ls (.int (x + y) :: st) M Q := jn_W_eq (f := jn_iadd) rfl rfl
set_option maxRecDepth 100000 in
theorem jn_w171_741 {d : Nat} {ls : jn_Lo} {a : Nat} {i : Int32} {st : List Value} {M : jn_M} {Q : Option Value → jn_M → Prop} : jn_W d 171 741 ls (.int i :: .ref a :: st) M Q = (jn_aiO (jn_rs M a) 0 i = true ∧ jn_W d 171 742 ls (.int (jn_aiV (jn_rs M a) i) :: st) M Q) := jn_W_eqc (f := jn_iaload) rfl jn_iaload_e
set_option maxRecDepth 100000 in
theorem jn_w171_742 {d : Nat} {l1 l2 l3 : Option Value} {x : Nat} {st : List Value} {M : jn_M} {Q : Option Value → jn_M → Prop} : jn_W d 171 742 [some (.ref x), l1, l2, l3] (st) M Q = jn_W d 171 743 [some (.ref x), l1, l2, l3] (.ref x :: st) M Q := jn_W_eq (f := jn_aload_n 0) rfl rfl
set_option maxRecDepth 100000 in
theorem jn_w171_742n {d : Nat} {l1 l2 l3 : Option Value} {st : List Value} {M : jn_M} {Q : Option Value → jn_M → Prop} : jn_W d 171 742 [some .null, l1, l2, l3] (st) M Q = jn_W d 171 743 [some .null, l1, l2, l3] (.null :: st) M Q := jn_W_eq (f := jn_aload_n 0) rfl rfl
set_option maxRecDepth 100000 in
theorem jn_w171_743 {d : Nat} {l0 l1 l2 : Option Value} {x : Int32} {st : List Value} {M : jn_M} {Q : Option Value → jn_M → Prop} : jn_W d 171 743 [l0, l1, l2, some (.int x)] (st) M Q = jn_W d 171 744 [l0, l1, l2, some (.int x)] (.int x :: st) M Q := jn_W_eq (f := jn_iload_n 3) rfl rfl
set_option maxRecDepth 100000 in
theorem jn_w171_744 {d : Nat} {ls : jn_Lo} {st : List Value} {M : jn_M} {Q : Option Value → jn_M → Prop} : jn_W d 171 744 ls (st) M Q = jn_W d 171 745 ls (.int (nI 3) :: st) M Q := by rw [← jn_k_3]; exact jn_W_eq (f := jn_iconst 3) rfl rfl
set_option maxRecDepth 100000 in
theorem jn_w171_745 {d : Nat} {ls : jn_Lo} {x y : Int32} {st : List Value} {M : jn_M} {Q : Option Value → jn_M → Prop} : jn_W d 171 745 ls (.int y :: .int x :: st) M Q = jn_W d 171 746 ls (.int (x + y) :: st) M Q := jn_W_eq (f := jn_iadd) rfl rfl
set_option maxRecDepth 100000 in
theorem jn_w171_746 {d : Nat} {ls : jn_Lo} {a : Nat} {i : Int32} {st : List Value} {M : jn_M} {Q : Option Value → jn_M → Prop} : jn_W d 171 746 ls (.int i :: .ref a :: st) M Q = (jn_aiO (jn_rs M a) 0 i = true ∧ jn_W d 171 747 ls (.int (jn_aiV (jn_rs M a) i) :: st) M Q) := jn_W_eqc (f := jn_iaload) rfl jn_iaload_e
set_option maxRecDepth 100000 in
theorem jn_w171_747 {d : Nat} {ls : jn_Lo} {x : Int32} {st : List Value} {M : jn_M} {Q : Option Value → jn_M → Prop} : jn_W d 171 747 ls (.int x :: st) M Q = if x = nI 0 then jn_W d 171 754 ls (st) M Q else jn_W d 171 750 ls (st) M Q := jn_W_br (f := jn_ifeq 754) _ rfl rfl
set_option maxRecDepth 100000 in
theorem jn_w171_750 {d : Nat} {ls : jn_Lo} {st : List Value} {M : jn_M} {Q : Option Value → jn_M → Prop} : jn_W d 171 750 ls (st) M Q = jn_W d 171 751 ls (.int (nI 1) :: st) M Q := by rw [← jn_k_1]; exact jn_W_eq (f := jn_iconst 1) rfl rfl
set_option maxRecDepth 100000 in
theorem jn_w171_751 {d : Nat} {ls : jn_Lo} {st : List Value} {M : jn_M} {Q : Option Value → jn_M → Prop} : jn_W d 171 751 ls (st) M Q = jn_W d 171 755 ls (st) M Q := jn_W_eq (f := jn_goto 755) rfl rfl
set_option maxRecDepth 100000 in
theorem jn_w171_754 {d : Nat} {ls : jn_Lo} {st : List Value} {M : jn_M} {Q : Option Value → jn_M → Prop} : jn_W d 171 754 ls (st) M Q = jn_W d 171 755 ls (.int (nI 0) :: st) M Q := by rw [← jn_k_0]; exact jn_W_eq (f := jn_iconst 0) rfl rfl
set_option maxRecDepth 100000 in
theorem jn_w171_755 {d : Nat} {ls : jn_Lo} {a0 : Nat} {a1 : Int32} {a2 : Int32} {a3 : Int32} {k : Nat} {v : Option Value} {M1 : jn_M} {st : List Value} {M : jn_M} {Q : Option Value → jn_M → Prop} (h : jn_V 62 k [.ref a0, .int a1, .int a2, .int a3] M v M1) (hk : 1 ≤ k ∧ k + 1 ≤ d) : jn_W d 171 755 ls (.int a3 :: .int a2 :: .int a1 :: .ref a0 :: st) M Q = ((jn_sm 8 st = true ∧ jn_rc 8 M [.ref a0, .int a1, .int a2, .int a3] = true) ∧ jn_W d 171 758 ls (v.toList ++ st) M1 Q) := jn_W_call (na := 4) rfl h hk rfl rfl (Nat.le_of_ble_eq_true rfl)
set_option maxRecDepth 100000 in
theorem jn_w171_758 {d : Nat} {l0 l1 l3 : Option Value} {x : Nat} {st : List Value} {M : jn_M} {Q : Option Value → jn_M → Prop} : jn_W d 171 758 [l0, l1, some (.ref x), l3] (st) M Q = jn_W d 171 759 [l0, l1, some (.ref x), l3] (.ref x :: st) M Q := jn_W_eq (f := jn_aload_n 2) rfl rfl
set_option maxRecDepth 100000 in
theorem jn_w171_758n {d : Nat} {l0 l1 l3 : Option Value} {st : List Value} {M : jn_M} {Q : Option Value → jn_M → Prop} : jn_W d 171 758 [l0, l1, some .null, l3] (st) M Q = jn_W d 171 759 [l0, l1, some .null, l3] (.null :: st) M Q := jn_W_eq (f := jn_aload_n 2) rfl rfl
set_option maxRecDepth 100000 in
theorem jn_w171_759 {d : Nat} {l1 l2 l3 : Option Value} {x : Nat} {st : List Value} {M : jn_M} {Q : Option Value → jn_M → Prop} : jn_W d 171 759 [some (.ref x), l1, l2, l3] (st) M Q = jn_W d 171 760 [some (.ref x), l1, l2, l3] (.ref x :: st) M Q := jn_W_eq (f := jn_aload_n 0) rfl rfl
set_option maxRecDepth 100000 in
theorem jn_w171_759n {d : Nat} {l1 l2 l3 : Option Value} {st : List Value} {M : jn_M} {Q : Option Value → jn_M → Prop} : jn_W d 171 759 [some .null, l1, l2, l3] (st) M Q = jn_W d 171 760 [some .null, l1, l2, l3] (.null :: st) M Q := jn_W_eq (f := jn_aload_n 0) rfl rfl
set_option maxRecDepth 100000 in
theorem jn_w171_760 {d : Nat} {l0 l1 l2 : Option Value} {x : Int32} {st : List Value} {M : jn_M} {Q : Option Value → jn_M → Prop} : jn_W d 171 760 [l0, l1, l2, some (.int x)] (st) M Q = jn_W d 171 761 [l0, l1, l2, some (.int x)] (.int x :: st) M Q := jn_W_eq (f := jn_iload_n 3) rfl rfl
set_option maxRecDepth 100000 in
theorem jn_w171_761 {d : Nat} {ls : jn_Lo} {st : List Value} {M : jn_M} {Q : Option Value → jn_M → Prop} : jn_W d 171 761 ls (st) M Q = jn_W d 171 762 ls (.int (nI 1) :: st) M Q := by rw [← jn_k_1]; exact jn_W_eq (f := jn_iconst 1) rfl rfl
set_option maxRecDepth 100000 in
theorem jn_w171_762 {d : Nat} {ls : jn_Lo} {x y : Int32} {st : List Value} {M : jn_M} {Q : Option Value → jn_M → Prop} : jn_W d 171 762 ls (.int y :: .int x :: st) M Q = jn_W d 171 763 ls (.int (x + y) :: st) M Q := jn_W_eq (f := jn_iadd) rfl rfl
set_option maxRecDepth 100000 in
theorem jn_w171_763 {d : Nat} {ls : jn_Lo} {a : Nat} {i : Int32} {st : List Value} {M : jn_M} {Q : Option Value → jn_M → Prop} : jn_W d 171 763 ls (.int i :: .ref a :: st) M Q = (jn_aiO (jn_rs M a) 0 i = true ∧ jn_W d 171 764 ls (.int (jn_aiV (jn_rs M a) i) :: st) M Q) := jn_W_eqc (f := jn_iaload) rfl jn_iaload_e
set_option maxRecDepth 100000 in
theorem jn_w171_764 {d : Nat} {l1 l2 l3 : Option Value} {x : Nat} {st : List Value} {M : jn_M} {Q : Option Value → jn_M → Prop} : jn_W d 171 764 [some (.ref x), l1, l2, l3] (st) M Q = jn_W d 171 765 [some (.ref x), l1, l2, l3] (.ref x :: st) M Q := jn_W_eq (f := jn_aload_n 0) rfl rfl
set_option maxRecDepth 100000 in
theorem jn_w171_764n {d : Nat} {l1 l2 l3 : Option Value} {st : List Value} {M : jn_M} {Q : Option Value → jn_M → Prop} : jn_W d 171 764 [some .null, l1, l2, l3] (st) M Q = jn_W d 171 765 [some .null, l1, l2, l3] (.null :: st) M Q := jn_W_eq (f := jn_aload_n 0) rfl rfl
set_option maxRecDepth 100000 in
theorem jn_w171_765 {d : Nat} {l0 l1 l2 : Option Value} {x : Int32} {st : List Value} {M : jn_M} {Q : Option Value → jn_M → Prop} : jn_W d 171 765 [l0, l1, l2, some (.int x)] (st) M Q = jn_W d 171 766 [l0, l1, l2, some (.int x)] (.int x :: st) M Q := jn_W_eq (f := jn_iload_n 3) rfl rfl
set_option maxRecDepth 100000 in
theorem jn_w171_766 {d : Nat} {ls : jn_Lo} {st : List Value} {M : jn_M} {Q : Option Value → jn_M → Prop} : jn_W d 171 766 ls (st) M Q = jn_W d 171 767 ls (.int (nI 2) :: st) M Q := by rw [← jn_k_2]; exact jn_W_eq (f := jn_iconst 2) rfl rfl
set_option maxRecDepth 100000 in
theorem jn_w171_767 {d : Nat} {ls : jn_Lo} {x y : Int32} {st : List Value} {M : jn_M} {Q : Option Value → jn_M → Prop} : jn_W d 171 767 ls (.int y :: .int x :: st) M Q = jn_W d 171 768 ls (.int (x + y) :: st) M Q := jn_W_eq (f := jn_iadd) rfl rfl
set_option maxRecDepth 100000 in
theorem jn_w171_768 {d : Nat} {ls : jn_Lo} {a : Nat} {i : Int32} {st : List Value} {M : jn_M} {Q : Option Value → jn_M → Prop} : jn_W d 171 768 ls (.int i :: .ref a :: st) M Q = (jn_aiO (jn_rs M a) 0 i = true ∧ jn_W d 171 769 ls (.int (jn_aiV (jn_rs M a) i) :: st) M Q) := jn_W_eqc (f := jn_iaload) rfl jn_iaload_e
set_option maxRecDepth 100000 in
theorem jn_w171_769 {d : Nat} {l1 l2 l3 : Option Value} {x : Nat} {st : List Value} {M : jn_M} {Q : Option Value → jn_M → Prop} : jn_W d 171 769 [some (.ref x), l1, l2, l3] (st) M Q = jn_W d 171 770 [some (.ref x), l1, l2, l3] (.ref x :: st) M Q := jn_W_eq (f := jn_aload_n 0) rfl rfl
set_option maxRecDepth 100000 in
theorem jn_w171_769n {d : Nat} {l1 l2 l3 : Option Value} {st : List Value} {M : jn_M} {Q : Option Value → jn_M → Prop} : jn_W d 171 769 [some .null, l1, l2, l3] (st) M Q = jn_W d 171 770 [some .null, l1, l2, l3] (.null :: st) M Q := jn_W_eq (f := jn_aload_n 0) rfl rfl
set_option maxRecDepth 100000 in
theorem jn_w171_770 {d : Nat} {l0 l1 l2 : Option Value} {x : Int32} {st : List Value} {M : jn_M} {Q : Option Value → jn_M → Prop} : jn_W d 171 770 [l0, l1, l2, some (.int x)] (st) M Q = jn_W d 171 771 [l0, l1, l2, some (.int x)] (.int x :: st) M Q := jn_W_eq (f := jn_iload_n 3) rfl rfl
set_option maxRecDepth 100000 in
theorem jn_w171_771 {d : Nat} {ls : jn_Lo} {st : List Value} {M : jn_M} {Q : Option Value → jn_M → Prop} : jn_W d 171 771 ls (st) M Q = jn_W d 171 772 ls (.int (nI 3) :: st) M Q := by rw [← jn_k_3]; exact jn_W_eq (f := jn_iconst 3) rfl rfl
set_option maxRecDepth 100000 in
theorem jn_w171_772 {d : Nat} {ls : jn_Lo} {x y : Int32} {st : List Value} {M : jn_M} {Q : Option Value → jn_M → Prop} : jn_W d 171 772 ls (.int y :: .int x :: st) M Q = jn_W d 171 773 ls (.int (x + y) :: st) M Q := jn_W_eq (f := jn_iadd) rfl rfl
set_option maxRecDepth 100000 in
theorem jn_w171_773 {d : Nat} {ls : jn_Lo} {a : Nat} {i : Int32} {st : List Value} {M : jn_M} {Q : Option Value → jn_M → Prop} : jn_W d 171 773 ls (.int i :: .ref a :: st) M Q = (jn_aiO (jn_rs M a) 0 i = true ∧ jn_W d 171 774 ls (.int (jn_aiV (jn_rs M a) i) :: st) M Q) := jn_W_eqc (f := jn_iaload) rfl jn_iaload_e
set_option maxRecDepth 100000 in
theorem jn_w171_774 {d : Nat} {ls : jn_Lo} {x : Int32} {st : List Value} {M : jn_M} {Q : Option Value → jn_M → Prop} : jn_W d 171 774 ls (.int x :: st) M Q = if x = nI 0 then jn_W d 171 781 ls (st) M Q else jn_W d 171 777 ls (st) M Q := jn_W_br (f := jn_ifeq 781) _ rfl rfl
set_option maxRecDepth 100000 in
theorem jn_w171_777 {d : Nat} {ls : jn_Lo} {st : List Value} {M : jn_M} {Q : Option Value → jn_M → Prop} : jn_W d 171 777 ls (st) M Q = jn_W d 171 778 ls (.int (nI 1) :: st) M Q := by rw [← jn_k_1]; exact jn_W_eq (f := jn_iconst 1) rfl rfl
set_option maxRecDepth 100000 in
theorem jn_w171_778 {d : Nat} {ls : jn_Lo} {st : List Value} {M : jn_M} {Q : Option Value → jn_M → Prop} : jn_W d 171 778 ls (st) M Q = jn_W d 171 782 ls (st) M Q := jn_W_eq (f := jn_goto 782) rfl rfl
set_option maxRecDepth 100000 in
theorem jn_w171_781 {d : Nat} {ls : jn_Lo} {st : List Value} {M : jn_M} {Q : Option Value → jn_M → Prop} : jn_W d 171 781 ls (st) M Q = jn_W d 171 782 ls (.int (nI 0) :: st) M Q := by rw [← jn_k_0]; exact jn_W_eq (f := jn_iconst 0) rfl rfl
set_option maxRecDepth 100000 in
theorem jn_w171_782 {d : Nat} {ls : jn_Lo} {a0 : Nat} {a1 : Int32} {a2 : Int32} {a3 : Int32} {k : Nat} {v : Option Value} {M1 : jn_M} {st : List Value} {M : jn_M} {Q : Option Value → jn_M → Prop} (h : jn_V 134 k [.ref a0, .int a1, .int a2, .int a3] M v M1) (hk : 1 ≤ k ∧ k + 1 ≤ d) : jn_W d 171 782 ls (.int a3 :: .int a2 :: .int a1 :: .ref a0 :: st) M Q = ((jn_sm 8 st = true ∧ jn_rc 9 M [.ref a0, .int a1, .int a2, .int a3] = true) ∧ jn_W d 171 785 ls (v.toList ++ st) M1 Q) := jn_W_call (na := 4) rfl h hk rfl rfl (Nat.le_of_ble_eq_true rfl)
set_option maxRecDepth 100000 in
theorem jn_w171_785 {d : Nat} {ls : jn_Lo} {x y : Int32} {st : List Value} {M : jn_M} {Q : Option Value → jn_M → Prop} : jn_W d 171 785 ls (.int y :: .int x :: st) M Q = if x = y then jn_W d 171 1252 ls (st) M Q else jn_W d 171 788 ls (st) M Q := jn_W_br (f := jn_iceq 1252) _ rfl rfl
set_option maxRecDepth 100000 in
theorem jn_w171_788 {d : Nat} {ls : jn_Lo} {st : List Value} {M : jn_M} {Q : Option Value → jn_M → Prop} : jn_W d 171 788 ls (st) M Q = jn_W d 171 789 ls (.int (nI 0) :: st) M Q := by rw [← jn_k_0]; exact jn_W_eq (f := jn_iconst 0) rfl rfl
set_option maxRecDepth 100000 in
theorem jn_w171_789 {d : Nat} {ls : jn_Lo} {v : Int32} {M : jn_M} {Q : Option Value → jn_M → Prop} : jn_W d 171 789 ls [.int v] M Q = (jn_zb v = true ∧ Q (some (.int v)) M) := jn_W_retc (k := 2) rfl jn_ret2_e
set_option maxRecDepth 100000 in
theorem jn_w171_790 {d : Nat} {l0 l2 l3 : Option Value} {x : Nat} {st : List Value} {M : jn_M} {Q : Option Value → jn_M → Prop} : jn_W d 171 790 [l0, some (.ref x), l2, l3] (st) M Q = jn_W d 171 791 [l0, some (.ref x), l2, l3] (.ref x :: st) M Q := jn_W_eq (f := jn_aload_n 1) rfl rfl
set_option maxRecDepth 100000 in
theorem jn_w171_790n {d : Nat} {l0 l2 l3 : Option Value} {st : List Value} {M : jn_M} {Q : Option Value → jn_M → Prop} : jn_W d 171 790 [l0, some .null, l2, l3] (st) M Q = jn_W d 171 791 [l0, some .null, l2, l3] (.null :: st) M Q := jn_W_eq (f := jn_aload_n 1) rfl rfl
set_option maxRecDepth 100000 in
theorem jn_w171_791 {d : Nat} {ls : jn_Lo} {a0 : Nat} {k : Nat} {v : Option Value} {M1 : jn_M} {st : List Value} {M : jn_M} {Q : Option Value → jn_M → Prop} (h : jn_V 63 k [.ref a0] M v M1) (hk : 1 ≤ k ∧ k + 1 ≤ d) : jn_W d 171 791 ls (.ref a0 :: st) M Q = ((jn_sm 8 st = true ∧ jn_rc 8 M [.ref a0] = true) ∧ jn_W d 171 794 ls (v.toList ++ st) M1 Q) := jn_W_call (na := 1) rfl h hk rfl rfl (Nat.le_of_ble_eq_true rfl)
set_option maxRecDepth 100000 in
theorem jn_w171_794 {d : Nat} {l0 l1 l3 : Option Value} {x : Nat} {st : List Value} {M : jn_M} {Q : Option Value → jn_M → Prop} : jn_W d 171 794 [l0, l1, some (.ref x), l3] (st) M Q = jn_W d 171 795 [l0, l1, some (.ref x), l3] (.ref x :: st) M Q := jn_W_eq (f := jn_aload_n 2) rfl rfl
set_option maxRecDepth 100000 in
theorem jn_w171_794n {d : Nat} {l0 l1 l3 : Option Value} {st : List Value} {M : jn_M} {Q : Option Value → jn_M → Prop} : jn_W d 171 794 [l0, l1, some .null, l3] (st) M Q = jn_W d 171 795 [l0, l1, some .null, l3] (.null :: st) M Q := jn_W_eq (f := jn_aload_n 2) rfl rfl
set_option maxRecDepth 100000 in
theorem jn_w171_795 {d : Nat} {ls : jn_Lo} {a0 : Nat} {k : Nat} {v : Option Value} {M1 : jn_M} {st : List Value} {M : jn_M} {Q : Option Value → jn_M → Prop} (h : jn_V 135 k [.ref a0] M v M1) (hk : 1 ≤ k ∧ k + 1 ≤ d) : jn_W d 171 795 ls (.ref a0 :: st) M Q = ((jn_sm 8 st = true ∧ jn_rc 9 M [.ref a0] = true) ∧ jn_W d 171 798 ls (v.toList ++ st) M1 Q) := jn_W_call (na := 1) rfl h hk rfl rfl (Nat.le_of_ble_eq_true rfl)
set_option maxRecDepth 100000 in
theorem jn_w171_798 {d : Nat} {ls : jn_Lo} {x y : Int32} {st : List Value} {M : jn_M} {Q : Option Value → jn_M → Prop} : jn_W d 171 798 ls (.int y :: .int x :: st) M Q = if x = y then jn_W d 171 1252 ls (st) M Q else jn_W d 171 801 ls (st) M Q := jn_W_br (f := jn_iceq 1252) _ rfl rfl
set_option maxRecDepth 100000 in
theorem jn_w171_801 {d : Nat} {ls : jn_Lo} {st : List Value} {M : jn_M} {Q : Option Value → jn_M → Prop} : jn_W d 171 801 ls (st) M Q = jn_W d 171 802 ls (.int (nI 0) :: st) M Q := by rw [← jn_k_0]; exact jn_W_eq (f := jn_iconst 0) rfl rfl
set_option maxRecDepth 100000 in
theorem jn_w171_802 {d : Nat} {ls : jn_Lo} {v : Int32} {M : jn_M} {Q : Option Value → jn_M → Prop} : jn_W d 171 802 ls [.int v] M Q = (jn_zb v = true ∧ Q (some (.int v)) M) := jn_W_retc (k := 2) rfl jn_ret2_e
set_option maxRecDepth 100000 in
theorem jn_w171_803 {d : Nat} {l0 l2 l3 : Option Value} {x : Nat} {st : List Value} {M : jn_M} {Q : Option Value → jn_M → Prop} : jn_W d 171 803 [l0, some (.ref x), l2, l3] (st) M Q = jn_W d 171 804 [l0, some (.ref x), l2, l3] (.ref x :: st) M Q := jn_W_eq (f := jn_aload_n 1) rfl rfl
set_option maxRecDepth 100000 in
theorem jn_w171_803n {d : Nat} {l0 l2 l3 : Option Value} {st : List Value} {M : jn_M} {Q : Option Value → jn_M → Prop} : jn_W d 171 803 [l0, some .null, l2, l3] (st) M Q = jn_W d 171 804 [l0, some .null, l2, l3] (.null :: st) M Q := jn_W_eq (f := jn_aload_n 1) rfl rfl
set_option maxRecDepth 100000 in
theorem jn_w171_804 {d : Nat} {l1 l2 l3 : Option Value} {x : Nat} {st : List Value} {M : jn_M} {Q : Option Value → jn_M → Prop} : jn_W d 171 804 [some (.ref x), l1, l2, l3] (st) M Q = jn_W d 171 805 [some (.ref x), l1, l2, l3] (.ref x :: st) M Q := jn_W_eq (f := jn_aload_n 0) rfl rfl
set_option maxRecDepth 100000 in
theorem jn_w171_804n {d : Nat} {l1 l2 l3 : Option Value} {st : List Value} {M : jn_M} {Q : Option Value → jn_M → Prop} : jn_W d 171 804 [some .null, l1, l2, l3] (st) M Q = jn_W d 171 805 [some .null, l1, l2, l3] (.null :: st) M Q := jn_W_eq (f := jn_aload_n 0) rfl rfl
set_option maxRecDepth 100000 in
theorem jn_w171_805 {d : Nat} {l0 l1 l2 : Option Value} {x : Int32} {st : List Value} {M : jn_M} {Q : Option Value → jn_M → Prop} : jn_W d 171 805 [l0, l1, l2, some (.int x)] (st) M Q = jn_W d 171 806 [l0, l1, l2, some (.int x)] (.int x :: st) M Q := jn_W_eq (f := jn_iload_n 3) rfl rfl
set_option maxRecDepth 100000 in
theorem jn_w171_806 {d : Nat} {ls : jn_Lo} {st : List Value} {M : jn_M} {Q : Option Value → jn_M → Prop} : jn_W d 171 806 ls (st) M Q = jn_W d 171 807 ls (.int (nI 1) :: st) M Q := by rw [← jn_k_1]; exact jn_W_eq (f := jn_iconst 1) rfl rfl
set_option maxRecDepth 100000 in
theorem jn_w171_807 {d : Nat} {ls : jn_Lo} {x y : Int32} {st : List Value} {M : jn_M} {Q : Option Value → jn_M → Prop} : jn_W d 171 807 ls (.int y :: .int x :: st) M Q = jn_W d 171 808 ls (.int (x + y) :: st) M Q := jn_W_eq (f := jn_iadd) rfl rfl
set_option maxRecDepth 100000 in
theorem jn_w171_808 {d : Nat} {ls : jn_Lo} {a : Nat} {i : Int32} {st : List Value} {M : jn_M} {Q : Option Value → jn_M → Prop} : jn_W d 171 808 ls (.int i :: .ref a :: st) M Q = (jn_aiO (jn_rs M a) 0 i = true ∧ jn_W d 171 809 ls (.int (jn_aiV (jn_rs M a) i) :: st) M Q) := jn_W_eqc (f := jn_iaload) rfl jn_iaload_e
set_option maxRecDepth 100000 in
theorem jn_w171_809 {d : Nat} {l1 l2 l3 : Option Value} {x : Nat} {st : List Value} {M : jn_M} {Q : Option Value → jn_M → Prop} : jn_W d 171 809 [some (.ref x), l1, l2, l3] (st) M Q = jn_W d 171 810 [some (.ref x), l1, l2, l3] (.ref x :: st) M Q := jn_W_eq (f := jn_aload_n 0) rfl rfl
set_option maxRecDepth 100000 in
theorem jn_w171_809n {d : Nat} {l1 l2 l3 : Option Value} {st : List Value} {M : jn_M} {Q : Option Value → jn_M → Prop} : jn_W d 171 809 [some .null, l1, l2, l3] (st) M Q = jn_W d 171 810 [some .null, l1, l2, l3] (.null :: st) M Q := jn_W_eq (f := jn_aload_n 0) rfl rfl
set_option maxRecDepth 100000 in
theorem jn_w171_810 {d : Nat} {l0 l1 l2 : Option Value} {x : Int32} {st : List Value} {M : jn_M} {Q : Option Value → jn_M → Prop} : jn_W d 171 810 [l0, l1, l2, some (.int x)] (st) M Q = jn_W d 171 811 [l0, l1, l2, some (.int x)] (.int x :: st) M Q := jn_W_eq (f := jn_iload_n 3) rfl rfl
set_option maxRecDepth 100000 in
theorem jn_w171_811 {d : Nat} {ls : jn_Lo} {st : List Value} {M : jn_M} {Q : Option Value → jn_M → Prop} : jn_W d 171 811 ls (st) M Q = jn_W d 171 812 ls (.int (nI 2) :: st) M Q := by rw [← jn_k_2]; exact jn_W_eq (f := jn_iconst 2) rfl rfl
set_option maxRecDepth 100000 in
theorem jn_w171_812 {d : Nat} {ls : jn_Lo} {x y : Int32} {st : List Value} {M : jn_M} {Q : Option Value → jn_M → Prop} : jn_W d 171 812 ls (.int y :: .int x :: st) M Q = jn_W d 171 813 ls (.int (x + y) :: st) M Q := jn_W_eq (f := jn_iadd) rfl rfl
set_option maxRecDepth 100000 in
theorem jn_w171_813 {d : Nat} {ls : jn_Lo} {a : Nat} {i : Int32} {st : List Value} {M : jn_M} {Q : Option Value → jn_M → Prop} : jn_W d 171 813 ls (.int i :: .ref a :: st) M Q = (jn_aiO (jn_rs M a) 0 i = true ∧ jn_W d 171 814 ls (.int (jn_aiV (jn_rs M a) i) :: st) M Q) := jn_W_eqc (f := jn_iaload) rfl jn_iaload_e
set_option maxRecDepth 100000 in
theorem jn_w171_814 {d : Nat} {ls : jn_Lo} {a0 : Nat} {a1 : Int32} {a2 : Int32} {k : Nat} {v : Option Value} {M1 : jn_M} {st : List Value} {M : jn_M} {Q : Option Value → jn_M → Prop} (h : jn_V 64 k [.ref a0, .int a1, .int a2] M v M1) (hk : 1 ≤ k ∧ k + 1 ≤ d) : jn_W d 171 814 ls (.int a2 :: .int a1 :: .ref a0 :: st) M Q = ((jn_sm 8 st = true ∧ jn_rc 8 M [.ref a0, .int a1, .int a2] = true) ∧ jn_W d 171 817 ls (v.toList ++ st) M1 Q) := jn_W_call (na := 3) rfl h hk rfl rfl (Nat.le_of_ble_eq_true rfl)
set_option maxRecDepth 100000 in
theorem jn_w171_817 {d : Nat} {l0 l1 l3 : Option Value} {x : Nat} {st : List Value} {M : jn_M} {Q : Option Value → jn_M → Prop} : jn_W d 171 817 [l0, l1, some (.ref x), l3] (st) M Q = jn_W d 171 818 [l0, l1, some (.ref x), l3] (.ref x :: st) M Q := jn_W_eq (f := jn_aload_n 2) rfl rfl
set_option maxRecDepth 100000 in
theorem jn_w171_817n {d : Nat} {l0 l1 l3 : Option Value} {st : List Value} {M : jn_M} {Q : Option Value → jn_M → Prop} : jn_W d 171 817 [l0, l1, some .null, l3] (st) M Q = jn_W d 171 818 [l0, l1, some .null, l3] (.null :: st) M Q := jn_W_eq (f := jn_aload_n 2) rfl rfl
set_option maxRecDepth 100000 in
theorem jn_w171_818 {d : Nat} {l1 l2 l3 : Option Value} {x : Nat} {st : List Value} {M : jn_M} {Q : Option Value → jn_M → Prop} : jn_W d 171 818 [some (.ref x), l1, l2, l3] (st) M Q = jn_W d 171 819 [some (.ref x), l1, l2, l3] (.ref x :: st) M Q := jn_W_eq (f := jn_aload_n 0) rfl rfl
set_option maxRecDepth 100000 in
theorem jn_w171_818n {d : Nat} {l1 l2 l3 : Option Value} {st : List Value} {M : jn_M} {Q : Option Value → jn_M → Prop} : jn_W d 171 818 [some .null, l1, l2, l3] (st) M Q = jn_W d 171 819 [some .null, l1, l2, l3] (.null :: st) M Q := jn_W_eq (f := jn_aload_n 0) rfl rfl
set_option maxRecDepth 100000 in
theorem jn_w171_819 {d : Nat} {l0 l1 l2 : Option Value} {x : Int32} {st : List Value} {M : jn_M} {Q : Option Value → jn_M → Prop} : jn_W d 171 819 [l0, l1, l2, some (.int x)] (st) M Q = jn_W d 171 820 [l0, l1, l2, some (.int x)] (.int x :: st) M Q := jn_W_eq (f := jn_iload_n 3) rfl rfl
set_option maxRecDepth 100000 in
theorem jn_w171_820 {d : Nat} {ls : jn_Lo} {st : List Value} {M : jn_M} {Q : Option Value → jn_M → Prop} : jn_W d 171 820 ls (st) M Q = jn_W d 171 821 ls (.int (nI 1) :: st) M Q := by rw [← jn_k_1]; exact jn_W_eq (f := jn_iconst 1) rfl rfl
set_option maxRecDepth 100000 in
theorem jn_w171_821 {d : Nat} {ls : jn_Lo} {x y : Int32} {st : List Value} {M : jn_M} {Q : Option Value → jn_M → Prop} : jn_W d 171 821 ls (.int y :: .int x :: st) M Q = jn_W d 171 822 ls (.int (x + y) :: st) M Q := jn_W_eq (f := jn_iadd) rfl rfl
set_option maxRecDepth 100000 in
theorem jn_w171_822 {d : Nat} {ls : jn_Lo} {a : Nat} {i : Int32} {st : List Value} {M : jn_M} {Q : Option Value → jn_M → Prop} : jn_W d 171 822 ls (.int i :: .ref a :: st) M Q = (jn_aiO (jn_rs M a) 0 i = true ∧ jn_W d 171 823 ls (.int (jn_aiV (jn_rs M a) i) :: st) M Q) := jn_W_eqc (f := jn_iaload) rfl jn_iaload_e
set_option maxRecDepth 100000 in
theorem jn_w171_823 {d : Nat} {l1 l2 l3 : Option Value} {x : Nat} {st : List Value} {M : jn_M} {Q : Option Value → jn_M → Prop} : jn_W d 171 823 [some (.ref x), l1, l2, l3] (st) M Q = jn_W d 171 824 [some (.ref x), l1, l2, l3] (.ref x :: st) M Q := jn_W_eq (f := jn_aload_n 0) rfl rfl
set_option maxRecDepth 100000 in
theorem jn_w171_823n {d : Nat} {l1 l2 l3 : Option Value} {st : List Value} {M : jn_M} {Q : Option Value → jn_M → Prop} : jn_W d 171 823 [some .null, l1, l2, l3] (st) M Q = jn_W d 171 824 [some .null, l1, l2, l3] (.null :: st) M Q := jn_W_eq (f := jn_aload_n 0) rfl rfl
set_option maxRecDepth 100000 in
theorem jn_w171_824 {d : Nat} {l0 l1 l2 : Option Value} {x : Int32} {st : List Value} {M : jn_M} {Q : Option Value → jn_M → Prop} : jn_W d 171 824 [l0, l1, l2, some (.int x)] (st) M Q = jn_W d 171 825 [l0, l1, l2, some (.int x)] (.int x :: st) M Q := jn_W_eq (f := jn_iload_n 3) rfl rfl
set_option maxRecDepth 100000 in
theorem jn_w171_825 {d : Nat} {ls : jn_Lo} {st : List Value} {M : jn_M} {Q : Option Value → jn_M → Prop} : jn_W d 171 825 ls (st) M Q = jn_W d 171 826 ls (.int (nI 2) :: st) M Q := by rw [← jn_k_2]; exact jn_W_eq (f := jn_iconst 2) rfl rfl
set_option maxRecDepth 100000 in
theorem jn_w171_826 {d : Nat} {ls : jn_Lo} {x y : Int32} {st : List Value} {M : jn_M} {Q : Option Value → jn_M → Prop} : jn_W d 171 826 ls (.int y :: .int x :: st) M Q = jn_W d 171 827 ls (.int (x + y) :: st) M Q := jn_W_eq (f := jn_iadd) rfl rfl
set_option maxRecDepth 100000 in
theorem jn_w171_827 {d : Nat} {ls : jn_Lo} {a : Nat} {i : Int32} {st : List Value} {M : jn_M} {Q : Option Value → jn_M → Prop} : jn_W d 171 827 ls (.int i :: .ref a :: st) M Q = (jn_aiO (jn_rs M a) 0 i = true ∧ jn_W d 171 828 ls (.int (jn_aiV (jn_rs M a) i) :: st) M Q) := jn_W_eqc (f := jn_iaload) rfl jn_iaload_e
set_option maxRecDepth 100000 in
theorem jn_w171_828 {d : Nat} {ls : jn_Lo} {a0 : Nat} {a1 : Int32} {a2 : Int32} {k : Nat} {v : Option Value} {M1 : jn_M} {st : List Value} {M : jn_M} {Q : Option Value → jn_M → Prop} (h : jn_V 136 k [.ref a0, .int a1, .int a2] M v M1) (hk : 1 ≤ k ∧ k + 1 ≤ d) : jn_W d 171 828 ls (.int a2 :: .int a1 :: .ref a0 :: st) M Q = ((jn_sm 8 st = true ∧ jn_rc 9 M [.ref a0, .int a1, .int a2] = true) ∧ jn_W d 171 831 ls (v.toList ++ st) M1 Q) := jn_W_call (na := 3) rfl h hk rfl rfl (Nat.le_of_ble_eq_true rfl)
set_option maxRecDepth 100000 in
theorem jn_w171_831 {d : Nat} {ls : jn_Lo} {x y : Int32} {st : List Value} {M : jn_M} {Q : Option Value → jn_M → Prop} : jn_W d 171 831 ls (.int y :: .int x :: st) M Q = if x = y then jn_W d 171 1252 ls (st) M Q else jn_W d 171 834 ls (st) M Q := jn_W_br (f := jn_iceq 1252) _ rfl rfl
set_option maxRecDepth 100000 in
theorem jn_w171_834 {d : Nat} {ls : jn_Lo} {st : List Value} {M : jn_M} {Q : Option Value → jn_M → Prop} : jn_W d 171 834 ls (st) M Q = jn_W d 171 835 ls (.int (nI 0) :: st) M Q := by rw [← jn_k_0]; exact jn_W_eq (f := jn_iconst 0) rfl rfl
set_option maxRecDepth 100000 in
theorem jn_w171_835 {d : Nat} {ls : jn_Lo} {v : Int32} {M : jn_M} {Q : Option Value → jn_M → Prop} : jn_W d 171 835 ls [.int v] M Q = (jn_zb v = true ∧ Q (some (.int v)) M) := jn_W_retc (k := 2) rfl jn_ret2_e
set_option maxRecDepth 100000 in
theorem jn_w171_836 {d : Nat} {l0 l2 l3 : Option Value} {x : Nat} {st : List Value} {M : jn_M} {Q : Option Value → jn_M → Prop} : jn_W d 171 836 [l0, some (.ref x), l2, l3] (st) M Q = jn_W d 171 837 [l0, some (.ref x), l2, l3] (.ref x :: st) M Q := jn_W_eq (f := jn_aload_n 1) rfl rfl
set_option maxRecDepth 100000 in
theorem jn_w171_836n {d : Nat} {l0 l2 l3 : Option Value} {st : List Value} {M : jn_M} {Q : Option Value → jn_M → Prop} : jn_W d 171 836 [l0, some .null, l2, l3] (st) M Q = jn_W d 171 837 [l0, some .null, l2, l3] (.null :: st) M Q := jn_W_eq (f := jn_aload_n 1) rfl rfl
set_option maxRecDepth 100000 in
theorem jn_w171_837 {d : Nat} {l1 l2 l3 : Option Value} {x : Nat} {st : List Value} {M : jn_M} {Q : Option Value → jn_M → Prop} : jn_W d 171 837 [some (.ref x), l1, l2, l3] (st) M Q = jn_W d 171 838 [some (.ref x), l1, l2, l3] (.ref x :: st) M Q := jn_W_eq (f := jn_aload_n 0) rfl rfl
set_option maxRecDepth 100000 in
theorem jn_w171_837n {d : Nat} {l1 l2 l3 : Option Value} {st : List Value} {M : jn_M} {Q : Option Value → jn_M → Prop} : jn_W d 171 837 [some .null, l1, l2, l3] (st) M Q = jn_W d 171 838 [some .null, l1, l2, l3] (.null :: st) M Q := jn_W_eq (f := jn_aload_n 0) rfl rfl
set_option maxRecDepth 100000 in
theorem jn_w171_838 {d : Nat} {l0 l1 l2 : Option Value} {x : Int32} {st : List Value} {M : jn_M} {Q : Option Value → jn_M → Prop} : jn_W d 171 838 [l0, l1, l2, some (.int x)] (st) M Q = jn_W d 171 839 [l0, l1, l2, some (.int x)] (.int x :: st) M Q := jn_W_eq (f := jn_iload_n 3) rfl rfl
set_option maxRecDepth 100000 in
theorem jn_w171_839 {d : Nat} {ls : jn_Lo} {st : List Value} {M : jn_M} {Q : Option Value → jn_M → Prop} : jn_W d 171 839 ls (st) M Q = jn_W d 171 840 ls (.int (nI 1) :: st) M Q := by rw [← jn_k_1]; exact jn_W_eq (f := jn_iconst 1) rfl rfl
set_option maxRecDepth 100000 in
theorem jn_w171_840 {d : Nat} {ls : jn_Lo} {x y : Int32} {st : List Value} {M : jn_M} {Q : Option Value → jn_M → Prop} : jn_W d 171 840 ls (.int y :: .int x :: st) M Q = jn_W d 171 841 ls (.int (x + y) :: st) M Q := jn_W_eq (f := jn_iadd) rfl rfl
set_option maxRecDepth 100000 in
theorem jn_w171_841 {d : Nat} {ls : jn_Lo} {a : Nat} {i : Int32} {st : List Value} {M : jn_M} {Q : Option Value → jn_M → Prop} : jn_W d 171 841 ls (.int i :: .ref a :: st) M Q = (jn_aiO (jn_rs M a) 0 i = true ∧ jn_W d 171 842 ls (.int (jn_aiV (jn_rs M a) i) :: st) M Q) := jn_W_eqc (f := jn_iaload) rfl jn_iaload_e
set_option maxRecDepth 100000 in
theorem jn_w171_842 {d : Nat} {l1 l2 l3 : Option Value} {x : Nat} {st : List Value} {M : jn_M} {Q : Option Value → jn_M → Prop} : jn_W d 171 842 [some (.ref x), l1, l2, l3] (st) M Q = jn_W d 171 843 [some (.ref x), l1, l2, l3] (.ref x :: st) M Q := jn_W_eq (f := jn_aload_n 0) rfl rfl
set_option maxRecDepth 100000 in
theorem jn_w171_842n {d : Nat} {l1 l2 l3 : Option Value} {st : List Value} {M : jn_M} {Q : Option Value → jn_M → Prop} : jn_W d 171 842 [some .null, l1, l2, l3] (st) M Q = jn_W d 171 843 [some .null, l1, l2, l3] (.null :: st) M Q := jn_W_eq (f := jn_aload_n 0) rfl rfl
set_option maxRecDepth 100000 in
theorem jn_w171_843 {d : Nat} {l0 l1 l2 : Option Value} {x : Int32} {st : List Value} {M : jn_M} {Q : Option Value → jn_M → Prop} : jn_W d 171 843 [l0, l1, l2, some (.int x)] (st) M Q = jn_W d 171 844 [l0, l1, l2, some (.int x)] (.int x :: st) M Q := jn_W_eq (f := jn_iload_n 3) rfl rfl
set_option maxRecDepth 100000 in
theorem jn_w171_844 {d : Nat} {ls : jn_Lo} {st : List Value} {M : jn_M} {Q : Option Value → jn_M → Prop} : jn_W d 171 844 ls (st) M Q = jn_W d 171 845 ls (.int (nI 2) :: st) M Q := by rw [← jn_k_2]; exact jn_W_eq (f := jn_iconst 2) rfl rfl
set_option maxRecDepth 100000 in
theorem jn_w171_845 {d : Nat} {ls : jn_Lo} {x y : Int32} {st : List Value} {M : jn_M} {Q : Option Value → jn_M → Prop} : jn_W d 171 845 ls (.int y :: .int x :: st) M Q = jn_W d 171 846 ls (.int (x + y) :: st) M Q := jn_W_eq (f := jn_iadd) rfl rfl
set_option maxRecDepth 100000 in
theorem jn_w171_846 {d : Nat} {ls : jn_Lo} {a : Nat} {i : Int32} {st : List Value} {M : jn_M} {Q : Option Value → jn_M → Prop} : jn_W d 171 846 ls (.int i :: .ref a :: st) M Q = (jn_aiO (jn_rs M a) 0 i = true ∧ jn_W d 171 847 ls (.int (jn_aiV (jn_rs M a) i) :: st) M Q) := jn_W_eqc (f := jn_iaload) rfl jn_iaload_e
set_option maxRecDepth 100000 in
theorem jn_w171_847 {d : Nat} {ls : jn_Lo} {a0 : Nat} {a1 : Int32} {a2 : Int32} {k : Nat} {v : Option Value} {M1 : jn_M} {st : List Value} {M : jn_M} {Q : Option Value → jn_M → Prop} (h : jn_V 65 k [.ref a0, .int a1, .int a2] M v M1) (hk : 1 ≤ k ∧ k + 1 ≤ d) : jn_W d 171 847 ls (.int a2 :: .int a1 :: .ref a0 :: st) M Q = ((jn_sm 8 st = true ∧ jn_rc 8 M [.ref a0, .int a1, .int a2] = true) ∧ jn_W d 171 850 ls (v.toList ++ st) M1 Q) := jn_W_call (na := 3) rfl h hk rfl rfl (Nat.le_of_ble_eq_true rfl)
set_option maxRecDepth 100000 in
theorem jn_w171_850 {d : Nat} {l0 l1 l3 : Option Value} {x : Nat} {st : List Value} {M : jn_M} {Q : Option Value → jn_M → Prop} : jn_W d 171 850 [l0, l1, some (.ref x), l3] (st) M Q = jn_W d 171 851 [l0, l1, some (.ref x), l3] (.ref x :: st) M Q := jn_W_eq (f := jn_aload_n 2) rfl rfl
set_option maxRecDepth 100000 in
theorem jn_w171_850n {d : Nat} {l0 l1 l3 : Option Value} {st : List Value} {M : jn_M} {Q : Option Value → jn_M → Prop} : jn_W d 171 850 [l0, l1, some .null, l3] (st) M Q = jn_W d 171 851 [l0, l1, some .null, l3] (.null :: st) M Q := jn_W_eq (f := jn_aload_n 2) rfl rfl
set_option maxRecDepth 100000 in
theorem jn_w171_851 {d : Nat} {l1 l2 l3 : Option Value} {x : Nat} {st : List Value} {M : jn_M} {Q : Option Value → jn_M → Prop} : jn_W d 171 851 [some (.ref x), l1, l2, l3] (st) M Q = jn_W d 171 852 [some (.ref x), l1, l2, l3] (.ref x :: st) M Q := jn_W_eq (f := jn_aload_n 0) rfl rfl
set_option maxRecDepth 100000 in
theorem jn_w171_851n {d : Nat} {l1 l2 l3 : Option Value} {st : List Value} {M : jn_M} {Q : Option Value → jn_M → Prop} : jn_W d 171 851 [some .null, l1, l2, l3] (st) M Q = jn_W d 171 852 [some .null, l1, l2, l3] (.null :: st) M Q := jn_W_eq (f := jn_aload_n 0) rfl rfl
set_option maxRecDepth 100000 in
theorem jn_w171_852 {d : Nat} {l0 l1 l2 : Option Value} {x : Int32} {st : List Value} {M : jn_M} {Q : Option Value → jn_M → Prop} : jn_W d 171 852 [l0, l1, l2, some (.int x)] (st) M Q = jn_W d 171 853 [l0, l1, l2, some (.int x)] (.int x :: st) M Q := jn_W_eq (f := jn_iload_n 3) rfl rfl
set_option maxRecDepth 100000 in
theorem jn_w171_853 {d : Nat} {ls : jn_Lo} {st : List Value} {M : jn_M} {Q : Option Value → jn_M → Prop} : jn_W d 171 853 ls (st) M Q = jn_W d 171 854 ls (.int (nI 1) :: st) M Q := by rw [← jn_k_1]; exact jn_W_eq (f := jn_iconst 1) rfl rfl
set_option maxRecDepth 100000 in
theorem jn_w171_854 {d : Nat} {ls : jn_Lo} {x y : Int32} {st : List Value} {M : jn_M} {Q : Option Value → jn_M → Prop} : jn_W d 171 854 ls (.int y :: .int x :: st) M Q = jn_W d 171 855 ls (.int (x + y) :: st) M Q := jn_W_eq (f := jn_iadd) rfl rfl
set_option maxRecDepth 100000 in
theorem jn_w171_855 {d : Nat} {ls : jn_Lo} {a : Nat} {i : Int32} {st : List Value} {M : jn_M} {Q : Option Value → jn_M → Prop} : jn_W d 171 855 ls (.int i :: .ref a :: st) M Q = (jn_aiO (jn_rs M a) 0 i = true ∧ jn_W d 171 856 ls (.int (jn_aiV (jn_rs M a) i) :: st) M Q) := jn_W_eqc (f := jn_iaload) rfl jn_iaload_e
set_option maxRecDepth 100000 in
theorem jn_w171_856 {d : Nat} {l1 l2 l3 : Option Value} {x : Nat} {st : List Value} {M : jn_M} {Q : Option Value → jn_M → Prop} : jn_W d 171 856 [some (.ref x), l1, l2, l3] (st) M Q = jn_W d 171 857 [some (.ref x), l1, l2, l3] (.ref x :: st) M Q := jn_W_eq (f := jn_aload_n 0) rfl rfl
set_option maxRecDepth 100000 in
theorem jn_w171_856n {d : Nat} {l1 l2 l3 : Option Value} {st : List Value} {M : jn_M} {Q : Option Value → jn_M → Prop} : jn_W d 171 856 [some .null, l1, l2, l3] (st) M Q = jn_W d 171 857 [some .null, l1, l2, l3] (.null :: st) M Q := jn_W_eq (f := jn_aload_n 0) rfl rfl
set_option maxRecDepth 100000 in
theorem jn_w171_857 {d : Nat} {l0 l1 l2 : Option Value} {x : Int32} {st : List Value} {M : jn_M} {Q : Option Value → jn_M → Prop} : jn_W d 171 857 [l0, l1, l2, some (.int x)] (st) M Q = jn_W d 171 858 [l0, l1, l2, some (.int x)] (.int x :: st) M Q := jn_W_eq (f := jn_iload_n 3) rfl rfl
set_option maxRecDepth 100000 in
theorem jn_w171_858 {d : Nat} {ls : jn_Lo} {st : List Value} {M : jn_M} {Q : Option Value → jn_M → Prop} : jn_W d 171 858 ls (st) M Q = jn_W d 171 859 ls (.int (nI 2) :: st) M Q := by rw [← jn_k_2]; exact jn_W_eq (f := jn_iconst 2) rfl rfl
set_option maxRecDepth 100000 in
theorem jn_w171_859 {d : Nat} {ls : jn_Lo} {x y : Int32} {st : List Value} {M : jn_M} {Q : Option Value → jn_M → Prop} : jn_W d 171 859 ls (.int y :: .int x :: st) M Q = jn_W d 171 860 ls (.int (x + y) :: st) M Q := jn_W_eq (f := jn_iadd) rfl rfl
set_option maxRecDepth 100000 in
theorem jn_w171_860 {d : Nat} {ls : jn_Lo} {a : Nat} {i : Int32} {st : List Value} {M : jn_M} {Q : Option Value → jn_M → Prop} : jn_W d 171 860 ls (.int i :: .ref a :: st) M Q = (jn_aiO (jn_rs M a) 0 i = true ∧ jn_W d 171 861 ls (.int (jn_aiV (jn_rs M a) i) :: st) M Q) := jn_W_eqc (f := jn_iaload) rfl jn_iaload_e
set_option maxRecDepth 100000 in
theorem jn_w171_861 {d : Nat} {ls : jn_Lo} {a0 : Nat} {a1 : Int32} {a2 : Int32} {k : Nat} {v : Option Value} {M1 : jn_M} {st : List Value} {M : jn_M} {Q : Option Value → jn_M → Prop} (h : jn_V 140 k [.ref a0, .int a1, .int a2] M v M1) (hk : 1 ≤ k ∧ k + 1 ≤ d) : jn_W d 171 861 ls (.int a2 :: .int a1 :: .ref a0 :: st) M Q = ((jn_sm 8 st = true ∧ jn_rc 9 M [.ref a0, .int a1, .int a2] = true) ∧ jn_W d 171 864 ls (v.toList ++ st) M1 Q) := jn_W_call (na := 3) rfl h hk rfl rfl (Nat.le_of_ble_eq_true rfl)
set_option maxRecDepth 100000 in
theorem jn_w171_864 {d : Nat} {ls : jn_Lo} {x y : Int32} {st : List Value} {M : jn_M} {Q : Option Value → jn_M → Prop} : jn_W d 171 864 ls (.int y :: .int x :: st) M Q = if x = y then jn_W d 171 1252 ls (st) M Q else jn_W d 171 867 ls (st) M Q := jn_W_br (f := jn_iceq 1252) _ rfl rfl
set_option maxRecDepth 100000 in
theorem jn_w171_867 {d : Nat} {ls : jn_Lo} {st : List Value} {M : jn_M} {Q : Option Value → jn_M → Prop} : jn_W d 171 867 ls (st) M Q = jn_W d 171 868 ls (.int (nI 0) :: st) M Q := by rw [← jn_k_0]; exact jn_W_eq (f := jn_iconst 0) rfl rfl
set_option maxRecDepth 100000 in
theorem jn_w171_868 {d : Nat} {ls : jn_Lo} {v : Int32} {M : jn_M} {Q : Option Value → jn_M → Prop} : jn_W d 171 868 ls [.int v] M Q = (jn_zb v = true ∧ Q (some (.int v)) M) := jn_W_retc (k := 2) rfl jn_ret2_e
set_option maxRecDepth 100000 in
theorem jn_w171_869 {d : Nat} {l0 l2 l3 : Option Value} {x : Nat} {st : List Value} {M : jn_M} {Q : Option Value → jn_M → Prop} : jn_W d 171 869 [l0, some (.ref x), l2, l3] (st) M Q = jn_W d 171 870 [l0, some (.ref x), l2, l3] (.ref x :: st) M Q := jn_W_eq (f := jn_aload_n 1) rfl rfl
set_option maxRecDepth 100000 in
theorem jn_w171_869n {d : Nat} {l0 l2 l3 : Option Value} {st : List Value} {M : jn_M} {Q : Option Value → jn_M → Prop} : jn_W d 171 869 [l0, some .null, l2, l3] (st) M Q = jn_W d 171 870 [l0, some .null, l2, l3] (.null :: st) M Q := jn_W_eq (f := jn_aload_n 1) rfl rfl
set_option maxRecDepth 100000 in
theorem jn_w171_870 {d : Nat} {l1 l2 l3 : Option Value} {x : Nat} {st : List Value} {M : jn_M} {Q : Option Value → jn_M → Prop} : jn_W d 171 870 [some (.ref x), l1, l2, l3] (st) M Q = jn_W d 171 871 [some (.ref x), l1, l2, l3] (.ref x :: st) M Q := jn_W_eq (f := jn_aload_n 0) rfl rfl
set_option maxRecDepth 100000 in
theorem jn_w171_870n {d : Nat} {l1 l2 l3 : Option Value} {st : List Value} {M : jn_M} {Q : Option Value → jn_M → Prop} : jn_W d 171 870 [some .null, l1, l2, l3] (st) M Q = jn_W d 171 871 [some .null, l1, l2, l3] (.null :: st) M Q := jn_W_eq (f := jn_aload_n 0) rfl rfl
set_option maxRecDepth 100000 in
theorem jn_w171_871 {d : Nat} {l0 l1 l2 : Option Value} {x : Int32} {st : List Value} {M : jn_M} {Q : Option Value → jn_M → Prop} : jn_W d 171 871 [l0, l1, l2, some (.int x)] (st) M Q = jn_W d 171 872 [l0, l1, l2, some (.int x)] (.int x :: st) M Q := jn_W_eq (f := jn_iload_n 3) rfl rfl
set_option maxRecDepth 100000 in
theorem jn_w171_872 {d : Nat} {ls : jn_Lo} {st : List Value} {M : jn_M} {Q : Option Value → jn_M → Prop} : jn_W d 171 872 ls (st) M Q = jn_W d 171 873 ls (.int (nI 1) :: st) M Q := by rw [← jn_k_1]; exact jn_W_eq (f := jn_iconst 1) rfl rfl
set_option maxRecDepth 100000 in
theorem jn_w171_873 {d : Nat} {ls : jn_Lo} {x y : Int32} {st : List Value} {M : jn_M} {Q : Option Value → jn_M → Prop} : jn_W d 171 873 ls (.int y :: .int x :: st) M Q = jn_W d 171 874 ls (.int (x + y) :: st) M Q := jn_W_eq (f := jn_iadd) rfl rfl
set_option maxRecDepth 100000 in
theorem jn_w171_874 {d : Nat} {ls : jn_Lo} {a : Nat} {i : Int32} {st : List Value} {M : jn_M} {Q : Option Value → jn_M → Prop} : jn_W d 171 874 ls (.int i :: .ref a :: st) M Q = (jn_aiO (jn_rs M a) 0 i = true ∧ jn_W d 171 875 ls (.int (jn_aiV (jn_rs M a) i) :: st) M Q) := jn_W_eqc (f := jn_iaload) rfl jn_iaload_e
set_option maxRecDepth 100000 in
theorem jn_w171_875 {d : Nat} {l1 l2 l3 : Option Value} {x : Nat} {st : List Value} {M : jn_M} {Q : Option Value → jn_M → Prop} : jn_W d 171 875 [some (.ref x), l1, l2, l3] (st) M Q = jn_W d 171 876 [some (.ref x), l1, l2, l3] (.ref x :: st) M Q := jn_W_eq (f := jn_aload_n 0) rfl rfl
set_option maxRecDepth 100000 in
theorem jn_w171_875n {d : Nat} {l1 l2 l3 : Option Value} {st : List Value} {M : jn_M} {Q : Option Value → jn_M → Prop} : jn_W d 171 875 [some .null, l1, l2, l3] (st) M Q = jn_W d 171 876 [some .null, l1, l2, l3] (.null :: st) M Q := jn_W_eq (f := jn_aload_n 0) rfl rfl
set_option maxRecDepth 100000 in
theorem jn_w171_876 {d : Nat} {l0 l1 l2 : Option Value} {x : Int32} {st : List Value} {M : jn_M} {Q : Option Value → jn_M → Prop} : jn_W d 171 876 [l0, l1, l2, some (.int x)] (st) M Q = jn_W d 171 877 [l0, l1, l2, some (.int x)] (.int x :: st) M Q := jn_W_eq (f := jn_iload_n 3) rfl rfl
set_option maxRecDepth 100000 in
theorem jn_w171_877 {d : Nat} {ls : jn_Lo} {st : List Value} {M : jn_M} {Q : Option Value → jn_M → Prop} : jn_W d 171 877 ls (st) M Q = jn_W d 171 878 ls (.int (nI 2) :: st) M Q := by rw [← jn_k_2]; exact jn_W_eq (f := jn_iconst 2) rfl rfl
set_option maxRecDepth 100000 in
theorem jn_w171_878 {d : Nat} {ls : jn_Lo} {x y : Int32} {st : List Value} {M : jn_M} {Q : Option Value → jn_M → Prop} : jn_W d 171 878 ls (.int y :: .int x :: st) M Q = jn_W d 171 879 ls (.int (x + y) :: st) M Q := jn_W_eq (f := jn_iadd) rfl rfl
set_option maxRecDepth 100000 in
theorem jn_w171_879 {d : Nat} {ls : jn_Lo} {a : Nat} {i : Int32} {st : List Value} {M : jn_M} {Q : Option Value → jn_M → Prop} : jn_W d 171 879 ls (.int i :: .ref a :: st) M Q = (jn_aiO (jn_rs M a) 0 i = true ∧ jn_W d 171 880 ls (.int (jn_aiV (jn_rs M a) i) :: st) M Q) := jn_W_eqc (f := jn_iaload) rfl jn_iaload_e
set_option maxRecDepth 100000 in
theorem jn_w171_880 {d : Nat} {ls : jn_Lo} {a0 : Nat} {a1 : Int32} {a2 : Int32} {k : Nat} {v : Option Value} {M1 : jn_M} {st : List Value} {M : jn_M} {Q : Option Value → jn_M → Prop} (h : jn_V 66 k [.ref a0, .int a1, .int a2] M v M1) (hk : 1 ≤ k ∧ k + 1 ≤ d) : jn_W d 171 880 ls (.int a2 :: .int a1 :: .ref a0 :: st) M Q = ((jn_sm 8 st = true ∧ jn_rc 8 M [.ref a0, .int a1, .int a2] = true) ∧ jn_W d 171 883 ls (v.toList ++ st) M1 Q) := jn_W_call (na := 3) rfl h hk rfl rfl (Nat.le_of_ble_eq_true rfl)
set_option maxRecDepth 100000 in
theorem jn_w171_883 {d : Nat} {l0 l1 l3 : Option Value} {x : Nat} {st : List Value} {M : jn_M} {Q : Option Value → jn_M → Prop} : jn_W d 171 883 [l0, l1, some (.ref x), l3] (st) M Q = jn_W d 171 884 [l0, l1, some (.ref x), l3] (.ref x :: st) M Q := jn_W_eq (f := jn_aload_n 2) rfl rfl
set_option maxRecDepth 100000 in
theorem jn_w171_883n {d : Nat} {l0 l1 l3 : Option Value} {st : List Value} {M : jn_M} {Q : Option Value → jn_M → Prop} : jn_W d 171 883 [l0, l1, some .null, l3] (st) M Q = jn_W d 171 884 [l0, l1, some .null, l3] (.null :: st) M Q := jn_W_eq (f := jn_aload_n 2) rfl rfl
set_option maxRecDepth 100000 in
theorem jn_w171_884 {d : Nat} {l1 l2 l3 : Option Value} {x : Nat} {st : List Value} {M : jn_M} {Q : Option Value → jn_M → Prop} : jn_W d 171 884 [some (.ref x), l1, l2, l3] (st) M Q = jn_W d 171 885 [some (.ref x), l1, l2, l3] (.ref x :: st) M Q := jn_W_eq (f := jn_aload_n 0) rfl rfl
set_option maxRecDepth 100000 in
theorem jn_w171_884n {d : Nat} {l1 l2 l3 : Option Value} {st : List Value} {M : jn_M} {Q : Option Value → jn_M → Prop} : jn_W d 171 884 [some .null, l1, l2, l3] (st) M Q = jn_W d 171 885 [some .null, l1, l2, l3] (.null :: st) M Q := jn_W_eq (f := jn_aload_n 0) rfl rfl
set_option maxRecDepth 100000 in
theorem jn_w171_885 {d : Nat} {l0 l1 l2 : Option Value} {x : Int32} {st : List Value} {M : jn_M} {Q : Option Value → jn_M → Prop} : jn_W d 171 885 [l0, l1, l2, some (.int x)] (st) M Q = jn_W d 171 886 [l0, l1, l2, some (.int x)] (.int x :: st) M Q := jn_W_eq (f := jn_iload_n 3) rfl rfl
set_option maxRecDepth 100000 in
theorem jn_w171_886 {d : Nat} {ls : jn_Lo} {st : List Value} {M : jn_M} {Q : Option Value → jn_M → Prop} : jn_W d 171 886 ls (st) M Q = jn_W d 171 887 ls (.int (nI 1) :: st) M Q := by rw [← jn_k_1]; exact jn_W_eq (f := jn_iconst 1) rfl rfl
set_option maxRecDepth 100000 in
theorem jn_w171_887 {d : Nat} {ls : jn_Lo} {x y : Int32} {st : List Value} {M : jn_M} {Q : Option Value → jn_M → Prop} : jn_W d 171 887 ls (.int y :: .int x :: st) M Q = jn_W d 171 888 ls (.int (x + y) :: st) M Q := jn_W_eq (f := jn_iadd) rfl rfl
set_option maxRecDepth 100000 in
theorem jn_w171_888 {d : Nat} {ls : jn_Lo} {a : Nat} {i : Int32} {st : List Value} {M : jn_M} {Q : Option Value → jn_M → Prop} : jn_W d 171 888 ls (.int i :: .ref a :: st) M Q = (jn_aiO (jn_rs M a) 0 i = true ∧ jn_W d 171 889 ls (.int (jn_aiV (jn_rs M a) i) :: st) M Q) := jn_W_eqc (f := jn_iaload) rfl jn_iaload_e
set_option maxRecDepth 100000 in
theorem jn_w171_889 {d : Nat} {l1 l2 l3 : Option Value} {x : Nat} {st : List Value} {M : jn_M} {Q : Option Value → jn_M → Prop} : jn_W d 171 889 [some (.ref x), l1, l2, l3] (st) M Q = jn_W d 171 890 [some (.ref x), l1, l2, l3] (.ref x :: st) M Q := jn_W_eq (f := jn_aload_n 0) rfl rfl
set_option maxRecDepth 100000 in
theorem jn_w171_889n {d : Nat} {l1 l2 l3 : Option Value} {st : List Value} {M : jn_M} {Q : Option Value → jn_M → Prop} : jn_W d 171 889 [some .null, l1, l2, l3] (st) M Q = jn_W d 171 890 [some .null, l1, l2, l3] (.null :: st) M Q := jn_W_eq (f := jn_aload_n 0) rfl rfl
set_option maxRecDepth 100000 in
theorem jn_w171_890 {d : Nat} {l0 l1 l2 : Option Value} {x : Int32} {st : List Value} {M : jn_M} {Q : Option Value → jn_M → Prop} : jn_W d 171 890 [l0, l1, l2, some (.int x)] (st) M Q = jn_W d 171 891 [l0, l1, l2, some (.int x)] (.int x :: st) M Q := jn_W_eq (f := jn_iload_n 3) rfl rfl
set_option maxRecDepth 100000 in
theorem jn_w171_891 {d : Nat} {ls : jn_Lo} {st : List Value} {M : jn_M} {Q : Option Value → jn_M → Prop} : jn_W d 171 891 ls (st) M Q = jn_W d 171 892 ls (.int (nI 2) :: st) M Q := by rw [← jn_k_2]; exact jn_W_eq (f := jn_iconst 2) rfl rfl
set_option maxRecDepth 100000 in
theorem jn_w171_892 {d : Nat} {ls : jn_Lo} {x y : Int32} {st : List Value} {M : jn_M} {Q : Option Value → jn_M → Prop} : jn_W d 171 892 ls (.int y :: .int x :: st) M Q = jn_W d 171 893 ls (.int (x + y) :: st) M Q := jn_W_eq (f := jn_iadd) rfl rfl
set_option maxRecDepth 100000 in
theorem jn_w171_893 {d : Nat} {ls : jn_Lo} {a : Nat} {i : Int32} {st : List Value} {M : jn_M} {Q : Option Value → jn_M → Prop} : jn_W d 171 893 ls (.int i :: .ref a :: st) M Q = (jn_aiO (jn_rs M a) 0 i = true ∧ jn_W d 171 894 ls (.int (jn_aiV (jn_rs M a) i) :: st) M Q) := jn_W_eqc (f := jn_iaload) rfl jn_iaload_e
set_option maxRecDepth 100000 in
theorem jn_w171_894 {d : Nat} {ls : jn_Lo} {a0 : Nat} {a1 : Int32} {a2 : Int32} {k : Nat} {v : Option Value} {M1 : jn_M} {st : List Value} {M : jn_M} {Q : Option Value → jn_M → Prop} (h : jn_V 143 k [.ref a0, .int a1, .int a2] M v M1) (hk : 1 ≤ k ∧ k + 1 ≤ d) : jn_W d 171 894 ls (.int a2 :: .int a1 :: .ref a0 :: st) M Q = ((jn_sm 8 st = true ∧ jn_rc 9 M [.ref a0, .int a1, .int a2] = true) ∧ jn_W d 171 897 ls (v.toList ++ st) M1 Q) := jn_W_call (na := 3) rfl h hk rfl rfl (Nat.le_of_ble_eq_true rfl)
set_option maxRecDepth 100000 in
theorem jn_w171_897 {d : Nat} {ls : jn_Lo} {x y : Int32} {st : List Value} {M : jn_M} {Q : Option Value → jn_M → Prop} : jn_W d 171 897 ls (.int y :: .int x :: st) M Q = if x = y then jn_W d 171 1252 ls (st) M Q else jn_W d 171 900 ls (st) M Q := jn_W_br (f := jn_iceq 1252) _ rfl rfl
set_option maxRecDepth 100000 in
theorem jn_w171_900 {d : Nat} {ls : jn_Lo} {st : List Value} {M : jn_M} {Q : Option Value → jn_M → Prop} : jn_W d 171 900 ls (st) M Q = jn_W d 171 901 ls (.int (nI 0) :: st) M Q := by rw [← jn_k_0]; exact jn_W_eq (f := jn_iconst 0) rfl rfl
set_option maxRecDepth 100000 in
theorem jn_w171_901 {d : Nat} {ls : jn_Lo} {v : Int32} {M : jn_M} {Q : Option Value → jn_M → Prop} : jn_W d 171 901 ls [.int v] M Q = (jn_zb v = true ∧ Q (some (.int v)) M) := jn_W_retc (k := 2) rfl jn_ret2_e
set_option maxRecDepth 100000 in
theorem jn_w171_902 {d : Nat} {l0 l2 l3 : Option Value} {x : Nat} {st : List Value} {M : jn_M} {Q : Option Value → jn_M → Prop} : jn_W d 171 902 [l0, some (.ref x), l2, l3] (st) M Q = jn_W d 171 903 [l0, some (.ref x), l2, l3] (.ref x :: st) M Q := jn_W_eq (f := jn_aload_n 1) rfl rfl
set_option maxRecDepth 100000 in
theorem jn_w171_902n {d : Nat} {l0 l2 l3 : Option Value} {st : List Value} {M : jn_M} {Q : Option Value → jn_M → Prop} : jn_W d 171 902 [l0, some .null, l2, l3] (st) M Q = jn_W d 171 903 [l0, some .null, l2, l3] (.null :: st) M Q := jn_W_eq (f := jn_aload_n 1) rfl rfl
set_option maxRecDepth 100000 in
theorem jn_w171_903 {d : Nat} {l1 l2 l3 : Option Value} {x : Nat} {st : List Value} {M : jn_M} {Q : Option Value → jn_M → Prop} : jn_W d 171 903 [some (.ref x), l1, l2, l3] (st) M Q = jn_W d 171 904 [some (.ref x), l1, l2, l3] (.ref x :: st) M Q := jn_W_eq (f := jn_aload_n 0) rfl rfl
set_option maxRecDepth 100000 in
theorem jn_w171_903n {d : Nat} {l1 l2 l3 : Option Value} {st : List Value} {M : jn_M} {Q : Option Value → jn_M → Prop} : jn_W d 171 903 [some .null, l1, l2, l3] (st) M Q = jn_W d 171 904 [some .null, l1, l2, l3] (.null :: st) M Q := jn_W_eq (f := jn_aload_n 0) rfl rfl
set_option maxRecDepth 100000 in
theorem jn_w171_904 {d : Nat} {l0 l1 l2 : Option Value} {x : Int32} {st : List Value} {M : jn_M} {Q : Option Value → jn_M → Prop} : jn_W d 171 904 [l0, l1, l2, some (.int x)] (st) M Q = jn_W d 171 905 [l0, l1, l2, some (.int x)] (.int x :: st) M Q := jn_W_eq (f := jn_iload_n 3) rfl rfl
set_option maxRecDepth 100000 in
theorem jn_w171_905 {d : Nat} {ls : jn_Lo} {st : List Value} {M : jn_M} {Q : Option Value → jn_M → Prop} : jn_W d 171 905 ls (st) M Q = jn_W d 171 906 ls (.int (nI 1) :: st) M Q := by rw [← jn_k_1]; exact jn_W_eq (f := jn_iconst 1) rfl rfl
set_option maxRecDepth 100000 in
theorem jn_w171_906 {d : Nat} {ls : jn_Lo} {x y : Int32} {st : List Value} {M : jn_M} {Q : Option Value → jn_M → Prop} : jn_W d 171 906 ls (.int y :: .int x :: st) M Q = jn_W d 171 907 ls (.int (x + y) :: st) M Q := jn_W_eq (f := jn_iadd) rfl rfl
set_option maxRecDepth 100000 in
theorem jn_w171_907 {d : Nat} {ls : jn_Lo} {a : Nat} {i : Int32} {st : List Value} {M : jn_M} {Q : Option Value → jn_M → Prop} : jn_W d 171 907 ls (.int i :: .ref a :: st) M Q = (jn_aiO (jn_rs M a) 0 i = true ∧ jn_W d 171 908 ls (.int (jn_aiV (jn_rs M a) i) :: st) M Q) := jn_W_eqc (f := jn_iaload) rfl jn_iaload_e
set_option maxRecDepth 100000 in
theorem jn_w171_908 {d : Nat} {l1 l2 l3 : Option Value} {x : Nat} {st : List Value} {M : jn_M} {Q : Option Value → jn_M → Prop} : jn_W d 171 908 [some (.ref x), l1, l2, l3] (st) M Q = jn_W d 171 909 [some (.ref x), l1, l2, l3] (.ref x :: st) M Q := jn_W_eq (f := jn_aload_n 0) rfl rfl
set_option maxRecDepth 100000 in
theorem jn_w171_908n {d : Nat} {l1 l2 l3 : Option Value} {st : List Value} {M : jn_M} {Q : Option Value → jn_M → Prop} : jn_W d 171 908 [some .null, l1, l2, l3] (st) M Q = jn_W d 171 909 [some .null, l1, l2, l3] (.null :: st) M Q := jn_W_eq (f := jn_aload_n 0) rfl rfl
set_option maxRecDepth 100000 in
theorem jn_w171_909 {d : Nat} {l0 l1 l2 : Option Value} {x : Int32} {st : List Value} {M : jn_M} {Q : Option Value → jn_M → Prop} : jn_W d 171 909 [l0, l1, l2, some (.int x)] (st) M Q = jn_W d 171 910 [l0, l1, l2, some (.int x)] (.int x :: st) M Q := jn_W_eq (f := jn_iload_n 3) rfl rfl
set_option maxRecDepth 100000 in
theorem jn_w171_910 {d : Nat} {ls : jn_Lo} {st : List Value} {M : jn_M} {Q : Option Value → jn_M → Prop} : jn_W d 171 910 ls (st) M Q = jn_W d 171 911 ls (.int (nI 2) :: st) M Q := by rw [← jn_k_2]; exact jn_W_eq (f := jn_iconst 2) rfl rfl
set_option maxRecDepth 100000 in
theorem jn_w171_911 {d : Nat} {ls : jn_Lo} {x y : Int32} {st : List Value} {M : jn_M} {Q : Option Value → jn_M → Prop} : jn_W d 171 911 ls (.int y :: .int x :: st) M Q = jn_W d 171 912 ls (.int (x + y) :: st) M Q := jn_W_eq (f := jn_iadd) rfl rfl
set_option maxRecDepth 100000 in
theorem jn_w171_912 {d : Nat} {ls : jn_Lo} {a : Nat} {i : Int32} {st : List Value} {M : jn_M} {Q : Option Value → jn_M → Prop} : jn_W d 171 912 ls (.int i :: .ref a :: st) M Q = (jn_aiO (jn_rs M a) 0 i = true ∧ jn_W d 171 913 ls (.int (jn_aiV (jn_rs M a) i) :: st) M Q) := jn_W_eqc (f := jn_iaload) rfl jn_iaload_e
set_option maxRecDepth 100000 in
theorem jn_w171_913 {d : Nat} {ls : jn_Lo} {a0 : Nat} {a1 : Int32} {a2 : Int32} {k : Nat} {v : Option Value} {M1 : jn_M} {st : List Value} {M : jn_M} {Q : Option Value → jn_M → Prop} (h : jn_V 67 k [.ref a0, .int a1, .int a2] M v M1) (hk : 1 ≤ k ∧ k + 1 ≤ d) : jn_W d 171 913 ls (.int a2 :: .int a1 :: .ref a0 :: st) M Q = ((jn_sm 8 st = true ∧ jn_rc 8 M [.ref a0, .int a1, .int a2] = true) ∧ jn_W d 171 916 ls (v.toList ++ st) M1 Q) := jn_W_call (na := 3) rfl h hk rfl rfl (Nat.le_of_ble_eq_true rfl)
set_option maxRecDepth 100000 in
theorem jn_w171_916 {d : Nat} {l0 l1 l3 : Option Value} {x : Nat} {st : List Value} {M : jn_M} {Q : Option Value → jn_M → Prop} : jn_W d 171 916 [l0, l1, some (.ref x), l3] (st) M Q = jn_W d 171 917 [l0, l1, some (.ref x), l3] (.ref x :: st) M Q := jn_W_eq (f := jn_aload_n 2) rfl rfl
set_option maxRecDepth 100000 in
theorem jn_w171_916n {d : Nat} {l0 l1 l3 : Option Value} {st : List Value} {M : jn_M} {Q : Option Value → jn_M → Prop} : jn_W d 171 916 [l0, l1, some .null, l3] (st) M Q = jn_W d 171 917 [l0, l1, some .null, l3] (.null :: st) M Q := jn_W_eq (f := jn_aload_n 2) rfl rfl
set_option maxRecDepth 100000 in
theorem jn_w171_917 {d : Nat} {l1 l2 l3 : Option Value} {x : Nat} {st : List Value} {M : jn_M} {Q : Option Value → jn_M → Prop} : jn_W d 171 917 [some (.ref x), l1, l2, l3] (st) M Q = jn_W d 171 918 [some (.ref x), l1, l2, l3] (.ref x :: st) M Q := jn_W_eq (f := jn_aload_n 0) rfl rfl
set_option maxRecDepth 100000 in
theorem jn_w171_917n {d : Nat} {l1 l2 l3 : Option Value} {st : List Value} {M : jn_M} {Q : Option Value → jn_M → Prop} : jn_W d 171 917 [some .null, l1, l2, l3] (st) M Q = jn_W d 171 918 [some .null, l1, l2, l3] (.null :: st) M Q := jn_W_eq (f := jn_aload_n 0) rfl rfl
set_option maxRecDepth 100000 in
theorem jn_w171_918 {d : Nat} {l0 l1 l2 : Option Value} {x : Int32} {st : List Value} {M : jn_M} {Q : Option Value → jn_M → Prop} : jn_W d 171 918 [l0, l1, l2, some (.int x)] (st) M Q = jn_W d 171 919 [l0, l1, l2, some (.int x)] (.int x :: st) M Q := jn_W_eq (f := jn_iload_n 3) rfl rfl
set_option maxRecDepth 100000 in
theorem jn_w171_919 {d : Nat} {ls : jn_Lo} {st : List Value} {M : jn_M} {Q : Option Value → jn_M → Prop} : jn_W d 171 919 ls (st) M Q = jn_W d 171 920 ls (.int (nI 1) :: st) M Q := by rw [← jn_k_1]; exact jn_W_eq (f := jn_iconst 1) rfl rfl
set_option maxRecDepth 100000 in
theorem jn_w171_920 {d : Nat} {ls : jn_Lo} {x y : Int32} {st : List Value} {M : jn_M} {Q : Option Value → jn_M → Prop} : jn_W d 171 920 ls (.int y :: .int x :: st) M Q = jn_W d 171 921 ls (.int (x + y) :: st) M Q := jn_W_eq (f := jn_iadd) rfl rfl
set_option maxRecDepth 100000 in
theorem jn_w171_921 {d : Nat} {ls : jn_Lo} {a : Nat} {i : Int32} {st : List Value} {M : jn_M} {Q : Option Value → jn_M → Prop} : jn_W d 171 921 ls (.int i :: .ref a :: st) M Q = (jn_aiO (jn_rs M a) 0 i = true ∧ jn_W d 171 922 ls (.int (jn_aiV (jn_rs M a) i) :: st) M Q) := jn_W_eqc (f := jn_iaload) rfl jn_iaload_e
set_option maxRecDepth 100000 in
theorem jn_w171_922 {d : Nat} {l1 l2 l3 : Option Value} {x : Nat} {st : List Value} {M : jn_M} {Q : Option Value → jn_M → Prop} : jn_W d 171 922 [some (.ref x), l1, l2, l3] (st) M Q = jn_W d 171 923 [some (.ref x), l1, l2, l3] (.ref x :: st) M Q := jn_W_eq (f := jn_aload_n 0) rfl rfl
set_option maxRecDepth 100000 in
theorem jn_w171_922n {d : Nat} {l1 l2 l3 : Option Value} {st : List Value} {M : jn_M} {Q : Option Value → jn_M → Prop} : jn_W d 171 922 [some .null, l1, l2, l3] (st) M Q = jn_W d 171 923 [some .null, l1, l2, l3] (.null :: st) M Q := jn_W_eq (f := jn_aload_n 0) rfl rfl
set_option maxRecDepth 100000 in
theorem jn_w171_923 {d : Nat} {l0 l1 l2 : Option Value} {x : Int32} {st : List Value} {M : jn_M} {Q : Option Value → jn_M → Prop} : jn_W d 171 923 [l0, l1, l2, some (.int x)] (st) M Q = jn_W d 171 924 [l0, l1, l2, some (.int x)] (.int x :: st) M Q := jn_W_eq (f := jn_iload_n 3) rfl rfl
set_option maxRecDepth 100000 in
theorem jn_w171_924 {d : Nat} {ls : jn_Lo} {st : List Value} {M : jn_M} {Q : Option Value → jn_M → Prop} : jn_W d 171 924 ls (st) M Q = jn_W d 171 925 ls (.int (nI 2) :: st) M Q := by rw [← jn_k_2]; exact jn_W_eq (f := jn_iconst 2) rfl rfl
set_option maxRecDepth 100000 in
theorem jn_w171_925 {d : Nat} {ls : jn_Lo} {x y : Int32} {st : List Value} {M : jn_M} {Q : Option Value → jn_M → Prop} : jn_W d 171 925 ls (.int y :: .int x :: st) M Q = jn_W d 171 926 ls (.int (x + y) :: st) M Q := jn_W_eq (f := jn_iadd) rfl rfl
set_option maxRecDepth 100000 in
theorem jn_w171_926 {d : Nat} {ls : jn_Lo} {a : Nat} {i : Int32} {st : List Value} {M : jn_M} {Q : Option Value → jn_M → Prop} : jn_W d 171 926 ls (.int i :: .ref a :: st) M Q = (jn_aiO (jn_rs M a) 0 i = true ∧ jn_W d 171 927 ls (.int (jn_aiV (jn_rs M a) i) :: st) M Q) := jn_W_eqc (f := jn_iaload) rfl jn_iaload_e
set_option maxRecDepth 100000 in
theorem jn_w171_927 {d : Nat} {ls : jn_Lo} {a0 : Nat} {a1 : Int32} {a2 : Int32} {k : Nat} {v : Option Value} {M1 : jn_M} {st : List Value} {M : jn_M} {Q : Option Value → jn_M → Prop} (h : jn_V 144 k [.ref a0, .int a1, .int a2] M v M1) (hk : 1 ≤ k ∧ k + 1 ≤ d) : jn_W d 171 927 ls (.int a2 :: .int a1 :: .ref a0 :: st) M Q = ((jn_sm 8 st = true ∧ jn_rc 9 M [.ref a0, .int a1, .int a2] = true) ∧ jn_W d 171 930 ls (v.toList ++ st) M1 Q) := jn_W_call (na := 3) rfl h hk rfl rfl (Nat.le_of_ble_eq_true rfl)
set_option maxRecDepth 100000 in
theorem jn_w171_930 {d : Nat} {ls : jn_Lo} {x y : Int32} {st : List Value} {M : jn_M} {Q : Option Value → jn_M → Prop} : jn_W d 171 930 ls (.int y :: .int x :: st) M Q = if x = y then jn_W d 171 1252 ls (st) M Q else jn_W d 171 933 ls (st) M Q := jn_W_br (f := jn_iceq 1252) _ rfl rfl
set_option maxRecDepth 100000 in
theorem jn_w171_933 {d : Nat} {ls : jn_Lo} {st : List Value} {M : jn_M} {Q : Option Value → jn_M → Prop} : jn_W d 171 933 ls (st) M Q = jn_W d 171 934 ls (.int (nI 0) :: st) M Q := by rw [← jn_k_0]; exact jn_W_eq (f := jn_iconst 0) rfl rfl
set_option maxRecDepth 100000 in
theorem jn_w171_934 {d : Nat} {ls : jn_Lo} {v : Int32} {M : jn_M} {Q : Option Value → jn_M → Prop} : jn_W d 171 934 ls [.int v] M Q = (jn_zb v = true ∧ Q (some (.int v)) M) := jn_W_retc (k := 2) rfl jn_ret2_e
set_option maxRecDepth 100000 in
theorem jn_w171_935 {d : Nat} {l0 l2 l3 : Option Value} {x : Nat} {st : List Value} {M : jn_M} {Q : Option Value → jn_M → Prop} : jn_W d 171 935 [l0, some (.ref x), l2, l3] (st) M Q = jn_W d 171 936 [l0, some (.ref x), l2, l3] (.ref x :: st) M Q := jn_W_eq (f := jn_aload_n 1) rfl rfl
set_option maxRecDepth 100000 in
theorem jn_w171_935n {d : Nat} {l0 l2 l3 : Option Value} {st : List Value} {M : jn_M} {Q : Option Value → jn_M → Prop} : jn_W d 171 935 [l0, some .null, l2, l3] (st) M Q = jn_W d 171 936 [l0, some .null, l2, l3] (.null :: st) M Q := jn_W_eq (f := jn_aload_n 1) rfl rfl
set_option maxRecDepth 100000 in
theorem jn_w171_936 {d : Nat} {l1 l2 l3 : Option Value} {x : Nat} {st : List Value} {M : jn_M} {Q : Option Value → jn_M → Prop} : jn_W d 171 936 [some (.ref x), l1, l2, l3] (st) M Q = jn_W d 171 937 [some (.ref x), l1, l2, l3] (.ref x :: st) M Q := jn_W_eq (f := jn_aload_n 0) rfl rfl
set_option maxRecDepth 100000 in
theorem jn_w171_936n {d : Nat} {l1 l2 l3 : Option Value} {st : List Value} {M : jn_M} {Q : Option Value → jn_M → Prop} : jn_W d 171 936 [some .null, l1, l2, l3] (st) M Q = jn_W d 171 937 [some .null, l1, l2, l3] (.null :: st) M Q := jn_W_eq (f := jn_aload_n 0) rfl rfl
set_option maxRecDepth 100000 in
theorem jn_w171_937 {d : Nat} {l0 l1 l2 : Option Value} {x : Int32} {st : List Value} {M : jn_M} {Q : Option Value → jn_M → Prop} : jn_W d 171 937 [l0, l1, l2, some (.int x)] (st) M Q = jn_W d 171 938 [l0, l1, l2, some (.int x)] (.int x :: st) M Q := jn_W_eq (f := jn_iload_n 3) rfl rfl
set_option maxRecDepth 100000 in
theorem jn_w171_938 {d : Nat} {ls : jn_Lo} {st : List Value} {M : jn_M} {Q : Option Value → jn_M → Prop} : jn_W d 171 938 ls (st) M Q = jn_W d 171 939 ls (.int (nI 1) :: st) M Q := by rw [← jn_k_1]; exact jn_W_eq (f := jn_iconst 1) rfl rfl
set_option maxRecDepth 100000 in
theorem jn_w171_939 {d : Nat} {ls : jn_Lo} {x y : Int32} {st : List Value} {M : jn_M} {Q : Option Value → jn_M → Prop} : jn_W d 171 939 ls (.int y :: .int x :: st) M Q = jn_W d 171 940 ls (.int (x + y) :: st) M Q := jn_W_eq (f := jn_iadd) rfl rfl
set_option maxRecDepth 100000 in
theorem jn_w171_940 {d : Nat} {ls : jn_Lo} {a : Nat} {i : Int32} {st : List Value} {M : jn_M} {Q : Option Value → jn_M → Prop} : jn_W d 171 940 ls (.int i :: .ref a :: st) M Q = (jn_aiO (jn_rs M a) 0 i = true ∧ jn_W d 171 941 ls (.int (jn_aiV (jn_rs M a) i) :: st) M Q) := jn_W_eqc (f := jn_iaload) rfl jn_iaload_e
set_option maxRecDepth 100000 in
theorem jn_w171_941 {d : Nat} {ls : jn_Lo} {a0 : Nat} {a1 : Int32} {k : Nat} {v : Option Value} {M1 : jn_M} {st : List Value} {M : jn_M} {Q : Option Value → jn_M → Prop} (h : jn_V 68 k [.ref a0, .int a1] M v M1) (hk : 1 ≤ k ∧ k + 1 ≤ d) : jn_W d 171 941 ls (.int a1 :: .ref a0 :: st) M Q = ((jn_sm 8 st = true ∧ jn_rc 8 M [.ref a0, .int a1] = true) ∧ jn_W d 171 944 ls (v.toList ++ st) M1 Q) := jn_W_call (na := 2) rfl h hk rfl rfl (Nat.le_of_ble_eq_true rfl)
set_option maxRecDepth 100000 in
theorem jn_w171_944 {d : Nat} {l0 l1 l3 : Option Value} {x : Nat} {st : List Value} {M : jn_M} {Q : Option Value → jn_M → Prop} : jn_W d 171 944 [l0, l1, some (.ref x), l3] (st) M Q = jn_W d 171 945 [l0, l1, some (.ref x), l3] (.ref x :: st) M Q := jn_W_eq (f := jn_aload_n 2) rfl rfl
set_option maxRecDepth 100000 in
theorem jn_w171_944n {d : Nat} {l0 l1 l3 : Option Value} {st : List Value} {M : jn_M} {Q : Option Value → jn_M → Prop} : jn_W d 171 944 [l0, l1, some .null, l3] (st) M Q = jn_W d 171 945 [l0, l1, some .null, l3] (.null :: st) M Q := jn_W_eq (f := jn_aload_n 2) rfl rfl
set_option maxRecDepth 100000 in
theorem jn_w171_945 {d : Nat} {l1 l2 l3 : Option Value} {x : Nat} {st : List Value} {M : jn_M} {Q : Option Value → jn_M → Prop} : jn_W d 171 945 [some (.ref x), l1, l2, l3] (st) M Q = jn_W d 171 946 [some (.ref x), l1, l2, l3] (.ref x :: st) M Q := jn_W_eq (f := jn_aload_n 0) rfl rfl
set_option maxRecDepth 100000 in
theorem jn_w171_945n {d : Nat} {l1 l2 l3 : Option Value} {st : List Value} {M : jn_M} {Q : Option Value → jn_M → Prop} : jn_W d 171 945 [some .null, l1, l2, l3] (st) M Q = jn_W d 171 946 [some .null, l1, l2, l3] (.null :: st) M Q := jn_W_eq (f := jn_aload_n 0) rfl rfl
set_option maxRecDepth 100000 in
theorem jn_w171_946 {d : Nat} {l0 l1 l2 : Option Value} {x : Int32} {st : List Value} {M : jn_M} {Q : Option Value → jn_M → Prop} : jn_W d 171 946 [l0, l1, l2, some (.int x)] (st) M Q = jn_W d 171 947 [l0, l1, l2, some (.int x)] (.int x :: st) M Q := jn_W_eq (f := jn_iload_n 3) rfl rfl
set_option maxRecDepth 100000 in
theorem jn_w171_947 {d : Nat} {ls : jn_Lo} {st : List Value} {M : jn_M} {Q : Option Value → jn_M → Prop} : jn_W d 171 947 ls (st) M Q = jn_W d 171 948 ls (.int (nI 1) :: st) M Q := by rw [← jn_k_1]; exact jn_W_eq (f := jn_iconst 1) rfl rfl
set_option maxRecDepth 100000 in
theorem jn_w171_948 {d : Nat} {ls : jn_Lo} {x y : Int32} {st : List Value} {M : jn_M} {Q : Option Value → jn_M → Prop} : jn_W d 171 948 ls (.int y :: .int x :: st) M Q = jn_W d 171 949 ls (.int (x + y) :: st) M Q := jn_W_eq (f := jn_iadd) rfl rfl
set_option maxRecDepth 100000 in
theorem jn_w171_949 {d : Nat} {ls : jn_Lo} {a : Nat} {i : Int32} {st : List Value} {M : jn_M} {Q : Option Value → jn_M → Prop} : jn_W d 171 949 ls (.int i :: .ref a :: st) M Q = (jn_aiO (jn_rs M a) 0 i = true ∧ jn_W d 171 950 ls (.int (jn_aiV (jn_rs M a) i) :: st) M Q) := jn_W_eqc (f := jn_iaload) rfl jn_iaload_e
set_option maxRecDepth 100000 in
theorem jn_w171_950 {d : Nat} {ls : jn_Lo} {a0 : Nat} {a1 : Int32} {k : Nat} {v : Option Value} {M1 : jn_M} {st : List Value} {M : jn_M} {Q : Option Value → jn_M → Prop} (h : jn_V 146 k [.ref a0, .int a1] M v M1) (hk : 1 ≤ k ∧ k + 1 ≤ d) : jn_W d 171 950 ls (.int a1 :: .ref a0 :: st) M Q = ((jn_sm 8 st = true ∧ jn_rc 9 M [.ref a0, .int a1] = true) ∧ jn_W d 171 953 ls (v.toList ++ st) M1 Q) := jn_W_call (na := 2) rfl h hk rfl rfl (Nat.le_of_ble_eq_true rfl)
set_option maxRecDepth 100000 in
theorem jn_w171_953 {d : Nat} {ls : jn_Lo} {x y : Int32} {st : List Value} {M : jn_M} {Q : Option Value → jn_M → Prop} : jn_W d 171 953 ls (.int y :: .int x :: st) M Q = if x = y then jn_W d 171 1252 ls (st) M Q else jn_W d 171 956 ls (st) M Q := jn_W_br (f := jn_iceq 1252) _ rfl rfl
set_option maxRecDepth 100000 in
theorem jn_w171_956 {d : Nat} {ls : jn_Lo} {st : List Value} {M : jn_M} {Q : Option Value → jn_M → Prop} : jn_W d 171 956 ls (st) M Q = jn_W d 171 957 ls (.int (nI 0) :: st) M Q := by rw [← jn_k_0]; exact jn_W_eq (f := jn_iconst 0) rfl rfl
set_option maxRecDepth 100000 in
theorem jn_w171_957 {d : Nat} {ls : jn_Lo} {v : Int32} {M : jn_M} {Q : Option Value → jn_M → Prop} : jn_W d 171 957 ls [.int v] M Q = (jn_zb v = true ∧ Q (some (.int v)) M) := jn_W_retc (k := 2) rfl jn_ret2_e
set_option maxRecDepth 100000 in
theorem jn_w171_958 {d : Nat} {l0 l2 l3 : Option Value} {x : Nat} {st : List Value} {M : jn_M} {Q : Option Value → jn_M → Prop} : jn_W d 171 958 [l0, some (.ref x), l2, l3] (st) M Q = jn_W d 171 959 [l0, some (.ref x), l2, l3] (.ref x :: st) M Q := jn_W_eq (f := jn_aload_n 1) rfl rfl
set_option maxRecDepth 100000 in
theorem jn_w171_958n {d : Nat} {l0 l2 l3 : Option Value} {st : List Value} {M : jn_M} {Q : Option Value → jn_M → Prop} : jn_W d 171 958 [l0, some .null, l2, l3] (st) M Q = jn_W d 171 959 [l0, some .null, l2, l3] (.null :: st) M Q := jn_W_eq (f := jn_aload_n 1) rfl rfl
set_option maxRecDepth 100000 in
theorem jn_w171_959 {d : Nat} {l1 l2 l3 : Option Value} {x : Nat} {st : List Value} {M : jn_M} {Q : Option Value → jn_M → Prop} : jn_W d 171 959 [some (.ref x), l1, l2, l3] (st) M Q = jn_W d 171 960 [some (.ref x), l1, l2, l3] (.ref x :: st) M Q := jn_W_eq (f := jn_aload_n 0) rfl rfl
set_option maxRecDepth 100000 in
theorem jn_w171_959n {d : Nat} {l1 l2 l3 : Option Value} {st : List Value} {M : jn_M} {Q : Option Value → jn_M → Prop} : jn_W d 171 959 [some .null, l1, l2, l3] (st) M Q = jn_W d 171 960 [some .null, l1, l2, l3] (.null :: st) M Q := jn_W_eq (f := jn_aload_n 0) rfl rfl
set_option maxRecDepth 100000 in
theorem jn_w171_960 {d : Nat} {l0 l1 l2 : Option Value} {x : Int32} {st : List Value} {M : jn_M} {Q : Option Value → jn_M → Prop} : jn_W d 171 960 [l0, l1, l2, some (.int x)] (st) M Q = jn_W d 171 961 [l0, l1, l2, some (.int x)] (.int x :: st) M Q := jn_W_eq (f := jn_iload_n 3) rfl rfl
set_option maxRecDepth 100000 in
theorem jn_w171_961 {d : Nat} {ls : jn_Lo} {st : List Value} {M : jn_M} {Q : Option Value → jn_M → Prop} : jn_W d 171 961 ls (st) M Q = jn_W d 171 962 ls (.int (nI 1) :: st) M Q := by rw [← jn_k_1]; exact jn_W_eq (f := jn_iconst 1) rfl rfl
set_option maxRecDepth 100000 in
theorem jn_w171_962 {d : Nat} {ls : jn_Lo} {x y : Int32} {st : List Value} {M : jn_M} {Q : Option Value → jn_M → Prop} : jn_W d 171 962 ls (.int y :: .int x :: st) M Q = jn_W d 171 963 ls (.int (x + y) :: st) M Q := jn_W_eq (f := jn_iadd) rfl rfl
set_option maxRecDepth 100000 in
theorem jn_w171_963 {d : Nat} {ls : jn_Lo} {a : Nat} {i : Int32} {st : List Value} {M : jn_M} {Q : Option Value → jn_M → Prop} : jn_W d 171 963 ls (.int i :: .ref a :: st) M Q = (jn_aiO (jn_rs M a) 0 i = true ∧ jn_W d 171 964 ls (.int (jn_aiV (jn_rs M a) i) :: st) M Q) := jn_W_eqc (f := jn_iaload) rfl jn_iaload_e
set_option maxRecDepth 100000 in
theorem jn_w171_964 {d : Nat} {ls : jn_Lo} {a0 : Nat} {a1 : Int32} {k : Nat} {v : Option Value} {M1 : jn_M} {st : List Value} {M : jn_M} {Q : Option Value → jn_M → Prop} (h : jn_V 69 k [.ref a0, .int a1] M v M1) (hk : 1 ≤ k ∧ k + 1 ≤ d) : jn_W d 171 964 ls (.int a1 :: .ref a0 :: st) M Q = ((jn_sm 8 st = true ∧ jn_rc 8 M [.ref a0, .int a1] = true) ∧ jn_W d 171 967 ls (v.toList ++ st) M1 Q) := jn_W_call (na := 2) rfl h hk rfl rfl (Nat.le_of_ble_eq_true rfl)
set_option maxRecDepth 100000 in
theorem jn_w171_967 {d : Nat} {l0 l1 l3 : Option Value} {x : Nat} {st : List Value} {M : jn_M} {Q : Option Value → jn_M → Prop} : jn_W d 171 967 [l0, l1, some (.ref x), l3] (st) M Q = jn_W d 171 968 [l0, l1, some (.ref x), l3] (.ref x :: st) M Q := jn_W_eq (f := jn_aload_n 2) rfl rfl
set_option maxRecDepth 100000 in
theorem jn_w171_967n {d : Nat} {l0 l1 l3 : Option Value} {st : List Value} {M : jn_M} {Q : Option Value → jn_M → Prop} : jn_W d 171 967 [l0, l1, some .null, l3] (st) M Q = jn_W d 171 968 [l0, l1, some .null, l3] (.null :: st) M Q := jn_W_eq (f := jn_aload_n 2) rfl rfl
set_option maxRecDepth 100000 in
theorem jn_w171_968 {d : Nat} {l1 l2 l3 : Option Value} {x : Nat} {st : List Value} {M : jn_M} {Q : Option Value → jn_M → Prop} : jn_W d 171 968 [some (.ref x), l1, l2, l3] (st) M Q = jn_W d 171 969 [some (.ref x), l1, l2, l3] (.ref x :: st) M Q := jn_W_eq (f := jn_aload_n 0) rfl rfl
set_option maxRecDepth 100000 in
theorem jn_w171_968n {d : Nat} {l1 l2 l3 : Option Value} {st : List Value} {M : jn_M} {Q : Option Value → jn_M → Prop} : jn_W d 171 968 [some .null, l1, l2, l3] (st) M Q = jn_W d 171 969 [some .null, l1, l2, l3] (.null :: st) M Q := jn_W_eq (f := jn_aload_n 0) rfl rfl
set_option maxRecDepth 100000 in
theorem jn_w171_969 {d : Nat} {l0 l1 l2 : Option Value} {x : Int32} {st : List Value} {M : jn_M} {Q : Option Value → jn_M → Prop} : jn_W d 171 969 [l0, l1, l2, some (.int x)] (st) M Q = jn_W d 171 970 [l0, l1, l2, some (.int x)] (.int x :: st) M Q := jn_W_eq (f := jn_iload_n 3) rfl rfl
set_option maxRecDepth 100000 in
theorem jn_w171_970 {d : Nat} {ls : jn_Lo} {st : List Value} {M : jn_M} {Q : Option Value → jn_M → Prop} : jn_W d 171 970 ls (st) M Q = jn_W d 171 971 ls (.int (nI 1) :: st) M Q := by rw [← jn_k_1]; exact jn_W_eq (f := jn_iconst 1) rfl rfl
set_option maxRecDepth 100000 in
theorem jn_w171_971 {d : Nat} {ls : jn_Lo} {x y : Int32} {st : List Value} {M : jn_M} {Q : Option Value → jn_M → Prop} : jn_W d 171 971 ls (.int y :: .int x :: st) M Q = jn_W d 171 972 ls (.int (x + y) :: st) M Q := jn_W_eq (f := jn_iadd) rfl rfl
set_option maxRecDepth 100000 in
theorem jn_w171_972 {d : Nat} {ls : jn_Lo} {a : Nat} {i : Int32} {st : List Value} {M : jn_M} {Q : Option Value → jn_M → Prop} : jn_W d 171 972 ls (.int i :: .ref a :: st) M Q = (jn_aiO (jn_rs M a) 0 i = true ∧ jn_W d 171 973 ls (.int (jn_aiV (jn_rs M a) i) :: st) M Q) := jn_W_eqc (f := jn_iaload) rfl jn_iaload_e
set_option maxRecDepth 100000 in
theorem jn_w171_973 {d : Nat} {ls : jn_Lo} {a0 : Nat} {a1 : Int32} {k : Nat} {v : Option Value} {M1 : jn_M} {st : List Value} {M : jn_M} {Q : Option Value → jn_M → Prop} (h : jn_V 153 k [.ref a0, .int a1] M v M1) (hk : 1 ≤ k ∧ k + 1 ≤ d) : jn_W d 171 973 ls (.int a1 :: .ref a0 :: st) M Q = ((jn_sm 8 st = true ∧ jn_rc 9 M [.ref a0, .int a1] = true) ∧ jn_W d 171 976 ls (v.toList ++ st) M1 Q) := jn_W_call (na := 2) rfl h hk rfl rfl (Nat.le_of_ble_eq_true rfl)
set_option maxRecDepth 100000 in
theorem jn_w171_976 {d : Nat} {ls : jn_Lo} {x y : Int32} {st : List Value} {M : jn_M} {Q : Option Value → jn_M → Prop} : jn_W d 171 976 ls (.int y :: .int x :: st) M Q = if x = y then jn_W d 171 1252 ls (st) M Q else jn_W d 171 979 ls (st) M Q := jn_W_br (f := jn_iceq 1252) _ rfl rfl
set_option maxRecDepth 100000 in
theorem jn_w171_979 {d : Nat} {ls : jn_Lo} {st : List Value} {M : jn_M} {Q : Option Value → jn_M → Prop} : jn_W d 171 979 ls (st) M Q = jn_W d 171 980 ls (.int (nI 0) :: st) M Q := by rw [← jn_k_0]; exact jn_W_eq (f := jn_iconst 0) rfl rfl
set_option maxRecDepth 100000 in
theorem jn_w171_980 {d : Nat} {ls : jn_Lo} {v : Int32} {M : jn_M} {Q : Option Value → jn_M → Prop} : jn_W d 171 980 ls [.int v] M Q = (jn_zb v = true ∧ Q (some (.int v)) M) := jn_W_retc (k := 2) rfl jn_ret2_e
set_option maxRecDepth 100000 in
theorem jn_w171_981 {d : Nat} {l0 l2 l3 : Option Value} {x : Nat} {st : List Value} {M : jn_M} {Q : Option Value → jn_M → Prop} : jn_W d 171 981 [l0, some (.ref x), l2, l3] (st) M Q = jn_W d 171 982 [l0, some (.ref x), l2, l3] (.ref x :: st) M Q := jn_W_eq (f := jn_aload_n 1) rfl rfl
set_option maxRecDepth 100000 in
theorem jn_w171_981n {d : Nat} {l0 l2 l3 : Option Value} {st : List Value} {M : jn_M} {Q : Option Value → jn_M → Prop} : jn_W d 171 981 [l0, some .null, l2, l3] (st) M Q = jn_W d 171 982 [l0, some .null, l2, l3] (.null :: st) M Q := jn_W_eq (f := jn_aload_n 1) rfl rfl
set_option maxRecDepth 100000 in
theorem jn_w171_982 {d : Nat} {l1 l2 l3 : Option Value} {x : Nat} {st : List Value} {M : jn_M} {Q : Option Value → jn_M → Prop} : jn_W d 171 982 [some (.ref x), l1, l2, l3] (st) M Q = jn_W d 171 983 [some (.ref x), l1, l2, l3] (.ref x :: st) M Q := jn_W_eq (f := jn_aload_n 0) rfl rfl
set_option maxRecDepth 100000 in
theorem jn_w171_982n {d : Nat} {l1 l2 l3 : Option Value} {st : List Value} {M : jn_M} {Q : Option Value → jn_M → Prop} : jn_W d 171 982 [some .null, l1, l2, l3] (st) M Q = jn_W d 171 983 [some .null, l1, l2, l3] (.null :: st) M Q := jn_W_eq (f := jn_aload_n 0) rfl rfl
set_option maxRecDepth 100000 in
theorem jn_w171_983 {d : Nat} {l0 l1 l2 : Option Value} {x : Int32} {st : List Value} {M : jn_M} {Q : Option Value → jn_M → Prop} : jn_W d 171 983 [l0, l1, l2, some (.int x)] (st) M Q = jn_W d 171 984 [l0, l1, l2, some (.int x)] (.int x :: st) M Q := jn_W_eq (f := jn_iload_n 3) rfl rfl
set_option maxRecDepth 100000 in
theorem jn_w171_984 {d : Nat} {ls : jn_Lo} {st : List Value} {M : jn_M} {Q : Option Value → jn_M → Prop} : jn_W d 171 984 ls (st) M Q = jn_W d 171 985 ls (.int (nI 1) :: st) M Q := by rw [← jn_k_1]; exact jn_W_eq (f := jn_iconst 1) rfl rfl
set_option maxRecDepth 100000 in
theorem jn_w171_985 {d : Nat} {ls : jn_Lo} {x y : Int32} {st : List Value} {M : jn_M} {Q : Option Value → jn_M → Prop} : jn_W d 171 985 ls (.int y :: .int x :: st) M Q = jn_W d 171 986 ls (.int (x + y) :: st) M Q := jn_W_eq (f := jn_iadd) rfl rfl
set_option maxRecDepth 100000 in
theorem jn_w171_986 {d : Nat} {ls : jn_Lo} {a : Nat} {i : Int32} {st : List Value} {M : jn_M} {Q : Option Value → jn_M → Prop} : jn_W d 171 986 ls (.int i :: .ref a :: st) M Q = (jn_aiO (jn_rs M a) 0 i = true ∧ jn_W d 171 987 ls (.int (jn_aiV (jn_rs M a) i) :: st) M Q) := jn_W_eqc (f := jn_iaload) rfl jn_iaload_e
set_option maxRecDepth 100000 in
theorem jn_w171_987 {d : Nat} {ls : jn_Lo} {a0 : Nat} {a1 : Int32} {k : Nat} {v : Option Value} {M1 : jn_M} {st : List Value} {M : jn_M} {Q : Option Value → jn_M → Prop} (h : jn_V 70 k [.ref a0, .int a1] M v M1) (hk : 1 ≤ k ∧ k + 1 ≤ d) : jn_W d 171 987 ls (.int a1 :: .ref a0 :: st) M Q = ((jn_sm 8 st = true ∧ jn_rc 8 M [.ref a0, .int a1] = true) ∧ jn_W d 171 990 ls (v.toList ++ st) M1 Q) := jn_W_call (na := 2) rfl h hk rfl rfl (Nat.le_of_ble_eq_true rfl)
set_option maxRecDepth 100000 in
theorem jn_w171_990 {d : Nat} {l0 l1 l3 : Option Value} {x : Nat} {st : List Value} {M : jn_M} {Q : Option Value → jn_M → Prop} : jn_W d 171 990 [l0, l1, some (.ref x), l3] (st) M Q = jn_W d 171 991 [l0, l1, some (.ref x), l3] (.ref x :: st) M Q := jn_W_eq (f := jn_aload_n 2) rfl rfl
set_option maxRecDepth 100000 in
theorem jn_w171_990n {d : Nat} {l0 l1 l3 : Option Value} {st : List Value} {M : jn_M} {Q : Option Value → jn_M → Prop} : jn_W d 171 990 [l0, l1, some .null, l3] (st) M Q = jn_W d 171 991 [l0, l1, some .null, l3] (.null :: st) M Q := jn_W_eq (f := jn_aload_n 2) rfl rfl
set_option maxRecDepth 100000 in
theorem jn_w171_991 {d : Nat} {l1 l2 l3 : Option Value} {x : Nat} {st : List Value} {M : jn_M} {Q : Option Value → jn_M → Prop} : jn_W d 171 991 [some (.ref x), l1, l2, l3] (st) M Q = jn_W d 171 992 [some (.ref x), l1, l2, l3] (.ref x :: st) M Q := jn_W_eq (f := jn_aload_n 0) rfl rfl
set_option maxRecDepth 100000 in
theorem jn_w171_991n {d : Nat} {l1 l2 l3 : Option Value} {st : List Value} {M : jn_M} {Q : Option Value → jn_M → Prop} : jn_W d 171 991 [some .null, l1, l2, l3] (st) M Q = jn_W d 171 992 [some .null, l1, l2, l3] (.null :: st) M Q := jn_W_eq (f := jn_aload_n 0) rfl rfl
set_option maxRecDepth 100000 in
theorem jn_w171_992 {d : Nat} {l0 l1 l2 : Option Value} {x : Int32} {st : List Value} {M : jn_M} {Q : Option Value → jn_M → Prop} : jn_W d 171 992 [l0, l1, l2, some (.int x)] (st) M Q = jn_W d 171 993 [l0, l1, l2, some (.int x)] (.int x :: st) M Q := jn_W_eq (f := jn_iload_n 3) rfl rfl
set_option maxRecDepth 100000 in
theorem jn_w171_993 {d : Nat} {ls : jn_Lo} {st : List Value} {M : jn_M} {Q : Option Value → jn_M → Prop} : jn_W d 171 993 ls (st) M Q = jn_W d 171 994 ls (.int (nI 1) :: st) M Q := by rw [← jn_k_1]; exact jn_W_eq (f := jn_iconst 1) rfl rfl
set_option maxRecDepth 100000 in
theorem jn_w171_994 {d : Nat} {ls : jn_Lo} {x y : Int32} {st : List Value} {M : jn_M} {Q : Option Value → jn_M → Prop} : jn_W d 171 994 ls (.int y :: .int x :: st) M Q = jn_W d 171 995 ls (.int (x + y) :: st) M Q := jn_W_eq (f := jn_iadd) rfl rfl
set_option maxRecDepth 100000 in
theorem jn_w171_995 {d : Nat} {ls : jn_Lo} {a : Nat} {i : Int32} {st : List Value} {M : jn_M} {Q : Option Value → jn_M → Prop} : jn_W d 171 995 ls (.int i :: .ref a :: st) M Q = (jn_aiO (jn_rs M a) 0 i = true ∧ jn_W d 171 996 ls (.int (jn_aiV (jn_rs M a) i) :: st) M Q) := jn_W_eqc (f := jn_iaload) rfl jn_iaload_e
set_option maxRecDepth 100000 in
theorem jn_w171_996 {d : Nat} {ls : jn_Lo} {a0 : Nat} {a1 : Int32} {k : Nat} {v : Option Value} {M1 : jn_M} {st : List Value} {M : jn_M} {Q : Option Value → jn_M → Prop} (h : jn_V 154 k [.ref a0, .int a1] M v M1) (hk : 1 ≤ k ∧ k + 1 ≤ d) : jn_W d 171 996 ls (.int a1 :: .ref a0 :: st) M Q = ((jn_sm 8 st = true ∧ jn_rc 9 M [.ref a0, .int a1] = true) ∧ jn_W d 171 999 ls (v.toList ++ st) M1 Q) := jn_W_call (na := 2) rfl h hk rfl rfl (Nat.le_of_ble_eq_true rfl)
set_option maxRecDepth 100000 in
theorem jn_w171_999 {d : Nat} {ls : jn_Lo} {x y : Int32} {st : List Value} {M : jn_M} {Q : Option Value → jn_M → Prop} : jn_W d 171 999 ls (.int y :: .int x :: st) M Q = if x = y then jn_W d 171 1252 ls (st) M Q else jn_W d 171 1002 ls (st) M Q := jn_W_br (f := jn_iceq 1252) _ rfl rfl
set_option maxRecDepth 100000 in
theorem jn_w171_1002 {d : Nat} {ls : jn_Lo} {st : List Value} {M : jn_M} {Q : Option Value → jn_M → Prop} : jn_W d 171 1002 ls (st) M Q = jn_W d 171 1003 ls (.int (nI 0) :: st) M Q := by rw [← jn_k_0]; exact jn_W_eq (f := jn_iconst 0) rfl rfl
set_option maxRecDepth 100000 in
theorem jn_w171_1003 {d : Nat} {ls : jn_Lo} {v : Int32} {M : jn_M} {Q : Option Value → jn_M → Prop} : jn_W d 171 1003 ls [.int v] M Q = (jn_zb v = true ∧ Q (some (.int v)) M) := jn_W_retc (k := 2) rfl jn_ret2_e
set_option maxRecDepth 100000 in
theorem jn_w171_1004 {d : Nat} {l0 l2 l3 : Option Value} {x : Nat} {st : List Value} {M : jn_M} {Q : Option Value → jn_M → Prop} : jn_W d 171 1004 [l0, some (.ref x), l2, l3] (st) M Q = jn_W d 171 1005 [l0, some (.ref x), l2, l3] (.ref x :: st) M Q := jn_W_eq (f := jn_aload_n 1) rfl rfl
set_option maxRecDepth 100000 in
theorem jn_w171_1004n {d : Nat} {l0 l2 l3 : Option Value} {st : List Value} {M : jn_M} {Q : Option Value → jn_M → Prop} : jn_W d 171 1004 [l0, some .null, l2, l3] (st) M Q = jn_W d 171 1005 [l0, some .null, l2, l3] (.null :: st) M Q := jn_W_eq (f := jn_aload_n 1) rfl rfl
set_option maxRecDepth 100000 in
theorem jn_w171_1005 {d : Nat} {l1 l2 l3 : Option Value} {x : Nat} {st : List Value} {M : jn_M} {Q : Option Value → jn_M → Prop} : jn_W d 171 1005 [some (.ref x), l1, l2, l3] (st) M Q = jn_W d 171 1006 [some (.ref x), l1, l2, l3] (.ref x :: st) M Q := jn_W_eq (f := jn_aload_n 0) rfl rfl
set_option maxRecDepth 100000 in
theorem jn_w171_1005n {d : Nat} {l1 l2 l3 : Option Value} {st : List Value} {M : jn_M} {Q : Option Value → jn_M → Prop} : jn_W d 171 1005 [some .null, l1, l2, l3] (st) M Q = jn_W d 171 1006 [some .null, l1, l2, l3] (.null :: st) M Q := jn_W_eq (f := jn_aload_n 0) rfl rfl
set_option maxRecDepth 100000 in
theorem jn_w171_1006 {d : Nat} {l0 l1 l2 : Option Value} {x : Int32} {st : List Value} {M : jn_M} {Q : Option Value → jn_M → Prop} : jn_W d 171 1006 [l0, l1, l2, some (.int x)] (st) M Q = jn_W d 171 1007 [l0, l1, l2, some (.int x)] (.int x :: st) M Q := jn_W_eq (f := jn_iload_n 3) rfl rfl
set_option maxRecDepth 100000 in
theorem jn_w171_1007 {d : Nat} {ls : jn_Lo} {st : List Value} {M : jn_M} {Q : Option Value → jn_M → Prop} : jn_W d 171 1007 ls (st) M Q = jn_W d 171 1008 ls (.int (nI 1) :: st) M Q := by rw [← jn_k_1]; exact jn_W_eq (f := jn_iconst 1) rfl rfl
set_option maxRecDepth 100000 in
theorem jn_w171_1008 {d : Nat} {ls : jn_Lo} {x y : Int32} {st : List Value} {M : jn_M} {Q : Option Value → jn_M → Prop} : jn_W d 171 1008 ls (.int y :: .int x :: st) M Q = jn_W d 171 1009 ls (.int (x + y) :: st) M Q := jn_W_eq (f := jn_iadd) rfl rfl
set_option maxRecDepth 100000 in
theorem jn_w171_1009 {d : Nat} {ls : jn_Lo} {a : Nat} {i : Int32} {st : List Value} {M : jn_M} {Q : Option Value → jn_M → Prop} : jn_W d 171 1009 ls (.int i :: .ref a :: st) M Q = (jn_aiO (jn_rs M a) 0 i = true ∧ jn_W d 171 1010 ls (.int (jn_aiV (jn_rs M a) i) :: st) M Q) := jn_W_eqc (f := jn_iaload) rfl jn_iaload_e
set_option maxRecDepth 100000 in
theorem jn_w171_1010 {d : Nat} {ls : jn_Lo} {a0 : Nat} {a1 : Int32} {k : Nat} {v : Option Value} {M1 : jn_M} {st : List Value} {M : jn_M} {Q : Option Value → jn_M → Prop} (h : jn_V 71 k [.ref a0, .int a1] M v M1) (hk : 1 ≤ k ∧ k + 1 ≤ d) : jn_W d 171 1010 ls (.int a1 :: .ref a0 :: st) M Q = ((jn_sm 8 st = true ∧ jn_rc 8 M [.ref a0, .int a1] = true) ∧ jn_W d 171 1013 ls (v.toList ++ st) M1 Q) := jn_W_call (na := 2) rfl h hk rfl rfl (Nat.le_of_ble_eq_true rfl)
set_option maxRecDepth 100000 in
theorem jn_w171_1013 {d : Nat} {l0 l1 l3 : Option Value} {x : Nat} {st : List Value} {M : jn_M} {Q : Option Value → jn_M → Prop} : jn_W d 171 1013 [l0, l1, some (.ref x), l3] (st) M Q = jn_W d 171 1014 [l0, l1, some (.ref x), l3] (.ref x :: st) M Q := jn_W_eq (f := jn_aload_n 2) rfl rfl
set_option maxRecDepth 100000 in
theorem jn_w171_1013n {d : Nat} {l0 l1 l3 : Option Value} {st : List Value} {M : jn_M} {Q : Option Value → jn_M → Prop} : jn_W d 171 1013 [l0, l1, some .null, l3] (st) M Q = jn_W d 171 1014 [l0, l1, some .null, l3] (.null :: st) M Q := jn_W_eq (f := jn_aload_n 2) rfl rfl
set_option maxRecDepth 100000 in
theorem jn_w171_1014 {d : Nat} {l1 l2 l3 : Option Value} {x : Nat} {st : List Value} {M : jn_M} {Q : Option Value → jn_M → Prop} : jn_W d 171 1014 [some (.ref x), l1, l2, l3] (st) M Q = jn_W d 171 1015 [some (.ref x), l1, l2, l3] (.ref x :: st) M Q := jn_W_eq (f := jn_aload_n 0) rfl rfl
set_option maxRecDepth 100000 in
theorem jn_w171_1014n {d : Nat} {l1 l2 l3 : Option Value} {st : List Value} {M : jn_M} {Q : Option Value → jn_M → Prop} : jn_W d 171 1014 [some .null, l1, l2, l3] (st) M Q = jn_W d 171 1015 [some .null, l1, l2, l3] (.null :: st) M Q := jn_W_eq (f := jn_aload_n 0) rfl rfl
set_option maxRecDepth 100000 in
theorem jn_w171_1015 {d : Nat} {l0 l1 l2 : Option Value} {x : Int32} {st : List Value} {M : jn_M} {Q : Option Value → jn_M → Prop} : jn_W d 171 1015 [l0, l1, l2, some (.int x)] (st) M Q = jn_W d 171 1016 [l0, l1, l2, some (.int x)] (.int x :: st) M Q := jn_W_eq (f := jn_iload_n 3) rfl rfl
set_option maxRecDepth 100000 in
theorem jn_w171_1016 {d : Nat} {ls : jn_Lo} {st : List Value} {M : jn_M} {Q : Option Value → jn_M → Prop} : jn_W d 171 1016 ls (st) M Q = jn_W d 171 1017 ls (.int (nI 1) :: st) M Q := by rw [← jn_k_1]; exact jn_W_eq (f := jn_iconst 1) rfl rfl
set_option maxRecDepth 100000 in
theorem jn_w171_1017 {d : Nat} {ls : jn_Lo} {x y : Int32} {st : List Value} {M : jn_M} {Q : Option Value → jn_M → Prop} : jn_W d 171 1017 ls (.int y :: .int x :: st) M Q = jn_W d 171 1018 ls (.int (x + y) :: st) M Q := jn_W_eq (f := jn_iadd) rfl rfl
set_option maxRecDepth 100000 in
theorem jn_w171_1018 {d : Nat} {ls : jn_Lo} {a : Nat} {i : Int32} {st : List Value} {M : jn_M} {Q : Option Value → jn_M → Prop} : jn_W d 171 1018 ls (.int i :: .ref a :: st) M Q = (jn_aiO (jn_rs M a) 0 i = true ∧ jn_W d 171 1019 ls (.int (jn_aiV (jn_rs M a) i) :: st) M Q) := jn_W_eqc (f := jn_iaload) rfl jn_iaload_e
set_option maxRecDepth 100000 in
theorem jn_w171_1019 {d : Nat} {ls : jn_Lo} {a0 : Nat} {a1 : Int32} {k : Nat} {v : Option Value} {M1 : jn_M} {st : List Value} {M : jn_M} {Q : Option Value → jn_M → Prop} (h : jn_V 157 k [.ref a0, .int a1] M v M1) (hk : 1 ≤ k ∧ k + 1 ≤ d) : jn_W d 171 1019 ls (.int a1 :: .ref a0 :: st) M Q = ((jn_sm 8 st = true ∧ jn_rc 9 M [.ref a0, .int a1] = true) ∧ jn_W d 171 1022 ls (v.toList ++ st) M1 Q) := jn_W_call (na := 2) rfl h hk rfl rfl (Nat.le_of_ble_eq_true rfl)
set_option maxRecDepth 100000 in
theorem jn_w171_1022 {d : Nat} {ls : jn_Lo} {x y : Int64} {st : List Value} {M : jn_M} {Q : Option Value → jn_M → Prop} : jn_W d 171 1022 ls (.long y :: .long x :: st) M Q = jn_W d 171 1023 ls (.int (lg_cmp x y) :: st) M Q := jn_W_eq (f := jn_lcmp) rfl rfl
set_option maxRecDepth 100000 in
theorem jn_w171_1023 {d : Nat} {ls : jn_Lo} {x : Int32} {st : List Value} {M : jn_M} {Q : Option Value → jn_M → Prop} : jn_W d 171 1023 ls (.int x :: st) M Q = if x = nI 0 then jn_W d 171 1252 ls (st) M Q else jn_W d 171 1026 ls (st) M Q := jn_W_br (f := jn_ifeq 1252) _ rfl rfl
set_option maxRecDepth 100000 in
theorem jn_w171_1026 {d : Nat} {ls : jn_Lo} {st : List Value} {M : jn_M} {Q : Option Value → jn_M → Prop} : jn_W d 171 1026 ls (st) M Q = jn_W d 171 1027 ls (.int (nI 0) :: st) M Q := by rw [← jn_k_0]; exact jn_W_eq (f := jn_iconst 0) rfl rfl
set_option maxRecDepth 100000 in
theorem jn_w171_1027 {d : Nat} {ls : jn_Lo} {v : Int32} {M : jn_M} {Q : Option Value → jn_M → Prop} : jn_W d 171 1027 ls [.int v] M Q = (jn_zb v = true ∧ Q (some (.int v)) M) := jn_W_retc (k := 2) rfl jn_ret2_e
set_option maxRecDepth 100000 in
theorem jn_w171_1028 {d : Nat} {l0 l2 l3 : Option Value} {x : Nat} {st : List Value} {M : jn_M} {Q : Option Value → jn_M → Prop} : jn_W d 171 1028 [l0, some (.ref x), l2, l3] (st) M Q = jn_W d 171 1029 [l0, some (.ref x), l2, l3] (.ref x :: st) M Q := jn_W_eq (f := jn_aload_n 1) rfl rfl
set_option maxRecDepth 100000 in
theorem jn_w171_1028n {d : Nat} {l0 l2 l3 : Option Value} {st : List Value} {M : jn_M} {Q : Option Value → jn_M → Prop} : jn_W d 171 1028 [l0, some .null, l2, l3] (st) M Q = jn_W d 171 1029 [l0, some .null, l2, l3] (.null :: st) M Q := jn_W_eq (f := jn_aload_n 1) rfl rfl
set_option maxRecDepth 100000 in
theorem jn_w171_1029 {d : Nat} {l1 l2 l3 : Option Value} {x : Nat} {st : List Value} {M : jn_M} {Q : Option Value → jn_M → Prop} : jn_W d 171 1029 [some (.ref x), l1, l2, l3] (st) M Q = jn_W d 171 1030 [some (.ref x), l1, l2, l3] (.ref x :: st) M Q := jn_W_eq (f := jn_aload_n 0) rfl rfl
set_option maxRecDepth 100000 in
theorem jn_w171_1029n {d : Nat} {l1 l2 l3 : Option Value} {st : List Value} {M : jn_M} {Q : Option Value → jn_M → Prop} : jn_W d 171 1029 [some .null, l1, l2, l3] (st) M Q = jn_W d 171 1030 [some .null, l1, l2, l3] (.null :: st) M Q := jn_W_eq (f := jn_aload_n 0) rfl rfl
set_option maxRecDepth 100000 in
theorem jn_w171_1030 {d : Nat} {l0 l1 l2 : Option Value} {x : Int32} {st : List Value} {M : jn_M} {Q : Option Value → jn_M → Prop} : jn_W d 171 1030 [l0, l1, l2, some (.int x)] (st) M Q = jn_W d 171 1031 [l0, l1, l2, some (.int x)] (.int x :: st) M Q := jn_W_eq (f := jn_iload_n 3) rfl rfl
set_option maxRecDepth 100000 in
theorem jn_w171_1031 {d : Nat} {ls : jn_Lo} {st : List Value} {M : jn_M} {Q : Option Value → jn_M → Prop} : jn_W d 171 1031 ls (st) M Q = jn_W d 171 1032 ls (.int (nI 1) :: st) M Q := by rw [← jn_k_1]; exact jn_W_eq (f := jn_iconst 1) rfl rfl
set_option maxRecDepth 100000 in
theorem jn_w171_1032 {d : Nat} {ls : jn_Lo} {x y : Int32} {st : List Value} {M : jn_M} {Q : Option Value → jn_M → Prop} : jn_W d 171 1032 ls (.int y :: .int x :: st) M Q = jn_W d 171 1033 ls (.int (x + y) :: st) M Q := jn_W_eq (f := jn_iadd) rfl rfl
set_option maxRecDepth 100000 in
theorem jn_w171_1033 {d : Nat} {ls : jn_Lo} {a : Nat} {i : Int32} {st : List Value} {M : jn_M} {Q : Option Value → jn_M → Prop} : jn_W d 171 1033 ls (.int i :: .ref a :: st) M Q = (jn_aiO (jn_rs M a) 0 i = true ∧ jn_W d 171 1034 ls (.int (jn_aiV (jn_rs M a) i) :: st) M Q) := jn_W_eqc (f := jn_iaload) rfl jn_iaload_e
set_option maxRecDepth 100000 in
theorem jn_w171_1034 {d : Nat} {l1 l2 l3 : Option Value} {x : Nat} {st : List Value} {M : jn_M} {Q : Option Value → jn_M → Prop} : jn_W d 171 1034 [some (.ref x), l1, l2, l3] (st) M Q = jn_W d 171 1035 [some (.ref x), l1, l2, l3] (.ref x :: st) M Q := jn_W_eq (f := jn_aload_n 0) rfl rfl
set_option maxRecDepth 100000 in
theorem jn_w171_1034n {d : Nat} {l1 l2 l3 : Option Value} {st : List Value} {M : jn_M} {Q : Option Value → jn_M → Prop} : jn_W d 171 1034 [some .null, l1, l2, l3] (st) M Q = jn_W d 171 1035 [some .null, l1, l2, l3] (.null :: st) M Q := jn_W_eq (f := jn_aload_n 0) rfl rfl
set_option maxRecDepth 100000 in
theorem jn_w171_1035 {d : Nat} {l0 l1 l2 : Option Value} {x : Int32} {st : List Value} {M : jn_M} {Q : Option Value → jn_M → Prop} : jn_W d 171 1035 [l0, l1, l2, some (.int x)] (st) M Q = jn_W d 171 1036 [l0, l1, l2, some (.int x)] (.int x :: st) M Q := jn_W_eq (f := jn_iload_n 3) rfl rfl
set_option maxRecDepth 100000 in
theorem jn_w171_1036 {d : Nat} {ls : jn_Lo} {st : List Value} {M : jn_M} {Q : Option Value → jn_M → Prop} : jn_W d 171 1036 ls (st) M Q = jn_W d 171 1037 ls (.int (nI 2) :: st) M Q := by rw [← jn_k_2]; exact jn_W_eq (f := jn_iconst 2) rfl rfl
set_option maxRecDepth 100000 in
theorem jn_w171_1037 {d : Nat} {ls : jn_Lo} {x y : Int32} {st : List Value} {M : jn_M} {Q : Option Value → jn_M → Prop} : jn_W d 171 1037 ls (.int y :: .int x :: st) M Q = jn_W d 171 1038 ls (.int (x + y) :: st) M Q := jn_W_eq (f := jn_iadd) rfl rfl
set_option maxRecDepth 100000 in
theorem jn_w171_1038 {d : Nat} {ls : jn_Lo} {a : Nat} {i : Int32} {st : List Value} {M : jn_M} {Q : Option Value → jn_M → Prop} : jn_W d 171 1038 ls (.int i :: .ref a :: st) M Q = (jn_aiO (jn_rs M a) 0 i = true ∧ jn_W d 171 1039 ls (.int (jn_aiV (jn_rs M a) i) :: st) M Q) := jn_W_eqc (f := jn_iaload) rfl jn_iaload_e
set_option maxRecDepth 100000 in
theorem jn_w171_1039 {d : Nat} {ls : jn_Lo} {a0 : Nat} {a1 : Int32} {a2 : Int32} {k : Nat} {v : Option Value} {M1 : jn_M} {st : List Value} {M : jn_M} {Q : Option Value → jn_M → Prop} (h : jn_V 72 k [.ref a0, .int a1, .int a2] M v M1) (hk : 1 ≤ k ∧ k + 1 ≤ d) : jn_W d 171 1039 ls (.int a2 :: .int a1 :: .ref a0 :: st) M Q = ((jn_sm 8 st = true ∧ jn_rc 8 M [.ref a0, .int a1, .int a2] = true) ∧ jn_W d 171 1042 ls (v.toList ++ st) M1 Q) := jn_W_call (na := 3) rfl h hk rfl rfl (Nat.le_of_ble_eq_true rfl)
set_option maxRecDepth 100000 in
theorem jn_w171_1042 {d : Nat} {l0 l1 l3 : Option Value} {x : Nat} {st : List Value} {M : jn_M} {Q : Option Value → jn_M → Prop} : jn_W d 171 1042 [l0, l1, some (.ref x), l3] (st) M Q = jn_W d 171 1043 [l0, l1, some (.ref x), l3] (.ref x :: st) M Q := jn_W_eq (f := jn_aload_n 2) rfl rfl
set_option maxRecDepth 100000 in
theorem jn_w171_1042n {d : Nat} {l0 l1 l3 : Option Value} {st : List Value} {M : jn_M} {Q : Option Value → jn_M → Prop} : jn_W d 171 1042 [l0, l1, some .null, l3] (st) M Q = jn_W d 171 1043 [l0, l1, some .null, l3] (.null :: st) M Q := jn_W_eq (f := jn_aload_n 2) rfl rfl
set_option maxRecDepth 100000 in
theorem jn_w171_1043 {d : Nat} {l1 l2 l3 : Option Value} {x : Nat} {st : List Value} {M : jn_M} {Q : Option Value → jn_M → Prop} : jn_W d 171 1043 [some (.ref x), l1, l2, l3] (st) M Q = jn_W d 171 1044 [some (.ref x), l1, l2, l3] (.ref x :: st) M Q := jn_W_eq (f := jn_aload_n 0) rfl rfl
set_option maxRecDepth 100000 in
theorem jn_w171_1043n {d : Nat} {l1 l2 l3 : Option Value} {st : List Value} {M : jn_M} {Q : Option Value → jn_M → Prop} : jn_W d 171 1043 [some .null, l1, l2, l3] (st) M Q = jn_W d 171 1044 [some .null, l1, l2, l3] (.null :: st) M Q := jn_W_eq (f := jn_aload_n 0) rfl rfl
set_option maxRecDepth 100000 in
theorem jn_w171_1044 {d : Nat} {l0 l1 l2 : Option Value} {x : Int32} {st : List Value} {M : jn_M} {Q : Option Value → jn_M → Prop} : jn_W d 171 1044 [l0, l1, l2, some (.int x)] (st) M Q = jn_W d 171 1045 [l0, l1, l2, some (.int x)] (.int x :: st) M Q := jn_W_eq (f := jn_iload_n 3) rfl rfl
set_option maxRecDepth 100000 in
theorem jn_w171_1045 {d : Nat} {ls : jn_Lo} {st : List Value} {M : jn_M} {Q : Option Value → jn_M → Prop} : jn_W d 171 1045 ls (st) M Q = jn_W d 171 1046 ls (.int (nI 1) :: st) M Q := by rw [← jn_k_1]; exact jn_W_eq (f := jn_iconst 1) rfl rfl
set_option maxRecDepth 100000 in
theorem jn_w171_1046 {d : Nat} {ls : jn_Lo} {x y : Int32} {st : List Value} {M : jn_M} {Q : Option Value → jn_M → Prop} : jn_W d 171 1046 ls (.int y :: .int x :: st) M Q = jn_W d 171 1047 ls (.int (x + y) :: st) M Q := jn_W_eq (f := jn_iadd) rfl rfl
set_option maxRecDepth 100000 in
theorem jn_w171_1047 {d : Nat} {ls : jn_Lo} {a : Nat} {i : Int32} {st : List Value} {M : jn_M} {Q : Option Value → jn_M → Prop} : jn_W d 171 1047 ls (.int i :: .ref a :: st) M Q = (jn_aiO (jn_rs M a) 0 i = true ∧ jn_W d 171 1048 ls (.int (jn_aiV (jn_rs M a) i) :: st) M Q) := jn_W_eqc (f := jn_iaload) rfl jn_iaload_e
set_option maxRecDepth 100000 in
theorem jn_w171_1048 {d : Nat} {l1 l2 l3 : Option Value} {x : Nat} {st : List Value} {M : jn_M} {Q : Option Value → jn_M → Prop} : jn_W d 171 1048 [some (.ref x), l1, l2, l3] (st) M Q = jn_W d 171 1049 [some (.ref x), l1, l2, l3] (.ref x :: st) M Q := jn_W_eq (f := jn_aload_n 0) rfl rfl
set_option maxRecDepth 100000 in
theorem jn_w171_1048n {d : Nat} {l1 l2 l3 : Option Value} {st : List Value} {M : jn_M} {Q : Option Value → jn_M → Prop} : jn_W d 171 1048 [some .null, l1, l2, l3] (st) M Q = jn_W d 171 1049 [some .null, l1, l2, l3] (.null :: st) M Q := jn_W_eq (f := jn_aload_n 0) rfl rfl
set_option maxRecDepth 100000 in
theorem jn_w171_1049 {d : Nat} {l0 l1 l2 : Option Value} {x : Int32} {st : List Value} {M : jn_M} {Q : Option Value → jn_M → Prop} : jn_W d 171 1049 [l0, l1, l2, some (.int x)] (st) M Q = jn_W d 171 1050 [l0, l1, l2, some (.int x)] (.int x :: st) M Q := jn_W_eq (f := jn_iload_n 3) rfl rfl
set_option maxRecDepth 100000 in
theorem jn_w171_1050 {d : Nat} {ls : jn_Lo} {st : List Value} {M : jn_M} {Q : Option Value → jn_M → Prop} : jn_W d 171 1050 ls (st) M Q = jn_W d 171 1051 ls (.int (nI 2) :: st) M Q := by rw [← jn_k_2]; exact jn_W_eq (f := jn_iconst 2) rfl rfl
set_option maxRecDepth 100000 in
theorem jn_w171_1051 {d : Nat} {ls : jn_Lo} {x y : Int32} {st : List Value} {M : jn_M} {Q : Option Value → jn_M → Prop} : jn_W d 171 1051 ls (.int y :: .int x :: st) M Q = jn_W d 171 1052 ls (.int (x + y) :: st) M Q := jn_W_eq (f := jn_iadd) rfl rfl
set_option maxRecDepth 100000 in
theorem jn_w171_1052 {d : Nat} {ls : jn_Lo} {a : Nat} {i : Int32} {st : List Value} {M : jn_M} {Q : Option Value → jn_M → Prop} : jn_W d 171 1052 ls (.int i :: .ref a :: st) M Q = (jn_aiO (jn_rs M a) 0 i = true ∧ jn_W d 171 1053 ls (.int (jn_aiV (jn_rs M a) i) :: st) M Q) := jn_W_eqc (f := jn_iaload) rfl jn_iaload_e
set_option maxRecDepth 100000 in
theorem jn_w171_1053 {d : Nat} {ls : jn_Lo} {a0 : Nat} {a1 : Int32} {a2 : Int32} {k : Nat} {v : Option Value} {M1 : jn_M} {st : List Value} {M : jn_M} {Q : Option Value → jn_M → Prop} (h : jn_V 158 k [.ref a0, .int a1, .int a2] M v M1) (hk : 1 ≤ k ∧ k + 1 ≤ d) : jn_W d 171 1053 ls (.int a2 :: .int a1 :: .ref a0 :: st) M Q = ((jn_sm 8 st = true ∧ jn_rc 9 M [.ref a0, .int a1, .int a2] = true) ∧ jn_W d 171 1056 ls (v.toList ++ st) M1 Q) := jn_W_call (na := 3) rfl h hk rfl rfl (Nat.le_of_ble_eq_true rfl)
set_option maxRecDepth 100000 in
theorem jn_w171_1056 {d : Nat} {ls : jn_Lo} {x y : Int32} {st : List Value} {M : jn_M} {Q : Option Value → jn_M → Prop} : jn_W d 171 1056 ls (.int y :: .int x :: st) M Q = if x = y then jn_W d 171 1252 ls (st) M Q else jn_W d 171 1059 ls (st) M Q := jn_W_br (f := jn_iceq 1252) _ rfl rfl
set_option maxRecDepth 100000 in
theorem jn_w171_1059 {d : Nat} {ls : jn_Lo} {st : List Value} {M : jn_M} {Q : Option Value → jn_M → Prop} : jn_W d 171 1059 ls (st) M Q = jn_W d 171 1060 ls (.int (nI 0) :: st) M Q := by rw [← jn_k_0]; exact jn_W_eq (f := jn_iconst 0) rfl rfl
set_option maxRecDepth 100000 in
theorem jn_w171_1060 {d : Nat} {ls : jn_Lo} {v : Int32} {M : jn_M} {Q : Option Value → jn_M → Prop} : jn_W d 171 1060 ls [.int v] M Q = (jn_zb v = true ∧ Q (some (.int v)) M) := jn_W_retc (k := 2) rfl jn_ret2_e
set_option maxRecDepth 100000 in
theorem jn_w171_1061 {d : Nat} {l0 l2 l3 : Option Value} {x : Nat} {st : List Value} {M : jn_M} {Q : Option Value → jn_M → Prop} : jn_W d 171 1061 [l0, some (.ref x), l2, l3] (st) M Q = jn_W d 171 1062 [l0, some (.ref x), l2, l3] (.ref x :: st) M Q := jn_W_eq (f := jn_aload_n 1) rfl rfl
set_option maxRecDepth 100000 in
theorem jn_w171_1061n {d : Nat} {l0 l2 l3 : Option Value} {st : List Value} {M : jn_M} {Q : Option Value → jn_M → Prop} : jn_W d 171 1061 [l0, some .null, l2, l3] (st) M Q = jn_W d 171 1062 [l0, some .null, l2, l3] (.null :: st) M Q := jn_W_eq (f := jn_aload_n 1) rfl rfl
set_option maxRecDepth 100000 in
theorem jn_w171_1062 {d : Nat} {l1 l2 l3 : Option Value} {x : Nat} {st : List Value} {M : jn_M} {Q : Option Value → jn_M → Prop} : jn_W d 171 1062 [some (.ref x), l1, l2, l3] (st) M Q = jn_W d 171 1063 [some (.ref x), l1, l2, l3] (.ref x :: st) M Q := jn_W_eq (f := jn_aload_n 0) rfl rfl
set_option maxRecDepth 100000 in
theorem jn_w171_1062n {d : Nat} {l1 l2 l3 : Option Value} {st : List Value} {M : jn_M} {Q : Option Value → jn_M → Prop} : jn_W d 171 1062 [some .null, l1, l2, l3] (st) M Q = jn_W d 171 1063 [some .null, l1, l2, l3] (.null :: st) M Q := jn_W_eq (f := jn_aload_n 0) rfl rfl
set_option maxRecDepth 100000 in
theorem jn_w171_1063 {d : Nat} {l0 l1 l2 : Option Value} {x : Int32} {st : List Value} {M : jn_M} {Q : Option Value → jn_M → Prop} : jn_W d 171 1063 [l0, l1, l2, some (.int x)] (st) M Q = jn_W d 171 1064 [l0, l1, l2, some (.int x)] (.int x :: st) M Q := jn_W_eq (f := jn_iload_n 3) rfl rfl
set_option maxRecDepth 100000 in
theorem jn_w171_1064 {d : Nat} {ls : jn_Lo} {st : List Value} {M : jn_M} {Q : Option Value → jn_M → Prop} : jn_W d 171 1064 ls (st) M Q = jn_W d 171 1065 ls (.int (nI 1) :: st) M Q := by rw [← jn_k_1]; exact jn_W_eq (f := jn_iconst 1) rfl rfl
set_option maxRecDepth 100000 in
theorem jn_w171_1065 {d : Nat} {ls : jn_Lo} {x y : Int32} {st : List Value} {M : jn_M} {Q : Option Value → jn_M → Prop} : jn_W d 171 1065 ls (.int y :: .int x :: st) M Q = jn_W d 171 1066 ls (.int (x + y) :: st) M Q := jn_W_eq (f := jn_iadd) rfl rfl
set_option maxRecDepth 100000 in
theorem jn_w171_1066 {d : Nat} {ls : jn_Lo} {a : Nat} {i : Int32} {st : List Value} {M : jn_M} {Q : Option Value → jn_M → Prop} : jn_W d 171 1066 ls (.int i :: .ref a :: st) M Q = (jn_aiO (jn_rs M a) 0 i = true ∧ jn_W d 171 1067 ls (.int (jn_aiV (jn_rs M a) i) :: st) M Q) := jn_W_eqc (f := jn_iaload) rfl jn_iaload_e
set_option maxRecDepth 100000 in
theorem jn_w171_1067 {d : Nat} {l1 l2 l3 : Option Value} {x : Nat} {st : List Value} {M : jn_M} {Q : Option Value → jn_M → Prop} : jn_W d 171 1067 [some (.ref x), l1, l2, l3] (st) M Q = jn_W d 171 1068 [some (.ref x), l1, l2, l3] (.ref x :: st) M Q := jn_W_eq (f := jn_aload_n 0) rfl rfl
set_option maxRecDepth 100000 in
theorem jn_w171_1067n {d : Nat} {l1 l2 l3 : Option Value} {st : List Value} {M : jn_M} {Q : Option Value → jn_M → Prop} : jn_W d 171 1067 [some .null, l1, l2, l3] (st) M Q = jn_W d 171 1068 [some .null, l1, l2, l3] (.null :: st) M Q := jn_W_eq (f := jn_aload_n 0) rfl rfl
set_option maxRecDepth 100000 in
theorem jn_w171_1068 {d : Nat} {l0 l1 l2 : Option Value} {x : Int32} {st : List Value} {M : jn_M} {Q : Option Value → jn_M → Prop} : jn_W d 171 1068 [l0, l1, l2, some (.int x)] (st) M Q = jn_W d 171 1069 [l0, l1, l2, some (.int x)] (.int x :: st) M Q := jn_W_eq (f := jn_iload_n 3) rfl rfl
set_option maxRecDepth 100000 in
theorem jn_w171_1069 {d : Nat} {ls : jn_Lo} {st : List Value} {M : jn_M} {Q : Option Value → jn_M → Prop} : jn_W d 171 1069 ls (st) M Q = jn_W d 171 1070 ls (.int (nI 2) :: st) M Q := by rw [← jn_k_2]; exact jn_W_eq (f := jn_iconst 2) rfl rfl
set_option maxRecDepth 100000 in
theorem jn_w171_1070 {d : Nat} {ls : jn_Lo} {x y : Int32} {st : List Value} {M : jn_M} {Q : Option Value → jn_M → Prop} : jn_W d 171 1070 ls (.int y :: .int x :: st) M Q = jn_W d 171 1071 ls (.int (x + y) :: st) M Q := jn_W_eq (f := jn_iadd) rfl rfl
set_option maxRecDepth 100000 in
theorem jn_w171_1071 {d : Nat} {ls : jn_Lo} {a : Nat} {i : Int32} {st : List Value} {M : jn_M} {Q : Option Value → jn_M → Prop} : jn_W d 171 1071 ls (.int i :: .ref a :: st) M Q = (jn_aiO (jn_rs M a) 0 i = true ∧ jn_W d 171 1072 ls (.int (jn_aiV (jn_rs M a) i) :: st) M Q) := jn_W_eqc (f := jn_iaload) rfl jn_iaload_e
set_option maxRecDepth 100000 in
theorem jn_w171_1072 {d : Nat} {ls : jn_Lo} {a0 : Nat} {a1 : Int32} {a2 : Int32} {k : Nat} {v : Option Value} {M1 : jn_M} {st : List Value} {M : jn_M} {Q : Option Value → jn_M → Prop} (h : jn_V 73 k [.ref a0, .int a1, .int a2] M v M1) (hk : 1 ≤ k ∧ k + 1 ≤ d) : jn_W d 171 1072 ls (.int a2 :: .int a1 :: .ref a0 :: st) M Q = ((jn_sm 8 st = true ∧ jn_rc 8 M [.ref a0, .int a1, .int a2] = true) ∧ jn_W d 171 1075 ls (v.toList ++ st) M1 Q) := jn_W_call (na := 3) rfl h hk rfl rfl (Nat.le_of_ble_eq_true rfl)
set_option maxRecDepth 100000 in
theorem jn_w171_1075 {d : Nat} {l0 l1 l3 : Option Value} {x : Nat} {st : List Value} {M : jn_M} {Q : Option Value → jn_M → Prop} : jn_W d 171 1075 [l0, l1, some (.ref x), l3] (st) M Q = jn_W d 171 1076 [l0, l1, some (.ref x), l3] (.ref x :: st) M Q := jn_W_eq (f := jn_aload_n 2) rfl rfl
set_option maxRecDepth 100000 in
theorem jn_w171_1075n {d : Nat} {l0 l1 l3 : Option Value} {st : List Value} {M : jn_M} {Q : Option Value → jn_M → Prop} : jn_W d 171 1075 [l0, l1, some .null, l3] (st) M Q = jn_W d 171 1076 [l0, l1, some .null, l3] (.null :: st) M Q := jn_W_eq (f := jn_aload_n 2) rfl rfl
set_option maxRecDepth 100000 in
theorem jn_w171_1076 {d : Nat} {l1 l2 l3 : Option Value} {x : Nat} {st : List Value} {M : jn_M} {Q : Option Value → jn_M → Prop} : jn_W d 171 1076 [some (.ref x), l1, l2, l3] (st) M Q = jn_W d 171 1077 [some (.ref x), l1, l2, l3] (.ref x :: st) M Q := jn_W_eq (f := jn_aload_n 0) rfl rfl
set_option maxRecDepth 100000 in
theorem jn_w171_1076n {d : Nat} {l1 l2 l3 : Option Value} {st : List Value} {M : jn_M} {Q : Option Value → jn_M → Prop} : jn_W d 171 1076 [some .null, l1, l2, l3] (st) M Q = jn_W d 171 1077 [some .null, l1, l2, l3] (.null :: st) M Q := jn_W_eq (f := jn_aload_n 0) rfl rfl
set_option maxRecDepth 100000 in
theorem jn_w171_1077 {d : Nat} {l0 l1 l2 : Option Value} {x : Int32} {st : List Value} {M : jn_M} {Q : Option Value → jn_M → Prop} : jn_W d 171 1077 [l0, l1, l2, some (.int x)] (st) M Q = jn_W d 171 1078 [l0, l1, l2, some (.int x)] (.int x :: st) M Q := jn_W_eq (f := jn_iload_n 3) rfl rfl
set_option maxRecDepth 100000 in
theorem jn_w171_1078 {d : Nat} {ls : jn_Lo} {st : List Value} {M : jn_M} {Q : Option Value → jn_M → Prop} : jn_W d 171 1078 ls (st) M Q = jn_W d 171 1079 ls (.int (nI 1) :: st) M Q := by rw [← jn_k_1]; exact jn_W_eq (f := jn_iconst 1) rfl rfl
set_option maxRecDepth 100000 in
theorem jn_w171_1079 {d : Nat} {ls : jn_Lo} {x y : Int32} {st : List Value} {M : jn_M} {Q : Option Value → jn_M → Prop} : jn_W d 171 1079 ls (.int y :: .int x :: st) M Q = jn_W d 171 1080 ls (.int (x + y) :: st) M Q := jn_W_eq (f := jn_iadd) rfl rfl
set_option maxRecDepth 100000 in
theorem jn_w171_1080 {d : Nat} {ls : jn_Lo} {a : Nat} {i : Int32} {st : List Value} {M : jn_M} {Q : Option Value → jn_M → Prop} : jn_W d 171 1080 ls (.int i :: .ref a :: st) M Q = (jn_aiO (jn_rs M a) 0 i = true ∧ jn_W d 171 1081 ls (.int (jn_aiV (jn_rs M a) i) :: st) M Q) := jn_W_eqc (f := jn_iaload) rfl jn_iaload_e
set_option maxRecDepth 100000 in
theorem jn_w171_1081 {d : Nat} {l1 l2 l3 : Option Value} {x : Nat} {st : List Value} {M : jn_M} {Q : Option Value → jn_M → Prop} : jn_W d 171 1081 [some (.ref x), l1, l2, l3] (st) M Q = jn_W d 171 1082 [some (.ref x), l1, l2, l3] (.ref x :: st) M Q := jn_W_eq (f := jn_aload_n 0) rfl rfl
set_option maxRecDepth 100000 in
theorem jn_w171_1081n {d : Nat} {l1 l2 l3 : Option Value} {st : List Value} {M : jn_M} {Q : Option Value → jn_M → Prop} : jn_W d 171 1081 [some .null, l1, l2, l3] (st) M Q = jn_W d 171 1082 [some .null, l1, l2, l3] (.null :: st) M Q := jn_W_eq (f := jn_aload_n 0) rfl rfl
set_option maxRecDepth 100000 in
theorem jn_w171_1082 {d : Nat} {l0 l1 l2 : Option Value} {x : Int32} {st : List Value} {M : jn_M} {Q : Option Value → jn_M → Prop} : jn_W d 171 1082 [l0, l1, l2, some (.int x)] (st) M Q = jn_W d 171 1083 [l0, l1, l2, some (.int x)] (.int x :: st) M Q := jn_W_eq (f := jn_iload_n 3) rfl rfl
set_option maxRecDepth 100000 in
theorem jn_w171_1083 {d : Nat} {ls : jn_Lo} {st : List Value} {M : jn_M} {Q : Option Value → jn_M → Prop} : jn_W d 171 1083 ls (st) M Q = jn_W d 171 1084 ls (.int (nI 2) :: st) M Q := by rw [← jn_k_2]; exact jn_W_eq (f := jn_iconst 2) rfl rfl
set_option maxRecDepth 100000 in
theorem jn_w171_1084 {d : Nat} {ls : jn_Lo} {x y : Int32} {st : List Value} {M : jn_M} {Q : Option Value → jn_M → Prop} : jn_W d 171 1084 ls (.int y :: .int x :: st) M Q = jn_W d 171 1085 ls (.int (x + y) :: st) M Q := jn_W_eq (f := jn_iadd) rfl rfl
set_option maxRecDepth 100000 in
theorem jn_w171_1085 {d : Nat} {ls : jn_Lo} {a : Nat} {i : Int32} {st : List Value} {M : jn_M} {Q : Option Value → jn_M → Prop} : jn_W d 171 1085 ls (.int i :: .ref a :: st) M Q = (jn_aiO (jn_rs M a) 0 i = true ∧ jn_W d 171 1086 ls (.int (jn_aiV (jn_rs M a) i) :: st) M Q) := jn_W_eqc (f := jn_iaload) rfl jn_iaload_e
set_option maxRecDepth 100000 in
theorem jn_w171_1086 {d : Nat} {ls : jn_Lo} {a0 : Nat} {a1 : Int32} {a2 : Int32} {k : Nat} {v : Option Value} {M1 : jn_M} {st : List Value} {M : jn_M} {Q : Option Value → jn_M → Prop} (h : jn_V 159 k [.ref a0, .int a1, .int a2] M v M1) (hk : 1 ≤ k ∧ k + 1 ≤ d) : jn_W d 171 1086 ls (.int a2 :: .int a1 :: .ref a0 :: st) M Q = ((jn_sm 8 st = true ∧ jn_rc 9 M [.ref a0, .int a1, .int a2] = true) ∧ jn_W d 171 1089 ls (v.toList ++ st) M1 Q) := jn_W_call (na := 3) rfl h hk rfl rfl (Nat.le_of_ble_eq_true rfl)
set_option maxRecDepth 100000 in
theorem jn_w171_1089 {d : Nat} {ls : jn_Lo} {x y : Int32} {st : List Value} {M : jn_M} {Q : Option Value → jn_M → Prop} : jn_W d 171 1089 ls (.int y :: .int x :: st) M Q = if x = y then jn_W d 171 1252 ls (st) M Q else jn_W d 171 1092 ls (st) M Q := jn_W_br (f := jn_iceq 1252) _ rfl rfl
set_option maxRecDepth 100000 in
theorem jn_w171_1092 {d : Nat} {ls : jn_Lo} {st : List Value} {M : jn_M} {Q : Option Value → jn_M → Prop} : jn_W d 171 1092 ls (st) M Q = jn_W d 171 1093 ls (.int (nI 0) :: st) M Q := by rw [← jn_k_0]; exact jn_W_eq (f := jn_iconst 0) rfl rfl
set_option maxRecDepth 100000 in
theorem jn_w171_1093 {d : Nat} {ls : jn_Lo} {v : Int32} {M : jn_M} {Q : Option Value → jn_M → Prop} : jn_W d 171 1093 ls [.int v] M Q = (jn_zb v = true ∧ Q (some (.int v)) M) := jn_W_retc (k := 2) rfl jn_ret2_e
set_option maxRecDepth 100000 in
theorem jn_w171_1094 {d : Nat} {l0 l2 l3 : Option Value} {x : Nat} {st : List Value} {M : jn_M} {Q : Option Value → jn_M → Prop} : jn_W d 171 1094 [l0, some (.ref x), l2, l3] (st) M Q = jn_W d 171 1095 [l0, some (.ref x), l2, l3] (.ref x :: st) M Q := jn_W_eq (f := jn_aload_n 1) rfl rfl
set_option maxRecDepth 100000 in
theorem jn_w171_1094n {d : Nat} {l0 l2 l3 : Option Value} {st : List Value} {M : jn_M} {Q : Option Value → jn_M → Prop} : jn_W d 171 1094 [l0, some .null, l2, l3] (st) M Q = jn_W d 171 1095 [l0, some .null, l2, l3] (.null :: st) M Q := jn_W_eq (f := jn_aload_n 1) rfl rfl
set_option maxRecDepth 100000 in
theorem jn_w171_1095 {d : Nat} {l1 l2 l3 : Option Value} {x : Nat} {st : List Value} {M : jn_M} {Q : Option Value → jn_M → Prop} : jn_W d 171 1095 [some (.ref x), l1, l2, l3] (st) M Q = jn_W d 171 1096 [some (.ref x), l1, l2, l3] (.ref x :: st) M Q := jn_W_eq (f := jn_aload_n 0) rfl rfl
set_option maxRecDepth 100000 in
theorem jn_w171_1095n {d : Nat} {l1 l2 l3 : Option Value} {st : List Value} {M : jn_M} {Q : Option Value → jn_M → Prop} : jn_W d 171 1095 [some .null, l1, l2, l3] (st) M Q = jn_W d 171 1096 [some .null, l1, l2, l3] (.null :: st) M Q := jn_W_eq (f := jn_aload_n 0) rfl rfl
set_option maxRecDepth 100000 in
theorem jn_w171_1096 {d : Nat} {l0 l1 l2 : Option Value} {x : Int32} {st : List Value} {M : jn_M} {Q : Option Value → jn_M → Prop} : jn_W d 171 1096 [l0, l1, l2, some (.int x)] (st) M Q = jn_W d 171 1097 [l0, l1, l2, some (.int x)] (.int x :: st) M Q := jn_W_eq (f := jn_iload_n 3) rfl rfl
set_option maxRecDepth 100000 in
theorem jn_w171_1097 {d : Nat} {ls : jn_Lo} {st : List Value} {M : jn_M} {Q : Option Value → jn_M → Prop} : jn_W d 171 1097 ls (st) M Q = jn_W d 171 1098 ls (.int (nI 1) :: st) M Q := by rw [← jn_k_1]; exact jn_W_eq (f := jn_iconst 1) rfl rfl
set_option maxRecDepth 100000 in
theorem jn_w171_1098 {d : Nat} {ls : jn_Lo} {x y : Int32} {st : List Value} {M : jn_M} {Q : Option Value → jn_M → Prop} : jn_W d 171 1098 ls (.int y :: .int x :: st) M Q = jn_W d 171 1099 ls (.int (x + y) :: st) M Q := jn_W_eq (f := jn_iadd) rfl rfl
set_option maxRecDepth 100000 in
theorem jn_w171_1099 {d : Nat} {ls : jn_Lo} {a : Nat} {i : Int32} {st : List Value} {M : jn_M} {Q : Option Value → jn_M → Prop} : jn_W d 171 1099 ls (.int i :: .ref a :: st) M Q = (jn_aiO (jn_rs M a) 0 i = true ∧ jn_W d 171 1100 ls (.int (jn_aiV (jn_rs M a) i) :: st) M Q) := jn_W_eqc (f := jn_iaload) rfl jn_iaload_e
set_option maxRecDepth 100000 in
theorem jn_w171_1100 {d : Nat} {ls : jn_Lo} {a0 : Nat} {a1 : Int32} {k : Nat} {v : Option Value} {M1 : jn_M} {st : List Value} {M : jn_M} {Q : Option Value → jn_M → Prop} (h : jn_V 74 k [.ref a0, .int a1] M v M1) (hk : 1 ≤ k ∧ k + 1 ≤ d) : jn_W d 171 1100 ls (.int a1 :: .ref a0 :: st) M Q = ((jn_sm 8 st = true ∧ jn_rc 8 M [.ref a0, .int a1] = true) ∧ jn_W d 171 1103 ls (v.toList ++ st) M1 Q) := jn_W_call (na := 2) rfl h hk rfl rfl (Nat.le_of_ble_eq_true rfl)
set_option maxRecDepth 100000 in
theorem jn_w171_1103 {d : Nat} {l0 l1 l3 : Option Value} {x : Nat} {st : List Value} {M : jn_M} {Q : Option Value → jn_M → Prop} : jn_W d 171 1103 [l0, l1, some (.ref x), l3] (st) M Q = jn_W d 171 1104 [l0, l1, some (.ref x), l3] (.ref x :: st) M Q := jn_W_eq (f := jn_aload_n 2) rfl rfl
set_option maxRecDepth 100000 in
theorem jn_w171_1103n {d : Nat} {l0 l1 l3 : Option Value} {st : List Value} {M : jn_M} {Q : Option Value → jn_M → Prop} : jn_W d 171 1103 [l0, l1, some .null, l3] (st) M Q = jn_W d 171 1104 [l0, l1, some .null, l3] (.null :: st) M Q := jn_W_eq (f := jn_aload_n 2) rfl rfl
set_option maxRecDepth 100000 in
theorem jn_w171_1104 {d : Nat} {l1 l2 l3 : Option Value} {x : Nat} {st : List Value} {M : jn_M} {Q : Option Value → jn_M → Prop} : jn_W d 171 1104 [some (.ref x), l1, l2, l3] (st) M Q = jn_W d 171 1105 [some (.ref x), l1, l2, l3] (.ref x :: st) M Q := jn_W_eq (f := jn_aload_n 0) rfl rfl
set_option maxRecDepth 100000 in
theorem jn_w171_1104n {d : Nat} {l1 l2 l3 : Option Value} {st : List Value} {M : jn_M} {Q : Option Value → jn_M → Prop} : jn_W d 171 1104 [some .null, l1, l2, l3] (st) M Q = jn_W d 171 1105 [some .null, l1, l2, l3] (.null :: st) M Q := jn_W_eq (f := jn_aload_n 0) rfl rfl
set_option maxRecDepth 100000 in
theorem jn_w171_1105 {d : Nat} {l0 l1 l2 : Option Value} {x : Int32} {st : List Value} {M : jn_M} {Q : Option Value → jn_M → Prop} : jn_W d 171 1105 [l0, l1, l2, some (.int x)] (st) M Q = jn_W d 171 1106 [l0, l1, l2, some (.int x)] (.int x :: st) M Q := jn_W_eq (f := jn_iload_n 3) rfl rfl
set_option maxRecDepth 100000 in
theorem jn_w171_1106 {d : Nat} {ls : jn_Lo} {st : List Value} {M : jn_M} {Q : Option Value → jn_M → Prop} : jn_W d 171 1106 ls (st) M Q = jn_W d 171 1107 ls (.int (nI 1) :: st) M Q := by rw [← jn_k_1]; exact jn_W_eq (f := jn_iconst 1) rfl rfl
set_option maxRecDepth 100000 in
theorem jn_w171_1107 {d : Nat} {ls : jn_Lo} {x y : Int32} {st : List Value} {M : jn_M} {Q : Option Value → jn_M → Prop} : jn_W d 171 1107 ls (.int y :: .int x :: st) M Q = jn_W d 171 1108 ls (.int (x + y) :: st) M Q := jn_W_eq (f := jn_iadd) rfl rfl
set_option maxRecDepth 100000 in
theorem jn_w171_1108 {d : Nat} {ls : jn_Lo} {a : Nat} {i : Int32} {st : List Value} {M : jn_M} {Q : Option Value → jn_M → Prop} : jn_W d 171 1108 ls (.int i :: .ref a :: st) M Q = (jn_aiO (jn_rs M a) 0 i = true ∧ jn_W d 171 1109 ls (.int (jn_aiV (jn_rs M a) i) :: st) M Q) := jn_W_eqc (f := jn_iaload) rfl jn_iaload_e
set_option maxRecDepth 100000 in
theorem jn_w171_1109 {d : Nat} {ls : jn_Lo} {a0 : Nat} {a1 : Int32} {k : Nat} {v : Option Value} {M1 : jn_M} {st : List Value} {M : jn_M} {Q : Option Value → jn_M → Prop} (h : jn_V 160 k [.ref a0, .int a1] M v M1) (hk : 1 ≤ k ∧ k + 1 ≤ d) : jn_W d 171 1109 ls (.int a1 :: .ref a0 :: st) M Q = ((jn_sm 8 st = true ∧ jn_rc 9 M [.ref a0, .int a1] = true) ∧ jn_W d 171 1112 ls (v.toList ++ st) M1 Q) := jn_W_call (na := 2) rfl h hk rfl rfl (Nat.le_of_ble_eq_true rfl)
set_option maxRecDepth 100000 in
theorem jn_w171_1112 {d : Nat} {ls : jn_Lo} {x y : Int32} {st : List Value} {M : jn_M} {Q : Option Value → jn_M → Prop} : jn_W d 171 1112 ls (.int y :: .int x :: st) M Q = if x = y then jn_W d 171 1252 ls (st) M Q else jn_W d 171 1115 ls (st) M Q := jn_W_br (f := jn_iceq 1252) _ rfl rfl
set_option maxRecDepth 100000 in
theorem jn_w171_1115 {d : Nat} {ls : jn_Lo} {st : List Value} {M : jn_M} {Q : Option Value → jn_M → Prop} : jn_W d 171 1115 ls (st) M Q = jn_W d 171 1116 ls (.int (nI 0) :: st) M Q := by rw [← jn_k_0]; exact jn_W_eq (f := jn_iconst 0) rfl rfl
set_option maxRecDepth 100000 in
theorem jn_w171_1116 {d : Nat} {ls : jn_Lo} {v : Int32} {M : jn_M} {Q : Option Value → jn_M → Prop} : jn_W d 171 1116 ls [.int v] M Q = (jn_zb v = true ∧ Q (some (.int v)) M) := jn_W_retc (k := 2) rfl jn_ret2_e
set_option maxRecDepth 100000 in
theorem jn_w171_1117 {d : Nat} {l0 l2 l3 : Option Value} {x : Nat} {st : List Value} {M : jn_M} {Q : Option Value → jn_M → Prop} : jn_W d 171 1117 [l0, some (.ref x), l2, l3] (st) M Q = jn_W d 171 1118 [l0, some (.ref x), l2, l3] (.ref x :: st) M Q := jn_W_eq (f := jn_aload_n 1) rfl rfl
set_option maxRecDepth 100000 in
theorem jn_w171_1117n {d : Nat} {l0 l2 l3 : Option Value} {st : List Value} {M : jn_M} {Q : Option Value → jn_M → Prop} : jn_W d 171 1117 [l0, some .null, l2, l3] (st) M Q = jn_W d 171 1118 [l0, some .null, l2, l3] (.null :: st) M Q := jn_W_eq (f := jn_aload_n 1) rfl rfl
set_option maxRecDepth 100000 in
theorem jn_w171_1118 {d : Nat} {l1 l2 l3 : Option Value} {x : Nat} {st : List Value} {M : jn_M} {Q : Option Value → jn_M → Prop} : jn_W d 171 1118 [some (.ref x), l1, l2, l3] (st) M Q = jn_W d 171 1119 [some (.ref x), l1, l2, l3] (.ref x :: st) M Q := jn_W_eq (f := jn_aload_n 0) rfl rfl
set_option maxRecDepth 100000 in
theorem jn_w171_1118n {d : Nat} {l1 l2 l3 : Option Value} {st : List Value} {M : jn_M} {Q : Option Value → jn_M → Prop} : jn_W d 171 1118 [some .null, l1, l2, l3] (st) M Q = jn_W d 171 1119 [some .null, l1, l2, l3] (.null :: st) M Q := jn_W_eq (f := jn_aload_n 0) rfl rfl
set_option maxRecDepth 100000 in
theorem jn_w171_1119 {d : Nat} {l0 l1 l2 : Option Value} {x : Int32} {st : List Value} {M : jn_M} {Q : Option Value → jn_M → Prop} : jn_W d 171 1119 [l0, l1, l2, some (.int x)] (st) M Q = jn_W d 171 1120 [l0, l1, l2, some (.int x)] (.int x :: st) M Q := jn_W_eq (f := jn_iload_n 3) rfl rfl
set_option maxRecDepth 100000 in
theorem jn_w171_1120 {d : Nat} {ls : jn_Lo} {st : List Value} {M : jn_M} {Q : Option Value → jn_M → Prop} : jn_W d 171 1120 ls (st) M Q = jn_W d 171 1121 ls (.int (nI 1) :: st) M Q := by rw [← jn_k_1]; exact jn_W_eq (f := jn_iconst 1) rfl rfl
set_option maxRecDepth 100000 in
theorem jn_w171_1121 {d : Nat} {ls : jn_Lo} {x y : Int32} {st : List Value} {M : jn_M} {Q : Option Value → jn_M → Prop} : jn_W d 171 1121 ls (.int y :: .int x :: st) M Q = jn_W d 171 1122 ls (.int (x + y) :: st) M Q := jn_W_eq (f := jn_iadd) rfl rfl
set_option maxRecDepth 100000 in
theorem jn_w171_1122 {d : Nat} {ls : jn_Lo} {a : Nat} {i : Int32} {st : List Value} {M : jn_M} {Q : Option Value → jn_M → Prop} : jn_W d 171 1122 ls (.int i :: .ref a :: st) M Q = (jn_aiO (jn_rs M a) 0 i = true ∧ jn_W d 171 1123 ls (.int (jn_aiV (jn_rs M a) i) :: st) M Q) := jn_W_eqc (f := jn_iaload) rfl jn_iaload_e
set_option maxRecDepth 100000 in
theorem jn_w171_1123 {d : Nat} {l1 l2 l3 : Option Value} {x : Nat} {st : List Value} {M : jn_M} {Q : Option Value → jn_M → Prop} : jn_W d 171 1123 [some (.ref x), l1, l2, l3] (st) M Q = jn_W d 171 1124 [some (.ref x), l1, l2, l3] (.ref x :: st) M Q := jn_W_eq (f := jn_aload_n 0) rfl rfl
set_option maxRecDepth 100000 in
theorem jn_w171_1123n {d : Nat} {l1 l2 l3 : Option Value} {st : List Value} {M : jn_M} {Q : Option Value → jn_M → Prop} : jn_W d 171 1123 [some .null, l1, l2, l3] (st) M Q = jn_W d 171 1124 [some .null, l1, l2, l3] (.null :: st) M Q := jn_W_eq (f := jn_aload_n 0) rfl rfl
set_option maxRecDepth 100000 in
theorem jn_w171_1124 {d : Nat} {l0 l1 l2 : Option Value} {x : Int32} {st : List Value} {M : jn_M} {Q : Option Value → jn_M → Prop} : jn_W d 171 1124 [l0, l1, l2, some (.int x)] (st) M Q = jn_W d 171 1125 [l0, l1, l2, some (.int x)] (.int x :: st) M Q := jn_W_eq (f := jn_iload_n 3) rfl rfl
set_option maxRecDepth 100000 in
theorem jn_w171_1125 {d : Nat} {ls : jn_Lo} {st : List Value} {M : jn_M} {Q : Option Value → jn_M → Prop} : jn_W d 171 1125 ls (st) M Q = jn_W d 171 1126 ls (.int (nI 2) :: st) M Q := by rw [← jn_k_2]; exact jn_W_eq (f := jn_iconst 2) rfl rfl
set_option maxRecDepth 100000 in
theorem jn_w171_1126 {d : Nat} {ls : jn_Lo} {x y : Int32} {st : List Value} {M : jn_M} {Q : Option Value → jn_M → Prop} : jn_W d 171 1126 ls (.int y :: .int x :: st) M Q = jn_W d 171 1127 ls (.int (x + y) :: st) M Q := jn_W_eq (f := jn_iadd) rfl rfl
set_option maxRecDepth 100000 in
theorem jn_w171_1127 {d : Nat} {ls : jn_Lo} {a : Nat} {i : Int32} {st : List Value} {M : jn_M} {Q : Option Value → jn_M → Prop} : jn_W d 171 1127 ls (.int i :: .ref a :: st) M Q = (jn_aiO (jn_rs M a) 0 i = true ∧ jn_W d 171 1128 ls (.int (jn_aiV (jn_rs M a) i) :: st) M Q) := jn_W_eqc (f := jn_iaload) rfl jn_iaload_e
set_option maxRecDepth 100000 in
theorem jn_w171_1128 {d : Nat} {ls : jn_Lo} {a0 : Nat} {a1 : Int32} {a2 : Int32} {k : Nat} {v : Option Value} {M1 : jn_M} {st : List Value} {M : jn_M} {Q : Option Value → jn_M → Prop} (h : jn_V 75 k [.ref a0, .int a1, .int a2] M v M1) (hk : 1 ≤ k ∧ k + 1 ≤ d) : jn_W d 171 1128 ls (.int a2 :: .int a1 :: .ref a0 :: st) M Q = ((jn_sm 8 st = true ∧ jn_rc 8 M [.ref a0, .int a1, .int a2] = true) ∧ jn_W d 171 1131 ls (v.toList ++ st) M1 Q) := jn_W_call (na := 3) rfl h hk rfl rfl (Nat.le_of_ble_eq_true rfl)
set_option maxRecDepth 100000 in
theorem jn_w171_1131 {d : Nat} {l0 l1 l3 : Option Value} {x : Nat} {st : List Value} {M : jn_M} {Q : Option Value → jn_M → Prop} : jn_W d 171 1131 [l0, l1, some (.ref x), l3] (st) M Q = jn_W d 171 1132 [l0, l1, some (.ref x), l3] (.ref x :: st) M Q := jn_W_eq (f := jn_aload_n 2) rfl rfl
set_option maxRecDepth 100000 in
theorem jn_w171_1131n {d : Nat} {l0 l1 l3 : Option Value} {st : List Value} {M : jn_M} {Q : Option Value → jn_M → Prop} : jn_W d 171 1131 [l0, l1, some .null, l3] (st) M Q = jn_W d 171 1132 [l0, l1, some .null, l3] (.null :: st) M Q := jn_W_eq (f := jn_aload_n 2) rfl rfl
set_option maxRecDepth 100000 in
theorem jn_w171_1132 {d : Nat} {l1 l2 l3 : Option Value} {x : Nat} {st : List Value} {M : jn_M} {Q : Option Value → jn_M → Prop} : jn_W d 171 1132 [some (.ref x), l1, l2, l3] (st) M Q = jn_W d 171 1133 [some (.ref x), l1, l2, l3] (.ref x :: st) M Q := jn_W_eq (f := jn_aload_n 0) rfl rfl
set_option maxRecDepth 100000 in
theorem jn_w171_1132n {d : Nat} {l1 l2 l3 : Option Value} {st : List Value} {M : jn_M} {Q : Option Value → jn_M → Prop} : jn_W d 171 1132 [some .null, l1, l2, l3] (st) M Q = jn_W d 171 1133 [some .null, l1, l2, l3] (.null :: st) M Q := jn_W_eq (f := jn_aload_n 0) rfl rfl
set_option maxRecDepth 100000 in
theorem jn_w171_1133 {d : Nat} {l0 l1 l2 : Option Value} {x : Int32} {st : List Value} {M : jn_M} {Q : Option Value → jn_M → Prop} : jn_W d 171 1133 [l0, l1, l2, some (.int x)] (st) M Q = jn_W d 171 1134 [l0, l1, l2, some (.int x)] (.int x :: st) M Q := jn_W_eq (f := jn_iload_n 3) rfl rfl
set_option maxRecDepth 100000 in
theorem jn_w171_1134 {d : Nat} {ls : jn_Lo} {st : List Value} {M : jn_M} {Q : Option Value → jn_M → Prop} : jn_W d 171 1134 ls (st) M Q = jn_W d 171 1135 ls (.int (nI 1) :: st) M Q := by rw [← jn_k_1]; exact jn_W_eq (f := jn_iconst 1) rfl rfl
set_option maxRecDepth 100000 in
theorem jn_w171_1135 {d : Nat} {ls : jn_Lo} {x y : Int32} {st : List Value} {M : jn_M} {Q : Option Value → jn_M → Prop} : jn_W d 171 1135 ls (.int y :: .int x :: st) M Q = jn_W d 171 1136 ls (.int (x + y) :: st) M Q := jn_W_eq (f := jn_iadd) rfl rfl
set_option maxRecDepth 100000 in
theorem jn_w171_1136 {d : Nat} {ls : jn_Lo} {a : Nat} {i : Int32} {st : List Value} {M : jn_M} {Q : Option Value → jn_M → Prop} : jn_W d 171 1136 ls (.int i :: .ref a :: st) M Q = (jn_aiO (jn_rs M a) 0 i = true ∧ jn_W d 171 1137 ls (.int (jn_aiV (jn_rs M a) i) :: st) M Q) := jn_W_eqc (f := jn_iaload) rfl jn_iaload_e
set_option maxRecDepth 100000 in
theorem jn_w171_1137 {d : Nat} {l1 l2 l3 : Option Value} {x : Nat} {st : List Value} {M : jn_M} {Q : Option Value → jn_M → Prop} : jn_W d 171 1137 [some (.ref x), l1, l2, l3] (st) M Q = jn_W d 171 1138 [some (.ref x), l1, l2, l3] (.ref x :: st) M Q := jn_W_eq (f := jn_aload_n 0) rfl rfl
set_option maxRecDepth 100000 in
theorem jn_w171_1137n {d : Nat} {l1 l2 l3 : Option Value} {st : List Value} {M : jn_M} {Q : Option Value → jn_M → Prop} : jn_W d 171 1137 [some .null, l1, l2, l3] (st) M Q = jn_W d 171 1138 [some .null, l1, l2, l3] (.null :: st) M Q := jn_W_eq (f := jn_aload_n 0) rfl rfl
set_option maxRecDepth 100000 in
theorem jn_w171_1138 {d : Nat} {l0 l1 l2 : Option Value} {x : Int32} {st : List Value} {M : jn_M} {Q : Option Value → jn_M → Prop} : jn_W d 171 1138 [l0, l1, l2, some (.int x)] (st) M Q = jn_W d 171 1139 [l0, l1, l2, some (.int x)] (.int x :: st) M Q := jn_W_eq (f := jn_iload_n 3) rfl rfl
set_option maxRecDepth 100000 in
theorem jn_w171_1139 {d : Nat} {ls : jn_Lo} {st : List Value} {M : jn_M} {Q : Option Value → jn_M → Prop} : jn_W d 171 1139 ls (st) M Q = jn_W d 171 1140 ls (.int (nI 2) :: st) M Q := by rw [← jn_k_2]; exact jn_W_eq (f := jn_iconst 2) rfl rfl
set_option maxRecDepth 100000 in
theorem jn_w171_1140 {d : Nat} {ls : jn_Lo} {x y : Int32} {st : List Value} {M : jn_M} {Q : Option Value → jn_M → Prop} : jn_W d 171 1140 ls (.int y :: .int x :: st) M Q = jn_W d 171 1141 ls (.int (x + y) :: st) M Q := jn_W_eq (f := jn_iadd) rfl rfl
set_option maxRecDepth 100000 in
theorem jn_w171_1141 {d : Nat} {ls : jn_Lo} {a : Nat} {i : Int32} {st : List Value} {M : jn_M} {Q : Option Value → jn_M → Prop} : jn_W d 171 1141 ls (.int i :: .ref a :: st) M Q = (jn_aiO (jn_rs M a) 0 i = true ∧ jn_W d 171 1142 ls (.int (jn_aiV (jn_rs M a) i) :: st) M Q) := jn_W_eqc (f := jn_iaload) rfl jn_iaload_e
set_option maxRecDepth 100000 in
theorem jn_w171_1142 {d : Nat} {ls : jn_Lo} {a0 : Nat} {a1 : Int32} {a2 : Int32} {k : Nat} {v : Option Value} {M1 : jn_M} {st : List Value} {M : jn_M} {Q : Option Value → jn_M → Prop} (h : jn_V 161 k [.ref a0, .int a1, .int a2] M v M1) (hk : 1 ≤ k ∧ k + 1 ≤ d) : jn_W d 171 1142 ls (.int a2 :: .int a1 :: .ref a0 :: st) M Q = ((jn_sm 8 st = true ∧ jn_rc 9 M [.ref a0, .int a1, .int a2] = true) ∧ jn_W d 171 1145 ls (v.toList ++ st) M1 Q) := jn_W_call (na := 3) rfl h hk rfl rfl (Nat.le_of_ble_eq_true rfl)
set_option maxRecDepth 100000 in
theorem jn_w171_1145 {d : Nat} {ls : jn_Lo} {x y : Int32} {st : List Value} {M : jn_M} {Q : Option Value → jn_M → Prop} : jn_W d 171 1145 ls (.int y :: .int x :: st) M Q = if x = y then jn_W d 171 1252 ls (st) M Q else jn_W d 171 1148 ls (st) M Q := jn_W_br (f := jn_iceq 1252) _ rfl rfl
set_option maxRecDepth 100000 in
theorem jn_w171_1148 {d : Nat} {ls : jn_Lo} {st : List Value} {M : jn_M} {Q : Option Value → jn_M → Prop} : jn_W d 171 1148 ls (st) M Q = jn_W d 171 1149 ls (.int (nI 0) :: st) M Q := by rw [← jn_k_0]; exact jn_W_eq (f := jn_iconst 0) rfl rfl
set_option maxRecDepth 100000 in
theorem jn_w171_1149 {d : Nat} {ls : jn_Lo} {v : Int32} {M : jn_M} {Q : Option Value → jn_M → Prop} : jn_W d 171 1149 ls [.int v] M Q = (jn_zb v = true ∧ Q (some (.int v)) M) := jn_W_retc (k := 2) rfl jn_ret2_e
set_option maxRecDepth 100000 in
theorem jn_w171_1150 {d : Nat} {l0 l2 l3 : Option Value} {x : Nat} {st : List Value} {M : jn_M} {Q : Option Value → jn_M → Prop} : jn_W d 171 1150 [l0, some (.ref x), l2, l3] (st) M Q = jn_W d 171 1151 [l0, some (.ref x), l2, l3] (.ref x :: st) M Q := jn_W_eq (f := jn_aload_n 1) rfl rfl
set_option maxRecDepth 100000 in
theorem jn_w171_1150n {d : Nat} {l0 l2 l3 : Option Value} {st : List Value} {M : jn_M} {Q : Option Value → jn_M → Prop} : jn_W d 171 1150 [l0, some .null, l2, l3] (st) M Q = jn_W d 171 1151 [l0, some .null, l2, l3] (.null :: st) M Q := jn_W_eq (f := jn_aload_n 1) rfl rfl
set_option maxRecDepth 100000 in
theorem jn_w171_1151 {d : Nat} {ls : jn_Lo} {a0 : Nat} {k : Nat} {v : Option Value} {M1 : jn_M} {st : List Value} {M : jn_M} {Q : Option Value → jn_M → Prop} (h : jn_V 76 k [.ref a0] M v M1) (hk : 1 ≤ k ∧ k + 1 ≤ d) : jn_W d 171 1151 ls (.ref a0 :: st) M Q = ((jn_sm 8 st = true ∧ jn_rc 8 M [.ref a0] = true) ∧ jn_W d 171 1154 ls (v.toList ++ st) M1 Q) := jn_W_call (na := 1) rfl h hk rfl rfl (Nat.le_of_ble_eq_true rfl)
set_option maxRecDepth 100000 in
theorem jn_w171_1154 {d : Nat} {l0 l1 l3 : Option Value} {x : Nat} {st : List Value} {M : jn_M} {Q : Option Value → jn_M → Prop} : jn_W d 171 1154 [l0, l1, some (.ref x), l3] (st) M Q = jn_W d 171 1155 [l0, l1, some (.ref x), l3] (.ref x :: st) M Q := jn_W_eq (f := jn_aload_n 2) rfl rfl
set_option maxRecDepth 100000 in
theorem jn_w171_1154n {d : Nat} {l0 l1 l3 : Option Value} {st : List Value} {M : jn_M} {Q : Option Value → jn_M → Prop} : jn_W d 171 1154 [l0, l1, some .null, l3] (st) M Q = jn_W d 171 1155 [l0, l1, some .null, l3] (.null :: st) M Q := jn_W_eq (f := jn_aload_n 2) rfl rfl
set_option maxRecDepth 100000 in
theorem jn_w171_1155 {d : Nat} {ls : jn_Lo} {a0 : Nat} {k : Nat} {v : Option Value} {M1 : jn_M} {st : List Value} {M : jn_M} {Q : Option Value → jn_M → Prop} (h : jn_V 162 k [.ref a0] M v M1) (hk : 1 ≤ k ∧ k + 1 ≤ d) : jn_W d 171 1155 ls (.ref a0 :: st) M Q = ((jn_sm 8 st = true ∧ jn_rc 9 M [.ref a0] = true) ∧ jn_W d 171 1158 ls (v.toList ++ st) M1 Q) := jn_W_call (na := 1) rfl h hk rfl rfl (Nat.le_of_ble_eq_true rfl)
set_option maxRecDepth 100000 in
theorem jn_w171_1158 {d : Nat} {ls : jn_Lo} {x y : Int32} {st : List Value} {M : jn_M} {Q : Option Value → jn_M → Prop} : jn_W d 171 1158 ls (.int y :: .int x :: st) M Q = if x = y then jn_W d 171 1252 ls (st) M Q else jn_W d 171 1161 ls (st) M Q := jn_W_br (f := jn_iceq 1252) _ rfl rfl
set_option maxRecDepth 100000 in
theorem jn_w171_1161 {d : Nat} {ls : jn_Lo} {st : List Value} {M : jn_M} {Q : Option Value → jn_M → Prop} : jn_W d 171 1161 ls (st) M Q = jn_W d 171 1162 ls (.int (nI 0) :: st) M Q := by rw [← jn_k_0]; exact jn_W_eq (f := jn_iconst 0) rfl rfl
set_option maxRecDepth 100000 in
theorem jn_w171_1162 {d : Nat} {ls : jn_Lo} {v : Int32} {M : jn_M} {Q : Option Value → jn_M → Prop} : jn_W d 171 1162 ls [.int v] M Q = (jn_zb v = true ∧ Q (some (.int v)) M) := jn_W_retc (k := 2) rfl jn_ret2_e
set_option maxRecDepth 100000 in
theorem jn_w171_1163 {d : Nat} {l0 l2 l3 : Option Value} {x : Nat} {st : List Value} {M : jn_M} {Q : Option Value → jn_M → Prop} : jn_W d 171 1163 [l0, some (.ref x), l2, l3] (st) M Q = jn_W d 171 1164 [l0, some (.ref x), l2, l3] (.ref x :: st) M Q := jn_W_eq (f := jn_aload_n 1) rfl rfl
set_option maxRecDepth 100000 in
theorem jn_w171_1163n {d : Nat} {l0 l2 l3 : Option Value} {st : List Value} {M : jn_M} {Q : Option Value → jn_M → Prop} : jn_W d 171 1163 [l0, some .null, l2, l3] (st) M Q = jn_W d 171 1164 [l0, some .null, l2, l3] (.null :: st) M Q := jn_W_eq (f := jn_aload_n 1) rfl rfl
set_option maxRecDepth 100000 in
theorem jn_w171_1164 {d : Nat} {l1 l2 l3 : Option Value} {x : Nat} {st : List Value} {M : jn_M} {Q : Option Value → jn_M → Prop} : jn_W d 171 1164 [some (.ref x), l1, l2, l3] (st) M Q = jn_W d 171 1165 [some (.ref x), l1, l2, l3] (.ref x :: st) M Q := jn_W_eq (f := jn_aload_n 0) rfl rfl
set_option maxRecDepth 100000 in
theorem jn_w171_1164n {d : Nat} {l1 l2 l3 : Option Value} {st : List Value} {M : jn_M} {Q : Option Value → jn_M → Prop} : jn_W d 171 1164 [some .null, l1, l2, l3] (st) M Q = jn_W d 171 1165 [some .null, l1, l2, l3] (.null :: st) M Q := jn_W_eq (f := jn_aload_n 0) rfl rfl
set_option maxRecDepth 100000 in
theorem jn_w171_1165 {d : Nat} {l0 l1 l2 : Option Value} {x : Int32} {st : List Value} {M : jn_M} {Q : Option Value → jn_M → Prop} : jn_W d 171 1165 [l0, l1, l2, some (.int x)] (st) M Q = jn_W d 171 1166 [l0, l1, l2, some (.int x)] (.int x :: st) M Q := jn_W_eq (f := jn_iload_n 3) rfl rfl
set_option maxRecDepth 100000 in
theorem jn_w171_1166 {d : Nat} {ls : jn_Lo} {st : List Value} {M : jn_M} {Q : Option Value → jn_M → Prop} : jn_W d 171 1166 ls (st) M Q = jn_W d 171 1167 ls (.int (nI 1) :: st) M Q := by rw [← jn_k_1]; exact jn_W_eq (f := jn_iconst 1) rfl rfl
set_option maxRecDepth 100000 in
theorem jn_w171_1167 {d : Nat} {ls : jn_Lo} {x y : Int32} {st : List Value} {M : jn_M} {Q : Option Value → jn_M → Prop} : jn_W d 171 1167 ls (.int y :: .int x :: st) M Q = jn_W d 171 1168 ls (.int (x + y) :: st) M Q := jn_W_eq (f := jn_iadd) rfl rfl
set_option maxRecDepth 100000 in
theorem jn_w171_1168 {d : Nat} {ls : jn_Lo} {a : Nat} {i : Int32} {st : List Value} {M : jn_M} {Q : Option Value → jn_M → Prop} : jn_W d 171 1168 ls (.int i :: .ref a :: st) M Q = (jn_aiO (jn_rs M a) 0 i = true ∧ jn_W d 171 1169 ls (.int (jn_aiV (jn_rs M a) i) :: st) M Q) := jn_W_eqc (f := jn_iaload) rfl jn_iaload_e
set_option maxRecDepth 100000 in
theorem jn_w171_1169 {d : Nat} {ls : jn_Lo} {a0 : Nat} {a1 : Int32} {k : Nat} {v : Option Value} {M1 : jn_M} {st : List Value} {M : jn_M} {Q : Option Value → jn_M → Prop} (h : jn_V 77 k [.ref a0, .int a1] M v M1) (hk : 1 ≤ k ∧ k + 1 ≤ d) : jn_W d 171 1169 ls (.int a1 :: .ref a0 :: st) M Q = ((jn_sm 8 st = true ∧ jn_rc 8 M [.ref a0, .int a1] = true) ∧ jn_W d 171 1172 ls (v.toList ++ st) M1 Q) := jn_W_call (na := 2) rfl h hk rfl rfl (Nat.le_of_ble_eq_true rfl)
set_option maxRecDepth 100000 in
theorem jn_w171_1172 {d : Nat} {l0 l1 l3 : Option Value} {x : Nat} {st : List Value} {M : jn_M} {Q : Option Value → jn_M → Prop} : jn_W d 171 1172 [l0, l1, some (.ref x), l3] (st) M Q = jn_W d 171 1173 [l0, l1, some (.ref x), l3] (.ref x :: st) M Q := jn_W_eq (f := jn_aload_n 2) rfl rfl
set_option maxRecDepth 100000 in
theorem jn_w171_1172n {d : Nat} {l0 l1 l3 : Option Value} {st : List Value} {M : jn_M} {Q : Option Value → jn_M → Prop} : jn_W d 171 1172 [l0, l1, some .null, l3] (st) M Q = jn_W d 171 1173 [l0, l1, some .null, l3] (.null :: st) M Q := jn_W_eq (f := jn_aload_n 2) rfl rfl
set_option maxRecDepth 100000 in
theorem jn_w171_1173 {d : Nat} {l1 l2 l3 : Option Value} {x : Nat} {st : List Value} {M : jn_M} {Q : Option Value → jn_M → Prop} : jn_W d 171 1173 [some (.ref x), l1, l2, l3] (st) M Q = jn_W d 171 1174 [some (.ref x), l1, l2, l3] (.ref x :: st) M Q := jn_W_eq (f := jn_aload_n 0) rfl rfl
set_option maxRecDepth 100000 in
theorem jn_w171_1173n {d : Nat} {l1 l2 l3 : Option Value} {st : List Value} {M : jn_M} {Q : Option Value → jn_M → Prop} : jn_W d 171 1173 [some .null, l1, l2, l3] (st) M Q = jn_W d 171 1174 [some .null, l1, l2, l3] (.null :: st) M Q := jn_W_eq (f := jn_aload_n 0) rfl rfl
set_option maxRecDepth 100000 in
theorem jn_w171_1174 {d : Nat} {l0 l1 l2 : Option Value} {x : Int32} {st : List Value} {M : jn_M} {Q : Option Value → jn_M → Prop} : jn_W d 171 1174 [l0, l1, l2, some (.int x)] (st) M Q = jn_W d 171 1175 [l0, l1, l2, some (.int x)] (.int x :: st) M Q := jn_W_eq (f := jn_iload_n 3) rfl rfl
set_option maxRecDepth 100000 in
theorem jn_w171_1175 {d : Nat} {ls : jn_Lo} {st : List Value} {M : jn_M} {Q : Option Value → jn_M → Prop} : jn_W d 171 1175 ls (st) M Q = jn_W d 171 1176 ls (.int (nI 1) :: st) M Q := by rw [← jn_k_1]; exact jn_W_eq (f := jn_iconst 1) rfl rfl
set_option maxRecDepth 100000 in
theorem jn_w171_1176 {d : Nat} {ls : jn_Lo} {x y : Int32} {st : List Value} {M : jn_M} {Q : Option Value → jn_M → Prop} : jn_W d 171 1176 ls (.int y :: .int x :: st) M Q = jn_W d 171 1177 ls (.int (x + y) :: st) M Q := jn_W_eq (f := jn_iadd) rfl rfl
set_option maxRecDepth 100000 in
theorem jn_w171_1177 {d : Nat} {ls : jn_Lo} {a : Nat} {i : Int32} {st : List Value} {M : jn_M} {Q : Option Value → jn_M → Prop} : jn_W d 171 1177 ls (.int i :: .ref a :: st) M Q = (jn_aiO (jn_rs M a) 0 i = true ∧ jn_W d 171 1178 ls (.int (jn_aiV (jn_rs M a) i) :: st) M Q) := jn_W_eqc (f := jn_iaload) rfl jn_iaload_e
set_option maxRecDepth 100000 in
theorem jn_w171_1178 {d : Nat} {ls : jn_Lo} {a0 : Nat} {a1 : Int32} {k : Nat} {v : Option Value} {M1 : jn_M} {st : List Value} {M : jn_M} {Q : Option Value → jn_M → Prop} (h : jn_V 163 k [.ref a0, .int a1] M v M1) (hk : 1 ≤ k ∧ k + 1 ≤ d) : jn_W d 171 1178 ls (.int a1 :: .ref a0 :: st) M Q = ((jn_sm 8 st = true ∧ jn_rc 9 M [.ref a0, .int a1] = true) ∧ jn_W d 171 1181 ls (v.toList ++ st) M1 Q) := jn_W_call (na := 2) rfl h hk rfl rfl (Nat.le_of_ble_eq_true rfl)
set_option maxRecDepth 100000 in
theorem jn_w171_1181 {d : Nat} {ls : jn_Lo} {x y : Int32} {st : List Value} {M : jn_M} {Q : Option Value → jn_M → Prop} : jn_W d 171 1181 ls (.int y :: .int x :: st) M Q = if x = y then jn_W d 171 1252 ls (st) M Q else jn_W d 171 1184 ls (st) M Q := jn_W_br (f := jn_iceq 1252) _ rfl rfl
set_option maxRecDepth 100000 in
theorem jn_w171_1184 {d : Nat} {ls : jn_Lo} {st : List Value} {M : jn_M} {Q : Option Value → jn_M → Prop} : jn_W d 171 1184 ls (st) M Q = jn_W d 171 1185 ls (.int (nI 0) :: st) M Q := by rw [← jn_k_0]; exact jn_W_eq (f := jn_iconst 0) rfl rfl
set_option maxRecDepth 100000 in
theorem jn_w171_1185 {d : Nat} {ls : jn_Lo} {v : Int32} {M : jn_M} {Q : Option Value → jn_M → Prop} : jn_W d 171 1185 ls [.int v] M Q = (jn_zb v = true ∧ Q (some (.int v)) M) := jn_W_retc (k := 2) rfl jn_ret2_e
set_option maxRecDepth 100000 in
theorem jn_w171_1186 {d : Nat} {l0 l2 l3 : Option Value} {x : Nat} {st : List Value} {M : jn_M} {Q : Option Value → jn_M → Prop} : jn_W d 171 1186 [l0, some (.ref x), l2, l3] (st) M Q = jn_W d 171 1187 [l0, some (.ref x), l2, l3] (.ref x :: st) M Q := jn_W_eq (f := jn_aload_n 1) rfl rfl
set_option maxRecDepth 100000 in
theorem jn_w171_1186n {d : Nat} {l0 l2 l3 : Option Value} {st : List Value} {M : jn_M} {Q : Option Value → jn_M → Prop} : jn_W d 171 1186 [l0, some .null, l2, l3] (st) M Q = jn_W d 171 1187 [l0, some .null, l2, l3] (.null :: st) M Q := jn_W_eq (f := jn_aload_n 1) rfl rfl
set_option maxRecDepth 100000 in
theorem jn_w171_1187 {d : Nat} {l1 l2 l3 : Option Value} {x : Nat} {st : List Value} {M : jn_M} {Q : Option Value → jn_M → Prop} : jn_W d 171 1187 [some (.ref x), l1, l2, l3] (st) M Q = jn_W d 171 1188 [some (.ref x), l1, l2, l3] (.ref x :: st) M Q := jn_W_eq (f := jn_aload_n 0) rfl rfl
set_option maxRecDepth 100000 in
theorem jn_w171_1187n {d : Nat} {l1 l2 l3 : Option Value} {st : List Value} {M : jn_M} {Q : Option Value → jn_M → Prop} : jn_W d 171 1187 [some .null, l1, l2, l3] (st) M Q = jn_W d 171 1188 [some .null, l1, l2, l3] (.null :: st) M Q := jn_W_eq (f := jn_aload_n 0) rfl rfl
set_option maxRecDepth 100000 in
theorem jn_w171_1188 {d : Nat} {l0 l1 l2 : Option Value} {x : Int32} {st : List Value} {M : jn_M} {Q : Option Value → jn_M → Prop} : jn_W d 171 1188 [l0, l1, l2, some (.int x)] (st) M Q = jn_W d 171 1189 [l0, l1, l2, some (.int x)] (.int x :: st) M Q := jn_W_eq (f := jn_iload_n 3) rfl rfl
set_option maxRecDepth 100000 in
theorem jn_w171_1189 {d : Nat} {ls : jn_Lo} {st : List Value} {M : jn_M} {Q : Option Value → jn_M → Prop} : jn_W d 171 1189 ls (st) M Q = jn_W d 171 1190 ls (.int (nI 1) :: st) M Q := by rw [← jn_k_1]; exact jn_W_eq (f := jn_iconst 1) rfl rfl
set_option maxRecDepth 100000 in
theorem jn_w171_1190 {d : Nat} {ls : jn_Lo} {x y : Int32} {st : List Value} {M : jn_M} {Q : Option Value → jn_M → Prop} : jn_W d 171 1190 ls (.int y :: .int x :: st) M Q = jn_W d 171 1191 ls (.int (x + y) :: st) M Q := jn_W_eq (f := jn_iadd) rfl rfl
set_option maxRecDepth 100000 in
theorem jn_w171_1191 {d : Nat} {ls : jn_Lo} {a : Nat} {i : Int32} {st : List Value} {M : jn_M} {Q : Option Value → jn_M → Prop} : jn_W d 171 1191 ls (.int i :: .ref a :: st) M Q = (jn_aiO (jn_rs M a) 0 i = true ∧ jn_W d 171 1192 ls (.int (jn_aiV (jn_rs M a) i) :: st) M Q) := jn_W_eqc (f := jn_iaload) rfl jn_iaload_e
set_option maxRecDepth 100000 in
theorem jn_w171_1192 {d : Nat} {l1 l2 l3 : Option Value} {x : Nat} {st : List Value} {M : jn_M} {Q : Option Value → jn_M → Prop} : jn_W d 171 1192 [some (.ref x), l1, l2, l3] (st) M Q = jn_W d 171 1193 [some (.ref x), l1, l2, l3] (.ref x :: st) M Q := jn_W_eq (f := jn_aload_n 0) rfl rfl
set_option maxRecDepth 100000 in
theorem jn_w171_1192n {d : Nat} {l1 l2 l3 : Option Value} {st : List Value} {M : jn_M} {Q : Option Value → jn_M → Prop} : jn_W d 171 1192 [some .null, l1, l2, l3] (st) M Q = jn_W d 171 1193 [some .null, l1, l2, l3] (.null :: st) M Q := jn_W_eq (f := jn_aload_n 0) rfl rfl
set_option maxRecDepth 100000 in
theorem jn_w171_1193 {d : Nat} {l0 l1 l2 : Option Value} {x : Int32} {st : List Value} {M : jn_M} {Q : Option Value → jn_M → Prop} : jn_W d 171 1193 [l0, l1, l2, some (.int x)] (st) M Q = jn_W d 171 1194 [l0, l1, l2, some (.int x)] (.int x :: st) M Q := jn_W_eq (f := jn_iload_n 3) rfl rfl
set_option maxRecDepth 100000 in
theorem jn_w171_1194 {d : Nat} {ls : jn_Lo} {st : List Value} {M : jn_M} {Q : Option Value → jn_M → Prop} : jn_W d 171 1194 ls (st) M Q = jn_W d 171 1195 ls (.int (nI 2) :: st) M Q := by rw [← jn_k_2]; exact jn_W_eq (f := jn_iconst 2) rfl rfl
set_option maxRecDepth 100000 in
theorem jn_w171_1195 {d : Nat} {ls : jn_Lo} {x y : Int32} {st : List Value} {M : jn_M} {Q : Option Value → jn_M → Prop} : jn_W d 171 1195 ls (.int y :: .int x :: st) M Q = jn_W d 171 1196 ls (.int (x + y) :: st) M Q := jn_W_eq (f := jn_iadd) rfl rfl
set_option maxRecDepth 100000 in
theorem jn_w171_1196 {d : Nat} {ls : jn_Lo} {a : Nat} {i : Int32} {st : List Value} {M : jn_M} {Q : Option Value → jn_M → Prop} : jn_W d 171 1196 ls (.int i :: .ref a :: st) M Q = (jn_aiO (jn_rs M a) 0 i = true ∧ jn_W d 171 1197 ls (.int (jn_aiV (jn_rs M a) i) :: st) M Q) := jn_W_eqc (f := jn_iaload) rfl jn_iaload_e
set_option maxRecDepth 100000 in
theorem jn_w171_1197 {d : Nat} {l1 l2 l3 : Option Value} {x : Nat} {st : List Value} {M : jn_M} {Q : Option Value → jn_M → Prop} : jn_W d 171 1197 [some (.ref x), l1, l2, l3] (st) M Q = jn_W d 171 1198 [some (.ref x), l1, l2, l3] (.ref x :: st) M Q := jn_W_eq (f := jn_aload_n 0) rfl rfl
set_option maxRecDepth 100000 in
theorem jn_w171_1197n {d : Nat} {l1 l2 l3 : Option Value} {st : List Value} {M : jn_M} {Q : Option Value → jn_M → Prop} : jn_W d 171 1197 [some .null, l1, l2, l3] (st) M Q = jn_W d 171 1198 [some .null, l1, l2, l3] (.null :: st) M Q := jn_W_eq (f := jn_aload_n 0) rfl rfl
set_option maxRecDepth 100000 in
theorem jn_w171_1198 {d : Nat} {l0 l1 l2 : Option Value} {x : Int32} {st : List Value} {M : jn_M} {Q : Option Value → jn_M → Prop} : jn_W d 171 1198 [l0, l1, l2, some (.int x)] (st) M Q = jn_W d 171 1199 [l0, l1, l2, some (.int x)] (.int x :: st) M Q := jn_W_eq (f := jn_iload_n 3) rfl rfl
set_option maxRecDepth 100000 in
theorem jn_w171_1199 {d : Nat} {ls : jn_Lo} {st : List Value} {M : jn_M} {Q : Option Value → jn_M → Prop} : jn_W d 171 1199 ls (st) M Q = jn_W d 171 1200 ls (.int (nI 3) :: st) M Q := by rw [← jn_k_3]; exact jn_W_eq (f := jn_iconst 3) rfl rfl
set_option maxRecDepth 100000 in
theorem jn_w171_1200 {d : Nat} {ls : jn_Lo} {x y : Int32} {st : List Value} {M : jn_M} {Q : Option Value → jn_M → Prop} : jn_W d 171 1200 ls (.int y :: .int x :: st) M Q = jn_W d 171 1201 ls (.int (x + y) :: st) M Q := jn_W_eq (f := jn_iadd) rfl rfl
set_option maxRecDepth 100000 in
theorem jn_w171_1201 {d : Nat} {ls : jn_Lo} {a : Nat} {i : Int32} {st : List Value} {M : jn_M} {Q : Option Value → jn_M → Prop} : jn_W d 171 1201 ls (.int i :: .ref a :: st) M Q = (jn_aiO (jn_rs M a) 0 i = true ∧ jn_W d 171 1202 ls (.int (jn_aiV (jn_rs M a) i) :: st) M Q) := jn_W_eqc (f := jn_iaload) rfl jn_iaload_e
set_option maxRecDepth 100000 in
theorem jn_w171_1202 {d : Nat} {ls : jn_Lo} {a0 : Nat} {a1 : Int32} {a2 : Int32} {a3 : Int32} {k : Nat} {v : Option Value} {M1 : jn_M} {st : List Value} {M : jn_M} {Q : Option Value → jn_M → Prop} (h : jn_V 78 k [.ref a0, .int a1, .int a2, .int a3] M v M1) (hk : 1 ≤ k ∧ k + 1 ≤ d) : jn_W d 171 1202 ls (.int a3 :: .int a2 :: .int a1 :: .ref a0 :: st) M Q = ((jn_sm 8 st = true ∧ jn_rc 8 M [.ref a0, .int a1, .int a2, .int a3] = true) ∧ jn_W d 171 1205 ls (v.toList ++ st) M1 Q) := jn_W_call (na := 4) rfl h hk rfl rfl (Nat.le_of_ble_eq_true rfl)
set_option maxRecDepth 100000 in
theorem jn_w171_1205 {d : Nat} {l0 l1 l3 : Option Value} {x : Nat} {st : List Value} {M : jn_M} {Q : Option Value → jn_M → Prop} : jn_W d 171 1205 [l0, l1, some (.ref x), l3] (st) M Q = jn_W d 171 1206 [l0, l1, some (.ref x), l3] (.ref x :: st) M Q := jn_W_eq (f := jn_aload_n 2) rfl rfl
set_option maxRecDepth 100000 in
theorem jn_w171_1205n {d : Nat} {l0 l1 l3 : Option Value} {st : List Value} {M : jn_M} {Q : Option Value → jn_M → Prop} : jn_W d 171 1205 [l0, l1, some .null, l3] (st) M Q = jn_W d 171 1206 [l0, l1, some .null, l3] (.null :: st) M Q := jn_W_eq (f := jn_aload_n 2) rfl rfl
set_option maxRecDepth 100000 in
theorem jn_w171_1206 {d : Nat} {l1 l2 l3 : Option Value} {x : Nat} {st : List Value} {M : jn_M} {Q : Option Value → jn_M → Prop} : jn_W d 171 1206 [some (.ref x), l1, l2, l3] (st) M Q = jn_W d 171 1207 [some (.ref x), l1, l2, l3] (.ref x :: st) M Q := jn_W_eq (f := jn_aload_n 0) rfl rfl
set_option maxRecDepth 100000 in
theorem jn_w171_1206n {d : Nat} {l1 l2 l3 : Option Value} {st : List Value} {M : jn_M} {Q : Option Value → jn_M → Prop} : jn_W d 171 1206 [some .null, l1, l2, l3] (st) M Q = jn_W d 171 1207 [some .null, l1, l2, l3] (.null :: st) M Q := jn_W_eq (f := jn_aload_n 0) rfl rfl
set_option maxRecDepth 100000 in
theorem jn_w171_1207 {d : Nat} {l0 l1 l2 : Option Value} {x : Int32} {st : List Value} {M : jn_M} {Q : Option Value → jn_M → Prop} : jn_W d 171 1207 [l0, l1, l2, some (.int x)] (st) M Q = jn_W d 171 1208 [l0, l1, l2, some (.int x)] (.int x :: st) M Q := jn_W_eq (f := jn_iload_n 3) rfl rfl
set_option maxRecDepth 100000 in
theorem jn_w171_1208 {d : Nat} {ls : jn_Lo} {st : List Value} {M : jn_M} {Q : Option Value → jn_M → Prop} : jn_W d 171 1208 ls (st) M Q = jn_W d 171 1209 ls (.int (nI 1) :: st) M Q := by rw [← jn_k_1]; exact jn_W_eq (f := jn_iconst 1) rfl rfl
set_option maxRecDepth 100000 in
theorem jn_w171_1209 {d : Nat} {ls : jn_Lo} {x y : Int32} {st : List Value} {M : jn_M} {Q : Option Value → jn_M → Prop} : jn_W d 171 1209 ls (.int y :: .int x :: st) M Q = jn_W d 171 1210 ls (.int (x + y) :: st) M Q := jn_W_eq (f := jn_iadd) rfl rfl
set_option maxRecDepth 100000 in
theorem jn_w171_1210 {d : Nat} {ls : jn_Lo} {a : Nat} {i : Int32} {st : List Value} {M : jn_M} {Q : Option Value → jn_M → Prop} : jn_W d 171 1210 ls (.int i :: .ref a :: st) M Q = (jn_aiO (jn_rs M a) 0 i = true ∧ jn_W d 171 1211 ls (.int (jn_aiV (jn_rs M a) i) :: st) M Q) := jn_W_eqc (f := jn_iaload) rfl jn_iaload_e
set_option maxRecDepth 100000 in
theorem jn_w171_1211 {d : Nat} {l1 l2 l3 : Option Value} {x : Nat} {st : List Value} {M : jn_M} {Q : Option Value → jn_M → Prop} : jn_W d 171 1211 [some (.ref x), l1, l2, l3] (st) M Q = jn_W d 171 1212 [some (.ref x), l1, l2, l3] (.ref x :: st) M Q := jn_W_eq (f := jn_aload_n 0) rfl rfl
set_option maxRecDepth 100000 in
theorem jn_w171_1211n {d : Nat} {l1 l2 l3 : Option Value} {st : List Value} {M : jn_M} {Q : Option Value → jn_M → Prop} : jn_W d 171 1211 [some .null, l1, l2, l3] (st) M Q = jn_W d 171 1212 [some .null, l1, l2, l3] (.null :: st) M Q := jn_W_eq (f := jn_aload_n 0) rfl rfl
set_option maxRecDepth 100000 in
theorem jn_w171_1212 {d : Nat} {l0 l1 l2 : Option Value} {x : Int32} {st : List Value} {M : jn_M} {Q : Option Value → jn_M → Prop} : jn_W d 171 1212 [l0, l1, l2, some (.int x)] (st) M Q = jn_W d 171 1213 [l0, l1, l2, some (.int x)] (.int x :: st) M Q := jn_W_eq (f := jn_iload_n 3) rfl rfl
set_option maxRecDepth 100000 in
theorem jn_w171_1213 {d : Nat} {ls : jn_Lo} {st : List Value} {M : jn_M} {Q : Option Value → jn_M → Prop} : jn_W d 171 1213 ls (st) M Q = jn_W d 171 1214 ls (.int (nI 2) :: st) M Q := by rw [← jn_k_2]; exact jn_W_eq (f := jn_iconst 2) rfl rfl
set_option maxRecDepth 100000 in
theorem jn_w171_1214 {d : Nat} {ls : jn_Lo} {x y : Int32} {st : List Value} {M : jn_M} {Q : Option Value → jn_M → Prop} : jn_W d 171 1214 ls (.int y :: .int x :: st) M Q = jn_W d 171 1215 ls (.int (x + y) :: st) M Q := jn_W_eq (f := jn_iadd) rfl rfl
set_option maxRecDepth 100000 in
theorem jn_w171_1215 {d : Nat} {ls : jn_Lo} {a : Nat} {i : Int32} {st : List Value} {M : jn_M} {Q : Option Value → jn_M → Prop} : jn_W d 171 1215 ls (.int i :: .ref a :: st) M Q = (jn_aiO (jn_rs M a) 0 i = true ∧ jn_W d 171 1216 ls (.int (jn_aiV (jn_rs M a) i) :: st) M Q) := jn_W_eqc (f := jn_iaload) rfl jn_iaload_e
set_option maxRecDepth 100000 in
theorem jn_w171_1216 {d : Nat} {l1 l2 l3 : Option Value} {x : Nat} {st : List Value} {M : jn_M} {Q : Option Value → jn_M → Prop} : jn_W d 171 1216 [some (.ref x), l1, l2, l3] (st) M Q = jn_W d 171 1217 [some (.ref x), l1, l2, l3] (.ref x :: st) M Q := jn_W_eq (f := jn_aload_n 0) rfl rfl
set_option maxRecDepth 100000 in
theorem jn_w171_1216n {d : Nat} {l1 l2 l3 : Option Value} {st : List Value} {M : jn_M} {Q : Option Value → jn_M → Prop} : jn_W d 171 1216 [some .null, l1, l2, l3] (st) M Q = jn_W d 171 1217 [some .null, l1, l2, l3] (.null :: st) M Q := jn_W_eq (f := jn_aload_n 0) rfl rfl
set_option maxRecDepth 100000 in
theorem jn_w171_1217 {d : Nat} {l0 l1 l2 : Option Value} {x : Int32} {st : List Value} {M : jn_M} {Q : Option Value → jn_M → Prop} : jn_W d 171 1217 [l0, l1, l2, some (.int x)] (st) M Q = jn_W d 171 1218 [l0, l1, l2, some (.int x)] (.int x :: st) M Q := jn_W_eq (f := jn_iload_n 3) rfl rfl
set_option maxRecDepth 100000 in
theorem jn_w171_1218 {d : Nat} {ls : jn_Lo} {st : List Value} {M : jn_M} {Q : Option Value → jn_M → Prop} : jn_W d 171 1218 ls (st) M Q = jn_W d 171 1219 ls (.int (nI 3) :: st) M Q := by rw [← jn_k_3]; exact jn_W_eq (f := jn_iconst 3) rfl rfl
set_option maxRecDepth 100000 in
theorem jn_w171_1219 {d : Nat} {ls : jn_Lo} {x y : Int32} {st : List Value} {M : jn_M} {Q : Option Value → jn_M → Prop} : jn_W d 171 1219 ls (.int y :: .int x :: st) M Q = jn_W d 171 1220 ls (.int (x + y) :: st) M Q := jn_W_eq (f := jn_iadd) rfl rfl
set_option maxRecDepth 100000 in
theorem jn_w171_1220 {d : Nat} {ls : jn_Lo} {a : Nat} {i : Int32} {st : List Value} {M : jn_M} {Q : Option Value → jn_M → Prop} : jn_W d 171 1220 ls (.int i :: .ref a :: st) M Q = (jn_aiO (jn_rs M a) 0 i = true ∧ jn_W d 171 1221 ls (.int (jn_aiV (jn_rs M a) i) :: st) M Q) := jn_W_eqc (f := jn_iaload) rfl jn_iaload_e
set_option maxRecDepth 100000 in
theorem jn_w171_1221 {d : Nat} {ls : jn_Lo} {a0 : Nat} {a1 : Int32} {a2 : Int32} {a3 : Int32} {k : Nat} {v : Option Value} {M1 : jn_M} {st : List Value} {M : jn_M} {Q : Option Value → jn_M → Prop} (h : jn_V 164 k [.ref a0, .int a1, .int a2, .int a3] M v M1) (hk : 1 ≤ k ∧ k + 1 ≤ d) : jn_W d 171 1221 ls (.int a3 :: .int a2 :: .int a1 :: .ref a0 :: st) M Q = ((jn_sm 8 st = true ∧ jn_rc 9 M [.ref a0, .int a1, .int a2, .int a3] = true) ∧ jn_W d 171 1224 ls (v.toList ++ st) M1 Q) := jn_W_call (na := 4) rfl h hk rfl rfl (Nat.le_of_ble_eq_true rfl)
set_option maxRecDepth 100000 in
theorem jn_w171_1224 {d : Nat} {ls : jn_Lo} {x y : Int32} {st : List Value} {M : jn_M} {Q : Option Value → jn_M → Prop} : jn_W d 171 1224 ls (.int y :: .int x :: st) M Q = if x = y then jn_W d 171 1252 ls (st) M Q else jn_W d 171 1227 ls (st) M Q := jn_W_br (f := jn_iceq 1252) _ rfl rfl
set_option maxRecDepth 100000 in
theorem jn_w171_1227 {d : Nat} {ls : jn_Lo} {st : List Value} {M : jn_M} {Q : Option Value → jn_M → Prop} : jn_W d 171 1227 ls (st) M Q = jn_W d 171 1228 ls (.int (nI 0) :: st) M Q := by rw [← jn_k_0]; exact jn_W_eq (f := jn_iconst 0) rfl rfl
set_option maxRecDepth 100000 in
theorem jn_w171_1228 {d : Nat} {ls : jn_Lo} {v : Int32} {M : jn_M} {Q : Option Value → jn_M → Prop} : jn_W d 171 1228 ls [.int v] M Q = (jn_zb v = true ∧ Q (some (.int v)) M) := jn_W_retc (k := 2) rfl jn_ret2_e
set_option maxRecDepth 100000 in
theorem jn_w171_1229 {d : Nat} {l0 l2 l3 : Option Value} {x : Nat} {st : List Value} {M : jn_M} {Q : Option Value → jn_M → Prop} : jn_W d 171 1229 [l0, some (.ref x), l2, l3] (st) M Q = jn_W d 171 1230 [l0, some (.ref x), l2, l3] (.ref x :: st) M Q := jn_W_eq (f := jn_aload_n 1) rfl rfl
set_option maxRecDepth 100000 in
theorem jn_w171_1229n {d : Nat} {l0 l2 l3 : Option Value} {st : List Value} {M : jn_M} {Q : Option Value → jn_M → Prop} : jn_W d 171 1229 [l0, some .null, l2, l3] (st) M Q = jn_W d 171 1230 [l0, some .null, l2, l3] (.null :: st) M Q := jn_W_eq (f := jn_aload_n 1) rfl rfl
set_option maxRecDepth 100000 in
theorem jn_w171_1230 {d : Nat} {l1 l2 l3 : Option Value} {x : Nat} {st : List Value} {M : jn_M} {Q : Option Value → jn_M → Prop} : jn_W d 171 1230 [some (.ref x), l1, l2, l3] (st) M Q = jn_W d 171 1231 [some (.ref x), l1, l2, l3] (.ref x :: st) M Q := jn_W_eq (f := jn_aload_n 0) rfl rfl
set_option maxRecDepth 100000 in
theorem jn_w171_1230n {d : Nat} {l1 l2 l3 : Option Value} {st : List Value} {M : jn_M} {Q : Option Value → jn_M → Prop} : jn_W d 171 1230 [some .null, l1, l2, l3] (st) M Q = jn_W d 171 1231 [some .null, l1, l2, l3] (.null :: st) M Q := jn_W_eq (f := jn_aload_n 0) rfl rfl
set_option maxRecDepth 100000 in
theorem jn_w171_1231 {d : Nat} {l0 l1 l2 : Option Value} {x : Int32} {st : List Value} {M : jn_M} {Q : Option Value → jn_M → Prop} : jn_W d 171 1231 [l0, l1, l2, some (.int x)] (st) M Q = jn_W d 171 1232 [l0, l1, l2, some (.int x)] (.int x :: st) M Q := jn_W_eq (f := jn_iload_n 3) rfl rfl
set_option maxRecDepth 100000 in
theorem jn_w171_1232 {d : Nat} {ls : jn_Lo} {st : List Value} {M : jn_M} {Q : Option Value → jn_M → Prop} : jn_W d 171 1232 ls (st) M Q = jn_W d 171 1233 ls (.int (nI 1) :: st) M Q := by rw [← jn_k_1]; exact jn_W_eq (f := jn_iconst 1) rfl rfl
set_option maxRecDepth 100000 in
theorem jn_w171_1233 {d : Nat} {ls : jn_Lo} {x y : Int32} {st : List Value} {M : jn_M} {Q : Option Value → jn_M → Prop} : jn_W d 171 1233 ls (.int y :: .int x :: st) M Q = jn_W d 171 1234 ls (.int (x + y) :: st) M Q := jn_W_eq (f := jn_iadd) rfl rfl
set_option maxRecDepth 100000 in
theorem jn_w171_1234 {d : Nat} {ls : jn_Lo} {a : Nat} {i : Int32} {st : List Value} {M : jn_M} {Q : Option Value → jn_M → Prop} : jn_W d 171 1234 ls (.int i :: .ref a :: st) M Q = (jn_aiO (jn_rs M a) 0 i = true ∧ jn_W d 171 1235 ls (.int (jn_aiV (jn_rs M a) i) :: st) M Q) := jn_W_eqc (f := jn_iaload) rfl jn_iaload_e
set_option maxRecDepth 100000 in
theorem jn_w171_1235 {d : Nat} {ls : jn_Lo} {a0 : Nat} {a1 : Int32} {k : Nat} {v : Option Value} {M1 : jn_M} {st : List Value} {M : jn_M} {Q : Option Value → jn_M → Prop} (h : jn_V 79 k [.ref a0, .int a1] M v M1) (hk : 1 ≤ k ∧ k + 1 ≤ d) : jn_W d 171 1235 ls (.int a1 :: .ref a0 :: st) M Q = ((jn_sm 8 st = true ∧ jn_rc 8 M [.ref a0, .int a1] = true) ∧ jn_W d 171 1238 ls (v.toList ++ st) M1 Q) := jn_W_call (na := 2) rfl h hk rfl rfl (Nat.le_of_ble_eq_true rfl)
set_option maxRecDepth 100000 in
theorem jn_w171_1238 {d : Nat} {l0 l1 l3 : Option Value} {x : Nat} {st : List Value} {M : jn_M} {Q : Option Value → jn_M → Prop} : jn_W d 171 1238 [l0, l1, some (.ref x), l3] (st) M Q = jn_W d 171 1239 [l0, l1, some (.ref x), l3] (.ref x :: st) M Q := jn_W_eq (f := jn_aload_n 2) rfl rfl
set_option maxRecDepth 100000 in
theorem jn_w171_1238n {d : Nat} {l0 l1 l3 : Option Value} {st : List Value} {M : jn_M} {Q : Option Value → jn_M → Prop} : jn_W d 171 1238 [l0, l1, some .null, l3] (st) M Q = jn_W d 171 1239 [l0, l1, some .null, l3] (.null :: st) M Q := jn_W_eq (f := jn_aload_n 2) rfl rfl
set_option maxRecDepth 100000 in
theorem jn_w171_1239 {d : Nat} {l1 l2 l3 : Option Value} {x : Nat} {st : List Value} {M : jn_M} {Q : Option Value → jn_M → Prop} : jn_W d 171 1239 [some (.ref x), l1, l2, l3] (st) M Q = jn_W d 171 1240 [some (.ref x), l1, l2, l3] (.ref x :: st) M Q := jn_W_eq (f := jn_aload_n 0) rfl rfl
set_option maxRecDepth 100000 in
theorem jn_w171_1239n {d : Nat} {l1 l2 l3 : Option Value} {st : List Value} {M : jn_M} {Q : Option Value → jn_M → Prop} : jn_W d 171 1239 [some .null, l1, l2, l3] (st) M Q = jn_W d 171 1240 [some .null, l1, l2, l3] (.null :: st) M Q := jn_W_eq (f := jn_aload_n 0) rfl rfl
set_option maxRecDepth 100000 in
theorem jn_w171_1240 {d : Nat} {l0 l1 l2 : Option Value} {x : Int32} {st : List Value} {M : jn_M} {Q : Option Value → jn_M → Prop} : jn_W d 171 1240 [l0, l1, l2, some (.int x)] (st) M Q = jn_W d 171 1241 [l0, l1, l2, some (.int x)] (.int x :: st) M Q := jn_W_eq (f := jn_iload_n 3) rfl rfl
set_option maxRecDepth 100000 in
theorem jn_w171_1241 {d : Nat} {ls : jn_Lo} {st : List Value} {M : jn_M} {Q : Option Value → jn_M → Prop} : jn_W d 171 1241 ls (st) M Q = jn_W d 171 1242 ls (.int (nI 1) :: st) M Q := by rw [← jn_k_1]; exact jn_W_eq (f := jn_iconst 1) rfl rfl
set_option maxRecDepth 100000 in
theorem jn_w171_1242 {d : Nat} {ls : jn_Lo} {x y : Int32} {st : List Value} {M : jn_M} {Q : Option Value → jn_M → Prop} : jn_W d 171 1242 ls (.int y :: .int x :: st) M Q = jn_W d 171 1243 ls (.int (x + y) :: st) M Q := jn_W_eq (f := jn_iadd) rfl rfl
set_option maxRecDepth 100000 in
theorem jn_w171_1243 {d : Nat} {ls : jn_Lo} {a : Nat} {i : Int32} {st : List Value} {M : jn_M} {Q : Option Value → jn_M → Prop} : jn_W d 171 1243 ls (.int i :: .ref a :: st) M Q = (jn_aiO (jn_rs M a) 0 i = true ∧ jn_W d 171 1244 ls (.int (jn_aiV (jn_rs M a) i) :: st) M Q) := jn_W_eqc (f := jn_iaload) rfl jn_iaload_e
set_option maxRecDepth 100000 in
theorem jn_w171_1244 {d : Nat} {ls : jn_Lo} {a0 : Nat} {a1 : Int32} {k : Nat} {v : Option Value} {M1 : jn_M} {st : List Value} {M : jn_M} {Q : Option Value → jn_M → Prop} (h : jn_V 165 k [.ref a0, .int a1] M v M1) (hk : 1 ≤ k ∧ k + 1 ≤ d) : jn_W d 171 1244 ls (.int a1 :: .ref a0 :: st) M Q = ((jn_sm 8 st = true ∧ jn_rc 9 M [.ref a0, .int a1] = true) ∧ jn_W d 171 1247 ls (v.toList ++ st) M1 Q) := jn_W_call (na := 2) rfl h hk rfl rfl (Nat.le_of_ble_eq_true rfl)
set_option maxRecDepth 100000 in
theorem jn_w171_1247 {d : Nat} {ls : jn_Lo} {x y : Int32} {st : List Value} {M : jn_M} {Q : Option Value → jn_M → Prop} : jn_W d 171 1247 ls (.int y :: .int x :: st) M Q = if x = y then jn_W d 171 1252 ls (st) M Q else jn_W d 171 1250 ls (st) M Q := jn_W_br (f := jn_iceq 1252) _ rfl rfl
set_option maxRecDepth 100000 in
theorem jn_w171_1250 {d : Nat} {ls : jn_Lo} {st : List Value} {M : jn_M} {Q : Option Value → jn_M → Prop} : jn_W d 171 1250 ls (st) M Q = jn_W d 171 1251 ls (.int (nI 0) :: st) M Q := by rw [← jn_k_0]; exact jn_W_eq (f := jn_iconst 0) rfl rfl
set_option maxRecDepth 100000 in
theorem jn_w171_1251 {d : Nat} {ls : jn_Lo} {v : Int32} {M : jn_M} {Q : Option Value → jn_M → Prop} : jn_W d 171 1251 ls [.int v] M Q = (jn_zb v = true ∧ Q (some (.int v)) M) := jn_W_retc (k := 2) rfl jn_ret2_e
set_option maxRecDepth 100000 in
theorem jn_w171_1252 {d : Nat} {l0 l1 l2 : Option Value} {x : Int32} {st : List Value} {M : jn_M} {Q : Option Value → jn_M → Prop} : jn_W d 171 1252 [l0, l1, l2, some (.int x)] (st) M Q = jn_W d 171 1255 [l0, l1, jn_kk l2, some (.int (x + nI 5))] (st) M Q := by rw [← jn_k_5]; rcases l2 with _ | (_ | _ | _ | _ | _ | _ | _) <;> exact jn_W_eq (f := jn_iinc 3 5) rfl rfl
set_option maxRecDepth 100000 in
theorem jn_w171_1255 {d : Nat} {ls : jn_Lo} {st : List Value} {M : jn_M} {Q : Option Value → jn_M → Prop} : jn_W d 171 1255 ls (st) M Q = jn_W d 171 18 ls (st) M Q := jn_W_eq (f := jn_goto 18) rfl rfl
set_option maxRecDepth 100000 in
theorem jn_w171_1258 {d : Nat} {ls : jn_Lo} {st : List Value} {M : jn_M} {Q : Option Value → jn_M → Prop} : jn_W d 171 1258 ls (st) M Q = jn_W d 171 1259 ls (.int (nI 1) :: st) M Q := by rw [← jn_k_1]; exact jn_W_eq (f := jn_iconst 1) rfl rfl
set_option maxRecDepth 100000 in
theorem jn_w171_1259 {d : Nat} {ls : jn_Lo} {v : Int32} {M : jn_M} {Q : Option Value → jn_M → Prop} : jn_W d 171 1259 ls [.int v] M Q = (jn_zb v = true ∧ Q (some (.int v)) M) := jn_W_retc (k := 2) rfl jn_ret2_e
