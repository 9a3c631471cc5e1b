/-! The claim out of the small machine's run of the law. -/
/-- WHAT IS LEFT: the small machine runs the law to its end with 1, within the room -/
def jn_Law : Prop := ∀ (b L : Nat) (xs : Nat → Int32) (base : Nat), b < base → L ≤ 2560 → ∃ (n : Nat) (M : jn_M), jn_run jn_G0 n 12 171 0 (jn_en 4 [.ref b], [], ((b, L, xs), base, [])) = some (some (.int 1), M) ∧ M.2.2.length ≤ 600000 ∧ jn_sl jn_N M.2.2 ≤ 7302249
theorem jn_known {s : State} {args : Array Value} (hts : ∀ w ∈ jn_tb, w.before args s = true) : ∃ D : va_G, ∀ (c : Nat) (q : vw_C), vwCl[c]? = some q → u_Kn s q.1 q.2.1 q.2.2 (D.1 c) (D.2 c) := by
  have h : ∀ c : Nat, ∃ x : ClassId × (Nat → Nat), ∀ q : vw_C, vwCl[c]? = some q → u_Kn s q.1 q.2.1 q.2.2 x.1 x.2 := by
    intro c
    match c with
    | 0 => obtain ⟨cC, iS, h⟩ := u_known (C := RX0) (T := TX0) (N := 2) (n := 2) hts jn_u0 (hts _ (jn_in 422 (by decide +kernel) rfl)); exact ⟨(cC, iS), fun q hq => by cases hq; exact h⟩
    | 1 => obtain ⟨cC, iS, h⟩ := u_known (C := RX1) (T := TX1) (N := 4) (n := 4) hts jn_u1 (hts _ (jn_in 138 (by decide +kernel) rfl)); exact ⟨(cC, iS), fun q hq => by cases hq; exact h⟩
    | 2 => obtain ⟨cC, iS, h⟩ := u_known (C := RX2) (T := TX2) (N := 3) (n := 3) hts jn_u2 (hts _ (jn_in 96 (by decide +kernel) rfl)); exact ⟨(cC, iS), fun q hq => by cases hq; exact h⟩
    | 3 => obtain ⟨cC, iS, h⟩ := u_known (C := RX3) (T := TX3) (N := 6) (n := 6) hts jn_u3 (hts _ (jn_in 90 (by decide +kernel) rfl)); exact ⟨(cC, iS), fun q hq => by cases hq; exact h⟩
    | 4 => obtain ⟨cC, iS, h⟩ := u_known (C := RX4) (T := TX4) (N := 1) (n := 1) hts jn_u4 (hts _ (jn_in 78 (by decide +kernel) rfl)); exact ⟨(cC, iS), fun q hq => by cases hq; exact h⟩
    | 5 => obtain ⟨cC, iS, h⟩ := u_known (C := RX5) (T := TX5) (N := 1) (n := 1) hts jn_u5 (hts _ (jn_in 144 (by decide +kernel) rfl)); exact ⟨(cC, iS), fun q hq => by cases hq; exact h⟩
    | 6 => obtain ⟨cC, iS, h⟩ := u_known (C := RX6) (T := TX6) (N := 11) (n := 11) hts jn_u6 (hts _ (jn_in 66 (by decide +kernel) rfl)); exact ⟨(cC, iS), fun q hq => by cases hq; exact h⟩
    | 7 => obtain ⟨cC, iS, h⟩ := u_known (C := RX7) (T := TX7) (N := 22) (n := 22) hts jn_u7 (hts _ (jn_in 610 (by decide +kernel) rfl)); exact ⟨(cC, iS), fun q hq => by cases hq; exact h⟩
    | c + 8 => exact ⟨(0, fun _ => 0), fun q hq => by simp [vwCl] at hq⟩
  exact ⟨(fun c => (Classical.choose (h c)).1, fun c => (Classical.choose (h c)).2), fun c q hq => Classical.choose_spec (h c) q hq⟩
theorem jn_arrP {s : State} {args : Array Value} {ty : FieldType} (hty : ty = .int ∨ ty = .long ∨ ty = .boolean) (h : (Cond.arrayClass ty).before args s = true) : ∃ cA : ClassId, ArrOfT s cA ty ∧ va_RA s cA ty := by
  obtain ⟨c, k, comp, h1, h2, h3⟩ := Cond.arrayClass_spec h
  refine ⟨c, fun n z => ⟨fun k h => (by cases h), k, h2, comp, h3⟩, ?_⟩
  rcases hty with rfl | rfl | rfl <;> exact h1
theorem jn_arrO {s : State} {C : String} (h : va_AO C s) : ∃ cA : ClassId, ArrOfT s cA (.object C) ∧ va_RA s cA (.object C) := by
  obtain ⟨comp, c, k, h1, -, h3, h4, h5⟩ := Cond.arrayOver_spec h
  exact ⟨c, fun n z => ⟨fun k h => (by cases h), k, h3, comp, h4⟩, k, comp, h3, h4, h1, h5⟩
theorem jn_K0 {s : State} {args : Array Value} (hts : ∀ w ∈ jn_tb, w.before args s = true) (hEx : jn_Ex s) : ∃ (D : va_G) (dA : Nat → ClassId), va_K D vwCl (jn_tys dA) s := by
  obtain ⟨D, hD⟩ := jn_known hts
  obtain ⟨a0, h0⟩ := jn_arrP (Or.inl rfl) (hts _ (jn_in 87 (by decide +kernel) rfl) : (Cond.arrayClass .int).before args s = true)
  obtain ⟨a1, h1⟩ := jn_arrP (Or.inr (Or.inl rfl)) (hts _ (jn_in 88 (by decide +kernel) rfl) : (Cond.arrayClass .long).before args s = true)
  obtain ⟨a2, h2⟩ := jn_arrP (Or.inr (Or.inr rfl)) (hts _ (jn_in 682 (by decide +kernel) rfl) : (Cond.arrayClass .boolean).before args s = true)
  obtain ⟨a3, h3⟩ := jn_arrO hEx.2.2.1
  obtain ⟨a4, h4⟩ := jn_arrO hEx.2.2.2
  refine ⟨D, fun t => match t with
    | 0 => a0
    | 1 => a1
    | 2 => a2
    | 3 => a3
    | _ => a4, hD, ?_⟩
  intro k q hq
  match k, hq with
  | 0, hq => cases hq; exact h0
  | 1, hq => cases hq; exact h1
  | 2, hq => cases hq; exact h2
  | 3, hq => cases hq; exact h3
  | 4, hq => cases hq; exact h4
  | k + 5, hq => simp [jn_tys] at hq
theorem jn_all (hl : ∀ mi, mi < 172 → jn_GM jn_G0 mi) : ∀ mi, jn_GM jn_G0 mi := by
  intro mi
  by_cases h : mi < 172
  · exact hl mi h
  · have h0 := hl 0 (by decide)
    have e : jn_G0 mi = jn_G0 0 := by
      rw [jn_G0_0]
      unfold jn_G0
      by_cases h2 : mi / 16 < 11
      · have h3 : mi / 16 = 10 := by omega
        rw [h3]
        have h4 : 12 ≤ mi % 16 := by omega
        show (jn_t10).getD (mi % 16) jn_me0 = jn_me0
        rw [List.getD_eq_getElem?_getD, List.getElem?_eq_none (by show 12 ≤ _; exact h4)]
        rfl
      · rw [List.getD_eq_getElem?_getD (l := jn_tt), List.getElem?_eq_none (by show 11 ≤ _; omega)]
        rfl
    unfold jn_GM at h0 ⊢
    rw [e]
    refine ⟨h0.1, h0.2.1, h0.2.2.1, h0.2.2.2.1, fun pc x hx => ?_⟩
    have h5 := h0.2.2.2.2 pc x hx
    unfold jn_GE at h5 ⊢
    rw [e]
    exact h5
theorem jn_whole (hl : ∀ mi, mi < 172 → jn_GM jn_G0 mi) (hLaw : jn_Law) {p : Program} {e : Env} {s : State} {m : MethodId} {below : List Frame} {meth : Method} {c : Code} (l : Launch) {b L : Nat} {xs : Nat → Int32} (hx : p.tables.exec = Jvm.exec) (hb : c.code = code) (hr : meth.sig.returnType = ret) (hml : c.maxLocals = 4) (hown : s.vm.findClass "DebtNetLaw" = some m.cls) (hts : ∀ w ∈ lw_tbl, w.before #[Value.ref b] s = true) (hX : va_X b L xs s s.heap) (hbl : b < s.heap.size) (hlocks : meth.locks = false) (hL : L ≤ 2560)
    (Q : State → Prop) (hQ : ∀ (pc : Nat) (H : Heap) (arr : Array Slot), decode code pc = .ok (.ireturn, 1) → W p l e room_1 s m #[Value.ref b] below meth c H [] 600000 7302249 Q (F0 m pc arr [.int 1])) : W p l e room_1 s m #[Value.ref b] below meth c s.heap [] 0 0 Q (entryFrame m ([Value.ref b] : List Value).toArray 4) := by
  obtain ⟨n, M, hrun, hlen, hsl⟩ := hLaw b L xs s.heap.size hbl hL
  have htb : ∀ w ∈ jn_tb, w.before #[Value.ref b] s = true := fun w hw => hts w (List.mem_filter.mp hw).1
  have hEx : jn_Ex s := ⟨va_Nw.of rfl (hts jn_n1 (by decide +kernel)), va_Nw.of rfl (hts jn_n2 (by decide +kernel)), va_AO.of (hts jn_n3 (by decide +kernel)), va_AO.of (hts jn_n4 (by decide +kernel))⟩
  obtain ⟨D, dA, hK⟩ := jn_K0 htb hEx
  have X : jn_Ctx (jn_G0 171).1 p s m #[Value.ref b] meth c D dA := by
    rw [jn_G0_171]
    exact ⟨hx, hb, hml, htb, hown, fun h => absurd h (by decide), hK⟩
  have hm := jn_mono (jn_all hl) _ _ _ _ _ _ hrun
  rw [lg_entry_eq]
  have hlh := jn_entry [Value.ref b] (n := 4) (Nat.le_of_ble_eq_true rfl)
  generalize (lg_sl [Value.ref b] ++ List.replicate (4 - (lg_sl [Value.ref b]).length) Slot.unset).toArray = arr at hlh ⊢
  refine jn_core (jn_all hl) _ _ _ _ _ _ hrun p l e room_1 s m #[Value.ref b] below meth c Q D dA 0 0 X hEx (by decide) (by decide) (by decide) hlen hsl ?_ arr s.heap [] 0 0 hlh ⟨fun k q hq => by simp [jn_ws] at hq, va_S.rf, hX, hbl, rfl⟩ rfl rfl
  intro pc k arr H locs cells slots st e1 e2 e3 hM1 e4 e5
  rw [jn_G0_171] at e1 e2
  have hst : st = [.int 1] ∧ (k = 1 ∨ k = 2) := by
    unfold jn_ret at e3
    split at e3
    · split at e3 <;> cases e3
    · split at e3
      · rename_i h
        cases e3
        rcases h with h | h
        · exact ⟨rfl, Or.inl h⟩
        · exact ⟨rfl, Or.inr h.1⟩
      · cases e3
    · split at e3 <;> cases e3
    · split at e3 <;> cases e3
    · split at e3 <;> cases e3
    · cases e3
  obtain ⟨rfl, hk⟩ := hst
  have e1' : decode code pc = .ok (.ireturn, 1) := by
    rcases hk with rfl | rfl <;> exact e1
  have e4' : cells = M.2.2.length := e4
  have e5' : slots = jn_sl jn_N M.2.2 := e5
  refine va_forget (fun q hq => ?_) (W.widen (k := 600000) (n := 7302249) (by omega) (by omega) (hQ pc H arr e1'))
  have h9 : M.2.1 ≤ q.base := hM1.2.1.2.2 q hq
  have h10 : M.2.1 = s.heap.size := hm.2.1
  rw [h10] at h9
  exact h9
