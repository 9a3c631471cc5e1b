/-! A net's roads replaced. -/
theorem jn_net_set {bs N K t c : Nat} {D : List jn_Ce} {nets books : Nat → Option Nat} {posts road road' isKnown isKnown' netOf number : Nat → Int32} {trees cofactor : Nat → Int64} {nn jp bt jq : Nat → Nat} {RR : Nat → Nat → Nat → Nat} {nf bg : Nat → Nat → Int32} {BB : Nat → Nat → Int} {R' : Nat → Nat → Nat} {f' : Nat → Int32} (hNI : jn_NI bs D nets N posts road isKnown trees cofactor nn RR jp nf) (hBI : jn_BI bs D books K N netOf number nn jp bt BB jq bg) (hLI : jn_LI c D) (ht : t < N) (hg : ∀ p q, p < 6 → q < 6 → f' (p * 6 + q) = nI (R' p q)) (hR' : jw_N R' (nn t)) (hrd : ∀ p q, p < 6 → q < 6 → road' (36 * t + 6 * p + q) = nI (R' p q)) (hro : ∀ x, x < 36 * t ∨ 36 * t + 36 ≤ x → road' x = road x) (hkn : ∀ x, isKnown' x = if 6 * t ≤ x ∧ x < 6 * t + 6 then nI 0 else isKnown x) :
    jn_NI bs (D.set (jp t + 1) (jn_aI 36 f')) nets N posts road' isKnown' trees cofactor nn (jm_at RR t R') jp (jm_at nf t f') ∧ jn_BI bs (D.set (jp t + 1) (jn_aI 36 f')) books K N netOf number nn jp bt BB jq bg ∧ jn_LI c (D.set (jp t + 1) (jn_aI 36 f')) := by
  obtain ⟨n1, n2, n3, n4, n5⟩ := hNI
  have fb := n2 t ht
  have hcell := fb.2.1.2.1
  have keep : ∀ (i : Nat) (x : jn_Ce), D[i]? = some x → i ≠ jp t + 1 → (D.set (jp t + 1) (jn_aI 36 f'))[i]? = some x := fun i x h hi => by
    rw [List.getElem?_set_ne (Ne.symm hi)]
    exact h
  have nob : ∀ (i : Nat) (k : Nat) (l : List Value), D[i]? = some (Sum.inr (k, l)) → i ≠ jp t + 1 := fun i k l h e => by
    rw [e, hcell] at h
    cases h
  have no6 : ∀ (i : Nat) (f : Nat → Int32), D[i]? = some (jn_aI 6 f) → i ≠ jp t + 1 := fun i f h e => by
    rw [e, hcell] at h
    have := Option.some.inj h
    unfold jn_aI at this
    have h2 := Sum.inl.inj this
    have h3 : (36 : Nat) = 6 := congrArg (fun y => y.2.1) h2
    exact absurd h3 (by decide)
  refine ⟨⟨n1, fun t' ht' => ?_, fun t' p h1 h2 h3 => ?_, fun t' x h1 h2 h3 => ?_, n5⟩, ⟨hBI.1, fun b' hb' => ?_, hBI.2.2⟩, ?_, ?_⟩
  · obtain ⟨e1, ⟨p1, p2, p3⟩, e3, e4, e5⟩ := n2 t' ht'
    by_cases e : t' = t
    · subst e
      rw [jm_at_s, jm_at_s]
      refine ⟨e1, ⟨keep _ _ p1 (nob _ _ _ p1), ?_, hg⟩, ⟨e3.1, e3.2.1, e3.2.2.1, hrd, hR'.2.1⟩, hR', fun p hp => ?_⟩
      · rw [List.getElem?_set_self (List.getElem?_eq_some_iff.mp hcell).1]
      · have := e4.1.2
        exact Or.inl (by rw [hkn, if_pos ⟨by omega, by omega⟩])
    · rw [jm_at_n e, jm_at_n e]
      refine ⟨e1, ⟨keep _ _ p1 (nob _ _ _ p1), keep _ _ p2 (fun h => e (n5 t' t ht' ht (by omega))), p3⟩, ⟨e3.1, e3.2.1, e3.2.2.1, fun p q hp hq => ?_, e3.2.2.2.2⟩, e4, fun p hp => ?_⟩
      · rw [hro _ (by omega)]
        exact e3.2.2.2.1 p q hp hq
      · have := e4.1.2
        have h9 := e5 p hp
        unfold jm_kn at h9 ⊢
        rw [hkn, if_neg (by omega)]
        exact h9
  · rw [hkn, if_neg (by omega)]
    exact n3 t' p h1 h2 h3
  · rw [hro _ (by omega)]
    exact n4 t' x h1 h2 h3
  · obtain ⟨f1, f2, f3, f4, f5, f6, f7, f8, f9⟩ := hBI.2.1 b' hb'
    exact ⟨f1, f2, keep _ _ f3 (nob _ _ _ f3), keep _ _ f4 (no6 _ _ f4), f5, f6, f7, f8, f9⟩
  · rw [List.length_set]
    exact hLI.1
  · have h9 := jn_sl_set jn_N D (jp t + 1) _ (jn_aI 36 f') hcell rfl
    rw [h9]
    exact hLI.2
/-- k roads between p and q -/
def jm_rs (R : Nat → Nat → Nat) (p q k : Nat) : Nat → Nat → Nat := fun x y => if (x = p ∧ y = q) ∨ (x = q ∧ y = p) then k else R x y
theorem jm_rs_N {R : Nat → Nat → Nat} {n p q k : Nat} (h : jw_N R n) (hp : p < n) (hq : q < n) (hpq : p ≠ q) (hk : k ≤ 4) : jw_N (jm_rs R p q k) n := by
  obtain ⟨h1, h2, h3, h4, h5⟩ := h
  unfold jm_rs
  refine ⟨h1, fun x y => ?_, fun x y => ?_, fun x => ?_, fun x y hx => ?_⟩
  · dsimp only
    split
    · exact hk
    · exact h2 x y
  · dsimp only
    by_cases c : (x = p ∧ y = q) ∨ (x = q ∧ y = p)
    · rw [if_pos c, if_pos (by omega)]
    · rw [if_neg c, if_neg (by omega)]
      exact h3 x y
  · dsimp only
    rw [if_neg (by omega)]
    exact h4 x
  · dsimp only
    rw [if_neg (by omega)]
    exact h5 x y hx
theorem jm_rs_f {R : Nat → Nat → Nat} {f : Nat → Int32} {o m p q k : Nat} (hm : m = 6) (hp : p < 6) (hq : q < 6) (h : ∀ x y, x < 6 → y < 6 → f (o + m * x + y) = nI (R x y)) : ∀ x y, x < 6 → y < 6 → upd (upd f (o + m * p + q) (nI k)) (o + m * q + p) (nI k) (o + m * x + y) = nI (jm_rs R p q k x y) := by
  intro x y hx hy
  subst hm
  unfold upd jm_rs
  by_cases c1 : x = q ∧ y = p
  · rw [if_pos (by omega), if_pos (Or.inr c1)]
  · rw [if_neg (by omega)]
    by_cases c2 : x = p ∧ y = q
    · rw [if_pos (by omega), if_pos (Or.inl c2)]
    · rw [if_neg (by omega), if_neg (by omega)]
      exact h x y hx hy
