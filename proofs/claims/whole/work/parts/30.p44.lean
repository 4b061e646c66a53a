/-! pure: a text's end in the class: faults told there -/
section CQ
variable {b : Nat → Nat} {L : Nat} {z : Tz} {D : Tn} {M : Mem}
/-- a fault told at L, where the end's word starts -/
theorem ci_fail (hL : L ≤ 320) (c : CI b L z D M) (hs : z.1 = 0 → z.2.2.2.1 = L) {f : Nat} (hf : f ≠ 0) (hf7 : f ≤ 7) : ∃ M', f_Tap_fail (nI f) (M 70 0) M = some M' ∧ CI b L (flt f z) D M' ∧ Fr 52 70 M M' := by
  by_cases q : z.1 = 0
  · obtain ⟨M', a1, a2, a3⟩ := c.flt hL hf hf7
    refine ⟨M', ?_, a2, a3⟩
    have e : M 70 2 = M 70 0 := by rw [(c.2.2.1.2.2.2 q).2.1, hs q, c.1.1]
    unfold f_Rea_failHere at a1
    rw [e] at a1
    cases h : f_Tap_fail (nI f) (M 70 0) M with
    | none => rw [h] at a1; cases a1
    | some x =>
      rw [h, e_bnd] at a1
      exact a1
  · refine ⟨M, ?_, ?_, Fr.rf⟩
    · unfold f_Tap_fail
      rw [if_neg (fun e => q ((c.2.2.1.z0 c.2.1).mp e))]
    · rw [flt_d q]; exact c
theorem put_any (M : Mem) (x : Int32) : ∀ (m n k : Nat), k + m = 8 → m < n → ∃ v, f_Ben_anyPutOn_L2 56 M n x (nI k) = some v := by
  intro m
  induction m with
  | zero =>
    intro n k hk hn
    obtain ⟨n, rfl⟩ : ∃ z, n = z + 1 := ⟨n - 1, by omega⟩
    rw [f_Ben_anyPutOn_L2]
    by_cases e : M 56 0 ≤ nI k
    · exact ⟨0, by rw [if_pos e]⟩
    · exact ⟨0, by rw [if_neg e, if_pos (by rw [l8, nI_leI (by omega) (by omega)]; omega)]⟩
  | succ m ih =>
    intro n k hk hn
    obtain ⟨n, rfl⟩ : ∃ z, n = z + 1 := ⟨n - 1, by omega⟩
    rw [f_Ben_anyPutOn_L2]
    by_cases e : M 56 0 ≤ nI k
    · exact ⟨0, by rw [if_pos e]⟩
    · rw [if_neg e, if_neg (by rw [l8, nI_leI (by omega) (by omega)]; omega), e_ckn (by omega) (by decide), e_ckn (by omega) (by decide), nI_1]
      by_cases u : (9 * (M (56 + 2) (ix (nI k)))) + (M (56 + 1) (ix (nI k))) = x
      · exact ⟨1, by rw [if_pos u]⟩
      · rw [if_neg u]
        exact ih n (k + 1) (by omega) (by omega)
/-- behind a fault the last check changes nothing -/
theorem c_l52D (c : CI b L z D M) (q : z.1 ≠ 0) : ∀ (m n k : Nat), k + m = 81 → m < n → f_Rea_checkAll_L52 n (nI k) M = some M := by
  have h4 : ¬ M 70 4 = 0 := fun e => q ((c.2.2.1.z0 c.2.1).mp e)
  intro m
  induction m with
  | zero =>
    intro n k hk hn
    obtain ⟨n, rfl⟩ : ∃ z, n = z + 1 := ⟨n - 1, by omega⟩
    rw [f_Rea_checkAll_L52, if_pos (by rw [l81, nI_leI (by omega) (by omega)]; omega)]
  | succ m ih =>
    intro n k hk hn
    obtain ⟨n, rfl⟩ : ∃ z, n = z + 1 := ⟨n - 1, by omega⟩
    have nx := ih n (k + 1) (by omega) (by omega)
    have st : f_Tol_stateOf 53 M (nI k) = some (M 54 k) := by
      unfold f_Tol_stateOf
      rw [if_neg (by rw [l0, nI_ltI (by omega) (by omega)]; omega), if_neg (by rw [l81, nI_leI (by omega) (by omega)]; omega), e_ckn (by omega) (by decide), show ix (nI k) = k from e_ix (by omega)]
    obtain ⟨v, hv⟩ := put_any M (nI k) 8 1000 0 rfl (by decide)
    rw [f_Rea_checkAll_L52, if_neg (by rw [l81, nI_leI (by omega) (by omega)]; omega), st, e_bnd, nI_1]
    by_cases u : M 54 k = 0
    · rw [if_pos u]; exact nx
    · rw [if_neg u, show f_Ben_anyPutOn 56 M (nI k) = some v from hv, e_bnd]
      by_cases w : v = 0
      · rw [if_pos w]; exact nx
      · rw [if_neg w]
        unfold f_Tap_fail
        rw [if_neg h4, e_bnd]
        exact nx
end CQ
