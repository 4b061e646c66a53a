/-! pure: a text's end in the class: the last check, alive -/
section CR
variable {b : Nat → Nat} {L : Nat} {z : Tz} {D : Tn} {M : Mem}
theorem c_l52 (hL : L ≤ 320) (c : CI b L z D M) (q : z.1 = 0) (hs : z.2.2.2.1 = L) (g : DG D) : ∀ (m n k : Nat), k + m = 81 → m < n → (∀ c, c < k → ¬ (D 2 c ≠ 0 ∧ putB D c)) → ∃ M', f_Rea_checkAll_L52 n (nI k) M = some M' ∧ Fr 52 70 M M' ∧ (frB D (D 4 0) → CI b L z D M') ∧ (¬ frB D (D 4 0) → CI b L (flt 7 z) D M') := by
  have d := c.2.2.2.2 q
  intro m
  induction m with
  | zero =>
    intro n k hk hn hf
    obtain ⟨n, rfl⟩ : ∃ z, n = z + 1 := ⟨n - 1, by omega⟩
    refine ⟨M, by rw [f_Rea_checkAll_L52, if_pos (by rw [l81, nI_leI (by omega) (by omega)]; omega)], Fr.rf, fun _ => c, fun h => ?_⟩
    refine absurd (fun i hi => ?_) h
    have hb := g.2.2.1.2 i hi
    by_cases u : D 2 (9 * D 6 i + D 5 i) = 0
    · exact u
    · exact absurd ⟨u, ⟨i, hi, rfl⟩⟩ (hf _ (by omega))
  | succ m ih =>
    intro n k hk hn hf
    obtain ⟨n, rfl⟩ : ∃ z, n = z + 1 := ⟨n - 1, by omega⟩
    have hk81 : k < 81 := by omega
    have h2 := g.2.1 k hk81
    have next : ¬ (D 2 k ≠ 0 ∧ putB D k) → _ := fun h => ih n (k + 1) (by omega) (by omega) (fun c hc => by
      by_cases u : c = k
      · subst u; exact h
      · exact hf c (by omega))
    rw [f_Rea_checkAll_L52, if_neg (by rw [l81, nI_leI (by omega) (by omega)]; omega), c_dst d hk81, e_bnd, nI_1]
    by_cases u : D 2 k = 0
    · rw [if_pos (by rw [u]; rfl)]
      exact next (fun h => h.1 u)
    · rw [if_neg (by rw [l0, nI_eq (by omega) (by omega)]; exact u)]
      rcases c_put d g hk81 with ⟨s1, s2⟩ | ⟨s1, s2⟩
      · obtain ⟨M1, a1, a2, a3⟩ := ci_fail hL c (fun _ => hs) (f := 7) (by decide) (by decide)
        rw [s2, e_bnd, if_neg (by decide), show (7 : Int32) = nI 7 from rfl, a1, e_bnd, c_l52D a2 (flt_ne (by decide)) m n (k + 1) (by omega) (by omega)]
        refine ⟨M1, rfl, a3, fun h => ?_, fun _ => a2⟩
        obtain ⟨i, i1, i2⟩ := s1
        have := h i i1
        rw [i2] at this
        exact absurd this u
      · rw [s2, e_bnd, if_pos rfl]
        exact next (fun h => s1 h.2)
end CR
