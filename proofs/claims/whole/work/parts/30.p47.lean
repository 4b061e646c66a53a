/-! pure: a text's end in the class, behind a fault -/
theorem cell_any (M : Mem) (x : Int32) : ∃ v, f_Tol_isCell 53 M x = some v := by
  unfold f_Tol_isCell
  repeat' split
  all_goals exact ⟨_, rfl⟩
theorem mis_any (M : Mem) : ∀ (m n k : Nat), k + m = 81 → m < n → ∃ v, f_Rea_anyCellMissing_L2 M n (nI k) = some v := by
  intro m
  induction m with
  | zero =>
    intro n k hk hn
    obtain ⟨n, rfl⟩ : ∃ z, n = z + 1 := ⟨n - 1, by omega⟩
    exact ⟨0, by rw [f_Rea_anyCellMissing_L2, if_pos (by rw [l81, nI_leI (by omega) (by omega)]; omega)]⟩
  | succ m ih =>
    intro n k hk hn
    obtain ⟨n, rfl⟩ : ∃ z, n = z + 1 := ⟨n - 1, by omega⟩
    obtain ⟨v, hv⟩ := ih n (k + 1) (by omega) (by omega)
    obtain ⟨c, hc⟩ := cell_any M (nI k)
    obtain ⟨p, hp⟩ := put_any M (nI k) 8 1000 0 rfl (by decide)
    have st : f_Tol_stateOf 53 M (nI k) = some (M 54 k) := by
      unfold f_Tol_stateOf
      rw [if_neg (by rw [l0, nI_ltI (by omega) (by omega)]; omega), if_neg (by rw [l81, nI_leI (by omega) (by omega)]; omega), e_ckn (by omega) (by decide), show ix (nI k) = k from e_ix (by omega)]
    rw [f_Rea_anyCellMissing_L2, if_neg (by rw [l81, nI_leI (by omega) (by omega)]; omega), hc, e_bnd, st, e_bnd, show f_Ben_anyPutOn 56 M (nI k) = some p from hp, e_bnd, nI_1, hv]
    repeat' split
    all_goals exact ⟨_, rfl⟩
theorem one70_any {M : Mem} {N : Nat} (hN : N ≤ 12) (h : M 66 0 = nI N) : ∀ (m n k : Nat), k + m = N → m < n → ∃ v, f_Rea_anyOneMissing_L70 M n (nI k) = some v := by
  intro m
  induction m with
  | zero =>
    intro n k hk hn
    obtain ⟨n, rfl⟩ : ∃ z, n = z + 1 := ⟨n - 1, by omega⟩
    exact ⟨0, by rw [f_Rea_anyOneMissing_L70, h, if_pos (by rw [nI_leI (by omega) (by omega)]; omega)]⟩
  | succ m ih =>
    intro n k hk hn
    obtain ⟨n, rfl⟩ : ∃ z, n = z + 1 := ⟨n - 1, by omega⟩
    obtain ⟨v, hv⟩ := ih n (k + 1) (by omega) (by omega)
    rw [f_Rea_anyOneMissing_L70, h, if_neg (by rw [nI_leI (by omega) (by omega)]; omega), (tri_at h hN (by omega)).2, e_bnd, nI_1, hv]
    split
    all_goals exact ⟨_, rfl⟩
theorem one_any {M : Mem} {N N2 : Nat} (hN : N ≤ 12) (h : M 62 0 = nI N) (hN2 : N2 ≤ 12) (h2 : M 66 0 = nI N2) : ∀ (m n k : Nat), k + m = N → m < n → ∃ v, f_Rea_anyOneMissing_L2 M n (nI k) = some v := by
  intro m
  induction m with
  | zero =>
    intro n k hk hn
    obtain ⟨n, rfl⟩ : ∃ z, n = z + 1 := ⟨n - 1, by omega⟩
    obtain ⟨v, hv⟩ := one70_any hN2 h2 N2 1000 0 (by omega) (by omega)
    exact ⟨v, by rw [f_Rea_anyOneMissing_L2, h, if_pos (by rw [nI_leI (by omega) (by omega)]; omega)]; exact hv⟩
  | succ m ih =>
    intro n k hk hn
    obtain ⟨n, rfl⟩ : ∃ z, n = z + 1 := ⟨n - 1, by omega⟩
    obtain ⟨v, hv⟩ := ih n (k + 1) (by omega) (by omega)
    obtain ⟨t1, t2⟩ := tri_at h hN (show k < N by omega)
    rw [f_Rea_anyOneMissing_L2, h, if_neg (by rw [nI_leI (by omega) (by omega)]; omega), t1, e_bnd, t2, e_bnd, nI_1, hv]
    repeat' split
    all_goals exact ⟨_, rfl⟩
