/-! pure: a text's end in the class: people -/
section CP
variable {D : Tn} {M : Mem}
theorem tri_at {t n k : Nat} (h : M t 0 = nI n) (hn : n ≤ 12) (hk : k < n) : f_Tri_part t M (nI k) 0 = some (M (t + 1) k) ∧ f_Tri_part t M (nI k) 1 = some (M (t + 2) k) := by
  have a1 : ¬ nI k < (0 : Int32) := by rw [l0, nI_ltI (by omega) (by omega)]; omega
  have a2 : ¬ nI n ≤ nI k := by rw [nI_leI (by omega) (by omega)]; omega
  have a3 : nI k < (12 : Int32) := by rw [l12, nI_ltI (by omega) (by omega)]; omega
  refine ⟨?_, ?_⟩
  · unfold f_Tri_part
    rw [if_neg a1, h, if_neg a2, if_pos a3, if_pos rfl, e_ckn (by omega) (by decide), show ix (nI k) = k from e_ix (by omega)]
  · unfold f_Tri_part
    rw [if_neg a1, h, if_neg a2, if_pos a3, if_neg (by decide), if_pos rfl, e_ckn (by omega) (by decide), show ix (nI k) = k from e_ix (by omega)]
def badO (D : Tn) (P : Nat) : Prop := (∃ i, i < D 10 0 ∧ (P ≤ D 11 i ∨ P ≤ D 12 i)) ∨ ∃ i, i < D 14 0 ∧ P ≤ D 16 i
theorem badO_iff (x : DX D) {P : Nat} : badO D P ↔ P < D 24 0 := by
  obtain ⟨⟨-, -, x1, x2⟩, -, -, x3⟩ := x
  constructor
  · rintro (⟨i, i1, i2⟩ | ⟨i, i1, i2⟩)
    · have := x1 i i1
      omega
    · have := x2 i i1
      omega
  · intro h
    rcases x3 with e | ⟨i, i1, i2⟩ | ⟨i, i1, i2⟩
    · omega
    · exact Or.inl ⟨i, i1, by omega⟩
    · exact Or.inr ⟨i, i1, by omega⟩
theorem DC.s535 (d : DC D M) {x : Int32} : DC D (upd2 M 53 5 x) := by
  unfold DC
  rw [u_ne (show (52 : Nat) ≠ 53 by decide), u_ne (show (54 : Nat) ≠ 53 by decide), u_ne (show (55 : Nat) ≠ 53 by decide), u_ne (show (56 : Nat) ≠ 53 by decide), u_ne (show (62 : Nat) ≠ 53 by decide), u_ne (show (66 : Nat) ≠ 53 by decide)]
  obtain ⟨⟨h1, h2, h3⟩, ⟨⟨h4, h5⟩, ⟨h6, h7⟩, h8, h9⟩, h10⟩ := d
  exact ⟨⟨fun j hj => by rw [u_nk (by omega)]; exact h1 j hj, h2, h3⟩, ⟨⟨h4, fun a x y => by rw [u_ne (by omega)]; exact h5 a x y⟩, ⟨h6, fun a x y => by rw [u_ne (by omega)]; exact h7 a x y⟩, h8, fun a x y => by rw [u_ne (by omega)]; exact h9 a x y⟩, h10⟩
theorem c_one70 (d : DC D M) (g : DG D) {P : Nat} (hP : P ≤ 6) (h5 : M 53 5 = nI P) : ∀ (m n k : Nat), k + m = D 14 0 → m < n → (∀ i, i < k → D 16 i < P) → ((∃ i, i < D 14 0 ∧ P ≤ D 16 i) ∧ f_Rea_anyOneMissing_L70 M n (nI k) = some 1) ∨ (¬ (∃ i, i < D 14 0 ∧ P ≤ D 16 i) ∧ f_Rea_anyOneMissing_L70 M n (nI k) = some 0) := by
  have h14 := g.2.2.2.2.1.1
  have h66 := d.2.1.2.2
  intro m
  induction m with
  | zero =>
    intro n k hk hn hf
    obtain ⟨n, rfl⟩ : ∃ z, n = z + 1 := ⟨n - 1, by omega⟩
    refine Or.inr ⟨fun ⟨i, i1, i2⟩ => by have := hf i (by omega); omega, ?_⟩
    rw [f_Rea_anyOneMissing_L70, h66.1, if_pos (by rw [nI_leI (by omega) (by omega)]; omega)]
  | succ m ih =>
    intro n k hk hn hf
    obtain ⟨n, rfl⟩ : ∃ z, n = z + 1 := ⟨n - 1, by omega⟩
    have hv := g.2.2.2.2.1.2 k (by omega)
    have ev : M 68 k = nI (D 16 k) := h66.2 68 (by decide) (by decide) k (by omega)
    rw [f_Rea_anyOneMissing_L70, h66.1, if_neg (by rw [nI_leI (by omega) (by omega)]; omega), (tri_at h66.1 h14 (by omega)).2, e_bnd, show 66 + 2 = 68 from rfl, ev, h5, nI_1]
    by_cases u : D 16 k < P
    · rw [if_pos (by rw [nI_ltI (by omega) (by omega)]; exact u)]
      exact ih n (k + 1) (by omega) (by omega) (fun i hi => by
        by_cases v : i = k
        · subst v; exact u
        · exact hf i (by omega))
    · rw [if_neg (by rw [nI_ltI (by omega) (by omega)]; exact u)]
      exact Or.inl ⟨⟨k, by omega, by omega⟩, rfl⟩
theorem c_oneL (d : DC D M) (g : DG D) {P : Nat} (hP : P ≤ 6) (h5 : M 53 5 = nI P) : ∀ (m n k : Nat), k + m = D 10 0 → m < n → (∀ i, i < k → D 11 i < P ∧ D 12 i < P) → (badO D P ∧ f_Rea_anyOneMissing_L2 M n (nI k) = some 1) ∨ (¬ badO D P ∧ f_Rea_anyOneMissing_L2 M n (nI k) = some 0) := by
  have h10 := g.2.2.2.1.1
  have h14 := g.2.2.2.2.1.1
  have h62 := d.2.1.2.1
  intro m
  induction m with
  | zero =>
    intro n k hk hn hf
    obtain ⟨n, rfl⟩ : ∃ z, n = z + 1 := ⟨n - 1, by omega⟩
    rw [f_Rea_anyOneMissing_L2, h62.1, if_pos (by rw [nI_leI (by omega) (by omega)]; omega), show (0 : Int32) = nI 0 from rfl]
    rcases c_one70 d g hP h5 (D 14 0) 1000 0 (by omega) (by omega) (fun i hi => by omega) with ⟨r1, r2⟩ | ⟨r1, r2⟩
    · exact Or.inl ⟨Or.inr r1, r2⟩
    · refine Or.inr ⟨fun h => ?_, r2⟩
      rcases h with ⟨i, i1, i2⟩ | h
      · have := hf i (by omega)
        omega
      · exact r1 h
  | succ m ih =>
    intro n k hk hn hf
    obtain ⟨n, rfl⟩ : ∃ z, n = z + 1 := ⟨n - 1, by omega⟩
    have hv := g.2.2.2.1.2 k (by omega)
    have e1 : M 63 k = nI (D 11 k) := h62.2 63 (by decide) (by decide) k (by omega)
    have e2 : M 64 k = nI (D 12 k) := h62.2 64 (by decide) (by decide) k (by omega)
    obtain ⟨t1, t2⟩ := tri_at h62.1 (by omega) (show k < D 10 0 by omega)
    rw [f_Rea_anyOneMissing_L2, h62.1, if_neg (by rw [nI_leI (by omega) (by omega)]; omega), t1, e_bnd, show 62 + 1 = 63 from rfl, e1, h5, t2, e_bnd, show 62 + 2 = 64 from rfl, e2, nI_1]
    by_cases u : P ≤ D 11 k
    · rw [if_pos (by rw [nI_leI (by omega) (by omega)]; exact u)]
      exact Or.inl ⟨Or.inl ⟨k, by omega, Or.inl u⟩, rfl⟩
    · rw [if_neg (by rw [nI_leI (by omega) (by omega)]; exact u)]
      by_cases v : D 12 k < P
      · rw [if_pos (by rw [nI_ltI (by omega) (by omega)]; exact v)]
        exact ih n (k + 1) (by omega) (by omega) (fun i hi => by
          by_cases w : i = k
          · subst w; exact ⟨by omega, v⟩
          · exact hf i (by omega))
      · rw [if_neg (by rw [nI_ltI (by omega) (by omega)]; exact v)]
        exact Or.inl ⟨Or.inl ⟨k, by omega, Or.inr (by omega)⟩, rfl⟩
end CP
