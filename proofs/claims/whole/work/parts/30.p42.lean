/-! pure: a text's end in the class: the loops -/
def putB (D : Tn) (c : Nat) : Prop := ∃ i, i < D 4 0 ∧ 9 * D 6 i + D 5 i = c
section CE
variable {D : Tn} {M : Mem}
theorem c_putL (d : DC D M) (g : DG D) {c : Nat} (hc : c < 81) : ∀ (m n k : Nat), k + m = D 4 0 → m < n → (∀ i, i < k → 9 * D 6 i + D 5 i ≠ c) → (putB D c ∧ f_Ben_anyPutOn_L2 56 M n (nI c) (nI k) = some 1) ∨ (¬ putB D c ∧ f_Ben_anyPutOn_L2 56 M n (nI c) (nI k) = some 0) := by
  have h4 := g.2.2.1.1
  intro m
  induction m with
  | zero =>
    intro n k hk hn hf
    obtain ⟨n, rfl⟩ : ∃ z, n = z + 1 := ⟨n - 1, by omega⟩
    refine Or.inr ⟨fun ⟨i, i1, i2⟩ => hf i (by omega) i2, ?_⟩
    rw [f_Ben_anyPutOn_L2, d.2.1.1.1, if_pos (by rw [nI_leI (by omega) (by omega)]; omega)]
  | succ m ih =>
    intro n k hk hn hf
    obtain ⟨n, rfl⟩ : ∃ z, n = z + 1 := ⟨n - 1, by omega⟩
    have hb := g.2.2.1.2 k (by omega)
    have e1 : M 57 k = nI (D 5 k) := d.2.1.1.2 57 (by decide) (by decide) k (by omega)
    have e2 : M 58 k = nI (D 6 k) := d.2.1.1.2 58 (by decide) (by decide) k (by omega)
    rw [f_Ben_anyPutOn_L2, d.2.1.1.1, if_neg (by rw [nI_leI (by omega) (by omega)]; omega), if_neg (by rw [l8, nI_leI (by omega) (by omega)]; omega), e_ckn (by omega) (by decide), e_ckn (by omega) (by decide), show ix (nI k) = k from e_ix (by omega), show 56 + 2 = 58 from rfl, show 56 + 1 = 57 from rfl, e1, e2, l9, pk_mul, nI_add, nI_1]
    by_cases e : 9 * D 6 k + D 5 k = c
    · rw [if_pos (by rw [e])]
      exact Or.inl ⟨⟨k, by omega, e⟩, rfl⟩
    · rw [if_neg (by rw [nI_eq (by omega) (by omega)]; exact e)]
      exact ih n (k + 1) (by omega) (by omega) (fun i hi => by
        by_cases u : i = k
        · subst u; exact e
        · exact hf i (by omega))
theorem c_put (d : DC D M) (g : DG D) {c : Nat} (hc : c < 81) : (putB D c ∧ f_Ben_anyPutOn 56 M (nI c) = some 1) ∨ (¬ putB D c ∧ f_Ben_anyPutOn 56 M (nI c) = some 0) := by
  have h4 := g.2.2.1.1
  exact c_putL d g hc (D 4 0) 1000 0 (by omega) (by omega) (fun i hi => by omega)
theorem c_dst (d : DC D M) {c : Nat} (hc : c < 81) : f_Tol_stateOf 53 M (nI c) = some (nI (D 2 c)) := by
  unfold f_Tol_stateOf
  rw [if_neg (by rw [l0, nI_ltI (by omega) (by omega)]; omega), if_neg (by rw [l81, nI_leI (by omega) (by omega)]; omega), e_ckn hc (by decide), show ix (nI c) = c from e_ix (by omega), show 53 + 1 = 54 from rfl, d.1.2.1 c hc]
def insB (D : Tn) (c : Nat) : Prop := c % 9 < D 1 0 ∧ c / 9 < D 1 1
theorem c_dcell (d : DC D M) (g : DG D) {c : Nat} (hc : c < 81) : (insB D c ∧ f_Tol_isCell 53 M (nI c) = some 1) ∨ (¬ insB D c ∧ f_Tol_isCell 53 M (nI c) = some 0) := by
  have g0 := g.1.1
  have g1 := g.1.2.1
  have e0 : M 53 0 = nI (D 1 0) := d.1.1 0 (by decide)
  have e1 : M 53 1 = nI (D 1 1) := d.1.1 1 (by decide)
  unfold f_Tol_isCell insB
  rw [if_neg (by rw [l0, nI_ltI (by omega) (by omega)]; omega), if_neg (by rw [l81, nI_leI (by omega) (by omega)]; omega), e0, e1, l9, j_rem (by omega) (by decide) (by decide), show nI c / nI 9 = nI (c / 9) from pk_div (by omega) (by decide) (by decide)]
  by_cases u : D 1 0 ≤ c % 9
  · rw [if_pos (by rw [nI_leI (by omega) (by omega)]; exact u)]
    exact Or.inr ⟨by omega, rfl⟩
  · rw [if_neg (by rw [nI_leI (by omega) (by omega)]; exact u)]
    by_cases v : D 1 1 ≤ c / 9
    · rw [if_pos (by rw [nI_leI (by omega) (by omega)]; exact v)]
      exact Or.inr ⟨by omega, rfl⟩
    · rw [if_neg (by rw [nI_leI (by omega) (by omega)]; exact v)]
      exact Or.inl ⟨by omega, rfl⟩
def badC (D : Tn) : Prop := ∃ c, c < 81 ∧ ¬ insB D c ∧ (D 2 c ≠ 0 ∨ putB D c)
theorem c_misL (d : DC D M) (g : DG D) : ∀ (m n k : Nat), k + m = 81 → m < n → (∀ c, c < k → ¬ (¬ insB D c ∧ (D 2 c ≠ 0 ∨ putB D c))) → (badC D ∧ f_Rea_anyCellMissing_L2 M n (nI k) = some 1) ∨ (¬ badC D ∧ f_Rea_anyCellMissing_L2 M n (nI k) = some 0) := by
  intro m
  induction m with
  | zero =>
    intro n k hk hn hf
    obtain ⟨n, rfl⟩ : ∃ z, n = z + 1 := ⟨n - 1, by omega⟩
    refine Or.inr ⟨fun ⟨c, c1, c2⟩ => hf c (by omega) c2, ?_⟩
    rw [f_Rea_anyCellMissing_L2, if_pos (by rw [l81, nI_leI (by omega) (by omega)]; omega)]
  | succ m ih =>
    intro n k hk hn hf
    obtain ⟨n, rfl⟩ : ∃ z, n = z + 1 := ⟨n - 1, by omega⟩
    have hk81 : k < 81 := by omega
    have h2 := g.2.1 k hk81
    have next : ¬ (¬ insB D k ∧ (D 2 k ≠ 0 ∨ putB D k)) → (badC D ∧ f_Rea_anyCellMissing_L2 M n (nI k + 1) = some 1) ∨ (¬ badC D ∧ f_Rea_anyCellMissing_L2 M n (nI k + 1) = some 0) := fun h => by
      rw [nI_1]
      exact ih n (k + 1) (by omega) (by omega) (fun c hc => by
        by_cases u : c = k
        · subst u; exact h
        · exact hf c (by omega))
    rw [f_Rea_anyCellMissing_L2, if_neg (by rw [l81, nI_leI (by omega) (by omega)]; omega)]
    rcases c_dcell d g hk81 with ⟨r1, r2⟩ | ⟨r1, r2⟩
    · rw [r2, e_bnd, if_neg (by decide)]
      exact next (fun h => h.1 r1)
    · rw [r2, e_bnd, if_pos rfl, c_dst d hk81, e_bnd]
      by_cases u : D 2 k = 0
      · rw [if_pos (by rw [u]; rfl)]
        rcases c_put d g hk81 with ⟨s1, s2⟩ | ⟨s1, s2⟩
        · rw [s2, e_bnd, if_neg (by decide)]
          exact Or.inl ⟨⟨k, hk81, r1, Or.inr s1⟩, rfl⟩
        · rw [s2, e_bnd, if_pos rfl]
          exact next (fun h => h.2.elim (fun x => x u) s1)
      · rw [if_neg (by rw [l0, nI_eq (by omega) (by omega)]; exact u)]
        exact Or.inl ⟨⟨k, hk81, r1, Or.inl u⟩, rfl⟩
/-- what is gathered says it -/
theorem badC_iff (g : DG D) (x : DX D) : badC D ↔ (D 1 0 ≤ D 22 0 ∨ D 1 1 ≤ D 23 0) := by
  have g0 := g.1.1
  have g1 := g.1.2.1
  obtain ⟨⟨x1, x2, -, -⟩, x3, x4, -⟩ := x
  constructor
  · rintro ⟨c, c1, c2, c3⟩
    unfold insB at c2
    rcases c3 with h | ⟨i, i1, i2⟩
    · have := x2 c c1 h
      omega
    · have h1 := x1 i i1
      have h2 := g.2.2.1.2 i i1
      omega
  · intro h
    rcases h with h | h
    · rcases x3 with e | ⟨i, i1, i2⟩ | ⟨c, c1, c2, c3⟩
      · omega
      · have h2 := g.2.2.1.2 i i1
        exact ⟨9 * D 6 i + D 5 i, by omega, by unfold insB; omega, Or.inr ⟨i, i1, rfl⟩⟩
      · exact ⟨c, c1, by unfold insB; omega, Or.inl c2⟩
    · rcases x4 with e | ⟨i, i1, i2⟩ | ⟨c, c1, c2, c3⟩
      · omega
      · have h2 := g.2.2.1.2 i i1
        exact ⟨9 * D 6 i + D 5 i, by omega, by unfold insB; omega, Or.inr ⟨i, i1, rfl⟩⟩
      · exact ⟨c, c1, by unfold insB; omega, Or.inl c2⟩
end CE
