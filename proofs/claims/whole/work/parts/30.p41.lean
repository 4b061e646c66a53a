/-! pure: a text's end in the reference -/
def pplN (D : Tn) : Nat := if D 21 0 = 0 then min (D 4 0) 6 else D 21 0 - 1
def F6 (D : Tn) : Prop := D 1 0 ≤ D 22 0 ∨ D 1 1 ≤ D 23 0 ∨ pplN D < D 24 0 ∨ D 4 0 < pplN D
def frB (D : Tn) (k : Nat) : Prop := ∀ i, i < k → D 2 (9 * D 6 i + D 5 i) = 0
section ME
variable {b : Nat → Nat} {L : Nat} {z : Tz} {D : Tn} {M : Mem}
theorem pplN_le (g : DG D) : pplN D ≤ 6 := by
  have h := g.1.2.2.2.2.2
  unfold pplN
  split <;> omega
theorem m_ppl (d : DM D M) (g : DG D) : f_Mod_dPeople M = some (nI (pplN D)) := by
  have h4 := g.2.2.1.1
  have h21 := g.1.2.2.2.2.2
  unfold f_Mod_dPeople pplN
  rw [show ix 4 = 4 from rfl, d.1.2.2, d.2.2.1.1]
  by_cases e : D 21 0 = 0
  · rw [if_pos e, if_pos rfl, if_pos e]
    by_cases u : 6 ≤ D 4 0
    · rw [if_pos (by rw [l6, nI_leI (by omega) (by omega)]; exact u), show min (D 4 0) 6 = 6 by omega]
      rfl
    · rw [if_neg (by rw [l6, nI_leI (by omega) (by omega)]; exact u), show min (D 4 0) 6 = D 4 0 by omega]
  · rw [if_neg e, if_neg (by rw [l4, e_neg (by omega) (by omega) (by omega)]; exact id), if_neg e]
theorem m_freeL (d : DM D M) (g : DG D) : ∀ (m n k : Nat) (x : Int32), k + m = D 4 0 → m < n → ((frB D k ∧ x = nI 1) ∨ (¬ frB D k ∧ x = nI 0)) → (frB D (D 4 0) ∧ f_Mod_areFree_L4 M n x (nI k) = some (nI 1)) ∨ (¬ frB D (D 4 0) ∧ f_Mod_areFree_L4 M n x (nI k) = some (nI 0)) := by
  have h4 := g.2.2.1.1
  intro m
  induction m with
  | zero =>
    intro n k x hk hn h
    obtain ⟨n, rfl⟩ : ∃ z, n = z + 1 := ⟨n - 1, by omega⟩
    have e : k = D 4 0 := by omega
    subst e
    rw [f_Mod_areFree_L4, d.2.2.1.1, if_pos (by rw [nI_leI (by omega) (by omega)]; omega)]
    rcases h with ⟨h1, rfl⟩ | ⟨h1, rfl⟩
    · exact Or.inl ⟨h1, e_ckB1⟩
    · exact Or.inr ⟨h1, e_ckB0⟩
  | succ m ih =>
    intro n k x hk hn h
    obtain ⟨n, rfl⟩ : ∃ z, n = z + 1 := ⟨n - 1, by omega⟩
    have hb := g.2.2.1.2 k (by omega)
    have hc := g.2.1 (9 * D 6 k + D 5 k) (by omega)
    rw [f_Mod_areFree_L4, d.2.2.1.1, if_neg (by rw [nI_leI (by omega) (by omega)]; omega)]
    rcases h with ⟨h1, rfl⟩ | ⟨h1, rfl⟩
    · rw [if_neg (by decide), l4, pk_mul, e_ckn (by omega) (by decide), show ix (nI (4 * k)) = 4 * k from e_ix (by omega), (d.2.2.1.2 k (by omega)).1, e_ckn (by omega) (by decide), show ix (nI (9 * D 6 k + D 5 k)) = 9 * D 6 k + D 5 k from e_ix (by omega), d.2.1 _ (by omega), nI_1]
      by_cases e : D 2 (9 * D 6 k + D 5 k) = 0
      · rw [if_pos (by rw [e]; rfl)]
        exact ih n (k + 1) 1 (by omega) (by omega) (Or.inl ⟨fun i hi => by
          by_cases u : i = k
          · subst u; exact e
          · exact h1 i (by omega), rfl⟩)
      · rw [if_neg (by rw [l0, nI_eq (by omega) (by omega)]; exact e)]
        exact ih n (k + 1) 0 (by omega) (by omega) (Or.inr ⟨fun f => e (f k (by omega)), rfl⟩)
    · rw [if_pos (by rfl), nI_1]
      exact ih n (k + 1) 0 (by omega) (by omega) (Or.inr ⟨fun f => h1 (fun i hi => f i (by omega)), rfl⟩)
/-- the checks at the end: what is left standing -/
theorem m_end (hL : L ≤ 320) (c : MI b L z D M) (q : z.1 = 0) (g : DG D) (x : Int32) : ∃ M', f_Mod_text_J44 x M = f_Mod_text_J120 x M' ∧ Fq M M' ∧ (F6 D → MI b L (flt 6 z) D M') ∧ (¬ F6 D → ¬ frB D (D 4 0) → MI b L (flt 7 z) D M') ∧ (¬ F6 D → frB D (D 4 0) → MI b L z D M') := by
  have d := c.2.2.2 q
  have h6 := pplN_le g
  have h4 := g.2.2.1.1
  have gA := g.a
  have g0 := g.1.1
  have g1 := g.1.2.1
  -- behind the first check, the second
  have j105 : ∀ (s : Nat) (y : Tz), ((s = 0 ∧ y = flt 6 z) ∨ (s = 1 ∧ y = z)) → ∃ M', f_Mod_text_J105 x (nI s) M = f_Mod_text_J120 x M' ∧ Fq M M' ∧ (y.1 ≠ 0 → MI b L y D M') ∧ (y.1 = 0 → ¬ frB D (D 4 0) → MI b L (flt 7 y) D M') ∧ (y.1 = 0 → frB D (D 4 0) → MI b L y D M') := fun s y hs => by
    have first : ∃ M1, f_Mod_needs (nI s) 6 M = some M1 ∧ MI b L y D M1 ∧ F103 M M1 := by
      rcases hs with ⟨rfl, rfl⟩ | ⟨rfl, rfl⟩
      · exact c.flt hL (f := 6) (by decide) (by decide)
      · exact ⟨M, m_ok, c, F103.rf⟩
    obtain ⟨M1, a1, a2, a3⟩ := first
    have d1 := d.f a3
    unfold f_Mod_text_J105
    rw [a1, e_bnd]
    have fr := m_freeL d1 g (D 4 0) 1000 0 1 (by omega) (by omega) (Or.inl ⟨fun i hi => by omega, rfl⟩)
    rcases fr with ⟨r1, r2⟩ | ⟨r1, r2⟩
    · rw [show f_Mod_areFree M1 = some (nI 1) from r2, e_bnd, show nI 1 = (1 : Int32) from rfl, m_ok, e_bnd]
      exact ⟨M1, rfl, a3.q, fun _ => a2, fun _ h => absurd r1 h, fun _ _ => a2⟩
    · obtain ⟨M2, b1, b2, b3⟩ := a2.flt hL (f := 7) (by decide) (by decide)
      rw [show f_Mod_areFree M1 = some (nI 0) from r2, e_bnd, show nI 0 = (0 : Int32) from rfl, show (7 : Int32) = nI 7 from rfl, b1, e_bnd]
      exact ⟨M2, rfl, a3.q.tr b3.q, fun h => by rw [flt_d h] at b2; exact b2, fun _ _ => b2, fun _ h => absurd h r1⟩
  have bad : F6 D → ∃ M', f_Mod_text_J104 x M = f_Mod_text_J120 x M' ∧ Fq M M' ∧ (F6 D → MI b L (flt 6 z) D M') ∧ (¬ F6 D → ¬ frB D (D 4 0) → MI b L (flt 7 z) D M') ∧ (¬ F6 D → frB D (D 4 0) → MI b L z D M') := fun hf => by
    obtain ⟨M', a1, a2, a3, -, -⟩ := j105 0 (flt 6 z) (Or.inl ⟨rfl, rfl⟩)
    exact ⟨M', a1, a2, fun _ => a3 (flt_ne (by decide)), fun h => absurd hf h, fun h => absurd hf h⟩
  obtain ⟨⟨⟨e0, e1, -⟩, -⟩, -, ⟨e15, -⟩, -, -, e17, e18, e19, -⟩ := id d
  unfold f_Mod_text_J44
  rw [if_pos (c.z0.mpr q), show ix 0 = 0 from rfl, show ix 1 = 1 from rfl, e0, e18, e1, e19, m_ppl d g, e_bnd, e_bnd, e15]
  by_cases u0 : D 1 0 ≤ D 22 0
  · rw [if_pos (by rw [nI_leI (by omega) (by have := gA.1; omega)]; exact u0)]
    exact bad (Or.inl u0)
  · rw [if_neg (by rw [nI_leI (by omega) (by have := gA.1; omega)]; exact u0)]
    by_cases u1 : D 1 1 ≤ D 23 0
    · rw [if_pos (by rw [nI_leI (by omega) (by have := gA.2.1; omega)]; exact u1)]
      exact bad (Or.inr (Or.inl u1))
    · rw [if_neg (by rw [nI_leI (by omega) (by have := gA.2.1; omega)]; exact u1)]
      have hle : (nI (pplN D) ≤ M 103 17) ↔ pplN D < D 24 0 := by
        rw [e17]
        have := gA.2.2
        by_cases v : D 24 0 = 0
        · rw [if_pos v, show (-4 : Int32) = J (-4) from rfl, J_nI, J_le (by omega) (by omega) (by omega) (by omega)]
          omega
        · rw [if_neg v, nI_leI (by omega) (by omega)]
          omega
      by_cases u2 : pplN D < D 24 0
      · rw [if_pos (hle.mpr u2)]
        exact bad (Or.inr (Or.inr (Or.inl u2)))
      · rw [if_neg (fun e => u2 (hle.mp e))]
        by_cases u3 : D 4 0 < pplN D
        · rw [if_pos (by rw [nI_ltI (by omega) (by omega)]; exact u3)]
          exact bad (Or.inr (Or.inr (Or.inr u3)))
        · rw [if_neg (by rw [nI_ltI (by omega) (by omega)]; exact u3)]
          have nf : ¬ F6 D := fun h => by
            rcases h with h | h | h | h
            · exact u0 h
            · exact u1 h
            · exact u2 h
            · exact u3 h
          obtain ⟨M', a1, a2, -, a4, a5⟩ := j105 1 z (Or.inr ⟨rfl, rfl⟩)
          exact ⟨M', a1, a2, fun h => absurd h nf, fun _ h => a4 q h, fun _ h => a5 q h⟩
end ME
