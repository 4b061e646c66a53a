/-! pure: text -/
theorem s_text : Sim f_Hal_text f_Mod_text := by
  intro M hInv
  obtain ⟨T, hA, hI, hS, hT, hF⟩ := hInv
  obtain ⟨v, b, L, y, D, M1, a1, a2, a3, a4, a5⟩ := tx_read hT
  have hw := a3.2.1
  have hr := a3.2.2.1
  have hz := hr.z0 hw
  obtain ⟨M4, h4⟩ : ∃ M4, M4 = upd2 M1 70 0 0 := ⟨_, rfl⟩
  have e4 : ∀ a, a ≠ 70 → M4 a = M1 a := fun a h => by rw [h4, u_ne h]
  have e44 : M4 70 4 = M1 70 4 := by rw [h4, u_nk (by decide)]
  have e45 : M4 70 5 = M1 70 5 := by rw [h4, u_nk (by decide)]
  have e40 : M4 70 0 = 0 := by rw [h4, u_eq]
  have e4M : ∀ a, a < 52 ∨ 70 < a → M4 a = M a := fun a h => by rw [e4 a (by omega), a2 a h]
  by_cases q : y.1 = 0
  · obtain ⟨g, x, n6, h5⟩ := a4 q
    have d : DC D M4 := by rw [h4]; exact (a3.2.2.2.2 q).u70
    obtain ⟨M7, b1, b2, b3⟩ := c_all d g (by rw [e4 53 (by decide)]; exact h5)
    obtain ⟨M8, h8⟩ : ∃ M8, M8 = upd2 M7 0 3 0 := ⟨_, rfl⟩
    have e8 : ∀ a, a ≠ 0 → M8 a = M7 a := fun a h => by rw [h8, u_ne h]
    have e8M : ∀ a, (17 < a ∧ a < 52) ∨ 70 < a → M8 a = M a := fun a h => by rw [e8 a (by omega), b2 a (by omega), e4M a (by omega)]
    have e89 : M8 0 9 = M 0 9 := by rw [h8, u_nk (by decide), b2 0 (by decide), e4M 0 (by decide)]
    have e83 : M8 0 3 = 0 := by rw [h8, u_eq]
    have e8k : ∀ k, M8 70 k = M4 70 k := fun k => by rw [e8 70 (by decide), b2 70 (by decide)]
    obtain ⟨Mr, c1, c2, c3, c4⟩ := a5 M8 (by rw [e8M 103 (by decide)]) (e8M 112 (by decide))
    obtain ⟨M9, h9⟩ : ∃ M9, M9 = upd2 Mr 103 22 0 := ⟨_, rfl⟩
    have e9 : ∀ a, a ≠ 103 → M9 a = Mr a := fun a h => by rw [h9, u_ne h]
    have e9k : ∀ k, k ≠ 22 → M9 103 k = Mr 103 k := fun k h => by rw [h9, u_nk h]
    have d9 : DM D M9 := (c2.2.2.2 q).g (fun a h1 h2 => e9 a (by omega)) (fun k h1 h2 => e9k k (by omega))
    have z27 : M9 103 27 = 0 := by rw [e9k 27 (by decide)]; exact c2.z0.mpr q
    obtain ⟨MK, k1, k2, k3, k4, k5, k6⟩ := m_kept d9 g
    have eK : ∀ a, a < 103 ∨ 111 < a → MK a = M8 a := fun a h => by rw [k2 a (by omega), e9 a (by omega), c3 a (by omega) (by omega)]
    have eKM : ∀ a, (17 < a ∧ a < 52) ∨ (70 < a ∧ a < 103) ∨ 111 < a → MK a = M a := fun a h => by rw [eK a (by omega), e8M a (by omega)]
    have on : On (nT D) MK := b3.mv (fun a h1 h2 => by rw [eK a (by omega), e8 a (by omega)])
    refine ⟨v, M8, MK, ?_, ?_, nT D, ⟨on, k6, nT_G g x n6⟩, ⟨0, 0, by decide, by decide, ?_, k4, k5, fun e => absurd e (by decide), fun e => absurd e (by decide)⟩, ?_, ⟨0, by decide, ?_, ?_, fun j hj => by omega⟩, ?_⟩
    · unfold f_Hal_text
      rw [a1, e_bnd2, e_set, ← h4, if_pos (by rw [e44]; exact hz.mpr q), b1, e_bnd, e_set, ← h8]
    · rw [c1]
      unfold f_Mod_text_J120
      rw [e_set, ← h9, if_pos (by rw [z27]; decide), k1, e_bnd]
    · rw [eK 0 (by decide), e83]
      rfl
    · exact hS.mv (fun a h1 h2 => eKM a (by omega)) (fun a h1 h2 => eKM a (by omega)) (by rw [eK 0 (by decide), e89]) (by rw [k3 43 (by decide), e9k 43 (by decide), c4 43 (by decide) (by decide), e8M 103 (by decide)])
    · rw [eK 70 (by decide), e8k, e40]
      rfl
    · rw [k3 22 (by decide), h9, u_eq]
      rfl
    · show MK 70 4 = MK 103 27
      rw [eK 70 (by decide), e8k, e44, hz.mpr q, k3 27 (by decide), z27]
  · obtain ⟨Mr, c1, c2, c3, c4⟩ := a5 M4 (by rw [e4M 103 (by decide)]) (e4M 112 (by decide))
    obtain ⟨M9, h9⟩ : ∃ M9, M9 = upd2 Mr 103 22 0 := ⟨_, rfl⟩
    have e9 : ∀ a, a ≠ 103 → M9 a = Mr a := fun a h => by rw [h9, u_ne h]
    have e9k : ∀ k, k ≠ 22 → M9 103 k = Mr 103 k := fun k h => by rw [h9, u_nk h]
    have r2 := c2.2.2.1
    have z27 : M9 103 27 = nI y.1 := by rw [e9k 27 (by decide)]; exact r2.1
    have z28 : M9 103 28 = nI y.2.1 := by rw [e9k 28 (by decide)]; exact r2.2.1 q
    have hy := hw.1
    have eA : ∀ a, a < 103 ∨ (104 ≤ a ∧ a < 108) ∨ 111 < a → M9 a = M4 a := fun a h => by rw [e9 a (by omega), c3 a (by omega) (by omega)]
    have eM : ∀ a, a < 52 ∨ (70 < a ∧ a < 103) ∨ (104 ≤ a ∧ a < 108) ∨ 111 < a → M9 a = M a := fun a h => by rw [eA a (by omega), e4M a (by omega)]
    have ek : ∀ k, (k < 15 ∨ 28 < k) → M9 103 k = M 103 k := fun k h => by rw [e9k k (by omega), c4 k (by omega) (by omega), e4M 103 (by decide)]
    refine ⟨-10 - nI y.2.1, M4, M9, ?_, ?_, T, ⟨hA.1.mv (fun a h1 h2 => eM a (by omega)), hA.2.1.mv (fun a h1 h2 => eM a (by omega)) (fun k hk => ek k (by omega)), hA.2.2⟩, hI.mv (by rw [eM 0 (by decide)]) (fun a h1 h2 => eM a (by omega)) (eM 104 (by decide)) (eM 105 (by decide)), ?_, ⟨0, by decide, ?_, ?_, fun j hj => by omega⟩, ?_⟩
    · unfold f_Hal_text
      rw [a1, e_bnd2, e_set, ← h4, if_neg (by rw [e44]; exact fun e => q (hz.mp e)), e45, hr.2.1 q]
    · rw [c1]
      unfold f_Mod_text_J120
      rw [e_set, ← h9, if_neg (by rw [z27, l0, nI_leI (by omega) (by omega)]; omega), z28]
    · exact hS.mv (fun a h1 h2 => eM a (by omega)) (fun a h1 h2 => eM a (by omega)) (by rw [eM 0 (by decide)]) (ek 43 (by decide))
    · rw [eA 70 (by decide), e40]
      rfl
    · rw [h9, u_eq]
      rfl
    · show M9 70 4 = M9 103 27
      rw [eA 70 (by decide), e44, hr.1, z27]
theorem law_pure : ∀ X : Sc, X.1 ≤ 2560 → ∃ M0 : Mem, c_Law = some (S0, M0) ∧ f_Law_law X M0 = some 1 := law_pure_of s_text
