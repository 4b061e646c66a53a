/-! pure: a draft is kept in the reference -/
theorem DM.g {D : Tn} {M M' : Mem} (h : DM D M) (h1 : ∀ a, 108 ≤ a → a ≤ 111 → M' a = M a) (h2 : ∀ k, 15 ≤ k → k ≤ 20 → M' 103 k = M 103 k) : DM D M' := by
  unfold DM
  rw [h1 108 (by decide) (by decide), h1 109 (by decide) (by decide), h1 110 (by decide) (by decide), h1 111 (by decide) (by decide), h2 15 (by decide) (by decide), h2 16 (by decide) (by decide), h2 17 (by decide) (by decide), h2 18 (by decide) (by decide), h2 19 (by decide) (by decide), h2 20 (by decide) (by decide)]
  exact h
theorem kd_144 : ∀ (m n k : Nat) (M : Mem), k + m = 6 → m < n → (∀ j, j < k → M 104 (82 + j) = nI j) → ∃ M', f_Mod_keepDraft_L144 n (nI k) M = some M' ∧ (∀ a, a ≠ 104 → a ≠ 105 → M' a = M a) ∧ (∀ j, (j < 82 ∨ 87 < j) → M' 104 j = M 104 j) ∧ (∀ j, j < 6 → M' 104 (82 + j) = nI j) ∧ M' 105 0 = 0 ∧ M' 105 1 = 0 := by
  intro m
  induction m with
  | zero =>
    intro n k M hk hn hf
    obtain ⟨n, rfl⟩ : ∃ z, n = z + 1 := ⟨n - 1, by omega⟩
    have e : k = 6 := by omega
    subst e
    refine ⟨upd2 (upd2 M 105 0 0) 105 1 0, ?_, fun a h1 h2 => by rw [u_ne h2, u_ne h2], fun j hj => by rw [u_ne (by decide), u_ne (by decide)], fun j hj => by rw [u_ne (by decide), u_ne (by decide)]; exact hf j hj, ?_, u_eq⟩
    · rw [f_Mod_keepDraft_L144, if_pos (by decide), e_set, e_set]
      rfl
    · rw [u_nk (by decide), u_eq]
  | succ m ih =>
    intro n k M hk hn hf
    obtain ⟨n, rfl⟩ : ∃ z, n = z + 1 := ⟨n - 1, by omega⟩
    obtain ⟨M', r1, r2, r3, r4⟩ := ih n (k + 1) (upd2 M 104 (82 + k) (nI k)) (by omega) (by omega) (fun j hj => by
      by_cases e : j = k
      · subst e; exact u_eq
      · rw [u_nk (by omega)]; exact hf j (by omega))
    refine ⟨M', ?_, fun a h1 h2 => by rw [r2 a h1 h2, u_ne h1], fun j hj => by rw [r3 j hj, u_nk (by omega)], r4⟩
    rw [f_Mod_keepDraft_L144, if_neg (by rw [l6, nI_leI (by omega) (by omega)]; omega), l82, nI_add, e_ckn (by omega) (by decide), e_set, show ix (nI (82 + k)) = 82 + k from e_ix (by omega), nI_1]
    exact r1
theorem kd_54 : ∀ (m n k : Nat) (M : Mem), k + m = 24 → m < n → (∀ j, j < k → M 107 j = M 110 j) → ∃ M', f_Mod_keepDraft_L54 n (nI k) M = f_Mod_keepDraft_L54 (0 + 1) (nI 24) M' ∧ (∀ a, a ≠ 107 → M' a = M a) ∧ ∀ j, j < 24 → M' 107 j = M 110 j := by
  intro m
  induction m with
  | zero =>
    intro n k M hk hn hf
    obtain ⟨n, rfl⟩ : ∃ z, n = z + 1 := ⟨n - 1, by omega⟩
    have e : k = 24 := by omega
    subst e
    refine ⟨M, ?_, fun _ _ => rfl, hf⟩
    rw [f_Mod_keepDraft_L54, f_Mod_keepDraft_L54, if_pos (by decide), if_pos (by decide)]
  | succ m ih =>
    intro n k M hk hn hf
    obtain ⟨n, rfl⟩ : ∃ z, n = z + 1 := ⟨n - 1, by omega⟩
    obtain ⟨M', r1, r2, r3⟩ := ih n (k + 1) (upd2 M 107 k (M 110 k)) (by omega) (by omega) (fun j hj => by
      rw [u_ne (show (110 : Nat) ≠ 107 by decide)]
      by_cases e : j = k
      · subst e; exact u_eq
      · rw [u_nk e]; exact hf j (by omega))
    refine ⟨M', ?_, fun a h => by rw [r2 a h, u_ne h], fun j hj => by rw [r3 j hj, u_ne (by decide)]⟩
    rw [f_Mod_keepDraft_L54, if_neg (by rw [l24, nI_leI (by omega) (by omega)]; omega), e_ckn (by omega) (by decide), e_ckn (by omega) (by decide), e_set, show ix (nI k) = k from e_ix (by omega), nI_1]
    exact r1
theorem kd_28 : ∀ (m n k : Nat) (M : Mem), k + m = 32 → m < n → (∀ j, j < k → M 106 j = M 109 j) → ∃ M', f_Mod_keepDraft_L28 n (nI k) M = f_Mod_keepDraft_L54 1000 (nI 0) M' ∧ (∀ a, a ≠ 106 → M' a = M a) ∧ ∀ j, j < 32 → M' 106 j = M 109 j := by
  intro m
  induction m with
  | zero =>
    intro n k M hk hn hf
    obtain ⟨n, rfl⟩ : ∃ z, n = z + 1 := ⟨n - 1, by omega⟩
    have e : k = 32 := by omega
    subst e
    refine ⟨M, ?_, fun _ _ => rfl, hf⟩
    rw [f_Mod_keepDraft_L28, if_pos (by decide)]
    rfl
  | succ m ih =>
    intro n k M hk hn hf
    obtain ⟨n, rfl⟩ : ∃ z, n = z + 1 := ⟨n - 1, by omega⟩
    obtain ⟨M', r1, r2, r3⟩ := ih n (k + 1) (upd2 M 106 k (M 109 k)) (by omega) (by omega) (fun j hj => by
      rw [u_ne (show (109 : Nat) ≠ 106 by decide)]
      by_cases e : j = k
      · subst e; exact u_eq
      · rw [u_nk e]; exact hf j (by omega))
    refine ⟨M', ?_, fun a h => by rw [r2 a h, u_ne h], fun j hj => by rw [r3 j hj, u_ne (by decide)]⟩
    rw [f_Mod_keepDraft_L28, if_neg (by rw [l32, nI_leI (by omega) (by omega)]; omega), e_ckn (by omega) (by decide), e_ckn (by omega) (by decide), e_set, show ix (nI k) = k from e_ix (by omega), nI_1]
    exact r1
theorem kd_2 : ∀ (m n k : Nat) (M : Mem), k + m = 125 → m < n → (∀ j, j < k → M 104 j = M 108 j) → ∃ M', f_Mod_keepDraft_L2 n (nI k) M = f_Mod_keepDraft_L28 1000 (nI 0) M' ∧ (∀ a, a ≠ 104 → M' a = M a) ∧ ∀ j, j < 125 → M' 104 j = M 108 j := by
  intro m
  induction m with
  | zero =>
    intro n k M hk hn hf
    obtain ⟨n, rfl⟩ : ∃ z, n = z + 1 := ⟨n - 1, by omega⟩
    have e : k = 125 := by omega
    subst e
    refine ⟨M, ?_, fun _ _ => rfl, hf⟩
    rw [f_Mod_keepDraft_L2, if_pos (by decide)]
    rfl
  | succ m ih =>
    intro n k M hk hn hf
    obtain ⟨n, rfl⟩ : ∃ z, n = z + 1 := ⟨n - 1, by omega⟩
    obtain ⟨M', r1, r2, r3⟩ := ih n (k + 1) (upd2 M 104 k (M 108 k)) (by omega) (by omega) (fun j hj => by
      rw [u_ne (show (108 : Nat) ≠ 104 by decide)]
      by_cases e : j = k
      · subst e; exact u_eq
      · rw [u_nk e]; exact hf j (by omega))
    refine ⟨M', ?_, fun a h => by rw [r2 a h, u_ne h], fun j hj => by rw [r3 j hj, u_ne (by decide)]⟩
    rw [f_Mod_keepDraft_L2, if_neg (by rw [l125, nI_leI (by omega) (by omega)]; omega), e_ckn (by omega) (by decide), e_ckn (by omega) (by decide), e_set, show ix (nI k) = k from e_ix (by omega), nI_1]
    exact r1
theorem m_kept {D : Tn} {M : Mem} (d : DM D M) (g : DG D) : ∃ M', f_Mod_keepDraft M = some M' ∧ (∀ a, (a < 103 ∨ 107 < a) → M' a = M a) ∧ (∀ k, 8 < k → M' 103 k = M 103 k) ∧ M' 105 0 = 0 ∧ M' 105 1 = 0 ∧ OnM (nT D) M' := by
  obtain ⟨M1, a1, a2, a3⟩ := kd_2 125 1000 0 M rfl (by decide) (fun j hj => by omega)
  obtain ⟨M2, b1, b2, b3⟩ := kd_28 32 1000 0 M1 rfl (by decide) (fun j hj => by omega)
  obtain ⟨M3, c1, c2, c3⟩ := kd_54 24 1000 0 M2 rfl (by decide) (fun j hj => by omega)
  have e3 : ∀ a, a ≠ 104 → a ≠ 106 → a ≠ 107 → M3 a = M a := fun a h1 h2 h3 => by rw [c2 a h3, b2 a h2, a2 a h1]
  obtain ⟨M4, h4⟩ : ∃ M4, M4 = upd2 (upd2 (upd2 (upd2 (upd2 M3 103 2 (M 111 0)) 103 3 (M 111 1)) 103 4 (M 111 2)) 103 5 (M 111 3)) 103 6 (M 103 15) := ⟨_, rfl⟩
  have e4 : ∀ a, a ≠ 103 → M4 a = M3 a := fun a h => by rw [h4, u_ne h, u_ne h, u_ne h, u_ne h, u_ne h]
  have e4k : ∀ k, 6 < k → M4 103 k = M 103 k := fun k h => by rw [h4, u_nk (by omega), u_nk (by omega), u_nk (by omega), u_nk (by omega), u_nk (by omega), e3 103 (by decide) (by decide) (by decide)]
  have d4 : DM D M4 := d.g (fun a h1 h2 => by rw [e4 a (by omega), e3 a (by omega) (by omega) (by omega)]) (fun k h1 h2 => e4k k (by omega))
  obtain ⟨M5, h5⟩ : ∃ M5, M5 = upd2 (upd2 M4 103 7 (nI (pplN D))) 103 8 (M 103 16) := ⟨_, rfl⟩
  have e5 : ∀ a, a ≠ 103 → M5 a = M3 a := fun a h => by rw [h5, u_ne h, u_ne h, e4 a h]
  obtain ⟨M6, f1, f2, f3, f4, f5, f6⟩ := kd_144 6 1000 0 M5 rfl (by decide) (fun j hj => by omega)
  obtain ⟨⟨⟨d1, d2, d3, d4'⟩, d5, d6⟩, d7, ⟨d8, d8'⟩, ⟨d9, d9'⟩, ⟨d10, d10'⟩, -⟩ := d
  have n4 := g.2.2.1.1
  have n10 := g.2.2.2.1.1
  have n14 := g.2.2.2.2.1.1
  have o : ∀ a, a ≠ 1 → a ≠ 3 → nT D a = D a := fun a h1 h3 => funext fun k => nT_o h3 (fun e => absurd e h1)
  have z103 : M6 103 = M5 103 := f2 103 (by decide) (by decide)
  have z104 : ∀ j, j < 125 → (j < 82 ∨ 87 < j) → M6 104 j = M 108 j := fun j hj h => by
    rw [f3 j h, e5 104 (by decide), c2 104 (by decide), b2 104 (by decide), a3 j hj]
  have z106 : ∀ j, j < 32 → M6 106 j = M 109 j := fun j hj => by
    rw [f2 106 (by decide) (by decide), e5 106 (by decide), c2 106 (by decide), b3 j hj, a2 109 (by decide)]
  have z107 : ∀ j, j < 24 → M6 107 j = M 110 j := fun j hj => by
    rw [f2 107 (by decide) (by decide), e5 107 (by decide), c3 j hj, b2 110 (by decide), a2 110 (by decide)]
  have p111 : M3 111 = M 111 := e3 111 (by decide) (by decide) (by decide)
  have p103 : M3 103 = M 103 := e3 103 (by decide) (by decide) (by decide)
  refine ⟨M6, ?_, fun a h => ?_, fun k h => ?_, f5, f6, ⟨⟨?_, ?_, ?_, ?_, ?_, ?_⟩, fun c hc => ?_, fun p hp => ?_, ?_, fun i hi => ?_, ?_, fun i hi => ?_, ?_, fun i hi => ?_⟩⟩
  · unfold f_Mod_keepDraft
    rw [show (0 : Int32) = nI 0 from rfl, a1, b1, c1, f_Mod_keepDraft_L54, if_pos (by decide)]
    rw [e_set, u_ne (show (111 : Nat) ≠ 103 by decide), e_set, u_ne (show (111 : Nat) ≠ 103 by decide), u_ne (show (111 : Nat) ≠ 103 by decide), e_set, u_ne (show (111 : Nat) ≠ 103 by decide), u_ne (show (111 : Nat) ≠ 103 by decide), u_ne (show (111 : Nat) ≠ 103 by decide), e_set, u_nk (show (15 : Nat) ≠ 5 by decide), u_nk (show (15 : Nat) ≠ 4 by decide), u_nk (show (15 : Nat) ≠ 3 by decide), u_nk (show (15 : Nat) ≠ 2 by decide), e_set, p111, p103, show ix 0 = 0 from rfl, show ix 1 = 1 from rfl, show ix 2 = 2 from rfl, show ix 3 = 3 from rfl, ← h4, m_ppl d4 g, e_bnd, e_set, u_nk (show (16 : Nat) ≠ 7 by decide), e4k 16 (by decide), e_set, ← h5]
    exact f1
  · rw [f2 a (by omega) (by omega), e5 a (by omega), e3 a (by omega) (by omega) (by omega)]
  · rw [z103, h5, u_nk (by omega), u_nk (by omega), e4k k (by omega)]
  · rw [z103, h5, u_nk (by decide), u_nk (by decide), h4, u_nk (by decide), u_nk (by decide), u_nk (by decide), u_nk (by decide), u_eq, d1, nT_o (by decide) (fun _ => by decide)]
  · rw [z103, h5, u_nk (by decide), u_nk (by decide), h4, u_nk (by decide), u_nk (by decide), u_nk (by decide), u_eq, d2, nT_o (by decide) (fun _ => by decide)]
  · rw [z103, h5, u_nk (by decide), u_nk (by decide), h4, u_nk (by decide), u_nk (by decide), u_eq, d3, nT_o (by decide) (fun _ => by decide)]
  · rw [z103, h5, u_nk (by decide), u_nk (by decide), h4, u_nk (by decide), u_eq, d4', nT_o (by decide) (fun _ => by decide)]
  · rw [z104 81 (by decide) (by decide), d5, nT_o (by decide) (fun _ => by decide)]
  · rw [z103, h5, u_nk (by decide), u_eq, nT_5]
  · rw [z104 c (by omega) (by omega), d7 c hc, o 2 (by decide) (by decide)]
  · rw [f4 p hp, nT_3]
  · rw [z103, h5, u_nk (by decide), u_nk (by decide), h4, u_eq, d8, o 4 (by decide) (by decide)]
  · rw [o 4 (by decide) (by decide)] at hi
    obtain ⟨x1, x2, x3, x4⟩ := d8' i hi
    rw [z106 _ (by omega), z106 _ (by omega), z106 _ (by omega), z106 _ (by omega), o 5 (by decide) (by decide), o 6 (by decide) (by decide), o 7 (by decide) (by decide), o 8 (by decide) (by decide), o 9 (by decide) (by decide)]
    exact ⟨x1, x2, x3, x4⟩
  · rw [z103, h5, u_eq, d9, o 10 (by decide) (by decide)]
  · rw [o 10 (by decide) (by decide)] at hi
    obtain ⟨x1, x2, x3⟩ := d9' i hi
    rw [z107 _ (by omega), z107 _ (by omega), z107 _ (by omega), o 11 (by decide) (by decide), o 12 (by decide) (by decide), o 13 (by decide) (by decide)]
    exact ⟨x1, x2, x3⟩
  · rw [z104 88 (by decide) (by decide), d10, o 14 (by decide) (by decide)]
  · rw [o 14 (by decide) (by decide)] at hi
    obtain ⟨x1, x2, x3⟩ := d10' i hi
    rw [z104 _ (by omega) (by omega), z104 _ (by omega) (by omega), z104 _ (by omega) (by omega), o 15 (by decide) (by decide), o 16 (by decide) (by decide), o 17 (by decide) (by decide)]
    exact ⟨x1, x2, x3⟩
