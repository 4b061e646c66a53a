/-! pure: sheets -/
theorem she_yes {k : Nat} (hk : k < 4) : f_She_isSheet (nI k) = some (nI 1) := by
  have := w_yes (k := k) (m := 3) (by omega) (by decide)
  simp (disch := omega) only [e_bnd, e_bnd2, e_set, e_cpy, e_nmI, e_nmL, e_ckn, e_ckB0, e_ckB1, l0, l1, l2, l3, l4, l5, l6, l7, l8, l9, l10, l11, l12, l13, l14, l15, l16, l17, l18, l19, l20, l21, l22, l24, l25, l32, l39, l40, l41, l48, l50, l56, l57, l59, l60, l72, l79, l80, l81, l82, l88, l89, l97, l100, l122, l124, l125, l160, l255, l312, l320, l375, l1000, nI_ltI, nI_leI, nI_eq, nI_add, pk_mul, e_ix, e_neg, if_true, if_false, if_pos, if_neg, f_She_isSheet, this]
theorem she_mv {M M' : Mem} {j : Nat} (h : She1 M j) (h1 : M' 101 j = M 101 j) (h2 : M' 102 j = M 102 j) (h3 : M' 119 j = M 119 j) (h4 : M' 120 j = M 120 j) (h5 : M' (97 + j) = M (97 + j)) (h6 : ∀ i, i < 40 → M' 121 (40 * j + i) = M 121 (40 * j + i)) : She1 M' j := by
  rcases h with ⟨a, b⟩ | ⟨l, n, a1, a2, a3, a4, a5, a6, a7⟩
  · exact Or.inl ⟨by rw [h1]; exact a, by rw [h3]; exact b⟩
  · exact Or.inr ⟨l, n, a1, a2, by rw [h1]; exact a3, by rw [h3]; exact a4, by rw [h2]; exact a5, by rw [h4]; exact a6, fun i hi => by rw [h5, h6 i hi]; exact a7 i hi⟩
theorem m_shL {k : Nat} (hk : k < 4) : ∀ (m n i : Nat) (M : Mem), i + m = 40 → m < n → (∀ j, j < i → M 121 (40 * k + j) = 0) → ∃ M', f_Mod_sheet_L40 n (nI k) (nI i) M = some (1, M') ∧ (∀ a j, (a ≠ 121 ∨ j < 40 * k ∨ 40 * k + 40 ≤ j) → M' a j = M a j) ∧ ∀ j, j < 40 → M' 121 (40 * k + j) = 0 := by
  intro m
  induction m with
  | zero =>
    intro n i M hi hn hf
    obtain ⟨n, rfl⟩ : ∃ z, n = z + 1 := ⟨n - 1, by omega⟩
    have e : i = 40 := by omega
    subst e
    exact ⟨M, by rw [f_Mod_sheet_L40, if_pos (by decide)], fun _ _ _ => rfl, hf⟩
  | succ m ih =>
    intro n i M hi hn hf
    obtain ⟨n, rfl⟩ : ∃ z, n = z + 1 := ⟨n - 1, by omega⟩
    obtain ⟨M', r1, r2, r3⟩ := ih n (i + 1) (upd2 M 121 (40 * k + i) 0) (by omega) (by omega) (fun j hj => by
      by_cases e : j = i
      · subst e; exact u_eq
      · rw [u_nk (by omega)]; exact hf j (by omega))
    refine ⟨M', ?_, fun a j h => ?_, r3⟩
    · rw [f_Mod_sheet_L40, if_neg (by rw [l40, nI_leI (by omega) (by omega)]; omega), l40, pk_mul, nI_add, e_ckn (by omega) (by decide), e_set, nI_1, show ix (nI (40 * k + i)) = 40 * k + i from e_ix (by omega)]
      exact r1
    · rw [r2 a j h]
      by_cases e : a = 121
      · subst e; rw [u_nk (by omega)]
      · rw [u_ne e]
/-- what of both rests below 97 is the same -/
theorem inv_hi {T : Tn} {M M' : Mem} (o : On T M) (om : OnM T M) (g : Good T) (hI : InvI T M) (hT : InvT M) (hF : InvF M) (e0 : M' 0 3 = M 0 3) (e1 : ∀ a, 1 ≤ a → a < 97 → M' a = M a) (e2 : ∀ a, 104 ≤ a → a < 119 → M' a = M a) (e3 : ∀ j, j ≠ 43 → M' 103 j = M 103 j) (hS : InvS M') : Inv M' := by
  refine ⟨T, ⟨?_, ?_, g⟩, ?_, hS, hT.mv (by rw [e1 70 (by decide) (by decide)]) (e1 71 (by decide) (by decide)) (e3 22 (by decide)) (e2 112 (by decide) (by decide)), hF.mv (by rw [e1 70 (by decide) (by decide)]) (e3 27 (by decide))⟩
  · unfold On
    rw [e1 1 (by decide) (by decide), e1 2 (by decide) (by decide), e1 3 (by decide) (by decide), e1 4 (by decide) (by decide), e1 10 (by decide) (by decide), e1 14 (by decide) (by decide)]
    refine ⟨o.1, o.2.1, o.2.2.1, o.2.2.2.1, fun a a1 a2 => ?_, o.2.2.2.2.2.1, fun a a1 a2 => ?_, o.2.2.2.2.2.2.2.1, fun a a1 a2 => ?_⟩
    · rw [e1 a (by omega) (by omega)]; exact o.2.2.2.2.1 a a1 a2
    · rw [e1 a (by omega) (by omega)]; exact o.2.2.2.2.2.2.1 a a1 a2
    · rw [e1 a (by omega) (by omega)]; exact o.2.2.2.2.2.2.2.2 a a1 a2
  · unfold OnM
    rw [e3 2 (by decide), e3 3 (by decide), e3 4 (by decide), e3 5 (by decide), e3 6 (by decide), e3 7 (by decide), e3 8 (by decide), e2 104 (by decide) (by decide), e2 106 (by decide) (by decide), e2 107 (by decide) (by decide)]
    exact om
  · obtain ⟨k0, k1, c1, c2, c3, c4, c5, c6, c7⟩ := hI
    have mv : ∀ t off K, (t = 18 ∨ t = 35) → Img t off T K M → Img t off T K M' := fun t off K h1 h2 => h2.mv (fun a ha => e1 a (by omega) (by omega)) (fun j hj => by rw [e2 104 (by decide) (by decide)])
    refine ⟨k0, k1, c1, c2, by rw [e0]; exact c3, by rw [e2 105 (by decide) (by decide)]; exact c4, by rw [e2 105 (by decide) (by decide)]; exact c5, fun e => ?_, fun e => ?_⟩
    · obtain ⟨K, hK⟩ := c6 e
      exact ⟨K, mv 18 125 K (Or.inl rfl) hK⟩
    · obtain ⟨K, hK⟩ := c7 e
      exact ⟨K, mv 35 250 K (Or.inr rfl) hK⟩
theorem s_sheet (x y z : Int32) : Sim (f_Hal_sheet x y z) (f_Mod_sheet x y z) := by
  intro M ⟨T, hA, hI, hS, hT, hF⟩
  obtain ⟨o, om, g⟩ := id hA
  have ea : f_Mod_in x.toInt64 0 3 = f_Mod_in x.toInt64 0 (nI 3).toInt64 := rfl
  have eb : f_Mod_in y.toInt64 0 2 = f_Mod_in y.toInt64 0 (nI 2).toInt64 := rfl
  rcases wi x (m := 3) (by decide) with ⟨k, hk, rfl, f1, f2⟩ | ⟨f1, f2, -⟩
  · rcases wi y (m := 2) (by decide) with ⟨l, hl, rfl, h1, h2⟩ | ⟨h1, h2, -⟩
    · by_cases z40 : z ≤ 40
      · by_cases z0 : 0 ≤ z
        · obtain ⟨n, hn, rfl⟩ := nI_rng (m := 40) (by decide) z0 z40
          obtain ⟨Ma, p1, p2, p3⟩ := fill_ok (M := M) (a := 97 + k) (n := 40) (x := 0) (by decide)
          obtain ⟨M1, hM1⟩ : ∃ w, w = upd2 (upd2 Ma 101 k (nI l)) 102 k (nI n) := ⟨_, rfl⟩
          obtain ⟨M2, q1, q2, q3⟩ := m_shL (show k < 4 by omega) 40 1000 0 (upd2 (upd2 M1 119 k (nI l)) 120 k (nI n)) rfl (by decide) (fun j hj => by omega)
          have m1 : ∀ a, a ≠ 97 + k → a ≠ 101 → a ≠ 102 → M1 a = M a := fun a x1 x2 x3 => by rw [hM1, u_ne x3, u_ne x2, p2 a (by omega)]
          have m2 : ∀ a, a ≠ 119 → a ≠ 120 → a ≠ 121 → M2 a = M1 a := fun a x1 x2 x3 => funext fun j => by rw [q2 a j (Or.inl x3), u_ne x2, u_ne x1]
          refine ⟨1, M1, M2, ?_, ?_, inv_hi o om g hI hT hF ?_ (fun a a1 a2 => ?_) (fun a a1 a2 => ?_) (fun j hj => ?_) ⟨fun j hj => ?_, ?_⟩⟩
          · have w40 := w_yes (k := n) (m := 40) hn (by decide)
            unfold f_Hal_sheet f_She_renew
            rw [show (0 : Int32) = nI 0 from rfl, show (3 : Int32) = nI 3 from rfl, show (2 : Int32) = nI 2 from rfl, f1, e_bnd, if_neg (by decide), h1, e_bnd, if_neg (by decide), if_pos z40, if_pos (show nI 0 ≤ nI n from z0), she_yes (by omega), e_bnd, if_neg (by decide), show (40 : Int32) = nI 40 from rfl, w40, e_bnd, if_neg (by decide), e_ckn (by omega) (by decide), show ix (nI k) = k from e_ix (by omega), show nI 0 = 0 from rfl, p1, e_bnd, e_ckn (by omega) (by decide), e_set, e_ckn (by omega) (by decide), e_set, e_bnd, hM1]
          · unfold f_Mod_sheet f_Mod_isSheet
            rw [ea, f2, e_bnd, if_neg (by decide), eb, h2, e_bnd, if_neg (by decide), e_bnd, if_neg (by decide), if_pos z40, if_pos z0, e_ckn (by omega) (by decide), show ix (nI k) = k from e_ix (by omega), e_set, e_ckn (by omega) (by decide), e_set]
            exact q1
          · rw [m2 0 (by decide) (by decide) (by decide), m1 0 (by omega) (by decide) (by decide)]
          · rw [m2 a (by omega) (by omega) (by omega), m1 a (by omega) (by omega) (by omega)]
          · rw [m2 a (by omega) (by omega) (by omega), m1 a (by omega) (by omega) (by omega)]
          · rw [m2 103 (by decide) (by decide) (by decide), m1 103 (by omega) (by decide) (by decide)]
          · by_cases e : j = k
            · subst e
              refine Or.inr ⟨l, n, hl, hn, ?_, ?_, ?_, ?_, fun i hi => ?_⟩
              · rw [m2 101 (by decide) (by decide) (by decide), hM1, u_ne (by decide), u_eq]
              · rw [q2 119 j (Or.inl (by decide)), u_ne (by decide), u_eq]
              · rw [m2 102 (by decide) (by decide) (by decide), hM1, u_eq]
              · rw [q2 120 j (Or.inl (by decide)), u_eq]
              · rw [q3 i hi, m2 (97 + j) (by omega) (by omega) (by omega), hM1, u_ne (by omega), u_ne (by omega), p3 i hi]
            · refine she_mv (hS.1 j hj) ?_ ?_ ?_ ?_ ?_ (fun i hi => ?_)
              · rw [m2 101 (by decide) (by decide) (by decide), hM1, u_ne (by decide), u_nk e, p2 101 (by omega)]
              · rw [m2 102 (by decide) (by decide) (by decide), hM1, u_nk e, u_ne (by decide), p2 102 (by omega)]
              · rw [q2 119 j (Or.inl (by decide)), u_ne (by decide), u_nk e, m1 119 (by omega) (by decide) (by decide)]
              · rw [q2 120 j (Or.inl (by decide)), u_nk e, u_ne (by decide), m1 120 (by omega) (by decide) (by decide)]
              · rw [m2 (97 + j) (by omega) (by omega) (by omega), m1 (97 + j) (by omega) (by omega) (by omega)]
              · rw [q2 121 _ (by omega), u_ne (by decide), u_ne (by decide), m1 121 (by omega) (by decide) (by decide)]
          · rw [m2 0 (by decide) (by decide) (by decide), m1 0 (by omega) (by decide) (by decide), m2 103 (by decide) (by decide) (by decide), m1 103 (by omega) (by decide) (by decide)]
            exact hS.2
        · refine ⟨-14, M, M, ?_, ?_, ⟨T, hA, hI, hS, hT, hF⟩⟩
          · unfold f_Hal_sheet
            rw [show f_Hal_within (nI k) 0 3 = some (nI 1) from f1, e_bnd, if_neg (by decide), show f_Hal_within (nI l) 0 2 = some (nI 1) from h1, e_bnd, if_neg (by decide), if_pos z40, if_neg z0]
          · unfold f_Mod_sheet f_Mod_isSheet
            rw [ea, f2, e_bnd, if_neg (by decide), eb, h2, e_bnd, if_neg (by decide), e_bnd, if_neg (by decide), if_pos z40, if_neg z0]
      · refine ⟨-1, M, M, ?_, ?_, ⟨T, hA, hI, hS, hT, hF⟩⟩
        · unfold f_Hal_sheet
          rw [show f_Hal_within (nI k) 0 3 = some (nI 1) from f1, e_bnd, if_neg (by decide), show f_Hal_within (nI l) 0 2 = some (nI 1) from h1, e_bnd, if_neg (by decide), if_neg z40]
        · unfold f_Mod_sheet f_Mod_isSheet
          rw [ea, f2, e_bnd, if_neg (by decide), eb, h2, e_bnd, if_neg (by decide), e_bnd, if_neg (by decide), if_neg z40]
    · refine ⟨-1, M, M, ?_, ?_, ⟨T, hA, hI, hS, hT, hF⟩⟩
      · unfold f_Hal_sheet
        rw [show f_Hal_within (nI k) 0 3 = some (nI 1) from f1, e_bnd, if_neg (by decide), show f_Hal_within y 0 2 = some (nI 0) from h1, e_bnd, if_pos (by rfl)]
      · unfold f_Mod_sheet f_Mod_isSheet
        rw [ea, f2, e_bnd, if_neg (by decide), eb, h2, e_bnd, if_pos (by rfl), e_bnd, if_pos (by rfl)]
  · refine ⟨-1, M, M, ?_, ?_, ⟨T, hA, hI, hS, hT, hF⟩⟩
    · unfold f_Hal_sheet
      rw [show f_Hal_within x 0 3 = some (nI 0) from f1, e_bnd, if_pos (by rfl)]
    · unfold f_Mod_sheet f_Mod_isSheet
      rw [ea, f2, e_bnd, if_pos (by rfl), e_bnd, if_pos (by rfl)]
/-- a cell of a sheet: may it be used -/
theorem c_fcn {M : Mem} {k : Nat} (hk : k < 4) (h : M 101 k = -1) (i c : Int32) : f_She_faultOfCells M (nI k) i c = some (nI 1) := by
  unfold f_She_faultOfCells
  rw [she_yes hk, e_bnd, if_neg (by decide), e_ckn hk (by decide), show ix (nI k) = k from e_ix (by omega), h, if_pos rfl]
  rfl
theorem c_fco {M : Mem} {k l n : Nat} (hk : k < 4) (hl : l ≤ 2) (h : M 101 k = nI l) (h2 : M 102 k = nI n) (i c : Int32) : f_She_faultOfCells M (nI k) i c = some (if 0 ≤ i ∧ i ≤ nI n - c then nI 0 else nI 2) := by
  unfold f_She_faultOfCells
  rw [she_yes hk, e_bnd, if_neg (by decide), e_ckn hk (by decide), show ix (nI k) = k from e_ix (by omega), h, if_neg (by rw [l1, e_neg (by omega) (by omega) (by omega)]; exact id), e_ckn hk (by decide), h2, w_in, e_bnd]
  by_cases q : 0 ≤ i ∧ i ≤ nI n - c
  · rw [if_pos q, if_pos q, if_neg (by decide)]; rfl
  · rw [if_neg q, if_neg q, if_pos (by rfl)]; rfl
theorem c_sub {n c : Nat} (hn : n ≤ 1000) (hc : c ≤ 1000) : nI n - nI c = J ((n : Int) - c) := by
  rw [J_nI, J_nI, J_sub]
theorem s_lay (x y z : Int32) : Sim (f_Hal_lay x y z) (f_Mod_lay x y z) := by
  intro M ⟨T, hA, hI, hS, hT, hF⟩
  obtain ⟨o, om, g⟩ := id hA
  have ea : f_Mod_in x.toInt64 0 3 = f_Mod_in x.toInt64 0 (nI 3).toInt64 := rfl
  have e02 : f_Mod_in (0 : Int32).toInt64 0 2 = some 1 := by decide +kernel
  rcases wi x (m := 3) (by decide) with ⟨k, hk, rfl, f1, f2⟩ | ⟨f1, f2, -⟩
  · have hk4 : k < 4 := by omega
    rcases id (hS.1 k hk4) with ⟨n1, n2⟩ | ⟨l, n, hl, hn, a3, a4, a5, a6, a7⟩
    · refine ⟨-11, M, M, ?_, ?_, ⟨T, hA, hI, hS, hT, hF⟩⟩
      · unfold f_Hal_lay
        rw [show f_Hal_within (nI k) 0 3 = some (nI 1) from f1, e_bnd, if_neg (by decide), c_fcn hk4 n1, e_bnd, if_neg (by decide)]
        rfl
      · unfold f_Mod_lay f_Mod_isSheet
        rw [ea, f2, e_bnd, if_neg (by decide), e02, e_bnd, if_neg (by decide), e_bnd, if_neg (by decide), e_ckn hk4 (by decide), show ix (nI k) = k from e_ix (by omega), n2, if_pos rfl]
    · have ein : f_Mod_in y.toInt64 0 ((nI n - 1).toInt64) = some (if 0 ≤ y ∧ y ≤ nI n - 1 then nI 1 else nI 0) := m_in0 y rfl rfl
      by_cases q : 0 ≤ y ∧ y ≤ nI n - 1
      · obtain ⟨i, hi, rfl⟩ := nI_rng1 (by omega) q.1 q.2
        -- the value as the lane has it
        obtain ⟨v, hv⟩ : ∃ v : Int32, v = (if l = 0 then z.toInt8.toInt32 else if l = 1 then z.toInt16.toInt32 else z) := ⟨_, rfl⟩
        obtain ⟨M1, hM1⟩ : ∃ w, w = upd2 M (97 + k) i v := ⟨_, rfl⟩
        obtain ⟨M2, hM2⟩ : ∃ w, w = upd2 M1 121 (40 * k + i) v := ⟨_, rfl⟩
        have m1 : ∀ a, a ≠ 97 + k → M1 a = M a := fun a h => by rw [hM1, u_ne h]
        have m2 : ∀ a, a ≠ 97 + k → a ≠ 121 → M2 a = M a := fun a h h2 => by rw [hM2, u_ne h2, m1 a h]
        refine ⟨1, M1, M2, ?_, ?_, inv_hi o om g hI hT hF ?_ (fun a b1 b2 => ?_) (fun a b1 b2 => ?_) (fun j hj => ?_) ⟨fun j hj => ?_, ?_⟩⟩
        · unfold f_Hal_lay f_She_put
          rw [show f_Hal_within (nI k) 0 3 = some (nI 1) from f1, e_bnd, if_neg (by decide), c_fco hk4 hl a3 a5, if_pos q, e_bnd, if_pos (by rfl), e_bnd, if_pos (by rfl), if_pos (by rw [l40, nI_ltI (by omega) (by omega)]; omega), e_ckn hk4 (by decide), show ix (nI k) = k from e_ix (by omega), a3, show ix (nI i) = i from e_ix (by omega)]
          rcases (show l = 0 ∨ l = 1 ∨ l = 2 by omega) with rfl | rfl | rfl
          · rw [if_pos (by rfl), e_ckn hk4 (by decide), e_ckn (by omega) (by decide), e_set, e_bnd, hM1, hv]; rfl
          · rw [if_neg (by decide), if_pos (by rfl), e_ckn hk4 (by decide), e_ckn (by omega) (by decide), e_set, e_bnd, hM1, hv]; rfl
          · rw [if_neg (by decide), if_neg (by decide), e_ckn hk4 (by decide), e_ckn (by omega) (by decide), e_set, e_bnd, hM1, hv]; rfl
        · have q2 : M1 119 k = nI l := by rw [m1 119 (by omega)]; exact a4
          have q3 : M1 120 k = nI n := by rw [m1 120 (by omega)]; exact a6
          unfold f_Mod_lay f_Mod_isSheet f_Mod_lay_J85
          rw [ea, f2, e_bnd, if_neg (by decide), e02, e_bnd, if_neg (by decide), e_bnd, if_neg (by decide), e_ckn hk4 (by decide), show ix (nI k) = k from e_ix (by omega), q2, if_neg (by rw [l4, e_neg (by omega) (by omega) (by omega)]; exact id), e_ckn hk4 (by decide), q3, ein, if_pos q, e_bnd, if_neg (by decide), e_ckn hk4 (by decide), l40, pk_mul, nI_add, show ix (nI (40 * k + i)) = 40 * k + i from e_ix (by omega)]
          rcases (show l = 0 ∨ l = 1 ∨ l = 2 by omega) with rfl | rfl | rfl
          · rw [if_pos (by rfl), e_ckn (by omega) (by decide), e_set, hM2, hv]; rfl
          · rw [if_neg (by decide), e_ckn hk4 (by decide), if_pos (by rfl), e_ckn (by omega) (by decide), e_set, hM2, hv]; rfl
          · rw [if_neg (by decide), e_ckn hk4 (by decide), if_neg (by decide), e_ckn (by omega) (by decide), e_set, hM2, hv]; rfl
        · rw [m2 0 (by omega) (by decide)]
        · rw [m2 a (by omega) (by omega)]
        · rw [m2 a (by omega) (by omega)]
        · rw [m2 103 (by omega) (by decide)]
        · by_cases e : j = k
          · subst e
            refine Or.inr ⟨l, n, hl, hn, ?_, ?_, ?_, ?_, fun i' hi' => ?_⟩
            · rw [m2 101 (by omega) (by decide)]; exact a3
            · rw [m2 119 (by omega) (by decide)]; exact a4
            · rw [m2 102 (by omega) (by decide)]; exact a5
            · rw [m2 120 (by omega) (by decide)]; exact a6
            · by_cases t : i' = i
              · subst t
                rw [hM2, u_eq, u_ne (by omega), hM1, u_eq]
              · rw [hM2, u_nk (by omega), u_ne (by omega), hM1, u_nk t, u_ne (by omega)]
                exact a7 i' hi'
          · refine she_mv (hS.1 j hj) ?_ ?_ ?_ ?_ ?_ (fun i' hi' => ?_)
            · rw [m2 101 (by omega) (by decide)]
            · rw [m2 102 (by omega) (by decide)]
            · rw [m2 119 (by omega) (by decide)]
            · rw [m2 120 (by omega) (by decide)]
            · rw [m2 (97 + j) (by omega) (by omega)]
            · rw [hM2, u_nk (by omega), m1 121 (by omega)]
        · rw [m2 0 (by omega) (by decide), m2 103 (by omega) (by decide)]
          exact hS.2
      · refine ⟨-12, M, M, ?_, ?_, ⟨T, hA, hI, hS, hT, hF⟩⟩
        · unfold f_Hal_lay
          rw [show f_Hal_within (nI k) 0 3 = some (nI 1) from f1, e_bnd, if_neg (by decide), c_fco hk4 hl a3 a5, if_neg q, e_bnd, if_neg (by decide)]
          rfl
        · unfold f_Mod_lay f_Mod_isSheet
          rw [ea, f2, e_bnd, if_neg (by decide), e02, e_bnd, if_neg (by decide), e_bnd, if_neg (by decide), e_ckn hk4 (by decide), show ix (nI k) = k from e_ix (by omega), a4, if_neg (by rw [l4, e_neg (by omega) (by omega) (by omega)]; exact id), e_ckn hk4 (by decide), a6, ein, if_neg q, e_bnd, if_pos (by rfl)]
  · refine ⟨-1, M, M, ?_, ?_, ⟨T, hA, hI, hS, hT, hF⟩⟩
    · unfold f_Hal_lay
      rw [show f_Hal_within x 0 3 = some (nI 0) from f1, e_bnd, if_pos (by rfl)]
    · unfold f_Mod_lay f_Mod_isSheet
      rw [ea, f2, e_bnd, if_pos (by rfl), e_bnd, if_pos (by rfl)]
