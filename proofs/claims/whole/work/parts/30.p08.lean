/-! pure: calls that ask, one by one -/
def Sim (f m : Mem → Option (Int32 × Mem)) : Prop := ∀ M, Inv M → ∃ v M1 M2, f M = some (v, M1) ∧ m M1 = some (v, M2) ∧ Inv M2
def SimR (f m : Mem → Option Int32) : Prop := ∀ M, Inv M → ∃ v, f M = some v ∧ m M = some v
theorem ix_81 : Int32.toNatClampNeg 81 = 81 := rfl
theorem ix_88 : Int32.toNatClampNeg 88 = 88 := rfl
theorem ix_0 : Int32.toNatClampNeg 0 = 0 := rfl
theorem ix_1 : Int32.toNatClampNeg 1 = 1 := rfl
theorem s_fault : SimR f_Hal_fault f_Mod_fault := fun M ⟨T, hA, hI, hS, hT, hF⟩ => ⟨M 70 4, rfl, by unfold f_Mod_fault; rw [← hF]⟩
theorem s_torn : SimR f_Hal_torn f_Mod_torn := fun M ⟨T, hA, hI, hS, hT, hF⟩ => ⟨M 0 9, rfl, by unfold f_Mod_torn; rw [← hS.2]⟩
theorem s_rule (x : Int32) : SimR (fun M => f_Hal_rule M x) (fun M => f_Mod_rule M x) := by
  intro M ⟨T, ⟨o, om, g⟩, hI, hS, hT, hF⟩
  dsimp only
  unfold f_Hal_rule f_Mod_rule
  rw [o.s0, o.s1, o.s2, o.s3, o.s4, om.s0, om.s1, om.s2, om.s3, show M 104 (ix 81) = nI (T 1 4) from om.s4]
  repeat' split
  all_goals exact ⟨_, rfl, rfl⟩
theorem s_cell (x : Int32) : SimR (fun M => f_Hal_cell M x) (fun M => f_Mod_cell M x) := by
  intro M ⟨T, ⟨o, om, g⟩, hI, hS, hT, hF⟩
  dsimp only
  rcases a_cell g x with ⟨c, hc, rfl, e1, e2⟩ | ⟨e1, e2⟩
  · have hc1 := hc.1
    refine ⟨nI (T 2 c), ?_, ?_⟩
    · simp (disch := omega) only [e_bnd, e_bnd2, e_set, e_cpy, e_nmI, e_nmL, e_ckn, e_ckB0, e_ckB1, l0, l1, l2, l3, l4, l5, l6, l7, l8, l9, l10, l11, l12, l13, l14, l15, l16, l17, l18, l19, l20, l21, l22, l24, l25, l32, l39, l40, l41, l48, l50, l56, l57, l59, l60, l72, l79, l80, l81, l82, l88, l89, l97, l100, l122, l124, l125, l160, l255, l312, l320, l375, l1000, nI_ltI, nI_leI, nI_eq, nI_add, pk_mul, e_ix, e_neg, if_true, if_false, if_pos, if_neg, f_Hal_cell, e1 M o, c_state o hc1]
    · simp (disch := omega) only [e_bnd, e_bnd2, e_set, e_cpy, e_nmI, e_nmL, e_ckn, e_ckB0, e_ckB1, l0, l1, l2, l3, l4, l5, l6, l7, l8, l9, l10, l11, l12, l13, l14, l15, l16, l17, l18, l19, l20, l21, l22, l24, l25, l32, l39, l40, l41, l48, l50, l56, l57, l59, l60, l72, l79, l80, l81, l82, l88, l89, l97, l100, l122, l124, l125, l160, l255, l312, l320, l375, l1000, nI_ltI, nI_leI, nI_eq, nI_add, pk_mul, e_ix, e_neg, if_true, if_false, if_pos, if_neg, f_Mod_cell, e2 M om, om.c hc1]
  · refine ⟨-1, ?_, ?_⟩
    · simp (disch := omega) only [e_bnd, e_bnd2, e_set, e_cpy, e_nmI, e_nmL, e_ckn, e_ckB0, e_ckB1, l0, l1, l2, l3, l4, l5, l6, l7, l8, l9, l10, l11, l12, l13, l14, l15, l16, l17, l18, l19, l20, l21, l22, l24, l25, l32, l39, l40, l41, l48, l50, l56, l57, l59, l60, l72, l79, l80, l81, l82, l88, l89, l97, l100, l122, l124, l125, l160, l255, l312, l320, l375, l1000, nI_ltI, nI_leI, nI_eq, nI_add, pk_mul, e_ix, e_neg, if_true, if_false, if_pos, if_neg, f_Hal_cell, e1 M o]
    · simp (disch := omega) only [e_bnd, e_bnd2, e_set, e_cpy, e_nmI, e_nmL, e_ckn, e_ckB0, e_ckB1, l0, l1, l2, l3, l4, l5, l6, l7, l8, l9, l10, l11, l12, l13, l14, l15, l16, l17, l18, l19, l20, l21, l22, l24, l25, l32, l39, l40, l41, l48, l50, l56, l57, l59, l60, l72, l79, l80, l81, l82, l88, l89, l97, l100, l122, l124, l125, l160, l255, l312, l320, l375, l1000, nI_ltI, nI_leI, nI_eq, nI_add, pk_mul, e_ix, e_neg, if_true, if_false, if_pos, if_neg, f_Mod_cell, e2 M om]
/-- who sits there -/
theorem sitL (T : Tn) (M : Mem) (o : On T M) (g : Good T) {b : Nat} (hb : b < T 4 0) : ∀ (m n k : Nat), k + m = T 1 5 → m < n → (∀ p, p < k → T 3 p ≠ b) → (∃ p, p < T 1 5 ∧ T 3 p = b ∧ f_Tol_sitterOn_L2 1 M n (nI b) (nI k) = some (nI p)) ∨ ((∀ p, p < T 1 5 → T 3 p ≠ b) ∧ f_Tol_sitterOn_L2 1 M n (nI b) (nI k) = some (-4)) := by
  have h9 := g.n
  intro m
  induction m with
  | zero =>
    intro n k hk hn hf
    obtain ⟨n, rfl⟩ : ∃ z, n = z + 1 := ⟨n - 1, by omega⟩
    refine Or.inr ⟨fun p hp => hf p (by omega), ?_⟩
    rw [f_Tol_sitterOn_L2]
    simp (disch := omega) only [e_bnd, e_bnd2, e_set, e_cpy, e_nmI, e_nmL, e_ckn, e_ckB0, e_ckB1, l0, l1, l2, l3, l4, l5, l6, l7, l8, l9, l10, l11, l12, l13, l14, l15, l16, l17, l18, l19, l20, l21, l22, l24, l25, l32, l39, l40, l41, l48, l50, l56, l57, l59, l60, l72, l79, l80, l81, l82, l88, l89, l97, l100, l122, l124, l125, l160, l255, l312, l320, l375, l1000, nI_ltI, nI_leI, nI_eq, nI_add, pk_mul, e_ix, e_neg, if_true, if_false, if_pos, if_neg, o.s5]
  | succ m ih =>
    intro n k hk hn hf
    obtain ⟨n, rfl⟩ : ∃ z, n = z + 1 := ⟨n - 1, by omega⟩
    have hp := g.p (show k < T 1 5 by omega)
    rw [f_Tol_sitterOn_L2]
    by_cases e : T 3 k = b
    · refine Or.inl ⟨k, by omega, e, ?_⟩
      simp (disch := omega) only [e_bnd, e_bnd2, e_set, e_cpy, e_nmI, e_nmL, e_ckn, e_ckB0, e_ckB1, l0, l1, l2, l3, l4, l5, l6, l7, l8, l9, l10, l11, l12, l13, l14, l15, l16, l17, l18, l19, l20, l21, l22, l24, l25, l32, l39, l40, l41, l48, l50, l56, l57, l59, l60, l72, l79, l80, l81, l82, l88, l89, l97, l100, l122, l124, l125, l160, l255, l312, l320, l375, l1000, nI_ltI, nI_leI, nI_eq, nI_add, pk_mul, e_ix, e_neg, if_true, if_false, if_pos, if_neg, o.s5, c_seat o g (show k < T 1 5 by omega)]
    · simp (disch := omega) only [e_bnd, e_bnd2, e_set, e_cpy, e_nmI, e_nmL, e_ckn, e_ckB0, e_ckB1, l0, l1, l2, l3, l4, l5, l6, l7, l8, l9, l10, l11, l12, l13, l14, l15, l16, l17, l18, l19, l20, l21, l22, l24, l25, l32, l39, l40, l41, l48, l50, l56, l57, l59, l60, l72, l79, l80, l81, l82, l88, l89, l97, l100, l122, l124, l125, l160, l255, l312, l320, l375, l1000, nI_ltI, nI_leI, nI_eq, nI_add, pk_mul, e_ix, e_neg, if_true, if_false, if_pos, if_neg, o.s5, c_seat o g (show k < T 1 5 by omega)]
      exact ih n (k + 1) (by omega) (by omega) (fun p hp => by
        by_cases q : p = k
        · subst q; exact e
        · exact hf p (by omega))
theorem c_sitter (T : Tn) (M : Mem) (o : On T M) (g : Good T) {b : Nat} (hb : b < T 4 0) : (∃ p, p < T 1 5 ∧ T 3 p = b ∧ f_Tol_sitterOn 1 M (nI b) = some (nI p)) ∨ ((∀ p, p < T 1 5 → T 3 p ≠ b) ∧ f_Tol_sitterOn 1 M (nI b) = some (-4)) := by
  have h9 := g.n
  exact sitL T M o g hb (T 1 5) 1000 0 (by omega) (by omega) (fun p hp => by omega)
theorem whoL (T : Tn) (M : Mem) (o : OnM T M) (g : Good T) {b : Nat} (hb : b < T 4 0) {w : Int32} (hw : (∃ p, p < T 1 5 ∧ T 3 p = b ∧ w = nI p) ∨ ((∀ p, p < T 1 5 → T 3 p ≠ b) ∧ w = -4)) : ∀ (m n k : Nat) (x : Int32), k + m = T 1 5 → m < n → (∀ p, p < T 1 5 → T 3 p = b → p < k → x = nI p) → ((∀ p, p < T 1 5 → T 3 p = b → k ≤ p) → x = -4) → f_Mod_whoOn_L5 M n (nI b) x (nI k) = some w := by
  have h9 := g.n
  intro m
  induction m with
  | zero =>
    intro n k x hk hn h1 h2
    obtain ⟨n, rfl⟩ : ∃ z, n = z + 1 := ⟨n - 1, by omega⟩
    rw [f_Mod_whoOn_L5, o.s5, if_pos (by rw [nI_leI (by omega) (by omega)]; omega)]
    rcases hw with ⟨p, hp, e, rfl⟩ | ⟨h, rfl⟩
    · rw [h1 p hp e (by omega)]
    · rw [h2 (fun p hp e => absurd e (h p hp))]
  | succ m ih =>
    intro n k x hk hn h1 h2
    obtain ⟨n, rfl⟩ : ∃ z, n = z + 1 := ⟨n - 1, by omega⟩
    have hkp : k < T 1 5 := by omega
    have hp := g.p hkp
    rw [f_Mod_whoOn_L5, o.s5, if_neg (by rw [nI_leI (by omega) (by omega)]; omega), l82, nI_add, e_ckn (by omega) (by decide), show ix (nI (82 + k)) = 82 + k from e_ix (by omega), o.p (show k < 6 by omega), nI_1]
    by_cases e : T 3 k = b
    · rw [if_pos (by rw [e])]
      refine ih n (k + 1) _ (by omega) (by omega) (fun p hp2 e2 h3 => ?_) (fun h3 => absurd (h3 k hkp e) (by omega))
      rw [g.pi hp2 hkp (e2.trans e.symm)]
    · rw [if_neg (by rw [nI_eq (by omega) (by omega)]; exact e)]
      refine ih n (k + 1) x (by omega) (by omega) (fun p hp2 e2 h3 => ?_) (fun h3 => h2 (fun p hp2 e2 => ?_))
      · by_cases q : p = k
        · subst q; exact absurd e2 e
        · exact h1 p hp2 e2 (by omega)
      · have := h3 p hp2 e2
        omega
theorem m_who (T : Tn) (M : Mem) (o : OnM T M) (g : Good T) {b : Nat} (hb : b < T 4 0) {w : Int32} (hw : (∃ p, p < T 1 5 ∧ T 3 p = b ∧ w = nI p) ∨ ((∀ p, p < T 1 5 → T 3 p ≠ b) ∧ w = -4)) : f_Mod_whoOn M (nI b) = some w := by
  have h9 := g.n
  exact whoL T M o g hb hw (T 1 5) 1000 0 (-4) (by omega) (by omega) (fun p _ _ h => by omega) (fun _ => rfl)
theorem sitw {T : Tn} {M : Mem} {b : Nat} (o : On T M) (g : Good T) (hb : b < T 4 0) : ∃ w, f_Tol_sitterOn 1 M (nI b) = some w ∧ ((∃ p, p < T 1 5 ∧ T 3 p = b ∧ w = nI p) ∨ ((∀ p, p < T 1 5 → T 3 p ≠ b) ∧ w = -4)) := by
  rcases c_sitter T M o g hb with ⟨p, h1, h2, h3⟩ | ⟨h1, h2⟩
  · exact ⟨_, h3, Or.inl ⟨p, h1, h2, rfl⟩⟩
  · exact ⟨_, h2, Or.inr ⟨h1, rfl⟩⟩
theorem s_bench (x y z : Int32) : SimR (fun M => f_Hal_bench M x y z) (fun M => f_Mod_bench M x y z) := by
  intro M ⟨T, ⟨o, om, g⟩, hI, hS, hT, hF⟩
  dsimp only
  rcases a_bench g x with ⟨b, hb, rfl, e1, e2⟩ | ⟨e1, e2⟩
  · rcases a_hour y with ⟨h, hh, rfl, e3, e4⟩ | ⟨e3, e4⟩
    · obtain ⟨w, hw1, hw2⟩ := sitw o g hb
      have hw3 := m_who T M om g hb hw2
      unfold f_Hal_bench f_Mod_bench
      rw [e1 M o, e2 M om, e3, e4, c_cell o g hb hh, m_cell om g hb hh, c_fac o g hb hh, m_fac om g hb hh, c_ear o g hb, m_ear om g hb, c_kind o g hb, m_kind om g hb, hw1, hw3]
      simp only [e_bnd, show (nI 1 = (0 : Int32)) = False from by decide, if_false]
      repeat' split
      all_goals exact ⟨_, rfl, rfl⟩
    · refine ⟨-1, ?_, ?_⟩
      · simp (disch := omega) only [e_bnd, e_bnd2, e_set, e_cpy, e_nmI, e_nmL, e_ckn, e_ckB0, e_ckB1, l0, l1, l2, l3, l4, l5, l6, l7, l8, l9, l10, l11, l12, l13, l14, l15, l16, l17, l18, l19, l20, l21, l22, l24, l25, l32, l39, l40, l41, l48, l50, l56, l57, l59, l60, l72, l79, l80, l81, l82, l88, l89, l97, l100, l122, l124, l125, l160, l255, l312, l320, l375, l1000, nI_ltI, nI_leI, nI_eq, nI_add, pk_mul, e_ix, e_neg, if_true, if_false, if_pos, if_neg, f_Hal_bench, e1 M o, e3]
      · simp (disch := omega) only [e_bnd, e_bnd2, e_set, e_cpy, e_nmI, e_nmL, e_ckn, e_ckB0, e_ckB1, l0, l1, l2, l3, l4, l5, l6, l7, l8, l9, l10, l11, l12, l13, l14, l15, l16, l17, l18, l19, l20, l21, l22, l24, l25, l32, l39, l40, l41, l48, l50, l56, l57, l59, l60, l72, l79, l80, l81, l82, l88, l89, l97, l100, l122, l124, l125, l160, l255, l312, l320, l375, l1000, nI_ltI, nI_leI, nI_eq, nI_add, pk_mul, e_ix, e_neg, if_true, if_false, if_pos, if_neg, f_Mod_bench, e2 M om, e4]
  · refine ⟨-1, ?_, ?_⟩
    · simp (disch := omega) only [e_bnd, e_bnd2, e_set, e_cpy, e_nmI, e_nmL, e_ckn, e_ckB0, e_ckB1, l0, l1, l2, l3, l4, l5, l6, l7, l8, l9, l10, l11, l12, l13, l14, l15, l16, l17, l18, l19, l20, l21, l22, l24, l25, l32, l39, l40, l41, l48, l50, l56, l57, l59, l60, l72, l79, l80, l81, l82, l88, l89, l97, l100, l122, l124, l125, l160, l255, l312, l320, l375, l1000, nI_ltI, nI_leI, nI_eq, nI_add, pk_mul, e_ix, e_neg, if_true, if_false, if_pos, if_neg, f_Hal_bench, e1 M o]
    · simp (disch := omega) only [e_bnd, e_bnd2, e_set, e_cpy, e_nmI, e_nmL, e_ckn, e_ckB0, e_ckB1, l0, l1, l2, l3, l4, l5, l6, l7, l8, l9, l10, l11, l12, l13, l14, l15, l16, l17, l18, l19, l20, l21, l22, l24, l25, l32, l39, l40, l41, l48, l50, l56, l57, l59, l60, l72, l79, l80, l81, l82, l88, l89, l97, l100, l122, l124, l125, l160, l255, l312, l320, l375, l1000, nI_ltI, nI_leI, nI_eq, nI_add, pk_mul, e_ix, e_neg, if_true, if_false, if_pos, if_neg, f_Mod_bench, e2 M om]
theorem s_want (x y : Int32) : SimR (fun M => f_Hal_want M x y) (fun M => f_Mod_want M x y) := by
  intro M ⟨T, ⟨o, om, g⟩, hI, hS, hT, hF⟩
  have h9 := g.nw
  have e2 : f_Mod_in y.toInt64 0 2 = f_Mod_in y.toInt64 0 (nI 2).toInt64 := rfl
  dsimp only
  rcases wi1 x (m := T 10 0) (by omega) with ⟨i, hi, rfl, -, h2⟩ | ⟨h1, h2⟩
  · obtain ⟨c1, c2, c3⟩ := c_want o g hi
    rcases wi y (m := 2) (by decide) with ⟨k, hk, rfl, -, h4⟩ | ⟨-, h4, h5⟩
    · rcases (show k = 0 ∨ k = 1 ∨ k = 2 by omega) with rfl | rfl | rfl
      · refine ⟨nI (T 11 i), ?_, ?_⟩
        · unfold f_Hal_want
          rw [show (nI 0) = 0 from rfl, c1, e_bnd]
        · simp (disch := omega) only [e_bnd, e_bnd2, e_set, e_cpy, e_nmI, e_nmL, e_ckn, e_ckB0, e_ckB1, l0, l1, l2, l3, l4, l5, l6, l7, l8, l9, l10, l11, l12, l13, l14, l15, l16, l17, l18, l19, l20, l21, l22, l24, l25, l32, l39, l40, l41, l48, l50, l56, l57, l59, l60, l72, l79, l80, l81, l82, l88, l89, l97, l100, l122, l124, l125, l160, l255, l312, l320, l375, l1000, nI_ltI, nI_leI, nI_eq, nI_add, pk_mul, e_ix, e_neg, if_true, if_false, if_pos, if_neg, f_Mod_want, om.nw, h2, e2, h4, om.w0 hi, Nat.add_zero]
      · refine ⟨nI (T 12 i), ?_, ?_⟩
        · unfold f_Hal_want
          rw [show (nI 1) = 1 from rfl, c2, e_bnd]
        · simp (disch := omega) only [e_bnd, e_bnd2, e_set, e_cpy, e_nmI, e_nmL, e_ckn, e_ckB0, e_ckB1, l0, l1, l2, l3, l4, l5, l6, l7, l8, l9, l10, l11, l12, l13, l14, l15, l16, l17, l18, l19, l20, l21, l22, l24, l25, l32, l39, l40, l41, l48, l50, l56, l57, l59, l60, l72, l79, l80, l81, l82, l88, l89, l97, l100, l122, l124, l125, l160, l255, l312, l320, l375, l1000, nI_ltI, nI_leI, nI_eq, nI_add, pk_mul, e_ix, e_neg, if_true, if_false, if_pos, if_neg, f_Mod_want, om.nw, h2, e2, h4, om.w1 hi]
      · refine ⟨nI (T 13 i), ?_, ?_⟩
        · unfold f_Hal_want
          rw [show (nI 2) = 2 from rfl, c3, e_bnd]
        · simp (disch := omega) only [e_bnd, e_bnd2, e_set, e_cpy, e_nmI, e_nmL, e_ckn, e_ckB0, e_ckB1, l0, l1, l2, l3, l4, l5, l6, l7, l8, l9, l10, l11, l12, l13, l14, l15, l16, l17, l18, l19, l20, l21, l22, l24, l25, l32, l39, l40, l41, l48, l50, l56, l57, l59, l60, l72, l79, l80, l81, l82, l88, l89, l97, l100, l122, l124, l125, l160, l255, l312, l320, l375, l1000, nI_ltI, nI_leI, nI_eq, nI_add, pk_mul, e_ix, e_neg, if_true, if_false, if_pos, if_neg, f_Mod_want, om.nw, h2, e2, h4, om.w2 hi]
    · have n0 : (y = nI 0) = False := eq_false (fun e => h5 (by subst e; decide))
      have n1 : (y = nI 1) = False := eq_false (fun e => h5 (by subst e; decide))
      have n2 : (y = nI 2) = False := eq_false (fun e => h5 (by subst e; decide))
      refine ⟨-1, ?_, ?_⟩
      · simp (disch := omega) only [e_bnd, e_bnd2, e_set, e_cpy, e_nmI, e_nmL, e_ckn, e_ckB0, e_ckB1, l0, l1, l2, l3, l4, l5, l6, l7, l8, l9, l10, l11, l12, l13, l14, l15, l16, l17, l18, l19, l20, l21, l22, l24, l25, l32, l39, l40, l41, l48, l50, l56, l57, l59, l60, l72, l79, l80, l81, l82, l88, l89, l97, l100, l122, l124, l125, l160, l255, l312, l320, l375, l1000, nI_ltI, nI_leI, nI_eq, nI_add, pk_mul, e_ix, e_neg, if_true, if_false, if_pos, if_neg, f_Hal_want, f_Tri_part, o.nw, n0, n1, n2]
      · simp (disch := omega) only [e_bnd, e_bnd2, e_set, e_cpy, e_nmI, e_nmL, e_ckn, e_ckB0, e_ckB1, l0, l1, l2, l3, l4, l5, l6, l7, l8, l9, l10, l11, l12, l13, l14, l15, l16, l17, l18, l19, l20, l21, l22, l24, l25, l32, l39, l40, l41, l48, l50, l56, l57, l59, l60, l72, l79, l80, l81, l82, l88, l89, l97, l100, l122, l124, l125, l160, l255, l312, l320, l375, l1000, nI_ltI, nI_leI, nI_eq, nI_add, pk_mul, e_ix, e_neg, if_true, if_false, if_pos, if_neg, f_Mod_want, om.nw, h2, e2, h4]
  · refine ⟨-1, ?_, ?_⟩
    · unfold f_Hal_want f_Tri_part
      by_cases q : x < 0
      · rw [if_pos q]; rfl
      · rw [if_neg q]
        obtain ⟨z1, z2⟩ := nI_self (Int32.not_lt.mp q)
        have z3 : f_Hal_within x (nI 0) (nI (T 10 0) - nI 1) = some (if 0 ≤ x ∧ x ≤ nI (T 10 0) - 1 then nI 1 else nI 0) := w_in _ _ _
        rw [z3] at h1
        have z4 : ¬ ix x < T 10 0 := fun h => by
          rw [z1, if_pos (nI_in1 (by omega) h)] at h1
          exact absurd h1 (by decide)
        rw [o.nw, if_pos (by rw [z1, nI_leI (by omega) (by omega)]; omega)]
        rfl
    · simp (disch := omega) only [e_bnd, e_bnd2, e_set, e_cpy, e_nmI, e_nmL, e_ckn, e_ckB0, e_ckB1, l0, l1, l2, l3, l4, l5, l6, l7, l8, l9, l10, l11, l12, l13, l14, l15, l16, l17, l18, l19, l20, l21, l22, l24, l25, l32, l39, l40, l41, l48, l50, l56, l57, l59, l60, l72, l79, l80, l81, l82, l88, l89, l97, l100, l122, l124, l125, l160, l255, l312, l320, l375, l1000, nI_ltI, nI_leI, nI_eq, nI_add, pk_mul, e_ix, e_neg, if_true, if_false, if_pos, if_neg, f_Mod_want, om.nw, h2]
/-! counts -/
def dfP (T : Tn) : Nat → Bool := fun c => decide (T 2 c ≠ 0)
theorem c_deafL {T : Tn} {M : Mem} (o : On T M) (g : Good T) : ∀ (m n k : Nat), k + m = 81 → m < n → f_Tol_deafCells_L4 1 M n (nI (cntN (dfP T) k)) (nI k) = some (nI (cntN (dfP T) 81)) := by
  intro m
  induction m with
  | zero =>
    intro n k hk hn
    obtain ⟨n, rfl⟩ : ∃ z, n = z + 1 := ⟨n - 1, by omega⟩
    have e : k = 81 := by omega
    subst e
    rw [f_Tol_deafCells_L4, if_pos (by decide)]
  | succ m ih =>
    intro n k hk hn
    obtain ⟨n, rfl⟩ : ∃ z, n = z + 1 := ⟨n - 1, by omega⟩
    have hc := g.c (show k < 81 by omega)
    have ih2 := ih n (k + 1) (by omega) (by omega)
    rw [cntN_s] at ih2
    rw [f_Tol_deafCells_L4]
    by_cases h : T 2 k = 0
    · rw [if_neg (by simp [dfP, h])] at ih2
      simp (disch := omega) only [e_bnd, e_bnd2, e_set, e_cpy, e_nmI, e_nmL, e_ckn, e_ckB0, e_ckB1, l0, l1, l2, l3, l4, l5, l6, l7, l8, l9, l10, l11, l12, l13, l14, l15, l16, l17, l18, l19, l20, l21, l22, l24, l25, l32, l39, l40, l41, l48, l50, l56, l57, l59, l60, l72, l79, l80, l81, l82, l88, l89, l97, l100, l122, l124, l125, l160, l255, l312, l320, l375, l1000, nI_ltI, nI_leI, nI_eq, nI_add, pk_mul, e_ix, e_neg, if_true, if_false, if_pos, if_neg, c_state o (show k < 81 by omega), Nat.add_zero]
      exact ih2
    · rw [if_pos (by simp [dfP, h])] at ih2
      simp (disch := omega) only [e_bnd, e_bnd2, e_set, e_cpy, e_nmI, e_nmL, e_ckn, e_ckB0, e_ckB1, l0, l1, l2, l3, l4, l5, l6, l7, l8, l9, l10, l11, l12, l13, l14, l15, l16, l17, l18, l19, l20, l21, l22, l24, l25, l32, l39, l40, l41, l48, l50, l56, l57, l59, l60, l72, l79, l80, l81, l82, l88, l89, l97, l100, l122, l124, l125, l160, l255, l312, l320, l375, l1000, nI_ltI, nI_leI, nI_eq, nI_add, pk_mul, e_ix, e_neg, if_true, if_false, if_pos, if_neg, c_state o (show k < 81 by omega)]
      exact ih2
theorem m_countL {T : Tn} {M : Mem} (o : OnM T M) (g : Good T) {x : Int32} : ∀ (m n k : Nat), k + m = 81 → m < n → f_Mod_count_L4 M n x (nI (cntN (dfP T) k)) (nI k) = f_Mod_count_L4 M 1 x (nI (cntN (dfP T) 81)) (nI 81) := by
  intro m
  induction m with
  | zero =>
    intro n k hk hn
    obtain ⟨n, rfl⟩ : ∃ z, n = z + 1 := ⟨n - 1, by omega⟩
    have e : k = 81 := by omega
    subst e
    rw [f_Mod_count_L4, if_pos (show (81 : Int32) ≤ nI 81 by decide), f_Mod_count_L4, if_pos (show (81 : Int32) ≤ nI 81 by decide)]
  | succ m ih =>
    intro n k hk hn
    obtain ⟨n, rfl⟩ : ∃ z, n = z + 1 := ⟨n - 1, by omega⟩
    have hc := g.c (show k < 81 by omega)
    have ih2 := ih n (k + 1) (by omega) (by omega)
    rw [cntN_s] at ih2
    rw [← ih2]
    conv => lhs; rw [f_Mod_count_L4]
    rw [if_neg (by rw [l81, nI_leI (by omega) (by omega)]; omega), e_ckn (by omega) (by decide), show ix (nI k) = k from e_ix (by omega), o.c (by omega)]
    by_cases h : T 2 k = 0
    · rw [if_neg (show ¬ dfP T k = true by simp [dfP, h]), h, if_pos (by decide), f_Mod_count_J25, f_Mod_flag, if_pos rfl, e_bnd, e_nmI, nI_1, l0, nI_add, Nat.add_zero]
    · rw [if_pos (show dfP T k = true by simp [dfP, h]), if_neg (by rw [l0, nI_leI (by omega) (by omega)]; omega), f_Mod_count_J25, f_Mod_flag, if_neg (by decide), e_bnd, e_nmI, nI_1, nI_1]
theorem s_count (x : Int32) : SimR (fun M => f_Hal_count M x) (fun M => f_Mod_count M x) := by
  intro M ⟨T, ⟨o, om, g⟩, hI, hS, hT, hF⟩
  dsimp only
  obtain ⟨k0, k1, c1, c2, c3, c4, c5, -⟩ := hI
  obtain ⟨L, hL, t1, t2, -⟩ := hT
  have hd : f_Tol_deafCells 1 M = some (nI (cntN (dfP T) 81)) := c_deafL o g 81 1000 0 rfl (by decide)
  have hm : f_Mod_count M x = f_Mod_count_L4 M 1 x (nI (cntN (dfP T) 81)) (nI 81) := m_countL om g 81 1000 0 rfl (by decide)
  have hb : f_Int_bitCount (M 0 3) = some (nI (k0 + k1)) := by
    rw [c3, (bc_all _ (by omega)).1]
    congr 2
    rcases (show k0 = 0 ∨ k0 = 1 by omega) with rfl | rfl <;> rcases (show k1 = 0 ∨ k1 = 1 by omega) with rfl | rfl <;> rfl
  have hf : ∀ k, k ≤ 1 → f_Mod_flag (nI k) = some (nI k) := fun k hk => by
    rcases (show k = 0 ∨ k = 1 by omega) with rfl | rfl <;> rfl
  have hs : ∃ w, f_She_cellsOf M 0 = some w ∧ (if M 119 (ix 0) = (-4) then some (-4) else some (M 120 (ix 0))) = some w := by
    have he : f_She_isSheet 0 = some 1 := by decide +kernel
    unfold f_She_cellsOf
    rw [he, e_bnd, if_neg (by decide), e_ck (by decide), e_ck (by decide), show ix 0 = 0 from rfl]
    rcases hS.1 0 (by decide) with ⟨a1, a2⟩ | ⟨l, n, a1, a2, a3, a4, a5, a6, -⟩
    · rw [a1, a2, if_pos rfl, if_pos rfl]
      exact ⟨_, rfl, rfl⟩
    · rw [a3, a4, a5, a6, if_neg (by rw [l1, e_neg (by omega) (by omega) (by omega)]; exact id), if_neg (by rw [l4, e_neg (by omega) (by omega) (by omega)]; exact id)]
      exact ⟨_, rfl, rfl⟩
  obtain ⟨w, hs1, hs2⟩ := hs
  rw [hm, f_Mod_count_L4, if_pos (by decide)]
  unfold f_Hal_count
  rw [o.nb, o.s5, o.nw, o.ns, hd, hb, t1, hs1, om.nb, om.s5, om.nw, show M 104 (ix 88) = nI (T 14 0) from om.ns, show M 105 (ix 0) = nI k0 from c4, show M 105 (ix 1) = nI k1 from c5, t2, hf _ c1, hf _ c2, hs2]
  simp only [e_bnd, nI_add]
  repeat' split
  all_goals exact ⟨_, rfl, rfl⟩
