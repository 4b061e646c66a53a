/-! pure: a whisper's way, asked -/
theorem hst_in {T : Tn} {r : Nat} {q : PS} {cell e : Nat} (h : hst T r q cell e ≠ 0) : 1 ≤ hst T r q cell e ∧ hst T r q cell e ≤ plen T r q := by
  unfold hst at h ⊢
  split at h
  · next h2 =>
    rw [if_pos h2]
    rcases fj_sp (P := hP T q cell) (plen T r q) with ⟨h1, -⟩ | ⟨h1, h3, -⟩
    · exact absurd h1 h2.1
    · exact ⟨h1, h3⟩
  · exact absurd rfl h
section QQ
variable {T : Tn} {M : Mem}
theorem c_reach {c r s : Nat} {q : PS} (h : PthC c T r s q M) {k : Nat} (hk : k ≤ 40) : f_Cou_reaches c M (nI k) = some (nI (if k ≤ plen T r q then 1 else 0)) := by
  have hl := plen_le (T := T) (r := r) (q := q)
  by_cases h1 : k ≤ plen T r q
  · simp (disch := omega) only [e_bnd, e_bnd2, e_set, e_cpy, e_nmI, e_nmL, e_ckn, e_ckB0, e_ckB1, l0, l1, l2, l3, l4, l5, l6, l7, l8, l9, l10, l11, l12, l13, l14, l15, l16, l17, l18, l19, l20, l21, l22, l24, l25, l32, l39, l40, l41, l48, l50, l56, l57, l59, l60, l72, l79, l80, l81, l82, l88, l89, l97, l100, l122, l124, l125, l160, l255, l312, l320, l375, l1000, nI_ltI, nI_leI, nI_eq, nI_add, pk_mul, e_ix, e_neg, if_true, if_false, if_pos, if_neg, f_Cou_reaches, h.1]
  · simp (disch := omega) only [e_bnd, e_bnd2, e_set, e_cpy, e_nmI, e_nmL, e_ckn, e_ckB0, e_ckB1, l0, l1, l2, l3, l4, l5, l6, l7, l8, l9, l10, l11, l12, l13, l14, l15, l16, l17, l18, l19, l20, l21, l22, l24, l25, l32, l39, l40, l41, l48, l50, l56, l57, l59, l60, l72, l79, l80, l81, l82, l88, l89, l97, l100, l122, l124, l125, l160, l255, l312, l320, l375, l1000, nI_ltI, nI_leI, nI_eq, nI_add, pk_mul, e_ix, e_neg, if_true, if_false, if_pos, if_neg, f_Cou_reaches, h.1]
theorem c_cellAt (g : Good T) {c r s : Nat} {q : PS} (h : PthC c T r s q M) {k : Nat} (hk : k ≤ 40) : f_Cou_cellAt c M (nI k) = some (if k ≤ plen T r q then (if k = 0 then nI s else nI (pcq (pst T q k))) else -4) := by
  have hl := plen_le (T := T) (r := r) (q := q)
  by_cases h1 : k ≤ plen T r q
  · by_cases h0 : k = 0
    · subst h0
      simp (disch := omega) only [e_bnd, e_bnd2, e_set, e_cpy, e_nmI, e_nmL, e_ckn, e_ckB0, e_ckB1, l0, l1, l2, l3, l4, l5, l6, l7, l8, l9, l10, l11, l12, l13, l14, l15, l16, l17, l18, l19, l20, l21, l22, l24, l25, l32, l39, l40, l41, l48, l50, l56, l57, l59, l60, l72, l79, l80, l81, l82, l88, l89, l97, l100, l122, l124, l125, l160, l255, l312, l320, l375, l1000, nI_ltI, nI_leI, nI_eq, nI_add, pk_mul, e_ix, e_neg, if_true, if_false, if_pos, if_neg, f_Cou_cellAt, c_reach h hk, h.2.1]
    · simp (disch := omega) only [e_bnd, e_bnd2, e_set, e_cpy, e_nmI, e_nmL, e_ckn, e_ckB0, e_ckB1, l0, l1, l2, l3, l4, l5, l6, l7, l8, l9, l10, l11, l12, l13, l14, l15, l16, l17, l18, l19, l20, l21, l22, l24, l25, l32, l39, l40, l41, l48, l50, l56, l57, l59, l60, l72, l79, l80, l81, l82, l88, l89, l97, l100, l122, l124, l125, l160, l255, l312, l320, l375, l1000, nI_ltI, nI_leI, nI_eq, nI_add, pk_mul, e_ix, e_neg, if_true, if_false, if_pos, if_neg, f_Cou_cellAt, c_reach h hk, (h.2.2 k (by omega) h1).1]
  · simp (disch := omega) only [e_bnd, e_bnd2, e_set, e_cpy, e_nmI, e_nmL, e_ckn, e_ckB0, e_ckB1, l0, l1, l2, l3, l4, l5, l6, l7, l8, l9, l10, l11, l12, l13, l14, l15, l16, l17, l18, l19, l20, l21, l22, l24, l25, l32, l39, l40, l41, l48, l50, l56, l57, l59, l60, l72, l79, l80, l81, l82, l88, l89, l97, l100, l122, l124, l125, l160, l255, l312, l320, l375, l1000, nI_ltI, nI_leI, nI_eq, nI_add, pk_mul, e_ix, e_neg, if_true, if_false, if_pos, if_neg, f_Cou_cellAt, c_reach h hk]
theorem c_loudAt {c r s : Nat} {q : PS} (h : PthC c T r s q M) {k : Nat} (h0 : 1 ≤ k) (h1 : k ≤ plen T r q) : f_Cou_loudAt c M (nI k) = some (J (plo T k (pst T q k).2.2.2.2)) := by
  have hl := plen_le (T := T) (r := r) (q := q)
  simp (disch := omega) only [e_bnd, e_bnd2, e_set, e_cpy, e_nmI, e_nmL, e_ckn, e_ckB0, e_ckB1, l0, l1, l2, l3, l4, l5, l6, l7, l8, l9, l10, l11, l12, l13, l14, l15, l16, l17, l18, l19, l20, l21, l22, l24, l25, l32, l39, l40, l41, l48, l50, l56, l57, l59, l60, l72, l79, l80, l81, l82, l88, l89, l97, l100, l122, l124, l125, l160, l255, l312, l320, l375, l1000, nI_ltI, nI_leI, nI_eq, nI_add, pk_mul, e_ix, e_neg, if_true, if_false, if_pos, if_neg, f_Cou_loudAt, c_reach h (show k ≤ 40 by omega), (h.2.2 k h0 h1).2.1]
theorem c_bounceAt {c r s : Nat} {q : PS} (h : PthC c T r s q M) {k : Nat} (h0 : 1 ≤ k) (h1 : k ≤ plen T r q) : f_Cou_bouncesAt c M (nI k) = some (J (pst T q k).2.2.2.2) := by
  have hl := plen_le (T := T) (r := r) (q := q)
  simp (disch := omega) only [e_bnd, e_bnd2, e_set, e_cpy, e_nmI, e_nmL, e_ckn, e_ckB0, e_ckB1, l0, l1, l2, l3, l4, l5, l6, l7, l8, l9, l10, l11, l12, l13, l14, l15, l16, l17, l18, l19, l20, l21, l22, l24, l25, l32, l39, l40, l41, l48, l50, l56, l57, l59, l60, l72, l79, l80, l81, l82, l88, l89, l97, l100, l122, l124, l125, l160, l255, l312, l320, l375, l1000, nI_ltI, nI_leI, nI_eq, nI_add, pk_mul, e_ix, e_neg, if_true, if_false, if_pos, if_neg, f_Cou_bouncesAt, c_reach h (show k ≤ 40 by omega), (h.2.2 k h0 h1).2.2]
end QQ
theorem s_way (x y z : Int32) : Sim (f_Hal_way x y z) (f_Mod_way x y z) := by
  intro M ⟨T, hA, hI, hS, hT, hF⟩
  obtain ⟨o, om, g⟩ := id hA
  have e40 : f_Mod_in z.toInt64 0 40 = f_Mod_in z.toInt64 0 (nI 40).toInt64 := rfl
  rcases a_bench g x with ⟨b, hb, rfl, a1, a2⟩ | ⟨a1, a2⟩
  · rcases a_hour y with ⟨h, hh, rfl, b1, b2⟩ | ⟨b1, b2⟩
    · rcases wi z (m := 40) (by decide) with ⟨i, hi, rfl, d1, d2⟩ | ⟨d1, d2, -⟩
      · obtain ⟨M1, p1, p2, p3⟩ := c_whisper (gg := 72) o g hb hh (by decide)
        have hA1 := hA.frc p2 (by decide) (by decide)
        obtain ⟨M2, q1, q2, q3⟩ := m_layOf (h := h) hA1.2.1 g hb hh
        refine ⟨if i ≤ plen T (rsd T b) (qb T b h) then (if i = 0 then nI (cel T b h) else nI (pcq (pst T (qb T b h) i))) else -4, M1, M2, ?_, ?_, Inv.to hI hS hT hF ((p2.kp (by decide) (by decide)).tr q2.m.kp) (fun _ _ _ => rfl) (hA1.frm q2.m)⟩
        · unfold f_Hal_way
          rw [a1 M o, e_bnd, if_neg (by decide), b1, e_bnd, if_neg (by decide), show (0 : Int32) = nI 0 from rfl, show (40 : Int32) = nI 40 from rfl, d1, e_bnd, if_neg (by decide), p1, e_bnd, c_cellAt g p3 hi, e_bnd]
        · have hl := plen_le (T := T) (r := rsd T b) (q := qb T b h)
          by_cases h1 : i ≤ plen T (rsd T b) (qb T b h)
          · by_cases h0 : i = 0
            · subst h0
              simp (disch := omega) only [e_bnd, e_bnd2, e_set, e_cpy, e_nmI, e_nmL, e_ckn, e_ckB0, e_ckB1, l0, l1, l2, l3, l4, l5, l6, l7, l8, l9, l10, l11, l12, l13, l14, l15, l16, l17, l18, l19, l20, l21, l22, l24, l25, l32, l39, l40, l41, l48, l50, l56, l57, l59, l60, l72, l79, l80, l81, l82, l88, l89, l97, l100, l122, l124, l125, l160, l255, l312, l320, l375, l1000, nI_ltI, nI_leI, nI_eq, nI_add, pk_mul, e_ix, e_neg, if_true, if_false, if_pos, if_neg, f_Mod_way, a2 M1 hA1.2.1, b2, e40, d2, q1, q3.1, q3.2.1]
            · simp (disch := omega) only [e_bnd, e_bnd2, e_set, e_cpy, e_nmI, e_nmL, e_ckn, e_ckB0, e_ckB1, l0, l1, l2, l3, l4, l5, l6, l7, l8, l9, l10, l11, l12, l13, l14, l15, l16, l17, l18, l19, l20, l21, l22, l24, l25, l32, l39, l40, l41, l48, l50, l56, l57, l59, l60, l72, l79, l80, l81, l82, l88, l89, l97, l100, l122, l124, l125, l160, l255, l312, l320, l375, l1000, nI_ltI, nI_leI, nI_eq, nI_add, pk_mul, e_ix, e_neg, if_true, if_false, if_pos, if_neg, f_Mod_way, a2 M1 hA1.2.1, b2, e40, d2, q1, q3.1, (q3.2.2 i (by omega) h1).1]
          · simp (disch := omega) only [e_bnd, e_bnd2, e_set, e_cpy, e_nmI, e_nmL, e_ckn, e_ckB0, e_ckB1, l0, l1, l2, l3, l4, l5, l6, l7, l8, l9, l10, l11, l12, l13, l14, l15, l16, l17, l18, l19, l20, l21, l22, l24, l25, l32, l39, l40, l41, l48, l50, l56, l57, l59, l60, l72, l79, l80, l81, l82, l88, l89, l97, l100, l122, l124, l125, l160, l255, l312, l320, l375, l1000, nI_ltI, nI_leI, nI_eq, nI_add, pk_mul, e_ix, e_neg, if_true, if_false, if_pos, if_neg, f_Mod_way, a2 M1 hA1.2.1, b2, e40, d2, q1, q3.1]
      · refine ⟨-1, M, M, ?_, ?_, ⟨T, hA, hI, hS, hT, hF⟩⟩
        · simp (disch := omega) only [e_bnd, e_bnd2, e_set, e_cpy, e_nmI, e_nmL, e_ckn, e_ckB0, e_ckB1, l0, l1, l2, l3, l4, l5, l6, l7, l8, l9, l10, l11, l12, l13, l14, l15, l16, l17, l18, l19, l20, l21, l22, l24, l25, l32, l39, l40, l41, l48, l50, l56, l57, l59, l60, l72, l79, l80, l81, l82, l88, l89, l97, l100, l122, l124, l125, l160, l255, l312, l320, l375, l1000, nI_ltI, nI_leI, nI_eq, nI_add, pk_mul, e_ix, e_neg, if_true, if_false, if_pos, if_neg, f_Hal_way, a1 M o, b1, d1]
        · simp (disch := omega) only [e_bnd, e_bnd2, e_set, e_cpy, e_nmI, e_nmL, e_ckn, e_ckB0, e_ckB1, l0, l1, l2, l3, l4, l5, l6, l7, l8, l9, l10, l11, l12, l13, l14, l15, l16, l17, l18, l19, l20, l21, l22, l24, l25, l32, l39, l40, l41, l48, l50, l56, l57, l59, l60, l72, l79, l80, l81, l82, l88, l89, l97, l100, l122, l124, l125, l160, l255, l312, l320, l375, l1000, nI_ltI, nI_leI, nI_eq, nI_add, pk_mul, e_ix, e_neg, if_true, if_false, if_pos, if_neg, f_Mod_way, a2 M om, b2, e40, d2]
    · refine ⟨-1, M, M, ?_, ?_, ⟨T, hA, hI, hS, hT, hF⟩⟩
      · simp (disch := omega) only [e_bnd, e_bnd2, e_set, e_cpy, e_nmI, e_nmL, e_ckn, e_ckB0, e_ckB1, l0, l1, l2, l3, l4, l5, l6, l7, l8, l9, l10, l11, l12, l13, l14, l15, l16, l17, l18, l19, l20, l21, l22, l24, l25, l32, l39, l40, l41, l48, l50, l56, l57, l59, l60, l72, l79, l80, l81, l82, l88, l89, l97, l100, l122, l124, l125, l160, l255, l312, l320, l375, l1000, nI_ltI, nI_leI, nI_eq, nI_add, pk_mul, e_ix, e_neg, if_true, if_false, if_pos, if_neg, f_Hal_way, a1 M o, b1]
      · simp (disch := omega) only [e_bnd, e_bnd2, e_set, e_cpy, e_nmI, e_nmL, e_ckn, e_ckB0, e_ckB1, l0, l1, l2, l3, l4, l5, l6, l7, l8, l9, l10, l11, l12, l13, l14, l15, l16, l17, l18, l19, l20, l21, l22, l24, l25, l32, l39, l40, l41, l48, l50, l56, l57, l59, l60, l72, l79, l80, l81, l82, l88, l89, l97, l100, l122, l124, l125, l160, l255, l312, l320, l375, l1000, nI_ltI, nI_leI, nI_eq, nI_add, pk_mul, e_ix, e_neg, if_true, if_false, if_pos, if_neg, f_Mod_way, a2 M om, b2]
  · refine ⟨-1, M, M, ?_, ?_, ⟨T, hA, hI, hS, hT, hF⟩⟩
    · simp (disch := omega) only [e_bnd, e_bnd2, e_set, e_cpy, e_nmI, e_nmL, e_ckn, e_ckB0, e_ckB1, l0, l1, l2, l3, l4, l5, l6, l7, l8, l9, l10, l11, l12, l13, l14, l15, l16, l17, l18, l19, l20, l21, l22, l24, l25, l32, l39, l40, l41, l48, l50, l56, l57, l59, l60, l72, l79, l80, l81, l82, l88, l89, l97, l100, l122, l124, l125, l160, l255, l312, l320, l375, l1000, nI_ltI, nI_leI, nI_eq, nI_add, pk_mul, e_ix, e_neg, if_true, if_false, if_pos, if_neg, f_Hal_way, a1 M o]
    · simp (disch := omega) only [e_bnd, e_bnd2, e_set, e_cpy, e_nmI, e_nmL, e_ckn, e_ckB0, e_ckB1, l0, l1, l2, l3, l4, l5, l6, l7, l8, l9, l10, l11, l12, l13, l14, l15, l16, l17, l18, l19, l20, l21, l22, l24, l25, l32, l39, l40, l41, l48, l50, l56, l57, l59, l60, l72, l79, l80, l81, l82, l88, l89, l97, l100, l122, l124, l125, l160, l255, l312, l320, l375, l1000, nI_ltI, nI_leI, nI_eq, nI_add, pk_mul, e_ix, e_neg, if_true, if_false, if_pos, if_neg, f_Mod_way, a2 M om]
theorem s_steps (x y : Int32) : Sim (f_Hal_steps x y) (f_Mod_steps x y) := by
  intro M ⟨T, hA, hI, hS, hT, hF⟩
  obtain ⟨o, om, g⟩ := id hA
  rcases a_bench g x with ⟨b, hb, rfl, a1, a2⟩ | ⟨a1, a2⟩
  · rcases a_hour y with ⟨h, hh, rfl, b1, b2⟩ | ⟨b1, b2⟩
    · obtain ⟨M1, p1, p2, p3⟩ := c_whisper (gg := 72) o g hb hh (by decide)
      have hA1 := hA.frc p2 (by decide) (by decide)
      obtain ⟨M2, q1, q2, q3⟩ := m_layOf (h := h) hA1.2.1 g hb hh
      refine ⟨nI (plen T (rsd T b) (qb T b h)), M1, M2, ?_, ?_, Inv.to hI hS hT hF ((p2.kp (by decide) (by decide)).tr q2.m.kp) (fun _ _ _ => rfl) (hA1.frm q2.m)⟩
      · simp (disch := omega) only [e_bnd, e_bnd2, e_set, e_cpy, e_nmI, e_nmL, e_ckn, e_ckB0, e_ckB1, l0, l1, l2, l3, l4, l5, l6, l7, l8, l9, l10, l11, l12, l13, l14, l15, l16, l17, l18, l19, l20, l21, l22, l24, l25, l32, l39, l40, l41, l48, l50, l56, l57, l59, l60, l72, l79, l80, l81, l82, l88, l89, l97, l100, l122, l124, l125, l160, l255, l312, l320, l375, l1000, nI_ltI, nI_leI, nI_eq, nI_add, pk_mul, e_ix, e_neg, if_true, if_false, if_pos, if_neg, f_Hal_steps, a1 M o, b1, p1, show M1 73 0 = nI (plen T (rsd T b) (qb T b h)) from p3.1]
      · simp (disch := omega) only [e_bnd, e_bnd2, e_set, e_cpy, e_nmI, e_nmL, e_ckn, e_ckB0, e_ckB1, l0, l1, l2, l3, l4, l5, l6, l7, l8, l9, l10, l11, l12, l13, l14, l15, l16, l17, l18, l19, l20, l21, l22, l24, l25, l32, l39, l40, l41, l48, l50, l56, l57, l59, l60, l72, l79, l80, l81, l82, l88, l89, l97, l100, l122, l124, l125, l160, l255, l312, l320, l375, l1000, nI_ltI, nI_leI, nI_eq, nI_add, pk_mul, e_ix, e_neg, if_true, if_false, if_pos, if_neg, f_Mod_steps, a2 M1 hA1.2.1, b2, q1, q3.1]
    · refine ⟨-1, M, M, ?_, ?_, ⟨T, hA, hI, hS, hT, hF⟩⟩
      · simp (disch := omega) only [e_bnd, e_bnd2, e_set, e_cpy, e_nmI, e_nmL, e_ckn, e_ckB0, e_ckB1, l0, l1, l2, l3, l4, l5, l6, l7, l8, l9, l10, l11, l12, l13, l14, l15, l16, l17, l18, l19, l20, l21, l22, l24, l25, l32, l39, l40, l41, l48, l50, l56, l57, l59, l60, l72, l79, l80, l81, l82, l88, l89, l97, l100, l122, l124, l125, l160, l255, l312, l320, l375, l1000, nI_ltI, nI_leI, nI_eq, nI_add, pk_mul, e_ix, e_neg, if_true, if_false, if_pos, if_neg, f_Hal_steps, a1 M o, b1]
      · simp (disch := omega) only [e_bnd, e_bnd2, e_set, e_cpy, e_nmI, e_nmL, e_ckn, e_ckB0, e_ckB1, l0, l1, l2, l3, l4, l5, l6, l7, l8, l9, l10, l11, l12, l13, l14, l15, l16, l17, l18, l19, l20, l21, l22, l24, l25, l32, l39, l40, l41, l48, l50, l56, l57, l59, l60, l72, l79, l80, l81, l82, l88, l89, l97, l100, l122, l124, l125, l160, l255, l312, l320, l375, l1000, nI_ltI, nI_leI, nI_eq, nI_add, pk_mul, e_ix, e_neg, if_true, if_false, if_pos, if_neg, f_Mod_steps, a2 M om, b2]
  · refine ⟨-1, M, M, ?_, ?_, ⟨T, hA, hI, hS, hT, hF⟩⟩
    · simp (disch := omega) only [e_bnd, e_bnd2, e_set, e_cpy, e_nmI, e_nmL, e_ckn, e_ckB0, e_ckB1, l0, l1, l2, l3, l4, l5, l6, l7, l8, l9, l10, l11, l12, l13, l14, l15, l16, l17, l18, l19, l20, l21, l22, l24, l25, l32, l39, l40, l41, l48, l50, l56, l57, l59, l60, l72, l79, l80, l81, l82, l88, l89, l97, l100, l122, l124, l125, l160, l255, l312, l320, l375, l1000, nI_ltI, nI_leI, nI_eq, nI_add, pk_mul, e_ix, e_neg, if_true, if_false, if_pos, if_neg, f_Hal_steps, a1 M o]
    · simp (disch := omega) only [e_bnd, e_bnd2, e_set, e_cpy, e_nmI, e_nmL, e_ckn, e_ckB0, e_ckB1, l0, l1, l2, l3, l4, l5, l6, l7, l8, l9, l10, l11, l12, l13, l14, l15, l16, l17, l18, l19, l20, l21, l22, l24, l25, l32, l39, l40, l41, l48, l50, l56, l57, l59, l60, l72, l79, l80, l81, l82, l88, l89, l97, l100, l122, l124, l125, l160, l255, l312, l320, l375, l1000, nI_ltI, nI_leI, nI_eq, nI_add, pk_mul, e_ix, e_neg, if_true, if_false, if_pos, if_neg, f_Mod_steps, a2 M om]
theorem s_hears (x c y z : Int32) : Sim (f_Hal_hears x c y z) (f_Mod_hears x c y z) := by
  intro M ⟨T, hA, hI, hS, hT, hF⟩
  obtain ⟨o, om, g⟩ := id hA
  have h9 := g.n
  have e2 : f_Mod_in z.toInt64 0 2 = f_Mod_in z.toInt64 0 (nI 2).toInt64 := rfl
  rcases a_bench g x with ⟨b, hb, rfl, a1, a2⟩ | ⟨a1, a2⟩
  · rcases a_bench g c with ⟨d, hd, rfl, d1, d2⟩ | ⟨d1, d2⟩
    · by_cases hbd : b = d
      · refine ⟨-1, M, M, ?_, ?_, ⟨T, hA, hI, hS, hT, hF⟩⟩
        · simp (disch := omega) only [e_bnd, e_bnd2, e_set, e_cpy, e_nmI, e_nmL, e_ckn, e_ckB0, e_ckB1, l0, l1, l2, l3, l4, l5, l6, l7, l8, l9, l10, l11, l12, l13, l14, l15, l16, l17, l18, l19, l20, l21, l22, l24, l25, l32, l39, l40, l41, l48, l50, l56, l57, l59, l60, l72, l79, l80, l81, l82, l88, l89, l97, l100, l122, l124, l125, l160, l255, l312, l320, l375, l1000, nI_ltI, nI_leI, nI_eq, nI_add, pk_mul, e_ix, e_neg, if_true, if_false, if_pos, if_neg, f_Hal_hears, a1 M o, d1 M o]
        · simp (disch := omega) only [e_bnd, e_bnd2, e_set, e_cpy, e_nmI, e_nmL, e_ckn, e_ckB0, e_ckB1, l0, l1, l2, l3, l4, l5, l6, l7, l8, l9, l10, l11, l12, l13, l14, l15, l16, l17, l18, l19, l20, l21, l22, l24, l25, l32, l39, l40, l41, l48, l50, l56, l57, l59, l60, l72, l79, l80, l81, l82, l88, l89, l97, l100, l122, l124, l125, l160, l255, l312, l320, l375, l1000, nI_ltI, nI_leI, nI_eq, nI_add, pk_mul, e_ix, e_neg, if_true, if_false, if_pos, if_neg, f_Mod_hears, a2 M om, d2 M om]
      · rcases a_hour y with ⟨h, hh, rfl, b1, b2⟩ | ⟨b1, b2⟩
        · rcases wi z (m := 2) (by decide) with ⟨i, hi, rfl, f1, f2⟩ | ⟨f1, f2, -⟩
          · obtain ⟨M1, p1, p2, p3⟩ := c_whisper (gg := 72) o g hb hh (by decide)
            have hA1 := hA.frc p2 (by decide) (by decide)
            obtain ⟨M2, q1, q2, q3⟩ := m_layOf (h := h) hA1.2.1 g hb hh
            have hA2 := hA1.frm q2.m
            have hq := qb_in (h := h) g hb
            have st1 : f_Hea_stepOfHearing 72 M1 (nI d) (nI h) = some (nI (hst T (rsd T b) (qb T b h) (cel T d h) (ear T d))) := by
              unfold f_Hea_stepOfHearing
              rw [c_cell hA1.1 g hd hh, e_bnd, c_ear hA1.1 g hd, e_bnd, c_step g hq p3 (cel_lt g hd).1 (ear_lt g hd).2, e_bnd]
            have st2 := m_step hA2.2.1 g hq q3 hd hh
            have kk : Kp M M2 := (p2.kp (by decide) (by decide)).tr q2.m.kp
            have hl := hst_le (T := T) (r := rsd T b) (q := qb T b h) (cell := cel T d h) (e := ear T d)
            have hpl := plen_le (T := T) (r := rsd T b) (q := qb T b h)
            have hin := hst_in (T := T) (r := rsd T b) (q := qb T b h) (cell := cel T d h) (e := ear T d)
            generalize hk : hst T (rsd T b) (qb T b h) (cel T d h) (ear T d) = k at st1 st2 hl hin
            by_cases h0 : k = 0
            · refine ⟨-4, M1, M2, ?_, ?_, Inv.to hI hS hT hF kk (fun _ _ _ => rfl) hA2⟩
              · simp (disch := omega) only [e_bnd, e_bnd2, e_set, e_cpy, e_nmI, e_nmL, e_ckn, e_ckB0, e_ckB1, l0, l1, l2, l3, l4, l5, l6, l7, l8, l9, l10, l11, l12, l13, l14, l15, l16, l17, l18, l19, l20, l21, l22, l24, l25, l32, l39, l40, l41, l48, l50, l56, l57, l59, l60, l72, l79, l80, l81, l82, l88, l89, l97, l100, l122, l124, l125, l160, l255, l312, l320, l375, l1000, nI_ltI, nI_leI, nI_eq, nI_add, pk_mul, e_ix, e_neg, if_true, if_false, if_pos, if_neg, f_Hal_hears, a1 M o, d1 M o, b1, f1, p1, st1]
              · unfold f_Mod_hears
                rw [a2 M1 hA1.2.1, e_bnd, if_neg (by decide), d2 M1 hA1.2.1, e_bnd, if_neg (by decide), if_neg (by rw [nI_eq (by omega) (by omega)]; exact hbd), b2, e_bnd, if_neg (by decide), e2, f2, e_bnd, if_neg (by decide), q1, e_bnd, st2, e_bnd, if_pos (by rw [enc_4 (by omega)]; exact h0)]
            · have hin2 := hin h0
              have enk : enc k = nI k := if_neg h0
              have enk4 : ¬ (nI k = -nI 4) := by rw [e_neg (by omega) (by omega) (by omega)]; exact id
              rw [enk] at st2
              rcases (show i = 0 ∨ i = 1 ∨ i = 2 by omega) with rfl | rfl | rfl
              · refine ⟨J (plo T k (pst T (qb T b h) k).2.2.2.2), M1, M2, ?_, ?_, Inv.to hI hS hT hF kk (fun _ _ _ => rfl) hA2⟩
                · simp (disch := omega) only [e_bnd, e_bnd2, e_set, e_cpy, e_nmI, e_nmL, e_ckn, e_ckB0, e_ckB1, l0, l1, l2, l3, l4, l5, l6, l7, l8, l9, l10, l11, l12, l13, l14, l15, l16, l17, l18, l19, l20, l21, l22, l24, l25, l32, l39, l40, l41, l48, l50, l56, l57, l59, l60, l72, l79, l80, l81, l82, l88, l89, l97, l100, l122, l124, l125, l160, l255, l312, l320, l375, l1000, nI_ltI, nI_leI, nI_eq, nI_add, pk_mul, e_ix, e_neg, if_true, if_false, if_pos, if_neg, f_Hal_hears, a1 M o, d1 M o, b1, f1, p1, st1, c_loudAt p3 hin2.1 hin2.2]
                · simp (disch := omega) only [e_bnd, e_bnd2, e_set, e_cpy, e_nmI, e_nmL, e_ckn, e_ckB0, e_ckB1, l0, l1, l2, l3, l4, l5, l6, l7, l8, l9, l10, l11, l12, l13, l14, l15, l16, l17, l18, l19, l20, l21, l22, l24, l25, l32, l39, l40, l41, l48, l50, l56, l57, l59, l60, l72, l79, l80, l81, l82, l88, l89, l97, l100, l122, l124, l125, l160, l255, l312, l320, l375, l1000, nI_ltI, nI_leI, nI_eq, nI_add, pk_mul, e_ix, e_neg, if_true, if_false, if_pos, if_neg, f_Mod_hears, a2 M1 hA1.2.1, d2 M1 hA1.2.1, b2, e2, f2, q1, st2, m_loud hA2.2.1 g hq q3 hin2.1 hin2.2]
              · refine ⟨nI k, M1, M2, ?_, ?_, Inv.to hI hS hT hF kk (fun _ _ _ => rfl) hA2⟩
                · simp (disch := omega) only [e_bnd, e_bnd2, e_set, e_cpy, e_nmI, e_nmL, e_ckn, e_ckB0, e_ckB1, l0, l1, l2, l3, l4, l5, l6, l7, l8, l9, l10, l11, l12, l13, l14, l15, l16, l17, l18, l19, l20, l21, l22, l24, l25, l32, l39, l40, l41, l48, l50, l56, l57, l59, l60, l72, l79, l80, l81, l82, l88, l89, l97, l100, l122, l124, l125, l160, l255, l312, l320, l375, l1000, nI_ltI, nI_leI, nI_eq, nI_add, pk_mul, e_ix, e_neg, if_true, if_false, if_pos, if_neg, f_Hal_hears, a1 M o, d1 M o, b1, f1, p1, st1]
                · simp (disch := omega) only [e_bnd, e_bnd2, e_set, e_cpy, e_nmI, e_nmL, e_ckn, e_ckB0, e_ckB1, l0, l1, l2, l3, l4, l5, l6, l7, l8, l9, l10, l11, l12, l13, l14, l15, l16, l17, l18, l19, l20, l21, l22, l24, l25, l32, l39, l40, l41, l48, l50, l56, l57, l59, l60, l72, l79, l80, l81, l82, l88, l89, l97, l100, l122, l124, l125, l160, l255, l312, l320, l375, l1000, nI_ltI, nI_leI, nI_eq, nI_add, pk_mul, e_ix, e_neg, if_true, if_false, if_pos, if_neg, f_Mod_hears, a2 M1 hA1.2.1, d2 M1 hA1.2.1, b2, e2, f2, q1, st2]
              · refine ⟨J (pst T (qb T b h) k).2.2.2.2, M1, M2, ?_, ?_, Inv.to hI hS hT hF kk (fun _ _ _ => rfl) hA2⟩
                · simp (disch := omega) only [e_bnd, e_bnd2, e_set, e_cpy, e_nmI, e_nmL, e_ckn, e_ckB0, e_ckB1, l0, l1, l2, l3, l4, l5, l6, l7, l8, l9, l10, l11, l12, l13, l14, l15, l16, l17, l18, l19, l20, l21, l22, l24, l25, l32, l39, l40, l41, l48, l50, l56, l57, l59, l60, l72, l79, l80, l81, l82, l88, l89, l97, l100, l122, l124, l125, l160, l255, l312, l320, l375, l1000, nI_ltI, nI_leI, nI_eq, nI_add, pk_mul, e_ix, e_neg, if_true, if_false, if_pos, if_neg, f_Hal_hears, a1 M o, d1 M o, b1, f1, p1, st1, c_bounceAt p3 hin2.1 hin2.2]
                · simp (disch := omega) only [e_bnd, e_bnd2, e_set, e_cpy, e_nmI, e_nmL, e_ckn, e_ckB0, e_ckB1, l0, l1, l2, l3, l4, l5, l6, l7, l8, l9, l10, l11, l12, l13, l14, l15, l16, l17, l18, l19, l20, l21, l22, l24, l25, l32, l39, l40, l41, l48, l50, l56, l57, l59, l60, l72, l79, l80, l81, l82, l88, l89, l97, l100, l122, l124, l125, l160, l255, l312, l320, l375, l1000, nI_ltI, nI_leI, nI_eq, nI_add, pk_mul, e_ix, e_neg, if_true, if_false, if_pos, if_neg, f_Mod_hears, a2 M1 hA1.2.1, d2 M1 hA1.2.1, b2, e2, f2, q1, st2, (q3.2.2 k hin2.1 hin2.2).2]
          · refine ⟨-1, M, M, ?_, ?_, ⟨T, hA, hI, hS, hT, hF⟩⟩
            · simp (disch := omega) only [e_bnd, e_bnd2, e_set, e_cpy, e_nmI, e_nmL, e_ckn, e_ckB0, e_ckB1, l0, l1, l2, l3, l4, l5, l6, l7, l8, l9, l10, l11, l12, l13, l14, l15, l16, l17, l18, l19, l20, l21, l22, l24, l25, l32, l39, l40, l41, l48, l50, l56, l57, l59, l60, l72, l79, l80, l81, l82, l88, l89, l97, l100, l122, l124, l125, l160, l255, l312, l320, l375, l1000, nI_ltI, nI_leI, nI_eq, nI_add, pk_mul, e_ix, e_neg, if_true, if_false, if_pos, if_neg, f_Hal_hears, a1 M o, d1 M o, b1, f1]
            · simp (disch := omega) only [e_bnd, e_bnd2, e_set, e_cpy, e_nmI, e_nmL, e_ckn, e_ckB0, e_ckB1, l0, l1, l2, l3, l4, l5, l6, l7, l8, l9, l10, l11, l12, l13, l14, l15, l16, l17, l18, l19, l20, l21, l22, l24, l25, l32, l39, l40, l41, l48, l50, l56, l57, l59, l60, l72, l79, l80, l81, l82, l88, l89, l97, l100, l122, l124, l125, l160, l255, l312, l320, l375, l1000, nI_ltI, nI_leI, nI_eq, nI_add, pk_mul, e_ix, e_neg, if_true, if_false, if_pos, if_neg, f_Mod_hears, a2 M om, d2 M om, b2, e2, f2]
        · refine ⟨-1, M, M, ?_, ?_, ⟨T, hA, hI, hS, hT, hF⟩⟩
          · simp (disch := omega) only [e_bnd, e_bnd2, e_set, e_cpy, e_nmI, e_nmL, e_ckn, e_ckB0, e_ckB1, l0, l1, l2, l3, l4, l5, l6, l7, l8, l9, l10, l11, l12, l13, l14, l15, l16, l17, l18, l19, l20, l21, l22, l24, l25, l32, l39, l40, l41, l48, l50, l56, l57, l59, l60, l72, l79, l80, l81, l82, l88, l89, l97, l100, l122, l124, l125, l160, l255, l312, l320, l375, l1000, nI_ltI, nI_leI, nI_eq, nI_add, pk_mul, e_ix, e_neg, if_true, if_false, if_pos, if_neg, f_Hal_hears, a1 M o, d1 M o, b1]
          · simp (disch := omega) only [e_bnd, e_bnd2, e_set, e_cpy, e_nmI, e_nmL, e_ckn, e_ckB0, e_ckB1, l0, l1, l2, l3, l4, l5, l6, l7, l8, l9, l10, l11, l12, l13, l14, l15, l16, l17, l18, l19, l20, l21, l22, l24, l25, l32, l39, l40, l41, l48, l50, l56, l57, l59, l60, l72, l79, l80, l81, l82, l88, l89, l97, l100, l122, l124, l125, l160, l255, l312, l320, l375, l1000, nI_ltI, nI_leI, nI_eq, nI_add, pk_mul, e_ix, e_neg, if_true, if_false, if_pos, if_neg, f_Mod_hears, a2 M om, d2 M om, b2]
    · refine ⟨-1, M, M, ?_, ?_, ⟨T, hA, hI, hS, hT, hF⟩⟩
      · simp (disch := omega) only [e_bnd, e_bnd2, e_set, e_cpy, e_nmI, e_nmL, e_ckn, e_ckB0, e_ckB1, l0, l1, l2, l3, l4, l5, l6, l7, l8, l9, l10, l11, l12, l13, l14, l15, l16, l17, l18, l19, l20, l21, l22, l24, l25, l32, l39, l40, l41, l48, l50, l56, l57, l59, l60, l72, l79, l80, l81, l82, l88, l89, l97, l100, l122, l124, l125, l160, l255, l312, l320, l375, l1000, nI_ltI, nI_leI, nI_eq, nI_add, pk_mul, e_ix, e_neg, if_true, if_false, if_pos, if_neg, f_Hal_hears, a1 M o, d1 M o]
      · simp (disch := omega) only [e_bnd, e_bnd2, e_set, e_cpy, e_nmI, e_nmL, e_ckn, e_ckB0, e_ckB1, l0, l1, l2, l3, l4, l5, l6, l7, l8, l9, l10, l11, l12, l13, l14, l15, l16, l17, l18, l19, l20, l21, l22, l24, l25, l32, l39, l40, l41, l48, l50, l56, l57, l59, l60, l72, l79, l80, l81, l82, l88, l89, l97, l100, l122, l124, l125, l160, l255, l312, l320, l375, l1000, nI_ltI, nI_leI, nI_eq, nI_add, pk_mul, e_ix, e_neg, if_true, if_false, if_pos, if_neg, f_Mod_hears, a2 M om, d2 M om]
  · refine ⟨-1, M, M, ?_, ?_, ⟨T, hA, hI, hS, hT, hF⟩⟩
    · simp (disch := omega) only [e_bnd, e_bnd2, e_set, e_cpy, e_nmI, e_nmL, e_ckn, e_ckB0, e_ckB1, l0, l1, l2, l3, l4, l5, l6, l7, l8, l9, l10, l11, l12, l13, l14, l15, l16, l17, l18, l19, l20, l21, l22, l24, l25, l32, l39, l40, l41, l48, l50, l56, l57, l59, l60, l72, l79, l80, l81, l82, l88, l89, l97, l100, l122, l124, l125, l160, l255, l312, l320, l375, l1000, nI_ltI, nI_leI, nI_eq, nI_add, pk_mul, e_ix, e_neg, if_true, if_false, if_pos, if_neg, f_Hal_hears, a1 M o]
    · simp (disch := omega) only [e_bnd, e_bnd2, e_set, e_cpy, e_nmI, e_nmL, e_ckn, e_ckB0, e_ckB1, l0, l1, l2, l3, l4, l5, l6, l7, l8, l9, l10, l11, l12, l13, l14, l15, l16, l17, l18, l19, l20, l21, l22, l24, l25, l32, l39, l40, l41, l48, l50, l56, l57, l59, l60, l72, l79, l80, l81, l82, l88, l89, l97, l100, l122, l124, l125, l160, l255, l312, l320, l375, l1000, nI_ltI, nI_leI, nI_eq, nI_add, pk_mul, e_ix, e_neg, if_true, if_false, if_pos, if_neg, f_Mod_hears, a2 M om]
theorem s_heard (x y : Int32) : Sim (f_Hal_heard x y) (f_Mod_heard x y) := by
  intro M ⟨T, hA, hI, hS, hT, hF⟩
  obtain ⟨o, om, g⟩ := id hA
  rcases a_bench g x with ⟨b, hb, rfl, a1, a2⟩ | ⟨a1, a2⟩
  · rcases a_hour y with ⟨h, hh, rfl, b1, b2⟩ | ⟨b1, b2⟩
    · obtain ⟨M1, p1, p2⟩ := c_hearers (gg := 72) o g hb hh (by decide)
      have hA1 := hA.frc p2 (by decide) (by decide)
      obtain ⟨M2, q1, q2⟩ := m_heardOf (h := h) hA1.2.1 g hb hh
      refine ⟨hrs T b h, M1, M2, ?_, ?_, Inv.to hI hS hT hF ((p2.kp (by decide) (by decide)).tr q2.m.kp) (fun _ _ _ => rfl) (hA1.frm q2.m)⟩
      · simp (disch := omega) only [e_bnd, e_bnd2, e_set, e_cpy, e_nmI, e_nmL, e_ckn, e_ckB0, e_ckB1, l0, l1, l2, l3, l4, l5, l6, l7, l8, l9, l10, l11, l12, l13, l14, l15, l16, l17, l18, l19, l20, l21, l22, l24, l25, l32, l39, l40, l41, l48, l50, l56, l57, l59, l60, l72, l79, l80, l81, l82, l88, l89, l97, l100, l122, l124, l125, l160, l255, l312, l320, l375, l1000, nI_ltI, nI_leI, nI_eq, nI_add, pk_mul, e_ix, e_neg, if_true, if_false, if_pos, if_neg, f_Hal_heard, a1 M o, b1, p1]
      · simp (disch := omega) only [e_bnd, e_bnd2, e_set, e_cpy, e_nmI, e_nmL, e_ckn, e_ckB0, e_ckB1, l0, l1, l2, l3, l4, l5, l6, l7, l8, l9, l10, l11, l12, l13, l14, l15, l16, l17, l18, l19, l20, l21, l22, l24, l25, l32, l39, l40, l41, l48, l50, l56, l57, l59, l60, l72, l79, l80, l81, l82, l88, l89, l97, l100, l122, l124, l125, l160, l255, l312, l320, l375, l1000, nI_ltI, nI_leI, nI_eq, nI_add, pk_mul, e_ix, e_neg, if_true, if_false, if_pos, if_neg, f_Mod_heard, a2 M1 hA1.2.1, b2, q1]
    · refine ⟨-1, M, M, ?_, ?_, ⟨T, hA, hI, hS, hT, hF⟩⟩
      · simp (disch := omega) only [e_bnd, e_bnd2, e_set, e_cpy, e_nmI, e_nmL, e_ckn, e_ckB0, e_ckB1, l0, l1, l2, l3, l4, l5, l6, l7, l8, l9, l10, l11, l12, l13, l14, l15, l16, l17, l18, l19, l20, l21, l22, l24, l25, l32, l39, l40, l41, l48, l50, l56, l57, l59, l60, l72, l79, l80, l81, l82, l88, l89, l97, l100, l122, l124, l125, l160, l255, l312, l320, l375, l1000, nI_ltI, nI_leI, nI_eq, nI_add, pk_mul, e_ix, e_neg, if_true, if_false, if_pos, if_neg, f_Hal_heard, a1 M o, b1]
      · simp (disch := omega) only [e_bnd, e_bnd2, e_set, e_cpy, e_nmI, e_nmL, e_ckn, e_ckB0, e_ckB1, l0, l1, l2, l3, l4, l5, l6, l7, l8, l9, l10, l11, l12, l13, l14, l15, l16, l17, l18, l19, l20, l21, l22, l24, l25, l32, l39, l40, l41, l48, l50, l56, l57, l59, l60, l72, l79, l80, l81, l82, l88, l89, l97, l100, l122, l124, l125, l160, l255, l312, l320, l375, l1000, nI_ltI, nI_leI, nI_eq, nI_add, pk_mul, e_ix, e_neg, if_true, if_false, if_pos, if_neg, f_Mod_heard, a2 M om, b2]
  · refine ⟨-1, M, M, ?_, ?_, ⟨T, hA, hI, hS, hT, hF⟩⟩
    · simp (disch := omega) only [e_bnd, e_bnd2, e_set, e_cpy, e_nmI, e_nmL, e_ckn, e_ckB0, e_ckB1, l0, l1, l2, l3, l4, l5, l6, l7, l8, l9, l10, l11, l12, l13, l14, l15, l16, l17, l18, l19, l20, l21, l22, l24, l25, l32, l39, l40, l41, l48, l50, l56, l57, l59, l60, l72, l79, l80, l81, l82, l88, l89, l97, l100, l122, l124, l125, l160, l255, l312, l320, l375, l1000, nI_ltI, nI_leI, nI_eq, nI_add, pk_mul, e_ix, e_neg, if_true, if_false, if_pos, if_neg, f_Hal_heard, a1 M o]
    · simp (disch := omega) only [e_bnd, e_bnd2, e_set, e_cpy, e_nmI, e_nmL, e_ckn, e_ckB0, e_ckB1, l0, l1, l2, l3, l4, l5, l6, l7, l8, l9, l10, l11, l12, l13, l14, l15, l16, l17, l18, l19, l20, l21, l22, l24, l25, l32, l39, l40, l41, l48, l50, l56, l57, l59, l60, l72, l79, l80, l81, l82, l88, l89, l97, l100, l122, l124, l125, l160, l255, l312, l320, l375, l1000, nI_ltI, nI_leI, nI_eq, nI_add, pk_mul, e_ix, e_neg, if_true, if_false, if_pos, if_neg, f_Mod_heard, a2 M om]
theorem answerL {T : Tn} (g : Good T) {b h : Nat} (hb : b < T 4 0) (hh : h < 12) {w : Int32} : ∀ (m n n' k : Nat) (M : Mem), On T M → k + m = T 4 0 → m < n → m < n' → ∃ v M', f_Hal_answer_L34 n (nI b) (nI h) w (nI k) M = some (v, M') ∧ Fr 73 76 M M' ∧ ∀ N, OnM T N → ∃ N', f_Mod_answer_L27 n' (nI b) (nI h) w (nI k) N = some (v, N') ∧ Frp N N' := by
  have h9 := g.n
  intro m
  induction m with
  | zero =>
    intro n n' k M o hk hn hn'
    obtain ⟨n, rfl⟩ : ∃ z, n = z + 1 := ⟨n - 1, by omega⟩
    obtain ⟨n', rfl⟩ : ∃ z, n' = z + 1 := ⟨n' - 1, by omega⟩
    refine ⟨-4, M, ?_, Fr.rf, fun N oN => ⟨N, ?_, Frp.rf⟩⟩
    · rw [f_Hal_answer_L34, o.nb, if_pos (by rw [nI_leI (by omega) (by omega)]; omega)]
    · rw [f_Mod_answer_L27, oN.nb, if_pos (by rw [nI_leI (by omega) (by omega)]; omega)]
  | succ m ih =>
    intro n n' k M o hk hn hn'
    obtain ⟨n, rfl⟩ : ∃ z, n = z + 1 := ⟨n - 1, by omega⟩
    obtain ⟨n', rfl⟩ : ∃ z, n' = z + 1 := ⟨n' - 1, by omega⟩
    have hkb : k < T 4 0 := by omega
    have ne : ¬ nI (T 4 0) ≤ nI k := by rw [nI_leI (by omega) (by omega)]; omega
    by_cases hw : w = jshl 1 (nI k)
    · obtain ⟨M1, p1, p2⟩ := c_hearers (gg := 72) (h := h) o g hkb hh (by decide)
      refine ⟨if hrs T k h = jshl 1 (nI b) then nI k else -4, M1, ?_, p2, fun N oN => ?_⟩
      · rw [f_Hal_answer_L34, o.nb, if_neg ne, if_pos hw, p1, e_bnd2]
        split <;> rfl
      · obtain ⟨N', q1, q2⟩ := m_heardOf (h := h) oN g hkb hh
        refine ⟨N', ?_, q2⟩
        rw [f_Mod_answer_L27, oN.nb, if_neg ne, if_pos hw, q1, e_bnd2]
        split <;> rfl
    · obtain ⟨v, M', a1, a2, a3⟩ := ih n n' (k + 1) M o (by omega) (by omega) (by omega)
      refine ⟨v, M', ?_, a2, fun N oN => ?_⟩
      · rw [f_Hal_answer_L34, o.nb, if_neg ne, if_neg hw, nI_1]
        exact a1
      · obtain ⟨N', b1, b2⟩ := a3 N oN
        refine ⟨N', ?_, b2⟩
        rw [f_Mod_answer_L27, oN.nb, if_neg ne, if_neg hw, nI_1]
        exact b1
theorem s_answer (x y : Int32) : Sim (f_Hal_answer x y) (f_Mod_answer x y) := by
  intro M ⟨T, hA, hI, hS, hT, hF⟩
  obtain ⟨o, om, g⟩ := id hA
  have h9 := g.n
  rcases a_bench g x with ⟨b, hb, rfl, a1, a2⟩ | ⟨a1, a2⟩
  · rcases a_hour y with ⟨h, hh, rfl, b1, b2⟩ | ⟨b1, b2⟩
    · obtain ⟨M1, p1, p2⟩ := c_hearers (gg := 72) o g hb hh (by decide)
      have hA1 := hA.frc p2 (by decide) (by decide)
      obtain ⟨v, M2, r1, r2, r3⟩ := answerL g hb hh (w := hrs T b h) (T 4 0) 1000 1000 0 M1 hA1.1 (by omega) (by omega) (by omega)
      have hA2 := hA1.frc r2 (by decide) (by decide)
      obtain ⟨M3, q1, q2⟩ := m_heardOf (h := h) hA2.2.1 g hb hh
      have hA3 := hA2.frm q2.m
      obtain ⟨M4, s1, s2⟩ := r3 M3 hA3.2.1
      refine ⟨v, M2, M4, ?_, ?_, Inv.to hI hS hT hF ((((p2.kp (by decide) (by decide)).tr (r2.kp (by decide) (by decide))).tr q2.m.kp).tr s2.m.kp) (fun _ _ _ => rfl) (hA3.frm s2.m)⟩
      · unfold f_Hal_answer
        rw [a1 M o, e_bnd, if_neg (by decide), b1, e_bnd, if_neg (by decide), p1, e_bnd2]
        exact r1
      · unfold f_Mod_answer
        rw [a2 M2 hA2.2.1, e_bnd, if_neg (by decide), b2, e_bnd, if_neg (by decide), q1, e_bnd2]
        exact s1
    · refine ⟨-1, M, M, ?_, ?_, ⟨T, hA, hI, hS, hT, hF⟩⟩
      · simp (disch := omega) only [e_bnd, e_bnd2, e_set, e_cpy, e_nmI, e_nmL, e_ckn, e_ckB0, e_ckB1, l0, l1, l2, l3, l4, l5, l6, l7, l8, l9, l10, l11, l12, l13, l14, l15, l16, l17, l18, l19, l20, l21, l22, l24, l25, l32, l39, l40, l41, l48, l50, l56, l57, l59, l60, l72, l79, l80, l81, l82, l88, l89, l97, l100, l122, l124, l125, l160, l255, l312, l320, l375, l1000, nI_ltI, nI_leI, nI_eq, nI_add, pk_mul, e_ix, e_neg, if_true, if_false, if_pos, if_neg, f_Hal_answer, a1 M o, b1]
      · simp (disch := omega) only [e_bnd, e_bnd2, e_set, e_cpy, e_nmI, e_nmL, e_ckn, e_ckB0, e_ckB1, l0, l1, l2, l3, l4, l5, l6, l7, l8, l9, l10, l11, l12, l13, l14, l15, l16, l17, l18, l19, l20, l21, l22, l24, l25, l32, l39, l40, l41, l48, l50, l56, l57, l59, l60, l72, l79, l80, l81, l82, l88, l89, l97, l100, l122, l124, l125, l160, l255, l312, l320, l375, l1000, nI_ltI, nI_leI, nI_eq, nI_add, pk_mul, e_ix, e_neg, if_true, if_false, if_pos, if_neg, f_Mod_answer, a2 M om, b2]
  · refine ⟨-1, M, M, ?_, ?_, ⟨T, hA, hI, hS, hT, hF⟩⟩
    · simp (disch := omega) only [e_bnd, e_bnd2, e_set, e_cpy, e_nmI, e_nmL, e_ckn, e_ckB0, e_ckB1, l0, l1, l2, l3, l4, l5, l6, l7, l8, l9, l10, l11, l12, l13, l14, l15, l16, l17, l18, l19, l20, l21, l22, l24, l25, l32, l39, l40, l41, l48, l50, l56, l57, l59, l60, l72, l79, l80, l81, l82, l88, l89, l97, l100, l122, l124, l125, l160, l255, l312, l320, l375, l1000, nI_ltI, nI_leI, nI_eq, nI_add, pk_mul, e_ix, e_neg, if_true, if_false, if_pos, if_neg, f_Hal_answer, a1 M o]
    · simp (disch := omega) only [e_bnd, e_bnd2, e_set, e_cpy, e_nmI, e_nmL, e_ckn, e_ckB0, e_ckB1, l0, l1, l2, l3, l4, l5, l6, l7, l8, l9, l10, l11, l12, l13, l14, l15, l16, l17, l18, l19, l20, l21, l22, l24, l25, l32, l39, l40, l41, l48, l50, l56, l57, l59, l60, l72, l79, l80, l81, l82, l88, l89, l97, l100, l122, l124, l125, l160, l255, l312, l320, l375, l1000, nI_ltI, nI_leI, nI_eq, nI_add, pk_mul, e_ix, e_neg, if_true, if_false, if_pos, if_neg, f_Mod_answer, a2 M om]
/-- the people who hear one p -/
def ppl (T : Tn) (p h : Nat) : Int32 := orN (fun q => decide (hbN T (T 3 p) (T 3 q) h = 1)) (T 1 5)
theorem c_pplL {T : Tn} {M : Mem} (o : On T M) (g : Good T) {gg p h : Nat} (hp : p < T 1 5) : ∀ (m n k : Nat), k + m = T 1 5 → m < n → f_Hea_peopleHearing_L34 gg n (hrs T (T 3 p) h) (orN (fun q => decide (hbN T (T 3 p) (T 3 q) h = 1)) k) (nI k) M = some (ppl T p h, M) := by
  have h9 := g.n
  intro m
  induction m with
  | zero =>
    intro n k hk hn
    obtain ⟨n, rfl⟩ : ∃ z, n = z + 1 := ⟨n - 1, by omega⟩
    have e : k = T 1 5 := by omega
    subst e
    rw [f_Hea_peopleHearing_L34, o.s5, if_pos (by rw [nI_leI (by omega) (by omega)]; omega)]
    rfl
  | succ m ih =>
    intro n k hk hn
    obtain ⟨n, rfl⟩ : ∃ z, n = z + 1 := ⟨n - 1, by omega⟩
    have hkp : k < T 1 5 := by omega
    have hs := g.p hkp
    have hle := hbN_le (T := T) (b := T 3 p) (c := T 3 k) (h := h)
    have ih2 := ih n (k + 1) (by omega) (by omega)
    rw [orN_s] at ih2
    rw [f_Hea_peopleHearing_L34, o.s5, if_neg (by rw [nI_leI (by omega) (by omega)]; omega), c_seat o g hkp, e_bnd, if_neg (by rw [l4, e_neg (by omega) (by omega) (by omega)]; exact id), f_Hal_bit, hrs_bit g hs, e_bnd, nI_1, e_nmI]
    by_cases h1 : hbN T (T 3 p) (T 3 k) h = 1
    · rw [if_pos (by rw [h1]; rfl)]
      rw [if_pos (by simp [h1])] at ih2
      exact ih2
    · rw [if_neg (by rw [l1, nI_eq (by omega) (by omega)]; exact h1)]
      rw [if_neg (by simp [h1])] at ih2
      exact ih2
theorem c_ppl {T : Tn} {M : Mem} (o : On T M) (g : Good T) {gg p h : Nat} (hp : p < T 1 5) (hh : h < 12) (hg : 18 ≤ gg) : ∃ M', f_Hea_peopleHearing gg (nI p) (nI h) M = some (ppl T p h, M') ∧ Fr (gg + 1) (gg + 4) M M' := by
  have h9 := g.n
  have hs := g.p hp
  obtain ⟨M1, p1, p2⟩ := c_hearers (gg := gg) (h := h) o g hs hh hg
  refine ⟨M1, ?_, p2⟩
  unfold f_Hea_peopleHearing f_Hea_peopleHearing_J26
  rw [c_seat o g hp, e_bnd, if_neg (by rw [l4, e_neg (by omega) (by omega) (by omega)]; exact id), p1, e_bnd2]
  exact c_pplL (o.fr p2 (by omega)) g hp (T 1 5) 1000 0 (by omega) (by omega)
theorem s_can (x y z : Int32) : Sim (f_Hal_can x y z) (f_Mod_can x y z) := by
  intro M ⟨T, hA, hI, hS, hT, hF⟩
  obtain ⟨o, om, g⟩ := id hA
  have h9 := g.n
  rcases a_one g x with ⟨p, hp, rfl, a1, a2⟩ | ⟨a1, a2⟩
  · rcases a_one g y with ⟨q, hq, rfl, d1, d2⟩ | ⟨d1, d2⟩
    · by_cases hpq : p = q
      · refine ⟨-1, M, M, ?_, ?_, ⟨T, hA, hI, hS, hT, hF⟩⟩
        · simp (disch := omega) only [e_bnd, e_bnd2, e_set, e_cpy, e_nmI, e_nmL, e_ckn, e_ckB0, e_ckB1, l0, l1, l2, l3, l4, l5, l6, l7, l8, l9, l10, l11, l12, l13, l14, l15, l16, l17, l18, l19, l20, l21, l22, l24, l25, l32, l39, l40, l41, l48, l50, l56, l57, l59, l60, l72, l79, l80, l81, l82, l88, l89, l97, l100, l122, l124, l125, l160, l255, l312, l320, l375, l1000, nI_ltI, nI_leI, nI_eq, nI_add, pk_mul, e_ix, e_neg, if_true, if_false, if_pos, if_neg, f_Hal_can, a1 M o, d1 M o]
        · simp (disch := omega) only [e_bnd, e_bnd2, e_set, e_cpy, e_nmI, e_nmL, e_ckn, e_ckB0, e_ckB1, l0, l1, l2, l3, l4, l5, l6, l7, l8, l9, l10, l11, l12, l13, l14, l15, l16, l17, l18, l19, l20, l21, l22, l24, l25, l32, l39, l40, l41, l48, l50, l56, l57, l59, l60, l72, l79, l80, l81, l82, l88, l89, l97, l100, l122, l124, l125, l160, l255, l312, l320, l375, l1000, nI_ltI, nI_leI, nI_eq, nI_add, pk_mul, e_ix, e_neg, if_true, if_false, if_pos, if_neg, f_Mod_can, a2 M om, d2 M om]
      · rcases a_hour z with ⟨h, hh, rfl, b1, b2⟩ | ⟨b1, b2⟩
        · obtain ⟨M1, p1, p2⟩ := c_ppl (gg := 72) (h := h) o g hp hh (by decide)
          have hA1 := hA.frc p2 (by decide) (by decide)
          obtain ⟨M2, q1, q2⟩ := m_heardOf (h := h) hA1.2.1 g (g.p hp) hh
          have hA2 := hA1.frm q2.m
          have hle := hbN_le (T := T) (b := T 3 p) (c := T 3 q) (h := h)
          refine ⟨nI (hbN T (T 3 p) (T 3 q) h), M1, M2, ?_, ?_, Inv.to hI hS hT hF ((p2.kp (by decide) (by decide)).tr q2.m.kp) (fun _ _ _ => rfl) hA2⟩
          · have e : jshr (ppl T p h) (nI q) &&& 1 = nI (hbN T (T 3 p) (T 3 q) h) := by
              unfold ppl
              rw [orN_bit (by omega) (by omega)]
              by_cases h1 : hbN T (T 3 p) (T 3 q) h = 1
              · rw [if_pos ⟨hq, by simp [h1]⟩, h1]
              · rw [if_neg (by simp [h1]), show hbN T (T 3 p) (T 3 q) h = 0 by omega]
            unfold f_Hal_can f_Hal_bit
            rw [a1 M o, e_bnd, if_neg (by decide), d1 M o, e_bnd, if_neg (by decide), if_neg (by rw [nI_eq (by omega) (by omega)]; exact hpq), b1, e_bnd, if_neg (by decide), p1, e_bnd2, e, e_bnd]
          · have e := hrs_bit (b := T 3 p) (h := h) g (g.p hq)
            unfold f_Mod_can
            rw [a2 M1 hA1.2.1, e_bnd, if_neg (by decide), d2 M1 hA1.2.1, e_bnd, if_neg (by decide), if_neg (by rw [nI_eq (by omega) (by omega)]; exact hpq), b2, e_bnd, if_neg (by decide), l82, nI_add, nI_add, e_ckn (by omega) (by decide), show ix (nI (82 + p)) = 82 + p from e_ix (by omega), hA1.2.1.p (by omega), q1, e_bnd2, e_ckn (by omega) (by decide), show ix (nI (82 + q)) = 82 + q from e_ix (by omega), hA2.2.1.p (by omega), e]
        · refine ⟨-1, M, M, ?_, ?_, ⟨T, hA, hI, hS, hT, hF⟩⟩
          · simp (disch := omega) only [e_bnd, e_bnd2, e_set, e_cpy, e_nmI, e_nmL, e_ckn, e_ckB0, e_ckB1, l0, l1, l2, l3, l4, l5, l6, l7, l8, l9, l10, l11, l12, l13, l14, l15, l16, l17, l18, l19, l20, l21, l22, l24, l25, l32, l39, l40, l41, l48, l50, l56, l57, l59, l60, l72, l79, l80, l81, l82, l88, l89, l97, l100, l122, l124, l125, l160, l255, l312, l320, l375, l1000, nI_ltI, nI_leI, nI_eq, nI_add, pk_mul, e_ix, e_neg, if_true, if_false, if_pos, if_neg, f_Hal_can, a1 M o, d1 M o, b1]
          · simp (disch := omega) only [e_bnd, e_bnd2, e_set, e_cpy, e_nmI, e_nmL, e_ckn, e_ckB0, e_ckB1, l0, l1, l2, l3, l4, l5, l6, l7, l8, l9, l10, l11, l12, l13, l14, l15, l16, l17, l18, l19, l20, l21, l22, l24, l25, l32, l39, l40, l41, l48, l50, l56, l57, l59, l60, l72, l79, l80, l81, l82, l88, l89, l97, l100, l122, l124, l125, l160, l255, l312, l320, l375, l1000, nI_ltI, nI_leI, nI_eq, nI_add, pk_mul, e_ix, e_neg, if_true, if_false, if_pos, if_neg, f_Mod_can, a2 M om, d2 M om, b2]
    · refine ⟨-1, M, M, ?_, ?_, ⟨T, hA, hI, hS, hT, hF⟩⟩
      · simp (disch := omega) only [e_bnd, e_bnd2, e_set, e_cpy, e_nmI, e_nmL, e_ckn, e_ckB0, e_ckB1, l0, l1, l2, l3, l4, l5, l6, l7, l8, l9, l10, l11, l12, l13, l14, l15, l16, l17, l18, l19, l20, l21, l22, l24, l25, l32, l39, l40, l41, l48, l50, l56, l57, l59, l60, l72, l79, l80, l81, l82, l88, l89, l97, l100, l122, l124, l125, l160, l255, l312, l320, l375, l1000, nI_ltI, nI_leI, nI_eq, nI_add, pk_mul, e_ix, e_neg, if_true, if_false, if_pos, if_neg, f_Hal_can, a1 M o, d1 M o]
      · simp (disch := omega) only [e_bnd, e_bnd2, e_set, e_cpy, e_nmI, e_nmL, e_ckn, e_ckB0, e_ckB1, l0, l1, l2, l3, l4, l5, l6, l7, l8, l9, l10, l11, l12, l13, l14, l15, l16, l17, l18, l19, l20, l21, l22, l24, l25, l32, l39, l40, l41, l48, l50, l56, l57, l59, l60, l72, l79, l80, l81, l82, l88, l89, l97, l100, l122, l124, l125, l160, l255, l312, l320, l375, l1000, nI_ltI, nI_leI, nI_eq, nI_add, pk_mul, e_ix, e_neg, if_true, if_false, if_pos, if_neg, f_Mod_can, a2 M om, d2 M om]
  · refine ⟨-1, M, M, ?_, ?_, ⟨T, hA, hI, hS, hT, hF⟩⟩
    · simp (disch := omega) only [e_bnd, e_bnd2, e_set, e_cpy, e_nmI, e_nmL, e_ckn, e_ckB0, e_ckB1, l0, l1, l2, l3, l4, l5, l6, l7, l8, l9, l10, l11, l12, l13, l14, l15, l16, l17, l18, l19, l20, l21, l22, l24, l25, l32, l39, l40, l41, l48, l50, l56, l57, l59, l60, l72, l79, l80, l81, l82, l88, l89, l97, l100, l122, l124, l125, l160, l255, l312, l320, l375, l1000, nI_ltI, nI_leI, nI_eq, nI_add, pk_mul, e_ix, e_neg, if_true, if_false, if_pos, if_neg, f_Hal_can, a1 M o]
    · simp (disch := omega) only [e_bnd, e_bnd2, e_set, e_cpy, e_nmI, e_nmL, e_ckn, e_ckB0, e_ckB1, l0, l1, l2, l3, l4, l5, l6, l7, l8, l9, l10, l11, l12, l13, l14, l15, l16, l17, l18, l19, l20, l21, l22, l24, l25, l32, l39, l40, l41, l48, l50, l56, l57, l59, l60, l72, l79, l80, l81, l82, l88, l89, l97, l100, l122, l124, l125, l160, l255, l312, l320, l375, l1000, nI_ltI, nI_leI, nI_eq, nI_add, pk_mul, e_ix, e_neg, if_true, if_false, if_pos, if_neg, f_Mod_can, a2 M om]
theorem s_broken (y : Int32) : Sim (f_Hal_broken y) (f_Mod_broken y) := by
  intro M ⟨T, hA, hI, hS, hT, hF⟩
  obtain ⟨o, om, g⟩ := id hA
  rcases a_hour y with ⟨h, hh, rfl, b1, b2⟩ | ⟨b1, b2⟩
  · obtain ⟨M1, p1, p2⟩ := c_broken (gg := 72) (h := h) o g hh (by decide)
    have hA1 := hA.frc p2 (by decide) (by decide)
    obtain ⟨M2, q1, q2⟩ := m_broken (h := h) hA1.2.1 g hh
    refine ⟨brk T h, M1, M2, ?_, ?_, Inv.to hI hS hT hF ((p2.kp (by decide) (by decide)).tr q2.m.kp) (fun _ _ _ => rfl) (hA1.frm q2.m)⟩
    · simp (disch := omega) only [e_bnd, e_bnd2, e_set, e_cpy, e_nmI, e_nmL, e_ckn, e_ckB0, e_ckB1, l0, l1, l2, l3, l4, l5, l6, l7, l8, l9, l10, l11, l12, l13, l14, l15, l16, l17, l18, l19, l20, l21, l22, l24, l25, l32, l39, l40, l41, l48, l50, l56, l57, l59, l60, l72, l79, l80, l81, l82, l88, l89, l97, l100, l122, l124, l125, l160, l255, l312, l320, l375, l1000, nI_ltI, nI_leI, nI_eq, nI_add, pk_mul, e_ix, e_neg, if_true, if_false, if_pos, if_neg, f_Hal_broken, b1, p1]
    · simp (disch := omega) only [e_bnd, e_bnd2, e_set, e_cpy, e_nmI, e_nmL, e_ckn, e_ckB0, e_ckB1, l0, l1, l2, l3, l4, l5, l6, l7, l8, l9, l10, l11, l12, l13, l14, l15, l16, l17, l18, l19, l20, l21, l22, l24, l25, l32, l39, l40, l41, l48, l50, l56, l57, l59, l60, l72, l79, l80, l81, l82, l88, l89, l97, l100, l122, l124, l125, l160, l255, l312, l320, l375, l1000, nI_ltI, nI_leI, nI_eq, nI_add, pk_mul, e_ix, e_neg, if_true, if_false, if_pos, if_neg, f_Mod_broken, b2, q1]
  · refine ⟨-1, M, M, ?_, ?_, ⟨T, hA, hI, hS, hT, hF⟩⟩
    · simp (disch := omega) only [e_bnd, e_bnd2, e_set, e_cpy, e_nmI, e_nmL, e_ckn, e_ckB0, e_ckB1, l0, l1, l2, l3, l4, l5, l6, l7, l8, l9, l10, l11, l12, l13, l14, l15, l16, l17, l18, l19, l20, l21, l22, l24, l25, l32, l39, l40, l41, l48, l50, l56, l57, l59, l60, l72, l79, l80, l81, l82, l88, l89, l97, l100, l122, l124, l125, l160, l255, l312, l320, l375, l1000, nI_ltI, nI_leI, nI_eq, nI_add, pk_mul, e_ix, e_neg, if_true, if_false, if_pos, if_neg, f_Hal_broken, b1]
    · simp (disch := omega) only [e_bnd, e_bnd2, e_set, e_cpy, e_nmI, e_nmL, e_ckn, e_ckB0, e_ckB1, l0, l1, l2, l3, l4, l5, l6, l7, l8, l9, l10, l11, l12, l13, l14, l15, l16, l17, l18, l19, l20, l21, l22, l24, l25, l32, l39, l40, l41, l48, l50, l56, l57, l59, l60, l72, l79, l80, l81, l82, l88, l89, l97, l100, l122, l124, l125, l160, l255, l312, l320, l375, l1000, nI_ltI, nI_leI, nI_eq, nI_add, pk_mul, e_ix, e_neg, if_true, if_false, if_pos, if_neg, f_Mod_broken, b2]
def ubP (T : Tn) : Nat → Bool := fun h => decide (brk T h = 0)
theorem c_hoursL {T : Tn} (g : Good T) : ∀ (m n k : Nat) (M : Mem), On T M → k + m = 12 → m < n → ∃ M', f_Hal_hours_L4 n (orN (ubP T) k) (nI k) M = some (orN (ubP T) 12, M') ∧ Fr 73 77 M M' := by
  intro m
  induction m with
  | zero =>
    intro n k M o hk hn
    obtain ⟨n, rfl⟩ : ∃ z, n = z + 1 := ⟨n - 1, by omega⟩
    have e : k = 12 := by omega
    subst e
    exact ⟨M, by rw [f_Hal_hours_L4, if_pos (by decide)], Fr.rf⟩
  | succ m ih =>
    intro n k M o hk hn
    obtain ⟨n, rfl⟩ : ∃ z, n = z + 1 := ⟨n - 1, by omega⟩
    obtain ⟨M1, p1, p2⟩ := c_broken (gg := 72) (h := k) o g (by omega) (by decide)
    obtain ⟨M', r1, r2⟩ := ih n (k + 1) M1 (o.fr p2 (by decide)) (by omega) (by omega)
    rw [orN_s] at r1
    refine ⟨M', ?_, p2.tr r2⟩
    rw [f_Hal_hours_L4, if_neg (by rw [l12, nI_leI (by omega) (by omega)]; omega), p1, e_bnd2, nI_1, e_nmI]
    by_cases h0 : brk T k = 0
    · rw [if_pos h0]
      rw [if_pos (by simp [ubP, h0])] at r1
      exact r1
    · rw [if_neg h0]
      rw [if_neg (by simp [ubP, h0])] at r1
      exact r1
theorem jshl_0 : ∀ i, i < 32 → jshl 0 (nI i) = 0 := by decide +kernel
theorem m_hoursL {T : Tn} (g : Good T) : ∀ (m n k : Nat) (M : Mem), OnM T M → k + m = 12 → m < n → ∃ M', f_Mod_hours_L4 n (orN (ubP T) k) (nI k) M = some (orN (ubP T) 12, M') ∧ Frb M M' := by
  intro m
  induction m with
  | zero =>
    intro n k M o hk hn
    obtain ⟨n, rfl⟩ : ∃ z, n = z + 1 := ⟨n - 1, by omega⟩
    have e : k = 12 := by omega
    subst e
    exact ⟨M, by rw [f_Mod_hours_L4, if_pos (by decide)], Frb.rf⟩
  | succ m ih =>
    intro n k M o hk hn
    obtain ⟨n, rfl⟩ : ∃ z, n = z + 1 := ⟨n - 1, by omega⟩
    obtain ⟨M1, p1, p2⟩ := m_broken (h := k) o g (by omega)
    obtain ⟨M', r1, r2⟩ := ih n (k + 1) M1 (o.fr p2.m) (by omega) (by omega)
    rw [orN_s] at r1
    refine ⟨M', ?_, p2.tr r2⟩
    rw [f_Mod_hours_L4, if_neg (by rw [l12, nI_leI (by omega) (by omega)]; omega), p1, e_bnd2]
    by_cases h0 : brk T k = 0
    · rw [if_pos h0, f_Mod_hours_J24, f_Mod_flag, if_neg (by decide), e_bnd, nI_1, e_nmI]
      rw [if_pos (by simp [ubP, h0])] at r1
      exact r1
    · rw [if_neg h0, f_Mod_hours_J24, f_Mod_flag, if_pos rfl, e_bnd, nI_1, e_nmI, jshl_0 k (by omega), b_or0]
      rw [if_neg (by simp [ubP, h0])] at r1
      exact r1
theorem s_hours : Sim f_Hal_hours f_Mod_hours := by
  intro M ⟨T, hA, hI, hS, hT, hF⟩
  obtain ⟨o, om, g⟩ := id hA
  obtain ⟨M1, p1, p2⟩ := c_hoursL g 12 1000 0 M o rfl (by decide)
  have hA1 := hA.frc p2 (by decide) (by decide)
  obtain ⟨M2, q1, q2⟩ := m_hoursL g 12 1000 0 M1 hA1.2.1 rfl (by decide)
  exact ⟨orN (ubP T) 12, M1, M2, p1, q1, Inv.to hI hS hT hF ((p2.kp (by decide) (by decide)).tr q2.m.kp) (fun _ _ _ => rfl) (hA1.frm q2.m)⟩
