/-! pure: the way of a whisper, the reference's -/
theorem in_J {v : Int} {w : Nat} (hw : w ≤ 9) (h1 : -10 ≤ v) (h2 : v ≤ 20) : f_Mod_in (J v).toInt64 0 ((nI w - 1).toInt64) = some (if 0 ≤ v ∧ v < w then nI 1 else nI 0) := by
  have e : f_Mod_in (J v).toInt64 0 ((nI w - 1).toInt64) = some (if (0 : Int32) ≤ J v ∧ J v ≤ nI w - 1 then nI 1 else nI 0) := m_in0 _ rfl rfl
  rw [e, show (0 : Int32) = J 0 from rfl, show nI w - 1 = J ((w : Int) - 1) from by rw [J_nI, show (1 : Int32) = J 1 from rfl, J_sub]]
  simp (disch := omega) only [J_le]
  by_cases h : 0 ≤ v ∧ v < w
  · rw [if_pos h, if_pos (by omega)]
  · rw [if_neg h, if_neg (by omega)]
section PM
variable {T : Tn} {M : Mem} {k49 : Int32 → Int32 → Int32 → Int32 → Int32 → Int32 → Int32 → Mem → Option Mem}
theorem s179 (o : OnM T M) (g : Good T) {x y n : Int} {r k : Nat} {x6 x7 : Int32} (hx : 0 ≤ x ∧ x < T 1 0) (hy : 0 ≤ y ∧ y < T 1 1) (hn : 0 ≤ n ∧ n ≤ 80) (hk : k ≤ 40) (hr : r ≤ 1) :
    f_Mod_layPath_J179 k49 (nI r) (J x) (J y) x6 x7 (nI k) (J n) M = if pok T r k x y n = true then k49 (nI r) (J x) (J y) x6 x7 (nI 1) (nI (k + 1)) (upd2 (upd2 (upd2 M 113 k (nI (pc x y))) 114 k (J n)) 103 31 (nI k)) else k49 (nI r) (J x) (J y) x6 x7 (nI 0) (nI (k + 1)) M := by
  have hc := (pc_lt g hx hy).1
  have hb := plo_bd g hk hn.1 hn.2
  have g2 := g.c hc
  have yes : f_Mod_layPath_J236 k49 (nI r) (J x) (J y) x6 x7 (nI k) (J n) 1 M = k49 (nI r) (J x) (J y) x6 x7 (nI 1) (nI (k + 1)) (upd2 (upd2 (upd2 M 113 k (nI (pc x y))) 114 k (J n)) 103 31 (nI k)) := by
    unfold f_Mod_layPath_J236
    rw [if_neg (by decide), pc_J hx.1 hy.1]
    simp (disch := omega) only [e_bnd, e_bnd2, e_set, e_cpy, e_nmI, e_nmL, e_ckn, e_ckB0, e_ckB1, l0, l1, l2, l3, l4, l5, l6, l7, l8, l9, l10, l11, l12, l13, l14, l15, l16, l17, l18, l19, l20, l21, l22, l24, l25, l32, l39, l40, l41, l48, l50, l56, l57, l59, l60, l72, l79, l80, l81, l82, l88, l89, l97, l100, l122, l124, l125, l160, l255, l312, l320, l375, l1000, nI_ltI, nI_leI, nI_eq, nI_add, pk_mul, e_ix, e_neg, if_true, if_false, if_pos, if_neg]
  have no : f_Mod_layPath_J235 k49 (nI r) (J x) (J y) x6 x7 (nI k) (J n) M = k49 (nI r) (J x) (J y) x6 x7 (nI 0) (nI (k + 1)) M := by
    unfold f_Mod_layPath_J235 f_Mod_layPath_J236
    rw [if_pos rfl]
    simp (disch := omega) only [e_bnd, e_bnd2, e_set, e_cpy, e_nmI, e_nmL, e_ckn, e_ckB0, e_ckB1, l0, l1, l2, l3, l4, l5, l6, l7, l8, l9, l10, l11, l12, l13, l14, l15, l16, l17, l18, l19, l20, l21, l22, l24, l25, l32, l39, l40, l41, l48, l50, l56, l57, l59, l60, l72, l79, l80, l81, l82, l88, l89, l97, l100, l122, l124, l125, l160, l255, l312, l320, l375, l1000, nI_ltI, nI_leI, nI_eq, nI_add, pk_mul, e_ix, e_neg, if_true, if_false, if_pos, if_neg]
  have l210 : f_Mod_layPath_J210 k49 (nI r) (J x) (J y) x6 x7 (nI k) (J n) M = if 0 < plo T k n then k49 (nI r) (J x) (J y) x6 x7 (nI 1) (nI (k + 1)) (upd2 (upd2 (upd2 M 113 k (nI (pc x y))) 114 k (J n)) 103 31 (nI k)) else k49 (nI r) (J x) (J y) x6 x7 (nI 0) (nI (k + 1)) M := by
    unfold f_Mod_layPath_J210
    rw [o.s2, o.s3, lo_J, show (0 : Int32) = J 0 from rfl]
    simp (disch := omega) only [J_le]
    by_cases h1 : plo T k n ≤ 0
    · rw [if_pos h1, no, if_neg (by omega)]
    · rw [if_neg h1, if_pos (by omega)]
      exact yes
  unfold f_Mod_layPath_J179
  rw [pc_J hx.1 hy.1, e_ckn (by omega) (by decide), e_nmI, show ix (nI (pc x y)) = pc x y from e_ix (by omega), o.c hc]
  by_cases h2 : T 2 (pc x y) = 1
  · rw [h2, if_pos (show nI 1 = 1 from rfl), no, if_neg]
    simp [pok, h2]
  · rw [if_neg (by rw [l1, nI_eq (by omega) (by omega)]; exact h2)]
    by_cases h3 : T 2 (pc x y) = 2
    · rw [h3, if_pos (show nI 2 = 2 from rfl)]
      by_cases h4 : r = 0
      · rw [h4] at no ⊢
        rw [if_pos (show nI 0 = 0 from rfl), no, if_neg]
        simp [pok, h3]
      · rw [if_neg (by rw [l0, nI_eq (by omega) (by omega)]; exact h4), l210]
        have h5 : r = 1 := by omega
        by_cases h6 : 0 < plo T k n
        · rw [if_pos h6, if_pos (by simp [pok, h3, h5, h6])]
        · rw [if_neg h6, if_neg (by simp [pok, h6])]
    · rw [if_neg (by rw [l2, nI_eq (by omega) (by omega)]; exact h3), l210]
      by_cases h6 : 0 < plo T k n
      · rw [if_pos h6, if_pos (by simp [pok, h3, h2, h6])]
      · rw [if_neg h6, if_neg (by simp [pok, h6])]
theorem s128 (o : OnM T M) (g : Good T) {x y dx dy : Int} {k : Nat} {x3 x10 : Int32} (hy : -1 ≤ y + dy ∧ y + dy ≤ 9) (hk : k ≤ 40) :
    f_Mod_layPath_J128 k49 x3 (J x) (J y) (J dx) (J dy) (nI k) x10 M = f_Mod_layPath_J179 k49 x3 (J (x + dx)) (J (sw T k (y + dy))) (J dx) (J dy) (nI k) x10 M := by
  have g1 := g.warm
  have g2 := g.h
  unfold f_Mod_layPath_J128
  rw [J_add, J_add, e_nmI, e_nmI, show ix 81 = 81 from rfl, o.s4, o.s1]
  by_cases h1 : T 1 4 = 0
  · rw [h1, if_pos (show nI 0 ≤ 0 from by decide), sw, if_neg (by omega)]
  · rw [if_neg (by rw [l0, nI_leI (by omega) (by omega)]; omega), if_neg (by rw [l0, nI_eq (by omega) (by omega)]; omega), j_rem (by omega) (by omega) (by omega)]
    have h9 : k % T 1 4 < T 1 4 := Nat.mod_lt _ (by omega)
    by_cases h2 : k % T 1 4 = 0
    · rw [h2, if_pos (show nI 0 = 0 from rfl), show (1 : Int32) = J 1 from rfl, J_add, J_nI (T 1 1)]
      by_cases h3 : y + dy + 1 < T 1 1
      · rw [if_neg (by rw [J_le (by omega) (by omega) (by omega) (by omega)]; omega), sw, if_pos (by omega)]
      · rw [if_pos (by rw [J_le (by omega) (by omega) (by omega) (by omega)]; omega), sw, if_neg (by omega)]
    · rw [if_neg (by rw [l0, nI_eq (by omega) (by omega)]; omega), sw, if_neg (by omega)]
theorem s100 (o : OnM T M) (g : Good T) {x y dx dy n : Int} {k : Nat} {x3 : Int32} (hy : 0 ≤ y ∧ y < T 1 1) (hd : -1 ≤ dy ∧ dy ≤ 1) (hk : k ≤ 40) :
    f_Mod_layPath_J100 k49 x3 (J x) (J y) (J dx) (J dy) (nI k) (J n) M = f_Mod_layPath_J179 k49 x3 (J (x + dx)) (J (sw T k (sx (T 1 1) y dy n).1)) (J dx) (J (sx (T 1 1) y dy n).2.1) (nI k) (J (sx (T 1 1) y dy n).2.2) M := by
  have g2 := g.h
  unfold f_Mod_layPath_J100
  rw [J_add, o.s1, in_J (by omega) (by omega) (by omega), e_bnd, show (1 : Int32) = J 1 from rfl, J_neg, J_add, e_nmI]
  by_cases h1 : 0 ≤ y + dy ∧ y + dy < T 1 1
  · rw [if_pos h1, if_neg (by decide), s128 o g (by omega) hk, sx, if_neg (by omega)]
  · rw [if_neg h1, if_pos (by decide), s128 o g (by omega) hk, sx, if_pos (by omega)]
theorem s49 (o : OnM T M) (g : Good T) {q : PS} {r k n : Nat} (hq : pin T k q) (hk : k < 40) (hr : r ≤ 1) (hb : M 114 k = J q.2.2.2.2) :
    f_Mod_layPath_L49 (n + 1) (nI r) (J q.1) (J q.2.1) (J q.2.2.1) (J q.2.2.2.1) (nI 1) (nI (k + 1)) M = if pkq T r (k + 1) (stp T (k + 1) q) = true then
      f_Mod_layPath_L49 n (nI r) (J (stp T (k + 1) q).1) (J (stp T (k + 1) q).2.1) (J (stp T (k + 1) q).2.2.1) (J (stp T (k + 1) q).2.2.2.1) (nI 1) (nI (k + 1 + 1)) (upd2 (upd2 (upd2 M 113 (k + 1) (nI (pcq (stp T (k + 1) q)))) 114 (k + 1) (J (stp T (k + 1) q).2.2.2.2)) 103 31 (nI (k + 1))) else
      f_Mod_layPath_L49 n (nI r) (J (stp T (k + 1) q).1) (J (stp T (k + 1) q).2.1) (J (stp T (k + 1) q).2.2.1) (J (stp T (k + 1) q).2.2.2.1) (nI 0) (nI (k + 1 + 1)) M := by
  have hs := stp_in g hq
  obtain ⟨h1, h2, h3, h4, h5⟩ := hq
  have g2 := g.w
  rw [f_Mod_layPath_L49, if_neg (by rw [l40, nI_ltI (by omega) (by omega)]; omega), if_neg (by decide), nI_pred, e_ckn (by omega) (by decide), e_nmI, show ix (nI k) = k from e_ix (by omega), hb, J_add, o.s0, in_J (by omega) (by omega) (by omega), e_bnd]
  have key : ∀ dx' n' : Int, sx (T 1 0) q.1 q.2.2.1 q.2.2.2.2 = (q.1 + dx', dx', n') → f_Mod_layPath_J100 (f_Mod_layPath_L49 n) (nI r) (J q.1) (J q.2.1) (J dx') (J q.2.2.2.1) (nI (k + 1)) (J n') M = if pkq T r (k + 1) (stp T (k + 1) q) = true then
      f_Mod_layPath_L49 n (nI r) (J (stp T (k + 1) q).1) (J (stp T (k + 1) q).2.1) (J (stp T (k + 1) q).2.2.1) (J (stp T (k + 1) q).2.2.2.1) (nI 1) (nI (k + 1 + 1)) (upd2 (upd2 (upd2 M 113 (k + 1) (nI (pcq (stp T (k + 1) q)))) 114 (k + 1) (J (stp T (k + 1) q).2.2.2.2)) 103 31 (nI (k + 1))) else
      f_Mod_layPath_L49 n (nI r) (J (stp T (k + 1) q).1) (J (stp T (k + 1) q).2.1) (J (stp T (k + 1) q).2.2.1) (J (stp T (k + 1) q).2.2.2.1) (nI 0) (nI (k + 1 + 1)) M := by
    intro dx' n' e
    have e1 : (stp T (k + 1) q).1 = q.1 + dx' := congrArg Prod.fst e
    have e2 : (stp T (k + 1) q).2.1 = sw T (k + 1) (sx (T 1 1) q.2.1 q.2.2.2.1 n').1 := by show sw _ _ (sx _ _ _ (sx _ _ _ _).2.2).1 = _; rw [e]
    have e3 : (stp T (k + 1) q).2.2.1 = dx' := by show (sx _ _ _ _).2.1 = _; rw [e]
    have e4 : (stp T (k + 1) q).2.2.2.1 = (sx (T 1 1) q.2.1 q.2.2.2.1 n').2.1 := by show (sx _ _ _ (sx _ _ _ _).2.2).2.1 = _; rw [e]
    have e5 : (stp T (k + 1) q).2.2.2.2 = (sx (T 1 1) q.2.1 q.2.2.2.1 n').2.2 := by show (sx _ _ _ (sx _ _ _ _).2.2).2.2 = _; rw [e]
    obtain ⟨i1, i2, i3, i4, i5⟩ := hs
    unfold pkq pcq
    rw [e1] at i1 ⊢
    rw [e2] at i2 ⊢
    rw [e3, e4]
    rw [e5] at i5 ⊢
    rw [s100 o g h2 h4 (by omega), s179 o g i1 i2 ⟨i5.1, by omega⟩ (by omega) hr]
  by_cases c1 : 0 ≤ q.1 + q.2.2.1 ∧ q.1 + q.2.2.1 < T 1 0
  · rw [if_pos c1, if_neg (by decide)]
    exact key _ _ (by rw [sx, if_neg (by omega)])
  · rw [if_neg c1, if_pos (by decide), show (1 : Int32) = J 1 from rfl, J_neg, J_add, e_nmI]
    exact key _ _ (by rw [sx, if_pos (by omega)])
def FilM (T : Tn) (q : PS) (k : Nat) (M : Mem) : Prop := ∀ j, 1 ≤ j → j ≤ k → M 113 j = nI (pcq (pst T q j)) ∧ M 114 j = J (pst T q j).2.2.2.2
def PthM (T : Tn) (r s : Nat) (q : PS) (M : Mem) : Prop := M 103 31 = nI (plen T r q) ∧ M 113 0 = nI s ∧ FilM T q (plen T r q) M
theorem frp3 {M : Mem} {k j : Nat} {x y z : Int32} : Frp M (upd2 (upd2 (upd2 M 113 k x) 114 j y) 103 31 z) := fun a i h1 h2 h3 => by
  by_cases e : a = 103
  · subst e
    rw [u_nk (h3 rfl), u_ne (by omega), u_ne (by omega)]
  · rw [u_ne e, u_ne h2, u_ne h1]
theorem s49L (g : Good T) {q : PS} (hq : pin T 0 q) {r s : Nat} (hr : r ≤ 1) (hq0 : q.2.2.2.2 = 0) : ∀ (m n k : Nat) (M : Mem), k + m = 40 → m + 1 < n → OnM T M → pln T r q k = k → M 103 31 = nI k → M 113 0 = nI s → M 114 0 = J 0 → FilM T q k M →
    ∃ M', f_Mod_layPath_L49 n (nI r) (J (pst T q k).1) (J (pst T q k).2.1) (J (pst T q k).2.2.1) (J (pst T q k).2.2.2.1) (nI 1) (nI (k + 1)) M = some M' ∧ Frp M M' ∧ PthM T r s q M' := by
  intro m
  induction m with
  | zero =>
    intro n k M hk hn o hp h1 h2 h0 h3
    obtain ⟨n, rfl⟩ : ∃ z, n = z + 1 := ⟨n - 1, by omega⟩
    have e : k = 40 := by omega
    subst e
    rw [f_Mod_layPath_L49, if_pos (by rw [l40, nI_ltI (by omega) (by omega)]; omega)]
    have hp2 : plen T r q = 40 := hp
    refine ⟨M, rfl, Frp.rf, ?_, h2, ?_⟩
    · rw [hp2]; exact h1
    · rw [hp2]; exact h3
  | succ m ih =>
    intro n k M hk hn o hp h1 h2 h0 h3
    obtain ⟨n, rfl⟩ : ∃ z, n = z + 1 := ⟨n - 1, by omega⟩
    have hb : M 114 k = J (pst T q k).2.2.2.2 := by
      by_cases hk0 : k = 0
      · subst hk0
        show M 114 0 = J q.2.2.2.2
        rw [h0, hq0]
      · exact (h3 k (by omega) (Nat.le_refl k)).2
    rw [s49 o g (pst_in g hq k) (by omega) hr hb]
    by_cases hpk : pkq T r (k + 1) (stp T (k + 1) (pst T q k)) = true
    · rw [if_pos hpk]
      have f0 : Frp M (upd2 (upd2 (upd2 M 113 (k + 1) (nI (pcq (stp T (k + 1) (pst T q k))))) 114 (k + 1) (J (stp T (k + 1) (pst T q k)).2.2.2.2)) 103 31 (nI (k + 1))) := frp3
      generalize hM2 : upd2 (upd2 (upd2 M 113 (k + 1) (nI (pcq (stp T (k + 1) (pst T q k))))) 114 (k + 1) (J (stp T (k + 1) (pst T q k)).2.2.2.2)) 103 31 (nI (k + 1)) = M2 at f0 ⊢
      have e0 : M2 103 31 = nI (k + 1) := by rw [← hM2]; exact u_eq
      have e1 : M2 113 0 = nI s := by
        rw [← hM2, u_ne (by omega), u_ne (by omega), u_nk (by omega)]
        exact h2
      have e2 : M2 114 0 = J 0 := by
        rw [← hM2, u_ne (by omega), u_nk (by omega), u_ne (by omega)]
        exact h0
      have e3 : FilM T q (k + 1) M2 := by
        intro j hj1 hj2
        rw [← hM2]
        by_cases hj : j = k + 1
        · subst hj
          refine ⟨?_, ?_⟩
          · rw [u_ne (by omega), u_ne (by omega), u_eq]; rfl
          · rw [u_ne (by omega), u_eq]; rfl
        · obtain ⟨b1, b2⟩ := h3 j hj1 (by omega)
          refine ⟨?_, ?_⟩
          · rw [u_ne (by omega), u_ne (by omega), u_nk (by omega)]; exact b1
          · rw [u_ne (by omega), u_nk (by omega), u_ne (by omega)]; exact b2
      obtain ⟨M', a1, a2, a3⟩ := ih n (k + 1) M2 (by omega) (by omega) (o.fr f0.m) (pln_yes hp hpk) e0 e1 e2 e3
      exact ⟨M', a1, f0.tr a2, a3⟩
    · rw [if_neg hpk]
      obtain ⟨n, rfl⟩ : ∃ z, n = z + 1 := ⟨n - 1, by omega⟩
      have e := pln_no hp (by omega) hpk
      refine ⟨M, ?_, Frp.rf, ?_, h2, ?_⟩
      · rw [f_Mod_layPath_L49]
        by_cases h40 : (40 : Int32) < nI (k + 1 + 1)
        · rw [if_pos h40]
        · rw [if_neg h40, if_pos (by decide)]
      · rw [e]; exact h1
      · rw [e]; exact h3
theorem m_right : ∀ d, d < 8 → f_Mod_rightOf (nI d) = some (J (dX d)) := by decide +kernel
theorem m_down : ∀ d, d < 8 → f_Mod_downOf (nI d) = some (J (dY d)) := by decide +kernel
theorem m_path (o : OnM T M) (g : Good T) {s d r : Nat} (hs : isC T s) (hd : d < 8) (hr : r ≤ 1) : ∃ M', f_Mod_layPath (nI s) (nI d) (nI r) M = some M' ∧ Frp M M' ∧ PthM T r s (q0 s d) M' := by
  have hs1 := hs.1
  have o2 : OnM T (upd2 (upd2 (upd2 M 113 (ix 0) (nI s)) 114 (ix 0) 0) 103 31 0) := o.fr frp3.m
  have hx : nI (s % 9) = J (pst T (q0 s d) 0).1 := by rw [J_nI]; rfl
  have hy : nI (s / 9) = J (pst T (q0 s d) 0).2.1 := by rw [J_nI]; rfl
  obtain ⟨M', a1, a2, a3⟩ := s49L g (q0_in hs hd) hr (s := s) rfl 40 1000 0 _ rfl (by decide) o2 rfl u_eq (by rw [u_ne (by omega), u_ne (by omega)]; exact u_eq) (by rw [u_ne (by omega)]; exact u_eq) (fun j h1 h2 => absurd h2 (by omega))
  refine ⟨M', ?_, frp3.tr a2, a3⟩
  unfold f_Mod_layPath
  rw [l9, j_rem (by omega) (by omega) (by omega), pk_div (by omega) (by omega) (by omega), e_nmI, e_nmI, m_right d hd, e_bnd, m_down d hd, e_bnd, e_set, e_set, e_set, hx, hy]
  exact a1
end PM
