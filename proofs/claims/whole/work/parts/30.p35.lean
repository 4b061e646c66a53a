/-! pure: the law's run -/
theorem go2 {f m : Mem → Option (Int32 × Mem)} (s : Sim f m) {M : Mem} (hI : Inv M) {K : Mem → Option Int32} (hK : ∀ M2, Inv M2 → K M2 = some 1) : (bnd2 (f M) fun v M1 => bnd2 (m M1) fun w M2 => if v = w then K M2 else some 0) = some 1 := by
  obtain ⟨v, M1, M2, h1, h2, h3⟩ := s M hI
  rw [h1, e_bnd2, h2, e_bnd2, if_pos rfl]
  exact hK M2 h3
theorem go1 {f m : Mem → Option Int32} (s : SimR f m) {M : Mem} (hI : Inv M) {K : Option Int32} (hK : K = some 1) : (bnd (f M) fun v => bnd (m M) fun w => if v = w then K else some 0) = some 1 := by
  obtain ⟨v, h1, h2⟩ := s M hI
  rw [h1, e_bnd, h2, e_bnd, if_pos rfl]
  exact hK
set_option maxRecDepth 10000 in
theorem law_loop (ht : Sim f_Hal_text f_Mod_text) (X : Sc) (hX : X.1 ≤ 2560) : ∀ (n p : Nat) (M : Mem), Inv M → p ≤ X.1 → X.1 + 5 ≤ 5 * n + p → f_Law_law_L18 X n (nI p) M = some 1 := by
  intro n
  induction n with
  | zero => intro p M hI hp hn; omega
  | succ n ih =>
    intro p M hI hp hn
    rw [f_Law_law_L18]
    have e5 : nI p + 5 = nI (p + 5) := nI_add p 5
    by_cases q : X.1 < p + 5
    · rw [if_pos (by rw [show (5 : Int32) = J 5 from rfl, J_nI, J_nI, J_sub, J_lt (by omega) (by omega) (by omega) (by omega)]; omega)]
    · rw [if_neg (by rw [show (5 : Int32) = J 5 from rfl, J_nI, J_nI, J_sub, J_lt (by omega) (by omega) (by omega) (by omega)]; omega), e_ckn (by omega) (by omega)]
      have k1 : ∀ {α : Type} (a : Option α), ck (inb (nI p + 1) X.1) a = a := fun a => by rw [nI_1]; exact e_ckn (by omega) (by omega)
      have k2 : ∀ {α : Type} (a : Option α), ck (inb (nI p + 2) X.1) a = a := fun a => by rw [l2, nI_add]; exact e_ckn (by omega) (by omega)
      have k3 : ∀ {α : Type} (a : Option α), ck (inb (nI p + 3) X.1) a = a := fun a => by rw [l3, nI_add]; exact e_ckn (by omega) (by omega)
      have k4 : ∀ {α : Type} (a : Option α), ck (inb (nI p + 4) X.1) a = a := fun a => by rw [l4, nI_add]; exact e_ckn (by omega) (by omega)
      have nxt : ∀ M2, Inv M2 → f_Law_law_L18 X n (nI p + 5) M2 = some 1 := fun M2 h => by
        rw [e5]
        exact ih (p + 5) M2 h (by omega) (by omega)
      by_cases c0 : X.2 (ix (nI p)) &&& 63 = 0
      · rw [if_pos c0]
        simp only [k1, k2, k3, k4]
        exact go2 (s_feed _) hI nxt
      rw [if_neg c0]
      by_cases c1 : X.2 (ix (nI p)) &&& 63 = 1
      · rw [if_pos c1]
        simp only [k1, k2, k3, k4]
        exact go2 (s_end _) hI nxt
      rw [if_neg c1]
      by_cases c2 : X.2 (ix (nI p)) &&& 63 = 2
      · rw [if_pos c2]
        exact go2 (ht) hI nxt
      rw [if_neg c2]
      by_cases c3 : X.2 (ix (nI p)) &&& 63 = 3
      · rw [if_pos c3]
        exact go1 (s_fault) hI (nxt M hI)
      rw [if_neg c3]
      by_cases c4 : X.2 (ix (nI p)) &&& 63 = 4
      · rw [if_pos c4]
        simp only [k1, k2, k3, k4]
        exact go1 (s_rule _) hI (nxt M hI)
      rw [if_neg c4]
      by_cases c5 : X.2 (ix (nI p)) &&& 63 = 5
      · rw [if_pos c5]
        simp only [k1, k2, k3, k4]
        exact go1 (s_cell _) hI (nxt M hI)
      rw [if_neg c5]
      by_cases c6 : X.2 (ix (nI p)) &&& 63 = 6
      · rw [if_pos c6]
        simp only [k1, k2, k3, k4]
        exact go1 (s_bench _ _ _) hI (nxt M hI)
      rw [if_neg c6]
      by_cases c7 : X.2 (ix (nI p)) &&& 63 = 7
      · rw [if_pos c7]
        simp only [k1, k2, k3, k4]
        exact go1 (s_want _ _) hI (nxt M hI)
      rw [if_neg c7]
      by_cases c8 : X.2 (ix (nI p)) &&& 63 = 8
      · rw [if_pos c8]
        simp only [k1, k2, k3, k4]
        exact go2 (s_hang _ _) hI nxt
      rw [if_neg c8]
      by_cases c9 : X.2 (ix (nI p)) &&& 63 = 9
      · rw [if_pos c9]
        simp only [k1, k2, k3, k4]
        exact go2 (s_warm _) hI nxt
      rw [if_neg c9]
      by_cases c10 : X.2 (ix (nI p)) &&& 63 = 10
      · rw [if_pos c10]
        simp only [k1, k2, k3, k4]
        exact go2 (s_sit _ _) hI nxt
      rw [if_neg c10]
      by_cases c11 : X.2 (ix (nI p)) &&& 63 = 11
      · rw [if_pos c11]
        simp only [k1, k2, k3, k4]
        exact go2 (s_way _ _ _) hI nxt
      rw [if_neg c11]
      by_cases c12 : X.2 (ix (nI p)) &&& 63 = 12
      · rw [if_pos c12]
        simp only [k1, k2, k3, k4]
        exact go2 (s_steps _ _) hI nxt
      rw [if_neg c12]
      by_cases c13 : X.2 (ix (nI p)) &&& 63 = 13
      · rw [if_pos c13]
        simp only [k1, k2, k3, k4]
        exact go2 (s_hears _ _ _ _) hI nxt
      rw [if_neg c13]
      by_cases c14 : X.2 (ix (nI p)) &&& 63 = 14
      · rw [if_pos c14]
        simp only [k1, k2, k3, k4]
        exact go2 (s_heard _ _) hI nxt
      rw [if_neg c14]
      by_cases c15 : X.2 (ix (nI p)) &&& 63 = 15
      · rw [if_pos c15]
        simp only [k1, k2, k3, k4]
        exact go2 (s_answer _ _) hI nxt
      rw [if_neg c15]
      by_cases c16 : X.2 (ix (nI p)) &&& 63 = 16
      · rw [if_pos c16]
        simp only [k1, k2, k3, k4]
        exact go2 (s_can _ _ _) hI nxt
      rw [if_neg c16]
      by_cases c17 : X.2 (ix (nI p)) &&& 63 = 17
      · rw [if_pos c17]
        simp only [k1, k2, k3, k4]
        exact go2 (s_broken _) hI nxt
      rw [if_neg c17]
      by_cases c18 : X.2 (ix (nI p)) &&& 63 = 18
      · rw [if_pos c18]
        simp only [k1, k2, k3, k4]
        exact go2 (s_seating _ _) hI nxt
      rw [if_neg c18]
      by_cases c19 : X.2 (ix (nI p)) &&& 63 = 19
      · rw [if_pos c19]
        simp only [k1, k2, k3, k4]
        exact go2 (s_curtain _ _) hI nxt
      rw [if_neg c19]
      by_cases c20 : X.2 (ix (nI p)) &&& 63 = 20
      · rw [if_pos c20]
        simp only [k1, k2, k3, k4]
        exact go2 (s_clear _ _) hI nxt
      rw [if_neg c20]
      by_cases c21 : X.2 (ix (nI p)) &&& 63 = 21
      · rw [if_pos c21]
        exact go2 (s_hours) hI nxt
      rw [if_neg c21]
      by_cases c22 : X.2 (ix (nI p)) &&& 63 = 22
      · rw [if_pos c22]
        simp only [k1, k2, k3, k4]
        exact go2 (s_days _ _ _) hI nxt
      rw [if_neg c22]
      by_cases c23 : X.2 (ix (nI p)) &&& 63 = 23
      · rw [if_pos c23]
        simp only [k1, k2, k3, k4]
        exact go2 (s_best _ _) hI nxt
      rw [if_neg c23]
      by_cases c24 : X.2 (ix (nI p)) &&& 63 = 24
      · rw [if_pos c24]
        simp only [k1, k2, k3, k4]
        exact go2 (s_say _ _ _) hI nxt
      rw [if_neg c24]
      by_cases c25 : X.2 (ix (nI p)) &&& 63 = 25
      · rw [if_pos c25]
        simp only [k1, k2, k3, k4]
        exact go2 (s_unsay _) hI nxt
      rw [if_neg c25]
      by_cases c26 : X.2 (ix (nI p)) &&& 63 = 26
      · rw [if_pos c26]
        simp only [k1, k2, k3, k4]
        exact go2 (s_said _ _) hI nxt
      rw [if_neg c26]
      by_cases c27 : X.2 (ix (nI p)) &&& 63 = 27
      · rw [if_pos c27]
        simp only [k1, k2, k3, k4]
        exact go2 (s_knows _ _) hI nxt
      rw [if_neg c27]
      by_cases c28 : X.2 (ix (nI p)) &&& 63 = 28
      · rw [if_pos c28]
        simp only [k1, k2, k3, k4]
        exact go2 (s_since _ _) hI nxt
      rw [if_neg c28]
      by_cases c29 : X.2 (ix (nI p)) &&& 63 = 29
      · rw [if_pos c29]
        simp only [k1, k2, k3, k4]
        exact go2 (s_leak _ _ _) hI nxt
      rw [if_neg c29]
      by_cases c30 : X.2 (ix (nI p)) &&& 63 = 30
      · rw [if_pos c30]
        simp only [k1, k2, k3, k4]
        exact go2 (s_without _) hI nxt
      rw [if_neg c30]
      by_cases c31 : X.2 (ix (nI p)) &&& 63 = 31
      · rw [if_pos c31]
        simp only [k1, k2, k3, k4]
        exact go2 (s_murmur _ _ _) hI nxt
      rw [if_neg c31]
      by_cases c32 : X.2 (ix (nI p)) &&& 63 = 32
      · rw [if_pos c32]
        simp only [k1, k2, k3, k4]
        exact go2 (s_from _ _) hI nxt
      rw [if_neg c32]
      by_cases c33 : X.2 (ix (nI p)) &&& 63 = 33
      · rw [if_pos c33]
        simp only [k1, k2, k3, k4]
        exact go2 (s_where _ _ _) hI nxt
      rw [if_neg c33]
      by_cases c34 : X.2 (ix (nI p)) &&& 63 = 34
      · rw [if_pos c34]
        simp only [k1, k2, k3, k4]
        exact go2 (s_keep _) hI nxt
      rw [if_neg c34]
      by_cases c35 : X.2 (ix (nI p)) &&& 63 = 35
      · rw [if_pos c35]
        simp only [k1, k2, k3, k4]
        exact go2 (s_back _) hI nxt
      rw [if_neg c35]
      by_cases c36 : X.2 (ix (nI p)) &&& 63 = 36
      · rw [if_pos c36]
        simp only [k1, k2, k3, k4]
        exact go2 (s_sheet _ _ _) hI nxt
      rw [if_neg c36]
      by_cases c37 : X.2 (ix (nI p)) &&& 63 = 37
      · rw [if_pos c37]
        simp only [k1, k2, k3, k4]
        exact go2 (s_lay _ _ _) hI nxt
      rw [if_neg c37]
      by_cases c38 : X.2 (ix (nI p)) &&& 63 = 38
      · rw [if_pos c38]
        simp only [k1, k2, k3, k4]
        exact go2 (s_read _ _ _ _) hI nxt
      rw [if_neg c38]
      by_cases c39 : X.2 (ix (nI p)) &&& 63 = 39
      · rw [if_pos c39]
        exact go1 (s_torn) hI (nxt M hI)
      rw [if_neg c39]
      by_cases c40 : X.2 (ix (nI p)) &&& 63 = 40
      · rw [if_pos c40]
        simp only [k1, k2, k3, k4]
        exact go1 (s_count _) hI (nxt M hI)
      rw [if_neg c40]
      exact nxt M hI
theorem law_pure_of (ht : Sim f_Hal_text f_Mod_text) : ∀ X : Sc, X.1 ≤ 2560 → ∃ M0 : Mem, c_Law = some (S0, M0) ∧ f_Law_law X M0 = some 1 := fun X hX =>
  ⟨MZ, law_c, law_loop ht X hX 1000 0 MZ inv_z (Nat.zero_le _) (by omega)⟩
