/-! pure: secrets asked -/
theorem s_said (x y : Int32) : Sim (f_Hal_said x y) (f_Mod_said x y) := by
  intro M ⟨T, hA, hI, hS, hT, hF⟩
  obtain ⟨o, om, g⟩ := id hA
  have h9 := g.ns
  have e3 : f_Mod_in y.toInt64 0 3 = f_Mod_in y.toInt64 0 (nI 3).toInt64 := rfl
  rcases a_say g x with ⟨i, hi, rfl, a1, a2⟩ | ⟨a1, a2⟩
  · rcases wi y (m := 3) (by decide) with ⟨w, hw, rfl, f1, f2⟩ | ⟨f1, f2, -⟩
    · by_cases h3 : w = 3
      · obtain ⟨M1, p1, p2, p3⟩ := c_tellF o g (N := i) (by omega)
        obtain ⟨M2, q1, q2, q3⟩ := c_tell (o.fr p2 (by decide)) g p3 hi
        have hA2 := (hA.frc p2 (by decide) (by decide)).frc q2 (by decide) (by decide)
        obtain ⟨M3, r1, r2, r3⟩ := m_wh0 hA2.2.1 g (N := i) (by omega)
        have hA3 := hA2.frm r2
        refine ⟨nI (if sdB T (tl T bt0 i) i = true then 1 else 0), M2, M3, ?_, ?_, Inv.to hI hS hT hF (((p2.kp (by decide) (by decide)).tr (q2.kp (by decide) (by decide))).tr r2.kp) (fun _ _ _ => rfl) hA3⟩
        · subst h3
          simp (disch := omega) only [e_bnd, e_bnd2, e_set, e_cpy, e_nmI, e_nmL, e_ckn, e_ckB0, e_ckB1, l0, l1, l2, l3, l4, l5, l6, l7, l8, l9, l10, l11, l12, l13, l14, l15, l16, l17, l18, l19, l20, l21, l22, l24, l25, l32, l39, l40, l41, l48, l50, l56, l57, l59, l60, l72, l79, l80, l81, l82, l88, l89, l97, l100, l122, l124, l125, l160, l255, l312, l320, l375, l1000, nI_ltI, nI_leI, nI_eq, nI_add, pk_mul, e_ix, e_neg, if_true, if_false, if_pos, if_neg, f_Hal_said, a1 M o, f1, p1, q1]
        · have e := m_isSaid hA3.2.1 g r3 hi
          subst h3
          unfold f_Mod_said
          rw [a2 M2 hA2.2.1, e_bnd, if_neg (by decide), e3, f2, e_bnd, if_neg (by decide), if_pos (by decide), r1, e_bnd2, e, e_bnd]
          split <;> rfl
      · obtain ⟨c0, c1, c2⟩ := c_wsp o g hi
        obtain ⟨m0, m1, m2⟩ := m_say om g hi
        have nw : ¬ (3 : Int32) ≤ nI w := by rw [l3, nI_leI (by omega) (by omega)]; omega
        have go : ∀ v, f_Tri_part 14 M (nI i) (nI w) = some v → f_Mod_sayOf M (nI i) (nI w) = some v → ∃ v M1 M2, f_Hal_said (nI i) (nI w) M = some (v, M1) ∧ f_Mod_said (nI i) (nI w) M1 = some (v, M2) ∧ Inv M2 := fun v e1 e2 => by
          refine ⟨v, M, M, ?_, ?_, ⟨T, hA, hI, hS, hT, hF⟩⟩
          · unfold f_Hal_said
            rw [a1 M o, e_bnd, if_neg (by decide), show (0 : Int32) = nI 0 from rfl, show (3 : Int32) = nI 3 from rfl, f1, e_bnd, if_neg (by decide), if_neg (show ¬ nI 3 ≤ nI w from nw), e1, e_bnd]
          · unfold f_Mod_said
            rw [a2 M om, e_bnd, if_neg (by decide), e3, f2, e_bnd, if_neg (by decide), if_neg nw, e2, e_bnd]
        rcases (show w = 0 ∨ w = 1 ∨ w = 2 by omega) with rfl | rfl | rfl
        · exact go _ c0 m0
        · exact go _ c1 m1
        · exact go _ c2 m2
    · refine ⟨-1, M, M, ?_, ?_, ⟨T, hA, hI, hS, hT, hF⟩⟩
      · simp (disch := omega) only [e_bnd, e_bnd2, e_set, e_cpy, e_nmI, e_nmL, e_ckn, e_ckB0, e_ckB1, l0, l1, l2, l3, l4, l5, l6, l7, l8, l9, l10, l11, l12, l13, l14, l15, l16, l17, l18, l19, l20, l21, l22, l24, l25, l32, l39, l40, l41, l48, l50, l56, l57, l59, l60, l72, l79, l80, l81, l82, l88, l89, l97, l100, l122, l124, l125, l160, l255, l312, l320, l375, l1000, nI_ltI, nI_leI, nI_eq, nI_add, pk_mul, e_ix, e_neg, if_true, if_false, if_pos, if_neg, f_Hal_said, a1 M o, f1]
      · simp (disch := omega) only [e_bnd, e_bnd2, e_set, e_cpy, e_nmI, e_nmL, e_ckn, e_ckB0, e_ckB1, l0, l1, l2, l3, l4, l5, l6, l7, l8, l9, l10, l11, l12, l13, l14, l15, l16, l17, l18, l19, l20, l21, l22, l24, l25, l32, l39, l40, l41, l48, l50, l56, l57, l59, l60, l72, l79, l80, l81, l82, l88, l89, l97, l100, l122, l124, l125, l160, l255, l312, l320, l375, l1000, nI_ltI, nI_leI, nI_eq, nI_add, pk_mul, e_ix, e_neg, if_true, if_false, if_pos, if_neg, f_Mod_said, a2 M om, e3, f2]
  · refine ⟨-1, M, M, ?_, ?_, ⟨T, hA, hI, hS, hT, hF⟩⟩
    · simp (disch := omega) only [e_bnd, e_bnd2, e_set, e_cpy, e_nmI, e_nmL, e_ckn, e_ckB0, e_ckB1, l0, l1, l2, l3, l4, l5, l6, l7, l8, l9, l10, l11, l12, l13, l14, l15, l16, l17, l18, l19, l20, l21, l22, l24, l25, l32, l39, l40, l41, l48, l50, l56, l57, l59, l60, l72, l79, l80, l81, l82, l88, l89, l97, l100, l122, l124, l125, l160, l255, l312, l320, l375, l1000, nI_ltI, nI_leI, nI_eq, nI_add, pk_mul, e_ix, e_neg, if_true, if_false, if_pos, if_neg, f_Hal_said, a1 M o]
    · simp (disch := omega) only [e_bnd, e_bnd2, e_set, e_cpy, e_nmI, e_nmL, e_ckn, e_ckB0, e_ckB1, l0, l1, l2, l3, l4, l5, l6, l7, l8, l9, l10, l11, l12, l13, l14, l15, l16, l17, l18, l19, l20, l21, l22, l24, l25, l32, l39, l40, l41, l48, l50, l56, l57, l59, l60, l72, l79, l80, l81, l82, l88, l89, l97, l100, l122, l124, l125, l160, l255, l312, l320, l375, l1000, nI_ltI, nI_leI, nI_eq, nI_add, pk_mul, e_ix, e_neg, if_true, if_false, if_pos, if_neg, f_Mod_said, a2 M om]
def scB (T : Tn) (κ : Kn) (p : Nat) : Nat → Int32
  | 0 => 0
  | s + 1 => scB T κ p s ||| jshl (jshr (orN (κ s) (T 1 5)) (nI p) &&& 1) (nI s)
theorem c_secL {T : Tn} {M : Mem} {κ : Kn} (hK : KnC 85 T κ M) {p : Nat} : ∀ (m n k : Nat), k + m = 8 → m < n → f_Gos_secretsOf_L4 M n (nI p) (scB T κ p k) (nI k) = some (scB T κ p 8) := by
  intro m
  induction m with
  | zero =>
    intro n k hk hn
    obtain ⟨n, rfl⟩ : ∃ z, n = z + 1 := ⟨n - 1, by omega⟩
    have e : k = 8 := by omega
    subst e
    rw [f_Gos_secretsOf_L4, if_pos (by decide)]
  | succ m ih =>
    intro n k hk hn
    obtain ⟨n, rfl⟩ : ∃ z, n = z + 1 := ⟨n - 1, by omega⟩
    rw [f_Gos_secretsOf_L4, if_neg (by rw [l8, nI_leI (by omega) (by omega)]; omega), c_kof hK (by omega), e_bnd, f_Hal_bit, e_bnd, e_nmI, nI_1]
    exact ih n (k + 1) (by omega) (by omega)
theorem m_secL {T : Tn} {M : Mem} {κ : Kn} (hK : KnC 118 T κ M) {p : Nat} : ∀ (m n k : Nat), k + m = 8 → m < n → f_Mod_knows_L40 n (nI p) (scB T κ p k) (nI k) M = some (scB T κ p 8, M) := by
  intro m
  induction m with
  | zero =>
    intro n k hk hn
    obtain ⟨n, rfl⟩ : ∃ z, n = z + 1 := ⟨n - 1, by omega⟩
    have e : k = 8 := by omega
    subst e
    rw [f_Mod_knows_L40, if_pos (by decide)]
  | succ m ih =>
    intro n k hk hn
    obtain ⟨n, rfl⟩ : ∃ z, n = z + 1 := ⟨n - 1, by omega⟩
    rw [f_Mod_knows_L40, if_neg (by rw [l8, nI_leI (by omega) (by omega)]; omega), e_ckn (by omega) (by decide), show ix (nI k) = k from e_ix (by omega), hK k (by omega), e_nmI, nI_1]
    exact ih n (k + 1) (by omega) (by omega)
theorem s_knows (x y : Int32) : Sim (f_Hal_knows x y) (f_Mod_knows x y) := by
  intro M ⟨T, hA, hI, hS, hT, hF⟩
  obtain ⟨o, om, g⟩ := id hA
  have h9 := g.ns
  rcases a_one g x with ⟨p, hp, rfl, a1, a2⟩ | ⟨a1, a2⟩
  · rcases wi y (m := T 14 0) (by omega) with ⟨w, hw, rfl, f1, f2⟩ | ⟨f1, f2, -⟩
    · obtain ⟨M1, p1, p2, p3⟩ := c_tellF o g (N := w) hw
      have hA1 := hA.frc p2 (by decide) (by decide)
      obtain ⟨M2, r1, r2, r3⟩ := m_wh0 hA1.2.1 g (N := w) hw
      refine ⟨scB T (tl T bt0 w) p 8, M1, M2, ?_, ?_, Inv.to hI hS hT hF ((p2.kp (by decide) (by decide)).tr r2.kp) (fun _ _ _ => rfl) (hA1.frm r2)⟩
      · unfold f_Hal_knows
        rw [a1 M o, e_bnd, if_neg (by decide), show (0 : Int32) = nI 0 from rfl, o.ns, f1, e_bnd, if_neg (by decide), p1, e_bnd2, show f_Gos_secretsOf M1 (nI p) = some (scB T (tl T bt0 w) p 8) from c_secL p3 8 1000 0 rfl (by decide), e_bnd]
      · unfold f_Mod_knows
        rw [a2 M1 hA1.2.1, e_bnd, if_neg (by decide), show M1 104 (ix 88) = nI (T 14 0) from hA1.2.1.ns, f2, e_bnd, if_neg (by decide), r1, e_bnd2]
        exact m_secL r3 8 1000 0 rfl (by decide)
    · refine ⟨-1, M, M, ?_, ?_, ⟨T, hA, hI, hS, hT, hF⟩⟩
      · simp (disch := omega) only [e_bnd, e_bnd2, e_set, e_cpy, e_nmI, e_nmL, e_ckn, e_ckB0, e_ckB1, l0, l1, l2, l3, l4, l5, l6, l7, l8, l9, l10, l11, l12, l13, l14, l15, l16, l17, l18, l19, l20, l21, l22, l24, l25, l32, l39, l40, l41, l48, l50, l56, l57, l59, l60, l72, l79, l80, l81, l82, l88, l89, l97, l100, l122, l124, l125, l160, l255, l312, l320, l375, l1000, nI_ltI, nI_leI, nI_eq, nI_add, pk_mul, e_ix, e_neg, if_true, if_false, if_pos, if_neg, f_Hal_knows, a1 M o, o.ns, f1]
      · simp (disch := omega) only [e_bnd, e_bnd2, e_set, e_cpy, e_nmI, e_nmL, e_ckn, e_ckB0, e_ckB1, l0, l1, l2, l3, l4, l5, l6, l7, l8, l9, l10, l11, l12, l13, l14, l15, l16, l17, l18, l19, l20, l21, l22, l24, l25, l32, l39, l40, l41, l48, l50, l56, l57, l59, l60, l72, l79, l80, l81, l82, l88, l89, l97, l100, l122, l124, l125, l160, l255, l312, l320, l375, l1000, nI_ltI, nI_leI, nI_eq, nI_add, pk_mul, e_ix, e_neg, if_true, if_false, if_pos, if_neg, f_Mod_knows, a2 M om, ix_88, om.ns, f2]
  · refine ⟨-1, M, M, ?_, ?_, ⟨T, hA, hI, hS, hT, hF⟩⟩
    · simp (disch := omega) only [e_bnd, e_bnd2, e_set, e_cpy, e_nmI, e_nmL, e_ckn, e_ckB0, e_ckB1, l0, l1, l2, l3, l4, l5, l6, l7, l8, l9, l10, l11, l12, l13, l14, l15, l16, l17, l18, l19, l20, l21, l22, l24, l25, l32, l39, l40, l41, l48, l50, l56, l57, l59, l60, l72, l79, l80, l81, l82, l88, l89, l97, l100, l122, l124, l125, l160, l255, l312, l320, l375, l1000, nI_ltI, nI_leI, nI_eq, nI_add, pk_mul, e_ix, e_neg, if_true, if_false, if_pos, if_neg, f_Hal_knows, a1 M o]
    · simp (disch := omega) only [e_bnd, e_bnd2, e_set, e_cpy, e_nmI, e_nmL, e_ckn, e_ckB0, e_ckB1, l0, l1, l2, l3, l4, l5, l6, l7, l8, l9, l10, l11, l12, l13, l14, l15, l16, l17, l18, l19, l20, l21, l22, l24, l25, l32, l39, l40, l41, l48, l50, l56, l57, l59, l60, l72, l79, l80, l81, l82, l88, l89, l97, l100, l122, l124, l125, l160, l255, l312, l320, l375, l1000, nI_ltI, nI_leI, nI_eq, nI_add, pk_mul, e_ix, e_neg, if_true, if_false, if_pos, if_neg, f_Mod_knows, a2 M om]
/-- the first below n of which P says yes; n: none -/
def sfi (P : Nat → Bool) : Nat → Nat
  | 0 => 0
  | n + 1 => if sfi P n < n then sfi P n else (if P n = true then n else n + 1)
theorem sfi_s {P : Nat → Bool} {n : Nat} : sfi P (n + 1) = if sfi P n < n then sfi P n else (if P n = true then n else n + 1) := rfl
theorem sfi_sp {P : Nat → Bool} : ∀ n, sfi P n ≤ n ∧ (∀ j, j < sfi P n → P j = false) ∧ (sfi P n < n → P (sfi P n) = true)
  | 0 => ⟨Nat.le_refl 0, fun j h => absurd h (Nat.not_lt_zero j), fun h => absurd h (Nat.lt_irrefl 0)⟩
  | n + 1 => by
    obtain ⟨h1, h2, h3⟩ := sfi_sp (P := P) n
    rw [sfi_s]
    by_cases q : sfi P n < n
    · rw [if_pos q]
      exact ⟨by omega, h2, fun _ => h3 q⟩
    · rw [if_neg q]
      have e : sfi P n = n := by omega
      by_cases r : P n = true
      · rw [if_pos r]
        exact ⟨by omega, fun j hj => h2 j (by omega), fun _ => r⟩
      · rw [if_neg r]
        refine ⟨Nat.le_refl _, fun j hj => ?_, fun h => absurd h (Nat.lt_irrefl _)⟩
        by_cases t : j = n
        · subst t; exact Bool.eq_false_iff.mpr r
        · exact h2 j (by omega)
theorem sfi_is {P : Nat → Bool} {n a : Nat} (h1 : a ≤ n) (h2 : ∀ j, j < a → P j = false) (h3 : a < n → P a = true) : sfi P n = a := by
  obtain ⟨g1, g2, g3⟩ := sfi_sp (P := P) n
  by_cases q : sfi P n < a
  · have := h2 _ q
    rw [g3 (by omega)] at this
    exact absurd this (by decide)
  · by_cases r : a < sfi P n
    · have := g2 _ r
      rw [h3 (by omega)] at this
      exact absurd this (by decide)
    · omega
def outP (T : Tn) (s : Nat) (ins : Int32) : Nat → Bool := fun i => decide (orN (tl T bt0 (i + 1) s) (T 1 5) &&& (ins ^^^ (-1)) ≠ 0)
theorem tl0_s {T : Tn} {k : Nat} : tl T bt0 (k + 1) = if sdB T (tl T bt0 k) k = true then tel T (tl T bt0 k) k else tl T bt0 k := by rw [tl_s]; simp [bt0]
theorem c_fkoL {T : Tn} (g : Good T) {s : Nat} (hs : s < 8) {ins : Int32} : ∀ (m n k : Nat) (M : Mem), On T M → KnC 85 T (tl T bt0 k) M → k + m = T 14 0 → m < n → (∀ j, j < k → outP T s ins j = false) → ∃ M', f_Gos_firstKnownOutside_L11 n (nI s) ins (nI k) M = some (if sfi (outP T s ins) (T 14 0) < T 14 0 then nI (sfi (outP T s ins) (T 14 0)) else -4, M') ∧ Fr 79 85 M M' ∧ (sfi (outP T s ins) (T 14 0) < T 14 0 → KnC 85 T (tl T bt0 (sfi (outP T s ins) (T 14 0) + 1)) M') := by
  have h9 := g.ns
  intro m
  induction m with
  | zero =>
    intro n k M o hK hk hn hf
    obtain ⟨n, rfl⟩ : ∃ z, n = z + 1 := ⟨n - 1, by omega⟩
    have e : k = T 14 0 := by omega
    subst e
    have ea : sfi (outP T s ins) (T 14 0) = T 14 0 := sfi_is (Nat.le_refl _) hf (fun h => absurd h (Nat.lt_irrefl _))
    refine ⟨M, ?_, Fr.rf, fun h => by omega⟩
    rw [f_Gos_firstKnownOutside_L11, o.ns, if_pos (by rw [nI_leI (by omega) (by omega)]; omega), if_neg (by omega)]
  | succ m ih =>
    intro n k M o hK hk hn hf
    obtain ⟨n, rfl⟩ : ∃ z, n = z + 1 := ⟨n - 1, by omega⟩
    obtain ⟨M1, p1, p2, p3⟩ := c_tell o g hK (show k < T 14 0 by omega)
    rw [← tl0_s] at p3
    rw [f_Gos_firstKnownOutside_L11, o.ns, if_neg (by rw [nI_leI (by omega) (by omega)]; omega), p1, e_bnd2, c_kof p3 hs, e_bnd, nI_1]
    by_cases h0 : orN (tl T bt0 (k + 1) s) (T 1 5) &&& (ins ^^^ (-1)) = 0
    · rw [if_pos h0]
      obtain ⟨M', r1, r2, r3⟩ := ih n (k + 1) M1 (o.fr p2 (by decide)) p3 (by omega) (by omega) (fun j hj => by
        by_cases e : j = k
        · subst e; exact decide_eq_false (not_not_intro h0)
        · exact hf j (by omega))
      exact ⟨M', r1, p2.tr r2, r3⟩
    · rw [if_neg h0]
      have ea : sfi (outP T s ins) (T 14 0) = k := sfi_is (by omega) hf (fun _ => decide_eq_true h0)
      refine ⟨M1, ?_, p2, fun _ => ?_⟩
      · rw [ea, if_pos (by omega)]
      · rw [ea]; exact p3
theorem c_fko {T : Tn} {M : Mem} (o : On T M) (g : Good T) {s : Nat} (hs : s < 8) {ins : Int32} : ∃ M', f_Gos_firstKnownOutside (nI s) ins M = some (if sfi (outP T s ins) (T 14 0) < T 14 0 then nI (sfi (outP T s ins) (T 14 0)) else -4, M') ∧ Fr 79 85 M M' ∧ (sfi (outP T s ins) (T 14 0) < T 14 0 → KnC 85 T (tl T bt0 (sfi (outP T s ins) (T 14 0) + 1)) M') := by
  have h9 := g.ns
  obtain ⟨M1, p1, p2, p3⟩ := fill_ok (M := M) (a := 85) (n := 8) (x := 0) (by decide)
  obtain ⟨M', r1, r2, r3⟩ := c_fkoL g hs (ins := ins) (T 14 0) 1000 0 M1 (o.fr p2 (by decide)) (kn0 p3 bt0) (by omega) (by omega) (fun j hj => by omega)
  refine ⟨M', ?_, (p2.up (by decide) (by decide)).tr r2, r3⟩
  unfold f_Gos_firstKnownOutside
  rw [p1, e_bnd]
  exact r1
theorem m_sinceL {T : Tn} (g : Good T) {s p : Nat} (hs : s < 8) (hp : p < T 1 5) {ins : Int32} (hi : ins ^^^ (-1) = jshl 1 (nI p)) : ∀ (m n k : Nat) (M : Mem), OnM T M → k + m = T 14 0 → m < n → (∀ j, j < k → outP T s ins j = false) → ∃ M', f_Mod_since_L19 n (nI p) (nI s) (nI k) M = some (if sfi (outP T s ins) (T 14 0) < T 14 0 then nI (sfi (outP T s ins) (T 14 0)) else -4, M') ∧ Frm M M' := by
  have h9 := g.ns
  have h8 := g.n
  intro m
  induction m with
  | zero =>
    intro n k M o hk hn hf
    obtain ⟨n, rfl⟩ : ∃ z, n = z + 1 := ⟨n - 1, by omega⟩
    have e : k = T 14 0 := by omega
    subst e
    have ea : sfi (outP T s ins) (T 14 0) = T 14 0 := sfi_is (Nat.le_refl _) hf (fun h => absurd h (Nat.lt_irrefl _))
    refine ⟨M, ?_, Frm.rf⟩
    rw [f_Mod_since_L19, show M 104 (ix 88) = nI (T 14 0) from o.ns, if_pos (by rw [nI_leI (by omega) (by omega)]; omega), if_neg (by omega)]
  | succ m ih =>
    intro n k M o hk hn hf
    obtain ⟨n, rfl⟩ : ∃ z, n = z + 1 := ⟨n - 1, by omega⟩
    obtain ⟨M1, p1, p2, p3⟩ := m_wh0 o g (N := k + 1) (by omega)
    rw [f_Mod_since_L19, show M 104 (ix 88) = nI (T 14 0) from o.ns, if_neg (by rw [nI_leI (by omega) (by omega)]; omega), nI_1, p1, e_bnd2, e_ckn (by omega) (by decide), show ix (nI s) = s from e_ix (by omega), p3 s hs, orN_bit (by omega) (by omega)]
    have eo : outP T s ins k = tl T bt0 (k + 1) s p := by
      unfold outP
      rw [hi, orN_one (by omega) (by omega)]
      have e1 : ∀ i, i < 12 → ¬ jshl 1 (nI i) = 0 := by decide +kernel
      by_cases q : tl T bt0 (k + 1) s p = true
      · rw [if_pos ⟨hp, q⟩, q]
        exact decide_eq_true (e1 p (by omega))
      · rw [if_neg (fun r => q r.2)]
        simp [q]
    by_cases q : tl T bt0 (k + 1) s p = true
    · rw [if_pos (show p < T 1 5 ∧ tl T bt0 (k + 1) s p = true from ⟨hp, q⟩), if_pos (by rfl)]
      have ea : sfi (outP T s ins) (T 14 0) = k := sfi_is (by omega) hf (fun _ => by rw [eo]; exact q)
      refine ⟨M1, ?_, p2⟩
      rw [ea, if_pos (by omega)]
    · rw [if_neg (show ¬ (p < T 1 5 ∧ tl T bt0 (k + 1) s p = true) from fun r => q r.2), if_neg (by decide)]
      obtain ⟨M', r1, r2⟩ := ih n (k + 1) M1 (o.fr p2) (by omega) (by omega) (fun j hj => by
        by_cases e : j = k
        · subst e; rw [eo]; exact Bool.eq_false_iff.mpr q
        · exact hf j (by omega))
      exact ⟨M', r1, p2.tr r2⟩
theorem s_since (x y : Int32) : Sim (f_Hal_since x y) (f_Mod_since x y) := by
  intro M ⟨T, hA, hI, hS, hT, hF⟩
  obtain ⟨o, om, g⟩ := id hA
  have h9 := g.ns
  have h8 := g.n
  rcases a_one g x with ⟨p, hp, rfl, a1, a2⟩ | ⟨a1, a2⟩
  · rcases a_secret y with ⟨s, hs, rfl, b1, b2⟩ | ⟨b1, b2⟩
    · have hi : (jshl 1 (nI p) ^^^ (-1)) ^^^ (-1) = jshl 1 (nI p) := by
        have : ∀ p, p < 12 → (jshl 1 (nI p) ^^^ (-1)) ^^^ (-1) = jshl 1 (nI p) := by decide +kernel
        exact this p (by omega)
      obtain ⟨M1, p1, p2, -⟩ := c_fko o g hs (ins := jshl 1 (nI p) ^^^ (-1))
      have hA1 := hA.frc p2 (by decide) (by decide)
      obtain ⟨M2, r1, r2⟩ := m_sinceL g hs hp hi (T 14 0) 1000 0 M1 hA1.2.1 (by omega) (by omega) (fun j hj => by omega)
      refine ⟨if sfi (outP T s (jshl 1 (nI p) ^^^ (-1))) (T 14 0) < T 14 0 then nI (sfi (outP T s (jshl 1 (nI p) ^^^ (-1))) (T 14 0)) else -4, M1, M2, ?_, ?_, Inv.to hI hS hT hF ((p2.kp (by decide) (by decide)).tr r2.kp) (fun _ _ _ => rfl) (hA1.frm r2)⟩
      · unfold f_Hal_since
        rw [a1 M o, e_bnd, if_neg (by decide), b1, e_bnd, if_neg (by decide), p1, e_bnd2]
      · unfold f_Mod_since
        rw [a2 M1 hA1.2.1, e_bnd, if_neg (by decide), b2, e_bnd, if_neg (by decide)]
        exact r1
    · refine ⟨-1, M, M, ?_, ?_, ⟨T, hA, hI, hS, hT, hF⟩⟩
      · simp (disch := omega) only [e_bnd, e_bnd2, e_set, e_cpy, e_nmI, e_nmL, e_ckn, e_ckB0, e_ckB1, l0, l1, l2, l3, l4, l5, l6, l7, l8, l9, l10, l11, l12, l13, l14, l15, l16, l17, l18, l19, l20, l21, l22, l24, l25, l32, l39, l40, l41, l48, l50, l56, l57, l59, l60, l72, l79, l80, l81, l82, l88, l89, l97, l100, l122, l124, l125, l160, l255, l312, l320, l375, l1000, nI_ltI, nI_leI, nI_eq, nI_add, pk_mul, e_ix, e_neg, if_true, if_false, if_pos, if_neg, f_Hal_since, a1 M o, b1]
      · simp (disch := omega) only [e_bnd, e_bnd2, e_set, e_cpy, e_nmI, e_nmL, e_ckn, e_ckB0, e_ckB1, l0, l1, l2, l3, l4, l5, l6, l7, l8, l9, l10, l11, l12, l13, l14, l15, l16, l17, l18, l19, l20, l21, l22, l24, l25, l32, l39, l40, l41, l48, l50, l56, l57, l59, l60, l72, l79, l80, l81, l82, l88, l89, l97, l100, l122, l124, l125, l160, l255, l312, l320, l375, l1000, nI_ltI, nI_leI, nI_eq, nI_add, pk_mul, e_ix, e_neg, if_true, if_false, if_pos, if_neg, f_Mod_since, a2 M om, b2]
  · refine ⟨-1, M, M, ?_, ?_, ⟨T, hA, hI, hS, hT, hF⟩⟩
    · simp (disch := omega) only [e_bnd, e_bnd2, e_set, e_cpy, e_nmI, e_nmL, e_ckn, e_ckB0, e_ckB1, l0, l1, l2, l3, l4, l5, l6, l7, l8, l9, l10, l11, l12, l13, l14, l15, l16, l17, l18, l19, l20, l21, l22, l24, l25, l32, l39, l40, l41, l48, l50, l56, l57, l59, l60, l72, l79, l80, l81, l82, l88, l89, l97, l100, l122, l124, l125, l160, l255, l312, l320, l375, l1000, nI_ltI, nI_leI, nI_eq, nI_add, pk_mul, e_ix, e_neg, if_true, if_false, if_pos, if_neg, f_Hal_since, a1 M o]
    · simp (disch := omega) only [e_bnd, e_bnd2, e_set, e_cpy, e_nmI, e_nmL, e_ckn, e_ckB0, e_ckB1, l0, l1, l2, l3, l4, l5, l6, l7, l8, l9, l10, l11, l12, l13, l14, l15, l16, l17, l18, l19, l20, l21, l22, l24, l25, l32, l39, l40, l41, l48, l50, l56, l57, l59, l60, l72, l79, l80, l81, l82, l88, l89, l97, l100, l122, l124, l125, l160, l255, l312, l320, l375, l1000, nI_ltI, nI_leI, nI_eq, nI_add, pk_mul, e_ix, e_neg, if_true, if_false, if_pos, if_neg, f_Mod_since, a2 M om]
theorem a_bits {n : Nat} (x : Int32) : (f_Hal_areBitsBelow x (nI n) = some (nI 1) ∧ f_Mod_in x.toInt64 0 ((jshl 1 (nI n) - 1).toInt64) = some (nI 1)) ∨ (f_Hal_areBitsBelow x (nI n) = some (nI 0) ∧ f_Mod_in x.toInt64 0 ((jshl 1 (nI n) - 1).toInt64) = some (nI 0)) := by
  have e : f_Mod_in x.toInt64 0 ((jshl 1 (nI n) - 1).toInt64) = some (if 0 ≤ x ∧ x ≤ jshl 1 (nI n) - 1 then nI 1 else nI 0) := m_in0 x rfl rfl
  have e2 : f_Hal_within x 0 (jshl 1 (nI n) - 1) = some (if 0 ≤ x ∧ x ≤ jshl 1 (nI n) - 1 then nI 1 else nI 0) := w_in _ _ _
  unfold f_Hal_areBitsBelow
  rw [e, e2]
  by_cases h : 0 ≤ x ∧ x ≤ jshl 1 (nI n) - 1
  · rw [if_pos h]
    exact Or.inl ⟨rfl, rfl⟩
  · rw [if_neg h]
    exact Or.inr ⟨rfl, rfl⟩
def lkV (T : Tn) (s w : Nat) (ins : Int32) : Int32 := if sfi (outP T s ins) (T 14 0) < T 14 0 then (if w = 0 then nI (sfi (outP T s ins) (T 14 0)) else if w = 1 then nI (T 16 (sfi (outP T s ins) (T 14 0))) else orN (tl T bt0 (sfi (outP T s ins) (T 14 0) + 1) s) (T 1 5) &&& (ins ^^^ (-1))) else -4
theorem m_leakL {T : Tn} (g : Good T) {s w : Nat} (hs : s < 8) (hw : w ≤ 2) {ins : Int32} : ∀ (m n k : Nat) (M : Mem), OnM T M → k + m = T 14 0 → m < n → (∀ j, j < k → outP T s ins j = false) → ∃ M', f_Mod_leak_L42 n (nI s) ins (nI w) (nI k) M = some (lkV T s w ins, M') ∧ Frm M M' := by
  have h9 := g.ns
  intro m
  induction m with
  | zero =>
    intro n k M o hk hn hf
    obtain ⟨n, rfl⟩ : ∃ z, n = z + 1 := ⟨n - 1, by omega⟩
    have e : k = T 14 0 := by omega
    subst e
    have ea : sfi (outP T s ins) (T 14 0) = T 14 0 := sfi_is (Nat.le_refl _) hf (fun h => absurd h (Nat.lt_irrefl _))
    refine ⟨M, ?_, Frm.rf⟩
    rw [f_Mod_leak_L42, show M 104 (ix 88) = nI (T 14 0) from o.ns, if_pos (by rw [nI_leI (by omega) (by omega)]; omega), lkV, if_neg (by omega)]
  | succ m ih =>
    intro n k M o hk hn hf
    obtain ⟨n, rfl⟩ : ∃ z, n = z + 1 := ⟨n - 1, by omega⟩
    obtain ⟨M1, p1, p2, p3⟩ := m_wh0 o g (N := k + 1) (by omega)
    rw [f_Mod_leak_L42, show M 104 (ix 88) = nI (T 14 0) from o.ns, if_neg (by rw [nI_leI (by omega) (by omega)]; omega), nI_1, p1, e_bnd2, e_ckn (by omega) (by decide), show ix (nI s) = s from e_ix (by omega), p3 s hs, e_nmI]
    by_cases h0 : orN (tl T bt0 (k + 1) s) (T 1 5) &&& (ins ^^^ (-1)) = 0
    · rw [if_pos h0]
      obtain ⟨M', r1, r2⟩ := ih n (k + 1) M1 (o.fr p2) (by omega) (by omega) (fun j hj => by
        by_cases e : j = k
        · subst e; exact decide_eq_false (not_not_intro h0)
        · exact hf j (by omega))
      exact ⟨M', r1, p2.tr r2⟩
    · rw [if_neg h0]
      have ea : sfi (outP T s ins) (T 14 0) = k := sfi_is (by omega) hf (fun _ => decide_eq_true h0)
      refine ⟨M1, ?_, p2⟩
      rw [lkV, ea, if_pos (show k < T 14 0 by omega)]
      rcases (show w = 0 ∨ w = 1 ∨ w = 2 by omega) with rfl | rfl | rfl
      · rfl
      · rw [if_neg (by decide), if_pos (by rfl), (m_say (o.fr p2) g (show k < T 14 0 by omega)).2.1, e_bnd]
        rfl
      · rfl
theorem s_leak (x y z : Int32) : Sim (f_Hal_leak x y z) (f_Mod_leak x y z) := by
  intro M ⟨T, hA, hI, hS, hT, hF⟩
  obtain ⟨o, om, g⟩ := id hA
  have h9 := g.ns
  have h8 := g.n
  have e2 : f_Mod_in z.toInt64 0 2 = f_Mod_in z.toInt64 0 (nI 2).toInt64 := rfl
  rcases a_secret x with ⟨s, hs, rfl, b1, b2⟩ | ⟨b1, b2⟩
  · rcases a_bits (n := T 1 5) y with ⟨d1, d2⟩ | ⟨d1, d2⟩
    · rcases wi z (m := 2) (by decide) with ⟨w, hw, rfl, f1, f2⟩ | ⟨f1, f2, -⟩
      · obtain ⟨M1, p1, p2, p3⟩ := c_fko o g hs (ins := y)
        have hA1 := hA.frc p2 (by decide) (by decide)
        obtain ⟨M2, r1, r2⟩ := m_leakL g hs hw (ins := y) (T 14 0) 1000 0 M1 hA1.2.1 (by omega) (by omega) (fun j hj => by omega)
        refine ⟨lkV T s w y, M1, M2, ?_, ?_, Inv.to hI hS hT hF ((p2.kp (by decide) (by decide)).tr r2.kp) (fun _ _ _ => rfl) (hA1.frm r2)⟩
        · unfold f_Hal_leak
          rw [b1, e_bnd, if_neg (by decide), o.s5, d1, e_bnd, if_neg (by decide), show (0 : Int32) = nI 0 from rfl, show (2 : Int32) = nI 2 from rfl, f1, e_bnd, if_neg (by decide), p1, e_bnd2, lkV]
          by_cases q : sfi (outP T s y) (T 14 0) < T 14 0
          · rw [if_pos q, if_neg (by rw [l4, e_neg (by omega) (by omega) (by omega)]; exact id), if_pos q]
            rcases (show w = 0 ∨ w = 1 ∨ w = 2 by omega) with rfl | rfl | rfl
            · rfl
            · rw [if_neg (by decide), if_pos (by rfl), (c_wsp hA1.1 g q).2.1, e_bnd]
              rfl
            · rw [if_neg (by decide), if_neg (by decide), c_kof (p3 q) hs, e_bnd]
              rfl
          · rw [if_neg q, if_pos rfl, if_neg q]
        · unfold f_Mod_leak
          rw [b2, e_bnd, if_neg (by decide), hA1.2.1.s5, d2, e_bnd, if_neg (by decide), e2, f2, e_bnd, if_neg (by decide)]
          exact r1
      · refine ⟨-1, M, M, ?_, ?_, ⟨T, hA, hI, hS, hT, hF⟩⟩
        · unfold f_Hal_leak
          rw [b1, e_bnd, if_neg (by decide), o.s5, d1, e_bnd, if_neg (by decide), show (0 : Int32) = nI 0 from rfl, show (2 : Int32) = nI 2 from rfl, f1, e_bnd, if_pos (by rfl)]
        · unfold f_Mod_leak
          rw [b2, e_bnd, if_neg (by decide), om.s5, d2, e_bnd, if_neg (by decide), e2, f2, e_bnd, if_pos (by rfl)]
    · refine ⟨-1, M, M, ?_, ?_, ⟨T, hA, hI, hS, hT, hF⟩⟩
      · unfold f_Hal_leak
        rw [b1, e_bnd, if_neg (by decide), o.s5, d1, e_bnd, if_pos (by rfl)]
      · unfold f_Mod_leak
        rw [b2, e_bnd, if_neg (by decide), om.s5, d2, e_bnd, if_pos (by rfl)]
  · refine ⟨-1, M, M, ?_, ?_, ⟨T, hA, hI, hS, hT, hF⟩⟩
    · simp (disch := omega) only [e_bnd, e_bnd2, e_set, e_cpy, e_nmI, e_nmL, e_ckn, e_ckB0, e_ckB1, l0, l1, l2, l3, l4, l5, l6, l7, l8, l9, l10, l11, l12, l13, l14, l15, l16, l17, l18, l19, l20, l21, l22, l24, l25, l32, l39, l40, l41, l48, l50, l56, l57, l59, l60, l72, l79, l80, l81, l82, l88, l89, l97, l100, l122, l124, l125, l160, l255, l312, l320, l375, l1000, nI_ltI, nI_leI, nI_eq, nI_add, pk_mul, e_ix, e_neg, if_true, if_false, if_pos, if_neg, f_Hal_leak, b1]
    · simp (disch := omega) only [e_bnd, e_bnd2, e_set, e_cpy, e_nmI, e_nmL, e_ckn, e_ckB0, e_ckB1, l0, l1, l2, l3, l4, l5, l6, l7, l8, l9, l10, l11, l12, l13, l14, l15, l16, l17, l18, l19, l20, l21, l22, l24, l25, l32, l39, l40, l41, l48, l50, l56, l57, l59, l60, l72, l79, l80, l81, l82, l88, l89, l97, l100, l122, l124, l125, l160, l255, l312, l320, l375, l1000, nI_ltI, nI_leI, nI_eq, nI_add, pk_mul, e_ix, e_neg, if_true, if_false, if_pos, if_neg, f_Mod_leak, b2]
theorem s_without (x : Int32) : Sim (f_Hal_without x) (f_Mod_without x) := by
  intro M ⟨T, hA, hI, hS, hT, hF⟩
  obtain ⟨o, om, g⟩ := id hA
  have h9 := g.ns
  have h8 := g.n
  rcases a_say g x with ⟨i, hi, rfl, a1, a2⟩ | ⟨a1, a2⟩
  · have hv := g.v hi
    obtain ⟨M1, p1, p2, p3⟩ := c_tellF o g (N := T 14 0) (Nat.le_refl _)
    have hA1 := hA.frc p2 (by decide) (by decide)
    obtain ⟨M2, q1, q2, q3⟩ := c_tellX hA1.1 g hi
    have hA2 := hA1.frc q2 (by decide) (by decide)
    obtain ⟨M3, r1, r2, r3⟩ := m_wh0 hA2.2.1 g (N := T 14 0) (Nat.le_refl _)
    have hA3 := hA2.frm r2
    obtain ⟨M4, t1, t2, t3⟩ := m_wh hA3.2.1 g (N := T 14 0) (Nat.le_refl _) (x := nI i) (bt := btx i) (fun c hc => by rw [nI_eq (by omega) (by omega)]; simp [btx])
    refine ⟨if 0 ≤ nI (cntN (tl T bt0 (T 14 0) (T 17 i)) (T 1 5)) - nI (cntN (tl T (btx i) (T 14 0) (T 17 i)) (T 1 5)) then nI (cntN (tl T bt0 (T 14 0) (T 17 i)) (T 1 5)) - nI (cntN (tl T (btx i) (T 14 0) (T 17 i)) (T 1 5)) else nI (cntN (tl T bt0 (T 14 0) (T 17 i)) (T 1 5)) - nI (cntN (tl T (btx i) (T 14 0) (T 17 i)) (T 1 5)) - 100, M2, M4, ?_, ?_, Inv.to hI hS hT hF ((((p2.kp (by decide) (by decide)).tr (q2.kp (by decide) (by decide))).tr r2.kp).tr t2.kp) (fun _ _ _ => rfl) (hA3.frm t2)⟩
    · unfold f_Hal_without
      rw [a1 M o, e_bnd, if_neg (by decide), (c_wsp o g hi).2.2, e_bnd, o.ns, p1, e_bnd2, c_kof p3 hv.2.2, e_bnd, c_cnt (by omega), e_bnd, q1, e_bnd, c_kof q3 hv.2.2, e_bnd, c_cnt (by omega), e_bnd, e_nmI]
      split <;> rfl
    · unfold f_Mod_without
      rw [a2 M2 hA2.2.1, e_bnd, if_neg (by decide), (m_say hA2.2.1 g hi).2.2, e_bnd, show M2 104 (ix 88) = nI (T 14 0) from hA2.2.1.ns, r1, e_bnd2, e_ckn hv.2.2 (by decide), show ix (nI (T 17 i)) = T 17 i from e_ix (by omega), r3 _ hv.2.2, m_cnt (by omega), e_bnd, show M3 104 (ix 88) = nI (T 14 0) from hA3.2.1.ns, t1, e_bnd2, e_ckn hv.2.2 (by decide), t3 _ hv.2.2, m_cnt (by omega), e_bnd, e_nmI]
      split <;> rfl
  · refine ⟨-1, M, M, ?_, ?_, ⟨T, hA, hI, hS, hT, hF⟩⟩
    · simp (disch := omega) only [e_bnd, e_bnd2, e_set, e_cpy, e_nmI, e_nmL, e_ckn, e_ckB0, e_ckB1, l0, l1, l2, l3, l4, l5, l6, l7, l8, l9, l10, l11, l12, l13, l14, l15, l16, l17, l18, l19, l20, l21, l22, l24, l25, l32, l39, l40, l41, l48, l50, l56, l57, l59, l60, l72, l79, l80, l81, l82, l88, l89, l97, l100, l122, l124, l125, l160, l255, l312, l320, l375, l1000, nI_ltI, nI_leI, nI_eq, nI_add, pk_mul, e_ix, e_neg, if_true, if_false, if_pos, if_neg, f_Hal_without, a1 M o]
    · simp (disch := omega) only [e_bnd, e_bnd2, e_set, e_cpy, e_nmI, e_nmL, e_ckn, e_ckB0, e_ckB1, l0, l1, l2, l3, l4, l5, l6, l7, l8, l9, l10, l11, l12, l13, l14, l15, l16, l17, l18, l19, l20, l21, l22, l24, l25, l32, l39, l40, l41, l48, l50, l56, l57, l59, l60, l72, l79, l80, l81, l82, l88, l89, l97, l100, l122, l124, l125, l160, l255, l312, l320, l375, l1000, nI_ltI, nI_leI, nI_eq, nI_add, pk_mul, e_ix, e_neg, if_true, if_false, if_pos, if_neg, f_Mod_without, a2 M om]
