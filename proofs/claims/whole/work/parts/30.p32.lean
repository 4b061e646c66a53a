/-! pure: the reference's lines -/
section MLN
variable {b : Nat → Nat} {L : Nat} {z : Tz} {D : Tn} {M : Mem}
/-- bounds of what is gathered -/
def DA (D : Tn) : Prop := D 22 0 ≤ 8 ∧ D 23 0 ≤ 8 ∧ D 24 0 ≤ 6
theorem MI.z0 (c : MI b L z D M) : (M 103 27 = 0) ↔ z.1 = 0 := c.2.2.1.z0 c.2.1
theorem m_142 (hL : L ≤ 320) (hb : ∀ j, j < L → b j < 256) {x : Int32} {y : Tz} {D' : Tn} (c : MI b L z D M) (H : ∀ M2, MI b L (nx b L z) D M2 → (nx b L z).1 = 0 → ∃ M5, f_Mod_readLineOf x M2 = some M5 ∧ MI b L y D' M5 ∧ Fq M2 M5) (hd : (nx b L z).1 ≠ 0 → y = nx b L z) : ∃ M', f_Mod_readLine_J142 x M = some M' ∧ MI b L (nx b L (ckS y)) D' M' ∧ Fq M M' := by
  obtain ⟨M2, a1, a2, a3⟩ := c.next hL hb
  unfold f_Mod_readLine_J142
  rw [a1, e_bnd]
  by_cases q : (nx b L z).1 = 0
  · rw [if_pos (by rw [a2.2.2.1.1, q]; decide)]
    obtain ⟨M5, d1, d2, d3⟩ := H M2 a2 q
    rw [d1, e_bnd]
    by_cases u : y.1 = 0
    · rw [if_pos (d2.z0.mpr u), (d2.2.2.1.2.2 u).1]
      have ht := (d2.2.1.2.2 u).1
      by_cases t : y.2.2.1 = 3
      · have e : ckS y = y := by unfold ckS; rw [if_pos t]
        obtain ⟨M6, g1, g2, g3⟩ := d2.next hL hb
        rw [t, if_pos (by rfl), e, f_Mod_readLine_J180, m_ok, e_bnd, f_Mod_readLine_J184, g1, e_bnd]
        exact ⟨M6, rfl, g2, a3.q.tr (d3.tr g3.q)⟩
      · have e : ckS y = flt 2 y := by unfold ckS; rw [if_neg t]
        obtain ⟨M6, g1, g2, g3⟩ := d2.flt hL (f := 2) (by decide) (by decide)
        obtain ⟨M7, h1, h2, h3⟩ := g2.next hL hb
        rw [if_neg (by rw [l3, nI_eq (by omega) (by omega)]; exact t), e, f_Mod_readLine_J180, show (2 : Int32) = nI 2 from rfl, g1, e_bnd, f_Mod_readLine_J184, h1, e_bnd]
        exact ⟨M7, rfl, h2, a3.q.tr (d3.tr (g3.q.tr h3.q))⟩
    · obtain ⟨M6, g1, g2, g3⟩ := d2.next hL hb
      rw [if_neg (fun e => u (d2.z0.mp e)), f_Mod_readLine_J184, g1, e_bnd, ckS_d u]
      exact ⟨M6, rfl, g2, a3.q.tr (d3.tr g3.q)⟩
  · have := a2.2.1.1
    rw [if_neg (by rw [a2.2.2.1.1, l0, nI_leI (by omega) (by omega)]; omega)]
    refine ⟨M2, rfl, ?_, a3.q⟩
    rw [hd q, ckS_d q, nx_d q]
    exact ⟨a2.1, a2.2.1, a2.2.2.1, fun e => absurd e q⟩
/-- up to a line's first word behind its name -/
theorem m_93r (hL : L ≤ 320) (c : MI b L z D M) (q : z.1 = 0) {i : Nat} (hi : i < 5) : ∃ M', f_Mod_readLine_J93 (nI i) 1 M = f_Mod_readLine_J142 (nI i) M' ∧ MI b L (lnf D i z) (tset D 20 i 1) M' ∧ Fq M M' := by
  have h20 := (c.2.2.2 q).2.2.2.2.2.2.2.2
  unfold f_Mod_readLine_J93
  rw [m_ok, e_bnd, if_pos (c.z0.mpr q), if_neg (by rw [l5, nI_leI (by omega) (by omega)]; omega), h20, rlM, orN_bit (by omega) (by decide)]
  unfold lnf
  by_cases e : D 20 i = 1
  · have eb : (if i < 5 ∧ decide (D 20 i = 1) = true then nI 1 else nI 0) = nI 1 := if_pos ⟨hi, decide_eq_true e⟩
    obtain ⟨M', a1, a2, a3⟩ := c.flt hL (f := 4) (by decide) (by decide)
    rw [eb, if_neg (show ¬ nI 1 = 0 by decide), if_pos e, f_Mod_readLine_J126, show (4 : Int32) = nI 4 from rfl, a1, e_bnd, e_set]
    exact ⟨_, rfl, a2.set (Or.inr (by decide)) (fun x h => absurd x (flt_ne (by decide))), a3.q.s (Or.inr (by decide))⟩
  · have eb : (if i < 5 ∧ decide (D 20 i = 1) = true then nI 1 else nI 0) = nI 0 := if_neg (fun x => e (of_decide_eq_true x.2))
    rw [eb, if_pos (show nI 0 = 0 from rfl), if_neg e, f_Mod_readLine_J126, m_ok, e_bnd, e_set]
    exact ⟨_, rfl, c.set (Or.inr (by decide)) (fun x h => h.s20 hi), Fq.rf.s (Or.inr (by decide))⟩
theorem m_931 (c : MI b L z D M) (q : z.1 = 0) {i : Nat} (hi : 5 ≤ i) (hi2 : i ≤ 10) : f_Mod_readLine_J93 (nI i) 1 M = f_Mod_readLine_J142 (nI i) M := by
  unfold f_Mod_readLine_J93
  rw [m_ok, e_bnd, if_pos (c.z0.mpr q), if_pos (by rw [l5, nI_leI (by omega) (by omega)]; exact hi)]
theorem m_930 (hL : L ≤ 320) (c : MI b L z D M) {x : Int32} : ∃ M', f_Mod_readLine_J93 x 0 M = f_Mod_readLine_J142 x M' ∧ MI b L (flt 5 z) D M' ∧ Fq M M' := by
  obtain ⟨M', a1, a2, a3⟩ := c.flt hL (f := 5) (by decide) (by decide)
  refine ⟨M', ?_, a2, a3.q⟩
  unfold f_Mod_readLine_J93
  rw [show (5 : Int32) = nI 5 from rfl, a1, e_bnd, if_neg (fun e => flt_ne (by decide) (a2.z0.mp e))]
/-- a line's first steps, by its name -/
theorem m_pre (hL : L ≤ 320) (c : MI b L z D M) (q : z.1 = 0) (hD : DB D) {i : Nat} (hi : i ≤ 10) : ∃ M', f_Mod_readLine_J17 (nI i) M = f_Mod_readLine_J142 (nI i) M' ∧ MI b L (if i < 5 then lnf D i z else if i = 5 then full (D 4 0) 8 z else if i = 8 ∨ i = 9 then full (D 10 0) 8 z else if i = 10 then full (D 14 0) 12 z else z) (if i < 5 then tset D 20 i 1 else D) M' ∧ Fq M M' := by
  obtain ⟨-, -, ⟨h15, -⟩, ⟨h16, -⟩, ⟨h88, -⟩, -⟩ := c.2.2.2 q
  have hd1 := hD.1
  have hd2 := hD.2.1
  have hd3 := hD.2.2.1
  have r17 : f_Mod_readLine_J17 (nI i) M = f_Mod_readLine_J30 (nI i) 1 M := by
    unfold f_Mod_readLine_J17
    rw [if_neg (by rw [l4, e_neg (by omega) (by omega) (by omega)]; exact id)]
  have ne : ∀ k, k ≤ 10 → i ≠ k → ¬ nI i = nI k := fun k hk h e => h ((nI_eq (by omega) (by omega)).mp e)
  rw [r17, f_Mod_readLine_J30, m_ok, e_bnd]
  have j88 : f_Mod_readLine_J88 (nI i) M = f_Mod_readLine_J93 (nI i) 1 M := rfl
  have j92 : f_Mod_readLine_J92 (nI i) M = f_Mod_readLine_J93 (nI i) 0 M := rfl
  by_cases h5 : i < 5
  · rw [if_neg (by rw [l5]; exact ne 5 (by decide) (by omega)), f_Mod_readLine_J49, if_neg (by rw [l8]; exact ne 8 (by decide) (by omega)), if_neg (by rw [l9]; exact ne 9 (by decide) (by omega)), f_Mod_readLine_J70, if_neg (by rw [l10]; exact ne 10 (by decide) (by omega)), j88, if_pos h5, if_pos h5]
    exact m_93r hL c q h5
  · rw [if_neg h5, if_neg h5]
    by_cases e5 : i = 5
    · rw [if_pos (by rw [l5, e5]), h15, if_pos e5]
      unfold full
      by_cases f : 8 ≤ D 4 0
      · rw [if_pos (by rw [l8, nI_leI (by omega) (by omega)]; exact f), j92, if_pos f]
        exact m_930 hL c
      · rw [if_neg (by rw [l8, nI_leI (by omega) (by omega)]; exact f), f_Mod_readLine_J49, if_neg (by rw [l8]; exact ne 8 (by decide) (by omega)), if_neg (by rw [l9]; exact ne 9 (by decide) (by omega)), f_Mod_readLine_J70, if_neg (by rw [l10]; exact ne 10 (by decide) (by omega)), j88, if_neg f, m_931 c q (by omega) hi]
        exact ⟨M, rfl, c, Fq.rf⟩
    · rw [if_neg (by rw [l5]; exact ne 5 (by decide) e5), if_neg e5]
      have w61 : i = 8 ∨ i = 9 → ∃ M', f_Mod_readLine_J61 (nI i) M = f_Mod_readLine_J142 (nI i) M' ∧ MI b L (full (D 10 0) 8 z) D M' ∧ Fq M M' := fun h => by
        unfold f_Mod_readLine_J61 full
        rw [h16]
        by_cases f : 8 ≤ D 10 0
        · rw [if_pos (by rw [l8, nI_leI (by omega) (by omega)]; exact f), j92, if_pos f]
          exact m_930 hL c
        · rw [if_neg (by rw [l8, nI_leI (by omega) (by omega)]; exact f), f_Mod_readLine_J70, if_neg (by rw [l10]; exact ne 10 (by decide) (by omega)), j88, if_neg f, m_931 c q (by omega) hi]
          exact ⟨M, rfl, c, Fq.rf⟩
      by_cases e8' : i = 8 ∨ i = 9
      · rw [if_pos e8', f_Mod_readLine_J49]
        by_cases e8 : i = 8
        · rw [if_pos (by rw [l8, e8])]; exact w61 e8'
        · rw [if_neg (by rw [l8]; exact ne 8 (by decide) e8), if_pos (by rw [l9, e8'.resolve_left e8])]; exact w61 e8'
      · rw [if_neg e8', f_Mod_readLine_J49, if_neg (by rw [l8]; exact ne 8 (by decide) (by omega)), if_neg (by rw [l9]; exact ne 9 (by decide) (by omega)), f_Mod_readLine_J70]
        by_cases e10 : i = 10
        · rw [if_pos (by rw [l10, e10]), show ix 88 = 88 from rfl, h88, if_pos e10]
          unfold full
          by_cases f : 12 ≤ D 14 0
          · rw [if_pos (by rw [l12, nI_leI (by omega) (by omega)]; exact f), j92, if_pos f]
            exact m_930 hL c
          · rw [if_neg (by rw [l12, nI_leI (by omega) (by omega)]; exact f), j88, if_neg f, m_931 c q (by omega) hi]
            exact ⟨M, rfl, c, Fq.rf⟩
        · rw [if_neg (by rw [l10]; exact ne 10 (by decide) e10), j88, if_neg e10, m_931 c q (by omega) hi]
          exact ⟨M, rfl, c, Fq.rf⟩
/-- no name -/
theorem m_lnU (hL : L ≤ 320) (hb : ∀ j, j < L → b j < 256) (c : MI b L z D M) : ∃ M', f_Mod_readLine_J17 (-4) M = some M' ∧ MI b L (flt 2 z) D M' ∧ Fq M M' := by
  obtain ⟨M1, a1, a2, a3⟩ := c.flt hL (f := 2) (by decide) (by decide)
  have n0 : (flt 2 z).1 ≠ 0 := flt_ne (by decide)
  obtain ⟨M2, d1, d2, d3⟩ := a2.next hL hb
  rw [nx_d n0] at d2
  refine ⟨M2, ?_, d2, a3.q.tr d3.q⟩
  have := d2.2.1.1
  unfold f_Mod_readLine_J17 f_Mod_readLine_J30
  rw [if_pos rfl, show (2 : Int32) = nI 2 from rfl, a1, e_bnd, if_neg (by decide), f_Mod_readLine_J49, if_neg (by decide), if_neg (by decide), f_Mod_readLine_J70, if_neg (by decide), f_Mod_readLine_J88, f_Mod_readLine_J93, m_ok, e_bnd, if_neg (fun e => n0 (a2.z0.mp e)), f_Mod_readLine_J142, d1, e_bnd, if_neg (by rw [d2.2.2.1.1, l0, nI_leI (by omega) (by omega)]; omega)]
theorem m_of0 (hL : L ≤ 320) (hb : ∀ j, j < L → b j < 256) (c : MI b L z D M) : ∃ M', f_Mod_readLineOf (nI 0) M = some M' ∧ MI b L (nx b L (ckN 3 9 (nx b L (ckN 3 9 z)))) (tset (tset D 1 0 (nm z)) 1 1 (nm (nx b L (ckN 3 9 z)))) M' ∧ Fq M M' := by
  obtain ⟨k, M1, a1, a2, a3, a4, a5⟩ := c.num hL hb (lo := 3) (hi := 9) (by decide) (by decide)
  have b2 := a2.set (a := 111) (k := 0) (x := nI k) (D' := tset D 1 0 (nm z)) (Or.inl (by decide)) (fun e h => by rw [a4 e]; exact h.s111 (by decide))
  obtain ⟨k2, M2, d1, d2, d3, d4, d5⟩ := b2.num hL hb (lo := 3) (hi := 9) (by decide) (by decide)
  have e2 := d2.set (a := 111) (k := 1) (x := nI k2) (D' := tset (tset D 1 0 (nm z)) 1 1 (nm (nx b L (ckN 3 9 z)))) (Or.inl (by decide)) (fun e h => by rw [d4 e]; exact h.s111 (by decide))
  refine ⟨_, ?_, e2, (((a3.q).s (Or.inl (by decide))).tr d3.q).s (Or.inl (by decide))⟩
  unfold f_Mod_readLineOf
  rw [if_pos (by rfl), show (3 : Int32) = nI 3 from rfl, show (9 : Int32) = nI 9 from rfl, a1, e_bnd2, e_set, show ix 0 = 0 from rfl, d1, e_bnd2, e_set, show ix 1 = 1 from rfl]

theorem m_of1 (hL : L ≤ 320) (hb : ∀ j, j < L → b j < 256) (c : MI b L z D M) : ∃ M', f_Mod_readLineOf (nI 1) M = some M' ∧ MI b L (nx b L (ckN 0 20 z)) (tset D 1 2 (nm z)) M' ∧ Fq M M' := by
  obtain ⟨k, M1, a1, a2, a3, a4, a5⟩ := c.num hL hb (lo := 0) (hi := 20) (by decide) (by decide)
  have b2 := a2.set (a := 111) (k := 2) (x := nI k) (D' := (tset D 1 2 (nm z))) (Or.inl (by decide)) (fun e h => by rw [a4 e]; exact h.s111 (by decide))
  refine ⟨_, ?_, b2, a3.q.s (Or.inl (by decide))⟩
  unfold f_Mod_readLineOf
  rw [if_neg (show ¬ nI 1 = 0 by decide), if_pos (show nI 1 = 1 from rfl), show (0 : Int32) = nI 0 from rfl, show (20 : Int32) = nI 20 from rfl, a1, e_bnd2, e_set, show ix 2 = 2 from rfl]
theorem m_of2 (hL : L ≤ 320) (hb : ∀ j, j < L → b j < 256) (c : MI b L z D M) : ∃ M', f_Mod_readLineOf (nI 2) M = some M' ∧ MI b L (nx b L (ckN 0 50 z)) (tset D 1 3 (nm z)) M' ∧ Fq M M' := by
  obtain ⟨k, M1, a1, a2, a3, a4, a5⟩ := c.num hL hb (lo := 0) (hi := 50) (by decide) (by decide)
  have b2 := a2.set (a := 111) (k := 3) (x := nI k) (D' := (tset D 1 3 (nm z))) (Or.inl (by decide)) (fun e h => by rw [a4 e]; exact h.s111 (by decide))
  refine ⟨_, ?_, b2, a3.q.s (Or.inl (by decide))⟩
  unfold f_Mod_readLineOf
  rw [if_neg (show ¬ nI 2 = 0 by decide), if_neg (show ¬ nI 2 = 1 by decide), if_pos (show nI 2 = 2 from rfl), show (0 : Int32) = nI 0 from rfl, show (50 : Int32) = nI 50 from rfl, a1, e_bnd2, e_set, show ix 3 = 3 from rfl]
theorem m_of3 (hL : L ≤ 320) (hb : ∀ j, j < L → b j < 256) (c : MI b L z D M) : ∃ M', f_Mod_readLineOf (nI 3) M = some M' ∧ MI b L (nx b L (ckN 0 9 z)) (tset D 1 4 (nm z)) M' ∧ Fq M M' := by
  obtain ⟨k, M1, a1, a2, a3, a4, a5⟩ := c.num hL hb (lo := 0) (hi := 9) (by decide) (by decide)
  have b2 := a2.set (a := 108) (k := 81) (x := nI k) (D' := (tset D 1 4 (nm z))) (Or.inl (by decide)) (fun e h => by rw [a4 e]; exact h.s108w)
  refine ⟨_, ?_, b2, a3.q.s (Or.inl (by decide))⟩
  unfold f_Mod_readLineOf
  rw [if_neg (show ¬ nI 3 = 0 by decide), if_neg (show ¬ nI 3 = 1 by decide), if_neg (show ¬ nI 3 = 2 by decide), if_pos (show nI 3 = 3 from rfl), show (0 : Int32) = nI 0 from rfl, show (9 : Int32) = nI 9 from rfl, a1, e_bnd2, e_set, show ix 81 = 81 from rfl]
theorem m_of4 (hL : L ≤ 320) (hb : ∀ j, j < L → b j < 256) (c : MI b L z D M) : ∃ M', f_Mod_readLineOf (nI 4) M = some M' ∧ MI b L (nx b L (ckN 0 6 z)) (tset D 21 0 (nm z + 1)) M' ∧ Fq M M' := by
  obtain ⟨k, M1, a1, a2, a3, a4, a5⟩ := c.num hL hb (lo := 0) (hi := 6) (by decide) (by decide)
  have b2 := a2.set (a := 111) (k := 4) (x := nI k) (D' := (tset D 21 0 (nm z + 1))) (Or.inl (by decide)) (fun e h => by rw [a4 e]; exact h.s1114)
  refine ⟨_, ?_, b2, a3.q.s (Or.inl (by decide))⟩
  unfold f_Mod_readLineOf
  rw [if_neg (show ¬ nI 4 = 0 by decide), if_neg (show ¬ nI 4 = 1 by decide), if_neg (show ¬ nI 4 = 2 by decide), if_neg (show ¬ nI 4 = 3 by decide), if_pos (show nI 4 = 4 from rfl), show (0 : Int32) = nI 0 from rfl, show (6 : Int32) = nI 6 from rfl, a1, e_bnd2, e_set, show ix 4 = 4 from rfl]
theorem m_j51 (hL : L ≤ 320) (hb : ∀ j, j < L → b j < 256) (c : MI b L z D M) (hA : DA D) {k1 k2 : Nat} (h1 : k1 ≤ 8) (h2 : k2 ≤ 8) : ∃ M', f_Mod_readCell_J51 (nI k1) (nI k2) M = some (nI (9 * k2 + k1), M') ∧ MI b L (nx b L z) (tset (tset D 22 0 (max (D 22 0) k1)) 23 0 (max (D 23 0) k2)) M' ∧ Fq M M' := by
  obtain ⟨M1, a1, a2, a3⟩ := c.next hL hb
  have hA1 := hA.1
  have hA2 := hA.2.1
  have s18 : ∃ x, (if nI k1 ≤ M1 103 18 then f_Mod_readCell_J72 (nI k1) (nI k2) (M1 103 18) M1 else f_Mod_readCell_J72 (nI k1) (nI k2) (nI k1) M1) = f_Mod_readCell_J72 (nI k1) (nI k2) x M1 ∧ ((nx b L z).1 = 0 → x = nI (max (D 22 0) k1)) := by
    by_cases e : nI k1 ≤ M1 103 18
    · refine ⟨_, by rw [if_pos e], fun q => ?_⟩
      have h18 := (a2.2.2.2 q).2.2.2.2.2.2.1
      rw [h18, nI_leI (by omega) (by omega)] at e
      rw [h18]; congr 1; omega
    · refine ⟨_, by rw [if_neg e], fun q => ?_⟩
      have h18 := (a2.2.2.2 q).2.2.2.2.2.2.1
      rw [h18, nI_leI (by omega) (by omega)] at e
      congr 1; omega
  obtain ⟨x, x1, x2⟩ := s18
  have b2 := a2.set (a := 103) (k := 18) (x := x) (D' := tset D 22 0 (max (D 22 0) k1)) (Or.inr (by decide)) (fun e h => by rw [x2 e]; exact h.s18)
  have s19 : ∃ x', f_Mod_readCell_J72 (nI k1) (nI k2) x M1 = f_Mod_readCell_J92 (nI k1) (nI k2) x' (upd2 M1 103 18 x) ∧ ((nx b L z).1 = 0 → x' = nI (max (D 23 0) k2)) := by
    unfold f_Mod_readCell_J72
    rw [e_set]
    by_cases e : nI k2 ≤ upd2 M1 103 18 x 103 19
    · refine ⟨_, by rw [if_pos e], fun q => ?_⟩
      have h18 := (a2.2.2.2 q).2.2.2.2.2.2.2.1
      rw [u_nk (by decide), h18, nI_leI (by omega) (by omega)] at e
      rw [u_nk (by decide), h18]; congr 1; omega
    · refine ⟨_, by rw [if_neg e], fun q => ?_⟩
      have h18 := (a2.2.2.2 q).2.2.2.2.2.2.2.1
      rw [u_nk (by decide), h18, nI_leI (by omega) (by omega)] at e
      congr 1; omega
  obtain ⟨x', y1, y2⟩ := s19
  have d2 := b2.set (a := 103) (k := 19) (x := x') (D' := tset (tset D 22 0 (max (D 22 0) k1)) 23 0 (max (D 23 0) k2)) (Or.inr (by decide)) (fun e h => by rw [y2 e]; exact h.s19)
  refine ⟨_, ?_, d2, (a3.q.s (Or.inr (by decide))).s (Or.inr (by decide))⟩
  unfold f_Mod_readCell_J51
  rw [a1, e_bnd, x1, y1, f_Mod_readCell_J92, e_set, l9, pk_mul, nI_add]
/-- a cell; s: 1 where it must be free -/
theorem m_cellR (hL : L ≤ 320) (hb : ∀ j, j < L → b j < 256) (c : MI b L z D M) (hA : DA D) (hD : DB D) {s : Nat} (hs : s ≤ 1) {y2 y3 zc : Tz} (h2 : y2 = nx b L (ckN 0 8 z)) (h3 : y3 = ckN 0 8 y2) (h4 : zc = if s = 1 then (if D 2 (9 * nm y2 + nm z) = 0 then y3 else flt 4 y3) else y3) : ∃ v M', f_Mod_readCell (nI s) M = some (nI v, M') ∧ MI b L (nx b L zc) (tset (tset D 22 0 (max (D 22 0) (nm z))) 23 0 (max (D 23 0) (nm y2))) M' ∧ Fq M M' ∧ v ≤ 80 ∧ (zc.1 = 0 → v = 9 * nm y2 + nm z) := by
  obtain ⟨k1, M1, a1, a2, a3, a4, a5⟩ := c.num hL hb (lo := 0) (hi := 8) (by decide) (by decide)
  rw [← h2] at a2 a4
  obtain ⟨k2, M2, b1, b2, b3, b4, b5⟩ := a2.look hL (lo := 0) (hi := 8) (by decide) (by decide)
  rw [← h3] at b2 b4
  have ly : y3.1 = 0 → y2.1 = 0 := fun e => by
    rw [h3] at e
    exact (ckN_l e).2.1
  have ek : y3.1 = 0 → k1 = nm z ∧ k2 = nm y2 := fun e => ⟨a4 (ly e), b4 e⟩
  have lz : zc.1 = 0 → y3.1 = 0 := fun e => by
    rw [h4] at e
    split at e
    · split at e
      · exact e
      · exact absurd e (flt_ne (by decide))
    · exact e
  have mid : ∃ M3, (if M2 103 27 = 0 then if nI s = 0 then f_Mod_readCell_J51 (nI k1) (nI k2) M2 else ck (inb ((9 * nI k2) + nI k1) 125) (if M2 108 (ix ((9 * nI k2) + nI k1)) = 0 then f_Mod_readCell_J47 (nI k1) (nI k2) 1 M2 else f_Mod_readCell_J47 (nI k1) (nI k2) 0 M2) else f_Mod_readCell_J51 (nI k1) (nI k2) M2) = f_Mod_readCell_J51 (nI k1) (nI k2) M3 ∧ MI b L zc D M3 ∧ Fq M2 M3 := by
    by_cases q : y3.1 = 0
    · obtain ⟨e1, e2⟩ := ek q
      rw [if_pos (b2.z0.mpr q)]
      by_cases t : s = 1
      · rw [if_neg (by rw [t]; decide), l9, pk_mul, nI_add, e_ckn (by omega) (by decide), show ix (nI (9 * k2 + k1)) = 9 * k2 + k1 from e_ix (by omega), (b2.2.2.2 q).2.1 _ (by omega), h4, if_pos t, ← e1, ← e2]
        have hc := hD.2.2.2.2 (9 * k2 + k1) (by omega)
        by_cases f : D 2 (9 * k2 + k1) = 0
        · rw [if_pos (by rw [f]; rfl), if_pos f, f_Mod_readCell_J47, m_ok, e_bnd]
          exact ⟨M2, rfl, b2, Fq.rf⟩
        · obtain ⟨M3, d1, d2, d3⟩ := b2.flt hL (f := 4) (by decide) (by decide)
          rw [if_neg (by rw [l0, nI_eq (by omega) (by omega)]; exact f), if_neg f, f_Mod_readCell_J47, show (4 : Int32) = nI 4 from rfl, d1, e_bnd]
          exact ⟨M3, rfl, d2, d3.q⟩
      · rw [if_pos (by rw [l0, nI_eq (by omega) (by omega)]; omega), h4, if_neg t]
        exact ⟨M2, rfl, b2, Fq.rf⟩
    · have ez : zc = y3 := by
        rw [h4]
        split
        · split
          · rfl
          · exact flt_d q
        · rfl
      rw [if_neg (fun e => q (b2.z0.mp e)), ez]
      exact ⟨M2, rfl, b2, Fq.rf⟩
  obtain ⟨M3, d1, d2, d3⟩ := mid
  obtain ⟨M4, e1, e2, e3⟩ := m_j51 hL hb d2 hA a5 b5
  refine ⟨9 * k2 + k1, M4, ?_, e2.cg (fun e => ?_), a3.q.tr (b3.q.tr (d3.tr e3)), by omega, fun e => ?_⟩
  · unfold f_Mod_readCell
    rw [show (0 : Int32) = nI 0 from rfl, show (8 : Int32) = nI 8 from rfl, a1, e_bnd2, b1, e_bnd2]
    exact d1.trans e1
  · obtain ⟨u1, u2⟩ := ek (lz (nx_l e))
    rw [u1, u2]
  · obtain ⟨u1, u2⟩ := ek (lz e)
    rw [u1, u2]
theorem m_j29 (hL : L ≤ 320) (hb : ∀ j, j < L → b j < 256) (c : MI b L z D M) (hA : z.1 = 0 → DA D) {k : Nat} (hk : k ≤ 5) : ∃ M', f_Mod_readOne_J29 (nI k) M = some (nI k, M') ∧ MI b L (nx b L z) (tset D 24 0 (max (D 24 0) (k + 1))) M' ∧ Fq M M' ∧ (∀ a, a ≠ 103 → M' a = M a) := by
  obtain ⟨M1, a1, a2, a3⟩ := c.next hL hb
  have s17 : ∃ x, (if nI k ≤ M1 103 17 then f_Mod_readOne_J50 (nI k) (M1 103 17) M1 else f_Mod_readOne_J50 (nI k) (nI k) M1) = f_Mod_readOne_J50 (nI k) x M1 ∧ ((nx b L z).1 = 0 → x = nI (max (D 24 0) (k + 1) - 1)) := by
    by_cases e : nI k ≤ M1 103 17
    · refine ⟨_, by rw [if_pos e], fun q => ?_⟩
      have hA1 := (hA (nx_l q)).2.2
      have h17 := (a2.2.2.2 q).2.2.2.2.2.1
      by_cases u : D 24 0 = 0
      · rw [h17, if_pos u, show (-4 : Int32) = J (-4) from rfl, J_nI, J_le (by omega) (by omega) (by omega) (by omega)] at e
        omega
      · rw [h17, if_neg u, nI_leI (by omega) (by omega)] at e
        rw [h17, if_neg u]; congr 1; omega
    · refine ⟨_, by rw [if_neg e], fun q => ?_⟩
      have hA1 := (hA (nx_l q)).2.2
      have h17 := (a2.2.2.2 q).2.2.2.2.2.1
      by_cases u : D 24 0 = 0
      · congr 1; omega
      · rw [h17, if_neg u, nI_leI (by omega) (by omega)] at e
        congr 1; omega
  obtain ⟨x, x1, x2⟩ := s17
  have b2 := a2.set (a := 103) (k := 17) (x := x) (D' := tset D 24 0 (max (D 24 0) (k + 1))) (Or.inr (by decide)) (fun e h => by
    have := h.s17 (v := max (D 24 0) (k + 1) - 1)
    rw [show max (D 24 0) (k + 1) - 1 + 1 = max (D 24 0) (k + 1) by omega] at this
    rw [x2 e]; exact this)
  refine ⟨_, ?_, b2, a3.q.s (Or.inr (by decide)), fun a ha => by rw [u_ne ha]; exact a3.1 a ha⟩
  unfold f_Mod_readOne_J29
  rw [a1, e_bnd, x1, f_Mod_readOne_J50, e_set]
/-- one of the people, unlike X -/
theorem m_one (hL : L ≤ 320) (hb : ∀ j, j < L → b j < 256) (c : MI b L z D M) (hA : z.1 = 0 → DA D) {X : Int32} {zc : Tz} (h4 : zc = if nI (nm z) = X then flt 4 (ckN 0 5 z) else ckN 0 5 z) : ∃ k M', f_Mod_readOne X M = some (nI k, M') ∧ MI b L (nx b L zc) (tset D 24 0 (max (D 24 0) (nm z + 1))) M' ∧ Fq M M' ∧ (∀ a, a ≠ 103 → M' a = M a) ∧ k ≤ 5 ∧ (zc.1 = 0 → k = nm z) := by
  obtain ⟨k, M1, a1, a2, a3, a4, a5⟩ := c.look hL (lo := 0) (hi := 5) (by decide) (by decide)
  have lz : zc.1 = 0 → (ckN 0 5 z).1 = 0 := fun e => by
    rw [h4] at e
    split at e
    · exact absurd e (flt_ne (by decide))
    · exact e
  have mid : ∃ M3, (if M1 103 27 = 0 then if nI k = X then f_Mod_readOne_J25 (nI k) 0 M1 else f_Mod_readOne_J25 (nI k) 1 M1 else f_Mod_readOne_J29 (nI k) M1) = f_Mod_readOne_J29 (nI k) M3 ∧ MI b L zc D M3 ∧ F103 M1 M3 := by
    by_cases q : (ckN 0 5 z).1 = 0
    · rw [if_pos (a2.z0.mpr q), h4, ← a4 q]
      by_cases t : nI k = X
      · obtain ⟨M3, d1, d2, d3⟩ := a2.flt hL (f := 4) (by decide) (by decide)
        rw [if_pos t, if_pos t, f_Mod_readOne_J25, show (4 : Int32) = nI 4 from rfl, d1, e_bnd]
        exact ⟨M3, rfl, d2, d3⟩
      · rw [if_neg t, if_neg t, f_Mod_readOne_J25, m_ok, e_bnd]
        exact ⟨M1, rfl, a2, F103.rf⟩
    · have ez : zc = ckN 0 5 z := by
        rw [h4]
        split
        · exact flt_d q
        · rfl
      rw [if_neg (fun e => q (a2.z0.mp e)), ez]
      exact ⟨M1, rfl, a2, F103.rf⟩
  obtain ⟨M3, d1, d2, d3⟩ := mid
  obtain ⟨M4, e1, e2, e3, e4⟩ := m_j29 hL hb d2 (fun e => hA (ckN_l (lz e)).2.1) a5
  refine ⟨k, M4, ?_, e2.cg (fun e => by rw [a4 (lz (nx_l e))]), a3.q.tr (d3.q.tr e3), fun a ha => (e4 a ha).trans ((d3.1 a ha).trans (a3.1 a ha)), a5, fun e => a4 (lz e)⟩
  unfold f_Mod_readOne
  rw [show (0 : Int32) = nI 0 from rfl, show (5 : Int32) = nI 5 from rfl, a1, e_bnd2]
  exact d1.trans e1
end MLN
