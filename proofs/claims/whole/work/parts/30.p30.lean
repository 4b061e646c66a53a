/-! pure: the class's lines, the others -/
section CLO
variable {b : Nat → Nat} {L : Nat} {z : Tz} {D : Tn} {M : Mem}
theorem CI.cg (c : CI b L z D M) {D' : Tn} (h : z.1 = 0 → D = D') : CI b L z D' M := ⟨c.1, c.2.1, c.2.2.1, c.2.2.2.1, fun e => by rw [← h e]; exact c.2.2.2.2 e⟩
theorem full_l {n m : Nat} (h : (full n m z).1 = 0) : n < m ∧ z.1 = 0 ∧ full n m z = z := by
  unfold full at h ⊢
  split at h
  · exact absurd h (flt_ne (by decide))
  · rename_i e
    exact ⟨by omega, h, if_neg e⟩
theorem c_full (hL : L ≤ 320) (c : CI b L z D M) (n m : Nat) : ∃ M', (if n < m then some M else f_Rea_failHere 5 M) = some M' ∧ CI b L (full n m z) D M' ∧ Fr 52 70 M M' := by
  unfold full
  by_cases e : n < m
  · rw [if_pos e, if_neg (by omega)]
    exact ⟨M, rfl, c, Fr.rf⟩
  · rw [if_neg e, if_pos (by omega)]
    exact c.flt hL (f := 5) (by decide) (by decide)
theorem c_ln5 (hL : L ≤ 320) (hb : ∀ j, j < L → b j < 256) (c : CI b L z D M) (q : z.1 = 0) (hD : DB D) {y1 y2 y3 y4 y5 : Tz} (h1 : y1 = nx b L (full (D 4 0) 8 z)) (h2 : y2 = nx b L (ckN 0 8 y1)) (h3 : y3 = nx b L (ckN 0 8 y2)) (h4 : y4 = nx b L (ckN 0 7 y3)) (h5 : y5 = nx b L (ckN 1 100 y4)) : ∃ M', f_Rea_readLine (nI 5) M = some M' ∧ CI b L (ckS (kdZ b L y5)) (bP D (nm y1) (nm y2) (nm y3) (nm y4) (kdN b L y5)) M' ∧ Fr 52 70 M M' := by
  obtain ⟨M0, a1, a2, a3⟩ := c_full hL c (D 4 0) 8
  obtain ⟨k1, M1, b1, b2, b3, b4, b5, b6⟩ := a2.num hL hb (lo := 0) (hi := 8) (by decide) (by decide)
  rw [← h1] at b2 b6
  obtain ⟨k2, M2, c1, c2, c3, c4, c5, c6⟩ := b2.num hL hb (lo := 0) (hi := 8) (by decide) (by decide)
  rw [← h2] at c2 c6
  obtain ⟨k3, M3, d1, d2, d3, d4, d5, d6⟩ := c2.num hL hb (lo := 0) (hi := 7) (by decide) (by decide)
  rw [← h3] at d2 d6
  obtain ⟨k4, M4, e1, e2, e3, e4, e5, e6⟩ := d2.num hL hb (lo := 1) (hi := 100) (by decide) (by decide)
  rw [← h4] at e2 e6
  obtain ⟨v, M5, f1, ⟨y, f2, f3, f4, f5, f6⟩, f7⟩ := e2.kind hL hb
  rw [← h5] at f3 f4
  have l4 : y.1 = 0 → (ckN 1 100 y4).1 = 0 := f5
  have l3 : y.1 = 0 → (ckN 0 7 y3).1 = 0 := fun e => by
    have := (ckN_l (l4 e)).2.1
    rw [h4] at this
    exact nx_l this
  have l2 : y.1 = 0 → (ckN 0 8 y2).1 = 0 := fun e => by
    have := (ckN_l (l3 e)).2.1
    rw [h3] at this
    exact nx_l this
  have l1 : y.1 = 0 → (ckN 0 8 y1).1 = 0 := fun e => by
    have := (ckN_l (l2 e)).2.1
    rw [h2] at this
    exact nx_l this
  have l0' : y.1 = 0 → D 4 0 < 8 := fun e => by
    have := (ckN_l (l1 e)).2.1
    rw [h1] at this
    exact (full_l (nx_l this)).1
  obtain ⟨M6, g1, g2, g3⟩ := f2.ben l0' k1 k2 k3 k4 v
  obtain ⟨M7, i1, i2, i3⟩ := g2.sgn hL
  refine ⟨M7, ?_, ?_, a3.tr (b3.tr (c3.tr (d3.tr (e3.tr (f7.tr (g3.tr i3))))))⟩
  · have j20 : f_Rea_readBench_J20 M0 = some M7 := by
      unfold f_Rea_readBench_J20
      rw [show (0 : Int32) = nI 0 from rfl, show (8 : Int32) = nI 8 from rfl, b1, e_bnd2, c1, e_bnd2, show (7 : Int32) = nI 7 from rfl, d1, e_bnd2, show (1 : Int32) = nI 1 from rfl, show (100 : Int32) = nI 100 from rfl, e1, e_bnd2, f1, e_bnd2, g1, e_bnd, i1, e_bnd]
    have h56 := (c.2.2.2.2 q).2.1.1.1
    have h8 := hD.1
    unfold f_Rea_readLine f_Rea_readBench
    rw [if_neg (show ¬ nI 5 = 0 by decide), if_neg (show ¬ nI 5 = 1 by decide), if_neg (show ¬ nI 5 = 2 by decide), if_neg (show ¬ nI 5 = 3 by decide), if_neg (show ¬ nI 5 = 4 by decide), if_pos (show nI 5 = 5 from rfl), h56]
    by_cases e : D 4 0 < 8
    · rw [if_pos e] at a1
      have a1' : M = M0 := Option.some.inj a1
      subst a1'
      rw [if_pos (by rw [show (8 : Int32) = nI 8 from rfl, nI_ltI (by omega) (by omega)]; exact e), j20, e_bnd]
    · rw [if_neg e] at a1
      rw [if_neg (by rw [show (8 : Int32) = nI 8 from rfl, nI_ltI (by omega) (by omega)]; exact e), a1, e_bnd, j20, e_bnd]
  · rw [f3] at i2
    refine i2.cg (fun e => ?_)
    have ey : y.1 = 0 := by
      rw [← f3] at e
      exact (ckS_l e).2.1
    rw [b6 (l1 ey), c6 (l2 ey), d6 (l3 ey), e6 (l4 ey), f4 ey]
    rfl
theorem c_ln6 (hL : L ≤ 320) (hb : ∀ j, j < L → b j < 256) (c : CI b L z D M) (hD : DB D) (s : Nat) {y1 y2 y3 zc : Tz} (h1 : y1 = nx b L z) (h2 : y2 = nx b L (ckN 0 8 y1)) (h3 : y3 = ckN 0 8 y2) (h4 : zc = if D 2 (9 * nm y2 + nm y1) = 0 then y3 else flt 4 y3) : ∃ M', f_Rea_readDeafCell (nI s) M = some M' ∧ CI b L (ckS (nx b L zc)) (tset D 2 (9 * nm y2 + nm y1) s) M' ∧ Fr 52 70 M M' := by
  obtain ⟨k1, M1, b1, b2, b3, b4, b5, b6⟩ := c.num hL hb (lo := 0) (hi := 8) (by decide) (by decide)
  rw [← h1] at b2 b6
  obtain ⟨k2, M2, c1, c2, c3, c4, c5, c6⟩ := b2.num hL hb (lo := 0) (hi := 8) (by decide) (by decide)
  rw [← h2] at c6
  rw [← h2, ← h3] at c2
  rw [← h3] at c6
  have l1 : y3.1 = 0 → (ckN 0 8 y1).1 = 0 := fun e => by
    rw [h3] at e
    have := (ckN_l e).2.1
    rw [h2] at this
    exact nx_l this
  have ek : y3.1 = 0 → 9 * k2 + k1 = 9 * nm y2 + nm y1 := fun e => by rw [b6 (l1 e), c6 e]; rfl
  have hc81 : 9 * k2 + k1 < 81 := by omega
  have hst : f_Tol_stateOf 53 M2 (nI (9 * k2 + k1)) = some (M2 54 (9 * k2 + k1)) := by
    unfold f_Tol_stateOf
    rw [if_neg (by rw [l0, nI_ltI (by omega) (by omega)]; omega), if_neg (by rw [l81, nI_leI (by omega) (by omega)]; omega), e_ckn hc81 (by decide), show ix (nI (9 * k2 + k1)) = 9 * k2 + k1 from e_ix (by omega)]
  -- behind the look at the cell
  have mid : ∃ M3, (if M2 54 (9 * k2 + k1) = 0 then some M2 else f_Rea_failHere 4 M2) = some M3 ∧ CI b L zc D M3 ∧ Fr 52 70 M2 M3 := by
    obtain ⟨M3, d1, d2, d3⟩ := c2.flt hL (f := 4) (by decide) (by decide)
    by_cases q : y3.1 = 0
    · have hm : M2 54 (9 * k2 + k1) = nI (D 2 (9 * nm y2 + nm y1)) := by
        rw [(c2.2.2.2.2 q).1.2.1 _ hc81, ek q]
      have h2' := hD.2.2.2.2 (9 * nm y2 + nm y1) (by rw [← ek q]; exact hc81)
      rw [hm, h4]
      by_cases e : D 2 (9 * nm y2 + nm y1) = 0
      · rw [if_pos (by rw [e]; rfl), if_pos e]
        exact ⟨M2, rfl, c2, Fr.rf⟩
      · rw [if_neg (by rw [l0, nI_eq (by omega) (by omega)]; exact e), if_neg e]
        exact ⟨M3, d1, d2, d3⟩
    · have ez : zc = y3 := by
        rw [h4]
        split
        · rfl
        · exact flt_d q
      rw [flt_d q] at d2
      rw [ez]
      by_cases e : M2 54 (9 * k2 + k1) = 0
      · rw [if_pos e]; exact ⟨M2, rfl, c2, Fr.rf⟩
      · rw [if_neg e]; exact ⟨M3, d1, d2, d3⟩
  obtain ⟨M3, d1, d2, d3⟩ := mid
  have lz : zc.1 = 0 → y3.1 = 0 := fun e => by
    rw [h4] at e
    split at e
    · exact e
    · exact absurd e (flt_ne (by decide))
  obtain ⟨e1, e2⟩ := d2.set (a := 54) (k := 9 * k2 + k1) (x := nI s) (D' := tset D 2 (9 * nm y2 + nm y1) s) (by decide) (by decide) (fun e h => by rw [ek (lz e)]; exact h.s54)
  obtain ⟨M4, g1, g2, g3⟩ := e1.sign hL hb
  refine ⟨M4, ?_, g2, b3.tr (c3.tr (d3.tr (e2.tr g3)))⟩
  have j41 : f_Rea_readDeafCell_J41 (nI s) (nI (9 * k2 + k1)) M3 = some M4 := by
    unfold f_Rea_readDeafCell_J41 f_Tol_setState
    rw [if_neg (by rw [l0, nI_ltI (by omega) (by omega)]; omega), if_neg (by rw [l81, nI_leI (by omega) (by omega)]; omega), e_ckn hc81 (by decide), show ix (nI (9 * k2 + k1)) = 9 * k2 + k1 from e_ix (by omega), e_set, e_bnd, g1, e_bnd]
  unfold f_Rea_readDeafCell
  rw [show (0 : Int32) = nI 0 from rfl, show (8 : Int32) = nI 8 from rfl, b1, e_bnd2, c1, e_bnd2, show (9 : Int32) = nI 9 from rfl, pk_mul, nI_add, e_nmI, hst, e_bnd]
  by_cases e : M2 54 (9 * k2 + k1) = 0
  · rw [if_pos e] at d1
    have a1' : M2 = M3 := Option.some.inj d1
    subst a1'
    rw [if_pos (show M2 54 (9 * k2 + k1) = nI 0 from e), j41]
  · rw [if_neg e] at d1
    rw [if_neg (show ¬ M2 54 (9 * k2 + k1) = nI 0 from e), d1, e_bnd, j41]
theorem c_ln8 (hL : L ≤ 320) (hb : ∀ j, j < L → b j < 256) (c : CI b L z D M) (q : z.1 = 0) (hD : DB D) (s : Nat) {y1 y2 y3 zc : Tz} (h1 : y1 = nx b L (full (D 10 0) 8 z)) (h2 : y2 = nx b L (ckN 0 5 y1)) (h3 : y3 = ckN 0 5 y2) (h4 : zc = if nm y1 = nm y2 then flt 4 y3 else y3) : ∃ M', f_Rea_readWant (nI s) M = some M' ∧ CI b L (ckS (nx b L zc)) (tP D 10 (nm y1) (nm y2) s) M' ∧ Fr 52 70 M M' := by
  obtain ⟨M0, a1, a2, a3⟩ := c_full hL c (D 10 0) 8
  obtain ⟨k1, M1, b1, b2, b3, b4, b5, b6⟩ := a2.num hL hb (lo := 0) (hi := 5) (by decide) (by decide)
  rw [← h1] at b2 b6
  obtain ⟨k2, M2, c1, c2, c3, c4, c5, c6⟩ := b2.num hL hb (lo := 0) (hi := 5) (by decide) (by decide)
  rw [← h2] at c6
  rw [← h2, ← h3] at c2
  rw [← h3] at c6
  have l1 : y3.1 = 0 → (ckN 0 5 y1).1 = 0 := fun e => by
    rw [h3] at e
    have := (ckN_l e).2.1
    rw [h2] at this
    exact nx_l this
  have e1 : y3.1 = 0 → k1 = nm y1 ∧ k2 = nm y2 := fun e => ⟨b6 (l1 e), c6 e⟩
  have mid : ∃ M3, (if nI k1 = nI k2 then f_Rea_failHere 4 M2 else some M2) = some M3 ∧ CI b L zc D M3 ∧ Fr 52 70 M2 M3 := by
    obtain ⟨M3, d1, d2, d3⟩ := c2.flt hL (f := 4) (by decide) (by decide)
    by_cases q : y3.1 = 0
    · obtain ⟨e2, e3⟩ := e1 q
      rw [h4, ← e2, ← e3]
      by_cases e : k1 = k2
      · rw [if_pos (by rw [e]), if_pos e]
        exact ⟨M3, d1, d2, d3⟩
      · rw [if_neg (by rw [nI_eq (by omega) (by omega)]; exact e), if_neg e]
        exact ⟨M2, rfl, c2, Fr.rf⟩
    · have ez : zc = y3 := by
        rw [h4]
        split
        · exact flt_d q
        · rfl
      rw [flt_d q] at d2
      rw [ez]
      by_cases e : nI k1 = nI k2
      · rw [if_pos e]; exact ⟨M3, d1, d2, d3⟩
      · rw [if_neg e]; exact ⟨M2, rfl, c2, Fr.rf⟩
  obtain ⟨M3, d1, d2, d3⟩ := mid
  have lz : zc.1 = 0 → y3.1 = 0 := fun e => by
    rw [h4] at e
    split at e
    · exact absurd e (flt_ne (by decide))
    · exact e
  have l0' : zc.1 = 0 → D 10 0 < 12 := fun e => by
    have := (ckN_l (l1 (lz e))).2.1
    rw [h1] at this
    have := (full_l (nx_l this)).1
    omega
  obtain ⟨M4, f1, f2, f3⟩ := d2.tri (t := 62) (Or.inl rfl) (u := nm y1) (v := nm y2) (w := s) (x1 := nI k1) (x2 := nI k2) (x3 := nI s) l0' (fun e => by
    obtain ⟨e2, e3⟩ := e1 (lz e)
    exact ⟨by rw [e2], by rw [e3], rfl⟩)
  obtain ⟨M5, g1, g2, g3⟩ := f2.sign hL hb
  refine ⟨M5, ?_, g2, a3.tr (b3.tr (c3.tr (d3.tr (f3.tr g3))))⟩
  have j44 : f_Rea_readWant_J44 (nI s) (nI k1) (nI k2) M3 = some M5 := by
    unfold f_Rea_readWant_J44
    rw [f1, e_bnd, g1, e_bnd]
  have j20 : f_Rea_readWant_J20 (nI s) M0 = some M5 := by
    unfold f_Rea_readWant_J20
    rw [show (0 : Int32) = nI 0 from rfl, show (5 : Int32) = nI 5 from rfl, b1, e_bnd2, c1, e_bnd2]
    by_cases e : nI k1 = nI k2
    · rw [if_pos e] at d1
      rw [if_pos e, d1, e_bnd, j44]
    · rw [if_neg e] at d1
      have a1' : M2 = M3 := Option.some.inj d1
      subst a1'
      rw [if_neg e, j44]
  have h62 := (c.2.2.2.2 q).2.1.2.1.1
  have h8 := hD.2.1
  unfold f_Rea_readWant
  rw [h62]
  by_cases e : D 10 0 < 8
  · rw [if_pos e] at a1
    have a1' : M = M0 := Option.some.inj a1
    subst a1'
    rw [if_pos (by rw [show (8 : Int32) = nI 8 from rfl, nI_ltI (by omega) (by omega)]; exact e), j20]
  · rw [if_neg e] at a1
    rw [if_neg (by rw [show (8 : Int32) = nI 8 from rfl, nI_ltI (by omega) (by omega)]; exact e), a1, e_bnd, j20]
def lhr (D : Tn) : Nat := if D 14 0 = 0 then 0 else D 15 (D 14 0 - 1)
theorem c_lhr (c : CI b L z D M) : ∃ v, f_Tol_latestHour 53 M = some v ∧ (z.1 = 0 → DB D → v = nI (lhr D)) := by
  obtain ⟨n, n1, n2⟩ := c.2.2.2.1.2.2
  unfold f_Tol_latestHour
  rw [show 53 + 13 = 66 from rfl, n2]
  by_cases e : n = 0
  · subst e
    refine ⟨0, by rw [if_pos (by decide)], fun q hD => ?_⟩
    have h66 := (c.2.2.2.2 q).2.1.2.2.1
    have := hD.2.2.1
    rw [n2, nI_eq (by omega) (by omega)] at h66
    unfold lhr
    rw [if_pos h66.symm]
    rfl
  · refine ⟨M 67 (n - 1), ?_, fun q hD => ?_⟩
    · unfold f_Tri_part
      rw [if_neg (by rw [l0, nI_leI (by omega) (by omega)]; omega), show nI n - 1 = nI (n - 1) from sub_nJ (b := 1) (by omega), if_neg (by rw [l0, nI_ltI (by omega) (by omega)]; omega), n2, if_neg (by rw [nI_leI (by omega) (by omega)]; omega), if_pos (by rw [l12, nI_ltI (by omega) (by omega)]; omega), if_pos rfl, e_ckn (by omega) (by decide), show ix (nI (n - 1)) = n - 1 from e_ix (by omega), e_bnd]
    · have h66 := (c.2.2.2.2 q).2.1.2.2
      have := hD.2.2.1
      have h0 := h66.1
      rw [n2, nI_eq (by omega) (by omega)] at h0
      subst h0
      unfold lhr
      rw [if_neg e]
      exact h66.2 67 (by decide) (by decide) _ (by omega)
theorem lhr_le (hD : DB D) : lhr D ≤ 11 := by
  unfold lhr
  split
  · decide
  · exact hD.2.2.2.1 _ (by omega)
theorem c_ln10 (hL : L ≤ 320) (hb : ∀ j, j < L → b j < 256) (c : CI b L z D M) (q : z.1 = 0) (hD : DB D) {y1 y2 y3 zc : Tz} (h1 : y1 = nx b L (full (D 14 0) 12 z)) (h2 : y2 = nx b L (ckN (lhr D) 11 y1)) (h3 : y3 = nx b L (ckN 0 5 y2)) (h4 : zc = ckN 0 7 y3) : ∃ M', f_Rea_readWhisper M = some M' ∧ CI b L (ckS (nx b L zc)) (tP D 14 (nm y1) (nm y2) (nm y3)) M' ∧ Fr 52 70 M M' := by
  have h66 := (c.2.2.2.2 q).2.1.2.2.1
  have h8 := hD.2.2.1
  obtain ⟨M0, a1, a2, a3⟩ := c_full hL c (D 14 0) 12
  have main : ∃ M', f_Rea_readWhisper_J20 M0 = some M' ∧ CI b L (ckS (nx b L zc)) (tP D 14 (nm y1) (nm y2) (nm y3)) M' ∧ Fr 52 70 M0 M' := by
    obtain ⟨v0, v1, v2⟩ := c_lhr a2
    have rest : ∀ (x1 : Int32) (zz : Tz) (M1 : Mem), CI b L zz D M1 → zz = ckN (lhr D) 11 y1 → (zz.1 = 0 → x1 = nI (nm y1) ∧ D 14 0 < 12) → ∃ M', (bnd2 (f_Rea_readNumber 0 5 M1) fun v7 M8 => bnd2 (f_Rea_readNumber 0 7 M8) fun v10 M11 => bnd (f_Tri_add 66 x1 v7 v10 M11) fun M13 => bnd (f_Rea_readSign M13) fun M15 => some M15) = some M' ∧ CI b L (ckS (nx b L zc)) (tP D 14 (nm y1) (nm y2) (nm y3)) M' ∧ Fr 52 70 M1 M' := fun x1 zz M1 cz ez hx => by
      obtain ⟨k2, M2, c1, c2, c3, c4, c5, c6⟩ := cz.num hL hb (lo := 0) (hi := 5) (by decide) (by decide)
      rw [ez, ← h2] at c2 c6
      obtain ⟨k3, M3, d1, d2, d3, d4, d5, d6⟩ := c2.num hL hb (lo := 0) (hi := 7) (by decide) (by decide)
      rw [← h3] at d6
      rw [← h3, ← h4] at d2
      rw [← h4] at d6
      have l2 : zc.1 = 0 → (ckN 0 5 y2).1 = 0 := fun e => by
        rw [h4] at e
        have := (ckN_l e).2.1
        rw [h3] at this
        exact nx_l this
      have l1 : zc.1 = 0 → zz.1 = 0 := fun e => by
        have := (ckN_l (l2 e)).2.1
        rw [h2] at this
        rw [ez]
        exact nx_l this
      obtain ⟨M4, f1, f2, f3⟩ := d2.tri (t := 66) (Or.inr rfl) (u := nm y1) (v := nm y2) (w := nm y3) (x1 := x1) (x2 := nI k2) (x3 := nI k3) (fun e => (hx (l1 e)).2) (fun e => ⟨(hx (l1 e)).1, by rw [c6 (l2 e)]; rfl, by rw [d6 e]; rfl⟩)
      obtain ⟨M5, g1, g2, g3⟩ := f2.sign hL hb
      refine ⟨M5, ?_, g2, c3.tr (d3.tr (f3.tr g3))⟩
      rw [show (0 : Int32) = nI 0 from rfl, show (5 : Int32) = nI 5 from rfl, c1, e_bnd2, show (7 : Int32) = nI 7 from rfl, d1, e_bnd2, f1, e_bnd, g1, e_bnd]
    unfold f_Rea_readWhisper_J20
    rw [v1, e_bnd]
    by_cases u : (full (D 14 0) 12 z).1 = 0
    · obtain ⟨k1, M1, b1, b2, b3, b4, b5, b6⟩ := a2.num hL hb (lo := lhr D) (hi := 11) (lhr_le hD) (by decide)
      rw [← h1] at b2 b6
      obtain ⟨M', r1, r2, r3⟩ := rest (nI k1) _ M1 b2 rfl (fun e => ⟨by rw [b6 e]; rfl, (full_l u).1⟩)
      refine ⟨M', ?_, r2, b3.tr r3⟩
      rw [v2 u hD, show (11 : Int32) = nI 11 from rfl, b1, e_bnd2]
      exact r1
    · obtain ⟨x1, M1, b1, b2, b3⟩ := c_numD a2.2.1 a2.2.2.1 u v0 11
      have ez : full (D 14 0) 12 z = ckN (lhr D) 11 y1 := by rw [h1, nx_d u, ckN_d u]
      have cz : CI b L (full (D 14 0) 12 z) D M1 := ⟨a2.1.f b3, a2.2.1, b2, a2.2.2.2.1.f b3, fun e => absurd e u⟩
      obtain ⟨M', r1, r2, r3⟩ := rest x1 _ M1 cz ez (fun e => absurd e u)
      refine ⟨M', ?_, r2, b3.fl.tr r3⟩
      rw [b1, e_bnd2]
      exact r1
  obtain ⟨M', m1, m2, m3⟩ := main
  refine ⟨M', ?_, m2, a3.tr m3⟩
  unfold f_Rea_readWhisper
  rw [h66]
  by_cases e : D 14 0 < 12
  · rw [if_pos e] at a1
    have a1' : M = M0 := Option.some.inj a1
    subst a1'
    rw [if_pos (by rw [l12, nI_ltI (by omega) (by omega)]; exact e), m1]
  · rw [if_neg e] at a1
    rw [if_neg (by rw [l12, nI_ltI (by omega) (by omega)]; exact e), a1, e_bnd, m1]
theorem c_lnU (hL : L ≤ 320) (c : CI b L z D M) : ∃ M', f_Rea_readLine (-4) M = some M' ∧ CI b L (flt 2 z) D M' ∧ Fr 52 70 M M' := by
  obtain ⟨M', a1, a2, a3⟩ := c.flt hL (f := 2) (by decide) (by decide)
  refine ⟨M', ?_, a2, a3⟩
  unfold f_Rea_readLine
  rw [if_neg (by decide), if_neg (by decide), if_neg (by decide), if_neg (by decide), if_neg (by decide), if_neg (by decide), if_neg (by decide), if_neg (by decide), if_neg (by decide), if_neg (by decide), if_neg (by decide), show (2 : Int32) = nI 2 from rfl, a1, e_bnd]
end CLO
