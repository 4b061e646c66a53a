/-! pure: the reference's lines, the others -/
section MLO
variable {b : Nat → Nat} {L : Nat} {z : Tz} {D : Tn} {M : Mem}
theorem m_j106 (c : MI b L z D M) {x y f e k : Nat} (hE : z.1 = 0 → M 109 (4 * D 4 0) = nI (9 * y + x) ∧ M 109 (4 * D 4 0 + 1) = nI f ∧ M 109 (4 * D 4 0 + 2) = nI e ∧ M 109 (4 * D 4 0 + 3) = nI k) : ∃ M', f_Mod_readBench_J106 M = some M' ∧ MI b L z (bP D x y f e k) M' ∧ Fq M M' := by
  refine ⟨_, by unfold f_Mod_readBench_J106; rw [e_set], c.set (Or.inr (by decide)) (fun q h => ?_), Fq.rf.s (Or.inr (by decide))⟩
  obtain ⟨e0, e1, e2, e3⟩ := hE q
  have h15 := h.2.2.1.1
  rw [h15, nI_1]
  exact h.ben e0 e1 e2 e3
theorem m_of5 (hL : L ≤ 320) (hb : ∀ j, j < L → b j < 256) (c : MI b L z D M) (q : z.1 = 0) (hA : DA D) (hD : DB D) (hn : D 4 0 < 8) {y2 y3 y4 y5 : Tz} {D1 : Tn} (h2 : y2 = nx b L (ckN 0 8 z)) (h3 : y3 = nx b L (ckN 0 8 y2)) (h4 : y4 = nx b L (ckN 0 7 y3)) (h5 : y5 = nx b L (ckN 1 100 y4)) (hD1 : D1 = tset (tset D 22 0 (max (D 22 0) (nm z))) 23 0 (max (D 23 0) (nm y2))) : ∃ M', f_Mod_readLineOf (nI 5) M = some M' ∧ MI b L (kdZ b L y5) (bP D1 (nm z) (nm y2) (nm y3) (nm y4) (kdN b L y5)) M' ∧ Fq M M' := by
  have h15 := (c.2.2.2 q).2.2.1.1
  obtain ⟨v, M1, a1, a2, a3, a4, a5⟩ := m_cellR hL hb c hA hD (s := 0) (by decide) h2 rfl (if_neg (by decide)).symm
  rw [← h3, ← hD1] at a2
  have en : D1 4 0 = D 4 0 := by rw [hD1, ts_ne (by decide), ts_ne (by decide)]
  have b2 := a2.set (a := 109) (k := 4 * D 4 0) (x := nI v) (D' := D1) (Or.inl (by decide)) (fun e h => h.s109 (by omega))
  obtain ⟨k3, M2, c1, c2, c3, c4, c5⟩ := b2.num hL hb (lo := 0) (hi := 7) (by decide) (by decide)
  rw [← h4] at c2 c4
  have d2 := c2.set (a := 109) (k := 4 * D 4 0 + 1) (x := nI k3) (D' := D1) (Or.inl (by decide)) (fun e h => h.s109 (by omega))
  obtain ⟨k4, M3, e1, e2, e3, e4, e5⟩ := d2.num hL hb (lo := 1) (hi := 100) (by decide) (by decide)
  rw [← h5] at e2 e4
  have f2 := (e2.set (a := 109) (k := 4 * D 4 0 + 2) (x := nI k4) (D' := D1) (Or.inl (by decide)) (fun e h => h.s109 (by omega))).set (a := 109) (k := 4 * D 4 0 + 3) (x := 0) (D' := D1) (Or.inl (by decide)) (fun e h => h.s109 (by omega))
  have fr : Fq M (upd2 (upd2 M3 109 (4 * D 4 0 + 2) (nI k4)) 109 (4 * D 4 0 + 3) 0) := (((((a3.s (Or.inl (by decide))).tr c3.q).s (Or.inl (by decide))).tr e3.q).s (Or.inl (by decide))).s (Or.inl (by decide))
  have p4 : y5.1 = 0 → y4.1 = 0 := fun e => by rw [h5] at e; exact (ckN_l (nx_l e)).2.1
  have p3 : y5.1 = 0 → y3.1 = 0 := fun e => by have e' := p4 e; rw [h4] at e'; exact (ckN_l (nx_l e')).2.1
  have p2 : y5.1 = 0 → (ckN 0 8 y2).1 = 0 := fun e => by have e' := p3 e; rw [h3] at e'; exact nx_l e'
  have E0 : ∀ M4 : Mem, (∀ k, k < 4 * D 4 0 + 3 → M4 109 k = upd2 (upd2 M3 109 (4 * D 4 0 + 2) (nI k4)) 109 (4 * D 4 0 + 3) 0 109 k) → y5.1 = 0 → M4 109 (4 * D1 4 0) = nI (9 * nm y2 + nm z) ∧ M4 109 (4 * D1 4 0 + 1) = nI (nm y3) ∧ M4 109 (4 * D1 4 0 + 2) = nI (nm y4) := fun M4 h e => by
    rw [en, h _ (by omega), h _ (by omega), h _ (by omega)]
    refine ⟨?_, ?_, ?_⟩
    · rw [u_nk (by omega), u_nk (by omega), e3.1 109 (by decide), u_nk (by omega), c3.1 109 (by decide), u_eq, a5 (p2 e)]
    · rw [u_nk (by omega), u_nk (by omega), e3.1 109 (by decide), u_eq, c4 (p4 e)]
    · rw [u_nk (by omega), u_eq, e4 e]
  have E3 : upd2 (upd2 M3 109 (4 * D 4 0 + 2) (nI k4)) 109 (4 * D 4 0 + 3) 0 109 (4 * D 4 0 + 3) = 0 := u_eq
  unfold f_Mod_readLineOf f_Mod_readBench
  rw [if_neg (show ¬ nI 5 = 0 by decide), if_neg (show ¬ nI 5 = 1 by decide), if_neg (show ¬ nI 5 = 2 by decide), if_neg (show ¬ nI 5 = 3 by decide), if_neg (show ¬ nI 5 = 4 by decide), if_pos (show nI 5 = 5 from rfl), h15, show (4 : Int32) = nI 4 from rfl, pk_mul, e_nmI, show (0 : Int32) = nI 0 from rfl, a1, e_bnd2, e_ckn (by omega) (by decide), e_set, show ix (nI (4 * D 4 0)) = 4 * D 4 0 from e_ix (by omega), show (7 : Int32) = nI 7 from rfl, c1, e_bnd2, nI_1, l2, l3, nI_add, nI_add, e_ckn (by omega) (by decide), e_set, show ix (nI (4 * D 4 0 + 1)) = 4 * D 4 0 + 1 from e_ix (by omega), show (1 : Int32) = nI 1 from rfl, show (100 : Int32) = nI 100 from rfl, e1, e_bnd2, e_ckn (by omega) (by decide), e_set, show ix (nI (4 * D 4 0 + 2)) = 4 * D 4 0 + 2 from e_ix (by omega), e_ckn (by omega) (by decide), e_set, show ix (nI (4 * D 4 0 + 3)) = 4 * D 4 0 + 3 from e_ix (by omega), show nI 0 = (0 : Int32) from rfl, show nI 4 = (4 : Int32) from rfl]
  generalize upd2 (upd2 M3 109 (4 * D 4 0 + 2) (nI k4)) 109 (4 * D 4 0 + 3) 0 = M4 at f2 fr E0 E3
  by_cases q5 : y5.1 = 0
  · have hw := f2.2.1.2.2 q5
    obtain ⟨g0, g1, g2⟩ := E0 M4 (fun _ _ => rfl) q5
    rw [if_pos (f2.z0.mpr q5), (f2.2.2.1.2.2 q5).1]
    by_cases t : y5.2.2.1 = 1
    · rw [t, if_pos (show nI 1 = nI 1 from rfl), m_kind_now hL f2.1 f2.2.1 f2.2.2.1 q5 t, e_bnd]
      have j89 : ∀ (x s : Int32) (M5 : Mem) (y : Tz), f_Mod_needs s 2 M4 = some M5 → MI b L y D1 M5 → (∀ a, a ≠ 103 → M5 a = M4 a) → Fq M4 M5 → (y.1 = 0 → y5.1 = 0 ∧ x = nI (kdN b L y5)) → ∃ M', f_Mod_readBench_J89 (nI (4 * D 4 0)) x s M4 = some M' ∧ MI b L (nx b L y) (bP D1 (nm z) (nm y2) (nm y3) (nm y4) (kdN b L y5)) M' ∧ Fq M4 M' := fun x s M5 y r1 r2 r3 r4 r5 => by
        have s2 := r2.set (a := 109) (k := 4 * D 4 0 + 3) (x := x) (D' := D1) (Or.inl (by decide)) (fun e h => h.s109 (by omega))
        obtain ⟨M6, t1, t2, t3⟩ := s2.next hL hb
        obtain ⟨M7, v1, v2, v3⟩ := m_j106 t2 (x := nm z) (y := nm y2) (f := nm y3) (e := nm y4) (k := kdN b L y5) (fun e => by
          have e' := r5 (nx_l e)
          rw [en, t3.1 109 (by decide), u_nk (by omega), u_nk (by omega), u_nk (by omega), u_eq, r3 109 (by decide)]
          rw [en] at g0 g1 g2
          exact ⟨g0, g1, g2, e'.2⟩)
        refine ⟨M7, ?_, v2, (r4.s (Or.inl (by decide))).tr (t3.q.tr v3)⟩
        unfold f_Mod_readBench_J89
        rw [r1, e_bnd, l3, nI_add, e_ckn (by omega) (by decide), e_set, show ix (nI (4 * D 4 0 + 3)) = 4 * D 4 0 + 3 from e_ix (by omega), t1, e_bnd, v1]
      by_cases r : sfi (kdI b L y5) 5 < 5
      · have ek : kdN b L y5 = sfi (kdI b L y5) 5 := by unfold kdN; rw [if_pos ⟨t, r⟩]
        have ez : kdZ b L y5 = nx b L y5 := by unfold kdZ; rw [if_pos t, if_pos r]
        obtain ⟨M', w1, w2, w3⟩ := j89 (nI (sfi (kdI b L y5) 5)) 1 M4 y5 m_ok f2 (fun _ _ => rfl) Fq.rf (fun e => ⟨e, by rw [ek]⟩)
        rw [e8, if_pos r, if_neg (by rw [l4, e_neg (by omega) (by omega) (by omega)]; exact id), ez]
        exact ⟨M', by rw [show nI 1 = (1 : Int32) from rfl, w1, e_bnd], w2, fr.tr w3⟩
      · have ez : kdZ b L y5 = flt 2 y5 := by unfold kdZ; rw [if_pos t, if_neg r]
        have n0 : (flt 2 y5).1 ≠ 0 := flt_ne (by decide)
        obtain ⟨M5, r1, r2, r3⟩ := m_flt hL f2.2.1 f2.2.2.1 (f := 2) (by decide)
        obtain ⟨M', w1, w2, w3⟩ := j89 (-4) 0 M5 (flt 2 y5) r1 ⟨f2.1.f r3, flt_w hL (by decide) (by decide) f2.2.1, r2, fun e => absurd e n0⟩ r3.1 r3.q (fun e => absurd e n0)
        rw [nx_d n0] at w2
        rw [e8, if_neg r, if_pos (show (-4 : Int32) = -4 from rfl), ez]
        exact ⟨M', by rw [w1, e_bnd], w2, fr.tr w3⟩
    · have ek : kdN b L y5 = 0 := by unfold kdN; rw [if_neg (fun e => t e.1)]
      have ez : kdZ b L y5 = y5 := by unfold kdZ; rw [if_neg t]
      obtain ⟨M', w1, w2, w3⟩ := m_j106 f2 (x := nm z) (y := nm y2) (f := nm y3) (e := nm y4) (k := kdN b L y5) (fun e => ⟨g0, g1, g2, by rw [en, E3, ek]; rfl⟩)
      rw [if_neg (by rw [nI_eq (by omega) (by omega)]; exact t), w1, e_bnd, ez]
      exact ⟨M', rfl, w2, fr.tr w3⟩
  · have ez : kdZ b L y5 = y5 := by
      unfold kdZ
      split
      · split
        · exact nx_d q5
        · exact flt_d q5
      · rfl
    obtain ⟨M', w1, w2, w3⟩ := m_j106 f2 (x := nm z) (y := nm y2) (f := nm y3) (e := nm y4) (k := kdN b L y5) (fun e => absurd e q5)
    rw [if_neg (fun e => q5 (f2.z0.mp e)), w1, e_bnd, ez]
    exact ⟨M', rfl, w2, fr.tr w3⟩
theorem m_of6 (hL : L ≤ 320) (hb : ∀ j, j < L → b j < 256) (c : MI b L z D M) (hA : DA D) (hD : DB D) {i s : Nat} (hi : (i = 6 ∧ s = 1) ∨ (i = 7 ∧ s = 2)) {y2 y3 zc : Tz} {D1 : Tn} (h2 : y2 = nx b L (ckN 0 8 z)) (h3 : y3 = ckN 0 8 y2) (h4 : zc = if D 2 (9 * nm y2 + nm z) = 0 then y3 else flt 4 y3) (hD1 : D1 = tset (tset D 22 0 (max (D 22 0) (nm z))) 23 0 (max (D 23 0) (nm y2))) : ∃ M', f_Mod_readLineOf (nI i) M = some M' ∧ MI b L (nx b L zc) (tset D1 2 (9 * nm y2 + nm z) s) M' ∧ Fq M M' := by
  obtain ⟨v, M1, a1, a2, a3, a4, a5⟩ := m_cellR hL hb c hA hD (s := 1) (zc := zc) (by decide) h2 h3 (by rw [if_pos rfl]; exact h4)
  rw [← hD1] at a2
  have ev : (nI i - 6) + 1 = nI s := by
    rcases hi with ⟨rfl, rfl⟩ | ⟨rfl, rfl⟩ <;> rfl
  have b2 := a2.set (a := 108) (k := v) (x := nI s) (D' := tset D1 2 (9 * nm y2 + nm z) s) (Or.inl (by decide)) (fun e h => by
    have := a5 (nx_l e)
    rw [← this]
    exact h.s108 (by omega))
  have j183 : f_Mod_readLineOf_J183 (nI i) (nI v) M1 = some (upd2 M1 108 v (nI s)) := by
    unfold f_Mod_readLineOf_J183
    rw [e_ckn (by omega) (by decide), e_set, show ix (nI v) = v from e_ix (by omega), ev]
  have j161 : ∃ M', f_Mod_readLineOf_J161 (nI i) M = some M' ∧ MI b L (nx b L zc) (tset D1 2 (9 * nm y2 + nm z) s) M' ∧ Fq M M' := by
    unfold f_Mod_readLineOf_J161
    rw [show (1 : Int32) = nI 1 from rfl, a1, e_bnd2]
    by_cases u : (nx b L zc).1 = 0
    · rw [if_pos (a2.z0.mpr u), j183]
      exact ⟨_, rfl, b2, a3.s (Or.inl (by decide))⟩
    · rw [if_neg (fun e => u (a2.z0.mp e)), e_ckn (by omega) (by decide), show ix (nI v) = v from e_ix (by omega)]
      by_cases t : M1 108 v = 0
      · rw [if_pos t, j183]
        exact ⟨_, rfl, b2, a3.s (Or.inl (by decide))⟩
      · rw [if_neg t]
        exact ⟨M1, rfl, ⟨a2.1, a2.2.1, a2.2.2.1, fun e => absurd e u⟩, a3⟩
  obtain ⟨M', m1, m2, m3⟩ := j161
  refine ⟨M', ?_, m2, m3⟩
  unfold f_Mod_readLineOf
  rcases hi with ⟨rfl, rfl⟩ | ⟨rfl, rfl⟩
  · rw [if_neg (show ¬ nI 6 = 0 by decide), if_neg (show ¬ nI 6 = 1 by decide), if_neg (show ¬ nI 6 = 2 by decide), if_neg (show ¬ nI 6 = 3 by decide), if_neg (show ¬ nI 6 = 4 by decide), if_neg (show ¬ nI 6 = 5 by decide), if_pos (show nI 6 = 6 from rfl)]
    exact m1
  · rw [if_neg (show ¬ nI 7 = 0 by decide), if_neg (show ¬ nI 7 = 1 by decide), if_neg (show ¬ nI 7 = 2 by decide), if_neg (show ¬ nI 7 = 3 by decide), if_neg (show ¬ nI 7 = 4 by decide), if_neg (show ¬ nI 7 = 5 by decide), if_neg (show ¬ nI 7 = 6 by decide), if_pos (show nI 7 = 7 from rfl)]
    exact m1
theorem one4 {y : Tz} : (if nI (nm y) = -4 then flt 4 (ckN 0 5 y) else ckN 0 5 y) = ckN 0 5 y := by
  by_cases e : nI (nm y) = -4
  · rw [if_pos e]
    by_cases q : (ckN 0 5 y).1 = 0
    · have h := (ckN_l q).2.2.2.2
      rw [l4, e_neg (show nm y < 2147483648 by unfold nm; omega) (by omega) (by omega)] at e
      exact e.elim
    · exact flt_d q
  · rw [if_neg e]
theorem m_of8 (hL : L ≤ 320) (hb : ∀ j, j < L → b j < 256) (c : MI b L z D M) (q : z.1 = 0) (hA : DA D) (hn : D 10 0 < 8) {i s : Nat} (hi : (i = 8 ∧ s = 1) ∨ (i = 9 ∧ s = 0)) {y2 y3 zc : Tz} {Da D1 : Tn} (h2 : y2 = nx b L (ckN 0 5 z)) (h3 : y3 = ckN 0 5 y2) (h4 : zc = if nm z = nm y2 then flt 4 y3 else y3) (hDa : Da = tset D 24 0 (max (D 24 0) (nm z + 1))) (hD1 : D1 = tset Da 24 0 (max (Da 24 0) (nm y2 + 1))) : ∃ M', f_Mod_readLineOf (nI i) M = some M' ∧ MI b L (nx b L zc) (tP D1 10 (nm z) (nm y2) s) M' ∧ Fq M M' := by
  have h16 := (c.2.2.2 q).2.2.2.1.1
  obtain ⟨k1, M1, a1, a2, a3, a3', a4, a5⟩ := m_one hL hb c (fun _ => hA) (X := -4) (zc := ckN 0 5 z) one4.symm
  rw [← h2, ← hDa] at a2
  have en : Da 10 0 = D 10 0 := by rw [hDa, ts_ne (by decide)]
  have en1 : D1 10 0 = D 10 0 := by rw [hD1, ts_ne (by decide), en]
  have b2 := a2.set (a := 110) (k := 3 * D 10 0) (x := nI k1) (D' := Da) (Or.inl (by decide)) (fun e h => h.s110 (by omega))
  have l1 : y2.1 = 0 → (ckN 0 5 z).1 = 0 := fun e => by rw [h2] at e; exact nx_l e
  have ezc : zc = if nI (nm y2) = nI k1 then flt 4 (ckN 0 5 y2) else ckN 0 5 y2 := by
    rw [h4, h3]
    by_cases u : (ckN 0 5 y2).1 = 0
    · have g1 := ckN_l u
      have g2 := l1 g1.2.1
      have g3 := (ckN_l g2).2.2.2.2
      have g4 := g1.2.2.2.2
      rw [a5 g2]
      have iff : (nI (nm y2) = nI (nm z)) ↔ nm z = nm y2 := by
        rw [nI_eq (show nm y2 < 2147483648 by unfold nm; omega) (show nm z < 2147483648 by unfold nm; omega)]
        exact ⟨fun e => e.symm, fun e => e.symm⟩
      by_cases e : nm z = nm y2
      · rw [if_pos e, if_pos (iff.mpr e)]
      · rw [if_neg e, if_neg (fun x => e (iff.mp x))]
    · rw [flt_d u]
      split <;> split <;> rfl
  obtain ⟨k2, M2, d1, d2, d3, d3', d4, d5⟩ := m_one hL hb b2 (fun e => by
    have g3 := (ckN_l (l1 e)).2.2.2.2
    rw [hDa]
    have hA' := hA.2.2
    refine ⟨by rw [ts_ne (by decide)]; exact hA.1, by rw [ts_ne (by decide)]; exact hA.2.1, ?_⟩
    rw [ts_eq]
    have : nm z ≤ 5 := g3
    omega) (X := nI k1) ezc
  rw [← hD1] at d2
  have lz : (nx b L zc).1 = 0 → y2.1 = 0 ∧ zc.1 = 0 ∧ zc = if nI (nm y2) = nI k1 then flt 4 (ckN 0 5 y2) else ckN 0 5 y2 := fun e => by
    refine ⟨?_, nx_l e, ezc⟩
    have e' := nx_l e
    rw [h4] at e'
    split at e'
    · exact absurd e' (flt_ne (by decide))
    · rw [h3] at e'; exact (ckN_l e').2.1
  have e2 := (d2.set (a := 110) (k := 3 * D 10 0 + 1) (x := nI k2) (D' := D1) (Or.inl (by decide)) (fun e h => h.s110 (by omega))).set (a := 110) (k := 3 * D 10 0 + 2) (x := nI s) (D' := D1) (Or.inl (by decide)) (fun e h => h.s110 (by omega))
  have fr : Fq M (upd2 (upd2 M2 110 (3 * D 10 0 + 1) (nI k2)) 110 (3 * D 10 0 + 2) (nI s)) := (((a3.s (Or.inl (by decide))).tr d3).s (Or.inl (by decide))).s (Or.inl (by decide))
  have f2 := e2.set (a := 103) (k := 16) (x := upd2 (upd2 M2 110 (3 * D 10 0 + 1) (nI k2)) 110 (3 * D 10 0 + 2) (nI s) 103 16 + 1) (D' := tP D1 10 (nm z) (nm y2) s) (Or.inr (by decide)) (fun e h => by
    have hz := lz e
    have h16' := h.2.2.2.1.1
    rw [h16', nI_1]
    refine h.want ?_ ?_ ?_
    · rw [en1, u_nk (by omega), u_nk (by omega), d3' 110 (by decide), u_eq, a5 (l1 hz.1)]
    · rw [en1, u_nk (by omega), u_eq, d5 hz.2.1]
    · rw [en1, u_eq])
  have jw : f_Mod_readWant (nI s) M = some (upd2 (upd2 (upd2 M2 110 (3 * D 10 0 + 1) (nI k2)) 110 (3 * D 10 0 + 2) (nI s)) 103 16 (upd2 (upd2 M2 110 (3 * D 10 0 + 1) (nI k2)) 110 (3 * D 10 0 + 2) (nI s) 103 16 + 1)) := by
    unfold f_Mod_readWant
    rw [h16, l3, pk_mul, e_nmI, a1, e_bnd2, e_ckn (by omega) (by decide), e_set, show ix (nI (3 * D 10 0)) = 3 * D 10 0 from e_ix (by omega), u_eq, e_ckn (by omega) (by decide), d1, e_bnd2, nI_1, l2, nI_add, e_ckn (by omega) (by decide), e_set, show ix (nI (3 * D 10 0 + 1)) = 3 * D 10 0 + 1 from e_ix (by omega), e_ckn (by omega) (by decide), e_set, show ix (nI (3 * D 10 0 + 2)) = 3 * D 10 0 + 2 from e_ix (by omega), e_set]
  refine ⟨_, ?_, f2, fr.s (Or.inr (by decide))⟩
  unfold f_Mod_readLineOf f_Mod_readLineOf_J205 f_Mod_readLineOf_J217
  rcases hi with ⟨rfl, rfl⟩ | ⟨rfl, rfl⟩
  · rw [if_neg (show ¬ nI 8 = 0 by decide), if_neg (show ¬ nI 8 = 1 by decide), if_neg (show ¬ nI 8 = 2 by decide), if_neg (show ¬ nI 8 = 3 by decide), if_neg (show ¬ nI 8 = 4 by decide), if_neg (show ¬ nI 8 = 5 by decide), if_neg (show ¬ nI 8 = 6 by decide), if_neg (show ¬ nI 8 = 7 by decide), if_pos (show nI 8 = 8 from rfl), if_pos (show nI 8 = 8 from rfl), show (1 : Int32) = nI 1 from rfl, flag_of (by decide), e_bnd, jw, e_bnd]
    rfl
  · rw [if_neg (show ¬ nI 9 = 0 by decide), if_neg (show ¬ nI 9 = 1 by decide), if_neg (show ¬ nI 9 = 2 by decide), if_neg (show ¬ nI 9 = 3 by decide), if_neg (show ¬ nI 9 = 4 by decide), if_neg (show ¬ nI 9 = 5 by decide), if_neg (show ¬ nI 9 = 6 by decide), if_neg (show ¬ nI 9 = 7 by decide), if_neg (show ¬ nI 9 = 8 by decide), if_pos (show nI 9 = 9 from rfl), if_neg (show ¬ nI 9 = 8 by decide), show f_Mod_flag 0 = some (nI 0) from flag_of (k := 0) (by decide), e_bnd, jw, e_bnd]
theorem m_of10 (hL : L ≤ 320) (hb : ∀ j, j < L → b j < 256) (c : MI b L z D M) (q : z.1 = 0) (hA : DA D) (hD : DB D) (hn : D 14 0 < 12) {y2 y3 zc : Tz} {D1 : Tn} (h2 : y2 = nx b L (ckN (lhr D) 11 z)) (h3 : y3 = nx b L (ckN 0 5 y2)) (h4 : zc = ckN 0 7 y3) (hD1 : D1 = tset D 24 0 (max (D 24 0) (nm y2 + 1))) : ∃ M', f_Mod_readLineOf (nI 10) M = some M' ∧ MI b L (nx b L zc) (tP D1 14 (nm z) (nm y2) (nm y3)) M' ∧ Fq M M' := by
  have h88 := (c.2.2.2 q).2.2.2.2.1
  have hll := lhr_le hD
  obtain ⟨k1, M1, a1, a2, a3, a4, a5⟩ := c.num hL hb (lo := lhr D) (hi := 11) (by decide) (by omega)
  rw [← h2] at a2 a4
  have b2 := a2.set (a := 108) (k := 89 + 3 * D 14 0) (x := nI k1) (D' := D) (Or.inl (by decide)) (fun e h => h.s108v (by omega))
  obtain ⟨k2, M2, d1, d2, d3, d3', d4, d5⟩ := m_one hL hb b2 (fun _ => hA) (X := -4) (zc := ckN 0 5 y2) one4.symm
  rw [← h3, ← hD1] at d2
  have en : D1 14 0 = D 14 0 := by rw [hD1, ts_ne (by decide)]
  have e2 := d2.set (a := 108) (k := 89 + 3 * D 14 0 + 1) (x := nI k2) (D' := D1) (Or.inl (by decide)) (fun e h => h.s108v (by omega))
  obtain ⟨k3, M3, f1, f2, f3, f4, f5⟩ := e2.num hL hb (lo := 0) (hi := 7) (by decide) (by decide)
  rw [← h4] at f2 f4
  have g2 := f2.set (a := 108) (k := 89 + 3 * D 14 0 + 2) (x := nI k3) (D' := D1) (Or.inl (by decide)) (fun e h => h.s108v (by omega))
  have p3 : (nx b L zc).1 = 0 → y3.1 = 0 := fun e => by have e' := nx_l e; rw [h4] at e'; exact (ckN_l e').2.1
  have p2 : (nx b L zc).1 = 0 → (ckN 0 5 y2).1 = 0 := fun e => by have e' := p3 e; rw [h3] at e'; exact nx_l e'
  have i2 := g2.set (a := 108) (k := 88) (x := nI (D 14 0 + 1)) (D' := tP D1 14 (nm z) (nm y2) (nm y3)) (Or.inl (by decide)) (fun e h => by
    have r := h.wsp (u := nm z) (v := nm y2) (w := nm y3) (by rw [en, u_nk (by omega), f3.1 108 (by decide), u_nk (by omega), d3' 108 (by decide), u_eq, a4 (ckN_l (p2 e)).2.1]) (by rw [en, u_nk (by omega), f3.1 108 (by decide), u_eq, d5 (p2 e)]) (by rw [en, u_eq, f4 e])
    rw [en] at r
    exact r)
  refine ⟨_, ?_, i2, (((((a3.q.s (Or.inl (by decide))).tr d3).s (Or.inl (by decide))).tr f3.q).s (Or.inl (by decide))).s (Or.inl (by decide))⟩
  have j37 : f_Mod_readWhisper_J37 (nI (D 14 0)) (nI (89 + 3 * D 14 0)) (nI (89 + 3 * D 14 0)) (nI (lhr D)) M = some (upd2 (upd2 M3 108 (89 + 3 * D 14 0 + 2) (nI k3)) 108 88 (nI (D 14 0 + 1))) := by
    unfold f_Mod_readWhisper_J37
    rw [l11, a1, e_bnd2, e_ckn (by omega) (by decide), e_set, show ix (nI (89 + 3 * D 14 0)) = 89 + 3 * D 14 0 from e_ix (by omega), d1, e_bnd2, nI_1, e_ckn (by omega) (by decide), e_set, show ix (nI (89 + 3 * D 14 0 + 1)) = 89 + 3 * D 14 0 + 1 from e_ix (by omega), l0, l7, f1, e_bnd2, l2, nI_add, e_ckn (by omega) (by decide), e_set, show ix (nI (89 + 3 * D 14 0 + 2)) = 89 + 3 * D 14 0 + 2 from e_ix (by omega), e_set, show ix 88 = 88 from rfl, nI_1]
  unfold f_Mod_readLineOf f_Mod_readWhisper
  rw [if_neg (show ¬ nI 10 = 0 by decide), if_neg (show ¬ nI 10 = 1 by decide), if_neg (show ¬ nI 10 = 2 by decide), if_neg (show ¬ nI 10 = 3 by decide), if_neg (show ¬ nI 10 = 4 by decide), if_neg (show ¬ nI 10 = 5 by decide), if_neg (show ¬ nI 10 = 6 by decide), if_neg (show ¬ nI 10 = 7 by decide), if_neg (show ¬ nI 10 = 8 by decide), if_neg (show ¬ nI 10 = 9 by decide), if_pos (show nI 10 = 10 from rfl), show ix 88 = 88 from rfl, h88.1, e_nmI, l3, l89, pk_mul, nI_add, e_nmI]
  by_cases e : D 14 0 = 0
  · have el : lhr D = 0 := if_pos e
    rw [el] at j37
    rw [if_pos (by rw [e]; rfl), show (0 : Int32) = nI 0 from rfl, j37, e_bnd]
  · have el : lhr D = D 15 (D 14 0 - 1) := if_neg e
    have hv := (h88.2 (D 14 0 - 1) (by omega)).1
    rw [if_neg (by rw [l0, nI_eq (by omega) (by omega)]; exact e), sub_nJ (by omega), e_ckn (by omega) (by decide), show ix (nI (89 + 3 * D 14 0 - 3)) = 89 + 3 * D 14 0 - 3 from e_ix (by omega), show 89 + 3 * D 14 0 - 3 = 89 + 3 * (D 14 0 - 1) by omega, hv, ← el, j37, e_bnd]
end MLO
