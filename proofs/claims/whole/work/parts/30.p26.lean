/-! pure: what a word must be -/
def flt (f : Nat) (z : Tz) : Tz := if z.1 = 0 then (f, z.2.2.2.1, 0, 0, 0, 0) else z
def ckN (lo hi : Nat) (z : Tz) : Tz := if z.2.2.1 = 2 then (if lo ≤ z.2.2.2.2.1 ∧ z.2.2.2.2.1 ≤ hi then z else flt 3 z) else flt 2 z
def ckS (z : Tz) : Tz := if z.2.2.1 = 3 then z else flt 2 z
theorem flt_d {f : Nat} {z : Tz} (h : z.1 ≠ 0) : flt f z = z := if_neg h
theorem flt_l {f : Nat} {z : Tz} (h : z.1 = 0) : flt f z = (f, z.2.2.2.1, 0, 0, 0, 0) := if_pos h
theorem nx_d {b : Nat → Nat} {L : Nat} {z : Tz} (h : z.1 ≠ 0) : nx b L z = z := if_neg h
theorem ckN_d {lo hi : Nat} {z : Tz} (h : z.1 ≠ 0) : ckN lo hi z = z := by
  unfold ckN
  split
  · split
    · rfl
    · exact flt_d h
  · exact flt_d h
theorem ckS_d {z : Tz} (h : z.1 ≠ 0) : ckS z = z := by
  unfold ckS
  split
  · rfl
  · exact flt_d h
theorem flt_w {L f : Nat} {z : Tz} (hL : L ≤ 320) (h1 : f ≤ 7) (h2 : f ≠ 0) (w : Wz L z) : Wz L (flt f z) := by
  by_cases q : z.1 = 0
  · rw [flt_l q]
    have := w.2.2 q
    exact Wz.dd h1 (by omega) h2
  · rw [flt_d q]; exact w
theorem ckN_w {L lo hi : Nat} {z : Tz} (hL : L ≤ 320) (w : Wz L z) : Wz L (ckN lo hi z) := by
  unfold ckN
  split
  · split
    · exact w
    · exact flt_w hL (by decide) (by decide) w
  · exact flt_w hL (by decide) (by decide) w
theorem ckS_w {L : Nat} {z : Tz} (hL : L ≤ 320) (w : Wz L z) : Wz L (ckS z) := by
  unfold ckS
  split
  · exact w
  · exact flt_w hL (by decide) (by decide) w
theorem flt_ne {f : Nat} {z : Tz} (h : f ≠ 0) : (flt f z).1 ≠ 0 := by
  by_cases q : z.1 = 0
  · rw [flt_l q]; exact h
  · rw [flt_d q]; exact q
/-- a check that passes leaves all as it is -/
theorem ckN_l {lo hi : Nat} {z : Tz} (h : (ckN lo hi z).1 = 0) : ckN lo hi z = z ∧ z.1 = 0 ∧ z.2.2.1 = 2 ∧ lo ≤ z.2.2.2.2.1 ∧ z.2.2.2.2.1 ≤ hi := by
  unfold ckN at h ⊢
  split at h
  · rename_i q
    split at h
    · rename_i r
      rw [if_pos q, if_pos r]
      exact ⟨rfl, h, q, r.1, r.2⟩
    · exact absurd h (flt_ne (by decide))
  · exact absurd h (flt_ne (by decide))
theorem ckS_l {z : Tz} (h : (ckS z).1 = 0) : ckS z = z ∧ z.1 = 0 ∧ z.2.2.1 = 3 := by
  unfold ckS at h ⊢
  split at h
  · rename_i q
    rw [if_pos q]
    exact ⟨rfl, h, q⟩
  · exact absurd h (flt_ne (by decide))
theorem nx_l {b : Nat → Nat} {L : Nat} {z : Tz} (h : (nx b L z).1 = 0) : z.1 = 0 := by
  by_cases q : z.1 = 0
  · exact q
  · rw [nx_d q] at h; exact absurd h q
/-- the next word lies behind -/
theorem nx_pos {b : Nat → Nat} {L : Nat} {z : Tz} (h : (nx b L z).1 = 0) : z.2.2.2.2.2 ≤ (nx b L z).2.2.2.1 ∧ (nx b L z).2.2.2.1 ≤ (nx b L z).2.2.2.2.2 ∧ ((nx b L z).2.2.1 = 3 → (nx b L z).2.2.2.2.2 = (nx b L z).2.2.2.1 + 1) ∧ ((nx b L z).2.2.1 = 0 → L ≤ (nx b L z).2.2.2.1) := by
  have h0 := nx_l h
  have g := sk_ge (P := isSp b L) 320 z.2.2.2.2.2
  unfold nx at h ⊢
  rw [if_pos h0] at h ⊢
  generalize sk (isSp b L) 320 z.2.2.2.2.2 = p at g h ⊢
  have h2 := sk_ge (P := isK b L 1) 320 p
  have h4 := sk_ge (P := isK b L 2) 320 p
  unfold nxp at h ⊢
  by_cases q : L ≤ p
  · rw [if_pos q]
    exact ⟨g, Nat.le_refl _, fun e => absurd e (show ¬ (0 : Nat) = 3 by decide), fun _ => q⟩
  · rw [if_neg q] at h ⊢
    by_cases c0 : clsN (b p) = 0
    · rw [if_pos c0] at h
      exact absurd h (show ¬ (1 : Nat) = 0 by decide)
    · rw [if_neg c0] at h ⊢
      by_cases c3 : clsN (b p) = 3
      · rw [if_pos c3]
        exact ⟨g, Nat.le_succ p, fun _ => rfl, fun e => absurd e (show ¬ (3 : Nat) = 0 by decide)⟩
      · rw [if_neg c3] at h ⊢
        by_cases c1 : clsN (b p) = 1
        · rw [if_pos c1]
          exact ⟨g, h2, fun e => absurd e (show ¬ (1 : Nat) = 3 by decide), fun e => absurd e (show ¬ (1 : Nat) = 0 by decide)⟩
        · rw [if_neg c1] at h ⊢
          by_cases u : sk (isK b L 2) 320 p - p ≤ 3
          · rw [if_pos u]
            exact ⟨g, h4, fun e => absurd e (show ¬ (2 : Nat) = 3 by decide), fun e => absurd e (show ¬ (2 : Nat) = 0 by decide)⟩
          · rw [if_neg u] at h
            exact absurd h (show ¬ (1 : Nat) = 0 by decide)
theorem in_iff {a x c : Nat} (h1 : a < 2147483648) (h2 : x < 2147483648) (h3 : c < 2147483648) : (nI a ≤ nI x ∧ nI x ≤ nI c) ↔ (a ≤ x ∧ x ≤ c) := by
  rw [nI_leI (by omega) (by omega), nI_leI (by omega) (by omega)]
section CK
variable {b : Nat → Nat} {L : Nat} {z : Tz} {M : Mem}
theorem Rc.z0 (r : Rc z M) (w : Wz L z) : (M 70 4 = 0) ↔ z.1 = 0 := by
  have := w.1
  rw [r.1, l0, nI_eq (by omega) (by omega)]
theorem Rm.z0 (r : Rm z M) (w : Wz L z) : (M 103 27 = 0) ↔ z.1 = 0 := by
  have := w.1
  rw [r.1, l0, nI_eq (by omega) (by omega)]
theorem c_flt (hL : L ≤ 320) (w : Wz L z) (r : Rc z M) {f : Nat} (hf : f ≠ 0) : ∃ M', f_Rea_failHere (nI f) M = some M' ∧ Rc (flt f z) M' ∧ F70 M M' := by
  unfold f_Rea_failHere f_Tap_fail
  by_cases q : z.1 = 0
  · rw [if_pos ((r.z0 w).mpr q), e_set, e_set, e_bnd, flt_l q]
    refine ⟨_, rfl, Rc.dd hf ?_ ?_ ?_, (F70.rf.s (by decide)).s (by decide)⟩
    · rw [u_nk (by decide), u_eq]
    · rw [u_eq]; exact (r.2.2.2 q).2.1
    · obtain ⟨s, h1, h2⟩ := r.2.2.1
      exact ⟨s, h1, by rw [u_nk (by decide), u_nk (by decide)]; exact h2⟩
  · rw [if_neg (fun e => q ((r.z0 w).mp e)), e_bnd, flt_d q]
    exact ⟨M, rfl, r, F70.rf⟩
theorem c_sgn (hL : L ≤ 320) (w : Wz L z) (r : Rc z M) : ∃ M', f_Rea_requireSign M = some M' ∧ (z.1 = 0 → Rc (ckS z) M') ∧ (z.1 ≠ 0 → Rc z M') ∧ F70 M M' := by
  unfold f_Rea_requireSign
  obtain ⟨M', a1, a2, a3⟩ := c_flt hL w r (f := 2) (by decide)
  by_cases q : z.1 = 0
  · have h1 := (r.2.2.2 q).1
    have h3 := (w.2.2 q).1
    by_cases t : z.2.2.1 = 3
    · rw [if_pos (by rw [h1, t]; rfl)]
      refine ⟨M, rfl, fun _ => ?_, fun e => absurd q e, F70.rf⟩
      unfold ckS
      rw [if_pos t]; exact r
    · rw [if_neg (by
        rw [h1, l3, nI_eq (by split <;> omega) (by omega)]
        split <;> omega), show (2 : Int32) = nI 2 from rfl, a1, e_bnd]
      refine ⟨M', rfl, fun _ => ?_, fun e => absurd q e, a3⟩
      unfold ckS
      rw [if_neg t]; exact a2
  · rw [flt_d q] at a2
    by_cases t : M 70 1 = 3
    · rw [if_pos t]
      exact ⟨M, rfl, fun e => absurd e q, fun _ => r, F70.rf⟩
    · rw [if_neg t, show (2 : Int32) = nI 2 from rfl, a1, e_bnd]
      exact ⟨M', rfl, fun e => absurd e q, fun _ => a2, a3⟩
theorem c_sgn' (hL : L ≤ 320) (w : Wz L z) (r : Rc z M) : ∃ M', f_Rea_requireSign M = some M' ∧ Rc (ckS z) M' ∧ F70 M M' := by
  obtain ⟨M', a1, a2, a3, a4⟩ := c_sgn hL w r
  refine ⟨M', a1, ?_, a4⟩
  by_cases q : z.1 = 0
  · exact a2 q
  · rw [ckS_d q]; exact a3 q
theorem c_readSign (hL : L ≤ 320) (hb : ∀ j, j < L → b j < 256) (t : Tc b L M) (w : Wz L z) (r : Rc z M) : ∃ M', f_Rea_readSign M = some M' ∧ Rc (ckS (nx b L z)) M' ∧ F70 M M' := by
  obtain ⟨M1, a1, a2, a3⟩ := c_next hL hb t w r
  have w1 := nx_w (b := b) hL (fun q => (w.2.2 q).2.2.1) (fun _ => w)
  obtain ⟨M2, b1, b2, b3⟩ := c_sgn' hL w1 a2
  refine ⟨M2, ?_, b2, a3.tr b3⟩
  unfold f_Rea_readSign
  rw [a1, e_bnd, b1, e_bnd]
/-- a number within its bounds -/
theorem c_num (hL : L ≤ 320) (hb : ∀ j, j < L → b j < 256) (t : Tc b L M) (w : Wz L z) (r : Rc z M) {lo hi : Nat} (hlh : lo ≤ hi) (hhi : hi ≤ 1000) : ∃ k M', f_Rea_readNumber (nI lo) (nI hi) M = some (nI k, M') ∧ Rc (ckN lo hi (nx b L z)) M' ∧ F70 M M' ∧ lo ≤ k ∧ k ≤ hi ∧ ((ckN lo hi (nx b L z)).1 = 0 → k = (nx b L z).2.2.2.2.1) := by
  obtain ⟨M1, a1, a2, a3⟩ := c_next hL hb t w r
  have w1 := nx_w (b := b) hL (fun q => (w.2.2 q).2.2.1) (fun _ => w)
  generalize nx b L z = y at a2 w1
  unfold f_Rea_readNumber
  rw [a1, e_bnd]
  obtain ⟨M2, b1, b2, b3⟩ := c_flt hL w1 a2 (f := 2) (by decide)
  obtain ⟨M3, d1, d2, d3⟩ := c_flt hL w1 a2 (f := 3) (by decide)
  by_cases q : y.1 = 0
  · have h1 := (a2.2.2.2 q).1
    have h3 := (a2.2.2.2 q).2.2.1
    have hw := w1.2.2 q
    by_cases u : y.2.2.1 = 2
    · have hn := hw.2.2.2 u
      have ei := in_iff (a := lo) (x := y.2.2.2.2.1) (c := hi) (by omega) (by omega) (by omega)
      rw [if_pos (by rw [h1, u]; rfl), h3 u, w_in, e_bnd]
      by_cases v : lo ≤ y.2.2.2.2.1 ∧ y.2.2.2.2.1 ≤ hi
      · rw [if_pos (ei.mpr v), if_neg (by decide)]
        refine ⟨_, M1, rfl, ?_, a3, v.1, v.2, fun _ => rfl⟩
        unfold ckN
        rw [if_pos u, if_pos v]; exact a2
      · rw [if_neg (fun e => v (ei.mp e)), if_pos (by rfl), show (3 : Int32) = nI 3 from rfl, d1, e_bnd]
        refine ⟨lo, M3, rfl, ?_, a3.tr d3, Nat.le_refl _, hlh, fun e => ?_⟩
        · unfold ckN
          rw [if_pos u, if_neg v]; exact d2
        · have := ckN_l e
          exact absurd ⟨this.2.2.2.1, this.2.2.2.2⟩ v
    · rw [if_neg (by
        rw [h1, l2, nI_eq (by split <;> omega) (by omega)]
        split <;> omega), show (2 : Int32) = nI 2 from rfl, b1, e_bnd]
      refine ⟨lo, M2, rfl, ?_, a3.tr b3, Nat.le_refl _, hlh, fun e => absurd (ckN_l e).2.2.1 u⟩
      unfold ckN
      rw [if_neg u]; exact b2
  · rw [ckN_d q]
    rw [flt_d q] at b2 d2
    by_cases u : M1 70 1 = 2
    · rw [if_pos u, w_in, e_bnd]
      by_cases v : nI lo ≤ M1 70 3 ∧ M1 70 3 ≤ nI hi
      · rw [if_pos v, if_neg (by decide)]
        have hge : (0 : Int32) ≤ M1 70 3 := Int32.le_trans (by rw [l0, nI_leI (by omega) (by omega)]; omega) v.1
        obtain ⟨k, k1, k2⟩ := nI_rng (by omega) hge v.2
        refine ⟨k, M1, by rw [k2], a2, a3, ?_, k1, fun e => absurd e q⟩
        have := v.1
        rw [k2, nI_leI (by omega) (by omega)] at this
        exact this
      · rw [if_neg v, if_pos (by rfl), show (3 : Int32) = nI 3 from rfl, d1, e_bnd]
        exact ⟨lo, M3, rfl, d2, a3.tr d3, Nat.le_refl _, hlh, fun e => absurd e q⟩
    · rw [if_neg u, show (2 : Int32) = nI 2 from rfl, b1, e_bnd]
      exact ⟨lo, M2, rfl, b2, a3.tr b3, Nat.le_refl _, hlh, fun e => absurd e q⟩
/-- behind a fault a number is read for nothing -/
theorem c_numD (w : Wz L z) (r : Rc z M) (q : z.1 ≠ 0) (lo hi : Int32) : ∃ v M', f_Rea_readNumber lo hi M = some (v, M') ∧ Rc z M' ∧ F70 M M' := by
  have h4 : ¬ M 70 4 = 0 := fun e => q ((r.z0 w).mp e)
  unfold f_Rea_readNumber f_Tap_nextToken f_Rea_failHere f_Tap_fail
  rw [if_neg h4, e_bnd]
  by_cases u : M 70 1 = 2
  · rw [if_pos u, w_in, e_bnd]
    by_cases v : lo ≤ M 70 3 ∧ M 70 3 ≤ hi
    · rw [if_pos v, if_neg (by decide)]
      exact ⟨_, M, rfl, r, F70.rf⟩
    · rw [if_neg v, if_pos (by rfl), if_neg h4, e_bnd, e_bnd]
      exact ⟨_, M, rfl, r, F70.rf⟩
  · rw [if_neg u, if_neg h4, e_bnd, e_bnd]
    exact ⟨_, M, rfl, r, F70.rf⟩
/-! the reference's -/
theorem m_flt (hL : L ≤ 320) (w : Wz L z) (r : Rm z M) {f : Nat} (hf : f ≠ 0) : ∃ M', f_Mod_needs 0 (nI f) M = some M' ∧ Rm (flt f z) M' ∧ F103 M M' := by
  unfold f_Mod_needs
  rw [if_pos rfl]
  by_cases q : z.1 = 0
  · rw [if_pos ((r.z0 w).mpr q), e_set, e_set, flt_l q]
    refine ⟨_, rfl, Rm.dd hf ?_ ?_, (F103.rf.s (by decide) (by decide)).s (by decide) (by decide)⟩
    · rw [u_nk (by decide), u_eq]
    · rw [u_eq, u_nk (by decide)]; exact (r.2.2 q).2.1
  · rw [if_neg (fun e => q ((r.z0 w).mp e)), flt_d q]
    exact ⟨M, rfl, r, F103.rf⟩
theorem m_ok {f : Int32} : f_Mod_needs 1 f M = some M := if_neg (by decide)
theorem m_looked (hL : L ≤ 320) (w : Wz L z) (r : Rm z M) {lo hi : Nat} (hhi : hi ≤ 1000) (hlo : lo ≤ 1000) : ∃ k M', f_Mod_looked (nI lo) (nI hi) M = some (nI k, M') ∧ Rm (ckN lo hi z) M' ∧ F103 M M' ∧ ((ckN lo hi z).1 = 0 → k = z.2.2.2.2.1) ∧ ((ckN lo hi z).1 ≠ 0 → k = 0) := by
  have j49 : ∀ M2, ¬ M2 103 27 = 0 → f_Mod_looked_J49 M2 = some (nI 0, M2) := fun M2 h => by
    unfold f_Mod_looked_J49
    rw [if_neg h]
    rfl
  have j25 : ∀ M2, ¬ M2 103 27 = 0 → f_Mod_looked_J25 (nI lo) (nI hi) M2 = some (nI 0, M2) := fun M2 h => by
    unfold f_Mod_looked_J25
    rw [if_neg h, j49 M2 h]
  unfold f_Mod_looked
  by_cases q : z.1 = 0
  · have h1 := (r.2.2 q).1
    have hw := w.2.2 q
    have h27 := (r.z0 w).mpr q
    rw [if_pos h27, h1]
    by_cases u : z.2.2.1 = 2
    · have hn := hw.2.2.2 u
      have h26 := (r.2.2 q).2.2.1 u
      rw [u, if_pos (by rfl), f_Mod_looked_J21, m_ok, e_bnd, f_Mod_looked_J25, if_pos h27, h26, m_in, e_bnd]
      have ei := in_iff (a := lo) (x := z.2.2.2.2.1) (c := hi) (by omega) (by omega) (by omega)
      by_cases v : lo ≤ z.2.2.2.2.1 ∧ z.2.2.2.2.1 ≤ hi
      · have e : ckN lo hi z = z := by
          unfold ckN
          rw [if_pos u, if_pos v]
        rw [if_pos (ei.mpr v), show nI 1 = (1 : Int32) from rfl, m_ok, e_bnd, f_Mod_looked_J49, if_pos h27, h26, e]
        exact ⟨_, M, rfl, r, F103.rf, fun _ => rfl, fun e => absurd q e⟩
      · have e : ckN lo hi z = flt 3 z := by
          unfold ckN
          rw [if_pos u, if_neg v]
        obtain ⟨M2, b1, b2, b3⟩ := m_flt hL w r (f := 3) (by decide)
        have w2 := flt_w hL (f := 3) (by decide) (by decide) w
        rw [if_neg (fun e => v (ei.mp e)), show nI 0 = (0 : Int32) from rfl, show (3 : Int32) = nI 3 from rfl, b1, e_bnd, j49 M2 (fun x => flt_ne (by decide) ((b2.z0 w2).mp x)), e]
        exact ⟨0, M2, rfl, b2, b3, fun x => absurd x (flt_ne (by decide)), fun _ => rfl⟩
    · have e : ckN lo hi z = flt 2 z := by
        unfold ckN
        rw [if_neg u]
      obtain ⟨M2, b1, b2, b3⟩ := m_flt hL w r (f := 2) (by decide)
      have w2 := flt_w hL (f := 2) (by decide) (by decide) w
      rw [if_neg (by rw [l2, nI_eq (by omega) (by omega)]; exact u), f_Mod_looked_J21, show (2 : Int32) = nI 2 from rfl, b1, e_bnd, j25 M2 (fun x => flt_ne (by decide) ((b2.z0 w2).mp x)), e]
      exact ⟨0, M2, rfl, b2, b3, fun x => absurd x (flt_ne (by decide)), fun _ => rfl⟩
  · have h27 : ¬ M 103 27 = 0 := fun e => q ((r.z0 w).mp e)
    rw [if_neg h27, j25 M h27, ckN_d q]
    exact ⟨0, M, rfl, r, F103.rf, fun e => absurd e q, fun _ => rfl⟩
theorem m_num (hL : L ≤ 320) (hb : ∀ j, j < L → b j < 256) (t : Tpm b L M) (w : Wz L z) (r : Rm z M) {lo hi : Nat} (hhi : hi ≤ 1000) (hlo : lo ≤ 1000) : ∃ k M', f_Mod_readNumber (nI lo) (nI hi) M = some (nI k, M') ∧ Rm (nx b L (ckN lo hi z)) M' ∧ F103 M M' ∧ ((ckN lo hi z).1 = 0 → k = z.2.2.2.2.1) ∧ ((ckN lo hi z).1 ≠ 0 → k = 0) := by
  obtain ⟨k, M1, a1, a2, a3, a4, a5⟩ := m_looked hL w r hhi hlo
  obtain ⟨M2, b1, b2, b3⟩ := m_next hL hb (t.f a3) (ckN_w hL w) a2
  refine ⟨k, M2, ?_, b2, a3.tr b3, a4, a5⟩
  unfold f_Mod_readNumber
  rw [a1, e_bnd2, b1, e_bnd]
end CK
