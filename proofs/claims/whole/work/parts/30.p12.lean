/-! pure: warm days -/
theorem b_ident (a x : Int32) : a &&& (x ^^^ (-1)) = a ^^^ (a &&& x) := by
  apply Int32.toBitVec_inj.1
  simp only [Int32.toBitVec_and, Int32.toBitVec_xor]
  have e : (-1 : Int32).toBitVec = BitVec.allOnes 32 := by decide
  rw [e, BitVec.xor_allOnes]
  ext i hi
  simp only [BitVec.getElem_and, BitVec.getElem_not, BitVec.getElem_xor]
  cases a.toBitVec[i] <;> cases x.toBitVec[i] <;> rfl
theorem b_comm (a b : Int32) : a &&& b = b &&& a := by
  apply Int32.toBitVec_inj.1
  simp only [Int32.toBitVec_and]
  exact BitVec.and_comm _ _
theorem b_two : ∀ n, n < 12 → ∀ i, i < 12 → jshl 1 (nI n) &&& jshl 1 (nI i) = if n = i then jshl 1 (nI i) else 0 := by decide +kernel
theorem b_two0 : ∀ i, i < 12 → (0 : Int32) &&& jshl 1 (nI i) = 0 := by decide +kernel
theorem b_xx : ∀ i, i < 12 → jshl 1 (nI i) ^^^ jshl 1 (nI i) = 0 ∧ jshl 1 (nI i) ^^^ 0 = jshl 1 (nI i) := by decide +kernel
theorem orN_one {P : Nat → Bool} {i : Nat} (hi : i < 12) : ∀ {n : Nat}, n ≤ 12 → orN P n &&& jshl 1 (nI i) = if i < n ∧ P i = true then jshl 1 (nI i) else 0
  | 0, _ => by
    rw [if_neg (by omega), orN_0]
    exact b_two0 i hi
  | n + 1, hn => by
    have ih := orN_one (P := P) hi (n := n) (by omega)
    rw [orN_s]
    by_cases h : P n = true
    · rw [if_pos h, b_and_or, ih, b_two n (by omega) i hi]
      by_cases e : n = i
      · subst e
        rw [if_pos rfl, if_neg (by omega), if_pos ⟨by omega, h⟩, b_0or]
      · rw [if_neg e, b_or0]
        by_cases h2 : i < n ∧ P i = true
        · rw [if_pos h2, if_pos ⟨by omega, h2.2⟩]
        · rw [if_neg h2, if_neg (fun q => h2 ⟨by omega, q.2⟩)]
    · rw [if_neg h, ih]
      by_cases h2 : i < n ∧ P i = true
      · rw [if_pos h2, if_pos ⟨by omega, h2.2⟩]
      · rw [if_neg h2, if_neg (fun q => h2 ⟨by have : i ≠ n := fun e => h (e ▸ q.2); omega, q.2⟩)]
theorem orN_and {Q R : Nat → Bool} {m : Int32} : ∀ {n : Nat}, n ≤ 12 → (∀ c, c < n → jshl 1 (nI c) &&& m = if R c = true then jshl 1 (nI c) else 0) → (0 : Int32) &&& m = 0 → orN Q n &&& m = orN (fun c => Q c && R c) n
  | 0, _, _, h0 => by
    rw [orN_0, orN_0]
    exact h0
  | n + 1, hn, hR, h0 => by
    have ih := orN_and (Q := Q) (R := R) (m := m) (n := n) (by omega) (fun c hc => hR c (by omega)) h0
    rw [orN_s, orN_s]
    by_cases h : Q n = true
    · rw [if_pos h, b_and_or, ih, hR n (by omega)]
      by_cases e : R n = true
      · rw [if_pos e, if_pos (by simp [h, e])]
      · rw [if_neg e, b_or0, if_neg (by simp [e])]
    · rw [if_neg h, ih, if_neg (by simp [h])]
theorem b_0and' (m : Int32) : (0 : Int32) &&& m = 0 := by
  apply Int32.toBitVec_inj.1
  simp
theorem orN_both {P Q : Nat → Bool} {n : Nat} (hn : n ≤ 12) : orN P n &&& orN Q n = orN (fun c => P c && Q c) n := by
  refine orN_and hn (fun c hc => ?_) (b_0and' _)
  rw [b_comm, orN_one (by omega) hn]
  by_cases h : Q c = true
  · rw [if_pos ⟨hc, h⟩, if_pos h]
  · rw [if_neg (fun q => h q.2), if_neg h]
theorem orN_less {P Q : Nat → Bool} {n : Nat} (hn : n ≤ 12) : orN Q n &&& (orN P n ^^^ (-1)) = orN (fun c => Q c && !P c) n := by
  refine orN_and hn (fun c hc => ?_) (b_0and' _)
  rw [b_ident, b_comm (jshl 1 (nI c)), orN_one (by omega) hn]
  by_cases h : P c = true
  · rw [if_pos ⟨hc, h⟩, if_neg (by simp [h]), (b_xx c (by omega)).1]
  · rw [if_neg (fun q => h q.2), if_pos (by simp [h]), (b_xx c (by omega)).2]
theorem cnt_split {P Q : Nat → Bool} : ∀ n, cntN Q n = cntN (fun c => P c && Q c) n + cntN (fun c => Q c && !P c) n
  | 0 => rfl
  | n + 1 => by
    have ih := cnt_split (P := P) (Q := Q) n
    rw [cntN_s, cntN_s, cntN_s]
    cases hP : P n <;> cases hQ : Q n <;> simp <;> omega
def sumN (f : Nat → Nat) : Nat → Nat
  | 0 => 0
  | n + 1 => sumN f n + f n
theorem sumN_s {f : Nat → Nat} {n : Nat} : sumN f (n + 1) = sumN f n + f n := rfl
theorem sumN_le {f : Nat → Nat} {m : Nat} (h : ∀ i, f i ≤ m) : ∀ n, sumN f n ≤ m * n
  | 0 => Nat.zero_le _
  | n + 1 => by
    have := sumN_le h n
    have := h n
    rw [sumN_s, Nat.mul_succ]
    omega
theorem sumN_add {f g k : Nat → Nat} (h : ∀ i, k i = f i + g i) : ∀ n, sumN k n = sumN f n + sumN g n
  | 0 => rfl
  | n + 1 => by
    have := sumN_add h n
    have := h n
    rw [sumN_s, sumN_s, sumN_s]
    omega
def hpB (T : Tn) (b h : Nat) : Nat → Bool := fun c => hrd T b h c && decide (c ≠ b)
def dyA (T : Tn) (h : Nat) : Nat → Nat := fun b => cntN (hpB T b h) (T 4 0)
def dyB (T T1 : Tn) (h : Nat) : Nat → Nat := fun b => cntN (fun c => hpB T b h c && hpB T1 b h c) (T 4 0)
def dyO (T T1 : Tn) (h : Nat) : Nat → Nat := fun b => cntN (fun c => hpB T1 b h c && !hpB T b h c) (T 4 0)
theorem hrs_is {T : Tn} {b h : Nat} : hrs T b h = orN (hpB T b h) (T 4 0) := rfl
theorem c_onDay {T : Tn} {M : Mem} (o : On T M) (g : Good T) {b h v : Nat} (hb : b < T 4 0) (hh : h < 12) (hv : v ≤ 9) : ∃ M', f_Hal_hearersOnDay (nI b) (nI h) (nI v) M = some (hrs (tset T 1 4 v) b h, M') ∧ On T M' ∧ Fr 1 76 M M' ∧ Kp M M' := by
  have g1 : Good (tset T 1 4 v) := g.setW hv
  have o1 : On (tset T 1 4 v) (upd2 M 1 4 (nI v)) := On.tset o (Or.inl rfl)
  obtain ⟨M1, p1, p2⟩ := c_hearers (gg := 72) (h := h) o1 g1 hb hh (by decide)
  have o2 := o1.fr p2 (by decide)
  refine ⟨upd2 M1 1 4 (nI (T 1 4)), ?_, ?_, ((Fr.rf.set (by decide) (by decide)).tr (p2.up (by decide) (by decide))).set (by decide) (by decide), ((Kp.rf.set (by omega)).tr (p2.kp (by decide) (by decide))).set (by omega)⟩
  · unfold f_Hal_hearersOnDay
    rw [e_nmI, e_set, p1, e_bnd2, e_set, o.s4]
  · have := On.tset (a := 1) (k := 4) (v := T 1 4) o2 (Or.inl rfl)
    rw [ts_ts, ts_self] at this
    exact this
theorem c_brkDay {T : Tn} {M : Mem} (o : On T M) (g : Good T) {h v : Nat} (hh : h < 12) (hv : v ≤ 9) : ∃ M', f_Hal_brokenOnDay (nI h) (nI v) M = some (nI (cntB (tset T 1 4 v) h), M') ∧ On T M' ∧ Fr 1 77 M M' ∧ Kp M M' := by
  have g1 : Good (tset T 1 4 v) := g.setW hv
  have o1 : On (tset T 1 4 v) (upd2 M 1 4 (nI v)) := On.tset o (Or.inl rfl)
  obtain ⟨M1, p1, p2⟩ := c_broken (gg := 72) (h := h) o1 g1 hh (by decide)
  have o2 := o1.fr p2 (by decide)
  refine ⟨upd2 M1 1 4 (nI (T 1 4)), ?_, ?_, ((Fr.rf.set (by decide) (by decide)).tr (p2.up (by decide) (by decide))).set (by decide) (by decide), ((Kp.rf.set (by omega)).tr (p2.kp (by decide) (by decide))).set (by omega)⟩
  · unfold f_Hal_brokenOnDay
    rw [e_nmI, e_set, p1, e_bnd2, c_cntB g1, e_bnd, e_set, o.s4]
  · have := On.tset (a := 1) (k := 4) (v := T 1 4) o2 (Or.inl rfl)
    rw [ts_ts, ts_self] at this
    exact this
theorem dy_bd {T T1 : Tn} (g : Good T) {h : Nat} (k : Nat) (hk : k ≤ 8) : sumN (dyA T h) k ≤ 64 ∧ sumN (dyB T T1 h) k ≤ 64 ∧ sumN (dyO T T1 h) k ≤ 64 := by
  have h9 := g.n
  have a1 : ∀ i, dyA T h i ≤ 8 := fun i => Nat.le_trans (cntN_le _) h9.2.2
  have a2 : ∀ i, dyB T T1 h i ≤ 8 := fun i => Nat.le_trans (cntN_le _) h9.2.2
  have a3 : ∀ i, dyO T T1 h i ≤ 8 := fun i => Nat.le_trans (cntN_le _) h9.2.2
  have b1 := sumN_le a1 k
  have b2 := sumN_le a2 k
  have b3 := sumN_le a3 k
  omega
theorem c_daysL {T : Tn} (g : Good T) {h v w : Nat} (hh : h < 12) (hv : v ≤ 9) (hw : w ≤ 2) : ∀ (m n k : Nat) (M : Mem), On T M → k + m = T 4 0 → m < n → ∃ M', f_Hal_days_L40 n (nI h) (nI v) (nI w) (nI (sumN (dyA T h) k)) (nI (sumN (dyB T (tset T 1 4 v) h) k)) (nI (sumN (dyA (tset T 1 4 v) h) k)) (nI k) M = some (if w = 0 then nI (sumN (dyA T h) (T 4 0)) else if w = 1 then nI (sumN (dyB T (tset T 1 4 v) h) (T 4 0)) else nI (sumN (dyO T (tset T 1 4 v) h) (T 4 0)), M') ∧ On T M' ∧ Fr 1 76 M M' ∧ Kp M M' := by
  have h9 := g.n
  intro m
  induction m with
  | zero =>
    intro n k M o hk hn
    obtain ⟨n, rfl⟩ : ∃ z, n = z + 1 := ⟨n - 1, by omega⟩
    have e : k = T 4 0 := by omega
    subst e
    refine ⟨M, ?_, o, Fr.rf, Kp.rf⟩
    rw [f_Hal_days_L40, o.nb, if_pos (by rw [nI_leI (by omega) (by omega)]; omega)]
    rcases (show w = 0 ∨ w = 1 ∨ w = 2 by omega) with rfl | rfl | rfl
    · rfl
    · rfl
    · rw [if_neg (by decide), if_neg (by decide), if_neg (by decide), if_neg (by decide)]
      have e := sumN_add (f := dyB T (tset T 1 4 v) h) (g := dyO T (tset T 1 4 v) h) (k := dyA (tset T 1 4 v) h) (fun i => cnt_split _) (T 4 0)
      rw [e, pk_sub (by omega), Nat.add_sub_cancel_left]
  | succ m ih =>
    intro n k M o hk hn
    obtain ⟨n, rfl⟩ : ∃ z, n = z + 1 := ⟨n - 1, by omega⟩
    have hb : k < T 4 0 := by omega
    obtain ⟨M1, p1, p2⟩ := c_hearers (gg := 72) (h := h) o g hb hh (by decide)
    obtain ⟨M2, q1, q2, q3, q4⟩ := c_onDay (h := h) (v := v) (o.fr p2 (by decide)) g hb hh hv
    obtain ⟨M', r1, r2, r3, r4⟩ := ih n (k + 1) M2 q2 (by omega) (by omega)
    refine ⟨M', ?_, r2, ((p2.up (by decide) (by decide)).tr q3).tr r3, ((p2.kp (by decide) (by decide)).tr q4).tr r4⟩
    have e1 : f_Int_bitCount (hrs T k h) = some (nI (dyA T h k)) := c_cnt (by omega)
    have e2 : f_Int_bitCount (hrs T k h &&& hrs (tset T 1 4 v) k h) = some (nI (dyB T (tset T 1 4 v) h k)) := by
      rw [hrs_is, hrs_is, show (tset T 1 4 v) 4 0 = T 4 0 from rfl, orN_both (by omega)]
      exact c_cnt (by omega)
    have e3 : f_Int_bitCount (hrs (tset T 1 4 v) k h) = some (nI (dyA (tset T 1 4 v) h k)) := c_cnt (show T 4 0 ≤ 8 by omega)
    rw [f_Hal_days_L40, o.nb, if_neg (by rw [nI_leI (by omega) (by omega)]; omega), p1, e_bnd2, q1, e_bnd2, e1, e_bnd, e_nmI, e2, e_bnd, e_nmI, e3, e_bnd, e_nmI, nI_add, nI_add, nI_add, nI_1]
    rw [sumN_s, sumN_s, sumN_s] at r1
    exact r1
theorem m_daysL {T : Tn} (g : Good T) {h v w : Nat} (hh : h < 12) (hv : v ≤ 9) (hw : w ≤ 2) : ∀ (m n k : Nat) (M : Mem), OnM T M → k + m = T 4 0 → m < n → ∃ M', f_Mod_days_L54 n (nI h) (nI v) (nI w) (nI (T 1 4)) (nI (sumN (dyA T h) k)) (nI (sumN (dyB T (tset T 1 4 v) h) k)) (nI (sumN (dyO T (tset T 1 4 v) h) k)) (nI k) M = some (if w = 0 then nI (sumN (dyA T h) (T 4 0)) else if w = 1 then nI (sumN (dyB T (tset T 1 4 v) h) (T 4 0)) else nI (sumN (dyO T (tset T 1 4 v) h) (T 4 0)), M') ∧ OnM T M' ∧ (∀ a, a < 103 → M' a = M a) ∧ Kp M M' := by
  have h9 := g.n
  intro m
  induction m with
  | zero =>
    intro n k M o hk hn
    obtain ⟨n, rfl⟩ : ∃ z, n = z + 1 := ⟨n - 1, by omega⟩
    have e : k = T 4 0 := by omega
    subst e
    refine ⟨M, ?_, o, fun _ _ => rfl, Kp.rf⟩
    rw [f_Mod_days_L54, o.nb, if_pos (by rw [nI_leI (by omega) (by omega)]; omega)]
    rcases (show w = 0 ∨ w = 1 ∨ w = 2 by omega) with rfl | rfl | rfl <;> rfl
  | succ m ih =>
    intro n k M o hk hn
    obtain ⟨n, rfl⟩ : ∃ z, n = z + 1 := ⟨n - 1, by omega⟩
    have hb : k < T 4 0 := by omega
    have g1 : Good (tset T 1 4 v) := g.setW hv
    obtain ⟨M1, p1, p2⟩ := m_heardOf (h := h) o g hb hh
    have o1 : OnM (tset T 1 4 v) (upd2 M1 104 81 (nI v)) := (o.fr p2.m).tset (Or.inl ⟨rfl, rfl, rfl⟩)
    obtain ⟨M2, q1, q2⟩ := m_heardOf (h := h) o1 g1 hb hh
    have o2 : OnM T (upd2 M2 104 81 (nI (T 1 4))) := by
      have := OnM.tset (a := 1) (k := 81) (v := 4) (x := T 1 4) (o1.fr q2.m) (Or.inl ⟨rfl, rfl, rfl⟩)
      rw [ts_ts, ts_self] at this
      exact this
    obtain ⟨M', r1, r2, r3, r4⟩ := ih n (k + 1) _ o2 (by omega) (by omega)
    refine ⟨M', ?_, r2, fun a ha => ?_, ((((p2.m.kp).set (by omega)).tr q2.m.kp).set (by omega)).tr r4⟩
    · have e1 : f_Mod_bitsOf (hrs T k h) = some (nI (dyA T h k)) := m_cnt (by omega)
      have e2 : f_Mod_bitsOf (hrs T k h &&& hrs (tset T 1 4 v) k h) = some (nI (dyB T (tset T 1 4 v) h k)) := by
        rw [hrs_is, hrs_is, show (tset T 1 4 v) 4 0 = T 4 0 from rfl, orN_both (by omega)]
        exact m_cnt (by omega)
      have e3 : f_Mod_bitsOf (hrs (tset T 1 4 v) k h &&& (hrs T k h ^^^ (-1))) = some (nI (dyO T (tset T 1 4 v) h k)) := by
        rw [hrs_is, hrs_is, show (tset T 1 4 v) 4 0 = T 4 0 from rfl, orN_less (by omega)]
        exact m_cnt (by omega)
      rw [f_Mod_days_L54, o.nb, if_neg (by rw [nI_leI (by omega) (by omega)]; omega), p1, e_bnd2, e_set, show ix 81 = 81 from rfl, q1, e_bnd2, e_set, e1, e_bnd, e_nmI, e2, e_bnd, e_nmI, e3, e_bnd, e_nmI, nI_add, nI_add, nI_add, nI_1]
      rw [sumN_s, sumN_s, sumN_s] at r1
      exact r1
    · rw [r3 a ha, u_ne (by omega)]
      funext j
      rw [q2 a j (by omega) (by omega) (fun e => by omega), u_ne (by omega), p2 a j (by omega) (by omega) (fun e => by omega)]
theorem s_days (x y z : Int32) : Sim (f_Hal_days x y z) (f_Mod_days x y z) := by
  intro M ⟨T, hA, hI, hS, hT, hF⟩
  obtain ⟨o, om, g⟩ := id hA
  have h9 := g.n
  have e9 : f_Mod_in y.toInt64 0 9 = f_Mod_in y.toInt64 0 (nI 9).toInt64 := rfl
  have e2 : f_Mod_in z.toInt64 0 2 = f_Mod_in z.toInt64 0 (nI 2).toInt64 := rfl
  rcases a_hour x with ⟨h, hh, rfl, b1, b2⟩ | ⟨b1, b2⟩
  · rcases wi y (m := 9) (by decide) with ⟨v, hv, rfl, f1, f2⟩ | ⟨f1, f2, -⟩
    · rcases wi z (m := 2) (by decide) with ⟨w, hw, rfl, i1, i2⟩ | ⟨i1, i2, -⟩
      · obtain ⟨M1, p1, p2, p3, p4⟩ := c_daysL g (w := w) hh hv hw (T 4 0) 1000 0 M o (by omega) (by omega)
        have om1 := om.frc p3 (by decide)
        obtain ⟨M2, q1, q2, q3, q4⟩ := m_daysL g (w := w) hh hv hw (T 4 0) 1000 0 M1 om1 (by omega) (by omega)
        refine ⟨if w = 0 then nI (sumN (dyA T h) (T 4 0)) else if w = 1 then nI (sumN (dyB T (tset T 1 4 v) h) (T 4 0)) else nI (sumN (dyO T (tset T 1 4 v) h) (T 4 0)), M1, M2, ?_, ?_, Inv.to hI hS hT hF (p4.tr q4) (fun _ _ _ => rfl) ⟨p2.low q3, q2, g⟩⟩
        · unfold f_Hal_days
          rw [b1, e_bnd, if_neg (by decide), show (0 : Int32) = nI 0 from rfl, show (9 : Int32) = nI 9 from rfl, f1, e_bnd, if_neg (by decide), show (2 : Int32) = nI 2 from rfl, i1, e_bnd, if_neg (by decide)]
          exact p1
        · unfold f_Mod_days
          rw [b2, e_bnd, if_neg (by decide), e9, f2, e_bnd, if_neg (by decide), e2, i2, e_bnd, if_neg (by decide), e_nmI, show M1 104 (ix 81) = nI (T 1 4) from om1.s4]
          exact q1
      · refine ⟨-1, M, M, ?_, ?_, ⟨T, hA, hI, hS, hT, hF⟩⟩
        · simp (disch := omega) only [e_bnd, e_bnd2, e_set, e_cpy, e_nmI, e_nmL, e_ckn, e_ckB0, e_ckB1, l0, l1, l2, l3, l4, l5, l6, l7, l8, l9, l10, l11, l12, l13, l14, l15, l16, l17, l18, l19, l20, l21, l22, l24, l25, l32, l39, l40, l41, l48, l50, l56, l57, l59, l60, l72, l79, l80, l81, l82, l88, l89, l97, l100, l122, l124, l125, l160, l255, l312, l320, l375, l1000, nI_ltI, nI_leI, nI_eq, nI_add, pk_mul, e_ix, e_neg, if_true, if_false, if_pos, if_neg, f_Hal_days, b1, f1, i1]
        · simp (disch := omega) only [e_bnd, e_bnd2, e_set, e_cpy, e_nmI, e_nmL, e_ckn, e_ckB0, e_ckB1, l0, l1, l2, l3, l4, l5, l6, l7, l8, l9, l10, l11, l12, l13, l14, l15, l16, l17, l18, l19, l20, l21, l22, l24, l25, l32, l39, l40, l41, l48, l50, l56, l57, l59, l60, l72, l79, l80, l81, l82, l88, l89, l97, l100, l122, l124, l125, l160, l255, l312, l320, l375, l1000, nI_ltI, nI_leI, nI_eq, nI_add, pk_mul, e_ix, e_neg, if_true, if_false, if_pos, if_neg, f_Mod_days, b2, e9, f2, e2, i2]
    · refine ⟨-1, M, M, ?_, ?_, ⟨T, hA, hI, hS, hT, hF⟩⟩
      · simp (disch := omega) only [e_bnd, e_bnd2, e_set, e_cpy, e_nmI, e_nmL, e_ckn, e_ckB0, e_ckB1, l0, l1, l2, l3, l4, l5, l6, l7, l8, l9, l10, l11, l12, l13, l14, l15, l16, l17, l18, l19, l20, l21, l22, l24, l25, l32, l39, l40, l41, l48, l50, l56, l57, l59, l60, l72, l79, l80, l81, l82, l88, l89, l97, l100, l122, l124, l125, l160, l255, l312, l320, l375, l1000, nI_ltI, nI_leI, nI_eq, nI_add, pk_mul, e_ix, e_neg, if_true, if_false, if_pos, if_neg, f_Hal_days, b1, f1]
      · simp (disch := omega) only [e_bnd, e_bnd2, e_set, e_cpy, e_nmI, e_nmL, e_ckn, e_ckB0, e_ckB1, l0, l1, l2, l3, l4, l5, l6, l7, l8, l9, l10, l11, l12, l13, l14, l15, l16, l17, l18, l19, l20, l21, l22, l24, l25, l32, l39, l40, l41, l48, l50, l56, l57, l59, l60, l72, l79, l80, l81, l82, l88, l89, l97, l100, l122, l124, l125, l160, l255, l312, l320, l375, l1000, nI_ltI, nI_leI, nI_eq, nI_add, pk_mul, e_ix, e_neg, if_true, if_false, if_pos, if_neg, f_Mod_days, b2, e9, f2]
  · refine ⟨-1, M, M, ?_, ?_, ⟨T, hA, hI, hS, hT, hF⟩⟩
    · simp (disch := omega) only [e_bnd, e_bnd2, e_set, e_cpy, e_nmI, e_nmL, e_ckn, e_ckB0, e_ckB1, l0, l1, l2, l3, l4, l5, l6, l7, l8, l9, l10, l11, l12, l13, l14, l15, l16, l17, l18, l19, l20, l21, l22, l24, l25, l32, l39, l40, l41, l48, l50, l56, l57, l59, l60, l72, l79, l80, l81, l82, l88, l89, l97, l100, l122, l124, l125, l160, l255, l312, l320, l375, l1000, nI_ltI, nI_leI, nI_eq, nI_add, pk_mul, e_ix, e_neg, if_true, if_false, if_pos, if_neg, f_Hal_days, b1]
    · simp (disch := omega) only [e_bnd, e_bnd2, e_set, e_cpy, e_nmI, e_nmL, e_ckn, e_ckB0, e_ckB1, l0, l1, l2, l3, l4, l5, l6, l7, l8, l9, l10, l11, l12, l13, l14, l15, l16, l17, l18, l19, l20, l21, l22, l24, l25, l32, l39, l40, l41, l48, l50, l56, l57, l59, l60, l72, l79, l80, l81, l82, l88, l89, l97, l100, l122, l124, l125, l160, l255, l312, l320, l375, l1000, nI_ltI, nI_leI, nI_eq, nI_add, pk_mul, e_ix, e_neg, if_true, if_false, if_pos, if_neg, f_Mod_days, b2]
def bw (T : Tn) (h : Nat) : Nat → Nat × Nat
  | 0 => (0, 9)
  | k + 1 => if cntB (tset T 1 4 k) h < (bw T h k).2 then (k, cntB (tset T 1 4 k) h) else bw T h k
theorem bw_s {T : Tn} {h k : Nat} : bw T h (k + 1) = if cntB (tset T 1 4 k) h < (bw T h k).2 then (k, cntB (tset T 1 4 k) h) else bw T h k := rfl
theorem bw_le {T : Tn} {h : Nat} : ∀ k, (bw T h k).2 ≤ 9 ∧ (bw T h k).1 ≤ k
  | 0 => ⟨Nat.le_refl 9, Nat.le_refl 0⟩
  | k + 1 => by
    have := bw_le (T := T) (h := h) k
    rw [bw_s]
    split
    · constructor
      · dsimp only; omega
      · dsimp only; omega
    · omega
theorem c_bwL {T : Tn} (g : Good T) {h w : Nat} (hh : h < 12) (hw : w ≤ 1) : ∀ (m n k : Nat) (M : Mem), On T M → k + m = 10 → m < n → ∃ M', f_Hal_best_L27 n (nI h) (nI w) (nI (bw T h k).1) (nI (bw T h k).2) (nI k) M = some (if w = 0 then nI (bw T h 10).1 else nI (bw T h 10).2, M') ∧ On T M' ∧ Fr 1 77 M M' ∧ Kp M M' := by
  intro m
  induction m with
  | zero =>
    intro n k M o hk hn
    obtain ⟨n, rfl⟩ : ∃ z, n = z + 1 := ⟨n - 1, by omega⟩
    have e : k = 10 := by omega
    subst e
    refine ⟨M, ?_, o, Fr.rf, Kp.rf⟩
    rw [f_Hal_best_L27, if_pos (by decide)]
    rcases (show w = 0 ∨ w = 1 by omega) with rfl | rfl <;> rfl
  | succ m ih =>
    intro n k M o hk hn
    obtain ⟨n, rfl⟩ : ∃ z, n = z + 1 := ⟨n - 1, by omega⟩
    have hle := bw_le (T := T) (h := h) k
    have cl := cntB_le (h := h) (g.setW (v := k) (by omega))
    obtain ⟨M1, p1, p2, p3, p4⟩ := c_brkDay (h := h) (v := k) o g hh (by omega)
    obtain ⟨M', r1, r2, r3, r4⟩ := ih n (k + 1) M1 p2 (by omega) (by omega)
    refine ⟨M', ?_, r2, p3.tr r3, p4.tr r4⟩
    rw [f_Hal_best_L27, if_neg (by rw [l9, nI_ltI (by omega) (by omega)]; omega), p1, e_bnd2, nI_1]
    rw [bw_s] at r1
    by_cases hlt : cntB (tset T 1 4 k) h < (bw T h k).2
    · rw [if_neg (by rw [nI_leI (by omega) (by omega)]; omega)]
      rw [if_pos hlt] at r1
      exact r1
    · rw [if_pos (by rw [nI_leI (by omega) (by omega)]; omega)]
      rw [if_neg hlt] at r1
      exact r1
theorem m_bwL {T : Tn} (g : Good T) {h w : Nat} (hh : h < 12) (hw : w ≤ 1) : ∀ (m n k u : Nat) (b l : Int32) (M : Mem), OnM (tset T 1 4 u) M → k + m = 10 → m < n → (k = 0 → b = -4) → (1 ≤ k → b = nI (bw T h k).1 ∧ l = nI (bw T h k).2) → ∃ M', f_Mod_best_L37 n (nI h) (nI w) (nI (T 1 4)) b l (nI k) M = some (if w = 0 then nI (bw T h 10).1 else nI (bw T h 10).2, M') ∧ OnM T M' ∧ (∀ a, a < 103 → M' a = M a) ∧ Kp M M' := by
  intro m
  induction m with
  | zero =>
    intro n k u b l M o hk hn h0 h1
    obtain ⟨n, rfl⟩ : ∃ z, n = z + 1 := ⟨n - 1, by omega⟩
    have e : k = 10 := by omega
    subst e
    obtain ⟨rfl, rfl⟩ := h1 (by decide)
    refine ⟨upd2 M 104 81 (nI (T 1 4)), ?_, ?_, fun a ha => u_ne (by omega), Kp.rf.set (by omega)⟩
    · rw [f_Mod_best_L37, if_pos (by decide), e_set]
      rcases (show w = 0 ∨ w = 1 by omega) with rfl | rfl <;> rfl
    · have := OnM.tset (a := 1) (k := 81) (v := 4) (x := T 1 4) o (Or.inl ⟨rfl, rfl, rfl⟩)
      rw [ts_ts, ts_self] at this
      exact this
  | succ m ih =>
    intro n k u b l M o hk hn h0 h1
    obtain ⟨n, rfl⟩ : ∃ z, n = z + 1 := ⟨n - 1, by omega⟩
    have hle := bw_le (T := T) (h := h) k
    have g1 : Good (tset T 1 4 k) := g.setW (by omega)
    have cl := cntB_le (h := h) g1
    have o1 : OnM (tset T 1 4 k) (upd2 M 104 81 (nI k)) := by
      have := OnM.tset (a := 1) (k := 81) (v := 4) (x := k) o (Or.inl ⟨rfl, rfl, rfl⟩)
      rw [ts_ts] at this
      exact this
    obtain ⟨M1, p1, p2⟩ := m_broken (h := h) o1 g1 hh
    have o2 := o1.fr p2.m
    have low : ∀ a, a < 103 → M1 a = M a := fun a ha => funext fun j => by
      rw [p2 a j (by omega) (fun e => by omega), u_ne (by omega)]
    have kk : Kp M M1 := (Kp.rf.set (by omega)).tr p2.m.kp
    have go : ∀ b l : Int32, b = nI (bw T h (k + 1)).1 → l = nI (bw T h (k + 1)).2 → ∃ M', f_Mod_best_L37 n (nI h) (nI w) (nI (T 1 4)) b l (nI (k + 1)) M1 = some (if w = 0 then nI (bw T h 10).1 else nI (bw T h 10).2, M') ∧ OnM T M' ∧ (∀ a, a < 103 → M' a = M a) ∧ Kp M M' := fun b l e1 e2 => by
      obtain ⟨M', r1, r2, r3, r4⟩ := ih n (k + 1) k b l M1 o2 (by omega) (by omega) (fun e => by omega) (fun _ => ⟨e1, e2⟩)
      exact ⟨M', r1, r2, fun a ha => by rw [r3 a ha, low a ha], kk.tr r4⟩
    rw [f_Mod_best_L37, if_neg (by rw [l10, nI_leI (by omega) (by omega)]; omega), e_set, show ix 81 = 81 from rfl, p1, e_bnd2, m_cntB g1, e_bnd]
    unfold f_Mod_best_J77 f_Mod_best_J82 f_Mod_best_J96
    rw [if_neg (show ¬ (1 : Int32) = 0 by decide), if_neg (show ¬ (1 : Int32) = 0 by decide), if_pos (show (0 : Int32) = 0 from rfl), if_pos (show (0 : Int32) = 0 from rfl), nI_1]
    by_cases hk0 : k = 0
    · subst hk0
      have hb : bw T h (0 + 1) = (0, cntB (tset T 1 4 0) h) := by
        rw [bw_s, if_pos]
        show _ < 9
        omega
      rw [h0 rfl, if_pos rfl]
      exact go _ _ (by rw [hb]) (by rw [hb])
    · obtain ⟨rfl, rfl⟩ := h1 (by omega)
      rw [if_neg (by rw [l4, e_neg (by omega) (by omega) (by omega)]; exact id)]
      by_cases hlt : cntB (tset T 1 4 k) h < (bw T h k).2
      · have hb : bw T h (k + 1) = (k, cntB (tset T 1 4 k) h) := by rw [bw_s, if_pos hlt]
        rw [if_neg (by rw [nI_leI (by omega) (by omega)]; omega)]
        exact go _ _ (by rw [hb]) (by rw [hb])
      · have hb : bw T h (k + 1) = bw T h k := by rw [bw_s, if_neg hlt]
        rw [if_pos (by rw [nI_leI (by omega) (by omega)]; omega)]
        exact go _ _ (by rw [hb]) (by rw [hb])
theorem s_best (x y : Int32) : Sim (f_Hal_best x y) (f_Mod_best x y) := by
  intro M ⟨T, hA, hI, hS, hT, hF⟩
  obtain ⟨o, om, g⟩ := id hA
  have e1 : f_Mod_in y.toInt64 0 1 = f_Mod_in y.toInt64 0 (nI 1).toInt64 := rfl
  rcases a_hour x with ⟨h, hh, rfl, b1, b2⟩ | ⟨b1, b2⟩
  · rcases wi y (m := 1) (by decide) with ⟨w, hw, rfl, f1, f2⟩ | ⟨f1, f2, -⟩
    · obtain ⟨M1, p1, p2, p3, p4⟩ := c_bwL g (w := w) hh hw 10 1000 0 M o rfl (by decide)
      have om1 := om.frc p3 (by decide)
      have om1' : OnM (tset T 1 4 (T 1 4)) M1 := by rw [ts_self]; exact om1
      obtain ⟨M2, q1, q2, q3, q4⟩ := m_bwL g (w := w) hh hw 10 1000 0 (T 1 4) (-4) 0 M1 om1' rfl (by decide) (fun _ => rfl) (fun e => by omega)
      refine ⟨if w = 0 then nI (bw T h 10).1 else nI (bw T h 10).2, M1, M2, ?_, ?_, Inv.to hI hS hT hF (p4.tr q4) (fun _ _ _ => rfl) ⟨p2.low q3, q2, g⟩⟩
      · unfold f_Hal_best
        rw [b1, e_bnd, if_neg (by decide), show (0 : Int32) = nI 0 from rfl, show (1 : Int32) = nI 1 from rfl, f1, e_bnd, if_neg (by decide)]
        exact p1
      · unfold f_Mod_best
        rw [b2, e_bnd, if_neg (by decide), e1, f2, e_bnd, if_neg (by decide), e_nmI, show M1 104 (ix 81) = nI (T 1 4) from om1.s4]
        exact q1
    · refine ⟨-1, M, M, ?_, ?_, ⟨T, hA, hI, hS, hT, hF⟩⟩
      · simp (disch := omega) only [e_bnd, e_bnd2, e_set, e_cpy, e_nmI, e_nmL, e_ckn, e_ckB0, e_ckB1, l0, l1, l2, l3, l4, l5, l6, l7, l8, l9, l10, l11, l12, l13, l14, l15, l16, l17, l18, l19, l20, l21, l22, l24, l25, l32, l39, l40, l41, l48, l50, l56, l57, l59, l60, l72, l79, l80, l81, l82, l88, l89, l97, l100, l122, l124, l125, l160, l255, l312, l320, l375, l1000, nI_ltI, nI_leI, nI_eq, nI_add, pk_mul, e_ix, e_neg, if_true, if_false, if_pos, if_neg, f_Hal_best, b1, f1]
      · simp (disch := omega) only [e_bnd, e_bnd2, e_set, e_cpy, e_nmI, e_nmL, e_ckn, e_ckB0, e_ckB1, l0, l1, l2, l3, l4, l5, l6, l7, l8, l9, l10, l11, l12, l13, l14, l15, l16, l17, l18, l19, l20, l21, l22, l24, l25, l32, l39, l40, l41, l48, l50, l56, l57, l59, l60, l72, l79, l80, l81, l82, l88, l89, l97, l100, l122, l124, l125, l160, l255, l312, l320, l375, l1000, nI_ltI, nI_leI, nI_eq, nI_add, pk_mul, e_ix, e_neg, if_true, if_false, if_pos, if_neg, f_Mod_best, b2, e1, f2]
  · refine ⟨-1, M, M, ?_, ?_, ⟨T, hA, hI, hS, hT, hF⟩⟩
    · simp (disch := omega) only [e_bnd, e_bnd2, e_set, e_cpy, e_nmI, e_nmL, e_ckn, e_ckB0, e_ckB1, l0, l1, l2, l3, l4, l5, l6, l7, l8, l9, l10, l11, l12, l13, l14, l15, l16, l17, l18, l19, l20, l21, l22, l24, l25, l32, l39, l40, l41, l48, l50, l56, l57, l59, l60, l72, l79, l80, l81, l82, l88, l89, l97, l100, l122, l124, l125, l160, l255, l312, l320, l375, l1000, nI_ltI, nI_leI, nI_eq, nI_add, pk_mul, e_ix, e_neg, if_true, if_false, if_pos, if_neg, f_Hal_best, b1]
    · simp (disch := omega) only [e_bnd, e_bnd2, e_set, e_cpy, e_nmI, e_nmL, e_ckn, e_ckB0, e_ckB1, l0, l1, l2, l3, l4, l5, l6, l7, l8, l9, l10, l11, l12, l13, l14, l15, l16, l17, l18, l19, l20, l21, l22, l24, l25, l32, l39, l40, l41, l48, l50, l56, l57, l59, l60, l72, l79, l80, l81, l82, l88, l89, l97, l100, l122, l124, l125, l160, l255, l312, l320, l375, l1000, nI_ltI, nI_leI, nI_eq, nI_add, pk_mul, e_ix, e_neg, if_true, if_false, if_pos, if_neg, f_Mod_best, b2]
