/-! pure: murmur, from, where -/
theorem b_low (y : Int32) : ∃ v, v < 32768 ∧ y &&& 32767 = nI v := by
  refine ⟨(y &&& 32767).toBitVec.toNat, ?_, ?_⟩
  · rw [Int32.toBitVec_and, BitVec.toNat_and]
    have h : y.toBitVec.toNat &&& (32767 : Int32).toBitVec.toNat ≤ (32767 : Int32).toBitVec.toNat := Nat.and_le_right
    have e : (32767 : Int32).toBitVec.toNat = 32767 := by decide
    omega
  · apply Int32.toBitVec_inj.1
    apply BitVec.eq_of_toNat_eq
    show _ = (BitVec.ofNat 32 _).toNat
    rw [BitVec.toNat_ofNat, Nat.mod_eq_of_lt (BitVec.isLt _)]
def mS (seed : Int32) : Nat → Int32
  | 0 => seed
  | j + 1 => mS seed j * 1103515245 + 12345
def dr (x : Int32) : Nat := ix (jshr x 16 &&& 32767)
theorem dr_is (x : Int32) : jshr x 16 &&& 32767 = nI (dr x) ∧ dr x < 32768 := by
  obtain ⟨v, h1, h2⟩ := b_low (jshr x 16)
  have e : dr x = v := by
    unfold dr
    rw [h2]
    exact e_ix (by omega)
  rw [e]
  exact ⟨h2, h1⟩
def Tm (T : Tn) (seed : Int32) (h n : Nat) : Tn := fun a j => if a = 14 ∧ j = 0 then n else if a = 15 then h else if a = 16 then dr (mS seed (2 * j + 1)) % T 1 5 else if a = 17 then dr (mS seed (2 * j + 2)) % 8 else T a j
theorem Tm_lo {T : Tn} {seed : Int32} {h n a j : Nat} (ha : a < 14 ∨ 17 < a) : Tm T seed h n a j = T a j := by
  unfold Tm
  rw [if_neg (by omega), if_neg (by omega), if_neg (by omega), if_neg (by omega)]
theorem Tm_n {T : Tn} {seed : Int32} {h n : Nat} : Tm T seed h n 14 0 = n := if_pos ⟨rfl, rfl⟩
theorem Tm_15 {T : Tn} {seed : Int32} {h n j : Nat} : Tm T seed h n 15 j = h := by
  unfold Tm
  rw [if_neg (by omega), if_pos rfl]
theorem Tm_16 {T : Tn} {seed : Int32} {h n j : Nat} : Tm T seed h n 16 j = dr (mS seed (2 * j + 1)) % T 1 5 := by
  unfold Tm
  rw [if_neg (by omega), if_neg (by decide), if_pos rfl]
theorem Tm_17 {T : Tn} {seed : Int32} {h n j : Nat} : Tm T seed h n 17 j = dr (mS seed (2 * j + 2)) % 8 := by
  unfold Tm
  rw [if_neg (by omega), if_neg (by decide), if_neg (by decide), if_pos rfl]
theorem Tm_good {T : Tn} (g : Good T) {seed : Int32} {h n : Nat} (hh : h < 12) (hn : n ≤ 12) (hp : 0 < T 1 5) : Good (Tm T seed h n) := by
  refine g.push (fun a j ha => Tm_lo (Or.inl ha)) (by rw [Tm_n]; exact hn) (fun i hi => ?_)
  rw [Tm_15, Tm_16, Tm_17]
  exact ⟨hh, Nat.mod_lt _ hp, Nat.mod_lt _ (by decide)⟩
theorem on_cg {T T' : Tn} {M : Mem} (o : On T M) (h1 : ∀ a j, a < 14 → T' a j = T a j) (h2 : T' 14 0 = T 14 0) (h3 : ∀ a i, 15 ≤ a → a ≤ 17 → i < T 14 0 → T' a i = T a i) : On T' M := by
  have eT : ∀ a, a < 14 → T' a = T a := fun a ha => funext fun j => h1 a j ha
  unfold On
  rw [eT 1 (by decide), eT 2 (by decide), eT 3 (by decide), eT 4 (by decide), eT 10 (by decide), h2]
  refine ⟨o.1, o.2.1, o.2.2.1, o.2.2.2.1, fun a a1 a2 => ?_, o.2.2.2.2.2.1, fun a a1 a2 => ?_, o.2.2.2.2.2.2.2.1, fun a a1 a2 i hi => ?_⟩
  · rw [eT a (by omega)]; exact o.2.2.2.2.1 a a1 a2
  · rw [eT a (by omega)]; exact o.2.2.2.2.2.2.1 a a1 a2
  · rw [h3 a i a1 a2 hi]; exact o.v a1 a2 hi
theorem c_murL {T : Tn} (g : Good T) {seed : Int32} {h N : Nat} (hh : h < 12) (hN : N ≤ 12) (hp : 0 < T 1 5) : ∀ (m n k : Nat) (M : Mem), On (Tm T seed h k) M → k + m = N → m < n → ∃ M', f_Hal_murmur_L49 n (nI N) (nI h) (mS seed (2 * k)) (nI k) M = some (nI (wct (Tm T seed h N) bt0 N), M') ∧ On (Tm T seed h N) M' ∧ Fr 14 85 M M' ∧ Kp M M' := by
  have h9 := g.n
  intro m
  induction m with
  | zero =>
    intro n k M o hk hn
    obtain ⟨n, rfl⟩ : ∃ z, n = z + 1 := ⟨n - 1, by omega⟩
    have e : k = N := by omega
    subst e
    obtain ⟨M1, p1, p2, p3⟩ := c_tellF o (Tm_good g hh hN hp) (N := k) (by rw [Tm_n]; exact Nat.le_refl _)
    refine ⟨M1, ?_, o.fr p2 (by decide), p2.up (by decide) (by decide), p2.kp (by decide) (by decide)⟩
    rw [f_Hal_murmur_L49, if_pos (by rw [nI_leI (by omega) (by omega)]; omega), p1, e_bnd2]
  | succ m ih =>
    intro n k M o hk hn
    obtain ⟨n, rfl⟩ : ∃ z, n = z + 1 := ⟨n - 1, by omega⟩
    have o1 := o.push (T' := Tm T seed h (k + 1)) (k := k) Tm_n (fun a j ha => by rw [Tm_lo (Or.inl ha), Tm_lo (Or.inl ha)]) Tm_n (fun a i a1 a2 hi => by
      rcases (show a = 15 ∨ a = 16 ∨ a = 17 by omega) with rfl | rfl | rfl
      · rw [Tm_15, Tm_15]
      · rw [Tm_16, Tm_16]
      · rw [Tm_17, Tm_17])
    rw [Tm_15, Tm_16, Tm_17] at o1
    obtain ⟨d1, d1'⟩ := dr_is (mS seed (2 * k + 1))
    obtain ⟨d2, d2'⟩ := dr_is (mS seed (2 * k + 2))
    have e5 : M 1 5 = nI (T 1 5) := by rw [o.s5, Tm_lo (Or.inl (by decide))]
    have e14 : M 14 0 = nI k := by rw [o.ns, Tm_n]
    have f1 : Fr 14 17 M (upd2 (upd2 (upd2 (upd2 M 15 k (nI h)) 16 k (nI (dr (mS seed (2 * k + 1)) % T 1 5))) 17 k (nI (dr (mS seed (2 * k + 2)) % 8))) 14 0 (nI (k + 1))) := (((Fr.rf.set (by decide) (by decide)).set (by decide) (by decide)).set (by decide) (by decide)).set (by decide) (by decide)
    obtain ⟨M', r1, r2, r3, r4⟩ := ih n (k + 1) _ o1 (by omega) (by omega)
    refine ⟨M', ?_, r2, (f1.up (Nat.le_refl _) (by decide)).tr r3, (kp_lo f1 (by decide) (by decide)).tr r4⟩
    have s1 : f_Hal_nextSeed (mS seed (2 * k)) = some (mS seed (2 * k + 1)) := rfl
    have s2 : f_Hal_nextSeed (mS seed (2 * k + 1)) = some (mS seed (2 * k + 2)) := rfl
    have s3 : f_Hal_drawnFrom (mS seed (2 * k + 1)) = some (nI (dr (mS seed (2 * k + 1)))) := by rw [← d1]; rfl
    have s4 : f_Hal_drawnFrom (mS seed (2 * k + 2)) = some (nI (dr (mS seed (2 * k + 2)))) := by rw [← d2]; rfl
    rw [f_Hal_murmur_L49, if_neg (by rw [nI_leI (by omega) (by omega)]; omega), s1, e_bnd, s3, e_bnd, e5, if_neg (by rw [l0, nI_eq (by omega) (by omega)]; omega), e_nmI, s2, e_bnd, s4, e_bnd, j_rem (by omega) hp (by omega), l8, j_rem (by omega) (by omega) (by omega), c_add e14 (by omega), e_bnd, nI_1]
    exact r1
theorem m_murL {T : Tn} (g : Good T) {seed : Int32} {h N : Nat} {M0 : Mem} (o0 : OnM T M0) (hh : h < 12) (hN : N ≤ 12) (hp : 0 < T 1 5) : ∀ (m n k : Nat) (M : Mem), (∀ a j, (a ≠ 104 ∨ j < 89 ∨ 124 < j) → M a j = M0 a j) → (∀ i, i < k → M 104 (89 + 3 * i) = nI h ∧ M 104 (89 + 3 * i + 1) = nI (dr (mS seed (2 * i + 1)) % T 1 5) ∧ M 104 (89 + 3 * i + 2) = nI (dr (mS seed (2 * i + 2)) % 8)) → k + m = N → m < n →
    ∃ M', f_Mod_murmur_L37 n (nI N) (nI h) (mS seed (2 * k)) (nI k) M = some (nI (wct (Tm T seed h N) bt0 N), M') ∧ OnM (Tm T seed h N) M' ∧ (∀ a, a < 103 → M' a = M0 a) ∧ Kp M0 M' := by
  have h9 := g.n
  intro m
  induction m with
  | zero =>
    intro n k M hM hE hk hn
    obtain ⟨n, rfl⟩ : ∃ z, n = z + 1 := ⟨n - 1, by omega⟩
    have e : k = N := by omega
    subst e
    have o1 : OnM (Tm T seed h k) (upd2 M 104 88 (nI k)) := by
      refine o0.push (fun a j ha => Tm_lo (Or.inl ha)) (fun a j ha => ?_) (by rw [u_eq, Tm_n]) (fun i hi => ?_)
      · by_cases e : a = 104
        · subst e; rw [u_nk (by omega), hM _ _ (by omega)]
        · rw [u_ne e, hM _ _ (Or.inl e)]
      · rw [Tm_n] at hi
        rw [Tm_15, Tm_16, Tm_17, u_nk (by omega), u_nk (by omega), u_nk (by omega)]
        exact hE i hi
    obtain ⟨M1, p1, p2, p3⟩ := m_wh0 o1 (Tm_good g hh hN hp) (N := k) (by rw [Tm_n]; exact Nat.le_refl _)
    have k0 : Kp M0 (upd2 M 104 88 (nI k)) := kp_say (fun a j ha => by
      by_cases e : a = 104
      · subst e; rw [u_nk (by omega), hM _ _ (by omega)]
      · rw [u_ne e, hM _ _ (Or.inl e)])
    refine ⟨M1, ?_, o1.fr p2, fun a ha => funext fun j => ?_, k0.tr p2.kp⟩
    · rw [f_Mod_murmur_L37, if_pos (by rw [nI_leI (by omega) (by omega)]; omega), e_set, show ix 88 = 88 from rfl, p1, e_bnd2]
    · rw [p2 a j (by omega) (fun e => by omega), u_ne (by omega), hM _ _ (Or.inl (by omega))]
  | succ m ih =>
    intro n k M hM hE hk hn
    obtain ⟨n, rfl⟩ : ∃ z, n = z + 1 := ⟨n - 1, by omega⟩
    obtain ⟨d1, d1'⟩ := dr_is (mS seed (2 * k + 1))
    obtain ⟨d2, d2'⟩ := dr_is (mS seed (2 * k + 2))
    have e7 : ∀ x : Int32, upd2 M 104 (89 + 3 * k) x 103 7 = nI (T 1 5) := fun x => by
      rw [u_ne (by decide), hM _ _ (Or.inl (by decide))]; exact o0.s5
    obtain ⟨M', r1, r2, r3, r4⟩ := ih n (k + 1) (upd2 (upd2 (upd2 M 104 (89 + 3 * k) (nI h)) 104 (89 + 3 * k + 1) (nI (dr (mS seed (2 * k + 1)) % T 1 5))) 104 (89 + 3 * k + 2) (nI (dr (mS seed (2 * k + 2)) % 8))) (fun a j ha => by
        by_cases e : a = 104
        · subst e
          rw [u_nk (by omega), u_nk (by omega), u_nk (by omega), hM _ _ (by omega)]
        · rw [u_ne e, u_ne e, u_ne e, hM _ _ (Or.inl e)]) (fun i hi => by
        by_cases e : i = k
        · subst e
          refine ⟨?_, ?_, ?_⟩
          · rw [u_nk (by omega), u_nk (by omega), u_eq]
          · rw [u_nk (by omega), u_eq]
          · rw [u_eq]
        · rw [u_nk (by omega), u_nk (by omega), u_nk (by omega), u_nk (by omega), u_nk (by omega), u_nk (by omega), u_nk (by omega), u_nk (by omega), u_nk (by omega)]
          exact hE i (by omega)) (by omega) (by omega)
    refine ⟨M', ?_, r2, r3, r4⟩
    have s1 : mS seed (2 * k) * 1103515245 + 12345 = mS seed (2 * k + 1) := rfl
    have s2 : mS seed (2 * k + 1) * 1103515245 + 12345 = mS seed (2 * k + 2) := rfl
    rw [f_Mod_murmur_L37, if_neg (by rw [nI_leI (by omega) (by omega)]; omega), l89, l3, pk_mul, nI_add, e_nmI, e_ckn (by omega) (by decide), e_set, s1, e_nmI, show ix (nI (89 + 3 * k)) = 89 + 3 * k from e_ix (by omega), e7, if_neg (by rw [l0, nI_eq (by omega) (by omega)]; omega), nI_1, e_ckn (by omega) (by decide), e_set, s2, e_nmI, l2, nI_add, e_ckn (by omega) (by decide), e_set, d1, d2, l8, j_rem (by omega) hp (by omega), j_rem (by omega) (by omega) (by omega), nI_1, show ix (nI (89 + 3 * k + 1)) = 89 + 3 * k + 1 from e_ix (by omega), show ix (nI (89 + 3 * k + 2)) = 89 + 3 * k + 2 from e_ix (by omega)]
    exact r1
theorem s_murmur (x y z : Int32) : Sim (f_Hal_murmur x y z) (f_Mod_murmur x y z) := by
  intro M ⟨T, hA, hI, hS, hT, hF⟩
  obtain ⟨o, om, g⟩ := id hA
  have h9 := g.ns
  have h8 := g.n
  have ein : f_Mod_in y.toInt64 1 12 = some (if 1 ≤ y ∧ y ≤ 12 then nI 1 else nI 0) := m_in0 y rfl rfl
  have ewi : f_Hal_within y 1 12 = some (if 1 ≤ y ∧ y ≤ 12 then nI 1 else nI 0) := w_in y 1 12
  by_cases hy : 1 ≤ y ∧ y ≤ 12
  · rw [if_pos hy] at ein ewi
    obtain ⟨N, hN, rfl⟩ := nI_rng (x := y) (m := 12) (by decide) (Int32.le_trans (by decide) hy.1) hy.2
    rcases a_hour z with ⟨h, hh, rfl, b1, b2⟩ | ⟨b1, b2⟩
    · by_cases hp : T 1 5 = 0
      · refine ⟨-2, M, M, ?_, ?_, ⟨T, hA, hI, hS, hT, hF⟩⟩
        · unfold f_Hal_murmur
          rw [ewi, e_bnd, if_neg (by decide), b1, e_bnd, if_neg (by decide), o.s5, hp, if_neg (by decide)]
        · unfold f_Mod_murmur
          rw [ein, e_bnd, if_neg (by decide), b2, e_bnd, if_neg (by decide), om.s5, hp, if_pos (by rfl)]
      · have o0 : On (Tm T x h 0) (upd2 M 14 0 0) := by
          refine on_cg (on_cnt o (k := 0) (Nat.zero_le _)) (fun a j ha => ?_) ?_ (fun a i a1 a2 hi => ?_)
          · rw [Tm_lo (Or.inl ha), ts_ne (by omega)]
          · rw [Tm_n, ts_eq]
          · rw [ts_eq] at hi; omega
        obtain ⟨M1, p1, p2, p3, p4⟩ := c_murL g (seed := x) hh hN (by omega) N 1000 0 _ o0 (by omega) (by omega)
        have f0 : Fr 14 85 M M1 := (Fr.rf.set (by decide) (by decide)).tr p3
        have k0 : Kp M M1 := (Kp.rf.set (by omega)).tr p4
        obtain ⟨M2, q1, q2, q3, q4⟩ := m_murL g (seed := x) (om.frc f0 (by decide)) hh hN (by omega) N 1000 0 M1 (fun _ _ _ => rfl) (fun i hi => by omega) (by omega) (by omega)
        refine ⟨nI (wct (Tm T x h N) bt0 N), M1, M2, ?_, ?_, Inv.to (T := T) hI hS hT hF (k0.tr q4) (fun a k hc => Tm_lo (chg_lo hc)) ⟨p2.low q3, q2, Tm_good g hh hN (by omega)⟩⟩
        · unfold f_Hal_murmur
          rw [ewi, e_bnd, if_neg (by decide), b1, e_bnd, if_neg (by decide), o.s5, if_pos (by rw [l0, nI_ltI (by omega) (by omega)]; omega), e_set]
          exact p1
        · unfold f_Mod_murmur
          rw [ein, e_bnd, if_neg (by decide), b2, e_bnd, if_neg (by decide), (om.frc f0 (by decide)).s5, if_neg (by rw [l0, nI_eq (by omega) (by omega)]; omega)]
          exact q1
    · refine ⟨-1, M, M, ?_, ?_, ⟨T, hA, hI, hS, hT, hF⟩⟩
      · unfold f_Hal_murmur
        rw [ewi, e_bnd, if_neg (by decide), b1, e_bnd, if_pos (by rfl)]
      · unfold f_Mod_murmur
        rw [ein, e_bnd, if_neg (by decide), b2, e_bnd, if_pos (by rfl)]
  · rw [if_neg hy] at ein ewi
    refine ⟨-1, M, M, ?_, ?_, ⟨T, hA, hI, hS, hT, hF⟩⟩
    · unfold f_Hal_murmur
      rw [ewi, e_bnd, if_pos (by rfl)]
    · unfold f_Mod_murmur
      rw [ein, e_bnd, if_pos (by rfl)]
/-! from -/
def frP (T : Tn) (h : Nat) (w : Int32) : Nat → Bool := fun b => decide (hrs T b h = w)
theorem c_fromL {T : Tn} (g : Good T) {h : Nat} {w : Int32} (hh : h < 12) : ∀ (m n k : Nat) (M : Mem), On T M → k + m = T 4 0 → m < n → ∃ M', f_Hal_from_L31 n w (nI h) (orN (frP T h w) k) (nI k) M = some (orN (frP T h w) (T 4 0), M') ∧ Fr 73 76 M M' := by
  have h9 := g.n
  intro m
  induction m with
  | zero =>
    intro n k M o hk hn
    obtain ⟨n, rfl⟩ : ∃ z, n = z + 1 := ⟨n - 1, by omega⟩
    have e : k = T 4 0 := by omega
    subst e
    exact ⟨M, by rw [f_Hal_from_L31, o.nb, if_pos (by rw [nI_leI (by omega) (by omega)]; omega)], Fr.rf⟩
  | succ m ih =>
    intro n k M o hk hn
    obtain ⟨n, rfl⟩ : ∃ z, n = z + 1 := ⟨n - 1, by omega⟩
    obtain ⟨M1, p1, p2⟩ := c_hearers (gg := 72) (h := h) o g (show k < T 4 0 by omega) hh (by decide)
    obtain ⟨M', r1, r2⟩ := ih n (k + 1) M1 (o.fr p2 (by decide)) (by omega) (by omega)
    rw [orN_s] at r1
    refine ⟨M', ?_, p2.tr r2⟩
    rw [f_Hal_from_L31, o.nb, if_neg (by rw [nI_leI (by omega) (by omega)]; omega), p1, e_bnd2, nI_1, e_nmI]
    by_cases q : hrs T k h = w
    · rw [if_pos q]
      rw [if_pos (show frP T h w k = true from decide_eq_true q)] at r1
      exact r1
    · rw [if_neg q]
      rw [if_neg (show ¬ frP T h w k = true from fun e => q (of_decide_eq_true e))] at r1
      exact r1
theorem m_fromL {T : Tn} (g : Good T) {h : Nat} {w : Int32} (hh : h < 12) : ∀ (m n k : Nat) (M : Mem), OnM T M → k + m = T 4 0 → m < n → ∃ M', f_Mod_from_L22 n w (nI h) (orN (frP T h w) k) (nI k) M = some (orN (frP T h w) (T 4 0), M') ∧ Frp M M' := by
  have h9 := g.n
  intro m
  induction m with
  | zero =>
    intro n k M o hk hn
    obtain ⟨n, rfl⟩ : ∃ z, n = z + 1 := ⟨n - 1, by omega⟩
    have e : k = T 4 0 := by omega
    subst e
    exact ⟨M, by rw [f_Mod_from_L22, o.nb, if_pos (by rw [nI_leI (by omega) (by omega)]; omega)], Frp.rf⟩
  | succ m ih =>
    intro n k M o hk hn
    obtain ⟨n, rfl⟩ : ∃ z, n = z + 1 := ⟨n - 1, by omega⟩
    obtain ⟨M1, p1, p2⟩ := m_heardOf (h := h) o g (show k < T 4 0 by omega) hh
    obtain ⟨M', r1, r2⟩ := ih n (k + 1) M1 (o.fr p2.m) (by omega) (by omega)
    rw [orN_s] at r1
    refine ⟨M', ?_, p2.tr r2⟩
    rw [f_Mod_from_L22, o.nb, if_neg (by rw [nI_leI (by omega) (by omega)]; omega), p1, e_bnd2]
    by_cases q : hrs T k h = w
    · rw [if_pos q, f_Mod_from_J48, f_Mod_flag, if_neg (by decide), e_bnd, e_nmI, nI_1]
      rw [if_pos (show frP T h w k = true from decide_eq_true q)] at r1
      exact r1
    · rw [if_neg q, f_Mod_from_J48, f_Mod_flag, if_pos rfl, e_bnd, e_nmI, nI_1, jshl_0 k (by omega), b_or0]
      rw [if_neg (show ¬ frP T h w k = true from fun e => q (of_decide_eq_true e))] at r1
      exact r1
theorem m_areB {T : Tn} {M : Mem} (o : OnM T M) (x : Int32) {v : Int32} (hv : v = nI 0 ∨ v = nI 1) (h : f_Mod_in x.toInt64 0 ((jshl 1 (nI (T 4 0)) - 1).toInt64) = some v) : f_Mod_areBenches M x = some v := by
  unfold f_Mod_areBenches
  rw [o.nb, h, e_bnd, hb_ck hv]
theorem s_from (x y : Int32) : Sim (f_Hal_from x y) (f_Mod_from x y) := by
  intro M ⟨T, hA, hI, hS, hT, hF⟩
  obtain ⟨o, om, g⟩ := id hA
  have h8 := g.n
  rcases a_bits (n := T 4 0) x with ⟨d1, d2⟩ | ⟨d1, d2⟩
  · rcases a_hour y with ⟨h, hh, rfl, b1, b2⟩ | ⟨b1, b2⟩
    · obtain ⟨M1, p1, p2⟩ := c_fromL g (w := x) hh (T 4 0) 1000 0 M o (by omega) (by omega)
      have hA1 := hA.frc p2 (by decide) (by decide)
      obtain ⟨M2, q1, q2⟩ := m_fromL g (w := x) hh (T 4 0) 1000 0 M1 hA1.2.1 (by omega) (by omega)
      refine ⟨orN (frP T h x) (T 4 0), M1, M2, ?_, ?_, Inv.to hI hS hT hF ((p2.kp (by decide) (by decide)).tr q2.m.kp) (fun _ _ _ => rfl) (hA1.frm q2.m)⟩
      · unfold f_Hal_from
        rw [o.nb, d1, e_bnd, if_neg (by decide), b1, e_bnd, if_neg (by decide)]
        exact p1
      · unfold f_Mod_from
        rw [m_areB hA1.2.1 x (Or.inr rfl) d2, e_bnd, if_neg (by decide), b2, e_bnd, if_neg (by decide)]
        exact q1
    · refine ⟨-1, M, M, ?_, ?_, ⟨T, hA, hI, hS, hT, hF⟩⟩
      · unfold f_Hal_from
        rw [o.nb, d1, e_bnd, if_neg (by decide), b1, e_bnd, if_pos (by rfl)]
      · unfold f_Mod_from
        rw [m_areB om x (Or.inr rfl) d2, e_bnd, if_neg (by decide), b2, e_bnd, if_pos (by rfl)]
  · refine ⟨-1, M, M, ?_, ?_, ⟨T, hA, hI, hS, hT, hF⟩⟩
    · unfold f_Hal_from
      rw [o.nb, d1, e_bnd, if_pos (by rfl)]
    · unfold f_Mod_from
      rw [m_areB om x (Or.inl rfl) d2, e_bnd, if_pos (by rfl)]
