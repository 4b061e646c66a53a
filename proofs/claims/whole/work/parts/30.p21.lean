/-! pure: feed, end -/
theorem byte_of (y : Int64) : ∃ b, b < 256 ∧ (y &&& 255).toInt32 = nI b ∧ y.toInt32.toInt8.toInt32.toInt8.toInt32 = (nI b).toInt8.toInt32 := by
  refine ⟨y.toBitVec.toNat % 256, Nat.mod_lt _ (by decide), ?_, ?_⟩
  · apply Int32.toBitVec_inj.1
    apply BitVec.eq_of_toNat_eq
    rw [Int64.toBitVec_toInt32, BitVec.signExtend_eq_setWidth_of_le _ (by decide), BitVec.toNat_setWidth, Int64.toBitVec_and, BitVec.toNat_and]
    show _ = (BitVec.ofNat 32 _).toNat
    rw [BitVec.toNat_ofNat]
    have e : (255 : Int64).toBitVec.toNat = 2 ^ 8 - 1 := by decide
    rw [e, Nat.and_two_pow_sub_one_eq_mod]
  · rw [Int8.toInt8_toInt32]
    refine congrArg Int8.toInt32 ?_
    apply Int8.toBitVec_inj.1
    apply BitVec.eq_of_toNat_eq
    rw [Int32.toBitVec_toInt8, Int32.toBitVec_toInt8, Int64.toBitVec_toInt32, BitVec.signExtend_eq_setWidth_of_le _ (by decide), BitVec.signExtend_eq_setWidth_of_le _ (by decide), BitVec.signExtend_eq_setWidth_of_le _ (by decide), BitVec.toNat_setWidth, BitVec.toNat_setWidth, BitVec.toNat_setWidth]
    show _ = (BitVec.ofNat 32 _).toNat % 2 ^ 8
    rw [BitVec.toNat_ofNat]
    omega
/-- what feeding and ending may change -/
def Ft (M M' : Mem) : Prop := (∀ a, a ≠ 70 → a ≠ 71 → a ≠ 103 → a ≠ 112 → M' a = M a) ∧ (∀ k, k ≠ 22 → M' 103 k = M 103 k) ∧ M' 70 4 = M 70 4
theorem Ft.rf {M : Mem} : Ft M M := ⟨fun _ _ _ _ _ => rfl, fun _ _ => rfl, rfl⟩
theorem Ft.tr {M M' M2 : Mem} (h : Ft M M') (g : Ft M' M2) : Ft M M2 := ⟨fun a q r s t => (g.1 a q r s t).trans (h.1 a q r s t), fun k q => (g.2.1 k q).trans (h.2.1 k q), g.2.2.trans h.2.2⟩
theorem Ft.s70 {M M' : Mem} {k : Nat} {x : Int32} (h : Ft M M') (hk : k ≠ 4) : Ft M (upd2 M' 70 k x) := ⟨fun a q r s t => by rw [u_ne q]; exact h.1 a q r s t, fun j q => by rw [u_ne (by decide)]; exact h.2.1 j q, by rw [u_nk (fun e => hk e.symm)]; exact h.2.2⟩
theorem Ft.s71 {M M' : Mem} {k : Nat} {x : Int32} (h : Ft M M') : Ft M (upd2 M' 71 k x) := ⟨fun a q r s t => by rw [u_ne r]; exact h.1 a q r s t, fun j q => by rw [u_ne (by decide)]; exact h.2.1 j q, by rw [u_ne (by decide)]; exact h.2.2⟩
theorem Ft.s103 {M M' : Mem} {x : Int32} (h : Ft M M') : Ft M (upd2 M' 103 22 x) := ⟨fun a q r s t => by rw [u_ne s]; exact h.1 a q r s t, fun j q => by rw [u_nk q]; exact h.2.1 j q, by rw [u_ne (by decide)]; exact h.2.2⟩
theorem Ft.s112 {M M' : Mem} {k : Nat} {x : Int32} (h : Ft M M') : Ft M (upd2 M' 112 k x) := ⟨fun a q r s t => by rw [u_ne t]; exact h.1 a q r s t, fun j q => by rw [u_ne (by decide)]; exact h.2.1 j q, by rw [u_ne (by decide)]; exact h.2.2⟩
theorem inv_tape {T : Tn} {M M' : Mem} (hA : InvA T M) (hI : InvI T M) (hS : InvS M) (hF : InvF M) (f : Ft M M') (hT : InvT M') : Inv M' := by
  obtain ⟨f1, f2, f3⟩ := f
  have e : ∀ a, a ≠ 70 → a ≠ 71 → a ≠ 103 → a ≠ 112 → M' a = M a := f1
  have o : On T M' := by
    have h := hA.1
    unfold On
    rw [e 1 (by decide) (by decide) (by decide) (by decide), e 2 (by decide) (by decide) (by decide) (by decide), e 3 (by decide) (by decide) (by decide) (by decide), e 4 (by decide) (by decide) (by decide) (by decide), e 10 (by decide) (by decide) (by decide) (by decide), e 14 (by decide) (by decide) (by decide) (by decide)]
    refine ⟨h.1, h.2.1, h.2.2.1, h.2.2.2.1, fun a h1 h2 => ?_, h.2.2.2.2.2.1, fun a h1 h2 => ?_, h.2.2.2.2.2.2.2.1, fun a h1 h2 => ?_⟩
    · rw [e a (by omega) (by omega) (by omega) (by omega)]; exact h.2.2.2.2.1 a h1 h2
    · rw [e a (by omega) (by omega) (by omega) (by omega)]; exact h.2.2.2.2.2.2.1 a h1 h2
    · rw [e a (by omega) (by omega) (by omega) (by omega)]; exact h.2.2.2.2.2.2.2.2 a h1 h2
  have om : OnM T M' := by
    have := hA.2.1
    unfold OnM at this ⊢
    rw [f2 2 (by decide), f2 3 (by decide), f2 4 (by decide), f2 5 (by decide), f2 6 (by decide), f2 7 (by decide), f2 8 (by decide), e 104 (by decide) (by decide) (by decide) (by decide), e 106 (by decide) (by decide) (by decide) (by decide), e 107 (by decide) (by decide) (by decide) (by decide)]
    exact this
  refine ⟨T, ⟨o, om, hA.2.2⟩, ?_, ?_, hT, ?_⟩
  · obtain ⟨k0, k1, i1, i2, i3, i4, i5, i6, i7⟩ := hI
    refine ⟨k0, k1, i1, i2, ?_, ?_, ?_, fun q => ?_, fun q => ?_⟩
    · rw [e 0 (by decide) (by decide) (by decide) (by decide)]; exact i3
    · rw [e 105 (by decide) (by decide) (by decide) (by decide)]; exact i4
    · rw [e 105 (by decide) (by decide) (by decide) (by decide)]; exact i5
    · obtain ⟨I, h⟩ := i6 q
      exact ⟨I, h.mv (fun a ha => e a (by omega) (by omega) (by omega) (by omega)) (fun j _ => by rw [e 104 (by decide) (by decide) (by decide) (by decide)])⟩
    · obtain ⟨I, h⟩ := i7 q
      exact ⟨I, h.mv (fun a ha => e a (by omega) (by omega) (by omega) (by omega)) (fun j _ => by rw [e 104 (by decide) (by decide) (by decide) (by decide)])⟩
  · exact hS.mv (fun a h1 h2 => e a (by omega) (by omega) (by omega) (by omega)) (fun a h1 h2 => e a (by omega) (by omega) (by omega) (by omega)) (by rw [e 0 (by decide) (by decide) (by decide) (by decide)]) (f2 43 (by decide))
  · exact hF.mv f3 (f2 27 (by decide))
def byC (x : Int64) (j : Nat) : Int32 := (jlshr x (nI (56 - 8 * j))).toInt32.toInt8.toInt32.toInt8.toInt32
def byM (x : Int64) (j : Nat) : Int32 := ((jlshr x (nI (56 - 8 * j))) &&& 255).toInt32
theorem sub_nI {a b : Nat} (h : b ≤ a) (ha : a < 2147483648) : nI a - nI b = nI (a - b) := by
  rw [J_nI, J_nI, J_nI, J_sub]
  congr 1
  omega
theorem c_feedL (x : Int64) {L : Nat} (hL : L ≤ 312) : ∀ (m n j : Nat) (M : Mem), j + m = 8 → m < n → M 70 0 = nI L → ∃ M', f_Tap_append_L22 n x (nI j) M = some (nI (L + 8), M') ∧ Ft M M' ∧ M' 112 = M 112 ∧ M' 103 = M 103 ∧ M' 70 0 = nI (L + 8) ∧ (∀ k, k < L + j → M' 71 k = M 71 k) ∧ ∀ i, j ≤ i → i < 8 → M' 71 (L + i) = byC x i := by
  intro m
  induction m with
  | zero =>
    intro n j M hj hn h0
    obtain ⟨n, rfl⟩ : ∃ z, n = z + 1 := ⟨n - 1, by omega⟩
    have e : j = 8 := by omega
    subst e
    refine ⟨upd2 M 70 0 (nI (L + 8)), ?_, Ft.rf.s70 (by decide), u_ne (by decide), u_ne (by decide), u_eq, fun k _ => by rw [u_ne (by decide)], fun i a b => by omega⟩
    rw [f_Tap_append_L22, if_pos (by decide), h0, l8, nI_add, e_set, u_eq]
  | succ m ih =>
    intro n j M hj hn h0
    obtain ⟨n, rfl⟩ : ∃ z, n = z + 1 := ⟨n - 1, by omega⟩
    obtain ⟨M', r1, r2, r3, r4, r5, r6, r7⟩ := ih n (j + 1) (upd2 M 71 (L + j) (byC x j)) (by omega) (by omega) (by rw [u_ne (by decide)]; exact h0)
    refine ⟨M', ?_, Ft.rf.s71.tr r2, r3.trans (u_ne (by decide)), r4.trans (u_ne (by decide)), r5, fun k hk => by rw [r6 k (by omega), u_nk (by omega)], fun i a b => ?_⟩
    · rw [f_Tap_append_L22, if_neg (by rw [l8, nI_leI (by omega) (by omega)]; omega), h0, nI_add, e_ckn (by omega) (by decide), e_set, show ix (nI (L + j)) = L + j from e_ix (by omega), l8, pk_mul, l56, sub_nI (by omega) (by omega), nI_1]
      exact r1
    · by_cases e : i = j
      · subst e
        rw [r6 (L + i) (by omega), u_eq]
      · exact r7 i (by omega) b
theorem m_feedL (x : Int64) {L : Nat} (hL : L ≤ 312) : ∀ (m n j : Nat) (M : Mem), j + m = 8 → m < n → M 103 22 = nI (L + j) → ∃ M', f_Mod_feed_L19 n x (J (56 - 8 * (j : Int))) M = some (nI (L + 8), M') ∧ Ft M M' ∧ M' 70 = M 70 ∧ M' 71 = M 71 ∧ M' 103 22 = nI (L + 8) ∧ (∀ k, k < L + j → M' 112 k = M 112 k) ∧ ∀ i, j ≤ i → i < 8 → M' 112 (L + i) = byM x i := by
  intro m
  induction m with
  | zero =>
    intro n j M hj hn h0
    obtain ⟨n, rfl⟩ : ∃ z, n = z + 1 := ⟨n - 1, by omega⟩
    have e : j = 8 := by omega
    subst e
    refine ⟨M, ?_, Ft.rf, rfl, rfl, h0, fun k _ => rfl, fun i a b => by omega⟩
    rw [f_Mod_feed_L19, if_pos (by decide), h0]
  | succ m ih =>
    intro n j M hj hn h0
    obtain ⟨n, rfl⟩ : ∃ z, n = z + 1 := ⟨n - 1, by omega⟩
    obtain ⟨M', r1, r2, r3, r4, r5, r6, r7⟩ := ih n (j + 1) (upd2 (upd2 M 112 (L + j) (byM x j)) 103 22 (nI (L + j + 1))) (by omega) (by omega) u_eq
    have e8 : J (56 - 8 * (j : Int)) = nI (56 - 8 * j) := by
      rw [J_nI]
      congr 1
      omega
    have e9 : nI (56 - 8 * j) + (-8) = J (56 - 8 * ((j + 1 : Nat) : Int)) := by
      rw [J_nI, show (-8 : Int32) = J (-8) from rfl, J_add]
      congr 1
      omega
    refine ⟨M', ?_, (Ft.rf.s112.s103).tr r2, r3.trans (by rw [u_ne (by decide), u_ne (by decide)]), r4.trans (by rw [u_ne (by decide), u_ne (by decide)]), r5, fun k hk => by rw [r6 k (by omega), u_ne (by decide), u_nk (by omega)], fun i a b => ?_⟩
    · rw [f_Mod_feed_L19, e8, if_neg (by rw [l0, nI_ltI (by omega) (by omega)]; omega), h0, e_ckn (by omega) (by decide), e_set, show ix (nI (L + j)) = L + j from e_ix (by omega), u_ne (show (103 : Nat) ≠ 112 by decide), h0, nI_1, e_set, e9]
      exact r1
    · by_cases e : i = j
      · subst e
        rw [r6 (L + i) (by omega), u_ne (by decide), u_eq]
      · exact r7 i (by omega) b
theorem s_feed (x : Int64) : Sim (f_Hal_feed x) (f_Mod_feed x) := by
  intro M ⟨T, hA, hI, hS, hT, hF⟩
  obtain ⟨L, hL, t1, t2, t3⟩ := id hT
  by_cases q : L ≤ 312
  · obtain ⟨M1, a1, a2, a3, a4, a5, a6, a7⟩ := c_feedL x q 8 1000 0 M rfl (by decide) t1
    obtain ⟨M2, b1, b2, b3, b4, b5, b6, b7⟩ := m_feedL x q 8 1000 0 M1 rfl (by decide) (by rw [a4]; exact t2)
    refine ⟨nI (L + 8), M1, M2, ?_, ?_, inv_tape hA hI hS hF (a2.tr b2) ⟨L + 8, by omega, by rw [b3]; exact a5, b5, fun j hj => ?_⟩⟩
    · unfold f_Hal_feed f_Tap_append
      rw [t1, if_neg (by rw [l0, nI_ltI (by omega) (by omega)]; omega), if_pos (by rw [l312, nI_leI (by omega) (by omega)]; exact q), show (0 : Int32) = nI 0 from rfl, a1, e_bnd2]
    · unfold f_Mod_feed
      rw [a4, t2, l8, nI_add, if_pos (by rw [l320, nI_leI (by omega) (by omega)]; omega)]
      exact b1
    · rw [b4]
      by_cases r : j < L
      · obtain ⟨b, c1, c2, c3⟩ := t3 j r
        exact ⟨b, c1, by rw [b6 j (by omega), a3]; exact c2, by rw [a6 j (by omega)]; exact c3⟩
      · obtain ⟨i, rfl⟩ : ∃ i, j = L + i := ⟨j - L, by omega⟩
        obtain ⟨b, c1, c2, c3⟩ := byte_of (jlshr x (nI (56 - 8 * i)))
        exact ⟨b, c1, by rw [b7 i (by omega) (by omega)]; exact c2, by rw [a7 i (by omega) (by omega)]; exact c3⟩
  · refine ⟨-3, M, M, ?_, ?_, ⟨T, hA, hI, hS, hT, hF⟩⟩
    · unfold f_Hal_feed f_Tap_append
      rw [t1, if_neg (by rw [l0, nI_ltI (by omega) (by omega)]; omega), if_neg (by rw [l312, nI_leI (by omega) (by omega)]; exact q), e_bnd2]
    · unfold f_Mod_feed
      rw [t2, l8, nI_add, if_neg (by rw [l320, nI_leI (by omega) (by omega)]; omega)]
theorem s_end (x : Int32) : Sim (f_Hal_end x) (f_Mod_end x) := by
  intro M ⟨T, hA, hI, hS, hT, hF⟩
  obtain ⟨L, hL, t1, t2, t3⟩ := id hT
  rcases wi x (m := L) (by omega) with ⟨k, hk, rfl, h1, h2⟩ | ⟨h1, h2, -⟩
  · refine ⟨nI L, upd2 M 70 0 (nI k), upd2 (upd2 M 70 0 (nI k)) 103 22 (nI k), ?_, ?_, inv_tape hA hI hS hF ((Ft.rf.s70 (by decide)).s103) ⟨k, by omega, ?_, u_eq, fun j hj => ?_⟩⟩
    · unfold f_Hal_end
      rw [t1, show (0 : Int32) = nI 0 from rfl, h1, e_bnd, if_neg (by decide), e_nmI, e_set]
    · unfold f_Mod_end
      rw [u_ne (show (103 : Nat) ≠ 70 by decide), t2, h2, e_bnd, if_neg (by decide), e_nmI, e_set]
    · rw [u_ne (by decide), u_eq]
    · obtain ⟨b, c1, c2, c3⟩ := t3 j (by omega)
      exact ⟨b, c1, by rw [u_ne (by decide), u_ne (by decide)]; exact c2, by rw [u_ne (by decide), u_ne (by decide)]; exact c3⟩
  · refine ⟨-1, M, M, ?_, ?_, ⟨T, hA, hI, hS, hT, hF⟩⟩
    · unfold f_Hal_end
      rw [t1, show (0 : Int32) = nI 0 from rfl, h1, e_bnd, if_pos (by rfl)]
    · unfold f_Mod_end
      rw [t2, h2, e_bnd, if_pos (by rfl)]
