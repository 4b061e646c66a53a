/-! pure: the reference's next word -/
def F103 (M M' : Mem) : Prop := (∀ a, a ≠ 103 → M' a = M a) ∧ ∀ k, k < 23 ∨ 28 < k → M' 103 k = M 103 k
theorem F103.rf {M : Mem} : F103 M M := ⟨fun _ _ => rfl, fun _ _ => rfl⟩
theorem F103.tr {M M' M2 : Mem} (h : F103 M M') (g : F103 M' M2) : F103 M M2 := ⟨fun a q => (g.1 a q).trans (h.1 a q), fun k q => (g.2 k q).trans (h.2 k q)⟩
theorem F103.s {M M' : Mem} {k : Nat} {x : Int32} (h : F103 M M') (h1 : 23 ≤ k) (h2 : k ≤ 28) : F103 M (upd2 M' 103 k x) := ⟨fun a q => by rw [u_ne q]; exact h.1 a q, fun j q => by rw [u_nk (by omega)]; exact h.2 j q⟩
theorem Tpm.f {b : Nat → Nat} {L : Nat} {M M' : Mem} (h : Tpm b L M) (f : F103 M M') : Tpm b L M' := ⟨(f.2 22 (by decide)).trans h.1, fun j hj => by rw [f.1 112 (by decide)]; exact h.2 j hj⟩
section NM
variable {b : Nat → Nat} {L : Nat}
def lkv (b : Nat → Nat) (L p : Nat) : Int32 := if p < L then nI (b p) else -1
theorem m_look {M : Mem} (hL : L ≤ 320) (t : Tpm b L M) {p : Nat} (hp : p ≤ 1000) : f_Mod_look M (nI p) = some (lkv b L p) := by
  unfold f_Mod_look lkv
  rw [t.1]
  by_cases q : p < L
  · rw [if_neg (by rw [nI_leI (by omega) (by omega)]; omega), e_ckn (by omega) (by decide), show ix (nI p) = p from e_ix (by omega), t.2 p q, if_pos q]
  · rw [if_pos (by rw [nI_leI (by omega) (by omega)]; omega), if_neg q]
theorem lk_32 (hb : ∀ j, j < L → b j < 256) {p : Nat} : (lkv b L p = 32) ↔ isSp b L p = true := by
  unfold lkv isSp
  by_cases q : p < L
  · have := hb p q
    rw [if_pos q, decide_eq_true q, l32, nI_eq (by omega) (by omega)]
    simp
  · rw [if_neg q, decide_eq_false q]
    simp
theorem lk_in1 (hb : ∀ j, j < L → b j < 256) {p : Nat} : f_Mod_in (lkv b L p).toInt64 97 122 = some (if isK b L 1 p = true then nI 1 else nI 0) := by
  have e := m_in0 (lkv b L p) (a := 97) (b := 122) (lo := nI 97) (hi := nI 122) rfl rfl
  rw [e]
  congr 1
  unfold lkv isK
  by_cases q : p < L
  · have := hb p q
    have ei : (nI 97 ≤ nI (b p) ∧ nI (b p) ≤ nI 122) ↔ (97 ≤ b p ∧ b p ≤ 122) := by rw [nI_leI (by omega) (by omega), nI_leI (by omega) (by omega)]
    rw [if_pos q, decide_eq_true q]
    by_cases r : 97 ≤ b p ∧ b p ≤ 122
    · have : clsN (b p) = 1 := if_pos r
      rw [if_pos (ei.mpr r), if_pos (by rw [decide_eq_true this]; rfl)]
    · have : ¬ clsN (b p) = 1 := by
        unfold clsN
        rw [if_neg r]
        split
        · decide
        · split <;> decide
      rw [if_neg (fun e => r (ei.mp e)), if_neg (by rw [decide_eq_false this]; decide)]
  · rw [if_neg q, decide_eq_false q, if_neg (by decide), if_neg (by simp)]
theorem lk_in2 (hb : ∀ j, j < L → b j < 256) {p : Nat} : f_Mod_in (lkv b L p).toInt64 48 57 = some (if isK b L 2 p = true then nI 1 else nI 0) := by
  have e := m_in0 (lkv b L p) (a := 48) (b := 57) (lo := nI 48) (hi := nI 57) rfl rfl
  rw [e]
  congr 1
  unfold lkv isK
  by_cases q : p < L
  · have := hb p q
    have ei : (nI 48 ≤ nI (b p) ∧ nI (b p) ≤ nI 57) ↔ (48 ≤ b p ∧ b p ≤ 57) := by rw [nI_leI (by omega) (by omega), nI_leI (by omega) (by omega)]
    rw [if_pos q, decide_eq_true q]
    by_cases r : 48 ≤ b p ∧ b p ≤ 57
    · have : clsN (b p) = 2 := by
        unfold clsN
        rw [if_neg (by omega), if_pos r]
      rw [if_pos (ei.mpr r), if_pos (by rw [decide_eq_true this]; rfl)]
    · have : ¬ clsN (b p) = 2 := by
        unfold clsN
        rw [if_neg r]
        split
        · decide
        · split <;> decide
      rw [if_neg (fun e => r (ei.mp e)), if_neg (by rw [decide_eq_false this]; decide)]
  · rw [if_neg q, decide_eq_false q, if_neg (by decide), if_neg (by simp)]
theorem isK_ge {c p : Nat} (h : ¬ p < L) : ¬ isK b L c p = true := fun e => h (isK_lt e)
theorem m_letL (hL : L ≤ 320) (hb : ∀ j, j < L → b j < 256) : ∀ (m n p : Nat) (M : Mem), L - p ≤ m → m < n → p ≤ L → Tpm b L M → M 103 23 = nI p → f_Mod_next_L82 n M = some (upd2 M 103 23 (nI (sk (isK b L 1) m p))) := by
  intro m
  induction m with
  | zero =>
    intro n p M hm hn hp t h
    obtain ⟨n, rfl⟩ : ∃ z, n = z + 1 := ⟨n - 1, by omega⟩
    rw [f_Mod_next_L82, h, m_look hL t (by omega), e_bnd, lk_in1 hb, e_bnd, if_neg (isK_ge (by omega)), if_pos (by rfl)]
    show _ = some (upd2 M 103 23 (nI p))
    rw [u_self h]
  | succ m ih =>
    intro n p M hm hn hp t h
    obtain ⟨n, rfl⟩ : ∃ z, n = z + 1 := ⟨n - 1, by omega⟩
    rw [f_Mod_next_L82, h, m_look hL t (by omega), e_bnd, lk_in1 hb, e_bnd, sk_s]
    by_cases q : isK b L 1 p = true
    · have ql := isK_lt q
      rw [if_pos q, if_neg (by decide), if_pos q, nI_1, e_set, ih n (p + 1) (upd2 M 103 23 (nI (p + 1))) (by omega) (by omega) (by omega) (t.f (F103.rf.s (by decide) (by decide))) u_eq, u_u]
    · rw [if_neg q, if_pos (by rfl), if_neg q, u_self h]
theorem m_digL (hL : L ≤ 320) (hb : ∀ j, j < L → b j < 256) {p0 : Nat} : ∀ (m n p : Nat) (M : Mem), L - p ≤ m → m < n → p0 ≤ p → p ≤ L → Tpm b L M → M 103 23 = nI p → M 103 24 = nI p0 → M 103 26 = nI (dvN b p0 (min (p - p0) 3)) → ∃ M', f_Mod_next_L140 n M = f_Mod_next_J236 (if 3 < sk (isK b L 2) m p - p0 then 0 else 1) M' ∧ F103 M M' ∧ M' 103 23 = nI (sk (isK b L 2) m p) ∧ M' 103 24 = nI p0 ∧ M' 103 25 = M 103 25 ∧ M' 103 26 = nI (dvN b p0 (min (sk (isK b L 2) m p - p0) 3)) ∧ M' 103 27 = M 103 27 := by
  have out : ∀ (n p : Nat) (M : Mem), p0 ≤ p → p ≤ L → Tpm b L M → M 103 23 = nI p → M 103 24 = nI p0 → ¬ isK b L 2 p = true → f_Mod_next_L140 (n + 1) M = f_Mod_next_J236 (if 3 < p - p0 then 0 else 1) M := fun n p M hp0 hp t h h24 q => by
    rw [f_Mod_next_L140, h, m_look hL t (by omega), e_bnd, lk_in2 hb, e_bnd, if_neg q, if_pos (by rfl), h24, sub_nJ hp0]
    by_cases r : 3 < p - p0
    · rw [if_pos (by rw [l3, nI_ltI (by omega) (by omega)]; exact r), if_pos r]
    · rw [if_neg (by rw [l3, nI_ltI (by omega) (by omega)]; exact r), if_neg r]
  intro m
  induction m with
  | zero =>
    intro n p M hm hn hp0 hp t h h24 h26
    obtain ⟨n, rfl⟩ : ∃ z, n = z + 1 := ⟨n - 1, by omega⟩
    exact ⟨M, out n p M hp0 hp t h h24 (isK_ge (by omega)), F103.rf, h, h24, rfl, h26, rfl⟩
  | succ m ih =>
    intro n p M hm hn hp0 hp t h h24 h26
    obtain ⟨n, rfl⟩ : ∃ z, n = z + 1 := ⟨n - 1, by omega⟩
    by_cases q : isK b L 2 p = true
    · have ql := isK_lt q
      have hbp := hb p ql
      have hc : clsN (b p) = 2 := by
        unfold isK at q
        rw [Bool.and_eq_true] at q
        exact of_decide_eq_true q.2
      have hd := dig_le hc
      obtain ⟨M', r1, r2, r3, r4, r5, r6, r7⟩ := ih n (p + 1) (upd2 (upd2 M 103 26 (nI (dvN b p0 (min (p + 1 - p0) 3)))) 103 23 (nI (p + 1))) (by omega) (by omega) (by omega) (by omega) (t.f ((F103.rf.s (by decide) (by decide)).s (by decide) (by decide))) u_eq (by rw [u_nk (by decide), u_nk (by decide)]; exact h24) (by rw [u_nk (by decide), u_eq])
      refine ⟨M', ?_, ((F103.rf.s (by decide) (by decide)).s (by decide) (by decide)).tr r2, by rw [sk_s, if_pos q]; exact r3, r4, by rw [r5, u_nk (by decide), u_nk (by decide)], by rw [sk_s, if_pos q]; exact r6, by rw [r7, u_nk (by decide), u_nk (by decide)]⟩
      rw [sk_s, if_pos q, f_Mod_next_L140, h, m_look hL t (by omega), e_bnd, lk_in2 hb, e_bnd, if_pos q, if_neg (by decide), h24, sub_nJ hp0]
      by_cases r : 3 ≤ p - p0
      · rw [if_pos (by rw [l3, nI_leI (by omega) (by omega)]; exact r), f_Mod_next_J201, e_set, u_nk (show (23 : Nat) ≠ 26 by decide), h, nI_1, e_set, h26, show min (p - p0) 3 = min (p + 1 - p0) 3 by omega]
        exact r1
      · have ed : dvN b p0 (min (p + 1 - p0) 3) = 10 * dvN b p0 (min (p - p0) 3) + (b p - 48) := by
          rw [show min (p + 1 - p0) 3 = (p - p0) + 1 by omega, show min (p - p0) 3 = p - p0 by omega]
          show 10 * dvN b p0 (p - p0) + (b (p0 + (p - p0)) - 48) = _
          rw [show p0 + (p - p0) = p by omega]
        rw [if_neg (by rw [l3, nI_leI (by omega) (by omega)]; exact r), e_bnd, h26, lkv, if_pos ql, l10, pk_mul, nI_add, l48, sub_nJ (by omega), show 10 * dvN b p0 (min (p - p0) 3) + b p - 48 = dvN b p0 (min (p + 1 - p0) 3) by rw [ed]; omega, f_Mod_next_J201, e_set, u_nk (show (23 : Nat) ≠ 26 by decide), h, nI_1, e_set]
        exact r1
    · refine ⟨M, ?_, F103.rf, ?_, h24, rfl, ?_, rfl⟩
      · rw [sk_s, if_neg q]
        exact out n p M hp0 hp t h h24 q
      · rw [sk_s, if_neg q]; exact h
      · rw [sk_s, if_neg q]; exact h26
theorem m_skip (hL : L ≤ 320) (hb : ∀ j, j < L → b j < 256) : ∀ (m n p : Nat) (M : Mem), L - p ≤ m → m < n → p ≤ L → Tpm b L M → M 103 23 = nI p → (∃ k, f_Mod_next_L8 n M = f_Mod_next_L8 (k + 1) (upd2 M 103 23 (nI (sk (isSp b L) m p)))) ∧ ¬ isSp b L (sk (isSp b L) m p) = true := by
  intro m
  induction m with
  | zero =>
    intro n p M hm hn hp t h
    obtain ⟨n, rfl⟩ : ∃ z, n = z + 1 := ⟨n - 1, by omega⟩
    refine ⟨⟨n, ?_⟩, fun e => ?_⟩
    · show _ = f_Mod_next_L8 (n + 1) (upd2 M 103 23 (nI p))
      rw [u_self h]
    · have : p < L := isSp_lt e
      omega
  | succ m ih =>
    intro n p M hm hn hp t h
    obtain ⟨n, rfl⟩ : ∃ z, n = z + 1 := ⟨n - 1, by omega⟩
    by_cases q : isSp b L p = true
    · have ql := isSp_lt q
      obtain ⟨⟨k, r1⟩, r2⟩ := ih n (p + 1) (upd2 M 103 23 (nI (p + 1))) (by omega) (by omega) (by omega) (t.f (F103.rf.s (by decide) (by decide))) u_eq
      rw [sk_s, if_pos q]
      refine ⟨⟨k, ?_⟩, r2⟩
      rw [f_Mod_next_L8, h, m_look hL t (by omega), e_bnd, if_pos ((lk_32 hb).mpr q), nI_1, e_set, r1, u_u]
    · rw [sk_s, if_neg q]
      exact ⟨⟨n, by rw [u_self h]⟩, q⟩
theorem m_nextL (hL : L ≤ 320) (hb : ∀ j, j < L → b j < 256) {p : Nat} {M : Mem} (t : Tpm b L M) (hp : p ≤ L) (h4 : M 103 27 = 0) (h6 : M 103 23 = nI p) : ∃ M', f_Mod_next M = some M' ∧ Rm (nxp b L (sk (isSp b L) 320 p)) M' ∧ F103 M M' := by
  have hq := sk_le (P := isSp b L) (fun p => isSp_lt) 320 p hp
  obtain ⟨⟨k, r1⟩, r2⟩ := m_skip hL hb 320 1000 p M (by omega) (by decide) hp t h6
  unfold f_Mod_next
  rw [h4, if_pos (by decide), r1]
  generalize sk (isSp b L) 320 p = r at hq r2
  have f1 : F103 M (upd2 (upd2 M 103 23 (nI r)) 103 24 (nI r)) := (F103.rf.s (by decide) (by decide)).s (by decide) (by decide)
  have t0 := t.f (F103.rf.s (k := 23) (x := nI r) (by decide) (by decide))
  have t1 := t.f f1
  rw [f_Mod_next_L8, u_eq, m_look hL t0 (by omega), e_bnd, if_neg (fun e => r2 ((lk_32 hb).mp e)), e_set]
  have e23 : upd2 (upd2 M 103 23 (nI r)) 103 24 (nI r) 103 23 = nI r := by rw [u_nk (by decide), u_eq]
  have e24 : upd2 (upd2 M 103 23 (nI r)) 103 24 (nI r) 103 24 = nI r := u_eq
  have e27 : upd2 (upd2 M 103 23 (nI r)) 103 24 (nI r) 103 27 = 0 := by rw [u_nk (by decide), u_nk (by decide)]; exact h4
  generalize upd2 (upd2 M 103 23 (nI r)) 103 24 (nI r) = M1 at f1 t1 e23 e24 e27
  rw [e23, m_look hL t1 (by omega), e_bnd]
  unfold nxp
  by_cases q : L ≤ r
  · have elk : lkv b L r = -1 := if_neg (by omega)
    rw [if_pos q, elk, if_neg (by decide)]
    refine ⟨upd2 M1 103 25 0, rfl, Rm.lv ?_ u_eq ?_ (fun e => absurd e (by decide)) ?_, f1.s (by decide) (by decide)⟩
    · rw [u_nk (by decide)]; exact e27
    · rw [u_nk (by decide)]; exact e24
    · rw [u_nk (by decide)]; exact e23
  · have q' : r < L := by omega
    have hbr := hb r q'
    have hcl := cls_le (x := b r)
    have h0 : (0 : Int32) ≤ lkv b L r := by
      rw [lkv, if_pos q', l0, nI_leI (by omega) (by omega)]
      omega
    have k1 : (isK b L 1 r = true) ↔ clsN (b r) = 1 := by
      unfold isK
      rw [decide_eq_true q']
      simp
    have k2 : (isK b L 2 r = true) ↔ clsN (b r) = 2 := by
      unfold isK
      rw [decide_eq_true q']
      simp
    have e59 : (lkv b L r = 59) ↔ b r = 59 := by
      rw [lkv, if_pos q', l59, nI_eq (by omega) (by omega)]
    rw [if_pos h0, lk_in1 hb, e_bnd, lk_in2 hb, e_bnd, if_neg q]
    by_cases c1 : clsN (b r) = 1
    · rw [if_pos (k1.mpr c1), if_neg (show ¬ nI 1 = 0 by decide), e_set, m_letL hL hb 320 1000 r _ (by omega) (by decide) hq (t1.f (F103.rf.s (by decide) (by decide))) (by rw [u_nk (by decide)]; exact e23), if_neg (by omega), if_neg (by omega), if_pos c1]
      refine ⟨_, rfl, Rm.lv ?_ ?_ ?_ (fun e => absurd e (by decide)) u_eq, (f1.s (by decide) (by decide)).s (by decide) (by decide)⟩
      · rw [u_nk (by decide), u_nk (by decide)]; exact e27
      · rw [u_nk (by decide), u_eq]; rfl
      · rw [u_nk (by decide), u_nk (by decide)]; exact e24
    · rw [if_neg (fun e => c1 (k1.mp e)), if_pos (show nI 0 = 0 from rfl)]
      by_cases c2 : clsN (b r) = 2
      · have g1 := sk_ge (P := isK b L 2) 320 r
        have g2 := sk_le (P := isK b L 2) (fun p => isK_lt) 320 r hq
        rw [if_pos (k2.mpr c2), if_neg (show ¬ nI 1 = 0 by decide), e_set, e_set, if_neg (by omega), if_neg (by omega), if_neg c1]
        have f2 : F103 M1 (upd2 (upd2 M1 103 25 2) 103 26 0) := (F103.rf.s (by decide) (by decide)).s (by decide) (by decide)
        obtain ⟨M', a1, a2, a3, a4, a5, a6, a7⟩ := m_digL hL hb (p0 := r) 320 1000 r _ (by omega) (by decide) (Nat.le_refl _) hq (t1.f f2) (by rw [u_nk (by decide), u_nk (by decide)]; exact e23) (by rw [u_nk (by decide), u_nk (by decide)]; exact e24) (by rw [Nat.sub_self, u_eq]; rfl)
        have e27' : M' 103 27 = 0 := by rw [a7, u_nk (by decide), u_nk (by decide)]; exact e27
        have e25' : M' 103 25 = nI 2 := by rw [a5, u_nk (by decide), u_eq]; rfl
        rw [a1]
        by_cases u : sk (isK b L 2) 320 r - r ≤ 3
        · rw [if_neg (by omega), if_pos u]
          refine ⟨M', ?_, Rm.lv e27' e25' a4 (fun _ => by rw [a6, show min (sk (isK b L 2) 320 r - r) 3 = sk (isK b L 2) 320 r - r by omega]) a3, f1.tr (f2.tr a2)⟩
          unfold f_Mod_next_J236 f_Mod_needs
          rw [if_neg (by decide), e_bnd]
        · rw [if_pos (by omega), if_neg u]
          refine ⟨upd2 (upd2 M' 103 27 1) 103 28 (nI r), ?_, Rm.dd (by decide) ?_ u_eq, ((f1.tr (f2.tr a2)).s (by decide) (by decide)).s (by decide) (by decide)⟩
          · unfold f_Mod_next_J236 f_Mod_needs
            rw [if_pos rfl, e27', if_pos rfl, e_set, u_nk (show (24 : Nat) ≠ 27 by decide), a4, e_set, e_bnd]
          · rw [u_nk (by decide), u_eq]; rfl
      · rw [if_neg (fun e => c2 (k2.mp e)), if_pos (show nI 0 = 0 from rfl), e_set]
        have E27 : upd2 M1 103 25 3 103 27 = 0 := by rw [u_nk (by decide)]; exact e27
        have E24 : upd2 M1 103 25 3 103 24 = nI r := by rw [u_nk (by decide)]; exact e24
        have E23 : upd2 M1 103 25 3 103 23 = nI r := by rw [u_nk (by decide)]; exact e23
        by_cases c3 : clsN (b r) = 3
        · have h59 : b r = 59 := by
            unfold clsN at c3
            split at c3
            · omega
            · split at c3
              · omega
              · split at c3
                · assumption
                · omega
          rw [if_pos (e59.mpr h59), if_neg (by omega), if_pos c3]
          refine ⟨upd2 (upd2 M1 103 25 3) 103 23 (nI (r + 1)), ?_, Rm.lv ?_ ?_ ?_ (fun e => absurd e (by decide)) u_eq, (f1.s (by decide) (by decide)).s (by decide) (by decide)⟩
          · unfold f_Mod_next_J260 f_Mod_needs
            rw [if_neg (by decide), e_bnd, E23, nI_1, e_set]
          · rw [u_nk (by decide)]; exact E27
          · rw [u_nk (by decide), u_eq]; rfl
          · rw [u_nk (by decide)]; exact E24
        · have c0 : clsN (b r) = 0 := by omega
          have h59 : ¬ b r = 59 := fun e => by
            rw [e] at c3
            exact c3 (by decide)
          rw [if_neg (fun e => h59 (e59.mp e)), if_pos c0]
          refine ⟨upd2 (upd2 (upd2 (upd2 M1 103 25 3) 103 27 1) 103 28 (nI r)) 103 23 (nI (r + 1)), ?_, Rm.dd (by decide) ?_ ?_, (((f1.s (by decide) (by decide)).s (by decide) (by decide)).s (by decide) (by decide)).s (by decide) (by decide)⟩
          · unfold f_Mod_next_J260 f_Mod_needs
            rw [if_pos rfl, E27, if_pos rfl, e_set, u_nk (show (24 : Nat) ≠ 27 by decide), E24, e_set, e_bnd, u_nk (show (23 : Nat) ≠ 28 by decide), u_nk (show (23 : Nat) ≠ 27 by decide), E23, nI_1, e_set]
          · rw [u_nk (by decide), u_nk (by decide), u_eq]; rfl
          · rw [u_nk (by decide), u_eq]
theorem m_next (hL : L ≤ 320) (hb : ∀ j, j < L → b j < 256) {z : Tz} {M : Mem} (t : Tpm b L M) (w : Wz L z) (r : Rm z M) : ∃ M', f_Mod_next M = some M' ∧ Rm (nx b L z) M' ∧ F103 M M' := by
  unfold nx
  by_cases q : z.1 = 0
  · rw [if_pos q]
    exact m_nextL hL hb t (w.2.2 q).2.2.1 (by rw [r.1, q]; rfl) (r.2.2 q).2.2.2
  · rw [if_neg q]
    refine ⟨M, ?_, r, F103.rf⟩
    unfold f_Mod_next
    rw [if_neg (by have := w.1; rw [r.1, l0, nI_leI (by omega) (by omega)]; omega)]
end NM
