/-! pure: curtain, clear -/
theorem On.low {T : Tn} {M M' : Mem} (h : On T M) (e : ∀ a, a < 103 → M' a = M a) : On T M' := by
  unfold On
  rw [e 1 (by decide), e 2 (by decide), e 3 (by decide), e 4 (by decide), e 10 (by decide), e 14 (by decide)]
  refine ⟨h.1, h.2.1, h.2.2.1, h.2.2.2.1, fun a h1 h2 => ?_, h.2.2.2.2.2.1, fun a h1 h2 => ?_, h.2.2.2.2.2.2.2.1, fun a h1 h2 => ?_⟩
  · rw [e a (by omega)]; exact h.2.2.2.2.1 a h1 h2
  · rw [e a (by omega)]; exact h.2.2.2.2.2.2.1 a h1 h2
  · rw [e a (by omega)]; exact h.2.2.2.2.2.2.2.2 a h1 h2
def cntB (T : Tn) (h : Nat) : Nat := cntN (bkP T (fun p => T 3 p) h) (T 10 0)
theorem cntB_le {T : Tn} (g : Good T) {h : Nat} : cntB T h ≤ 8 := Nat.le_trans (cntN_le _) g.nw
theorem c_cntB {T : Tn} (g : Good T) {h : Nat} : f_Int_bitCount (brk T h) = some (nI (cntB T h)) := c_cnt g.nw
theorem m_cntB {T : Tn} (g : Good T) {h : Nat} : f_Mod_bitsOf (brk T h) = some (nI (cntB T h)) := m_cnt g.nw
def anyC (T : Tn) (c h : Nat) : Nat → Bool
  | 0 => false
  | n + 1 => anyC T c h n || decide (cel T n h = c)
theorem anyC_t {T : Tn} {c h : Nat} : ∀ {n b : Nat}, b < n → cel T b h = c → anyC T c h n = true
  | n + 1, b, q, e => by
    unfold anyC
    by_cases r : b = n
    · subst r; simp [e]
    · rw [anyC_t (show b < n by omega) e]; rfl
theorem anyC_s {T : Tn} {c h n : Nat} : anyC T c h (n + 1) = (anyC T c h n || decide (cel T n h = c)) := rfl
theorem anyC_f {T : Tn} {c h : Nat} : ∀ {n : Nat}, (∀ b, b < n → cel T b h ≠ c) → anyC T c h n = false
  | 0, _ => rfl
  | n + 1, q => by
    rw [anyC_s, anyC_f (fun b hb => q b (by omega))]
    simp [q n (by omega)]
theorem c_onL {T : Tn} {M : Mem} (o : On T M) (g : Good T) {c h : Nat} (hc : c < 81) (hh : h < 12) : ∀ (m n k : Nat), k + m = T 4 0 → m < n → (∀ b, b < k → cel T b h ≠ c) → f_Tol_anyBenchOn_L2 1 M n (nI c) (nI h) (nI k) = some (nI (if anyC T c h (T 4 0) = true then 1 else 0)) := by
  have h9 := g.n
  intro m
  induction m with
  | zero =>
    intro n k hk hn hf
    obtain ⟨n, rfl⟩ : ∃ z, n = z + 1 := ⟨n - 1, by omega⟩
    have e : k = T 4 0 := by omega
    subst e
    rw [f_Tol_anyBenchOn_L2, show 1 + 3 = 4 from rfl, o.nb, if_pos (by rw [nI_leI (by omega) (by omega)]; omega), anyC_f hf]
    rfl
  | succ m ih =>
    intro n k hk hn hf
    obtain ⟨n, rfl⟩ : ∃ z, n = z + 1 := ⟨n - 1, by omega⟩
    have hb : k < T 4 0 := by omega
    have hl := (cel_lt (h := h) g hb).1
    rw [f_Tol_anyBenchOn_L2, show 1 + 3 = 4 from rfl, o.nb, if_neg (by rw [nI_leI (by omega) (by omega)]; omega), c_cell o g hb hh, e_bnd, nI_1]
    by_cases e : cel T k h = c
    · rw [anyC_t hb e, if_pos (by rw [e])]
      rfl
    · rw [if_neg (by rw [nI_eq (by omega) (by omega)]; exact e)]
      exact ih n (k + 1) (by omega) (by omega) (fun b q => by
        by_cases r : b = k
        · subst r; exact e
        · exact hf b (by omega))
theorem c_on {T : Tn} {M : Mem} (o : On T M) (g : Good T) {c h : Nat} (hc : c < 81) (hh : h < 12) : f_Tol_anyBenchOn 1 M (nI c) (nI h) = some (nI (if anyC T c h (T 4 0) = true then 1 else 0)) := by
  have h9 := g.n
  exact c_onL o g hc hh (T 4 0) 1000 0 (by omega) (by omega) (fun b hb => by omega)
theorem m_onL {T : Tn} {M : Mem} (o : OnM T M) (g : Good T) {c h : Nat} (hc : c < 81) (hh : h < 12) : ∀ (m n k : Nat), k + m = T 4 0 → m < n → f_Mod_hasBench_L5 M n (nI c) (nI h) (nI (if anyC T c h k = true then 1 else 0)) (nI k) = some (nI (if anyC T c h (T 4 0) = true then 1 else 0)) := by
  have h9 := g.n
  intro m
  induction m with
  | zero =>
    intro n k hk hn
    obtain ⟨n, rfl⟩ : ∃ z, n = z + 1 := ⟨n - 1, by omega⟩
    have e : k = T 4 0 := by omega
    subst e
    rw [f_Mod_hasBench_L5, o.nb, if_pos (by rw [nI_leI (by omega) (by omega)]; omega)]
    split
    · exact e_ckB1
    · exact e_ckB0
  | succ m ih =>
    intro n k hk hn
    obtain ⟨n, rfl⟩ : ∃ z, n = z + 1 := ⟨n - 1, by omega⟩
    have hb : k < T 4 0 := by omega
    have hl := (cel_lt (h := h) g hb).1
    have ih2 := ih n (k + 1) (by omega) (by omega)
    rw [anyC_s] at ih2
    rw [f_Mod_hasBench_L5, o.nb, if_neg (by rw [nI_leI (by omega) (by omega)]; omega), m_cell o g hb hh, e_bnd, nI_1]
    by_cases h0 : anyC T c h k = true
    · rw [if_pos h0, if_neg (by decide)]
      rw [if_pos (by simp [h0])] at ih2
      exact ih2
    · rw [if_neg h0, if_pos (by rfl)]
      by_cases e : cel T k h = c
      · rw [if_pos (by rw [e])]
        rw [if_pos (by simp [e])] at ih2
        exact ih2
      · rw [if_neg (by rw [nI_eq (by omega) (by omega)]; exact e)]
        rw [if_neg (by simp [h0, e])] at ih2
        exact ih2
theorem m_on {T : Tn} {M : Mem} (o : OnM T M) (g : Good T) {c h : Nat} (hc : c < 81) (hh : h < 12) : f_Mod_hasBench M (nI c) (nI h) = some (nI (if anyC T c h (T 4 0) = true then 1 else 0)) := by
  have h9 := g.n
  exact m_onL o g hc hh (T 4 0) 1000 0 (by omega) (by omega)
/-- whether cell c may become s in hour h (s 0: freed; 2: a curtain) -/
def may (T : Tn) (s h c : Nat) : Bool := decide (c % 9 < T 1 0 ∧ c / 9 < T 1 1) && (if s = 0 then decide (T 2 c ≠ 0) else (decide (T 2 c = 0) && !anyC T c h (T 4 0)))
def bcf (T : Tn) (s h : Nat) : Nat → Int32 × Nat
  | 0 => (-4, cntB T h)
  | k + 1 => if may T s h k = true ∧ cntB (tset T 2 k s) h < (bcf T s h k).2 then (nI k, cntB (tset T 2 k s) h) else bcf T s h k
theorem bcf_s {T : Tn} {s h k : Nat} : bcf T s h (k + 1) = if may T s h k = true ∧ cntB (tset T 2 k s) h < (bcf T s h k).2 then (nI k, cntB (tset T 2 k s) h) else bcf T s h k := rfl
theorem bcf_le {T : Tn} (g : Good T) {s h : Nat} : ∀ k, (bcf T s h k).2 ≤ 8
  | 0 => cntB_le g
  | k + 1 => by
    rw [bcf_s]
    split
    · next h2 => have := bcf_le g (s := s) (h := h) k; omega
    · exact bcf_le g k
theorem bcf_4 {T : Tn} {s h : Nat} : ∀ k, k ≤ 81 → (bcf T s h k).1 = -4 ∨ ∃ j, j < 81 ∧ (bcf T s h k).1 = nI j
  | 0, _ => Or.inl rfl
  | k + 1, hk => by
    rw [bcf_s]
    split
    · exact Or.inr ⟨k, by omega, rfl⟩
    · exact bcf_4 k (by omega)
theorem c_may {T : Tn} {M : Mem} (o : On T M) (g : Good T) {c h s : Nat} (hc : c < 81) (hh : h < 12) (hs : s = 0 ∨ s = 2) : f_Hal_mayBecome M (nI c) (nI s) (nI h) = some (nI (if may T s h c = true then 1 else 0)) := by
  have h2 := g.c hc
  have e1 := c_isCell o g hc
  have e2 := c_state o hc
  have e3 := c_on o g hc hh
  unfold f_Hal_mayBecome f_Tol_isFree
  rw [e1, e2, e3]
  by_cases q : c % 9 < T 1 0 ∧ c / 9 < T 1 1
  · rw [if_pos q]
    rcases hs with rfl | rfl
    · by_cases r : T 2 c = 0
      · have hm : may T 0 h c = false := by simp [may, r]
        rw [hm, r]
        rfl
      · have hm : may T 0 h c = true := by simp [may, r, q]
        rw [hm]
        simp (disch := omega) only [e_bnd, e_bnd2, e_set, e_cpy, e_nmI, e_nmL, e_ckn, e_ckB0, e_ckB1, l0, l1, l2, l3, l4, l5, l6, l7, l8, l9, l10, l11, l12, l13, l14, l15, l16, l17, l18, l19, l20, l21, l22, l24, l25, l32, l39, l40, l41, l48, l50, l56, l57, l59, l60, l72, l79, l80, l81, l82, l88, l89, l97, l100, l122, l124, l125, l160, l255, l312, l320, l375, l1000, nI_ltI, nI_leI, nI_eq, nI_add, pk_mul, e_ix, e_neg, if_true, if_false, if_pos, if_neg]
    · by_cases r : T 2 c = 0
      · by_cases a : anyC T c h (T 4 0) = true
        · have hm : may T 2 h c = false := by simp [may, r, a]
          rw [hm, r, a]
          rfl
        · have hm : may T 2 h c = true := by simp [may, r, a, q]
          rw [hm, r, if_neg a]
          rfl
      · have hm : may T 2 h c = false := by simp [may, r]
        rw [hm]
        simp (disch := omega) only [e_bnd, e_bnd2, e_set, e_cpy, e_nmI, e_nmL, e_ckn, e_ckB0, e_ckB1, l0, l1, l2, l3, l4, l5, l6, l7, l8, l9, l10, l11, l12, l13, l14, l15, l16, l17, l18, l19, l20, l21, l22, l24, l25, l32, l39, l40, l41, l48, l50, l56, l57, l59, l60, l72, l79, l80, l81, l82, l88, l89, l97, l100, l122, l124, l125, l160, l255, l312, l320, l375, l1000, nI_ltI, nI_leI, nI_eq, nI_add, pk_mul, e_ix, e_neg, if_true, if_false, if_pos, if_neg, Bool.false_eq_true]
  · rw [if_neg q]
    have hm : may T s h c = false := by simp [may, q]
    rw [hm]
    rcases hs with rfl | rfl <;> rfl
theorem c_bestL {T : Tn} (g : Good T) {h w s : Nat} (hh : h < 12) (hs : s = 0 ∨ s = 2) (hw : w ≤ 1) : ∀ (m n k : Nat) (M : Mem), On T M → k + m = 81 → m < n → ∃ M', f_Hal_bestChange_L24 n (nI h) (nI w) (nI s) (bcf T s h k).1 (nI (bcf T s h k).2) (nI k) M = some (if (bcf T s h 81).1 = -4 then (bcf T s h 81).1 else if w = 0 then (bcf T s h 81).1 else nI (bcf T s h 81).2, M') ∧ On T M' ∧ Fr 2 77 M M' ∧ Kp M M' := by
  intro m
  induction m with
  | zero =>
    intro n k M o hk hn
    obtain ⟨n, rfl⟩ : ∃ z, n = z + 1 := ⟨n - 1, by omega⟩
    have e : k = 81 := by omega
    subst e
    refine ⟨M, ?_, o, Fr.rf, Kp.rf⟩
    rw [f_Hal_bestChange_L24, if_pos (show (81 : Int32) ≤ nI 81 by decide)]
    by_cases h4 : (bcf T s h 81).1 = -4
    · rw [if_pos h4, if_pos h4]
    · rw [if_neg h4, if_neg h4]
      by_cases hw0 : w = 0
      · subst hw0
        rw [if_pos (show nI 0 = 0 from rfl), if_pos rfl]
      · rw [if_neg (by rw [l0, nI_eq (by omega) (by omega)]; exact hw0), if_neg hw0]
  | succ m ih =>
    intro n k M o hk hn
    obtain ⟨n, rfl⟩ : ∃ z, n = z + 1 := ⟨n - 1, by omega⟩
    have hc : k < 81 := by omega
    have hle := bcf_le g (s := s) (h := h) k
    rw [f_Hal_bestChange_L24, if_neg (by rw [l81, nI_leI (by omega) (by omega)]; omega), c_may o g hc hh hs, e_bnd, nI_1]
    by_cases hm : may T s h k = true
    · have g1 : Good (tset T 2 k s) := g.setC (by omega)
      have o1 : On (tset T 2 k s) (upd2 M 2 k (nI s)) := On.tset o (Or.inr (Or.inl rfl))
      obtain ⟨M2, p1, p2⟩ := c_broken (gg := 72) (h := h) o1 g1 hh (by decide)
      have o2 : On (tset T 2 k s) M2 := o1.fr p2 (by decide)
      have o3 : On T (upd2 M2 2 k (nI (T 2 k))) := by
        have := On.tset (a := 2) (k := k) (v := T 2 k) o2 (Or.inr (Or.inl rfl))
        rw [ts_ts, ts_self] at this
        exact this
      have f1 : Fr 2 77 M (upd2 M2 2 k (nI (T 2 k))) := (((Fr.rf.set (by decide) (by decide)).tr (p2.up (by decide) (by decide))).set (by decide) (by decide))
      have k1 : Kp M (upd2 M2 2 k (nI (T 2 k))) := ((Kp.rf.set (by omega)).tr (p2.kp (by decide) (by decide))).set (by omega)
      have cl := cntB_le g1 (h := h)
      have e1 : f_Tol_setState 1 (nI k) (nI s) M = some (upd2 M 2 k (nI s)) := by
        simp (disch := omega) only [e_bnd, e_bnd2, e_set, e_cpy, e_nmI, e_nmL, e_ckn, e_ckB0, e_ckB1, l0, l1, l2, l3, l4, l5, l6, l7, l8, l9, l10, l11, l12, l13, l14, l15, l16, l17, l18, l19, l20, l21, l22, l24, l25, l32, l39, l40, l41, l48, l50, l56, l57, l59, l60, l72, l79, l80, l81, l82, l88, l89, l97, l100, l122, l124, l125, l160, l255, l312, l320, l375, l1000, nI_ltI, nI_leI, nI_eq, nI_add, pk_mul, e_ix, e_neg, if_true, if_false, if_pos, if_neg, f_Tol_setState, Nat.reduceAdd]
      have e2 : f_Tol_setState 1 (nI k) (nI (T 2 k)) M2 = some (upd2 M2 2 k (nI (T 2 k))) := by
        simp (disch := omega) only [e_bnd, e_bnd2, e_set, e_cpy, e_nmI, e_nmL, e_ckn, e_ckB0, e_ckB1, l0, l1, l2, l3, l4, l5, l6, l7, l8, l9, l10, l11, l12, l13, l14, l15, l16, l17, l18, l19, l20, l21, l22, l24, l25, l32, l39, l40, l41, l48, l50, l56, l57, l59, l60, l72, l79, l80, l81, l82, l88, l89, l97, l100, l122, l124, l125, l160, l255, l312, l320, l375, l1000, nI_ltI, nI_leI, nI_eq, nI_add, pk_mul, e_ix, e_neg, if_true, if_false, if_pos, if_neg, f_Tol_setState, Nat.reduceAdd]
      obtain ⟨M', r1, r2, r3, r4⟩ := ih n (k + 1) _ o3 (by omega) (by omega)
      refine ⟨M', ?_, r2, f1.tr r3, k1.tr r4⟩
      rw [if_pos hm, if_neg (by decide), c_state o hc, e_bnd, e1, e_bnd, p1, e_bnd2, c_cntB g1, e_bnd, e2, e_bnd]
      rw [bcf_s] at r1
      by_cases hlt : cntB (tset T 2 k s) h < (bcf T s h k).2
      · rw [if_neg (by rw [nI_leI (by omega) (by omega)]; omega)]
        rw [if_pos ⟨hm, hlt⟩] at r1
        exact r1
      · rw [if_pos (by rw [nI_leI (by omega) (by omega)]; omega)]
        rw [if_neg (fun q => hlt q.2)] at r1
        exact r1
    · obtain ⟨M', r1, r2, r3, r4⟩ := ih n (k + 1) _ o (by omega) (by omega)
      refine ⟨M', ?_, r2, r3, r4⟩
      rw [if_neg hm, if_pos (by rfl)]
      rw [bcf_s, if_neg (fun q => hm q.1)] at r1
      exact r1
theorem m_bestL {T : Tn} (g : Good T) {h f s : Nat} (hh : h < 12) (hs : (s = 0 ∧ f = 0) ∨ (s = 2 ∧ f = 1)) : ∀ (m n k : Nat) (M : Mem), OnM T M → k + m = 81 → m < n → M 103 37 = (bcf T s h k).1 → M 103 38 = nI (bcf T s h k).2 → ∃ M', f_Mod_findBetter_L20 n (nI h) (nI f) (nI k) M = some M' ∧ OnM T M' ∧ (∀ a, a < 103 → M' a = M a) ∧ Kp M M' ∧ M' 103 37 = (bcf T s h 81).1 ∧ M' 103 38 = nI (bcf T s h 81).2 := by
  intro m
  induction m with
  | zero =>
    intro n k M o hk hn h1 h2
    obtain ⟨n, rfl⟩ : ∃ z, n = z + 1 := ⟨n - 1, by omega⟩
    have e : k = 81 := by omega
    subst e
    exact ⟨M, by rw [f_Mod_findBetter_L20, if_pos (by decide)], o, fun _ _ => rfl, Kp.rf, h1, h2⟩
  | succ m ih =>
    intro n k M o hk hn h1 h2
    obtain ⟨n, rfl⟩ : ∃ z, n = z + 1 := ⟨n - 1, by omega⟩
    have hc : k < 81 := by omega
    have hle := bcf_le g (s := s) (h := h) k
    have hT := g.c hc
    have no : may T s h k = false → ∃ M', f_Mod_findBetter_L20 n (nI h) (nI f) (nI (k + 1)) M = some M' ∧ OnM T M' ∧ (∀ a, a < 103 → M' a = M a) ∧ Kp M M' ∧ M' 103 37 = (bcf T s h 81).1 ∧ M' 103 38 = nI (bcf T s h 81).2 := fun hm => by
      have hb : bcf T s h (k + 1) = bcf T s h k := by rw [bcf_s, if_neg (by simp [hm])]
      exact ih n (k + 1) M o (by omega) (by omega) (by rw [hb]; exact h1) (by rw [hb]; exact h2)
    have yes : may T s h k = true → ∃ M', f_Mod_findBetter_J68 (f_Mod_findBetter_L20 n) (nI h) (nI f) (nI k) M = some M' ∧ OnM T M' ∧ (∀ a, a < 103 → M' a = M a) ∧ Kp M M' ∧ M' 103 37 = (bcf T s h 81).1 ∧ M' 103 38 = nI (bcf T s h 81).2 := fun hm => by
      have g1 : Good (tset T 2 k s) := g.setC (by omega)
      have o1 : OnM (tset T 2 k s) (upd2 M 104 k (nI s)) := o.tset (Or.inr (Or.inl ⟨rfl, rfl, hc⟩))
      obtain ⟨M2, p1, p2⟩ := m_broken (h := h) o1 g1 hh
      have o2 : OnM (tset T 2 k s) M2 := o1.fr p2.m
      have o3 : OnM T (upd2 M2 104 k (nI (T 2 k))) := by
        have := OnM.tset (a := 2) (k := k) (v := k) (x := T 2 k) o2 (Or.inr (Or.inl ⟨rfl, rfl, hc⟩))
        rw [ts_ts, ts_self] at this
        exact this
      have k1 : Kp M (upd2 M2 104 k (nI (T 2 k))) := ((Kp.rf.set (by omega)).tr p2.m.kp).set (by omega)
      have cl := cntB_le g1 (h := h)
      have q37 : upd2 M2 104 k (nI (T 2 k)) 103 37 = (bcf T s h k).1 := by rw [u_ne (by decide), p2 103 37 (by decide) (fun _ => by decide), u_ne (by decide)]; exact h1
      have q38 : upd2 M2 104 k (nI (T 2 k)) 103 38 = nI (bcf T s h k).2 := by rw [u_ne (by decide), p2 103 38 (by decide) (fun _ => by decide), u_ne (by decide)]; exact h2
      have qa : ∀ a, a < 103 → upd2 M2 104 k (nI (T 2 k)) a = M a := fun a ha => by
        rw [u_ne (by omega)]
        funext j
        rw [p2 a j (by omega) (fun e => by omega), u_ne (by omega)]
      have eJ : f_Mod_findBetter_J68 (f_Mod_findBetter_L20 n) (nI h) (nI f) (nI k) M = f_Mod_findBetter_J90 (f_Mod_findBetter_L20 n) (nI h) (nI f) (nI k) (nI (T 2 k)) (nI k) (nI s) M := by
        unfold f_Mod_findBetter_J68
        rw [e_ckn (by omega) (by decide), show ix (nI k) = k from e_ix (by omega), o.c hc, e_nmI]
        rcases hs with ⟨rfl, rfl⟩ | ⟨rfl, rfl⟩
        · rw [if_pos (by rfl)]; rfl
        · rw [if_neg (by decide)]; rfl
      generalize hM3 : upd2 M2 104 k (nI (T 2 k)) = M3 at o3 k1 q37 q38 qa
      have kf : ∀ x y : Int32, Kp M3 (upd2 (upd2 M3 103 37 x) 103 38 y) := fun x y => by
        refine Frm.kp ((Frm.rf.setF (by omega)).setF (by omega))
      have of : ∀ x y : Int32, OnM T (upd2 (upd2 M3 103 37 x) 103 38 y) := fun x y => o3.fr ((Frm.rf.setF (by omega)).setF (by omega))
      rw [eJ]
      unfold f_Mod_findBetter_J90 f_Mod_findBetter_J127 f_Mod_findBetter_J149
      rw [e_ckn (by omega) (by decide), e_set, show ix (nI k) = k from e_ix (by omega), p1, e_bnd2, m_cntB g1, e_bnd, e_ckn (by omega) (by decide), e_set, hM3, e_set, e_set, q37, q38]
      simp only [u_nk (show (38 : Nat) ≠ 37 by decide), q38, e_set, nI_1]
      by_cases hlt : cntB (tset T 2 k s) h < (bcf T s h k).2
      · have hb : bcf T s h (k + 1) = (nI k, cntB (tset T 2 k s) h) := by rw [bcf_s, if_pos ⟨hm, hlt⟩]
        have nle : ¬ nI (bcf T s h k).2 ≤ nI (cntB (tset T 2 k s) h) := by rw [nI_leI (by omega) (by omega)]; omega
        rw [if_neg nle, if_neg nle]
        obtain ⟨M', r1, r2, r3, r4, r5, r6⟩ := ih n (k + 1) (upd2 (upd2 M3 103 37 (nI k)) 103 38 (nI (cntB (tset T 2 k s) h))) (of _ _) (by omega) (by omega) (by rw [hb, u_nk (by decide), u_eq]) (by rw [hb, u_eq])
        exact ⟨M', r1, r2, fun a ha => by rw [r3 a ha, u_ne (by omega), u_ne (by omega), qa a ha], (k1.tr (kf _ _)).tr r4, r5, r6⟩
      · have hb : bcf T s h (k + 1) = bcf T s h k := by rw [bcf_s, if_neg (fun q => hlt q.2)]
        have le : nI (bcf T s h k).2 ≤ nI (cntB (tset T 2 k s) h) := by rw [nI_leI (by omega) (by omega)]; omega
        rw [if_pos le, if_pos le]
        obtain ⟨M', r1, r2, r3, r4, r5, r6⟩ := ih n (k + 1) (upd2 (upd2 M3 103 37 (bcf T s h k).1) 103 38 (nI (bcf T s h k).2)) (of _ _) (by omega) (by omega) (by rw [hb, u_nk (by decide), u_eq]) (by rw [hb, u_eq])
        exact ⟨M', r1, r2, fun a ha => by rw [r3 a ha, u_ne (by omega), u_ne (by omega), qa a ha], (k1.tr (kf _ _)).tr r4, r5, r6⟩
    rw [f_Mod_findBetter_L20, if_neg (by rw [l81, nI_leI (by omega) (by omega)]; omega), m_isCell o g hc, e_bnd, nI_1, e_ckn (by omega) (by decide), show ix (nI k) = k from e_ix (by omega), o.c hc, m_on o g hc hh, e_bnd]
    by_cases q : k % 9 < T 1 0 ∧ k / 9 < T 1 1
    · rw [if_pos q, if_neg (by decide)]
      rcases hs with ⟨rfl, rfl⟩ | ⟨rfl, rfl⟩
      · rw [if_pos (show nI 0 = 0 from rfl)]
        by_cases r : T 2 k = 0
        · rw [r, if_pos (show nI 0 ≤ 0 from by decide)]
          exact no (by simp [may, r])
        · rw [if_neg (by rw [l0, nI_leI (by omega) (by omega)]; omega)]
          exact yes (by simp [may, r, q])
      · rw [if_neg (by decide), e_ckn (by omega) (by decide)]
        by_cases r : T 2 k = 0
        · rw [r, if_pos (show nI 0 = 0 from rfl)]
          by_cases a : anyC T k h (T 4 0) = true
          · rw [if_pos a, if_neg (by decide)]
            exact no (by simp [may, r, a])
          · rw [if_neg a, if_pos (by rfl)]
            exact yes (by simp [may, r, a, q])
        · rw [if_neg (by rw [l0, nI_eq (by omega) (by omega)]; exact r)]
          exact no (by simp [may, r])
    · rw [if_neg q, if_pos (by rfl)]
      exact no (by simp [may, q])
theorem bestSim {h w s f : Nat} (hh : h < 12) (hw : w ≤ 1) (hs : (s = 0 ∧ f = 0) ∨ (s = 2 ∧ f = 1)) : ∀ M, Inv M → ∃ v M1 M2, f_Hal_bestChange (nI h) (nI w) (nI s) M = some (v, M1) ∧ bnd (f_Mod_findBetter (nI h) (nI f) M1) (fun M8 => if M8 103 37 = (-4) then some ((-4), M8) else if nI w = 0 then some (M8 103 37, M8) else some (M8 103 38, M8)) = some (v, M2) ∧ Inv M2 := by
  intro M ⟨T, hA, hI, hS, hT, hF⟩
  obtain ⟨o, om, g⟩ := id hA
  obtain ⟨M1, p1, p2⟩ := c_broken (gg := 72) (h := h) o g hh (by decide)
  obtain ⟨M2, r1, r2, r3, r4⟩ := c_bestL g (w := w) (s := s) hh (by omega) hw 81 1000 0 M1 (o.fr p2 (by decide)) rfl (by decide)
  have om2 : OnM T M2 := (om.frc p2 (by decide)).frc r3 (by decide)
  have k2 : Kp M M2 := (p2.kp (by decide) (by decide)).tr r4
  obtain ⟨M3, q1, q2⟩ := m_broken (h := h) om2 g hh
  have om4 : OnM T (upd2 (upd2 M3 103 38 (nI (cntB T h))) 103 37 (-4)) := (om2.fr q2.m).fr ((Frm.rf.setF (by omega)).setF (by omega))
  obtain ⟨M5, t1, t2, t3, t4, t5, t6⟩ := m_bestL g (f := f) (s := s) hh hs 81 1000 0 _ om4 rfl (by decide) (by rw [u_eq]; rfl) (by rw [u_nk (by decide), u_eq]; rfl)
  have k5 : Kp M M5 := ((k2.tr q2.m.kp).tr (Frm.kp ((Frm.rf.setF (by omega)).setF (by omega)))).tr t4
  have o5 : On T M5 := by
    have e : ∀ a, a < 103 → M5 a = M2 a := fun a ha => by
      rw [t3 a ha, u_ne (by omega), u_ne (by omega)]
      funext j
      exact q2 a j (by omega) (fun e => by omega)
    exact r2.low e
  have cl := cntB_le g (h := h)
  refine ⟨if (bcf T s h 81).1 = -4 then (bcf T s h 81).1 else if w = 0 then (bcf T s h 81).1 else nI (bcf T s h 81).2, M2, M5, ?_, ?_, Inv.to hI hS hT hF k5 (fun _ _ _ => rfl) ⟨o5, t2, g⟩⟩
  · unfold f_Hal_bestChange
    rw [p1, e_bnd2, c_cntB g, e_bnd]
    exact r1
  · unfold f_Mod_findBetter
    rw [q1, e_bnd2, m_cntB g, e_bnd, e_set, e_set, show (0 : Int32) = nI 0 from rfl, t1, e_bnd, t5, t6]
    have hle := bcf_le g (s := s) (h := h) 81
    by_cases h4 : (bcf T s h 81).1 = -4
    · rw [if_pos h4, if_pos h4, h4]
    · rw [if_neg h4, if_neg h4]
      by_cases hw0 : w = 0
      · subst hw0
        rw [if_pos (show nI 0 = nI 0 from rfl), if_pos rfl]
      · rw [if_neg (by rw [nI_eq (by omega) (by omega)]; exact hw0), if_neg hw0]

theorem s_curtain (x y : Int32) : Sim (f_Hal_curtain x y) (f_Mod_curtain x y) := by
  intro M hInv
  have e1 : f_Mod_in y.toInt64 0 1 = f_Mod_in y.toInt64 0 (nI 1).toInt64 := rfl
  rcases a_hour x with ⟨h, hh, rfl, b1, b2⟩ | ⟨b1, b2⟩
  · rcases wi y (m := 1) (by decide) with ⟨w, hw, rfl, f1, f2⟩ | ⟨f1, f2, -⟩
    · obtain ⟨v, M1, M2, p1, p2, p3⟩ := bestSim (w := w) (s := 2) (f := 1) hh hw (Or.inr ⟨rfl, rfl⟩) M hInv
      refine ⟨v, M1, M2, ?_, ?_, p3⟩
      · unfold f_Hal_curtain
        rw [b1, e_bnd, if_neg (by decide), show (0 : Int32) = nI 0 from rfl, show (1 : Int32) = nI 1 from rfl, f1, e_bnd, if_neg (by decide), show (2 : Int32) = nI 2 from rfl, p1, e_bnd2]
      · unfold f_Mod_curtain
        rw [b2, e_bnd, if_neg (by decide), e1, f2, e_bnd, if_neg (by decide)]
        exact p2
    · refine ⟨-1, M, M, ?_, ?_, hInv⟩
      · simp (disch := omega) only [e_bnd, e_bnd2, e_set, e_cpy, e_nmI, e_nmL, e_ckn, e_ckB0, e_ckB1, l0, l1, l2, l3, l4, l5, l6, l7, l8, l9, l10, l11, l12, l13, l14, l15, l16, l17, l18, l19, l20, l21, l22, l24, l25, l32, l39, l40, l41, l48, l50, l56, l57, l59, l60, l72, l79, l80, l81, l82, l88, l89, l97, l100, l122, l124, l125, l160, l255, l312, l320, l375, l1000, nI_ltI, nI_leI, nI_eq, nI_add, pk_mul, e_ix, e_neg, if_true, if_false, if_pos, if_neg, f_Hal_curtain, b1, f1]
      · simp (disch := omega) only [e_bnd, e_bnd2, e_set, e_cpy, e_nmI, e_nmL, e_ckn, e_ckB0, e_ckB1, l0, l1, l2, l3, l4, l5, l6, l7, l8, l9, l10, l11, l12, l13, l14, l15, l16, l17, l18, l19, l20, l21, l22, l24, l25, l32, l39, l40, l41, l48, l50, l56, l57, l59, l60, l72, l79, l80, l81, l82, l88, l89, l97, l100, l122, l124, l125, l160, l255, l312, l320, l375, l1000, nI_ltI, nI_leI, nI_eq, nI_add, pk_mul, e_ix, e_neg, if_true, if_false, if_pos, if_neg, f_Mod_curtain, b2, e1, f2]
  · refine ⟨-1, M, M, ?_, ?_, hInv⟩
    · simp (disch := omega) only [e_bnd, e_bnd2, e_set, e_cpy, e_nmI, e_nmL, e_ckn, e_ckB0, e_ckB1, l0, l1, l2, l3, l4, l5, l6, l7, l8, l9, l10, l11, l12, l13, l14, l15, l16, l17, l18, l19, l20, l21, l22, l24, l25, l32, l39, l40, l41, l48, l50, l56, l57, l59, l60, l72, l79, l80, l81, l82, l88, l89, l97, l100, l122, l124, l125, l160, l255, l312, l320, l375, l1000, nI_ltI, nI_leI, nI_eq, nI_add, pk_mul, e_ix, e_neg, if_true, if_false, if_pos, if_neg, f_Hal_curtain, b1]
    · simp (disch := omega) only [e_bnd, e_bnd2, e_set, e_cpy, e_nmI, e_nmL, e_ckn, e_ckB0, e_ckB1, l0, l1, l2, l3, l4, l5, l6, l7, l8, l9, l10, l11, l12, l13, l14, l15, l16, l17, l18, l19, l20, l21, l22, l24, l25, l32, l39, l40, l41, l48, l50, l56, l57, l59, l60, l72, l79, l80, l81, l82, l88, l89, l97, l100, l122, l124, l125, l160, l255, l312, l320, l375, l1000, nI_ltI, nI_leI, nI_eq, nI_add, pk_mul, e_ix, e_neg, if_true, if_false, if_pos, if_neg, f_Mod_curtain, b2]
theorem s_clear (x y : Int32) : Sim (f_Hal_clear x y) (f_Mod_clear x y) := by
  intro M hInv
  have e1 : f_Mod_in y.toInt64 0 1 = f_Mod_in y.toInt64 0 (nI 1).toInt64 := rfl
  rcases a_hour x with ⟨h, hh, rfl, b1, b2⟩ | ⟨b1, b2⟩
  · rcases wi y (m := 1) (by decide) with ⟨w, hw, rfl, f1, f2⟩ | ⟨f1, f2, -⟩
    · obtain ⟨v, M1, M2, p1, p2, p3⟩ := bestSim (w := w) (s := 0) (f := 0) hh hw (Or.inl ⟨rfl, rfl⟩) M hInv
      refine ⟨v, M1, M2, ?_, ?_, p3⟩
      · unfold f_Hal_clear
        rw [b1, e_bnd, if_neg (by decide), show (0 : Int32) = nI 0 from rfl, show (1 : Int32) = nI 1 from rfl, f1, e_bnd, if_neg (by decide), p1, e_bnd2]
      · unfold f_Mod_clear
        rw [b2, e_bnd, if_neg (by decide), e1, f2, e_bnd, if_neg (by decide)]
        exact p2
    · refine ⟨-1, M, M, ?_, ?_, hInv⟩
      · simp (disch := omega) only [e_bnd, e_bnd2, e_set, e_cpy, e_nmI, e_nmL, e_ckn, e_ckB0, e_ckB1, l0, l1, l2, l3, l4, l5, l6, l7, l8, l9, l10, l11, l12, l13, l14, l15, l16, l17, l18, l19, l20, l21, l22, l24, l25, l32, l39, l40, l41, l48, l50, l56, l57, l59, l60, l72, l79, l80, l81, l82, l88, l89, l97, l100, l122, l124, l125, l160, l255, l312, l320, l375, l1000, nI_ltI, nI_leI, nI_eq, nI_add, pk_mul, e_ix, e_neg, if_true, if_false, if_pos, if_neg, f_Hal_clear, b1, f1]
      · simp (disch := omega) only [e_bnd, e_bnd2, e_set, e_cpy, e_nmI, e_nmL, e_ckn, e_ckB0, e_ckB1, l0, l1, l2, l3, l4, l5, l6, l7, l8, l9, l10, l11, l12, l13, l14, l15, l16, l17, l18, l19, l20, l21, l22, l24, l25, l32, l39, l40, l41, l48, l50, l56, l57, l59, l60, l72, l79, l80, l81, l82, l88, l89, l97, l100, l122, l124, l125, l160, l255, l312, l320, l375, l1000, nI_ltI, nI_leI, nI_eq, nI_add, pk_mul, e_ix, e_neg, if_true, if_false, if_pos, if_neg, f_Mod_clear, b2, e1, f2]
  · refine ⟨-1, M, M, ?_, ?_, hInv⟩
    · simp (disch := omega) only [e_bnd, e_bnd2, e_set, e_cpy, e_nmI, e_nmL, e_ckn, e_ckB0, e_ckB1, l0, l1, l2, l3, l4, l5, l6, l7, l8, l9, l10, l11, l12, l13, l14, l15, l16, l17, l18, l19, l20, l21, l22, l24, l25, l32, l39, l40, l41, l48, l50, l56, l57, l59, l60, l72, l79, l80, l81, l82, l88, l89, l97, l100, l122, l124, l125, l160, l255, l312, l320, l375, l1000, nI_ltI, nI_leI, nI_eq, nI_add, pk_mul, e_ix, e_neg, if_true, if_false, if_pos, if_neg, f_Hal_clear, b1]
    · simp (disch := omega) only [e_bnd, e_bnd2, e_set, e_cpy, e_nmI, e_nmL, e_ckn, e_ckB0, e_ckB1, l0, l1, l2, l3, l4, l5, l6, l7, l8, l9, l10, l11, l12, l13, l14, l15, l16, l17, l18, l19, l20, l21, l22, l24, l25, l32, l39, l40, l41, l48, l50, l56, l57, l59, l60, l72, l79, l80, l81, l82, l88, l89, l97, l100, l122, l124, l125, l160, l255, l312, l320, l375, l1000, nI_ltI, nI_leI, nI_eq, nI_add, pk_mul, e_ix, e_neg, if_true, if_false, if_pos, if_neg, f_Mod_clear, b2]
