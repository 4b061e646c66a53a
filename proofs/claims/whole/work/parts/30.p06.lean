/-! pure: who hears whom, what is broken -/
def Frb (M M' : Mem) : Prop := ∀ a k, (a < 113 ∨ 116 < a) → (a = 103 → k ≠ 31) → M' a k = M a k
theorem Frb.rf {M : Mem} : Frb M M := fun _ _ _ _ => rfl
theorem Frb.tr {M M' M2 : Mem} (h : Frb M M') (g : Frb M' M2) : Frb M M2 := fun a k q r => (g a k q r).trans (h a k q r)
theorem Frb.m {M M' : Mem} (h : Frb M M') : Frm M M' := fun a k q r => h a k (by omega) (fun e => (r e).1)
theorem Frp.b {M M' : Mem} (h : Frp M M') : Frb M M' := fun a k q r => h a k (by omega) (by omega) r
theorem Frb.set {M M' : Mem} {a k : Nat} {x : Int32} (h : Frb M M') (h1 : 113 ≤ a) (h2 : a ≤ 116) : Frb M (upd2 M' a k x) := fun i j q r => by
  rw [u_ne (by omega), h i j q r]
def rsd (T : Tn) (b : Nat) : Nat := if T 9 b = 3 then 1 else 0
def qb (T : Tn) (b h : Nat) : PS := q0 (cel T b h) (fac T b h)
def hrd (T : Tn) (b h c : Nat) : Bool := decide (hst T (rsd T b) (qb T b h) (cel T c h) (ear T c) ≠ 0)
def hrs (T : Tn) (b h : Nat) : Int32 := orN (fun c => hrd T b h c && decide (c ≠ b)) (T 4 0)
def hbN (T : Tn) (b c h : Nat) : Nat := if c < T 4 0 ∧ (hrd T b h c && decide (c ≠ b)) = true then 1 else 0
theorem hbN_le {T : Tn} {b c h : Nat} : hbN T b c h ≤ 1 := by
  unfold hbN
  split <;> omega
section HB
variable {T : Tn} {M : Mem}
theorem isC_cel (g : Good T) {b h : Nat} (hb : b < T 4 0) : isC T (cel T b h) := cel_lt g hb
theorem qb_in (g : Good T) {b h : Nat} (hb : b < T 4 0) : pin T 0 (qb T b h) := q0_in (isC_cel g hb) (fac_lt g hb)
theorem rsd_le {b : Nat} : rsd T b ≤ 1 := by
  unfold rsd
  split <;> omega
theorem hrs_bit (g : Good T) {b c h : Nat} (hc : c < T 4 0) : jshr (hrs T b h) (nI c) &&& 1 = nI (hbN T b c h) := by
  have h9 := g.n
  unfold hrs hbN
  rw [orN_bit (by omega) (by omega)]
  split <;> rfl
theorem c_whisper (o : On T M) (g : Good T) {gg b h : Nat} (hb : b < T 4 0) (hh : h < 12) (hg : 18 ≤ gg) : ∃ M', f_Hea_whisperFromBench gg (nI b) (nI h) M = some M' ∧ Fr (gg + 1) (gg + 4) M M' ∧ PthC (gg + 1) T (rsd T b) (cel T b h) (qb T b h) M' := by
  have h3 := g.b hb
  obtain ⟨M', a1, a2, a3⟩ := c_run (c := gg + 1) o g (isC_cel (h := h) g hb) (fac_lt (h := h) g hb) (rsd_le (T := T) (b := b)) (by omega)
  refine ⟨M', ?_, a2.up (by omega) (by omega), a3⟩
  unfold f_Hea_whisperFromBench f_Hea_whisperFromBench_J17
  rw [c_kind o g hb, e_bnd, c_cell o g hb hh, e_bnd, c_fac o g hb hh, e_bnd, e_bnd]
  unfold rsd at a1
  by_cases hk : T 9 b = 3
  · rw [if_pos hk] at a1
    rw [hk, if_pos (show nI 3 = 3 from rfl), show (1 : Int32) = nI 1 from rfl, a1, e_bnd]
  · rw [if_neg hk] at a1
    rw [if_neg (by rw [l3, nI_eq (by omega) (by omega)]; exact hk), e_bnd, show (0 : Int32) = nI 0 from rfl, a1, e_bnd]
theorem c_latestL (o : On T M) (g : Good T) {gg h r s : Nat} {q : PS} (hq : pin T 0 q) (hp : PthC (gg + 1) T r s q M) (hh : h < 12) : ∀ (m n k : Nat), k + m = T 4 0 → m < n → f_Hea_hearersOfLatest_L5 gg M n (nI h) (orN (fun c => decide (hst T r q (cel T c h) (ear T c) ≠ 0)) k) (nI k) = some (orN (fun c => decide (hst T r q (cel T c h) (ear T c) ≠ 0)) (T 4 0)) := by
  have h9 := g.n
  intro m
  induction m with
  | zero =>
    intro n k hk hn
    obtain ⟨n, rfl⟩ : ∃ z, n = z + 1 := ⟨n - 1, by omega⟩
    have e : k = T 4 0 := by omega
    subst e
    rw [f_Hea_hearersOfLatest_L5, o.nb, if_pos (by rw [nI_leI (by omega) (by omega)]; omega)]
  | succ m ih =>
    intro n k hk hn
    obtain ⟨n, rfl⟩ : ∃ z, n = z + 1 := ⟨n - 1, by omega⟩
    have hb : k < T 4 0 := by omega
    have hl := hst_le (T := T) (r := r) (q := q) (cell := cel T k h) (e := ear T k)
    rw [f_Hea_hearersOfLatest_L5, o.nb, if_neg (by rw [nI_leI (by omega) (by omega)]; omega), c_cell o g hb hh, e_bnd, c_ear o g hb, e_bnd, c_step g hq hp (cel_lt g hb).1 (ear_lt g hb).2, e_bnd, nI_1, e_nmI]
    have ih2 := ih n (k + 1) (by omega) (by omega)
    rw [orN_s] at ih2
    by_cases h0 : hst T r q (cel T k h) (ear T k) = 0
    · rw [if_pos (by rw [h0]; decide)]
      rw [if_neg (by simp [h0])] at ih2
      exact ih2
    · rw [if_neg (by rw [l0, nI_leI (by omega) (by omega)]; omega)]
      rw [if_pos (by simp [h0])] at ih2
      exact ih2
theorem c_latest (o : On T M) (g : Good T) {gg h r s : Nat} {q : PS} (hq : pin T 0 q) (hp : PthC (gg + 1) T r s q M) (hh : h < 12) : f_Hea_hearersOfLatest gg M (nI h) = some (orN (fun c => decide (hst T r q (cel T c h) (ear T c) ≠ 0)) (T 4 0)) := by
  have h9 := g.n
  exact c_latestL o g hq hp hh (T 4 0) 1000 0 (by omega) (by omega)
theorem c_hearers (o : On T M) (g : Good T) {gg b h : Nat} (hb : b < T 4 0) (hh : h < 12) (hg : 18 ≤ gg) : ∃ M', f_Hea_hearersOf gg (nI b) (nI h) M = some (hrs T b h, M') ∧ Fr (gg + 1) (gg + 4) M M' := by
  have h9 := g.n
  obtain ⟨M', a1, a2, a3⟩ := c_whisper (gg := gg) o g hb hh hg
  refine ⟨M', ?_, a2⟩
  unfold f_Hea_hearersOf
  rw [a1, e_bnd, c_latest (o.fr a2 (by omega)) g (qb_in g hb) a3 hh, e_bnd, orN_msk (by omega) (by omega)]
  rfl
theorem c_listenL (g : Good T) {gg h : Nat} (hh : h < 12) (hg : 18 ≤ gg) : ∀ (m n k : Nat) (M : Mem), On T M → k + m = T 4 0 → m < n → (∀ b, b < k → M (gg + 5) b = hrs T b h) → ∃ M', f_Hea_listenToAll_L2 gg n (nI h) (nI k) M = some M' ∧ Fr (gg + 1) (gg + 5) M M' ∧ ∀ b, b < T 4 0 → M' (gg + 5) b = hrs T b h := by
  have h9 := g.n
  intro m
  induction m with
  | zero =>
    intro n k M o hk hn hf
    obtain ⟨n, rfl⟩ : ∃ z, n = z + 1 := ⟨n - 1, by omega⟩
    have e : k = T 4 0 := by omega
    subst e
    rw [f_Hea_listenToAll_L2, o.nb, if_pos (by rw [nI_leI (by omega) (by omega)]; omega)]
    exact ⟨M, rfl, Fr.rf, hf⟩
  | succ m ih =>
    intro n k M o hk hn hf
    obtain ⟨n, rfl⟩ : ∃ z, n = z + 1 := ⟨n - 1, by omega⟩
    obtain ⟨M1, a1, a2⟩ := c_hearers (gg := gg) (b := k) o g (by omega) hh hg
    rw [f_Hea_listenToAll_L2, o.nb, if_neg (by rw [nI_leI (by omega) (by omega)]; omega), if_neg (by rw [l8, nI_leI (by omega) (by omega)]; omega), a1, e_bnd2, e_ckn (by omega) (by decide), e_set, nI_1, show ix (nI k) = k from e_ix (by omega)]
    have f1 : Fr (gg + 1) (gg + 5) M (upd2 M1 (gg + 5) k (hrs T k h)) := (a2.up (Nat.le_refl _) (by omega)).set (by omega) (Nat.le_refl _)
    obtain ⟨M', b1, b2, b3⟩ := ih n (k + 1) (upd2 M1 (gg + 5) k (hrs T k h)) (o.fr f1 (by omega)) (by omega) (by omega) (fun b hb => by
      by_cases e : b = k
      · subst e; exact u_eq
      · rw [u_nk e, a2 (gg + 5) (by omega)]
        exact hf b (by omega))
    exact ⟨M', b1, f1.tr b2, b3⟩
theorem c_listen (o : On T M) (g : Good T) {gg h : Nat} (hh : h < 12) (hg : 18 ≤ gg) : ∃ M', f_Hea_listenToAll gg (nI h) M = some M' ∧ Fr (gg + 1) (gg + 5) M M' ∧ ∀ b, b < T 4 0 → M' (gg + 5) b = hrs T b h := by
  have h9 := g.n
  exact c_listenL g hh hg (T 4 0) 1000 0 M o (by omega) (by omega) (fun b hb => by omega)
theorem c_heardBy (g : Good T) {gg h b c : Nat} (hL : ∀ b, b < T 4 0 → M (gg + 5) b = hrs T b h) (hb : b < T 4 0) (hc : c < T 4 0) : f_Hea_isHeardBy gg M (nI b) (nI c) = some (nI (hbN T b c h)) := by
  have h9 := g.n
  unfold f_Hea_isHeardBy f_Hal_bit
  rw [w_in, if_pos (by rw [l0, l7, nI_leI (by omega) (by omega), nI_leI (by omega) (by omega)]; omega), e_bnd, if_neg (by decide), w_in, if_pos (by rw [l0, l7, nI_leI (by omega) (by omega), nI_leI (by omega) (by omega)]; omega), e_bnd, if_neg (by decide), e_ckn (by omega) (by decide), show ix (nI b) = b from e_ix (by omega), hL b hb, hrs_bit g hc, e_bnd]
theorem c_want (o : On T M) (g : Good T) {i : Nat} (hi : i < T 10 0) : f_Tri_part 10 M (nI i) 0 = some (nI (T 11 i)) ∧ f_Tri_part 10 M (nI i) 1 = some (nI (T 12 i)) ∧ f_Tri_part 10 M (nI i) 2 = some (nI (T 13 i)) := by
  have h9 := g.nw
  refine ⟨?_, ?_, ?_⟩
  · simp (disch := omega) only [e_bnd, e_bnd2, e_set, e_cpy, e_nmI, e_nmL, e_ckn, e_ckB0, e_ckB1, l0, l1, l2, l3, l4, l5, l6, l7, l8, l9, l10, l11, l12, l13, l14, l15, l16, l17, l18, l19, l20, l21, l22, l24, l25, l32, l39, l40, l41, l48, l50, l56, l57, l59, l60, l72, l79, l80, l81, l82, l88, l89, l97, l100, l122, l124, l125, l160, l255, l312, l320, l375, l1000, nI_ltI, nI_leI, nI_eq, nI_add, pk_mul, e_ix, e_neg, if_true, if_false, if_pos, if_neg, f_Tri_part, o.nw, Nat.reduceAdd, o.w (a := 11) (by decide) (by decide) hi]
  · simp (disch := omega) only [e_bnd, e_bnd2, e_set, e_cpy, e_nmI, e_nmL, e_ckn, e_ckB0, e_ckB1, l0, l1, l2, l3, l4, l5, l6, l7, l8, l9, l10, l11, l12, l13, l14, l15, l16, l17, l18, l19, l20, l21, l22, l24, l25, l32, l39, l40, l41, l48, l50, l56, l57, l59, l60, l72, l79, l80, l81, l82, l88, l89, l97, l100, l122, l124, l125, l160, l255, l312, l320, l375, l1000, nI_ltI, nI_leI, nI_eq, nI_add, pk_mul, e_ix, e_neg, if_true, if_false, if_pos, if_neg, f_Tri_part, o.nw, Nat.reduceAdd, o.w (a := 12) (by decide) (by decide) hi]
  · simp (disch := omega) only [e_bnd, e_bnd2, e_set, e_cpy, e_nmI, e_nmL, e_ckn, e_ckB0, e_ckB1, l0, l1, l2, l3, l4, l5, l6, l7, l8, l9, l10, l11, l12, l13, l14, l15, l16, l17, l18, l19, l20, l21, l22, l24, l25, l32, l39, l40, l41, l48, l50, l56, l57, l59, l60, l72, l79, l80, l81, l82, l88, l89, l97, l100, l122, l124, l125, l160, l255, l312, l320, l375, l1000, nI_ltI, nI_leI, nI_eq, nI_add, pk_mul, e_ix, e_neg, if_true, if_false, if_pos, if_neg, f_Tri_part, o.nw, Nat.reduceAdd, o.w (a := 13) (by decide) (by decide) hi]
/-- the wants that are broken when one p sits on bench S p -/
def bkP (T : Tn) (S : Nat → Nat) (h : Nat) : Nat → Bool := fun i => decide (hbN T (S (T 11 i)) (S (T 12 i)) h ≠ T 13 i)
def brk (T : Tn) (h : Nat) : Int32 := orN (bkP T (fun p => T 3 p) h) (T 10 0)
theorem c_brokenL (o : On T M) (g : Good T) {gg h : Nat} (hL : ∀ b, b < T 4 0 → M (gg + 5) b = hrs T b h) : ∀ (m n k : Nat), k + m = T 10 0 → m < n → f_Hea_brokenWants_L11 gg n (orN (bkP T (fun p => T 3 p) h) k) (nI k) M = some (brk T h, M) := by
  have h9 := g.nw
  intro m
  induction m with
  | zero =>
    intro n k hk hn
    obtain ⟨n, rfl⟩ : ∃ z, n = z + 1 := ⟨n - 1, by omega⟩
    have e : k = T 10 0 := by omega
    subst e
    rw [f_Hea_brokenWants_L11, o.nw, if_pos (by rw [nI_leI (by omega) (by omega)]; omega)]
    rfl
  | succ m ih =>
    intro n k hk hn
    obtain ⟨n, rfl⟩ : ∃ z, n = z + 1 := ⟨n - 1, by omega⟩
    have hi : k < T 10 0 := by omega
    have hw := g.wi hi
    obtain ⟨c1, c2, c3⟩ := c_want o g hi
    have hle := hbN_le (T := T) (b := T 3 (T 11 k)) (c := T 3 (T 12 k)) (h := h)
    rw [f_Hea_brokenWants_L11, o.nw, if_neg (by rw [nI_leI (by omega) (by omega)]; omega), c1, e_bnd, c_seat o g hw.1, e_bnd, c2, e_bnd, c_seat o g hw.2.1, e_bnd, c_heardBy g hL (g.p hw.1) (g.p hw.2.1), e_bnd, c3, e_bnd, nI_1, e_nmI]
    have ih2 := ih n (k + 1) (by omega) (by omega)
    rw [orN_s] at ih2
    by_cases h0 : hbN T (T 3 (T 11 k)) (T 3 (T 12 k)) h = T 13 k
    · rw [if_pos (by rw [h0])]
      rw [if_neg (by simp [bkP, h0])] at ih2
      exact ih2
    · rw [if_neg (by rw [nI_eq (by omega) (by omega)]; exact h0)]
      rw [if_pos (by simp [bkP, h0])] at ih2
      exact ih2
theorem c_broken (o : On T M) (g : Good T) {gg h : Nat} (hh : h < 12) (hg : 18 ≤ gg) : ∃ M', f_Hea_brokenWants gg (nI h) M = some (brk T h, M') ∧ Fr (gg + 1) (gg + 5) M M' := by
  have h9 := g.nw
  obtain ⟨M', a1, a2, a3⟩ := c_listen (gg := gg) o g hh hg
  refine ⟨M', ?_, a2⟩
  unfold f_Hea_brokenWants
  rw [a1, e_bnd]
  exact c_brokenL (o.fr a2 (by omega)) g a3 (T 10 0) 1000 0 (by omega) (by omega)
/-! the reference's -/
theorem m_layOf (o : OnM T M) (g : Good T) {b h : Nat} (hb : b < T 4 0) (hh : h < 12) : ∃ M', f_Mod_layPathOf (nI b) (nI h) M = some M' ∧ Frp M M' ∧ PthM T (rsd T b) (cel T b h) (qb T b h) M' := by
  have h3 := g.b hb
  obtain ⟨M', a1, a2, a3⟩ := m_path o g (isC_cel (h := h) g hb) (fac_lt (h := h) g hb) (rsd_le (T := T) (b := b))
  refine ⟨M', ?_, a2, a3⟩
  unfold f_Mod_layPathOf f_Mod_layPathOf_J27
  rw [m_cell o g hb hh, e_bnd, m_fac o g hb hh, e_bnd, m_kind o g hb, e_bnd]
  unfold rsd at a1
  by_cases hk : T 9 b = 3
  · rw [if_pos hk] at a1
    rw [hk, if_pos (show nI 3 = 3 from rfl), show (1 : Int32) = nI 1 from rfl, a1, e_bnd]
  · rw [if_neg hk] at a1
    rw [if_neg (by rw [l3, nI_eq (by omega) (by omega)]; exact hk), show (0 : Int32) = nI 0 from rfl, a1, e_bnd]
theorem m_allL (o : OnM T M) (g : Good T) {h r s : Nat} {q : PS} {x2 : Int32} {bt : Nat → Bool} (hbt : ∀ c, c < T 4 0 → (nI c = x2 ↔ bt c = true)) (hq : pin T 0 q) (hp : PthM T r s q M) (hh : h < 12) : ∀ (m n k : Nat), k + m = T 4 0 → m < n → f_Mod_allTo_L5 M n (nI h) x2 (orN (fun c => decide (hst T r q (cel T c h) (ear T c) ≠ 0) && !bt c) k) (nI k) = some (orN (fun c => decide (hst T r q (cel T c h) (ear T c) ≠ 0) && !bt c) (T 4 0)) := by
  have h9 := g.n
  intro m
  induction m with
  | zero =>
    intro n k hk hn
    obtain ⟨n, rfl⟩ : ∃ z, n = z + 1 := ⟨n - 1, by omega⟩
    have e : k = T 4 0 := by omega
    subst e
    rw [f_Mod_allTo_L5, o.nb, if_pos (by rw [nI_leI (by omega) (by omega)]; omega)]
  | succ m ih =>
    intro n k hk hn
    obtain ⟨n, rfl⟩ : ∃ z, n = z + 1 := ⟨n - 1, by omega⟩
    have hb : k < T 4 0 := by omega
    have hl := hst_le (T := T) (r := r) (q := q) (cell := cel T k h) (e := ear T k)
    have ih2 := ih n (k + 1) (by omega) (by omega)
    rw [orN_s] at ih2
    rw [f_Mod_allTo_L5, o.nb, if_neg (by rw [nI_leI (by omega) (by omega)]; omega), nI_1, e_nmI, b_or0]
    by_cases hx : bt k = true
    · rw [if_pos ((hbt k hb).mpr hx)]
      rw [if_neg (by simp [hx])] at ih2
      exact ih2
    · rw [if_neg (fun e => hx ((hbt k hb).mp e)), m_step o g hq hp hb hh, e_bnd]
      by_cases h0 : hst T r q (cel T k h) (ear T k) = 0
      · rw [if_pos (by rw [h0]; rfl)]
        rw [if_neg (by simp [h0])] at ih2
        exact ih2
      · rw [if_neg (by rw [enc_4 (by omega)]; exact h0)]
        rw [if_pos (by simp [h0, hx])] at ih2
        exact ih2
theorem m_all (o : OnM T M) (g : Good T) {h r s : Nat} {q : PS} {x2 : Int32} {bt : Nat → Bool} (hbt : ∀ c, c < T 4 0 → (nI c = x2 ↔ bt c = true)) (hq : pin T 0 q) (hp : PthM T r s q M) (hh : h < 12) : f_Mod_allTo M (nI h) x2 = some (orN (fun c => decide (hst T r q (cel T c h) (ear T c) ≠ 0) && !bt c) (T 4 0)) := by
  have h9 := g.n
  exact m_allL o g hbt hq hp hh (T 4 0) 1000 0 (by omega) (by omega)
theorem m_heardOf (o : OnM T M) (g : Good T) {b h : Nat} (hb : b < T 4 0) (hh : h < 12) : ∃ M', f_Mod_heardOf (nI b) (nI h) M = some (hrs T b h, M') ∧ Frp M M' := by
  have h9 := g.n
  obtain ⟨M', a1, a2, a3⟩ := m_layOf o g hb hh
  refine ⟨M', ?_, a2⟩
  unfold f_Mod_heardOf
  rw [a1, e_bnd, m_all (bt := fun c => decide (c = b)) (o.fr a2.m) g (fun c hc => by rw [nI_eq (by omega) (by omega)]; simp) (qb_in g hb) a3 hh, e_bnd]
  have e : orN (fun c => decide (hst T (rsd T b) (qb T b h) (cel T c h) (ear T c) ≠ 0) && !decide (c = b)) (T 4 0) = hrs T b h := orN_cg (fun c _ => by simp [hrd])
  rw [e]
theorem m_findL (g : Good T) {h : Nat} (hh : h < 12) : ∀ (m n k : Nat) (M : Mem), OnM T M → k + m = T 4 0 → m < n → (∀ b, b < k → M 115 b = hrs T b h) → ∃ M', f_Mod_findHeards_L2 n (nI h) (nI k) M = some M' ∧ Frb M M' ∧ ∀ b, b < T 4 0 → M' 115 b = hrs T b h := by
  have h9 := g.n
  intro m
  induction m with
  | zero =>
    intro n k M o hk hn hf
    obtain ⟨n, rfl⟩ : ∃ z, n = z + 1 := ⟨n - 1, by omega⟩
    have e : k = T 4 0 := by omega
    subst e
    rw [f_Mod_findHeards_L2, o.nb, if_pos (by rw [nI_leI (by omega) (by omega)]; omega)]
    exact ⟨M, rfl, Frb.rf, hf⟩
  | succ m ih =>
    intro n k M o hk hn hf
    obtain ⟨n, rfl⟩ : ∃ z, n = z + 1 := ⟨n - 1, by omega⟩
    obtain ⟨M1, a1, a2⟩ := m_heardOf (b := k) o g (by omega) hh
    rw [f_Mod_findHeards_L2, o.nb, if_neg (by rw [nI_leI (by omega) (by omega)]; omega), a1, e_bnd2, e_ckn (by omega) (by decide), e_set, nI_1, show ix (nI k) = k from e_ix (by omega)]
    have f1 : Frb M (upd2 M1 115 k (hrs T k h)) := a2.b.set (by omega) (by omega)
    obtain ⟨M', b1, b2, b3⟩ := ih n (k + 1) (upd2 M1 115 k (hrs T k h)) (o.fr f1.m) (by omega) (by omega) (fun b hb => by
      by_cases e : b = k
      · subst e; exact u_eq
      · rw [u_nk e, a2 115 b (by omega) (by omega) (fun e => by omega)]
        exact hf b (by omega))
    exact ⟨M', b1, f1.tr b2, b3⟩
theorem m_find (o : OnM T M) (g : Good T) {h : Nat} (hh : h < 12) : ∃ M', f_Mod_findHeards (nI h) M = some M' ∧ Frb M M' ∧ ∀ b, b < T 4 0 → M' 115 b = hrs T b h := by
  have h9 := g.n
  exact m_findL g hh (T 4 0) 1000 0 M o (by omega) (by omega) (fun b hb => by omega)
theorem m_sitL : ∀ (m n k : Nat) (M : Mem), OnM T M → k + m = 6 → m < n → (∀ p, p < k → M 116 p = nI (T 3 p)) → ∃ M', f_Mod_sitsAsNow_L2 n (nI k) M = some M' ∧ (∀ a, a ≠ 116 → M' a = M a) ∧ ∀ p, p < 6 → M' 116 p = nI (T 3 p) := by
  intro m
  induction m with
  | zero =>
    intro n k M o hk hn hf
    obtain ⟨n, rfl⟩ : ∃ z, n = z + 1 := ⟨n - 1, by omega⟩
    have e : k = 6 := by omega
    subst e
    rw [f_Mod_sitsAsNow_L2, if_pos (by decide)]
    exact ⟨M, rfl, fun _ _ => rfl, hf⟩
  | succ m ih =>
    intro n k M o hk hn hf
    obtain ⟨n, rfl⟩ : ∃ z, n = z + 1 := ⟨n - 1, by omega⟩
    rw [f_Mod_sitsAsNow_L2, if_neg (by rw [l6, nI_leI (by omega) (by omega)]; omega), l82, nI_add, e_ckn (by omega) (by decide), e_ckn (by omega) (by decide), e_set, nI_1, show ix (nI k) = k from e_ix (by omega), show ix (nI (82 + k)) = 82 + k from e_ix (by omega), o.p (show k < 6 by omega)]
    obtain ⟨M', b1, b2, b3⟩ := ih n (k + 1) (upd2 M 116 k (nI (T 3 k))) (o.fr (Frm.rf.set (by omega) (by omega))) (by omega) (by omega) (fun p hp => by
      by_cases e : p = k
      · subst e; exact u_eq
      · rw [u_nk e]
        exact hf p (by omega))
    exact ⟨M', b1, fun a ha => by rw [b2 a ha, u_ne ha], b3⟩
theorem m_brokenByL (o : OnM T M) (g : Good T) {h : Nat} {S : Nat → Nat} (hL : ∀ b, b < T 4 0 → M 115 b = hrs T b h) (hS : ∀ p, p < T 1 5 → M 116 p = nI (S p) ∧ S p < T 4 0) : ∀ (m n k : Nat), k + m = T 10 0 → m < n → f_Mod_brokenBy_L4 M n (orN (bkP T S h) k) (nI k) = some (orN (bkP T S h) (T 10 0)) := by
  have h9 := g.nw
  have h8 := g.n
  intro m
  induction m with
  | zero =>
    intro n k hk hn
    obtain ⟨n, rfl⟩ : ∃ z, n = z + 1 := ⟨n - 1, by omega⟩
    have e : k = T 10 0 := by omega
    subst e
    rw [f_Mod_brokenBy_L4, o.nw, if_pos (by rw [nI_leI (by omega) (by omega)]; omega)]
  | succ m ih =>
    intro n k hk hn
    obtain ⟨n, rfl⟩ : ∃ z, n = z + 1 := ⟨n - 1, by omega⟩
    have hi : k < T 10 0 := by omega
    have hw := g.wi hi
    have s1 := hS _ hw.1
    have s2 := hS _ hw.2.1
    have hle := hbN_le (T := T) (b := S (T 11 k)) (c := S (T 12 k)) (h := h)
    have ih2 := ih n (k + 1) (by omega) (by omega)
    rw [orN_s] at ih2
    rw [f_Mod_brokenBy_L4, o.nw, if_neg (by rw [nI_leI (by omega) (by omega)]; omega)]
    simp (disch := omega) only [e_bnd, e_bnd2, e_set, e_cpy, e_nmI, e_nmL, e_ckn, e_ckB0, e_ckB1, l0, l1, l2, l3, l4, l5, l6, l7, l8, l9, l10, l11, l12, l13, l14, l15, l16, l17, l18, l19, l20, l21, l22, l24, l25, l32, l39, l40, l41, l48, l50, l56, l57, l59, l60, l72, l79, l80, l81, l82, l88, l89, l97, l100, l122, l124, l125, l160, l255, l312, l320, l375, l1000, nI_ltI, nI_leI, nI_eq, nI_add, pk_mul, e_ix, e_neg, if_true, if_false, if_pos, if_neg, pk_mul, o.w0 hi, o.w1 hi, o.w2 hi, s1.1, s2.1, hL _ s1.2]
    rw [← l1, hrs_bit g s2.2]
    by_cases h0 : hbN T (S (T 11 k)) (S (T 12 k)) h = T 13 k
    · rw [if_pos (by rw [h0]), f_Mod_brokenBy_J69, f_Mod_flag, if_pos (by rfl), e_bnd, e_nmI, nI_1]
      rw [if_neg (by simp [bkP, h0])] at ih2
      have e0 : ∀ i, i < 12 → jshl 0 (nI i) = 0 := by decide +kernel
      rw [e0 k (by omega), b_or0]
      exact ih2
    · rw [if_neg (by rw [nI_eq (by omega) (by omega)]; exact h0), f_Mod_brokenBy_J69, f_Mod_flag, if_neg (by decide), e_bnd, e_nmI, nI_1]
      rw [if_pos (by simp [bkP, h0])] at ih2
      exact ih2
theorem m_brokenBy (o : OnM T M) (g : Good T) {h : Nat} {S : Nat → Nat} (hL : ∀ b, b < T 4 0 → M 115 b = hrs T b h) (hS : ∀ p, p < T 1 5 → M 116 p = nI (S p) ∧ S p < T 4 0) : f_Mod_brokenBy M = some (orN (bkP T S h) (T 10 0)) := by
  have h9 := g.nw
  exact m_brokenByL o g hL hS (T 10 0) 1000 0 (by omega) (by omega)
theorem m_broken (o : OnM T M) (g : Good T) {h : Nat} (hh : h < 12) : ∃ M', f_Mod_brokenIn (nI h) M = some (brk T h, M') ∧ Frb M M' := by
  have h9 := g.n
  obtain ⟨M1, a1, a2, a3⟩ := m_find o g hh
  have o1 := o.fr a2.m
  obtain ⟨M2, b1, b2, b3⟩ := m_sitL 6 1000 0 M1 o1 rfl (by decide) (fun p hp => by omega)
  have f2 : Frb M1 M2 := fun a k q r => by rw [b2 a (by omega)]
  refine ⟨M2, ?_, a2.tr f2⟩
  unfold f_Mod_brokenIn
  rw [a1, e_bnd]
  show bnd (f_Mod_sitsAsNow_L2 1000 (nI 0) M1) _ = _
  rw [b1, e_bnd, m_brokenBy (h := h) (S := fun p => T 3 p) (o1.fr f2.m) g (fun b hb => by rw [b2 115 (by decide)]; exact a3 b hb) (fun p hp => ⟨b3 p (by omega), g.p hp⟩), e_bnd]
  rfl
end HB
