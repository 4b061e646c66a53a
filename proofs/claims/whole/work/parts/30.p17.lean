/-! pure: where -/
theorem cnt_sfi {P : Nat → Bool} : ∀ n, cntN P n = 0 ↔ ¬ sfi P n < n
  | 0 => ⟨fun _ => Nat.lt_irrefl 0, fun _ => rfl⟩
  | n + 1 => by
    have ih := cnt_sfi (P := P) n
    have hl := (sfi_sp (P := P) n).1
    rw [cntN_s, sfi_s]
    by_cases q : sfi P n < n
    · rw [if_pos q]
      by_cases r : P n = true
      · rw [if_pos r]; omega
      · rw [if_neg r]; omega
    · rw [if_neg q]
      by_cases r : P n = true
      · rw [if_pos r, if_pos r]; omega
      · rw [if_neg r, if_neg r]; omega
theorem cnt_mono {P : Nat → Bool} (a : Nat) : ∀ d, cntN P a ≤ cntN P (a + d)
  | 0 => Nat.le_refl _
  | d + 1 => by
    have := cnt_mono (P := P) a d
    show _ ≤ cntN P (a + d + 1)
    rw [cntN_s]
    split <;> omega
def hbC (T : Tn) (c d h : Nat) : Int32 := orN (fun b => decide (hst T 0 (q0 c d) (cel T b h) (ear T b) ≠ 0)) (T 4 0)
def fdP (T : Tn) (w : Int32) (h c : Nat) : Nat → Bool := fun d => decide (hbC T c d h = w)
def e8 (n r : Nat) : Int32 := if r < n then nI r else -4
def fd (T : Tn) (w : Int32) (h c : Nat) : Nat := sfi (fdP T w h c) 8
def dvI (T : Tn) (w : Int32) (h c : Nat) : Int32 := if (c % 9 < T 1 0 ∧ c / 9 < T 1 1) ∧ T 2 c = 0 then e8 8 (fd T w h c) else -4
def whP (T : Tn) (w : Int32) (h : Nat) : Nat → Bool := fun c => decide (dvI T w h c ≠ -4)
theorem e8_4 {n r : Nat} (hn : n < 1000) : (e8 n r = -4) = ¬ r < n := by
  unfold e8
  by_cases h : r < n
  · rw [if_pos h, l4, e_neg (by omega) (by omega) (by omega)]; simp [h]
  · rw [if_neg h]; simp [h]
theorem c_fdL {T : Tn} (g : Good T) {w : Int32} {h c : Nat} (hh : h < 12) (hc : isC T c) : ∀ (m n k : Nat) (M : Mem), On T M → k + m = 8 → m < n → (∀ j, j < k → fdP T w h c j = false) → ∃ M', f_Hal_firstDirectionHeardBy_L3 n w (nI c) (nI h) (nI k) M = some (e8 8 (fd T w h c), M') ∧ Fr 73 76 M M' := by
  intro m
  induction m with
  | zero =>
    intro n k M o hk hn hf
    obtain ⟨n, rfl⟩ : ∃ z, n = z + 1 := ⟨n - 1, by omega⟩
    have e : k = 8 := by omega
    subst e
    have ea : fd T w h c = 8 := sfi_is (Nat.le_refl _) hf (fun h => absurd h (Nat.lt_irrefl _))
    refine ⟨M, ?_, Fr.rf⟩
    rw [f_Hal_firstDirectionHeardBy_L3, if_pos (by decide), ea]
    rfl
  | succ m ih =>
    intro n k M o hk hn hf
    obtain ⟨n, rfl⟩ : ∃ z, n = z + 1 := ⟨n - 1, by omega⟩
    obtain ⟨M1, p1, p2, p3⟩ := c_run (c := 73) (r := 0) o g hc (show k < 8 by omega) (by decide) (by decide)
    have l1' := c_latest (gg := 72) (o.fr p2 (by decide)) g (q0_in hc (show k < 8 by omega)) p3 hh
    rw [f_Hal_firstDirectionHeardBy_L3, if_neg (by rw [l8, nI_leI (by omega) (by omega)]; omega), show (0 : Int32) = nI 0 from rfl, p1, e_bnd, l1', e_bnd, nI_1]
    by_cases q : hbC T c k h = w
    · have ea : fd T w h c = k := sfi_is (by omega) hf (fun _ => decide_eq_true q)
      refine ⟨M1, ?_, p2⟩
      rw [if_pos (show orN (fun b => decide (hst T 0 (q0 c k) (cel T b h) (ear T b) ≠ 0)) (T 4 0) = w from q), ea, e8, if_pos (by omega)]
    · obtain ⟨M', r1, r2⟩ := ih n (k + 1) M1 (o.fr p2 (by decide)) (by omega) (by omega) (fun j hj => by
        by_cases e : j = k
        · subst e; exact decide_eq_false q
        · exact hf j (by omega))
      refine ⟨M', ?_, p2.tr r2⟩
      rw [if_neg (show ¬ orN (fun b => decide (hst T 0 (q0 c k) (cel T b h) (ear T b) ≠ 0)) (T 4 0) = w from q)]
      exact r1
def whR (T : Tn) (w : Int32) (h x : Nat) : Int32 := if x = 0 then nI (cntN (whP T w h) 81) else if x = 1 then e8 81 (sfi (whP T w h) 81) else (if sfi (whP T w h) 81 < 81 then dvI T w h (sfi (whP T w h) 81) else -4)
theorem c_whereL {T : Tn} (g : Good T) {w : Int32} {h x : Nat} (hh : h < 12) (hx : x ≤ 2) : ∀ (m n k : Nat) (M : Mem), On T M → k + m = 81 → m < n → ∃ M', f_Hal_where_L53 n w (nI h) (nI x) (nI (cntN (whP T w h) k)) (e8 k (sfi (whP T w h) k)) (if sfi (whP T w h) k < k then dvI T w h (sfi (whP T w h) k) else -4) (nI k) M = some (whR T w h x, M') ∧ Fr 73 76 M M' := by
  intro m
  induction m with
  | zero =>
    intro n k M o hk hn
    obtain ⟨n, rfl⟩ : ∃ z, n = z + 1 := ⟨n - 1, by omega⟩
    have e : k = 81 := by omega
    subst e
    refine ⟨M, ?_, Fr.rf⟩
    rw [f_Hal_where_L53, if_pos (show (81 : Int32) ≤ nI 81 by decide), whR]
    rcases (show x = 0 ∨ x = 1 ∨ x = 2 by omega) with rfl | rfl | rfl
    · rw [if_pos (show nI 0 = 0 from rfl), if_pos rfl]
    · rw [if_neg (show ¬ nI 1 = 0 by decide), if_pos (show nI 1 = 1 from rfl), if_neg (by decide), if_pos rfl]
    · rw [if_neg (show ¬ nI 2 = 0 by decide), if_neg (show ¬ nI 2 = 1 by decide), if_neg (show ¬ (2 : Nat) = 0 by decide), if_neg (show ¬ (2 : Nat) = 1 by decide)]
  | succ m ih =>
    intro n k M o hk hn
    obtain ⟨n, rfl⟩ : ∃ z, n = z + 1 := ⟨n - 1, by omega⟩
    have hc : k < 81 := by omega
    have hT2 := g.c hc
    have hle := (sfi_sp (P := whP T w h) k).1
    have hcl := cntN_le (P := whP T w h) k
    have hcs := cnt_sfi (P := whP T w h) k
    -- the step, once the direction is known
    have step : ∀ M1, On T M1 → Fr 73 76 M M1 → ∃ M', f_Hal_where_J85 (f_Hal_where_L53 n) w (nI h) (nI x) (nI (cntN (whP T w h) k)) (e8 k (sfi (whP T w h) k)) (if sfi (whP T w h) k < k then dvI T w h (sfi (whP T w h) k) else -4) (nI k) (dvI T w h k) M1 = some (whR T w h x, M') ∧ Fr 73 76 M M' := fun M1 o1 f1 => by
      obtain ⟨M', r1, r2⟩ := ih n (k + 1) M1 o1 (by omega) (by omega)
      refine ⟨M', ?_, f1.tr r2⟩
      rw [cntN_s, sfi_s] at r1
      unfold f_Hal_where_J85 f_Hal_where_J107
      by_cases q : dvI T w h k = -4
      · have hP : ¬ whP T w h k = true := fun e => (of_decide_eq_true e) q
        rw [if_neg hP] at r1
        rw [if_pos q, if_pos q, e_nmI, l0, nI_add, Nat.add_zero, nI_1]
        by_cases t : sfi (whP T w h) k < k
        · rw [if_pos t] at r1 ⊢
          rw [if_pos (show sfi (whP T w h) k < k + 1 by omega), e8, if_pos (show sfi (whP T w h) k < k + 1 by omega)] at r1
          rw [e8, if_pos t]
          exact r1
        · rw [if_neg t] at r1 ⊢
          rw [if_neg hP, if_neg (Nat.lt_irrefl _), e8, if_neg (Nat.lt_irrefl _)] at r1
          rw [e8, if_neg t]
          exact r1
      · have hP : whP T w h k = true := decide_eq_true q
        rw [if_pos hP] at r1
        rw [if_neg q, if_neg q, if_neg q, e_nmI, nI_1, nI_1]
        by_cases t : sfi (whP T w h) k < k
        · rw [if_pos t] at r1 ⊢
          rw [if_pos (show sfi (whP T w h) k < k + 1 by omega), e8, if_pos (show sfi (whP T w h) k < k + 1 by omega)] at r1
          rw [if_neg (by rw [l0, nI_eq (by omega) (by omega)]; omega), e8, if_pos t]
          exact r1
        · rw [if_neg t] at r1 ⊢
          rw [if_pos hP, if_pos (Nat.lt_succ_self k), e8, if_pos (Nat.lt_succ_self k)] at r1
          rw [if_pos (by rw [l0, nI_eq (by omega) (by omega)]; omega)]
          exact r1
    have e1 := c_isCell o g hc
    have e2 := c_state o hc
    rw [f_Hal_where_L53, if_neg (by rw [l81, nI_leI (by omega) (by omega)]; omega)]
    unfold f_Tol_isFree
    rw [e1, e2]
    by_cases q : k % 9 < T 1 0 ∧ k / 9 < T 1 1
    · rw [if_pos q, e_bnd, if_neg (by decide), e_bnd]
      by_cases r : T 2 k = 0
      · rw [r, if_pos (show nI 0 = 0 from rfl), e_bnd, if_neg (by decide)]
        obtain ⟨M1, p1, p2⟩ := c_fdL g (w := w) hh (show isC T k from ⟨hc, q⟩) 8 1000 0 M o rfl (by decide) (fun j hj => by omega)
        have ed : dvI T w h k = e8 8 (fd T w h k) := if_pos ⟨q, r⟩
        rw [show f_Hal_firstDirectionHeardBy w (nI k) (nI h) M = some (e8 8 (fd T w h k), M1) from p1, e_bnd2, ← ed]
        exact step M1 (o.fr p2 (by decide)) p2
      · rw [if_neg (by rw [l0, nI_eq (by omega) (by omega)]; exact r), e_bnd, if_pos rfl]
        have ed : dvI T w h k = -4 := if_neg (fun t => r t.2)
        have st := step M o Fr.rf
        rw [ed] at st
        exact st
    · rw [if_neg q, e_bnd, if_pos (by rfl), e_bnd, if_pos rfl]
      have ed : dvI T w h k = -4 := if_neg (fun t => q t.1)
      have st := step M o Fr.rf
      rw [ed] at st
      exact st
/-! the reference's -/
section WM
variable {T : Tn} {k48 : Int32 → Int32 → Int32 → Int32 → Int32 → Int32 → Int32 → Mem → Option (Int32 × Mem)}
theorem m_fdL (g : Good T) {w : Int32} {h c : Nat} {x3 x4 x5 x6 : Int32} (hh : h < 12) (hc : isC T c) (h0 : T 2 c = 0) : ∀ (d n r : Nat) (M : Mem), OnM T M → d < 8 → d + 1 < n → ((r = 8 ∧ ∀ j, d < j → j < 8 → fdP T w h c j = false) ∨ (d < r ∧ r < 8 ∧ fdP T w h c r = true ∧ ∀ j, d < j → j < r → fdP T w h c j = false)) →
    ∃ M', f_Mod_where_L61 k48 n w (nI h) x3 x4 x5 x6 (nI c) (e8 8 r) (nI d) M = f_Mod_where_J120 k48 w (nI h) x3 x4 x5 x6 (nI c) (e8 8 (fd T w h c)) M' ∧ Frp M M' := by
  have h9 := g.n
  have hc1 := hc.1
  intro d
  induction d with
  | zero =>
    intro n r M o hd hn hr
    obtain ⟨n, rfl⟩ : ∃ z, n = z + 2 := ⟨n - 2, by omega⟩
    obtain ⟨M1, p1, p2, p3⟩ := m_path (r := 0) o g hc (show 0 < 8 by decide) (by decide)
    have o1 := o.fr p2.m
    have l1' := m_all (x2 := -4) (bt := fun _ => false) o1 g (fun c hc => ⟨fun e => by rw [l4, e_neg (by omega) (by omega) (by omega)] at e; exact e.elim, fun e => absurd e (by decide)⟩) (q0_in hc (show 0 < 8 by decide)) p3 hh
    have e1 : orN (fun b => decide (hst T 0 (q0 c 0) (cel T b h) (ear T b) ≠ 0) && !false) (T 4 0) = hbC T c 0 h := orN_cg (fun b _ => by simp)
    rw [e1] at l1'
    refine ⟨M1, ?_, p2⟩
    rw [f_Mod_where_L61, if_neg (by decide), m_isCell o g hc1, if_pos hc.2, e_bnd, if_neg (by decide), e_ckn (by omega) (by decide), show ix (nI c) = c from e_ix (by omega), o.c hc1, h0, if_pos (show nI 0 = 0 from rfl), show (0 : Int32) = nI 0 from rfl, p1, e_bnd, l1', e_bnd]
    by_cases q : hbC T c 0 h = w
    · have ea : fd T w h c = 0 := sfi_is (by omega) (fun j hj => by omega) (fun _ => decide_eq_true q)
      rw [if_pos q, f_Mod_where_L61, if_pos (by decide), ea]
      rfl
    · rw [if_neg q, f_Mod_where_L61, if_pos (by decide)]
      have ea : fd T w h c = r := by
        rcases hr with ⟨rfl, h2⟩ | ⟨h1, h2, h3, h4⟩
        · refine sfi_is (Nat.le_refl _) (fun j hj => ?_) (fun h => absurd h (Nat.lt_irrefl _))
          by_cases e : j = 0
          · subst e; exact decide_eq_false q
          · exact h2 j (by omega) hj
        · refine sfi_is (by omega) (fun j hj => ?_) (fun _ => h3)
          by_cases e : j = 0
          · subst e; exact decide_eq_false q
          · exact h4 j (by omega) hj
      rw [ea]
  | succ d ih =>
    intro n r M o hd hn hr
    obtain ⟨n, rfl⟩ : ∃ z, n = z + 1 := ⟨n - 1, by omega⟩
    obtain ⟨M1, p1, p2, p3⟩ := m_path (r := 0) o g hc hd (by decide)
    have o1 := o.fr p2.m
    have l1' := m_all (x2 := -4) (bt := fun _ => false) o1 g (fun c hc => ⟨fun e => by rw [l4, e_neg (by omega) (by omega) (by omega)] at e; exact e.elim, fun e => absurd e (by decide)⟩) (q0_in hc hd) p3 hh
    have e1 : orN (fun b => decide (hst T 0 (q0 c (d + 1)) (cel T b h) (ear T b) ≠ 0) && !false) (T 4 0) = hbC T c (d + 1) h := orN_cg (fun b _ => by simp)
    rw [e1] at l1'
    rw [f_Mod_where_L61, if_neg (by rw [l0, nI_ltI (by omega) (by omega)]; omega), m_isCell o g hc1, if_pos hc.2, e_bnd, if_neg (by decide), e_ckn (by omega) (by decide), show ix (nI c) = c from e_ix (by omega), o.c hc1, h0, if_pos (show nI 0 = 0 from rfl), show (0 : Int32) = nI 0 from rfl, p1, e_bnd, l1', e_bnd, pk_m1]
    by_cases q : hbC T c (d + 1) h = w
    · obtain ⟨M', r1, r2⟩ := ih n (d + 1) M1 o1 (by omega) (by omega) (Or.inr ⟨by omega, hd, decide_eq_true q, fun j a b => by omega⟩)
      refine ⟨M', ?_, p2.tr r2⟩
      rw [if_pos q]
      rw [show e8 8 (d + 1) = nI (d + 1) from if_pos hd] at r1
      exact r1
    · have hf : fdP T w h c (d + 1) = false := decide_eq_false q
      obtain ⟨M', r1, r2⟩ := ih n r M1 o1 (by omega) (by omega) (by
        rcases hr with ⟨rfl, h2⟩ | ⟨h1, h2, h3, h4⟩
        · refine Or.inl ⟨rfl, fun j a b => ?_⟩
          by_cases e : j = d + 1
          · subst e; exact hf
          · exact h2 j (by omega) b
        · refine Or.inr ⟨by omega, h2, h3, fun j a b => ?_⟩
          by_cases e : j = d + 1
          · subst e; exact hf
          · exact h4 j (by omega) b)
      refine ⟨M', ?_, p2.tr r2⟩
      rw [if_neg q]
      exact r1
end WM
theorem m_J120 {k48 : Int32 → Int32 → Int32 → Int32 → Int32 → Int32 → Int32 → Mem → Option (Int32 × Mem)} {w x3 x5 x6 x7 v : Int32} {h a : Nat} {M : Mem} : f_Mod_where_J120 k48 w (nI h) x3 (nI a) x5 x6 x7 v M = if v = -4 then k48 w (nI h) x3 (nI a) x5 x6 (x7 + (-1)) M else k48 w (nI h) x3 (nI (a + 1)) x7 v (x7 + (-1)) M := by
  unfold f_Mod_where_J120 f_Mod_where_J134 f_Mod_where_J154
  by_cases q : v = -4
  · rw [if_pos q, if_pos q, f_Mod_flag, if_pos rfl, e_bnd, e_nmI, if_pos q, if_pos q, l0, nI_add, Nat.add_zero]
  · rw [if_neg q, if_neg q, f_Mod_flag, if_neg (by decide), e_bnd, e_nmI, if_neg q, if_neg q, nI_1]
theorem m_cellW {T : Tn} (g : Good T) {w : Int32} {h : Nat} (hh : h < 12) {k48 : Int32 → Int32 → Int32 → Int32 → Int32 → Int32 → Int32 → Mem → Option (Int32 × Mem)} {x3 x4 x5 x6 : Int32} {k : Nat} {M : Mem} (o : OnM T M) (hk : k < 81) : ∃ M', f_Mod_where_L61 k48 1000 w (nI h) x3 x4 x5 x6 (nI k) (-4) 7 M = f_Mod_where_J120 k48 w (nI h) x3 x4 x5 x6 (nI k) (dvI T w h k) M' ∧ Frp M M' := by
  have hT2 := g.c hk
  by_cases q : k % 9 < T 1 0 ∧ k / 9 < T 1 1
  · by_cases t : T 2 k = 0
    · have ed : dvI T w h k = e8 8 (fd T w h k) := if_pos ⟨q, t⟩
      rw [ed]
      exact m_fdL g hh (show isC T k from ⟨hk, q⟩) t 7 1000 8 M o (by decide) (by decide) (Or.inl ⟨rfl, fun j a b => by omega⟩)
    · have ed : dvI T w h k = -4 := if_neg (fun u => t u.2)
      refine ⟨M, ?_, Frp.rf⟩
      rw [ed, show (1000 : Nat) = 999 + 1 from rfl, f_Mod_where_L61, if_neg (by decide), m_isCell o g hk, if_pos q, e_bnd, if_neg (by decide), e_ckn (by omega) (by decide), show ix (nI k) = k from e_ix (by omega), o.c hk, if_neg (by rw [l0, nI_eq (by omega) (by omega)]; exact t)]
  · have ed : dvI T w h k = -4 := if_neg (fun u => q u.1)
    refine ⟨M, ?_, Frp.rf⟩
    rw [ed, show (1000 : Nat) = 999 + 1 from rfl, f_Mod_where_L61, if_neg (by decide), m_isCell o g hk, if_neg q, e_bnd, if_pos (by rfl)]
/-- the first of those above k that count: r -/
def fsA (P : Nat → Bool) (k r : Nat) : Prop := (r = 81 ∧ ∀ j, k ≤ j → j < 81 → P j = false) ∨ (k ≤ r ∧ r < 81 ∧ P r = true ∧ ∀ j, k ≤ j → j < r → P j = false)
theorem fsA_s {P : Nat → Bool} {k r : Nat} (h : fsA P (k + 1) r) (hk : k < 81) : fsA P k (if P k = true then k else r) := by
  by_cases q : P k = true
  · rw [if_pos q]
    exact Or.inr ⟨Nat.le_refl _, hk, q, fun j a b => by omega⟩
  · rw [if_neg q]
    rcases h with ⟨rfl, h2⟩ | ⟨h1, h2, h3, h4⟩
    · refine Or.inl ⟨rfl, fun j a b => ?_⟩
      by_cases e : j = k
      · subst e; exact Bool.eq_false_iff.mpr q
      · exact h2 j (by omega) b
    · refine Or.inr ⟨by omega, h2, h3, fun j a b => ?_⟩
      by_cases e : j = k
      · subst e; exact Bool.eq_false_iff.mpr q
      · exact h4 j (by omega) b
theorem fsA_0 {P : Nat → Bool} {r : Nat} (h : fsA P 0 r) : sfi P 81 = r := by
  rcases h with ⟨rfl, h2⟩ | ⟨h1, h2, h3, h4⟩
  · exact sfi_is (Nat.le_refl _) (fun j hj => h2 j (by omega) hj) (fun h => absurd h (Nat.lt_irrefl _))
  · exact sfi_is (by omega) (fun j hj => h4 j (by omega) hj) (fun _ => h3)
def whO (T : Tn) (w : Int32) (h r : Nat) : Int32 := if r < 81 then dvI T w h r else -4
theorem m_whereL {T : Tn} (g : Good T) {w : Int32} {h x : Nat} (hh : h < 12) (hx : x ≤ 2) : ∀ (k n r : Nat) (M : Mem), OnM T M → k < 81 → k + 1 < n → fsA (whP T w h) (k + 1) r →
    ∃ M', f_Mod_where_L48 n w (nI h) (nI x) (nI (cntN (whP T w h) 81 - cntN (whP T w h) (k + 1))) (e8 81 r) (whO T w h r) (nI k) M = some (whR T w h x, M') ∧ Frp M M' := by
  intro k
  have hm : ∀ k, k ≤ 81 → cntN (whP T w h) k ≤ cntN (whP T w h) 81 := fun k hk => by
    have := cnt_mono (P := whP T w h) k (81 - k)
    rw [show k + (81 - k) = 81 by omega] at this
    exact this
  have h81 := cntN_le (P := whP T w h) 81
  -- behind one cell, the next state
  have next : ∀ (k n r : Nat) (x7 : Int32) (M : Mem), k < 81 → f_Mod_where_J120 (f_Mod_where_L48 n) w (nI h) (nI x) (nI (cntN (whP T w h) 81 - cntN (whP T w h) (k + 1))) (e8 81 r) (whO T w h r) (nI k) (dvI T w h k) M = f_Mod_where_L48 n w (nI h) (nI x) (nI (cntN (whP T w h) 81 - cntN (whP T w h) k)) (e8 81 (if whP T w h k = true then k else r)) (whO T w h (if whP T w h k = true then k else r)) (nI k + (-1)) M := fun k n r x7 M hk => by
    have h1 := hm (k + 1) (by omega)
    rw [m_J120]
    by_cases q : dvI T w h k = -4
    · have hP : ¬ whP T w h k = true := fun e => (of_decide_eq_true e) q
      have hs : cntN (whP T w h) (k + 1) = cntN (whP T w h) k := by rw [cntN_s, if_neg hP]
      rw [if_pos q, if_neg hP, hs]
    · have hP : whP T w h k = true := decide_eq_true q
      have hs : cntN (whP T w h) (k + 1) = cntN (whP T w h) k + 1 := by rw [cntN_s, if_pos hP]
      rw [if_neg q, if_pos hP, whO, if_pos hk, e8, if_pos hk, show cntN (whP T w h) 81 - cntN (whP T w h) (k + 1) + 1 = cntN (whP T w h) 81 - cntN (whP T w h) k by omega]
  induction k with
  | zero =>
    intro n r M o hk hn hr
    obtain ⟨n, rfl⟩ : ∃ z, n = z + 2 := ⟨n - 2, by omega⟩
    obtain ⟨M1, p1, p2⟩ := m_cellW g (w := w) hh (k48 := f_Mod_where_L48 (n + 1)) (x3 := nI x) (x4 := nI (cntN (whP T w h) 81 - cntN (whP T w h) (0 + 1))) (x5 := e8 81 r) (x6 := whO T w h r) o hk
    refine ⟨M1, ?_, p2⟩
    have hr0 := fsA_0 (fsA_s hr hk)
    rw [f_Mod_where_L48, if_neg (by decide), p1, next 0 (n + 1) r 0 M1 hk, f_Mod_where_L48, if_pos (by decide), ← hr0, whR]
    rcases (show x = 0 ∨ x = 1 ∨ x = 2 by omega) with rfl | rfl | rfl
    · rw [if_pos (show nI 0 = 0 from rfl), if_pos rfl]
      rfl
    · rw [if_neg (show ¬ nI 1 = 0 by decide), if_pos (show nI 1 = 1 from rfl), if_neg (by decide), if_pos rfl]
    · rw [if_neg (show ¬ nI 2 = 0 by decide), if_neg (show ¬ nI 2 = 1 by decide), if_neg (show ¬ (2 : Nat) = 0 by decide), if_neg (show ¬ (2 : Nat) = 1 by decide)]
      rfl
  | succ k ih =>
    intro n r M o hk hn hr
    obtain ⟨n, rfl⟩ : ∃ z, n = z + 1 := ⟨n - 1, by omega⟩
    obtain ⟨M1, p1, p2⟩ := m_cellW g (w := w) hh (k48 := f_Mod_where_L48 n) (x3 := nI x) (x4 := nI (cntN (whP T w h) 81 - cntN (whP T w h) (k + 1 + 1))) (x5 := e8 81 r) (x6 := whO T w h r) o hk
    obtain ⟨M', r1, r2⟩ := ih n _ M1 (o.fr p2.m) (by omega) (by omega) (fsA_s hr hk)
    refine ⟨M', ?_, p2.tr r2⟩
    rw [f_Mod_where_L48, if_neg (by rw [l0, nI_ltI (by omega) (by omega)]; omega), p1, next (k + 1) n r 0 M1 hk, pk_m1]
    exact r1
theorem s_where (x y z : Int32) : Sim (f_Hal_where x y z) (f_Mod_where x y z) := by
  intro M ⟨T, hA, hI, hS, hT, hF⟩
  obtain ⟨o, om, g⟩ := id hA
  have h8 := g.n
  have e2 : f_Mod_in z.toInt64 0 2 = f_Mod_in z.toInt64 0 (nI 2).toInt64 := rfl
  rcases a_bits (n := T 4 0) x with ⟨d1, d2⟩ | ⟨d1, d2⟩
  · by_cases hx0 : x = 0
    · refine ⟨-1, M, M, ?_, ?_, ⟨T, hA, hI, hS, hT, hF⟩⟩
      · unfold f_Hal_where
        rw [o.nb, d1, e_bnd, if_neg (by decide), if_pos hx0]
      · unfold f_Mod_where
        rw [m_areB om x (Or.inr rfl) d2, e_bnd, if_neg (by decide), if_pos hx0]
    · rcases a_hour y with ⟨h, hh, rfl, b1, b2⟩ | ⟨b1, b2⟩
      · rcases wi z (m := 2) (by decide) with ⟨w, hw, rfl, f1, f2⟩ | ⟨f1, f2, -⟩
        · obtain ⟨M1, p1, p2⟩ := c_whereL g (w := x) hh hw 81 1000 0 M o rfl (by decide)
          have hA1 := hA.frc p2 (by decide) (by decide)
          obtain ⟨M2, q1, q2⟩ := m_whereL g (w := x) hh hw 80 1000 81 M1 hA1.2.1 (by decide) (by decide) (Or.inl ⟨rfl, fun j a b => by omega⟩)
          refine ⟨whR T x h w, M1, M2, ?_, ?_, Inv.to hI hS hT hF ((p2.kp (by decide) (by decide)).tr q2.m.kp) (fun _ _ _ => rfl) (hA1.frm q2.m)⟩
          · unfold f_Hal_where
            rw [o.nb, d1, e_bnd, if_neg (by decide), if_neg hx0, b1, e_bnd, if_neg (by decide), show (0 : Int32) = nI 0 from rfl, show (2 : Int32) = nI 2 from rfl, f1, e_bnd, if_neg (by decide)]
            exact p1
          · unfold f_Mod_where
            rw [m_areB hA1.2.1 x (Or.inr rfl) d2, e_bnd, if_neg (by decide), if_neg hx0, b2, e_bnd, if_neg (by decide), e2, f2, e_bnd, if_neg (by decide)]
            rw [Nat.sub_self] at q1
            exact q1
        · refine ⟨-1, M, M, ?_, ?_, ⟨T, hA, hI, hS, hT, hF⟩⟩
          · unfold f_Hal_where
            rw [o.nb, d1, e_bnd, if_neg (by decide), if_neg hx0, b1, e_bnd, if_neg (by decide), show (0 : Int32) = nI 0 from rfl, show (2 : Int32) = nI 2 from rfl, f1, e_bnd, if_pos (by rfl)]
          · unfold f_Mod_where
            rw [m_areB om x (Or.inr rfl) d2, e_bnd, if_neg (by decide), if_neg hx0, b2, e_bnd, if_neg (by decide), e2, f2, e_bnd, if_pos (by rfl)]
      · refine ⟨-1, M, M, ?_, ?_, ⟨T, hA, hI, hS, hT, hF⟩⟩
        · unfold f_Hal_where
          rw [o.nb, d1, e_bnd, if_neg (by decide), if_neg hx0, b1, e_bnd, if_pos (by rfl)]
        · unfold f_Mod_where
          rw [m_areB om x (Or.inr rfl) d2, e_bnd, if_neg (by decide), if_neg hx0, b2, e_bnd, if_pos (by rfl)]
  · refine ⟨-1, M, M, ?_, ?_, ⟨T, hA, hI, hS, hT, hF⟩⟩
    · unfold f_Hal_where
      rw [o.nb, d1, e_bnd, if_pos (by rfl)]
    · unfold f_Mod_where
      rw [m_areB om x (Or.inl rfl) d2, e_bnd, if_pos (by rfl)]
