/-! pure: bits -/
def orN (P : Nat → Bool) : Nat → Int32
  | 0 => 0
  | n + 1 => if P n = true then orN P n ||| jshl 1 (nI n) else orN P n
theorem orN_0 {P : Nat → Bool} : orN P 0 = 0 := rfl
theorem orN_s {P : Nat → Bool} {n : Nat} : orN P (n + 1) = if P n = true then orN P n ||| jshl 1 (nI n) else orN P n := rfl
theorem orN_cg {P Q : Nat → Bool} : ∀ {n : Nat}, (∀ i, i < n → P i = Q i) → orN P n = orN Q n
  | 0, _ => rfl
  | n + 1, h => by
    rw [orN_s, orN_s, orN_cg (fun i hi => h i (by omega)), h n (by omega)]
theorem b_and_or (a b m : Int32) : (a ||| b) &&& m = (a &&& m) ||| (b &&& m) := by
  apply Int32.toBitVec_inj.1
  simp only [Int32.toBitVec_and, Int32.toBitVec_or]
  exact BitVec.and_or_distrib_right
theorem b_or0 (a : Int32) : a ||| 0 = a := by
  apply Int32.toBitVec_inj.1
  simp
theorem b_0or (a : Int32) : 0 ||| a = a := by
  apply Int32.toBitVec_inj.1
  simp
theorem b_shr_or (a b s : Int32) : jshr (a ||| b) s = jshr a s ||| jshr b s := by
  unfold jshr
  apply Int32.toBitVec_inj.1
  simp only [Int32.toBitVec_shiftRight, Int32.toBitVec_or]
  exact BitVec.sshiftRight_or_distrib _ _ _
theorem b_bit_or (a b s : Int32) : jshr (a ||| b) s &&& 1 = (jshr a s &&& 1) ||| (jshr b s &&& 1) := by
  rw [b_shr_or, b_and_or]
theorem b_one : ∀ n, n < 12 → ∀ i, i < 12 → jshr (jshl 1 (nI n)) (nI i) &&& 1 = if n = i then nI 1 else nI 0 := by decide +kernel
theorem b_zero : ∀ i, i < 12 → jshr 0 (nI i) &&& 1 = nI 0 := by decide +kernel
theorem b_msk : ∀ n, n < 12 → ∀ i, i < 12 → jshl 1 (nI n) &&& (jshl 1 (nI i) ^^^ (-1)) = if n = i then 0 else jshl 1 (nI n) := by decide +kernel
theorem b_0and : ∀ i, i < 12 → (0 : Int32) &&& (jshl 1 (nI i) ^^^ (-1)) = 0 := by decide +kernel
theorem b_pow : ∀ n, n < 12 → ∀ a, a < 2 ^ n → nI a ||| jshl 1 (nI n) = nI (a + 2 ^ n) := by decide +kernel
theorem orN_bit {P : Nat → Bool} {i : Nat} (hi : i < 12) : ∀ {n : Nat}, n ≤ 12 → jshr (orN P n) (nI i) &&& 1 = if i < n ∧ P i = true then nI 1 else nI 0
  | 0, _ => by
    rw [if_neg (by omega), orN_0]
    exact b_zero i hi
  | n + 1, hn => by
    have ih := orN_bit (P := P) hi (n := n) (by omega)
    rw [orN_s]
    by_cases h : P n = true
    · rw [if_pos h, b_bit_or, ih, b_one n (by omega) i hi]
      by_cases e : n = i
      · subst e
        rw [if_pos rfl, if_neg (by omega), if_pos ⟨by omega, h⟩]
        rfl
      · rw [if_neg e]
        by_cases h2 : i < n ∧ P i = true
        · rw [if_pos h2, if_pos ⟨by omega, h2.2⟩]; rfl
        · rw [if_neg h2, if_neg (fun q => h2 ⟨by omega, q.2⟩)]; rfl
    · rw [if_neg h, ih]
      by_cases h2 : i < n ∧ P i = true
      · rw [if_pos h2, if_pos ⟨by omega, h2.2⟩]
      · rw [if_neg h2, if_neg (fun q => h2 ⟨by have : i ≠ n := fun e => h (e ▸ q.2); omega, q.2⟩)]
theorem orN_msk {P : Nat → Bool} {b : Nat} (hb : b < 12) : ∀ {n : Nat}, n ≤ 12 → orN P n &&& (jshl 1 (nI b) ^^^ (-1)) = orN (fun c => P c && decide (c ≠ b)) n
  | 0, _ => by
    rw [orN_0, orN_0]
    exact b_0and b hb
  | n + 1, hn => by
    have ih := orN_msk (P := P) hb (n := n) (by omega)
    rw [orN_s, orN_s]
    by_cases h : P n = true
    · rw [if_pos h, b_and_or, ih, b_msk n (by omega) b hb]
      by_cases e : n = b
      · subst e
        rw [if_pos rfl, b_or0, if_neg (by simp)]
      · rw [if_neg e, if_pos (by simp [h, e])]
    · rw [if_neg h, ih, if_neg (by simp [h])]
def bN (P : Nat → Bool) : Nat → Nat
  | 0 => 0
  | n + 1 => if P n = true then bN P n + 2 ^ n else bN P n
theorem bN_0 {P : Nat → Bool} : bN P 0 = 0 := rfl
theorem bN_s {P : Nat → Bool} {n : Nat} : bN P (n + 1) = if P n = true then bN P n + 2 ^ n else bN P n := rfl
theorem bN_lt {P : Nat → Bool} : ∀ n, bN P n < 2 ^ n
  | 0 => Nat.zero_lt_one
  | n + 1 => by
    have := bN_lt (P := P) n
    rw [bN_s, Nat.pow_succ]
    split <;> omega
theorem orN_bN {P : Nat → Bool} : ∀ {n : Nat}, n ≤ 12 → orN P n = nI (bN P n)
  | 0, _ => rfl
  | n + 1, hn => by
    rw [orN_s, bN_s, orN_bN (by omega)]
    by_cases h : P n = true
    · rw [if_pos h, if_pos h, b_pow n (by omega) _ (bN_lt n)]
    · rw [if_neg h, if_neg h]
def pcn (v : Nat) : Nat := v % 2 + v / 2 % 2 + v / 4 % 2 + v / 8 % 2 + v / 16 % 2 + v / 32 % 2 + v / 64 % 2 + v / 128 % 2 + v / 256 % 2 + v / 512 % 2 + v / 1024 % 2 + v / 2048 % 2
theorem bc_all : ∀ v, v < 256 → f_Int_bitCount (nI v) = some (nI (pcn v)) ∧ f_Mod_bitsOf (nI v) = some (nI (pcn v)) := by decide +kernel
def cntN (P : Nat → Bool) : Nat → Nat
  | 0 => 0
  | n + 1 => if P n = true then cntN P n + 1 else cntN P n
theorem cntN_0 {P : Nat → Bool} : cntN P 0 = 0 := rfl
theorem cntN_s {P : Nat → Bool} {n : Nat} : cntN P (n + 1) = if P n = true then cntN P n + 1 else cntN P n := rfl
theorem cntN_le {P : Nat → Bool} : ∀ n, cntN P n ≤ n
  | 0 => Nat.le_refl 0
  | n + 1 => by
    have := cntN_le (P := P) n
    rw [cntN_s]
    split <;> omega
theorem pcn_pow : ∀ n, n < 9 → ∀ a, a < 2 ^ n → pcn (a + 2 ^ n) = pcn a + 1 := by decide +kernel
theorem pcn_bN {P : Nat → Bool} : ∀ {n : Nat}, n ≤ 8 → pcn (bN P n) = cntN P n
  | 0, _ => by
    rw [bN_0, cntN_0]
    decide
  | n + 1, hn => by
    rw [bN_s, cntN_s]
    by_cases h : P n = true
    · rw [if_pos h, if_pos h, pcn_pow n (by omega) _ (bN_lt n), pcn_bN (by omega)]
    · rw [if_neg h, if_neg h, pcn_bN (by omega)]
theorem c_cnt {P : Nat → Bool} {n : Nat} (hn : n ≤ 8) : f_Int_bitCount (orN P n) = some (nI (cntN P n)) := by
  have h := bN_lt (P := P) n
  have h2 : 2 ^ n ≤ 2 ^ 8 := Nat.pow_le_pow_right (by decide) hn
  rw [orN_bN (by omega), (bc_all _ (by omega)).1, pcn_bN hn]
theorem m_cnt {P : Nat → Bool} {n : Nat} (hn : n ≤ 8) : f_Mod_bitsOf (orN P n) = some (nI (cntN P n)) := by
  have h := bN_lt (P := P) n
  have h2 : 2 ^ n ≤ 2 ^ 8 := Nat.pow_le_pow_right (by decide) hn
  rw [orN_bN (by omega), (bc_all _ (by omega)).2, pcn_bN hn]
/-! who hears -/
/-- the first of 1 .. n of which P says yes; 0: none -/
def fj (P : Nat → Bool) : Nat → Nat
  | 0 => 0
  | n + 1 => if fj P n = 0 then (if P (n + 1) = true then n + 1 else 0) else fj P n
theorem fj_is {P : Nat → Bool} : ∀ {n a : Nat}, (a = 0 ∧ ∀ j, 1 ≤ j → j ≤ n → P j = false) ∨ (1 ≤ a ∧ a ≤ n ∧ P a = true ∧ ∀ j, 1 ≤ j → j < a → P j = false) → fj P n = a
  | 0, a, h => by
    rcases h with h | h
    · exact h.1.symm
    · omega
  | n + 1, a, h => by
    unfold fj
    rcases h with ⟨rfl, h⟩ | ⟨h1, h2, h3, h4⟩
    · rw [fj_is (n := n) (a := 0) (Or.inl ⟨rfl, fun j a b => h j a (by omega)⟩), if_pos rfl, h (n + 1) (by omega) (by omega)]
      rfl
    · by_cases e : a = n + 1
      · subst e
        rw [fj_is (n := n) (a := 0) (Or.inl ⟨rfl, fun j a b => h4 j a (by omega)⟩), if_pos rfl, if_pos h3]
      · rw [fj_is (n := n) (a := a) (Or.inr ⟨h1, by omega, h3, h4⟩), if_neg (by omega)]
theorem fj_sp {P : Nat → Bool} : ∀ (n : Nat), (fj P n = 0 ∧ ∀ j, 1 ≤ j → j ≤ n → P j = false) ∨ (1 ≤ fj P n ∧ fj P n ≤ n ∧ P (fj P n) = true ∧ ∀ j, 1 ≤ j → j < fj P n → P j = false)
  | 0 => Or.inl ⟨rfl, fun j a b => by omega⟩
  | n + 1 => by
    unfold fj
    rcases fj_sp (P := P) n with ⟨h1, h2⟩ | ⟨h1, h2, h3, h4⟩
    · rw [if_pos h1]
      by_cases e : P (n + 1) = true
      · rw [if_pos e]
        exact Or.inr ⟨by omega, by omega, e, fun j a b => h2 j a (by omega)⟩
      · rw [if_neg e]
        refine Or.inl ⟨rfl, fun j a b => ?_⟩
        by_cases q : j = n + 1
        · subst q; exact Bool.eq_false_iff.mpr e
        · exact h2 j a (by omega)
    · rw [if_neg (by omega)]
      exact Or.inr ⟨h1, by omega, h3, h4⟩
def hP (T : Tn) (q : PS) (cell : Nat) : Nat → Bool := fun j => decide (pcq (pst T q j) = cell)
def hkf (T : Tn) (r : Nat) (q : PS) (cell : Nat) : Nat := fj (hP T q cell) (plen T r q)
def hst (T : Tn) (r : Nat) (q : PS) (cell e : Nat) : Nat := if hkf T r q cell ≠ 0 ∧ (e : Int) ≤ plo T (hkf T r q cell) (pst T q (hkf T r q cell)).2.2.2.2 then hkf T r q cell else 0
theorem hkf_le {T : Tn} {r : Nat} {q : PS} {cell : Nat} : hkf T r q cell ≤ 40 := by
  have h := plen_le (T := T) (r := r) (q := q)
  rcases fj_sp (P := hP T q cell) (plen T r q) with ⟨h1, -⟩ | ⟨-, h2, -⟩
  · unfold hkf; omega
  · unfold hkf; omega
theorem hst_le {T : Tn} {r : Nat} {q : PS} {cell e : Nat} : hst T r q cell e ≤ 40 := by
  have := hkf_le (T := T) (r := r) (q := q) (cell := cell)
  unfold hst
  split <;> omega
theorem lo_bd {T : Tn} (g : Good T) {q : PS} (hq : pin T 0 q) {j : Nat} (hj : j ≤ 40) : -5000 ≤ plo T j (pst T q j).2.2.2.2 ∧ plo T j (pst T q j).2.2.2.2 ≤ 100 := by
  obtain ⟨-, -, -, -, h1, h2⟩ := pst_in g hq j
  exact plo_bd g hj h1 (by omega)
theorem pcq_lt {T : Tn} (g : Good T) {q : PS} (hq : pin T 0 q) (j : Nat) : pcq (pst T q j) < 81 := by
  obtain ⟨h1, h2, -⟩ := pst_in g hq j
  exact (pc_lt g h1 h2).1
section HH
variable {T : Tn} {M : Mem} {c : Nat} {q : PS} {r s : Nat}
theorem c_stepL (g : Good T) (hq : pin T 0 q) (h : PthC c T r s q M) {cell e : Nat} (hc : cell < 81) (he : e ≤ 100) : ∀ (m n k : Nat), k + m = plen T r q + 1 → m < n → 1 ≤ k → (∀ j, 1 ≤ j → j < k → hP T q cell j = false) →
    f_Cou_stepHeardOn_L2 c M n (nI cell) (nI e) (nI k) = some (nI (hst T r q cell e)) := by
  have hl := plen_le (T := T) (r := r) (q := q)
  intro m
  induction m with
  | zero =>
    intro n k hk hn h1 h2
    obtain ⟨n, rfl⟩ : ∃ z, n = z + 1 := ⟨n - 1, by omega⟩
    rw [f_Cou_stepHeardOn_L2, h.1, if_pos (by rw [nI_ltI (by omega) (by omega)]; omega), hst, show hkf T r q cell = 0 from fj_is (Or.inl ⟨rfl, fun j a b => h2 j a (by omega)⟩), if_neg (by omega)]
    rfl
  | succ m ih =>
    intro n k hk hn h1 h2
    obtain ⟨n, rfl⟩ : ∃ z, n = z + 1 := ⟨n - 1, by omega⟩
    obtain ⟨b1, b2, b3⟩ := h.2.2 k h1 (by omega)
    have hp := pcq_lt g hq k
    have hb := lo_bd g hq (j := k) (by omega)
    rw [f_Cou_stepHeardOn_L2, h.1, if_neg (by rw [nI_ltI (by omega) (by omega)]; omega), if_neg (by rw [l40, nI_ltI (by omega) (by omega)]; omega), e_ckn (by omega) (by decide), e_ckn (by omega) (by decide), show ix (nI k) = k from e_ix (by omega), b1, b2]
    by_cases hm : pcq (pst T q k) = cell
    · rw [if_pos (by rw [hm])]
      have hkk : hkf T r q cell = k := fj_is (Or.inr ⟨h1, by omega, decide_eq_true hm, h2⟩)
      rw [J_nI, hst, hkk]
      by_cases h5 : (e : Int) ≤ plo T k (pst T q k).2.2.2.2
      · rw [if_neg (by rw [J_lt (by omega) (by omega) (by omega) (by omega)]; omega), if_pos ⟨by omega, h5⟩]
      · rw [if_pos (by rw [J_lt (by omega) (by omega) (by omega) (by omega)]; omega), if_neg (fun q => h5 q.2)]
        rfl
    · rw [if_neg (by rw [nI_eq (by omega) (by omega)]; exact hm), nI_1]
      refine ih n (k + 1) (by omega) (by omega) (by omega) (fun j a b => ?_)
      by_cases e2 : j = k
      · subst e2; exact decide_eq_false hm
      · exact h2 j a (by omega)
theorem c_step (g : Good T) (hq : pin T 0 q) (h : PthC c T r s q M) {cell e : Nat} (hc : cell < 81) (he : e ≤ 100) : f_Cou_stepHeardOn c M (nI cell) (nI e) = some (nI (hst T r q cell e)) := by
  have hl := plen_le (T := T) (r := r) (q := q)
  exact c_stepL g hq h hc he (plen T r q) 1000 1 (by omega) (by omega) (by omega) (fun j a b => by omega)
def enc (a : Nat) : Int32 := if a = 0 then -4 else nI a
theorem enc_4 {a : Nat} (ha : a < 1000) : (enc a = -4) = (a = 0) := by
  unfold enc
  by_cases h : a = 0
  · rw [if_pos h]; simp [h]
  · rw [if_neg h, l4, e_neg (by omega) (by omega) (by omega)]; simp [h]
theorem m_loud (o : OnM T M) (g : Good T) (hq : pin T 0 q) (h : PthM T r s q M) {k : Nat} (h1 : 1 ≤ k) (h2 : k ≤ plen T r q) : f_Mod_loudAt M (nI k) = some (J (plo T k (pst T q k).2.2.2.2)) := by
  have hl := plen_le (T := T) (r := r) (q := q)
  unfold f_Mod_loudAt
  rw [e_ckn (by omega) (by decide), show ix (nI k) = k from e_ix (by omega), (h.2.2 k h1 h2).2, o.s2, o.s3, lo_J]
theorem m_stepL (o : OnM T M) (g : Good T) (hq : pin T 0 q) (h : PthM T r s q M) {b hr : Nat} (hb : b < T 4 0) (hh : hr < 12) : ∀ (m n a : Nat), m < n → m ≤ plen T r q → ((a = 0 ∧ ∀ j, m < j → j ≤ plen T r q → hP T q (cel T b hr) j = false) ∨ (m < a ∧ a ≤ plen T r q ∧ hP T q (cel T b hr) a = true ∧ ∀ j, m < j → j < a → hP T q (cel T b hr) j = false)) →
    f_Mod_stepTo_L9 M n (nI b) (nI hr) (enc a) (nI m) = some (enc (hst T r q (cel T b hr) (ear T b))) := by
  have hl := plen_le (T := T) (r := r) (q := q)
  have hc := (cel_lt (h := hr) g hb).1
  have he := ear_lt g hb
  have hn9 := g.n
  intro m
  induction m with
  | zero =>
    intro n a hn h1 h2
    obtain ⟨n, rfl⟩ : ∃ z, n = z + 1 := ⟨n - 1, by omega⟩
    have ea : hkf T r q (cel T b hr) = a := by
      refine fj_is ?_
      rcases h2 with h2 | h2
      · exact Or.inl ⟨h2.1, fun j x y => h2.2 j (by omega) y⟩
      · exact Or.inr ⟨by omega, h2.2.1, h2.2.2.1, fun j x y => h2.2.2.2 j (by omega) y⟩
    have ha : a ≤ 40 := by rw [← ea]; exact hkf_le
    rw [f_Mod_stepTo_L9, if_pos (by decide), hst, ea]
    by_cases h0 : a = 0
    · subst h0
      rw [if_pos (by rfl), if_neg (by omega)]
      rfl
    · have h3 : 1 ≤ a ∧ a ≤ plen T r q := by
        rcases h2 with h2 | h2
        · exact absurd h2.1 h0
        · exact ⟨by omega, h2.2.1⟩
      have hbd := lo_bd g hq (j := a) (by omega)
      rw [if_neg (by rw [enc_4 (by omega)]; exact h0), show enc a = nI a from if_neg h0, m_loud o g hq h h3.1 h3.2, e_bnd, m_ear o g hb, e_bnd, J_nI (ear T b)]
      by_cases h5 : ((ear T b : Nat) : Int) ≤ plo T a (pst T q a).2.2.2.2
      · rw [if_neg (by rw [J_lt (by omega) (by omega) (by omega) (by omega)]; omega), if_pos ⟨h0, h5⟩, enc, if_neg h0]
      · rw [if_pos (by rw [J_lt (by omega) (by omega) (by omega) (by omega)]; omega), if_neg (fun q => h5 q.2)]
        rfl
  | succ m ih =>
    intro n a hn h1 h2
    obtain ⟨n, rfl⟩ : ∃ z, n = z + 1 := ⟨n - 1, by omega⟩
    have hp := pcq_lt g hq (m + 1)
    rw [f_Mod_stepTo_L9, if_neg (by rw [l0, nI_leI (by omega) (by omega)]; omega), e_ckn (by omega) (by decide), m_cell o g hb hh, e_bnd, show ix (nI (m + 1)) = m + 1 from e_ix (by omega), (h.2.2 (m + 1) (by omega) h1).1, pk_m1]
    by_cases hm : pcq (pst T q (m + 1)) = cel T b hr
    · rw [if_pos (by rw [hm]), show nI (m + 1) = enc (m + 1) from (if_neg (by omega)).symm]
      exact ih n (m + 1) (by omega) (by omega) (Or.inr ⟨by omega, h1, decide_eq_true hm, fun j x y => by omega⟩)
    · rw [if_neg (by rw [nI_eq (by omega) (by omega)]; exact hm)]
      have hf : hP T q (cel T b hr) (m + 1) = false := decide_eq_false hm
      refine ih n a (by omega) (by omega) ?_
      rcases h2 with h2 | h2
      · refine Or.inl ⟨h2.1, fun j x y => ?_⟩
        by_cases e2 : j = m + 1
        · subst e2; exact hf
        · exact h2.2 j (by omega) y
      · refine Or.inr ⟨by omega, h2.2.1, h2.2.2.1, fun j x y => ?_⟩
        by_cases e2 : j = m + 1
        · subst e2; exact hf
        · exact h2.2.2.2 j (by omega) y
theorem m_step (o : OnM T M) (g : Good T) (hq : pin T 0 q) (h : PthM T r s q M) {b hr : Nat} (hb : b < T 4 0) (hh : hr < 12) : f_Mod_stepTo M (nI b) (nI hr) = some (enc (hst T r q (cel T b hr) (ear T b))) := by
  have hl := plen_le (T := T) (r := r) (q := q)
  unfold f_Mod_stepTo
  rw [h.1, e_nmI]
  exact m_stepL o g hq h hb hh (plen T r q) 1000 0 (by omega) (Nat.le_refl _) (Or.inl ⟨rfl, fun j x y => by omega⟩)
end HH
