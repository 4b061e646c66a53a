/-! pure: names -/
theorem sch_all : ∀ i, i < 16 → ∀ k, k < slen (1010 + i) → 97 ≤ ix (sch (1010 + i) k) ∧ ix (sch (1010 + i) k) < 123 ∧ sch (1010 + i) k = nI (ix (sch (1010 + i) k)) := by decide +kernel
theorem slen_le : ∀ i, i < 16 → 3 ≤ slen (1010 + i) ∧ slen (1010 + i) ≤ 9 ∧ isStr (1010 + i) = true := by decide +kernel
theorem sgb_eq : ∀ x, x < 256 → ∀ v, v < 123 → (sgb x = nI v ↔ x = v) := by decide +kernel
theorem sch_un : ∀ i, i < 16 → ∀ j, j < 16 → slen (1010 + i) = slen (1010 + j) → (∀ k, k < slen (1010 + i) → sch (1010 + i) k = sch (1010 + j) k) → i = j := by decide +kernel
/-- the word is the i-th name -/
def isW (b : Nat → Nat) (L : Nat) (z : Tz) (i : Nat) : Bool := decide (z.2.2.1 = 1) && (decide (z.2.2.2.2.2 - z.2.2.2.1 = slen (1010 + i)) && decide (∀ k, k < slen (1010 + i) → lkv b L (z.2.2.2.1 + k) = sch (1010 + i) k))
theorem isW_iff {b : Nat → Nat} {L : Nat} {z : Tz} {i : Nat} : isW b L z i = true ↔ z.2.2.1 = 1 ∧ z.2.2.2.2.2 - z.2.2.2.1 = slen (1010 + i) ∧ ∀ k, k < slen (1010 + i) → lkv b L (z.2.2.2.1 + k) = sch (1010 + i) k := by
  unfold isW
  rw [Bool.and_eq_true, Bool.and_eq_true, decide_eq_true_iff, decide_eq_true_iff, decide_eq_true_iff]
theorem isW_un {b : Nat → Nat} {L : Nat} {z : Tz} {i j : Nat} (hi : i < 16) (hj : j < 16) (h1 : isW b L z i = true) (h2 : isW b L z j = true) : i = j := by
  obtain ⟨-, a1, a2⟩ := isW_iff.mp h1
  obtain ⟨-, b1, b2⟩ := isW_iff.mp h2
  exact sch_un i hi j hj (a1.symm.trans b1) (fun k hk => (a2 k hk).symm.trans (b2 k (by omega)))
section NA
variable {b : Nat → Nat} {L : Nat} {z : Tz} {M : Mem}
theorem c_nmL (hL : L ≤ 320) (hb : ∀ j, j < L → b j < 256) (t : Tc b L M) (w : Wz L z) (r : Rc z M) (q : z.1 = 0) {i : Nat} (hi : i < 16) (hl : z.2.2.2.2.2 - z.2.2.2.1 = slen (1010 + i)) : ∀ (m n k : Nat), k + m = slen (1010 + i) → m < n → (∀ j, j < k → lkv b L (z.2.2.2.1 + j) = sch (1010 + i) j) → f_Tap_isName_L28 (1010 + i) M n (nI k) = some (if (∀ j, j < slen (1010 + i) → lkv b L (z.2.2.2.1 + j) = sch (1010 + i) j) then 1 else 0) := by
  have hs := slen_le i hi
  have h2 := (r.2.2.2 q).2.1
  have hw := w.2.2 q
  intro m
  induction m with
  | zero =>
    intro n k hk hn hf
    obtain ⟨n, rfl⟩ : ∃ z, n = z + 1 := ⟨n - 1, by omega⟩
    have e : k = slen (1010 + i) := by omega
    rw [f_Tap_isName_L28, if_pos (by rw [e, nI_leI (by omega) (by omega)]; omega), if_pos (fun j hj => hf j (by omega))]
  | succ m ih =>
    intro n k hk hn hf
    obtain ⟨n, rfl⟩ : ∃ z, n = z + 1 := ⟨n - 1, by omega⟩
    have hp : z.2.2.2.1 + k < L := by omega
    obtain ⟨s1, s2, s3⟩ := sch_all i hi k (by omega)
    rw [f_Tap_isName_L28, if_neg (by rw [nI_leI (by omega) (by omega)]; omega), h2, nI_add, if_neg (by rw [l320, nI_leI (by omega) (by omega)]; omega), e_ckn (by omega) (by decide), e_ckn (by omega) (by omega), show ix (nI (z.2.2.2.1 + k)) = z.2.2.2.1 + k from e_ix (by omega), show ix (nI k) = k from e_ix (by omega), t.2 _ hp, nI_1]
    have hv : (sgb (b (z.2.2.2.1 + k)) = sch (1010 + i) k) ↔ lkv b L (z.2.2.2.1 + k) = sch (1010 + i) k := by
      have := hb _ hp
      rw [s3, sgb_eq _ this _ s2, lkv, if_pos hp, nI_eq (by omega) (by omega)]
    by_cases e : lkv b L (z.2.2.2.1 + k) = sch (1010 + i) k
    · rw [if_pos (hv.mpr e)]
      exact ih n (k + 1) (by omega) (by omega) (fun j hj => by
        by_cases u : j = k
        · subst u; exact e
        · exact hf j (by omega))
    · rw [if_neg (fun x => e (hv.mp x)), if_neg (fun x => e (x k (by omega)))]
theorem c_isName (hL : L ≤ 320) (hb : ∀ j, j < L → b j < 256) (t : Tc b L M) (w : Wz L z) (r : Rc z M) (q : z.1 = 0) {i : Nat} (hi : i < 16) : f_Tap_isName (1010 + i) M = some (if isW b L z i = true then 1 else 0) := by
  have hs := slen_le i hi
  have h1 := (r.2.2.2 q).1
  have h2 := (r.2.2.2 q).2.1
  have h6 := (r.2.2.2 q).2.2.2
  have hw := w.2.2 q
  unfold f_Tap_isName
  rw [h1, h6, h2, sub_nJ (by omega)]
  by_cases e1 : z.2.2.1 = 1
  · rw [if_pos (by rw [e1]; rfl)]
    by_cases e2 : z.2.2.2.2.2 - z.2.2.2.1 = slen (1010 + i)
    · rw [if_pos (by rw [e2]), show (0 : Int32) = nI 0 from rfl, c_nmL hL hb t w r q hi e2 (slen (1010 + i)) 1000 0 (by omega) (by omega) (fun j hj => by omega)]
      by_cases e3 : ∀ j, j < slen (1010 + i) → lkv b L (z.2.2.2.1 + j) = sch (1010 + i) j
      · rw [if_pos e3, if_pos (isW_iff.mpr ⟨e1, e2, e3⟩)]
      · rw [if_neg e3, if_neg (fun x => e3 (isW_iff.mp x).2.2)]
        rfl
    · rw [if_neg (by rw [nI_eq (by omega) (by omega)]; exact e2), if_neg (fun x => e2 (isW_iff.mp x).2.1)]
  · rw [if_neg (by
      rw [l1, nI_eq (by split <;> omega) (by omega)]
      split <;> omega), if_neg (fun x => e1 (isW_iff.mp x).1)]
theorem nmL_all : ∀ i, i < 11 → f_Rea_nameOfLine (nI i) = some (1010 + i) := by decide +kernel
theorem nmK_all : ∀ i, i < 5 → f_Rea_nameOfKind (nI i) = some (1010 + (11 + i)) := by decide +kernel
theorem c_lineL (hL : L ≤ 320) (hb : ∀ j, j < L → b j < 256) (t : Tc b L M) (w : Wz L z) (r : Rc z M) (q : z.1 = 0) : ∀ (m n k : Nat), k + m = 11 → m < n → (∀ j, j < k → isW b L z j = false) → f_Rea_lineBegun_L2 M n (nI k) = some (e8 11 (sfi (isW b L z) 11)) := by
  intro m
  induction m with
  | zero =>
    intro n k hk hn hf
    obtain ⟨n, rfl⟩ : ∃ z, n = z + 1 := ⟨n - 1, by omega⟩
    have e : k = 11 := by omega
    subst e
    rw [f_Rea_lineBegun_L2, if_pos (by decide), sfi_is (Nat.le_refl _) hf (fun h => absurd h (Nat.lt_irrefl _))]
    rfl
  | succ m ih =>
    intro n k hk hn hf
    obtain ⟨n, rfl⟩ : ∃ z, n = z + 1 := ⟨n - 1, by omega⟩
    rw [f_Rea_lineBegun_L2, if_neg (by rw [l11, nI_leI (by omega) (by omega)]; omega), nmL_all k (by omega), e_bnd, e_ck (slen_le k (by omega)).2.2, c_isName hL hb t w r q (by omega), e_bnd]
    by_cases e : isW b L z k = true
    · rw [if_pos e, if_neg (by decide), sfi_is (a := k) (by omega) hf (fun _ => e), e8, if_pos (by omega)]
    · rw [if_neg e, if_pos rfl, nI_1]
      exact ih n (k + 1) (by omega) (by omega) (fun j hj => by
        by_cases u : j = k
        · subst u; exact Bool.eq_false_iff.mpr e
        · exact hf j (by omega))
theorem c_line (hL : L ≤ 320) (hb : ∀ j, j < L → b j < 256) (t : Tc b L M) (w : Wz L z) (r : Rc z M) (q : z.1 = 0) : f_Rea_lineBegun M = some (e8 11 (sfi (isW b L z) 11)) := c_lineL hL hb t w r q 11 1000 0 rfl (by decide) (fun j hj => by omega)
/-! the reference's -/
def pI (b : Nat → Nat) (L : Nat) (z : Tz) (n : Nat) (c0 c1 c2 c3 : Int32) : Prop := z.2.2.2.2.2 - z.2.2.2.1 = n ∧ lkv b L (z.2.2.2.1 + 0) = c0 ∧ lkv b L (z.2.2.2.1 + 1) = c1 ∧ lkv b L (z.2.2.2.1 + 2) = c2 ∧ (n < 4 ∨ lkv b L (z.2.2.2.1 + 3) = c3)
def pE (b : Nat → Nat) (L : Nat) (z : Tz) (n : Nat) (c0 c1 c2 : Int32) : Prop := lkv b L (z.2.2.2.1 + n) = c0 ∧ lkv b L (z.2.2.2.1 + (n + 1)) = c1 ∧ (c2 = 0 ∨ lkv b L (z.2.2.2.1 + (n + 2)) = c2)
theorem m_is (hL : L ≤ 320) (t : Tpm b L M) (w : Wz L z) (r : Rm z M) (q : z.1 = 0) {n : Nat} (hn : n ≤ 9) {x c0 c1 c2 c3 : Int32} (hx : x = nI n) : (pI b L z n c0 c1 c2 c3 ∧ f_Mod_is M x c0 c1 c2 c3 = some 1) ∨ (¬ pI b L z n c0 c1 c2 c3 ∧ f_Mod_is M x c0 c1 c2 c3 = some 0) := by
  have h24 := (r.2.2 q).2.1
  have h23 := (r.2.2 q).2.2.2
  have hw := w.2.2 q
  unfold f_Mod_is pI
  rw [h23, h24, hx, sub_nJ (by omega)]
  have k0 := m_look hL t (p := z.2.2.2.1 + 0) (by omega)
  have k1 := m_look hL t (p := z.2.2.2.1 + 1) (by omega)
  have k2 := m_look hL t (p := z.2.2.2.1 + 2) (by omega)
  have k3 := m_look hL t (p := z.2.2.2.1 + 3) (by omega)
  rw [Nat.add_zero] at k0
  rw [nI_1, l2, l3, nI_add, nI_add, k0, e_bnd, k1, e_bnd, k2, e_bnd, k3, e_bnd]
  by_cases a : z.2.2.2.2.2 - z.2.2.2.1 = n
  · rw [if_pos (by rw [a])]
    by_cases b0 : lkv b L (z.2.2.2.1) = c0
    · rw [if_pos b0]
      by_cases b1 : lkv b L (z.2.2.2.1 + 1) = c1
      · rw [if_pos b1]
        by_cases b2 : lkv b L (z.2.2.2.1 + 2) = c2
        · rw [if_pos b2]
          by_cases d : n < 4
          · rw [if_pos (by rw [l4, nI_ltI (by omega) (by omega)]; exact d)]
            exact Or.inl ⟨⟨a, b0, b1, b2, Or.inl d⟩, rfl⟩
          · rw [if_neg (by rw [l4, nI_ltI (by omega) (by omega)]; exact d)]
            by_cases b3 : lkv b L (z.2.2.2.1 + 3) = c3
            · rw [if_pos b3]
              exact Or.inl ⟨⟨a, b0, b1, b2, Or.inr b3⟩, rfl⟩
            · rw [if_neg b3]
              exact Or.inr ⟨fun x => x.2.2.2.2.elim d b3, rfl⟩
        · rw [if_neg b2]
          exact Or.inr ⟨fun x => b2 x.2.2.2.1, rfl⟩
      · rw [if_neg b1]
        exact Or.inr ⟨fun x => b1 x.2.2.1, rfl⟩
    · rw [if_neg b0]
      exact Or.inr ⟨fun x => b0 x.2.1, rfl⟩
  · rw [if_neg (by rw [nI_eq (by omega) (by omega)]; exact a)]
    exact Or.inr ⟨fun x => a x.1, rfl⟩
theorem m_ends (hL : L ≤ 320) (t : Tpm b L M) (w : Wz L z) (r : Rm z M) (q : z.1 = 0) {n : Nat} (hn : n ≤ 9) {x c0 c1 c2 : Int32} (hx : x = nI n) : (pE b L z n c0 c1 c2 ∧ f_Mod_ends M x c0 c1 c2 = some 1) ∨ (¬ pE b L z n c0 c1 c2 ∧ f_Mod_ends M x c0 c1 c2 = some 0) := by
  have h24 := (r.2.2 q).2.1
  have hw := w.2.2 q
  unfold f_Mod_ends pE
  have k0 := m_look hL t (p := z.2.2.2.1 + n) (by omega)
  have k1 := m_look hL t (p := z.2.2.2.1 + (n + 1)) (by omega)
  have k2 := m_look hL t (p := z.2.2.2.1 + (n + 2)) (by omega)
  rw [h24, hx, nI_add, nI_1, l2, nI_add, show z.2.2.2.1 + n + 1 = z.2.2.2.1 + (n + 1) by omega, show z.2.2.2.1 + n + 2 = z.2.2.2.1 + (n + 2) by omega, k0, e_bnd, k1, e_bnd, k2, e_bnd]
  by_cases b0 : lkv b L (z.2.2.2.1 + n) = c0
  · rw [if_pos b0]
    by_cases b1 : lkv b L (z.2.2.2.1 + (n + 1)) = c1
    · rw [if_pos b1]
      by_cases d : c2 = 0
      · rw [if_pos d]
        exact Or.inl ⟨⟨b0, b1, Or.inl d⟩, rfl⟩
      · rw [if_neg d]
        by_cases b2 : lkv b L (z.2.2.2.1 + (n + 2)) = c2
        · rw [if_pos b2]
          exact Or.inl ⟨⟨b0, b1, Or.inr b2⟩, rfl⟩
        · rw [if_neg b2]
          exact Or.inr ⟨fun x => x.2.2.elim d b2, rfl⟩
    · rw [if_neg b1]
      exact Or.inr ⟨fun x => b1 x.2.1, rfl⟩
  · rw [if_neg b0]
    exact Or.inr ⟨fun x => b0 x.1, rfl⟩

theorem nm_0 (q : z.2.2.1 = 1) : isW b L z 0 = true ↔ (pI b L z 4 104 97 108 108) := by
  rw [isW_iff]
  constructor
  · rintro ⟨-, h0, h⟩
    have k0 : lkv b L (z.2.2.2.1 + 0) = 104 := h 0 (by decide)
    have k1 : lkv b L (z.2.2.2.1 + 1) = 97 := h 1 (by decide)
    have k2 : lkv b L (z.2.2.2.1 + 2) = 108 := h 2 (by decide)
    have k3 : lkv b L (z.2.2.2.1 + 3) = 108 := h 3 (by decide)
    exact ⟨h0, k0, k1, k2, Or.inr k3⟩
  · rintro ⟨h0, k0, k1, k2, h3⟩
    have k3 := h3.resolve_left (by decide)
    refine ⟨q, h0, fun k hk => ?_⟩
    have hk' : k < 4 := hk
    rcases (show k = 0 ∨ k = 1 ∨ k = 2 ∨ k = 3 by omega) with rfl | rfl | rfl | rfl
    · exact k0
    · exact k1
    · exact k2
    · exact k3
theorem nm_1 (q : z.2.2.1 = 1) : isW b L z 1 = true ↔ (pI b L z 4 102 97 100 101) := by
  rw [isW_iff]
  constructor
  · rintro ⟨-, h0, h⟩
    have k0 : lkv b L (z.2.2.2.1 + 0) = 102 := h 0 (by decide)
    have k1 : lkv b L (z.2.2.2.1 + 1) = 97 := h 1 (by decide)
    have k2 : lkv b L (z.2.2.2.1 + 2) = 100 := h 2 (by decide)
    have k3 : lkv b L (z.2.2.2.1 + 3) = 101 := h 3 (by decide)
    exact ⟨h0, k0, k1, k2, Or.inr k3⟩
  · rintro ⟨h0, k0, k1, k2, h3⟩
    have k3 := h3.resolve_left (by decide)
    refine ⟨q, h0, fun k hk => ?_⟩
    have hk' : k < 4 := hk
    rcases (show k = 0 ∨ k = 1 ∨ k = 2 ∨ k = 3 by omega) with rfl | rfl | rfl | rfl
    · exact k0
    · exact k1
    · exact k2
    · exact k3
theorem nm_2 (q : z.2.2.1 = 1) : isW b L z 2 = true ↔ (pI b L z 6 98 111 117 110 ∧ pE b L z 4 99 101 0) := by
  rw [isW_iff]
  constructor
  · rintro ⟨-, h0, h⟩
    have k0 : lkv b L (z.2.2.2.1 + 0) = 98 := h 0 (by decide)
    have k1 : lkv b L (z.2.2.2.1 + 1) = 111 := h 1 (by decide)
    have k2 : lkv b L (z.2.2.2.1 + 2) = 117 := h 2 (by decide)
    have k3 : lkv b L (z.2.2.2.1 + 3) = 110 := h 3 (by decide)
    have k4 : lkv b L (z.2.2.2.1 + 4) = 99 := h 4 (by decide)
    have k5 : lkv b L (z.2.2.2.1 + 5) = 101 := h 5 (by decide)
    exact ⟨⟨h0, k0, k1, k2, Or.inr k3⟩, ⟨k4, k5, Or.inl rfl⟩⟩
  · rintro ⟨⟨h0, k0, k1, k2, h3⟩, k4, k5, -⟩
    have k3 := h3.resolve_left (by decide)
    refine ⟨q, h0, fun k hk => ?_⟩
    have hk' : k < 6 := hk
    rcases (show k = 0 ∨ k = 1 ∨ k = 2 ∨ k = 3 ∨ k = 4 ∨ k = 5 by omega) with rfl | rfl | rfl | rfl | rfl | rfl
    · exact k0
    · exact k1
    · exact k2
    · exact k3
    · exact k4
    · exact k5
theorem nm_3 (q : z.2.2.1 = 1) : isW b L z 3 = true ↔ (pI b L z 4 119 97 114 109) := by
  rw [isW_iff]
  constructor
  · rintro ⟨-, h0, h⟩
    have k0 : lkv b L (z.2.2.2.1 + 0) = 119 := h 0 (by decide)
    have k1 : lkv b L (z.2.2.2.1 + 1) = 97 := h 1 (by decide)
    have k2 : lkv b L (z.2.2.2.1 + 2) = 114 := h 2 (by decide)
    have k3 : lkv b L (z.2.2.2.1 + 3) = 109 := h 3 (by decide)
    exact ⟨h0, k0, k1, k2, Or.inr k3⟩
  · rintro ⟨h0, k0, k1, k2, h3⟩
    have k3 := h3.resolve_left (by decide)
    refine ⟨q, h0, fun k hk => ?_⟩
    have hk' : k < 4 := hk
    rcases (show k = 0 ∨ k = 1 ∨ k = 2 ∨ k = 3 by omega) with rfl | rfl | rfl | rfl
    · exact k0
    · exact k1
    · exact k2
    · exact k3
theorem nm_4 (q : z.2.2.1 = 1) : isW b L z 4 = true ↔ (pI b L z 6 112 101 111 112 ∧ pE b L z 4 108 101 0) := by
  rw [isW_iff]
  constructor
  · rintro ⟨-, h0, h⟩
    have k0 : lkv b L (z.2.2.2.1 + 0) = 112 := h 0 (by decide)
    have k1 : lkv b L (z.2.2.2.1 + 1) = 101 := h 1 (by decide)
    have k2 : lkv b L (z.2.2.2.1 + 2) = 111 := h 2 (by decide)
    have k3 : lkv b L (z.2.2.2.1 + 3) = 112 := h 3 (by decide)
    have k4 : lkv b L (z.2.2.2.1 + 4) = 108 := h 4 (by decide)
    have k5 : lkv b L (z.2.2.2.1 + 5) = 101 := h 5 (by decide)
    exact ⟨⟨h0, k0, k1, k2, Or.inr k3⟩, ⟨k4, k5, Or.inl rfl⟩⟩
  · rintro ⟨⟨h0, k0, k1, k2, h3⟩, k4, k5, -⟩
    have k3 := h3.resolve_left (by decide)
    refine ⟨q, h0, fun k hk => ?_⟩
    have hk' : k < 6 := hk
    rcases (show k = 0 ∨ k = 1 ∨ k = 2 ∨ k = 3 ∨ k = 4 ∨ k = 5 by omega) with rfl | rfl | rfl | rfl | rfl | rfl
    · exact k0
    · exact k1
    · exact k2
    · exact k3
    · exact k4
    · exact k5
theorem nm_5 (q : z.2.2.1 = 1) : isW b L z 5 = true ↔ (pI b L z 5 98 101 110 99 ∧ lkv b L (z.2.2.2.1 + 4) = 104) := by
  rw [isW_iff]
  constructor
  · rintro ⟨-, h0, h⟩
    have k0 : lkv b L (z.2.2.2.1 + 0) = 98 := h 0 (by decide)
    have k1 : lkv b L (z.2.2.2.1 + 1) = 101 := h 1 (by decide)
    have k2 : lkv b L (z.2.2.2.1 + 2) = 110 := h 2 (by decide)
    have k3 : lkv b L (z.2.2.2.1 + 3) = 99 := h 3 (by decide)
    have k4 : lkv b L (z.2.2.2.1 + 4) = 104 := h 4 (by decide)
    exact ⟨⟨h0, k0, k1, k2, Or.inr k3⟩, k4⟩
  · rintro ⟨⟨h0, k0, k1, k2, h3⟩, k4⟩
    have k3 := h3.resolve_left (by decide)
    refine ⟨q, h0, fun k hk => ?_⟩
    have hk' : k < 5 := hk
    rcases (show k = 0 ∨ k = 1 ∨ k = 2 ∨ k = 3 ∨ k = 4 by omega) with rfl | rfl | rfl | rfl | rfl
    · exact k0
    · exact k1
    · exact k2
    · exact k3
    · exact k4
theorem nm_6 (q : z.2.2.1 = 1) : isW b L z 6 = true ↔ (pI b L z 6 112 105 108 108 ∧ pE b L z 4 97 114 0) := by
  rw [isW_iff]
  constructor
  · rintro ⟨-, h0, h⟩
    have k0 : lkv b L (z.2.2.2.1 + 0) = 112 := h 0 (by decide)
    have k1 : lkv b L (z.2.2.2.1 + 1) = 105 := h 1 (by decide)
    have k2 : lkv b L (z.2.2.2.1 + 2) = 108 := h 2 (by decide)
    have k3 : lkv b L (z.2.2.2.1 + 3) = 108 := h 3 (by decide)
    have k4 : lkv b L (z.2.2.2.1 + 4) = 97 := h 4 (by decide)
    have k5 : lkv b L (z.2.2.2.1 + 5) = 114 := h 5 (by decide)
    exact ⟨⟨h0, k0, k1, k2, Or.inr k3⟩, ⟨k4, k5, Or.inl rfl⟩⟩
  · rintro ⟨⟨h0, k0, k1, k2, h3⟩, k4, k5, -⟩
    have k3 := h3.resolve_left (by decide)
    refine ⟨q, h0, fun k hk => ?_⟩
    have hk' : k < 6 := hk
    rcases (show k = 0 ∨ k = 1 ∨ k = 2 ∨ k = 3 ∨ k = 4 ∨ k = 5 by omega) with rfl | rfl | rfl | rfl | rfl | rfl
    · exact k0
    · exact k1
    · exact k2
    · exact k3
    · exact k4
    · exact k5
theorem nm_7 (q : z.2.2.1 = 1) : isW b L z 7 = true ↔ (pI b L z 7 99 117 114 116 ∧ pE b L z 4 97 105 110) := by
  rw [isW_iff]
  constructor
  · rintro ⟨-, h0, h⟩
    have k0 : lkv b L (z.2.2.2.1 + 0) = 99 := h 0 (by decide)
    have k1 : lkv b L (z.2.2.2.1 + 1) = 117 := h 1 (by decide)
    have k2 : lkv b L (z.2.2.2.1 + 2) = 114 := h 2 (by decide)
    have k3 : lkv b L (z.2.2.2.1 + 3) = 116 := h 3 (by decide)
    have k4 : lkv b L (z.2.2.2.1 + 4) = 97 := h 4 (by decide)
    have k5 : lkv b L (z.2.2.2.1 + 5) = 105 := h 5 (by decide)
    have k6 : lkv b L (z.2.2.2.1 + 6) = 110 := h 6 (by decide)
    exact ⟨⟨h0, k0, k1, k2, Or.inr k3⟩, ⟨k4, k5, Or.inr k6⟩⟩
  · rintro ⟨⟨h0, k0, k1, k2, h3⟩, k4, k5, h6⟩
    have k3 := h3.resolve_left (by decide)
    have k6 := h6.resolve_left (by decide)
    refine ⟨q, h0, fun k hk => ?_⟩
    have hk' : k < 7 := hk
    rcases (show k = 0 ∨ k = 1 ∨ k = 2 ∨ k = 3 ∨ k = 4 ∨ k = 5 ∨ k = 6 by omega) with rfl | rfl | rfl | rfl | rfl | rfl | rfl
    · exact k0
    · exact k1
    · exact k2
    · exact k3
    · exact k4
    · exact k5
    · exact k6
theorem nm_8 (q : z.2.2.1 = 1) : isW b L z 8 = true ↔ (pI b L z 4 106 111 105 110) := by
  rw [isW_iff]
  constructor
  · rintro ⟨-, h0, h⟩
    have k0 : lkv b L (z.2.2.2.1 + 0) = 106 := h 0 (by decide)
    have k1 : lkv b L (z.2.2.2.1 + 1) = 111 := h 1 (by decide)
    have k2 : lkv b L (z.2.2.2.1 + 2) = 105 := h 2 (by decide)
    have k3 : lkv b L (z.2.2.2.1 + 3) = 110 := h 3 (by decide)
    exact ⟨h0, k0, k1, k2, Or.inr k3⟩
  · rintro ⟨h0, k0, k1, k2, h3⟩
    have k3 := h3.resolve_left (by decide)
    refine ⟨q, h0, fun k hk => ?_⟩
    have hk' : k < 4 := hk
    rcases (show k = 0 ∨ k = 1 ∨ k = 2 ∨ k = 3 by omega) with rfl | rfl | rfl | rfl
    · exact k0
    · exact k1
    · exact k2
    · exact k3
theorem nm_9 (q : z.2.2.1 = 1) : isW b L z 9 = true ↔ (pI b L z 3 98 97 114 0) := by
  rw [isW_iff]
  constructor
  · rintro ⟨-, h0, h⟩
    have k0 : lkv b L (z.2.2.2.1 + 0) = 98 := h 0 (by decide)
    have k1 : lkv b L (z.2.2.2.1 + 1) = 97 := h 1 (by decide)
    have k2 : lkv b L (z.2.2.2.1 + 2) = 114 := h 2 (by decide)
    exact ⟨h0, k0, k1, k2, Or.inl (by decide)⟩
  · rintro ⟨h0, k0, k1, k2, h3⟩
    refine ⟨q, h0, fun k hk => ?_⟩
    have hk' : k < 3 := hk
    rcases (show k = 0 ∨ k = 1 ∨ k = 2 by omega) with rfl | rfl | rfl
    · exact k0
    · exact k1
    · exact k2
theorem nm_10 (q : z.2.2.1 = 1) : isW b L z 10 = true ↔ (pI b L z 7 119 104 105 115 ∧ pE b L z 4 112 101 114) := by
  rw [isW_iff]
  constructor
  · rintro ⟨-, h0, h⟩
    have k0 : lkv b L (z.2.2.2.1 + 0) = 119 := h 0 (by decide)
    have k1 : lkv b L (z.2.2.2.1 + 1) = 104 := h 1 (by decide)
    have k2 : lkv b L (z.2.2.2.1 + 2) = 105 := h 2 (by decide)
    have k3 : lkv b L (z.2.2.2.1 + 3) = 115 := h 3 (by decide)
    have k4 : lkv b L (z.2.2.2.1 + 4) = 112 := h 4 (by decide)
    have k5 : lkv b L (z.2.2.2.1 + 5) = 101 := h 5 (by decide)
    have k6 : lkv b L (z.2.2.2.1 + 6) = 114 := h 6 (by decide)
    exact ⟨⟨h0, k0, k1, k2, Or.inr k3⟩, ⟨k4, k5, Or.inr k6⟩⟩
  · rintro ⟨⟨h0, k0, k1, k2, h3⟩, k4, k5, h6⟩
    have k3 := h3.resolve_left (by decide)
    have k6 := h6.resolve_left (by decide)
    refine ⟨q, h0, fun k hk => ?_⟩
    have hk' : k < 7 := hk
    rcases (show k = 0 ∨ k = 1 ∨ k = 2 ∨ k = 3 ∨ k = 4 ∨ k = 5 ∨ k = 6 by omega) with rfl | rfl | rfl | rfl | rfl | rfl | rfl
    · exact k0
    · exact k1
    · exact k2
    · exact k3
    · exact k4
    · exact k5
    · exact k6
theorem nm_11 (q : z.2.2.1 = 1) : isW b L z 11 = true ↔ (pI b L z 5 112 108 97 105 ∧ lkv b L (z.2.2.2.1 + 4) = 110) := by
  rw [isW_iff]
  constructor
  · rintro ⟨-, h0, h⟩
    have k0 : lkv b L (z.2.2.2.1 + 0) = 112 := h 0 (by decide)
    have k1 : lkv b L (z.2.2.2.1 + 1) = 108 := h 1 (by decide)
    have k2 : lkv b L (z.2.2.2.1 + 2) = 97 := h 2 (by decide)
    have k3 : lkv b L (z.2.2.2.1 + 3) = 105 := h 3 (by decide)
    have k4 : lkv b L (z.2.2.2.1 + 4) = 110 := h 4 (by decide)
    exact ⟨⟨h0, k0, k1, k2, Or.inr k3⟩, k4⟩
  · rintro ⟨⟨h0, k0, k1, k2, h3⟩, k4⟩
    have k3 := h3.resolve_left (by decide)
    refine ⟨q, h0, fun k hk => ?_⟩
    have hk' : k < 5 := hk
    rcases (show k = 0 ∨ k = 1 ∨ k = 2 ∨ k = 3 ∨ k = 4 by omega) with rfl | rfl | rfl | rfl | rfl
    · exact k0
    · exact k1
    · exact k2
    · exact k3
    · exact k4
theorem nm_12 (q : z.2.2.1 = 1) : isW b L z 12 = true ↔ (pI b L z 6 116 117 114 110 ∧ pE b L z 4 101 100 0) := by
  rw [isW_iff]
  constructor
  · rintro ⟨-, h0, h⟩
    have k0 : lkv b L (z.2.2.2.1 + 0) = 116 := h 0 (by decide)
    have k1 : lkv b L (z.2.2.2.1 + 1) = 117 := h 1 (by decide)
    have k2 : lkv b L (z.2.2.2.1 + 2) = 114 := h 2 (by decide)
    have k3 : lkv b L (z.2.2.2.1 + 3) = 110 := h 3 (by decide)
    have k4 : lkv b L (z.2.2.2.1 + 4) = 101 := h 4 (by decide)
    have k5 : lkv b L (z.2.2.2.1 + 5) = 100 := h 5 (by decide)
    exact ⟨⟨h0, k0, k1, k2, Or.inr k3⟩, ⟨k4, k5, Or.inl rfl⟩⟩
  · rintro ⟨⟨h0, k0, k1, k2, h3⟩, k4, k5, -⟩
    have k3 := h3.resolve_left (by decide)
    refine ⟨q, h0, fun k hk => ?_⟩
    have hk' : k < 6 := hk
    rcases (show k = 0 ∨ k = 1 ∨ k = 2 ∨ k = 3 ∨ k = 4 ∨ k = 5 by omega) with rfl | rfl | rfl | rfl | rfl | rfl
    · exact k0
    · exact k1
    · exact k2
    · exact k3
    · exact k4
    · exact k5
theorem nm_13 (q : z.2.2.1 = 1) : isW b L z 13 = true ↔ (pI b L z 6 109 111 118 105 ∧ pE b L z 4 110 103 0) := by
  rw [isW_iff]
  constructor
  · rintro ⟨-, h0, h⟩
    have k0 : lkv b L (z.2.2.2.1 + 0) = 109 := h 0 (by decide)
    have k1 : lkv b L (z.2.2.2.1 + 1) = 111 := h 1 (by decide)
    have k2 : lkv b L (z.2.2.2.1 + 2) = 118 := h 2 (by decide)
    have k3 : lkv b L (z.2.2.2.1 + 3) = 105 := h 3 (by decide)
    have k4 : lkv b L (z.2.2.2.1 + 4) = 110 := h 4 (by decide)
    have k5 : lkv b L (z.2.2.2.1 + 5) = 103 := h 5 (by decide)
    exact ⟨⟨h0, k0, k1, k2, Or.inr k3⟩, ⟨k4, k5, Or.inl rfl⟩⟩
  · rintro ⟨⟨h0, k0, k1, k2, h3⟩, k4, k5, -⟩
    have k3 := h3.resolve_left (by decide)
    refine ⟨q, h0, fun k hk => ?_⟩
    have hk' : k < 6 := hk
    rcases (show k = 0 ∨ k = 1 ∨ k = 2 ∨ k = 3 ∨ k = 4 ∨ k = 5 by omega) with rfl | rfl | rfl | rfl | rfl | rfl
    · exact k0
    · exact k1
    · exact k2
    · exact k3
    · exact k4
    · exact k5
theorem nm_14 (q : z.2.2.1 = 1) : isW b L z 14 = true ↔ (pI b L z 6 114 97 105 115 ∧ pE b L z 4 101 100 0) := by
  rw [isW_iff]
  constructor
  · rintro ⟨-, h0, h⟩
    have k0 : lkv b L (z.2.2.2.1 + 0) = 114 := h 0 (by decide)
    have k1 : lkv b L (z.2.2.2.1 + 1) = 97 := h 1 (by decide)
    have k2 : lkv b L (z.2.2.2.1 + 2) = 105 := h 2 (by decide)
    have k3 : lkv b L (z.2.2.2.1 + 3) = 115 := h 3 (by decide)
    have k4 : lkv b L (z.2.2.2.1 + 4) = 101 := h 4 (by decide)
    have k5 : lkv b L (z.2.2.2.1 + 5) = 100 := h 5 (by decide)
    exact ⟨⟨h0, k0, k1, k2, Or.inr k3⟩, ⟨k4, k5, Or.inl rfl⟩⟩
  · rintro ⟨⟨h0, k0, k1, k2, h3⟩, k4, k5, -⟩
    have k3 := h3.resolve_left (by decide)
    refine ⟨q, h0, fun k hk => ?_⟩
    have hk' : k < 6 := hk
    rcases (show k = 0 ∨ k = 1 ∨ k = 2 ∨ k = 3 ∨ k = 4 ∨ k = 5 by omega) with rfl | rfl | rfl | rfl | rfl | rfl
    · exact k0
    · exact k1
    · exact k2
    · exact k3
    · exact k4
    · exact k5
theorem nm_15 (q : z.2.2.1 = 1) : isW b L z 15 = true ↔ (pI b L z 9 108 105 115 116 ∧ pE b L z 4 101 110 105 ∧ pE b L z 7 110 103 0) := by
  rw [isW_iff]
  constructor
  · rintro ⟨-, h0, h⟩
    have k0 : lkv b L (z.2.2.2.1 + 0) = 108 := h 0 (by decide)
    have k1 : lkv b L (z.2.2.2.1 + 1) = 105 := h 1 (by decide)
    have k2 : lkv b L (z.2.2.2.1 + 2) = 115 := h 2 (by decide)
    have k3 : lkv b L (z.2.2.2.1 + 3) = 116 := h 3 (by decide)
    have k4 : lkv b L (z.2.2.2.1 + 4) = 101 := h 4 (by decide)
    have k5 : lkv b L (z.2.2.2.1 + 5) = 110 := h 5 (by decide)
    have k6 : lkv b L (z.2.2.2.1 + 6) = 105 := h 6 (by decide)
    have k7 : lkv b L (z.2.2.2.1 + 7) = 110 := h 7 (by decide)
    have k8 : lkv b L (z.2.2.2.1 + 8) = 103 := h 8 (by decide)
    exact ⟨⟨h0, k0, k1, k2, Or.inr k3⟩, ⟨k4, k5, Or.inr k6⟩, ⟨k7, k8, Or.inl rfl⟩⟩
  · rintro ⟨⟨h0, k0, k1, k2, h3⟩, ⟨k4, k5, h6⟩, k7, k8, -⟩
    have k3 := h3.resolve_left (by decide)
    have k6 := h6.resolve_left (by decide)
    refine ⟨q, h0, fun k hk => ?_⟩
    have hk' : k < 9 := hk
    rcases (show k = 0 ∨ k = 1 ∨ k = 2 ∨ k = 3 ∨ k = 4 ∨ k = 5 ∨ k = 6 ∨ k = 7 ∨ k = 8 by omega) with rfl | rfl | rfl | rfl | rfl | rfl | rfl | rfl | rfl
    · exact k0
    · exact k1
    · exact k2
    · exact k3
    · exact k4
    · exact k5
    · exact k6
    · exact k7
    · exact k8
theorem m_lookAt (hL : L ≤ 320) (t : Tpm b L M) (w : Wz L z) (r : Rm z M) (q : z.1 = 0) : f_Mod_look M ((M 103 24) + 4) = some (lkv b L (z.2.2.2.1 + 4)) := by
  have hw := w.2.2 q
  rw [(r.2.2 q).2.1, l4, nI_add]
  exact m_look hL t (by omega)
/-- what the reference answers, when each of its questions is told -/
theorem is_go {α : Type} {p : Prop} {f : Option Int32} {X Y : Option α} {v : Prop} [Decidable v] (hv : v ↔ p) (h : (p ∧ f = some 1) ∨ (¬ p ∧ f = some 0)) : (bnd f fun x => if x = 0 then X else Y) = if v then Y else X := by
  rcases h with ⟨h1, h2⟩ | ⟨h1, h2⟩
  · rw [h2, e_bnd, if_neg (by decide), if_pos (hv.mpr h1)]
  · rw [h2, e_bnd, if_pos rfl, if_neg (fun e => h1 (hv.mp e))]
theorem is_go2 {α : Type} {p p2 : Prop} {f f2 : Option Int32} {X Y : Option α} {v : Prop} [Decidable v] (hv : v ↔ p ∧ p2) (h : (p ∧ f = some 1) ∨ (¬ p ∧ f = some 0)) (h' : (p2 ∧ f2 = some 1) ∨ (¬ p2 ∧ f2 = some 0)) : (bnd f fun x => if x = 0 then X else bnd f2 fun y => if y = 0 then X else Y) = if v then Y else X := by
  rcases h with ⟨h1, h2⟩ | ⟨h1, h2⟩
  · rw [h2, e_bnd, if_neg (by decide)]
    rcases h' with ⟨h3, h4⟩ | ⟨h3, h4⟩
    · rw [h4, e_bnd, if_neg (by decide), if_pos (hv.mpr ⟨h1, h3⟩)]
    · rw [h4, e_bnd, if_pos rfl, if_neg (fun e => h3 (hv.mp e).2)]
  · rw [h2, e_bnd, if_pos rfl, if_neg (fun e => h1 (hv.mp e).1)]
theorem is_goL {α : Type} {p : Prop} {f : Option Int32} {X Y : Option α} {w c : Int32} {v : Prop} [Decidable v] (hv : v ↔ p ∧ w = c) (h : (p ∧ f = some 1) ∨ (¬ p ∧ f = some 0)) : (bnd f fun x => if x = 0 then X else bnd (some w) fun y => if y = c then Y else X) = if v then Y else X := by
  rcases h with ⟨h1, h2⟩ | ⟨h1, h2⟩
  · rw [h2, e_bnd, if_neg (by decide), e_bnd]
    by_cases h3 : w = c
    · rw [if_pos h3, if_pos (hv.mpr ⟨h1, h3⟩)]
    · rw [if_neg h3, if_neg (fun e => h3 (hv.mp e).2)]
  · rw [h2, e_bnd, if_pos rfl, if_neg (fun e => h1 (hv.mp e).1)]
theorem m_name (hL : L ≤ 320) (t : Tpm b L M) (w : Wz L z) (r : Rm z M) (q : z.1 = 0) (q1 : z.2.2.1 = 1) : f_Mod_nameNow M = some (e8 11 (sfi (isW b L z) 11)) := by
  have I : ∀ {n : Nat} {x c0 c1 c2 c3 : Int32}, n ≤ 9 → x = nI n → (pI b L z n c0 c1 c2 c3 ∧ f_Mod_is M x c0 c1 c2 c3 = some 1) ∨ (¬ pI b L z n c0 c1 c2 c3 ∧ f_Mod_is M x c0 c1 c2 c3 = some 0) := fun hn hx => m_is hL t w r q hn hx
  have E : ∀ {n : Nat} {x c0 c1 c2 : Int32}, n ≤ 9 → x = nI n → (pE b L z n c0 c1 c2 ∧ f_Mod_ends M x c0 c1 c2 = some 1) ∨ (¬ pE b L z n c0 c1 c2 ∧ f_Mod_ends M x c0 c1 c2 = some 0) := fun hn hx => m_ends hL t w r q hn hx
  have yes : ∀ i, i < 11 → isW b L z i = true → e8 11 (sfi (isW b L z) 11) = nI i := fun i hi h => by
    rw [sfi_is (a := i) (by omega) (fun j hj => Bool.eq_false_iff.mpr (fun e => by have := isW_un (by omega) (by omega) e h; omega)) (fun _ => h), e8, if_pos hi]
  unfold f_Mod_nameNow
  rw [m_lookAt hL t w r q, is_goL (nm_5 q1) (I (x := 5) (by decide) rfl)]
  by_cases h5 : isW b L z 5 = true
  · rw [if_pos h5, yes 5 (by decide) h5]; rfl
  rw [if_neg h5]
  unfold f_Mod_nameNow_J33
  rw [is_go2 (nm_6 q1) (I (x := 6) (by decide) rfl) (E (x := 4) (by decide) rfl)]
  by_cases h6 : isW b L z 6 = true
  · rw [if_pos h6, yes 6 (by decide) h6]; rfl
  rw [if_neg h6]
  unfold f_Mod_nameNow_J66
  rw [is_go2 (nm_7 q1) (I (x := 7) (by decide) rfl) (E (x := 4) (by decide) rfl)]
  by_cases h7 : isW b L z 7 = true
  · rw [if_pos h7, yes 7 (by decide) h7]; rfl
  rw [if_neg h7]
  unfold f_Mod_nameNow_J100
  rw [is_go (nm_8 q1) (I (x := 4) (by decide) rfl)]
  by_cases h8 : isW b L z 8 = true
  · rw [if_pos h8, yes 8 (by decide) h8]; rfl
  rw [if_neg h8]
  rw [is_go (nm_9 q1) (I (x := 3) (by decide) rfl)]
  by_cases h9 : isW b L z 9 = true
  · rw [if_pos h9, yes 9 (by decide) h9]; rfl
  rw [if_neg h9]
  rw [is_go2 (nm_10 q1) (I (x := 7) (by decide) rfl) (E (x := 4) (by decide) rfl)]
  by_cases h10 : isW b L z 10 = true
  · rw [if_pos h10, yes 10 (by decide) h10]; rfl
  rw [if_neg h10]
  have er : f_Mod_ruleNow M = some (e8 11 (sfi (isW b L z) 11)) := by
    unfold f_Mod_ruleNow
    rw [is_go (nm_0 q1) (I (x := 4) (by decide) rfl)]
    by_cases h0 : isW b L z 0 = true
    · rw [if_pos h0, yes 0 (by decide) h0]; rfl
    rw [if_neg h0]
    rw [is_go (nm_1 q1) (I (x := 4) (by decide) rfl)]
    by_cases h1 : isW b L z 1 = true
    · rw [if_pos h1, yes 1 (by decide) h1]; rfl
    rw [if_neg h1]
    rw [is_go2 (nm_2 q1) (I (x := 6) (by decide) rfl) (E (x := 4) (by decide) rfl)]
    by_cases h2 : isW b L z 2 = true
    · rw [if_pos h2, yes 2 (by decide) h2]; rfl
    rw [if_neg h2]
    unfold f_Mod_ruleNow_J68
    rw [is_go (nm_3 q1) (I (x := 4) (by decide) rfl)]
    by_cases h3 : isW b L z 3 = true
    · rw [if_pos h3, yes 3 (by decide) h3]; rfl
    rw [if_neg h3]
    rw [is_go2 (nm_4 q1) (I (x := 6) (by decide) rfl) (E (x := 4) (by decide) rfl)]
    by_cases h4 : isW b L z 4 = true
    · rw [if_pos h4, yes 4 (by decide) h4]; rfl
    rw [if_neg h4]
    rw [sfi_is (a := 11) (Nat.le_refl _) (fun j hj => by
      rcases (show j = 0 ∨ j = 1 ∨ j = 2 ∨ j = 3 ∨ j = 4 ∨ j = 5 ∨ j = 6 ∨ j = 7 ∨ j = 8 ∨ j = 9 ∨ j = 10 by omega) with rfl | rfl | rfl | rfl | rfl | rfl | rfl | rfl | rfl | rfl | rfl <;> apply Bool.eq_false_iff.mpr <;> assumption) (fun h => absurd h (Nat.lt_irrefl _))]
    rfl
  unfold f_Mod_nameNow_J173
  rw [er, e_bnd]
def kdI (b : Nat → Nat) (L : Nat) (z : Tz) : Nat → Bool := fun i => isW b L z (11 + i)
theorem is_go3 {α : Type} {p p2 p3 : Prop} {f f2 f3 : Option Int32} {X Y : Option α} {v : Prop} [Decidable v] (hv : v ↔ p ∧ p2 ∧ p3) (h : (p ∧ f = some 1) ∨ (¬ p ∧ f = some 0)) (h' : (p2 ∧ f2 = some 1) ∨ (¬ p2 ∧ f2 = some 0)) (h'' : (p3 ∧ f3 = some 1) ∨ (¬ p3 ∧ f3 = some 0)) : (bnd f fun x => if x = 0 then X else bnd f2 fun y => if y = 0 then X else bnd f3 fun u => if u = 0 then X else Y) = if v then Y else X := by
  rcases h with ⟨h1, h2⟩ | ⟨h1, h2⟩
  · rw [h2, e_bnd, if_neg (by decide)]
    rcases h' with ⟨h3, h4⟩ | ⟨h3, h4⟩
    · rw [h4, e_bnd, if_neg (by decide)]
      rcases h'' with ⟨h5, h6⟩ | ⟨h5, h6⟩
      · rw [h6, e_bnd, if_neg (by decide), if_pos (hv.mpr ⟨h1, h3, h5⟩)]
      · rw [h6, e_bnd, if_pos rfl, if_neg (fun e => h5 (hv.mp e).2.2)]
    · rw [h4, e_bnd, if_pos rfl, if_neg (fun e => h3 (hv.mp e).2.1)]
  · rw [h2, e_bnd, if_pos rfl, if_neg (fun e => h1 (hv.mp e).1)]
theorem m_kind_now (hL : L ≤ 320) (t : Tpm b L M) (w : Wz L z) (r : Rm z M) (q : z.1 = 0) (q1 : z.2.2.1 = 1) : f_Mod_kindNow M = some (e8 5 (sfi (kdI b L z) 5)) := by
  have I : ∀ {n : Nat} {x c0 c1 c2 c3 : Int32}, n ≤ 9 → x = nI n → (pI b L z n c0 c1 c2 c3 ∧ f_Mod_is M x c0 c1 c2 c3 = some 1) ∨ (¬ pI b L z n c0 c1 c2 c3 ∧ f_Mod_is M x c0 c1 c2 c3 = some 0) := fun hn hx => m_is hL t w r q hn hx
  have E : ∀ {n : Nat} {x c0 c1 c2 : Int32}, n ≤ 9 → x = nI n → (pE b L z n c0 c1 c2 ∧ f_Mod_ends M x c0 c1 c2 = some 1) ∨ (¬ pE b L z n c0 c1 c2 ∧ f_Mod_ends M x c0 c1 c2 = some 0) := fun hn hx => m_ends hL t w r q hn hx
  have yes : ∀ i, i < 5 → isW b L z (11 + i) = true → e8 5 (sfi (kdI b L z) 5) = nI i := fun i hi h => by
    rw [sfi_is (P := kdI b L z) (a := i) (by omega) (fun j hj => Bool.eq_false_iff.mpr (fun e => by have := isW_un (i := 11 + j) (j := 11 + i) (by omega) (by omega) e h; omega)) (fun _ => h), e8, if_pos hi]
  unfold f_Mod_kindNow
  rw [m_lookAt hL t w r q, is_goL (nm_11 q1) (I (x := 5) (by decide) rfl)]
  by_cases h0 : isW b L z 11 = true
  · rw [if_pos h0, yes 0 (by decide) h0]; rfl
  rw [if_neg h0]
  unfold f_Mod_kindNow_J33
  rw [is_go2 (nm_12 q1) (I (x := 6) (by decide) rfl) (E (x := 4) (by decide) rfl)]
  by_cases h1 : isW b L z 12 = true
  · rw [if_pos h1, yes 1 (by decide) h1]; rfl
  rw [if_neg h1]
  unfold f_Mod_kindNow_J65
  rw [is_go2 (nm_13 q1) (I (x := 6) (by decide) rfl) (E (x := 4) (by decide) rfl)]
  by_cases h2 : isW b L z 13 = true
  · rw [if_pos h2, yes 2 (by decide) h2]; rfl
  rw [if_neg h2]
  unfold f_Mod_kindNow_J97
  rw [is_go2 (nm_14 q1) (I (x := 6) (by decide) rfl) (E (x := 4) (by decide) rfl)]
  by_cases h3 : isW b L z 14 = true
  · rw [if_pos h3, yes 3 (by decide) h3]; rfl
  rw [if_neg h3]
  unfold f_Mod_kindNow_J129
  rw [is_go3 (nm_15 q1) (I (x := 9) (by decide) rfl) (E (x := 4) (by decide) rfl) (E (x := 7) (by decide) rfl)]
  by_cases h4 : isW b L z 15 = true
  · rw [if_pos h4, yes 4 (by decide) h4]; rfl
  rw [if_neg h4, sfi_is (P := kdI b L z) (a := 5) (Nat.le_refl _) (fun j hj => by
    rcases (show j = 0 ∨ j = 1 ∨ j = 2 ∨ j = 3 ∨ j = 4 by omega) with rfl | rfl | rfl | rfl | rfl <;> apply Bool.eq_false_iff.mpr <;> assumption) (fun h => absurd h (Nat.lt_irrefl _))]
  rfl
/-- the kind behind a bench's numbers -/
theorem c_kindL (hL : L ≤ 320) (hb : ∀ j, j < L → b j < 256) (t : Tc b L M) (w : Wz L z) (r : Rc z M) (q : z.1 = 0) : ∀ (m n k : Nat), k + m = 5 → m < n → (∀ j, j < k → kdI b L z j = false) → (sfi (kdI b L z) 5 < 5 ∧ f_Rea_readKind_L9 n (nI k) M = bnd (f_Tap_nextToken M) fun M9 => some (nI (sfi (kdI b L z) 5), M9)) ∨ (sfi (kdI b L z) 5 = 5 ∧ f_Rea_readKind_L9 n (nI k) M = some (nI 0, M)) := by
  intro m
  induction m with
  | zero =>
    intro n k hk hn hf
    obtain ⟨n, rfl⟩ : ∃ z, n = z + 1 := ⟨n - 1, by omega⟩
    have e : k = 5 := by omega
    subst e
    refine Or.inr ⟨sfi_is (Nat.le_refl _) hf (fun h => absurd h (Nat.lt_irrefl _)), ?_⟩
    rw [f_Rea_readKind_L9, if_pos (by decide)]
    rfl
  | succ m ih =>
    intro n k hk hn hf
    obtain ⟨n, rfl⟩ : ∃ z, n = z + 1 := ⟨n - 1, by omega⟩
    rw [f_Rea_readKind_L9, if_neg (by rw [l4, nI_ltI (by omega) (by omega)]; omega), nmK_all k (by omega), e_bnd, e_ck (slen_le (11 + k) (by omega)).2.2, c_isName hL hb t w r q (i := 11 + k) (by omega), e_bnd]
    by_cases e : isW b L z (11 + k) = true
    · have es : sfi (kdI b L z) 5 = k := sfi_is (by omega) hf (fun _ => e)
      rw [if_pos e, if_neg (by decide), es]
      exact Or.inl ⟨by omega, rfl⟩
    · rw [if_neg e, if_pos rfl, nI_1]
      exact ih n (k + 1) (by omega) (by omega) (fun j hj => by
        by_cases u : j = k
        · subst u; exact Bool.eq_false_iff.mpr e
        · exact hf j (by omega))
end NA
