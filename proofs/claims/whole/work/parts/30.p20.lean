/-! pure: read -/
theorem cmp_neg (x y : Int64) : (lg_cmp x y < 0) = (x.toInt < y.toInt) := by
  have h := lg_cmp_ge x y
  apply propext
  rw [← Int64.lt_iff_toInt_lt]
  constructor
  · intro q
    exact Int64.not_le.mp (fun t => absurd q (Int32.not_lt.mpr (h.mpr t)))
  · intro q
    exact Int32.not_le.mp (fun t => absurd q (Int64.not_lt.mpr (h.mp t)))
/-- f and three times i -/
theorem f3_32 {f : Int32} {i : Nat} (hi : i ≤ 12) (hf : i = 0 ∨ (0 ≤ f.toInt ∧ f.toInt < 40)) : (f + nI 3 * nI i).toInt = f.toInt + 3 * i := by
  rw [pk_mul, Int32.toInt_add, nI_toInt (show 3 * i < 2 ^ 31 by omega)]
  have h1 := Int32.le_toInt f
  have h2 := Int32.toInt_lt f
  rw [Int.bmod_eq_of_le (by omega) (by omega)]
  omega
theorem f3_64 {f : Int32} {i c : Nat} (hi : i ≤ 12) (hc : c ≤ 3) : ((f.toInt64 + (nI 3 * nI i).toInt64) + (nI c).toInt64).toInt = f.toInt + 3 * i + c := by
  have h1 := Int32.le_toInt f
  have h2 := Int32.toInt_lt f
  rw [pk_mul, Int64.toInt_add, Int64.toInt_add, Int32.toInt_toInt64, Int32.toInt_toInt64, Int32.toInt_toInt64, nI_toInt (show 3 * i < 2 ^ 31 by omega), nI_toInt (show c < 2 ^ 31 by omega), Int.bmod_eq_of_le (n := f.toInt + _) (by omega) (by omega), Int.bmod_eq_of_le (by omega) (by omega)]
  omega
/-- the first sheet cell of whisper i stands, and the two behind it -/
def fits (f : Int32) (i sz : Nat) : Prop := 0 ≤ f.toInt + 3 * i ∧ f.toInt + 3 * i + 3 ≤ sz
def ShC (k l sz : Nat) (cv : Nat → Int32) (M : Mem) : Prop := M 101 k = nI l ∧ M 102 k = nI sz ∧ ∀ i, i < 40 → M (97 + k) i = cv i
def ShM (k l sz : Nat) (cv : Nat → Int32) (M : Mem) : Prop := M 119 k = nI l ∧ M 120 k = nI sz ∧ ∀ i, i < 40 → M 121 (40 * k + i) = cv i
section RD
variable {k l sz : Nat} {cv : Nat → Int32} {M : Mem}
theorem c_fit (hk : k < 4) (hl : l ≤ 2) (hsz : sz ≤ 40) (h : ShC k l sz cv M) {f : Int32} {i : Nat} (hi : i ≤ 12) (hf : i = 0 ∨ (0 ≤ f.toInt ∧ f.toInt < 40)) : (fits f i sz → f_She_faultOfCells M (nI k) (f + nI 3 * nI i) (nI 3) = some (nI 0)) ∧ (¬ fits f i sz → f_She_faultOfCells M (nI k) (f + nI 3 * nI i) (nI 3) = some (nI 2)) := by
  have e := f3_32 hi hf
  have iff : (0 ≤ f + nI 3 * nI i ∧ f + nI 3 * nI i ≤ nI sz - nI 3) ↔ fits f i sz := by
    rw [nI_iff, Int32.le_iff_toInt_le, e, c_sub (by omega) (by omega), J_toInt (by omega) (by omega)]
    unfold fits
    omega
  rw [c_fco hk hl h.1 h.2.1]
  constructor
  · intro q; rw [if_pos (iff.mpr q)]
  · intro q; rw [if_neg (fun t => q (iff.mp t))]
theorem c_val (hk : k < 4) (hl : l ≤ 2) (hsz : sz ≤ 40) (h : ShC k l sz cv M) {j : Nat} (hj : j < sz) : f_She_valueAt M (nI k) (nI j) = some (cv j) := by
  unfold f_She_valueAt
  rw [l1, c_fco hk hl h.1 h.2.1, if_pos (by rw [nI_iff, Int32.le_iff_toInt_le, nI_toInt (show j < 2 ^ 31 by omega), c_sub (by omega) (by omega), J_toInt (by omega) (by omega)]; omega), e_bnd, if_pos (by rfl), if_neg (by rw [l40, nI_leI (by omega) (by omega)]; omega), e_ckn hk (by decide), e_ckn (by omega) (by decide), show ix (nI k) = k from e_ix (by omega), show ix (nI j) = j from e_ix (by omega), h.2.2 j (by omega)]
theorem nI_of_toInt {x : Int32} {v : Nat} (h : x.toInt = v) : x = nI v := by
  have h2 := Int32.toInt_lt x
  apply Int32.toInt_inj.mp
  rw [nI_toInt (by omega), h]
/-- the reference's look at the three cells -/
theorem r56s {k41 : Int32 → Int32 → Int32 → Int32 → Int32 → Int32 → Int32 → Int32 → Mem → Option (Int32 × Mem)} (hk : k < 4) (hl : l ≤ 2) (hsz : sz ≤ 40) (h : ShM k l sz cv M) {f x4 x5 x7 : Int32} {i c n : Nat} (hi : i ≤ 12) (hc : c < 3) :
    f_Mod_read_L56 k41 (n + 1) (nI k) (nI l) f x4 x5 (nI 0) x7 (nI i) (nI c) M = if 0 ≤ f.toInt + 3 * i + c ∧ f.toInt + 3 * i + c < sz then f_Mod_read_L56 k41 n (nI k) (nI l) f x4 x5 (nI 0) x7 (nI i) (nI (c + 1)) M else f_Mod_read_L56 k41 n (nI k) (nI l) f x4 x5 (nI 2) x7 (nI i) (nI (c + 1)) M := by
  rw [f_Mod_read_L56, if_neg (by rw [l3, nI_leI (by omega) (by omega)]; omega), if_pos (by rfl), e_nmL, e_ckn hk (by decide), show ix (nI k) = k from e_ix (by omega), h.1, if_neg (by rw [l4, e_neg (by omega) (by omega) (by omega)]; exact id), e_ckn hk (by decide), if_pos rfl, e_ckn hk (by decide), h.2.1, l3]
  simp only [cmp_neg, f3_64 hi (show c ≤ 3 by omega), Int32.toInt_toInt64, nI_toInt (show sz < 2 ^ 31 by omega), show (0 : Int64).toInt = 0 from rfl, nI_1]
  by_cases q1 : f.toInt + 3 * i + c < 0
  · rw [if_pos q1, if_neg (by omega)]
    rfl
  · rw [if_neg q1]
    by_cases q2 : f.toInt + 3 * i + c < sz
    · rw [if_pos q2, if_pos (by omega)]
      rfl
    · rw [if_neg q2, if_neg (by omega)]
      rfl
theorem r56e {k41 : Int32 → Int32 → Int32 → Int32 → Int32 → Int32 → Int32 → Int32 → Mem → Option (Int32 × Mem)} {x1 x2 f x4 x5 x7 x8 : Int32} {c n r : Nat} (h : c = 3 ∨ (r ≠ 0 ∧ r < 1000)) (hc : c ≤ 3) : f_Mod_read_L56 k41 (n + 1) x1 x2 f x4 x5 (nI r) x7 x8 (nI c) M = f_Mod_read_J143 k41 x1 x2 f x4 x5 (nI r) x7 x8 M := by
  rw [f_Mod_read_L56]
  by_cases q : c = 3
  · rw [if_pos (by rw [l3, nI_leI (by omega) (by omega)]; omega)]
  · rw [if_neg (by rw [l3, nI_leI (by omega) (by omega)]; omega), if_neg (by rw [l0, nI_eq (by omega) (by omega)]; omega)]
theorem r56 {k41 : Int32 → Int32 → Int32 → Int32 → Int32 → Int32 → Int32 → Int32 → Mem → Option (Int32 × Mem)} (hk : k < 4) (hl : l ≤ 2) (hsz : sz ≤ 40) (h : ShM k l sz cv M) {f x4 x5 x7 : Int32} {i : Nat} (hi : i ≤ 12) :
    (fits f i sz → f_Mod_read_L56 k41 1000 (nI k) (nI l) f x4 x5 (nI 0) x7 (nI i) (nI 0) M = f_Mod_read_J143 k41 (nI k) (nI l) f x4 x5 (nI 0) x7 (nI i) M) ∧ (¬ fits f i sz → f_Mod_read_L56 k41 1000 (nI k) (nI l) f x4 x5 (nI 0) x7 (nI i) (nI 0) M = f_Mod_read_J143 k41 (nI k) (nI l) f x4 x5 (nI 2) x7 (nI i) M) := by
  unfold fits
  have s0 := r56s (k41 := k41) (n := 999) hk hl hsz h (f := f) (x4 := x4) (x5 := x5) (x7 := x7) hi (show 0 < 3 by decide)
  have s1 := r56s (k41 := k41) (n := 998) hk hl hsz h (f := f) (x4 := x4) (x5 := x5) (x7 := x7) hi (show 1 < 3 by decide)
  have s2 := r56s (k41 := k41) (n := 997) hk hl hsz h (f := f) (x4 := x4) (x5 := x5) (x7 := x7) hi (show 2 < 3 by decide)
  constructor
  · intro q
    rw [s0, if_pos (by omega), s1, if_pos (by omega), s2, if_pos (by omega)]
    exact r56e (n := 996) (Or.inl rfl) (by decide)
  · intro q
    rw [s0]
    by_cases a0 : 0 ≤ f.toInt + 3 * i + (0 : Nat) ∧ f.toInt + 3 * i + (0 : Nat) < sz
    · rw [if_pos a0, s1]
      by_cases a1 : 0 ≤ f.toInt + 3 * i + (1 : Nat) ∧ f.toInt + 3 * i + (1 : Nat) < sz
      · rw [if_pos a1, s2, if_neg (by omega)]
        exact r56e (n := 996) (Or.inl rfl) (by decide)
      · rw [if_neg a1]
        exact r56e (n := 997) (Or.inr ⟨by decide, by decide⟩) (by decide)
    · rw [if_neg a0]
      exact r56e (n := 998) (Or.inr ⟨by decide, by decide⟩) (by decide)
end RD
/-- what read leaves alone: the class's side; the reference's -/
def RdC (M M' : Mem) : Prop := (∀ a, a ≠ 0 → (a < 14 ∨ 17 < a) → M' a = M a) ∧ ∀ j, j ≠ 9 → M' 0 j = M 0 j
def RdM (M M' : Mem) : Prop := (∀ a, a ≠ 103 → a ≠ 104 → M' a = M a) ∧ (∀ j, j ≠ 43 → M' 103 j = M 103 j) ∧ ∀ j, (j < 88 ∨ 124 < j) → M' 104 j = M 104 j
theorem RdC.tr {M M' M2 : Mem} (h : RdC M M') (g : RdC M' M2) : RdC M M2 := ⟨fun a x y => (g.1 a x y).trans (h.1 a x y), fun j x => (g.2 j x).trans (h.2 j x)⟩
theorem RdM.tr {M M' M2 : Mem} (h : RdM M M') (g : RdM M' M2) : RdM M M2 := ⟨fun a x y => (g.1 a x y).trans (h.1 a x y), fun j x => (g.2.1 j x).trans (h.2.1 j x), fun j x => (g.2.2 j x).trans (h.2.2 j x)⟩
theorem On.rd {T : Tn} {M : Mem} (o : On T M) {x : Int32} : On T (upd2 M 0 9 x) := by
  have e : ∀ a, a ≠ 0 → upd2 M 0 9 x a = M a := fun a h => u_ne h
  unfold On
  rw [e 1 (by decide), e 2 (by decide), e 3 (by decide), e 4 (by decide), e 10 (by decide), e 14 (by decide)]
  refine ⟨o.1, o.2.1, o.2.2.1, o.2.2.2.1, fun a a1 a2 => ?_, o.2.2.2.2.2.1, fun a a1 a2 => ?_, o.2.2.2.2.2.2.2.1, fun a a1 a2 => ?_⟩
  · rw [e a (by omega)]; exact o.2.2.2.2.1 a a1 a2
  · rw [e a (by omega)]; exact o.2.2.2.2.2.2.1 a a1 a2
  · rw [e a (by omega)]; exact o.2.2.2.2.2.2.2.2 a a1 a2
theorem OnM.rd {T : Tn} {M : Mem} (o : OnM T M) {x : Int32} : OnM T (upd2 M 103 43 x) := by
  have e : ∀ a, a ≠ 103 → upd2 M 103 43 x a = M a := fun a h => u_ne h
  have e3 : ∀ j, j ≠ 43 → upd2 M 103 43 x 103 j = M 103 j := fun j h => u_nk h
  unfold OnM
  rw [e3 2 (by decide), e3 3 (by decide), e3 4 (by decide), e3 5 (by decide), e3 6 (by decide), e3 7 (by decide), e3 8 (by decide), e 104 (by decide), e 106 (by decide), e 107 (by decide)]
  exact o
theorem readL {k l sz N bf : Nat} {cv : Nat → Int32} {f : Int32} (hk : k < 4) (hl : l ≤ 2) (hsz : sz ≤ 40) (hN : N ≤ 12) : ∀ (m n n' i w : Nat) (T : Tn) (M : Mem), i + m = N → m + 1 < n → m + 1 < n' → Good T → bf ≤ T 14 0 → (i = 0 ∨ (0 ≤ f.toInt ∧ f.toInt < 40)) → On T M → ShC k l sz cv M →
    ∃ (v : Int32) (T' : Tn) (M' : Mem) (r : Option Int32), f_Hal_read_L69 n (nI k) f (nI N) (nI bf) (nI w) (nI 0) (nI i) M = some (v, M') ∧ On T' M' ∧ Good T' ∧ (∀ a j, chg a j = false → T' a j = T a j) ∧ RdC M M' ∧ M' 0 9 = r.getD (M 0 9) ∧
    ∀ X, OnM T X → ShM k l sz cv X → ∃ X', f_Mod_read_L41 n' (nI k) (nI l) f (nI N) (nI bf) (nI 0) (nI w) (nI i) X = some (v, X') ∧ OnM T' X' ∧ RdM X X' ∧ X' 103 43 = r.getD (X 103 43) := by
  intro m
  induction m with
  | zero =>
    intro n n' i w T M hi hn hn' g hbf hf o hs
    obtain ⟨n, rfl⟩ : ∃ z, n = z + 1 := ⟨n - 1, by omega⟩
    obtain ⟨n', rfl⟩ : ∃ z, n' = z + 1 := ⟨n' - 1, by omega⟩
    have e : i = N := by omega
    subst e
    refine ⟨nI w, T, upd2 M 0 9 (nI 0), some (nI 0), ?_, o.rd, g, fun _ _ _ => rfl, ⟨fun a a1 a2 => u_ne a1, fun j hj => u_nk hj⟩, u_eq, fun X oX sX => ⟨upd2 X 103 43 (nI 0), ?_, oX.rd, ⟨fun a a1 a2 => u_ne a1, fun j hj => u_nk hj, fun j hj => by rw [u_ne (by decide)]⟩, u_eq⟩⟩
    · rw [f_Hal_read_L69, if_pos (by rw [nI_leI (by omega) (by omega)]; omega), f_Hal_read_J144, e_set]
    · rw [f_Mod_read_L41, if_pos (by rw [nI_leI (by omega) (by omega)]; omega), f_Mod_read_J217, e_set]
  | succ m ih =>
    intro n n' i w T M hi hn hn' g hbf hf o hs
    obtain ⟨n, rfl⟩ : ∃ z, n = z + 2 := ⟨n - 2, by omega⟩
    obtain ⟨n', rfl⟩ : ∃ z, n' = z + 2 := ⟨n' - 2, by omega⟩
    have hi12 : i ≤ 12 := by omega
    have nle : ¬ nI N ≤ nI i := by rw [nI_leI (by omega) (by omega)]; omega
    obtain ⟨cf1, cf2⟩ := c_fit hk hl hsz hs (f := f) hi12 hf
    by_cases hfit : fits f i sz
    · obtain ⟨F, hF⟩ : ∃ F : Nat, f.toInt = F := ⟨f.toInt.toNat, by unfold fits at hfit; rcases hf with rfl | h <;> omega⟩
      have hFs : F + 3 * i + 3 ≤ sz := by unfold fits at hfit; omega
      have hfn : f = nI F := nI_of_toInt hF
      have ep : f + nI 3 * nI i = nI (F + 3 * i) := by rw [hfn, pk_mul, nI_add]
      obtain ⟨v, T1, g1, t1, t2, t3, t4, sc, sm⟩ := sayS g (cv (F + 3 * i)) (cv (F + 3 * i + 1)) (cv (F + 3 * i + 2))
      obtain ⟨M1, p1, p2, p3⟩ := sc M o
      have tchg : ∀ a j, chg a j = false → T1 a j = T a j := fun a j h => (chg_lo h).elim (fun q => t1 a j q) (fun q => t2 a j q)
      have rc1 : RdC M M1 := ⟨fun a a1 a2 => p3 a a2, fun j hj => by rw [p3 0 (by decide)]⟩
      have hs1 : ShC k l sz cv M1 := ⟨by rw [p3 101 (by decide)]; exact hs.1, by rw [p3 102 (by decide)]; exact hs.2.1, fun j hj => by rw [p3 (97 + k) (by omega)]; exact hs.2.2 j hj⟩
      have eW : f_Hal_whisperOfSheet (nI k) (f + nI 3 * nI i) M = some (v, M1) := by
        unfold f_Hal_whisperOfSheet
        rw [ep, l1, l2, nI_add, nI_add, c_val hk hl hsz hs (by omega), e_bnd, c_val hk hl hsz hs (by omega), e_bnd, c_val hk hl hsz hs (by omega), e_bnd, p1, e_bnd2]
      have cls : f_Hal_read_L69 (n + 2) (nI k) f (nI N) (nI bf) (nI w) (nI 0) (nI i) M = if 0 ≤ v then f_Hal_read_L69 (n + 1) (nI k) f (nI N) (nI bf) (nI (w + 1)) (nI 0) (nI (i + 1)) M1 else some ((-20) - nI i, upd2 M1 14 0 (nI bf)) := by
        rw [f_Hal_read_L69, if_neg nle, if_pos (by rfl), l3, cf1 hfit, e_bnd, if_pos (by rfl), eW, e_bnd2, nI_1, nI_1, e_set]
      have eM : ∀ X, OnM T X → ShM k l sz cv X → ∃ X1, OnM T1 X1 ∧ (∀ a j, (a ≠ 104 ∨ j < 88 ∨ 124 < j) → X1 a j = X a j) ∧ f_Mod_read_L41 (n' + 2) (nI k) (nI l) f (nI N) (nI bf) (nI 0) (nI w) (nI i) X = if 0 ≤ v then f_Mod_read_L41 (n' + 1) (nI k) (nI l) f (nI N) (nI bf) (nI 0) (nI (w + 1)) (nI (i + 1)) X1 else some ((-20) - nI i, upd2 X1 104 88 (nI bf)) := fun X oX sX => by
        obtain ⟨X1, q1, q2, q3⟩ := sm X oX
        refine ⟨X1, q2, q3, ?_⟩
        rw [f_Mod_read_L41, if_neg nle, if_pos (by rfl)]
        rw [show f_Mod_read_L56 (f_Mod_read_L41 (n' + 1)) 1000 (nI k) (nI l) f (nI N) (nI bf) (nI 0) (nI w) (nI i) 0 X = f_Mod_read_J143 (f_Mod_read_L41 (n' + 1)) (nI k) (nI l) f (nI N) (nI bf) (nI 0) (nI w) (nI i) X from (r56 hk hl hsz sX hi12).1 hfit, f_Mod_read_J143, if_pos (by rfl), l40, l3, l1, l2, hfn, pk_mul, pk_mul, nI_add, nI_add, e_nmI, nI_add, nI_add, e_ckn (by omega) (by decide), e_ckn (by omega) (by decide), e_ckn (by omega) (by decide), show ix (nI (40 * k + F + 3 * i)) = 40 * k + F + 3 * i from e_ix (by omega), show ix (nI (40 * k + F + 3 * i + 1)) = 40 * k + F + 3 * i + 1 from e_ix (by omega), show ix (nI (40 * k + F + 3 * i + 2)) = 40 * k + F + 3 * i + 2 from e_ix (by omega), show 40 * k + F + 3 * i = 40 * k + (F + 3 * i) by omega, show 40 * k + (F + 3 * i) + 1 = 40 * k + (F + 3 * i + 1) by omega, show 40 * k + (F + 3 * i) + 2 = 40 * k + (F + 3 * i + 2) by omega, sX.2.2 _ (by omega), sX.2.2 _ (by omega), sX.2.2 _ (by omega), q1, e_bnd2, nI_add, nI_add, e_set, show ix 88 = 88 from rfl]
      by_cases hv : 0 ≤ v
      · have hF40 : 0 ≤ f.toInt ∧ f.toInt < 40 := by omega
        have hc1 : bf ≤ T1 14 0 := by
          rcases t4 with ⟨h1, -⟩ | ⟨-, h2⟩
          · exact absurd hv (Int32.not_le.mpr h1)
          · omega
        obtain ⟨v', T', M', r, a1, a2, a3, a4, a5, a6, a7⟩ := ih (n + 1) (n' + 1) (i + 1) (w + 1) T1 M1 (by omega) (by omega) (by omega) g1 hc1 (Or.inr hF40) p2 hs1
        refine ⟨v', T', M', r, ?_, a2, a3, fun a j h => (a4 a j h).trans (tchg a j h), rc1.tr a5, by rw [a6, p3 0 (by decide)], fun X oX sX => ?_⟩
        · rw [cls, if_pos hv]; exact a1
        · obtain ⟨X1, x1, x2, x3⟩ := eM X oX sX
          have rm1 : RdM X X1 := ⟨fun a b1 b2 => funext fun j => x2 a j (Or.inl b2), fun j hj => x2 103 j (Or.inl (by decide)), fun j hj => x2 104 j (Or.inr hj)⟩
          have sX1 : ShM k l sz cv X1 := ⟨by rw [rm1.1 119 (by decide) (by decide)]; exact sX.1, by rw [rm1.1 120 (by decide) (by decide)]; exact sX.2.1, fun j hj => by rw [rm1.1 121 (by decide) (by decide)]; exact sX.2.2 j hj⟩
          obtain ⟨X', y1, y2, y3, y4⟩ := a7 X1 x1 sX1
          refine ⟨X', ?_, y2, rm1.tr y3, by rw [y4, x2 103 43 (Or.inl (by decide))]⟩
          rw [x3, if_pos hv]; exact y1
      · have hT1 : T1 = T := by
          rcases t4 with ⟨-, h2⟩ | ⟨h1, -⟩
          · exact h2
          · exfalso
            have h9 := g.ns
            rw [h1] at hv
            exact hv (by rw [l0, nI_leI (by omega) (by omega)]; omega)
        subst hT1
        refine ⟨(-20) - nI i, tset T1 14 0 bf, upd2 M1 14 0 (nI bf), none, ?_, on_cnt p2 hbf, good_cnt g1 hbf, chg_ts rfl, rc1.tr ⟨fun a b1 b2 => u_ne (by omega), fun j hj => by rw [u_ne (by decide)]⟩, by rw [u_ne (by decide), p3 0 (by decide)]; rfl, fun X oX sX => ?_⟩
        · rw [cls, if_neg hv]
        · obtain ⟨X1, x1, x2, x3⟩ := eM X oX sX
          have rm1 : RdM X X1 := ⟨fun a b1 b2 => funext fun j => x2 a j (Or.inl b2), fun j hj => x2 103 j (Or.inl (by decide)), fun j hj => x2 104 j (Or.inr hj)⟩
          refine ⟨upd2 X1 104 88 (nI bf), ?_, onM_cnt x1 hbf, rm1.tr ⟨fun a b1 b2 => u_ne b2, fun j hj => by rw [u_ne (by decide)], fun j hj => by rw [u_nk (by omega)]⟩, by rw [u_ne (by decide), x2 103 43 (Or.inl (by decide))]; rfl⟩
          rw [x3, if_neg hv]
    · refine ⟨nI w, T, upd2 M 0 9 (nI 2), some (nI 2), ?_, o.rd, g, fun _ _ _ => rfl, ⟨fun a a1 a2 => u_ne a1, fun j hj => u_nk hj⟩, u_eq, fun X oX sX => ⟨upd2 X 103 43 (nI 2), ?_, oX.rd, ⟨fun a a1 a2 => u_ne a1, fun j hj => u_nk hj, fun j hj => by rw [u_ne (by decide)]⟩, u_eq⟩⟩
      · rw [f_Hal_read_L69, if_neg nle, if_pos (by rfl), l3, cf2 hfit, e_bnd, if_neg (by decide), f_Hal_read_L69]
        by_cases q : nI N ≤ nI i + 1
        · rw [if_pos q, f_Hal_read_J144, e_set]
        · rw [if_neg q, if_neg (by decide), f_Hal_read_J144, e_set]
      · rw [f_Mod_read_L41, if_neg nle, if_pos (by rfl)]
        rw [show f_Mod_read_L56 (f_Mod_read_L41 (n' + 1)) 1000 (nI k) (nI l) f (nI N) (nI bf) (nI 0) (nI w) (nI i) 0 X = f_Mod_read_J143 (f_Mod_read_L41 (n' + 1)) (nI k) (nI l) f (nI N) (nI bf) (nI 2) (nI w) (nI i) X from (r56 hk hl hsz sX hi12).2 hfit, f_Mod_read_J143, if_neg (by decide), f_Mod_read_L41]
        by_cases q : nI N ≤ nI i + 1
        · rw [if_pos q, f_Mod_read_J217, e_set]
        · rw [if_neg q, if_neg (by decide), f_Mod_read_J217, e_set]
/-- the reference finds the sheet of another lane, or none -/
theorem r56x {k : Nat} {r : Nat} {M : Mem} {k41 : Int32 → Int32 → Int32 → Int32 → Int32 → Int32 → Int32 → Int32 → Mem → Option (Int32 × Mem)} (hk : k < 4) {l' : Nat} {f x4 x5 x7 x8 : Int32} (h : (r = 1 ∧ M 119 k = -4) ∨ (r = 3 ∧ ∃ l, l ≤ 2 ∧ l' ≤ 2 ∧ M 119 k = nI l ∧ l ≠ l')) : f_Mod_read_L56 k41 1000 (nI k) (nI l') f x4 x5 (nI 0) x7 x8 0 M = f_Mod_read_J143 k41 (nI k) (nI l') f x4 x5 (nI r) x7 x8 M := by
  rw [show (1000 : Nat) = 998 + 1 + 1 from rfl, f_Mod_read_L56, if_neg (by decide), if_pos (by rfl), e_nmL, e_ckn hk (by decide), show ix (nI k) = k from e_ix (by omega), e_ckn hk (by decide)]
  rcases h with ⟨rfl, h⟩ | ⟨rfl, l, h1, h2, h3, h4⟩
  · rw [h, if_pos rfl, show (0 : Int32) + 1 = nI 1 from rfl, l1]
    exact r56e (Or.inr ⟨by decide, by decide⟩) (by decide)
  · rw [h3, if_neg (by rw [l4, e_neg (by omega) (by omega) (by omega)]; exact id), if_neg (by rw [nI_eq (by omega) (by omega)]; exact h4), show (0 : Int32) + 1 = nI 1 from rfl, l3]
    exact r56e (Or.inr ⟨by decide, by decide⟩) (by decide)
theorem inv_rd {T T' : Tn} {M M1 M2 : Mem} (hI : InvI T M) (hS : InvS M) (hT : InvT M) (hF : InvF M) (hc : RdC M M1) (hm : RdM M1 M2) (ht : ∀ a j, chg a j = false → T' a j = T a j) (o : On T' M1) (om : OnM T' M2) (g : Good T') (e9 : M1 0 9 = M2 103 43) : Inv M2 := by
  have e : ∀ a, a ≠ 0 → (a < 14 ∨ 17 < a) → a ≠ 103 → a ≠ 104 → M2 a = M a := fun a a1 a2 a3 a4 => by rw [hm.1 a a3 a4, hc.1 a a1 a2]
  have e03 : M2 0 3 = M 0 3 := by rw [hm.1 0 (by decide) (by decide), hc.2 3 (by decide)]
  have e104 : ∀ j, 125 ≤ j → M2 104 j = M 104 j := fun j hj => by rw [hm.2.2 j (by omega), hc.1 104 (by decide) (by decide)]
  have e103 : ∀ j, j ≠ 43 → M2 103 j = M 103 j := fun j hj => by rw [hm.2.1 j hj, hc.1 103 (by decide) (by decide)]
  refine ⟨T', ⟨o.low (fun a ha => hm.1 a (by omega) (by omega)), om, g⟩, ?_, ⟨fun j hj => ?_, by rw [hm.1 0 (by decide) (by decide)]; exact e9⟩, hT.mv (by rw [e 70 (by decide) (by decide) (by decide) (by decide)]) (e 71 (by decide) (by decide) (by decide) (by decide)) (e103 22 (by decide)) (e 112 (by decide) (by decide) (by decide) (by decide)), hF.mv (by rw [e 70 (by decide) (by decide) (by decide) (by decide)]) (e103 27 (by decide))⟩
  · obtain ⟨k0, k1, c1, c2, c3, c4, c5, c6, c7⟩ := hI
    have mv : ∀ t off K, (t = 18 ∧ off = 125 ∨ t = 35 ∧ off = 250) → Img t off T K M → Img t off T' K M2 := fun t off K h1 h2 => by
      have h3 := h2.mv (M' := M2) (fun a ha => e a (by omega) (by omega) (by omega) (by omega)) (fun j hj => e104 _ (by omega))
      refine ⟨?_, h3.2⟩
      rw [mix_cg ht]
      exact h3.1
    have e105 := e 105 (by decide) (by decide) (by decide) (by decide)
    refine ⟨k0, k1, c1, c2, by rw [e03]; exact c3, by rw [e105]; exact c4, by rw [e105]; exact c5, fun q => ?_, fun q => ?_⟩
    · obtain ⟨K, hK⟩ := c6 q
      exact ⟨K, mv 18 125 K (Or.inl ⟨rfl, rfl⟩) hK⟩
    · obtain ⟨K, hK⟩ := c7 q
      exact ⟨K, mv 35 250 K (Or.inr ⟨rfl, rfl⟩) hK⟩
  · refine she_mv (hS.1 j hj) ?_ ?_ ?_ ?_ ?_ (fun i hi => ?_)
    · rw [e 101 (by decide) (by decide) (by decide) (by decide)]
    · rw [e 102 (by decide) (by decide) (by decide) (by decide)]
    · rw [e 119 (by decide) (by decide) (by decide) (by decide)]
    · rw [e 120 (by decide) (by decide) (by decide) (by decide)]
    · rw [e (97 + j) (by omega) (by omega) (by omega) (by omega)]
    · rw [e 121 (by decide) (by decide) (by decide) (by decide)]
theorem s_read (x y f z : Int32) : Sim (f_Hal_read x y f z) (f_Mod_read x y f z) := by
  intro M ⟨T, hA, hI, hS, hT, hF⟩
  obtain ⟨o, om, g⟩ := id hA
  have h12 := g.ns
  have ea : f_Mod_in x.toInt64 0 3 = f_Mod_in x.toInt64 0 (nI 3).toInt64 := rfl
  have eb : f_Mod_in y.toInt64 0 2 = f_Mod_in y.toInt64 0 (nI 2).toInt64 := rfl
  have ec : f_Mod_in z.toInt64 0 12 = f_Mod_in z.toInt64 0 (nI 12).toInt64 := rfl
  rcases wi x (m := 3) (by decide) with ⟨k, hk, rfl, f1, f2⟩ | ⟨f1, f2, -⟩
  · have hk4 : k < 4 := by omega
    rcases wi y (m := 2) (by decide) with ⟨l', hl', rfl, h1, h2⟩ | ⟨h1, h2, -⟩
    · rcases wi z (m := 12) (by decide) with ⟨N, hN, rfl, j1, j2⟩ | ⟨j1, j2, -⟩
      · -- no whisper is looked at: a fault of the whole sheet, or none asked
        have zero : ∀ r : Nat, (N = 0 ∧ r = 0 ∨ N ≠ 0 ∧ r ≠ 0 ∧ r < 10 ∧ f_She_faultOfLane M (nI k) (nI l') = some (nI r)) → (∀ X : Mem, (∀ j, X 119 j = M 119 j) → N = 0 ∨ ∀ k41 x7, f_Mod_read_L56 k41 1000 (nI k) (nI l') f (nI N) (nI (T 14 0)) (nI 0) x7 (nI 0) 0 X = f_Mod_read_J143 k41 (nI k) (nI l') f (nI N) (nI (T 14 0)) (nI r) x7 (nI 0) X) → ∃ v M1 M2, f_Hal_read (nI k) (nI l') f (nI N) M = some (v, M1) ∧ f_Mod_read (nI k) (nI l') f (nI N) M1 = some (v, M2) ∧ Inv M2 := fun r hr hx => by
          have om1 : OnM T (upd2 M 0 9 (nI r)) := om.frc (Fr.rf.set (lo := 0) (hi := 0) (by decide) (by decide)) (by decide)
          have hx1 := hx (upd2 M 0 9 (nI r)) (fun j => by rw [u_ne (by decide)])
          refine ⟨nI 0, upd2 M 0 9 (nI r), upd2 (upd2 M 0 9 (nI r)) 103 43 (nI r), ?_, ?_, inv_rd (T := T) hI hS hT hF (M1 := upd2 M 0 9 (nI r)) ⟨fun a a1 a2 => u_ne a1, fun j hj => u_nk hj⟩ ⟨fun a a1 a2 => u_ne a1, fun j hj => u_nk hj, fun j hj => by rw [u_ne (by decide)]⟩ (fun _ _ _ => rfl) o.rd om1.rd g (by rw [u_eq, u_eq])⟩
          · unfold f_Hal_read f_Hal_read_J64
            rw [show f_Hal_within (nI k) 0 3 = some (nI 1) from f1, e_bnd, if_neg (by decide), show f_Hal_within (nI l') 0 2 = some (nI 1) from h1, e_bnd, if_neg (by decide), show f_Hal_within (nI N) 0 12 = some (nI 1) from j1, e_bnd, if_neg (by decide), e_nmI, o.ns, show (1000 : Nat) = 999 + 1 from rfl]
            rcases hr with ⟨rfl, rfl⟩ | ⟨hN0, hr0, hr9, hfl⟩
            · rw [if_pos (by rfl), f_Hal_read_L69, if_pos (by decide), f_Hal_read_J144, e_set]
              rfl
            · rw [if_neg (by rw [l0, nI_eq (by omega) (by omega)]; exact hN0), hfl, e_bnd, f_Hal_read_L69, if_neg (by rw [l0, nI_leI (by omega) (by omega)]; omega), if_neg (by rw [l0, nI_eq (by omega) (by omega)]; exact hr0), f_Hal_read_J144, e_set]
              rfl
          · unfold f_Mod_read f_Mod_isSheet
            rw [ea, f2, e_bnd, if_neg (by decide), eb, h2, e_bnd, if_neg (by decide), e_bnd, if_neg (by decide), ec, j2, e_bnd, if_neg (by decide), show ix 88 = 88 from rfl, om1.ns, e_nmI, show (1000 : Nat) = 998 + 1 + 1 from rfl]
            rcases hr with ⟨rfl, rfl⟩ | ⟨hN0, hr0, hr9, hfl⟩
            · rw [f_Mod_read_L41, if_pos (by decide), f_Mod_read_J217, e_set]
              rfl
            · rw [f_Mod_read_L41, if_neg (by rw [l0, nI_leI (by omega) (by omega)]; omega), if_pos rfl]
              have := hx1.resolve_left hN0 (f_Mod_read_L41 (998 + 1)) 0
              rw [show (0 : Int32) = nI 0 from rfl]
              rw [show nI 0 = (0 : Int32) from rfl] at this ⊢
              rw [this, f_Mod_read_J143, if_neg (by rw [l0, nI_eq (by omega) (by omega)]; exact hr0), f_Mod_read_L41]
              by_cases q : nI N ≤ (0 : Int32) + 1
              · rw [if_pos q, f_Mod_read_J217, e_set]
              · rw [if_neg q, if_neg (by rw [l0, nI_eq (by omega) (by omega)]; exact hr0), f_Mod_read_J217, e_set]
        by_cases hN0 : N = 0
        · exact zero 0 (Or.inl ⟨hN0, rfl⟩) (fun X hX => Or.inl hN0)
        · rcases id (hS.1 k hk4) with ⟨n1, n2⟩ | ⟨l, n, hl, hn, a3, a4, a5, a6, a7⟩
          · refine zero 1 (Or.inr ⟨hN0, by decide, by decide, ?_⟩) (fun X hX => Or.inr (fun k41 x7 => r56x hk4 (Or.inl ⟨rfl, by rw [hX]; exact n2⟩)))
            unfold f_She_faultOfLane
            rw [she_yes hk4, e_bnd, if_neg (by decide), e_ckn hk4 (by decide), show ix (nI k) = k from e_ix (by omega), n1, if_pos rfl]
            rfl
          · by_cases hll : l = l'
            · subst hll
              have hs : ShC k l n (fun i => M (97 + k) i) M := ⟨a3, a5, fun i hi => rfl⟩
              obtain ⟨v, T', M1, r, b1, b2, b3, b4, b5, b6, b7⟩ := readL (N := N) (bf := T 14 0) (f := f) hk4 hl hn hN N 1000 1000 0 0 T M (by omega) (by omega) (by omega) g (Nat.le_refl _) (Or.inl rfl) o hs
              have om1 : OnM T M1 := by
                have e : ∀ a, 102 < a → M1 a = M a := fun a ha => b5.1 a (by omega) (by omega)
                unfold OnM
                rw [e 103 (by decide), e 104 (by decide), e 106 (by decide), e 107 (by decide)]
                exact om
              have sX : ShM k l n (fun i => M (97 + k) i) M1 := ⟨by rw [b5.1 119 (by decide) (by decide)]; exact a4, by rw [b5.1 120 (by decide) (by decide)]; exact a6, fun i hi => by rw [b5.1 121 (by decide) (by decide)]; exact (a7 i hi).symm⟩
              obtain ⟨M2, y1, y2, y3, y4⟩ := b7 M1 om1 sX
              refine ⟨v, M1, M2, ?_, ?_, inv_rd hI hS hT hF b5 y3 b4 b2 y2 b3 ?_⟩
              · have hfl : f_She_faultOfLane M (nI k) (nI l) = some (nI 0) := by
                  unfold f_She_faultOfLane
                  rw [she_yes hk4, e_bnd, if_neg (by decide), e_ckn hk4 (by decide), show ix (nI k) = k from e_ix (by omega), a3, if_neg (by rw [l1, e_neg (by omega) (by omega) (by omega)]; exact id), e_ckn hk4 (by decide), if_pos rfl]
                  rfl
                unfold f_Hal_read f_Hal_read_J64
                rw [show f_Hal_within (nI k) 0 3 = some (nI 1) from f1, e_bnd, if_neg (by decide), show f_Hal_within (nI l) 0 2 = some (nI 1) from h1, e_bnd, if_neg (by decide), show f_Hal_within (nI N) 0 12 = some (nI 1) from j1, e_bnd, if_neg (by decide), e_nmI, o.ns, if_neg (by rw [l0, nI_eq (by omega) (by omega)]; exact hN0), hfl, e_bnd]
                exact b1
              · unfold f_Mod_read f_Mod_isSheet
                rw [ea, f2, e_bnd, if_neg (by decide), eb, h2, e_bnd, if_neg (by decide), e_bnd, if_neg (by decide), ec, j2, e_bnd, if_neg (by decide), show ix 88 = 88 from rfl, om1.ns, e_nmI]
                exact y1
              · rw [b6, y4, b5.1 103 (by decide) (by decide), hS.2]
            · refine zero 3 (Or.inr ⟨hN0, by decide, by decide, ?_⟩) (fun X hX => Or.inr (fun k41 x7 => r56x hk4 (Or.inr ⟨rfl, l, hl, hl', by rw [hX]; exact a4, hll⟩)))
              unfold f_She_faultOfLane
              rw [she_yes hk4, e_bnd, if_neg (by decide), e_ckn hk4 (by decide), show ix (nI k) = k from e_ix (by omega), a3, if_neg (by rw [l1, e_neg (by omega) (by omega) (by omega)]; exact id), e_ckn hk4 (by decide), if_neg (by rw [nI_eq (by omega) (by omega)]; exact hll)]
              rfl
      · refine ⟨-1, M, M, ?_, ?_, ⟨T, hA, hI, hS, hT, hF⟩⟩
        · unfold f_Hal_read
          rw [show f_Hal_within (nI k) 0 3 = some (nI 1) from f1, e_bnd, if_neg (by decide), show f_Hal_within (nI l') 0 2 = some (nI 1) from h1, e_bnd, if_neg (by decide), show f_Hal_within z 0 12 = some (nI 0) from j1, e_bnd, if_pos (by rfl)]
        · unfold f_Mod_read f_Mod_isSheet
          rw [ea, f2, e_bnd, if_neg (by decide), eb, h2, e_bnd, if_neg (by decide), e_bnd, if_neg (by decide), ec, j2, e_bnd, if_pos (by rfl)]
    · refine ⟨-1, M, M, ?_, ?_, ⟨T, hA, hI, hS, hT, hF⟩⟩
      · unfold f_Hal_read
        rw [show f_Hal_within (nI k) 0 3 = some (nI 1) from f1, e_bnd, if_neg (by decide), show f_Hal_within y 0 2 = some (nI 0) from h1, e_bnd, if_pos (by rfl)]
      · unfold f_Mod_read f_Mod_isSheet
        rw [ea, f2, e_bnd, if_neg (by decide), eb, h2, e_bnd, if_pos (by rfl), e_bnd, if_pos (by rfl)]
  · refine ⟨-1, M, M, ?_, ?_, ⟨T, hA, hI, hS, hT, hF⟩⟩
    · unfold f_Hal_read
      rw [show f_Hal_within x 0 3 = some (nI 0) from f1, e_bnd, if_pos (by rfl)]
    · unfold f_Mod_read f_Mod_isSheet
      rw [ea, f2, e_bnd, if_pos (by rfl), e_bnd, if_pos (by rfl)]
