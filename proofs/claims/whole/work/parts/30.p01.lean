/-! pure: small facts of numbers, memory, options -/
theorem e_bnd {α β : Type} (v : β) (g : β → Option α) : bnd (some v) g = g v := rfl
theorem e_bnd2 {α β : Type} (v : β) (M : Mem) (g : β → Mem → Option α) : bnd2 (some (v, M)) g = g v M := rfl
theorem e_set {α : Type} (M : Mem) (a k : Nat) (x : Int32) (g : Mem → Option α) : setM M a k x g = g (upd2 M a k x) := rfl
theorem e_cpy {α : Type} (M : Mem) (a sp d dp n : Nat) (g : Mem → Option α) : cpyM M a sp d dp n g = g (cpy2 M a sp d dp n) := rfl
theorem e_nmI {α : Type} (x : Int32) (g : Int32 → Option α) : nmI x g = g x := rfl
theorem e_nmL {α : Type} (x : Int64) (g : Int64 → Option α) : nmL x g = g x := rfl
theorem inb_n {k n : Nat} (h : k < n) (hn : n ≤ 2147483648) : inb (nI k) n = true := by
  simp only [inb, nI_toInt (show k < 2 ^ 31 by omega), Bool.and_eq_true, decide_eq_true_eq]
  omega
theorem e_ck {α : Type} {c : Bool} {a : Option α} (h : c = true) : ck c a = a := if_pos h
theorem e_ckn {α : Type} {k n : Nat} {a : Option α} (h : k < n) (hn : n ≤ 2147483648) : ck (inb (nI k) n) a = a := e_ck (inb_n h hn)
theorem e_ckB0 {α : Type} {a : Option α} : ck (isB (nI 0)) a = a := e_ck (by decide)
theorem e_ckB1 {α : Type} {a : Option α} : ck (isB (nI 1)) a = a := e_ck (by decide)
theorem e_ix {k : Nat} (h : k < 2147483648) : (nI k).toNatClampNeg = k := nI_clamp h
theorem e_neg {k m : Nat} (hk : k < 2147483648) (h0 : 0 < m) (hm : m < 2147483648) : (nI k = -nI m) = False := by
  refine eq_false fun e => ?_
  have := congrArg Int32.toInt e
  rw [Int32.toInt_neg, nI_toInt (show k < 2 ^ 31 by omega), nI_toInt (show m < 2 ^ 31 by omega), Int.bmod_eq_of_le (by omega) (by omega)] at this
  omega
theorem l0 : (0 : Int32) = nI 0 := rfl
theorem l1 : (1 : Int32) = nI 1 := rfl
theorem l2 : (2 : Int32) = nI 2 := rfl
theorem l3 : (3 : Int32) = nI 3 := rfl
theorem l4 : (4 : Int32) = nI 4 := rfl
theorem l5 : (5 : Int32) = nI 5 := rfl
theorem l6 : (6 : Int32) = nI 6 := rfl
theorem l7 : (7 : Int32) = nI 7 := rfl
theorem l8 : (8 : Int32) = nI 8 := rfl
theorem l9 : (9 : Int32) = nI 9 := rfl
theorem l10 : (10 : Int32) = nI 10 := rfl
theorem l11 : (11 : Int32) = nI 11 := rfl
theorem l12 : (12 : Int32) = nI 12 := rfl
theorem l13 : (13 : Int32) = nI 13 := rfl
theorem l14 : (14 : Int32) = nI 14 := rfl
theorem l15 : (15 : Int32) = nI 15 := rfl
theorem l16 : (16 : Int32) = nI 16 := rfl
theorem l17 : (17 : Int32) = nI 17 := rfl
theorem l18 : (18 : Int32) = nI 18 := rfl
theorem l19 : (19 : Int32) = nI 19 := rfl
theorem l20 : (20 : Int32) = nI 20 := rfl
theorem l21 : (21 : Int32) = nI 21 := rfl
theorem l22 : (22 : Int32) = nI 22 := rfl
theorem l24 : (24 : Int32) = nI 24 := rfl
theorem l25 : (25 : Int32) = nI 25 := rfl
theorem l32 : (32 : Int32) = nI 32 := rfl
theorem l39 : (39 : Int32) = nI 39 := rfl
theorem l40 : (40 : Int32) = nI 40 := rfl
theorem l41 : (41 : Int32) = nI 41 := rfl
theorem l48 : (48 : Int32) = nI 48 := rfl
theorem l50 : (50 : Int32) = nI 50 := rfl
theorem l56 : (56 : Int32) = nI 56 := rfl
theorem l57 : (57 : Int32) = nI 57 := rfl
theorem l59 : (59 : Int32) = nI 59 := rfl
theorem l60 : (60 : Int32) = nI 60 := rfl
theorem l72 : (72 : Int32) = nI 72 := rfl
theorem l79 : (79 : Int32) = nI 79 := rfl
theorem l80 : (80 : Int32) = nI 80 := rfl
theorem l81 : (81 : Int32) = nI 81 := rfl
theorem l82 : (82 : Int32) = nI 82 := rfl
theorem l88 : (88 : Int32) = nI 88 := rfl
theorem l89 : (89 : Int32) = nI 89 := rfl
theorem l97 : (97 : Int32) = nI 97 := rfl
theorem l100 : (100 : Int32) = nI 100 := rfl
theorem l122 : (122 : Int32) = nI 122 := rfl
theorem l124 : (124 : Int32) = nI 124 := rfl
theorem l125 : (125 : Int32) = nI 125 := rfl
theorem l160 : (160 : Int32) = nI 160 := rfl
theorem l255 : (255 : Int32) = nI 255 := rfl
theorem l312 : (312 : Int32) = nI 312 := rfl
theorem l320 : (320 : Int32) = nI 320 := rfl
theorem l375 : (375 : Int32) = nI 375 := rfl
theorem l1000 : (1000 : Int32) = nI 1000 := rfl
theorem nI_iff (x : Int32) : (0 ≤ x ↔ 0 ≤ x.toInt) := by
  rw [Int32.le_iff_toInt_le]; rfl
theorem nI_self {x : Int32} (h : 0 ≤ x) : x = nI (ix x) ∧ ix x < 2147483648 := by
  rw [nI_iff] at h
  have hx := Int32.toInt_lt x
  have e : ix x = x.toInt.toNat := rfl
  refine ⟨Int32.toInt_inj.mp ?_, by omega⟩
  rw [nI_toInt (by omega)]
  omega
/-- a number between 0 and a bound -/
theorem nI_rng {x : Int32} {m : Nat} (hm : m < 2147483648) (h0 : 0 ≤ x) (h1 : x ≤ nI m) : ∃ k : Nat, k ≤ m ∧ x = nI k := by
  obtain ⟨e, h⟩ := nI_self h0
  rw [e, nI_leI h hm] at h1
  exact ⟨_, h1, e⟩
/-- .. below a count -/
theorem nI_rng1 {x : Int32} {m : Nat} (hm : m < 2147483648) (h0 : 0 ≤ x) (h1 : x ≤ nI m - 1) : ∃ k : Nat, k < m ∧ x = nI k := by
  obtain ⟨e, h⟩ := nI_self h0
  rw [e, Int32.le_iff_toInt_le, nI_toInt h, Int32.toInt_sub, nI_toInt hm, show (1 : Int32).toInt = 1 from rfl, Int.bmod_eq_of_le (by omega) (by omega)] at h1
  exact ⟨_, by omega, e⟩
theorem nI_in1 {k m : Nat} (hm : m < 2147483648) (hk : k < m) : 0 ≤ nI k ∧ nI k ≤ nI m - 1 := by
  rw [nI_iff, Int32.le_iff_toInt_le, nI_toInt (show k < 2 ^ 31 by omega), Int32.toInt_sub, nI_toInt (show m < 2 ^ 31 by omega), show (1 : Int32).toInt = 1 from rfl, Int.bmod_eq_of_le (by omega) (by omega)]
  omega
theorem w_in (x lo hi : Int32) : f_Hal_within x lo hi = some (if lo ≤ x ∧ x ≤ hi then nI 1 else nI 0) := by
  unfold f_Hal_within
  by_cases h1 : x < lo
  · rw [if_pos h1, if_neg (fun h => absurd h.1 (Int32.not_le.mpr h1))]; rfl
  · rw [if_neg h1]
    by_cases h2 : hi < x
    · rw [if_pos h2, if_neg (fun h => absurd h.2 (Int32.not_le.mpr h2))]; rfl
    · rw [if_neg h2, if_pos ⟨Int32.not_lt.mp h1, Int32.not_lt.mp h2⟩]; rfl
theorem m_inL (x lo hi : Int64) : f_Mod_in x lo hi = some (if lo ≤ x ∧ x ≤ hi then nI 1 else nI 0) := by
  unfold f_Mod_in
  by_cases h1 : lo ≤ x
  · rw [if_neg (Int32.not_lt.mpr ((lg_cmp_ge x lo).mpr h1))]
    by_cases h2 : x ≤ hi
    · rw [if_neg (Int32.not_lt.mpr ((lg_cmp_le x hi).mpr h2)), if_pos ⟨h1, h2⟩]; rfl
    · rw [if_pos (Int32.not_le.mp (fun h => h2 ((lg_cmp_le x hi).mp h))), if_neg (fun h => h2 h.2)]; rfl
  · rw [if_pos (Int32.not_le.mp (fun h => h1 ((lg_cmp_ge x lo).mp h))), if_neg (fun h => h1 h.1)]; rfl
theorem i64_le (x y : Int32) : x.toInt64 ≤ y.toInt64 ↔ x ≤ y := by
  rw [Int64.le_iff_toInt_le, Int32.toInt_toInt64, Int32.toInt_toInt64, Int32.le_iff_toInt_le]
theorem m_in (x lo hi : Int32) : f_Mod_in x.toInt64 lo.toInt64 hi.toInt64 = some (if lo ≤ x ∧ x ≤ hi then nI 1 else nI 0) := by
  rw [m_inL]
  simp only [i64_le]
theorem m_in0 (x : Int32) {a b : Int64} {lo hi : Int32} (ha : a = lo.toInt64) (hb : b = hi.toInt64) : f_Mod_in x.toInt64 a b = some (if lo ≤ x ∧ x ≤ hi then nI 1 else nI 0) := by
  subst ha; subst hb; exact m_in x lo hi
/-- signed numbers -/
def J (i : Int) : Int32 := Int32.ofInt i
theorem J_nI (k : Nat) : nI k = J k := by
  unfold nI J
  rw [Int32.ofInt_eq_ofNat]
theorem J_add (a b : Int) : J a + J b = J (a + b) := (Int32.ofInt_add a b).symm
theorem J_sub (a b : Int) : J a - J b = J (a - b) := (Int32.ofInt_sub a b).symm
theorem J_mul (a b : Int) : J a * J b = J (a * b) := (Int32.ofInt_mul a b).symm
theorem J_neg (a : Int) : -J a = J (-a) := (Int32.ofInt_neg a).symm
theorem J_toInt {a : Int} (h1 : -2147483648 ≤ a) (h2 : a < 2147483648) : (J a).toInt = a := Int32.toInt_ofInt_of_le h1 h2
theorem J_lt {a b : Int} (h1 : -2147483648 ≤ a) (h2 : a < 2147483648) (h3 : -2147483648 ≤ b) (h4 : b < 2147483648) : (J a < J b) = (a < b) := by
  rw [Int32.lt_iff_toInt_lt, J_toInt h1 h2, J_toInt h3 h4]
theorem J_le {a b : Int} (h1 : -2147483648 ≤ a) (h2 : a < 2147483648) (h3 : -2147483648 ≤ b) (h4 : b < 2147483648) : (J a ≤ J b) = (a ≤ b) := by
  rw [Int32.le_iff_toInt_le, J_toInt h1 h2, J_toInt h3 h4]
theorem J_eq {a b : Int} (h1 : -2147483648 ≤ a) (h2 : a < 2147483648) (h3 : -2147483648 ≤ b) (h4 : b < 2147483648) : (J a = J b) = (a = b) := by
  rw [← Int32.toInt_inj, J_toInt h1 h2, J_toInt h3 h4]
theorem J_nat {a : Int} (h : 0 ≤ a) : J a = nI a.toNat := by
  rw [J_nI]
  congr 1
  omega
theorem j_rem {a d : Nat} (ha : a < 2147483648) (h0 : 0 < d) (hd : d < 2147483648) : jrem (nI a) (nI d) = nI (a % d) := pk_rem ha h0 hd
/-! memory -/
theorem u_ne {M : Mem} {a a' k : Nat} {x : Int32} (h : a' ≠ a) : upd2 M a k x a' = M a' := by
  funext j; exact if_neg (fun q => h q.1)
theorem u_eq {M : Mem} {a k : Nat} {x : Int32} : upd2 M a k x a k = x := if_pos ⟨rfl, rfl⟩
theorem u_nk {M : Mem} {a k k' : Nat} {x : Int32} (h : k' ≠ k) : upd2 M a k x a k' = M a k' := if_neg (fun q => h q.2)
theorem u_at {M : Mem} {a k k' : Nat} {x : Int32} : upd2 M a k x a k' = if k' = k then x else M a k' := by
  by_cases h : k' = k
  · subst h; rw [if_pos rfl, u_eq]
  · rw [if_neg h, u_nk h]
theorem u_self {M : Mem} {a k : Nat} {x : Int32} (h : M a k = x) : upd2 M a k x = M := by
  funext i j
  by_cases q : i = a ∧ j = k
  · obtain ⟨rfl, rfl⟩ := q; rw [u_eq, h]
  · exact if_neg q
theorem u_u {M : Mem} {a k : Nat} {x y : Int32} : upd2 (upd2 M a k x) a k y = upd2 M a k y := by
  funext i j
  by_cases q : i = a ∧ j = k
  · obtain ⟨rfl, rfl⟩ := q; rw [u_eq, u_eq]
  · show (if _ then _ else _) = (if _ then _ else _)
    rw [if_neg q, if_neg q]
    exact if_neg q
theorem u_cm {M : Mem} {a k b j : Nat} {x y : Int32} (h : a ≠ b) : upd2 (upd2 M a k x) b j y = upd2 (upd2 M b j y) a k x := by
  funext i n
  by_cases q : i = a
  · subst q
    rw [u_ne h]
    by_cases r : n = k
    · subst r; rw [u_eq, u_eq]
    · rw [u_nk r, u_nk r, u_ne h]
  · rw [u_ne (M := upd2 M b j y) q]
    by_cases r : i = b
    · subst r
      by_cases t : n = j
      · subst t; rw [u_eq, u_eq]
      · rw [u_nk t, u_nk t, u_ne q]
    · rw [u_ne r, u_ne q, u_ne r]
/-- only the addresses from lo to hi may have changed -/
def Fr (lo hi : Nat) (M M' : Mem) : Prop := ∀ a, a < lo ∨ hi < a → M' a = M a
theorem Fr.rf {lo hi : Nat} {M : Mem} : Fr lo hi M M := fun _ _ => rfl
theorem Fr.tr {lo hi : Nat} {M M' M2 : Mem} (h : Fr lo hi M M') (g : Fr lo hi M' M2) : Fr lo hi M M2 := fun a q => (g a q).trans (h a q)
theorem Fr.up {lo hi lo' hi' : Nat} {M M' : Mem} (h : Fr lo' hi' M M') (h1 : lo ≤ lo') (h2 : hi' ≤ hi) : Fr lo hi M M' := fun a q => h a (by omega)
theorem Fr.set {lo hi : Nat} {M M' : Mem} {a k : Nat} {x : Int32} (h : Fr lo hi M M') (h1 : lo ≤ a) (h2 : a ≤ hi) : Fr lo hi M (upd2 M' a k x) := fun i q => by
  rw [u_ne (by omega), h i q]
/-- the reference's own: what only works anew (113 .. 118; of 103: 31, 35 .. 38) -/
def Frm (M M' : Mem) : Prop := ∀ a k, (a < 113 ∨ 118 < a) → (a = 103 → k ≠ 31 ∧ k ≠ 35 ∧ k ≠ 36 ∧ k ≠ 37 ∧ k ≠ 38) → M' a k = M a k
/-- .. the way alone -/
def Frp (M M' : Mem) : Prop := ∀ a k, a ≠ 113 → a ≠ 114 → (a = 103 → k ≠ 31) → M' a k = M a k
theorem Frp.rf {M : Mem} : Frp M M := fun _ _ _ _ _ => rfl
theorem Frp.tr {M M' M2 : Mem} (h : Frp M M') (g : Frp M' M2) : Frp M M2 := fun a k q r t => (g a k q r t).trans (h a k q r t)
theorem Frp.m {M M' : Mem} (h : Frp M M') : Frm M M' := fun a k q r => h a k (by omega) (by omega) (fun e => (r e).1)
theorem Frm.rf {M : Mem} : Frm M M := fun _ _ _ _ => rfl
theorem Frm.tr {M M' M2 : Mem} (h : Frm M M') (g : Frm M' M2) : Frm M M2 := fun a k q r => (g a k q r).trans (h a k q r)
theorem Frm.set {M M' : Mem} {a k : Nat} {x : Int32} (h : Frm M M') (h1 : 113 ≤ a) (h2 : a ≤ 118) : Frm M (upd2 M' a k x) := fun i j q r => by
  rw [u_ne (by omega), h i j q r]
theorem Frm.setF {M M' : Mem} {k : Nat} {x : Int32} (h : Frm M M') (h1 : k = 31 ∨ k = 35 ∨ k = 36 ∨ k = 37 ∨ k = 38) : Frm M (upd2 M' 103 k x) := fun i j q r => by
  by_cases e : i = 103
  · subst e
    rw [u_nk (by have := r rfl; omega), h _ j q r]
  · rw [u_ne e, h i j q r]
