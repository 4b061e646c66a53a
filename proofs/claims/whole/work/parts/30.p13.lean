/-! pure: secrets -/
theorem b_or_assoc (a b c : Int32) : a ||| b ||| c = a ||| (b ||| c) := by
  apply Int32.toBitVec_inj.1
  simp only [Int32.toBitVec_or]
  exact BitVec.or_assoc _ _ _
theorem b_or_comm (a b : Int32) : a ||| b = b ||| a := by
  apply Int32.toBitVec_inj.1
  simp only [Int32.toBitVec_or]
  exact BitVec.or_comm _ _
theorem b_or_self (a : Int32) : a ||| a = a := by
  apply Int32.toBitVec_inj.1
  simp
theorem b_or4 (a x b y : Int32) : (a ||| x) ||| (b ||| y) = (a ||| b) ||| (x ||| y) := by
  rw [b_or_assoc, b_or_assoc, ← b_or_assoc x b y, b_or_comm x b, b_or_assoc b x y]
theorem orN_or {A B : Nat → Bool} : ∀ n, orN A n ||| orN B n = orN (fun q => A q || B q) n
  | 0 => by
    rw [orN_0, orN_0, orN_0]
    exact b_or0 0
  | n + 1 => by
    have ih := orN_or (A := A) (B := B) n
    rw [orN_s, orN_s, orN_s, ← ih]
    cases hA : A n <;> cases hB : B n
    · rfl
    · simp only [Bool.false_eq_true, if_false, if_true, Bool.or_true]
      rw [b_or_assoc]
    · simp only [Bool.false_eq_true, if_false, if_true, Bool.or_false]
      rw [b_or_assoc, b_or_comm _ (orN B n), ← b_or_assoc]
    · simp only [if_true, Bool.or_true]
      rw [b_or4, b_or_self]
theorem orN_none {P : Nat → Bool} : ∀ {n : Nat}, (∀ q, q < n → P q = false) → orN P n = 0
  | 0, _ => rfl
  | n + 1, h => by
    rw [orN_s, h n (by omega), orN_none (fun q hq => h q (by omega))]
    rfl
theorem orN_bit1 {p : Nat} : ∀ {n : Nat}, p < n → orN (fun q => decide (q = p)) n = jshl 1 (nI p)
  | n + 1, h => by
    rw [orN_s]
    by_cases e : p = n
    · subst e
      rw [if_pos (by simp), orN_none (fun q hq => by simp; omega), b_0or]
    · rw [if_neg (by simp; omega), orN_bit1 (show p < n by omega)]
/-- what is known: of a secret, by whom -/
abbrev Kn : Type := Nat → Nat → Bool
def sdB (T : Tn) (κ : Kn) (i : Nat) : Bool := decide (orN (κ (T 17 i)) (T 1 5) = 0) || κ (T 17 i) (T 16 i)
def tel (T : Tn) (κ : Kn) (i : Nat) : Kn := fun s q => if s = T 17 i then (κ s q || decide (q = T 16 i)) || decide (hbN T (T 3 (T 16 i)) (T 3 q) (T 15 i) = 1) else κ s q
def tl (T : Tn) (bt : Nat → Bool) : Nat → Kn
  | 0 => fun _ _ => false
  | i + 1 => if (!bt i && sdB T (tl T bt i) i) = true then tel T (tl T bt i) i else tl T bt i
def wct (T : Tn) (bt : Nat → Bool) : Nat → Nat
  | 0 => 0
  | i + 1 => if (!bt i && sdB T (tl T bt i) i) = true then wct T bt i + 1 else wct T bt i
theorem tl_s {T : Tn} {bt : Nat → Bool} {i : Nat} : tl T bt (i + 1) = if (!bt i && sdB T (tl T bt i) i) = true then tel T (tl T bt i) i else tl T bt i := rfl
theorem wct_s {T : Tn} {bt : Nat → Bool} {i : Nat} : wct T bt (i + 1) = if (!bt i && sdB T (tl T bt i) i) = true then wct T bt i + 1 else wct T bt i := rfl
def KnC (a : Nat) (T : Tn) (κ : Kn) (M : Mem) : Prop := ∀ s, s < 8 → M a s = orN (κ s) (T 1 5)
theorem tel_is {T : Tn} {κ : Kn} {i : Nat} (hp : T 16 i < T 1 5) : orN (tel T κ i (T 17 i)) (T 1 5) = orN (κ (T 17 i)) (T 1 5) ||| jshl 1 (nI (T 16 i)) ||| ppl T (T 16 i) (T 15 i) := by
  unfold ppl
  rw [← orN_bit1 hp, orN_or, orN_or]
  exact orN_cg (fun q _ => by
    show (if T 17 i = T 17 i then _ else _) = _
    rw [if_pos rfl])
theorem tel_ne {T : Tn} {κ : Kn} {i s : Nat} (h : s ≠ T 17 i) : tel T κ i s = κ s := by
  funext q
  exact if_neg h
section GO
variable {T : Tn} {M : Mem}
theorem fillL {a n : Nat} (hn : n < 2147483648) : ∀ (m f k : Nat) (M : Mem) (x : Int32), k + m = n → m < f → (∀ j, j < k → M a j = x) → ∃ M', f_Arr_fill_L5 a n f x (nI k) (nI n) M = some M' ∧ Fr a a M M' ∧ ∀ j, j < n → M' a j = x := by
  intro m
  induction m with
  | zero =>
    intro f k M x hk hf h
    obtain ⟨f, rfl⟩ : ∃ z, f = z + 1 := ⟨f - 1, by omega⟩
    have e : k = n := by omega
    subst e
    exact ⟨M, by rw [f_Arr_fill_L5, if_pos (by rw [nI_leI (by omega) (by omega)]; omega)], Fr.rf, h⟩
  | succ m ih =>
    intro f k M x hk hf h
    obtain ⟨f, rfl⟩ : ∃ z, f = z + 1 := ⟨f - 1, by omega⟩
    obtain ⟨M', r1, r2, r3⟩ := ih f (k + 1) (upd2 M a k x) x (by omega) (by omega) (fun j hj => by
      by_cases e : j = k
      · subst e; exact u_eq
      · rw [u_nk e]; exact h j (by omega))
    refine ⟨M', ?_, (Fr.rf.set (Nat.le_refl a) (Nat.le_refl a)).tr r2, r3⟩
    rw [f_Arr_fill_L5, if_neg (by rw [nI_leI (by omega) (by omega)]; omega), e_ckn (by omega) (by omega), e_set, nI_1, show ix (nI k) = k from e_ix (by omega)]
    exact r1
theorem fill_ok {a n : Nat} {x : Int32} (hn : n < 1000) : ∃ M', f_Arr_fill a n x M = some M' ∧ Fr a a M M' ∧ ∀ j, j < n → M' a j = x := by
  unfold f_Arr_fill
  rw [e_nmI]
  exact fillL (by omega) n 1000 0 M x (by omega) hn (fun j hj => by omega)
theorem c_wsp (o : On T M) (g : Good T) {i : Nat} (hi : i < T 14 0) : f_Tri_part 14 M (nI i) 0 = some (nI (T 15 i)) ∧ f_Tri_part 14 M (nI i) 1 = some (nI (T 16 i)) ∧ f_Tri_part 14 M (nI i) 2 = some (nI (T 17 i)) := by
  have h9 := g.ns
  refine ⟨?_, ?_, ?_⟩
  · simp (disch := omega) only [e_bnd, e_bnd2, e_set, e_cpy, e_nmI, e_nmL, e_ckn, e_ckB0, e_ckB1, l0, l1, l2, l3, l4, l5, l6, l7, l8, l9, l10, l11, l12, l13, l14, l15, l16, l17, l18, l19, l20, l21, l22, l24, l25, l32, l39, l40, l41, l48, l50, l56, l57, l59, l60, l72, l79, l80, l81, l82, l88, l89, l97, l100, l122, l124, l125, l160, l255, l312, l320, l375, l1000, nI_ltI, nI_leI, nI_eq, nI_add, pk_mul, e_ix, e_neg, if_true, if_false, if_pos, if_neg, f_Tri_part, o.ns, Nat.reduceAdd, o.v (a := 15) (by decide) (by decide) hi]
  · simp (disch := omega) only [e_bnd, e_bnd2, e_set, e_cpy, e_nmI, e_nmL, e_ckn, e_ckB0, e_ckB1, l0, l1, l2, l3, l4, l5, l6, l7, l8, l9, l10, l11, l12, l13, l14, l15, l16, l17, l18, l19, l20, l21, l22, l24, l25, l32, l39, l40, l41, l48, l50, l56, l57, l59, l60, l72, l79, l80, l81, l82, l88, l89, l97, l100, l122, l124, l125, l160, l255, l312, l320, l375, l1000, nI_ltI, nI_leI, nI_eq, nI_add, pk_mul, e_ix, e_neg, if_true, if_false, if_pos, if_neg, f_Tri_part, o.ns, Nat.reduceAdd, o.v (a := 16) (by decide) (by decide) hi]
  · simp (disch := omega) only [e_bnd, e_bnd2, e_set, e_cpy, e_nmI, e_nmL, e_ckn, e_ckB0, e_ckB1, l0, l1, l2, l3, l4, l5, l6, l7, l8, l9, l10, l11, l12, l13, l14, l15, l16, l17, l18, l19, l20, l21, l22, l24, l25, l32, l39, l40, l41, l48, l50, l56, l57, l59, l60, l72, l79, l80, l81, l82, l88, l89, l97, l100, l122, l124, l125, l160, l255, l312, l320, l375, l1000, nI_ltI, nI_leI, nI_eq, nI_add, pk_mul, e_ix, e_neg, if_true, if_false, if_pos, if_neg, f_Tri_part, o.ns, Nat.reduceAdd, o.v (a := 17) (by decide) (by decide) hi]
theorem sec_yes {s : Nat} (h : s < 8) : f_Hal_isSecret (nI s) = some (nI 1) := by
  have := w_yes (k := s) (m := 7) (by omega) (by decide)
  simp (disch := omega) only [e_bnd, e_bnd2, e_set, e_cpy, e_nmI, e_nmL, e_ckn, e_ckB0, e_ckB1, l0, l1, l2, l3, l4, l5, l6, l7, l8, l9, l10, l11, l12, l13, l14, l15, l16, l17, l18, l19, l20, l21, l22, l24, l25, l32, l39, l40, l41, l48, l50, l56, l57, l59, l60, l72, l79, l80, l81, l82, l88, l89, l97, l100, l122, l124, l125, l160, l255, l312, l320, l375, l1000, nI_ltI, nI_leI, nI_eq, nI_add, pk_mul, e_ix, e_neg, if_true, if_false, if_pos, if_neg, f_Hal_isSecret, this]
theorem c_kof {κ : Kn} (hK : KnC 85 T κ M) {s : Nat} (h : s < 8) : f_Gos_knowersOf M (nI s) = some (orN (κ s) (T 1 5)) := by
  unfold f_Gos_knowersOf
  rw [sec_yes h, e_bnd, if_neg (by decide), e_ckn h (by decide), show ix (nI s) = s from e_ix (by omega), hK s h]
theorem c_tell (o : On T M) (g : Good T) {κ : Kn} (hK : KnC 85 T κ M) {i : Nat} (hi : i < T 14 0) : ∃ M', f_Gos_tellOne (nI i) M = some (nI (if sdB T κ i = true then 1 else 0), M') ∧ Fr 79 85 M M' ∧ KnC 85 T (if sdB T κ i = true then tel T κ i else κ) M' := by
  have h9 := g.n
  have hv := g.v hi
  obtain ⟨c0, c1, c2⟩ := c_wsp o g hi
  have w1 : f_Hal_within (nI (T 16 i)) 0 (nI (T 1 5) - 1) = some (nI 1) := by
    rw [w_in, if_pos (nI_in1 (by omega) hv.2.1)]
  have hbt : jshr (orN (κ (T 17 i)) (T 1 5)) (nI (T 16 i)) &&& 1 = if κ (T 17 i) (T 16 i) = true then nI 1 else nI 0 := by
    rw [orN_bit (by omega) (by omega)]
    by_cases h : κ (T 17 i) (T 16 i) = true
    · rw [if_pos ⟨hv.2.1, h⟩, if_pos h]
    · rw [if_neg (fun q => h q.2), if_neg h]
  have yes : sdB T κ i = true → ∃ M', f_Gos_tellOne_J67 (nI i) (nI (T 16 i)) (nI (T 17 i)) (orN (κ (T 17 i)) (T 1 5)) M = some (nI (if sdB T κ i = true then 1 else 0), M') ∧ Fr 79 85 M M' ∧ KnC 85 T (if sdB T κ i = true then tel T κ i else κ) M' := fun hs => by
    obtain ⟨M1, p1, p2⟩ := c_ppl (gg := 79) (h := T 15 i) o g hv.2.1 hv.1 (by decide)
    refine ⟨upd2 M1 85 (T 17 i) (orN (κ (T 17 i)) (T 1 5) ||| jshl 1 (nI (T 16 i)) ||| ppl T (T 16 i) (T 15 i)), ?_, (p2.up (by decide) (by decide)).set (by decide) (by decide), ?_⟩
    · unfold f_Gos_tellOne_J67
      rw [c0, e_bnd, p1, e_bnd2, e_ckn hv.2.2 (by decide), e_set, show ix (nI (T 17 i)) = T 17 i from e_ix (by omega), hs]
      rfl
    · intro s hs8
      rw [hs, if_pos rfl]
      by_cases e : s = T 17 i
      · subst e
        rw [u_eq, tel_is hv.2.1]
      · rw [u_nk e, p2 85 (by decide), tel_ne e]
        exact hK s hs8
  unfold f_Gos_tellOne
  rw [c1, e_bnd, c2, e_bnd, c_kof hK hv.2.2, e_bnd, o.s5, w1, e_bnd, if_neg (by decide), sec_yes hv.2.2, e_bnd, if_neg (by decide), f_Hal_bit, hbt, e_bnd]
  by_cases h0 : orN (κ (T 17 i)) (T 1 5) = 0
  · rw [if_pos h0]
    exact yes (by simp [sdB, h0])
  · rw [if_neg h0]
    by_cases h1 : κ (T 17 i) (T 16 i) = true
    · rw [if_pos h1, if_neg (by decide)]
      exact yes (by simp [sdB, h1])
    · rw [if_neg h1, if_pos (by rfl)]
      have hs : sdB T κ i = false := by simp [sdB, h0, h1]
      refine ⟨M, ?_, Fr.rf, ?_⟩
      · rw [hs]; rfl
      · rw [hs]; exact hK
def bt0 : Nat → Bool := fun _ => false
theorem c_tellL (g : Good T) {N : Nat} (hN : N ≤ T 14 0) : ∀ (m n k : Nat) (M : Mem), On T M → KnC 85 T (tl T bt0 k) M → k + m = N → m < n → ∃ M', f_Gos_tellFirst_L13 n (nI N) (nI (wct T bt0 k)) (nI k) M = some (nI (wct T bt0 N), M') ∧ Fr 79 85 M M' ∧ KnC 85 T (tl T bt0 N) M' := by
  have h9 := g.ns
  intro m
  induction m with
  | zero =>
    intro n k M o hK hk hn
    obtain ⟨n, rfl⟩ : ∃ z, n = z + 1 := ⟨n - 1, by omega⟩
    have e : k = N := by omega
    subst e
    exact ⟨M, by rw [f_Gos_tellFirst_L13, if_pos (by rw [nI_leI (by omega) (by omega)]; omega)], Fr.rf, hK⟩
  | succ m ih =>
    intro n k M o hK hk hn
    obtain ⟨n, rfl⟩ : ∃ z, n = z + 1 := ⟨n - 1, by omega⟩
    obtain ⟨M1, p1, p2, p3⟩ := c_tell o g hK (show k < T 14 0 by omega)
    have e1 : tl T bt0 (k + 1) = if sdB T (tl T bt0 k) k = true then tel T (tl T bt0 k) k else tl T bt0 k := by rw [tl_s]; simp [bt0]
    have e2 : wct T bt0 (k + 1) = wct T bt0 k + (if sdB T (tl T bt0 k) k = true then 1 else 0) := by rw [wct_s]; simp [bt0]; split <;> rfl
    rw [← e1] at p3
    obtain ⟨M', r1, r2, r3⟩ := ih n (k + 1) M1 (o.fr p2 (by decide)) p3 (by omega) (by omega)
    refine ⟨M', ?_, p2.tr r2, r3⟩
    rw [f_Gos_tellFirst_L13, if_neg (by rw [nI_leI (by omega) (by omega)]; omega), p1, e_bnd2, e_nmI, nI_add, nI_1, ← e2]
    exact r1
theorem kn0 (h : ∀ j, j < 8 → M 85 j = 0) (bt : Nat → Bool) : KnC 85 T (tl T bt 0) M := fun s hs => by
  rw [h s hs]
  exact (orN_none (fun q _ => rfl)).symm
theorem c_tellF (o : On T M) (g : Good T) {N : Nat} (hN : N ≤ T 14 0) : ∃ M', f_Gos_tellFirst (nI N) M = some (nI (wct T bt0 N), M') ∧ Fr 79 85 M M' ∧ KnC 85 T (tl T bt0 N) M' := by
  have h9 := g.ns
  obtain ⟨M1, p1, p2, p3⟩ := fill_ok (M := M) (a := 85) (n := 8) (x := 0) (by decide)
  obtain ⟨M', r1, r2, r3⟩ := c_tellL g hN N 1000 0 M1 (o.fr p2 (by decide)) (kn0 p3 bt0) (by omega) (by omega)
  refine ⟨M', ?_, (p2.up (by decide) (by decide)).tr r2, r3⟩
  unfold f_Gos_tellFirst
  rw [p1, e_bnd]
  exact r1
def btx (x : Nat) : Nat → Bool := fun i => decide (i = x)
theorem c_tellXL (g : Good T) {x : Nat} (hx : x < T 14 0) : ∀ (m n k : Nat) (M : Mem), On T M → KnC 85 T (tl T (btx x) k) M → k + m = T 14 0 → m < n → ∃ M', f_Gos_tellAllBut_L10 n (nI x) (nI k) M = some M' ∧ Fr 79 85 M M' ∧ KnC 85 T (tl T (btx x) (T 14 0)) M' := by
  have h9 := g.ns
  intro m
  induction m with
  | zero =>
    intro n k M o hK hk hn
    obtain ⟨n, rfl⟩ : ∃ z, n = z + 1 := ⟨n - 1, by omega⟩
    have e : k = T 14 0 := by omega
    subst e
    exact ⟨M, by rw [f_Gos_tellAllBut_L10, o.ns, if_pos (by rw [nI_leI (by omega) (by omega)]; omega)], Fr.rf, hK⟩
  | succ m ih =>
    intro n k M o hK hk hn
    obtain ⟨n, rfl⟩ : ∃ z, n = z + 1 := ⟨n - 1, by omega⟩
    rw [f_Gos_tellAllBut_L10, o.ns, if_neg (by rw [nI_leI (by omega) (by omega)]; omega), nI_1]
    by_cases hkx : k = x
    · subst hkx
      rw [if_pos rfl]
      have e1 : tl T (btx k) (k + 1) = tl T (btx k) k := by rw [tl_s]; simp [btx]
      exact ih n (k + 1) M o (by rw [e1]; exact hK) (by omega) (by omega)
    · rw [if_neg (by rw [nI_eq (by omega) (by omega)]; exact hkx)]
      obtain ⟨M1, p1, p2, p3⟩ := c_tell o g hK (show k < T 14 0 by omega)
      have e1 : tl T (btx x) (k + 1) = if sdB T (tl T (btx x) k) k = true then tel T (tl T (btx x) k) k else tl T (btx x) k := by rw [tl_s]; simp [btx, hkx]
      rw [← e1] at p3
      obtain ⟨M', r1, r2, r3⟩ := ih n (k + 1) M1 (o.fr p2 (by decide)) p3 (by omega) (by omega)
      refine ⟨M', ?_, p2.tr r2, r3⟩
      rw [p1, e_bnd2]
      exact r1
theorem c_tellX (o : On T M) (g : Good T) {x : Nat} (hx : x < T 14 0) : ∃ M', f_Gos_tellAllBut (nI x) M = some M' ∧ Fr 79 85 M M' ∧ KnC 85 T (tl T (btx x) (T 14 0)) M' := by
  have h9 := g.ns
  obtain ⟨M1, p1, p2, p3⟩ := fill_ok (M := M) (a := 85) (n := 8) (x := 0) (by decide)
  obtain ⟨M', r1, r2, r3⟩ := c_tellXL g hx (T 14 0) 1000 0 M1 (o.fr p2 (by decide)) (kn0 p3 _) (by omega) (by omega)
  refine ⟨M', ?_, (p2.up (by decide) (by decide)).tr r2, r3⟩
  unfold f_Gos_tellAllBut
  rw [p1, e_bnd]
  exact r1
/-! the reference's -/
theorem m_say (o : OnM T M) (g : Good T) {i : Nat} (hi : i < T 14 0) : f_Mod_sayOf M (nI i) 0 = some (nI (T 15 i)) ∧ f_Mod_sayOf M (nI i) 1 = some (nI (T 16 i)) ∧ f_Mod_sayOf M (nI i) 2 = some (nI (T 17 i)) := by
  have h9 := g.ns
  refine ⟨?_, ?_, ?_⟩
  · simp (disch := omega) only [e_bnd, e_bnd2, e_set, e_cpy, e_nmI, e_nmL, e_ckn, e_ckB0, e_ckB1, l0, l1, l2, l3, l4, l5, l6, l7, l8, l9, l10, l11, l12, l13, l14, l15, l16, l17, l18, l19, l20, l21, l22, l24, l25, l32, l39, l40, l41, l48, l50, l56, l57, l59, l60, l72, l79, l80, l81, l82, l88, l89, l97, l100, l122, l124, l125, l160, l255, l312, l320, l375, l1000, nI_ltI, nI_leI, nI_eq, nI_add, pk_mul, e_ix, e_neg, if_true, if_false, if_pos, if_neg, f_Mod_sayOf, Nat.add_zero, o.v0 hi]
  · simp (disch := omega) only [e_bnd, e_bnd2, e_set, e_cpy, e_nmI, e_nmL, e_ckn, e_ckB0, e_ckB1, l0, l1, l2, l3, l4, l5, l6, l7, l8, l9, l10, l11, l12, l13, l14, l15, l16, l17, l18, l19, l20, l21, l22, l24, l25, l32, l39, l40, l41, l48, l50, l56, l57, l59, l60, l72, l79, l80, l81, l82, l88, l89, l97, l100, l122, l124, l125, l160, l255, l312, l320, l375, l1000, nI_ltI, nI_leI, nI_eq, nI_add, pk_mul, e_ix, e_neg, if_true, if_false, if_pos, if_neg, f_Mod_sayOf, o.v1 hi]
  · simp (disch := omega) only [e_bnd, e_bnd2, e_set, e_cpy, e_nmI, e_nmL, e_ckn, e_ckB0, e_ckB1, l0, l1, l2, l3, l4, l5, l6, l7, l8, l9, l10, l11, l12, l13, l14, l15, l16, l17, l18, l19, l20, l21, l22, l24, l25, l32, l39, l40, l41, l48, l50, l56, l57, l59, l60, l72, l79, l80, l81, l82, l88, l89, l97, l100, l122, l124, l125, l160, l255, l312, l320, l375, l1000, nI_ltI, nI_leI, nI_eq, nI_add, pk_mul, e_ix, e_neg, if_true, if_false, if_pos, if_neg, f_Mod_sayOf, o.v2 hi]
theorem m_isSaid (o : OnM T M) (g : Good T) {κ : Kn} (hK : KnC 118 T κ M) {i : Nat} (hi : i < T 14 0) : f_Mod_isSaid M (nI i) = some (nI (if sdB T κ i = true then 1 else 0)) := by
  have h9 := g.n
  have hv := g.v hi
  obtain ⟨c0, c1, c2⟩ := m_say o g hi
  have hbt : jshr (orN (κ (T 17 i)) (T 1 5)) (nI (T 16 i)) &&& 1 = if κ (T 17 i) (T 16 i) = true then nI 1 else nI 0 := by
    rw [orN_bit (by omega) (by omega)]
    by_cases h : κ (T 17 i) (T 16 i) = true
    · rw [if_pos ⟨hv.2.1, h⟩, if_pos h]
    · rw [if_neg (fun q => h q.2), if_neg h]
  unfold f_Mod_isSaid
  rw [c2, e_bnd, e_ckn hv.2.2 (by decide), e_nmI, show ix (nI (T 17 i)) = T 17 i from e_ix (by omega), hK _ hv.2.2, c1, e_bnd, hbt]
  by_cases h0 : orN (κ (T 17 i)) (T 1 5) = 0
  · rw [if_pos h0, show sdB T κ i = true by simp [sdB, h0]]
    rfl
  · rw [if_neg h0]
    by_cases h1 : κ (T 17 i) (T 16 i) = true
    · rw [if_pos h1, if_pos (by rfl), show sdB T κ i = true by simp [sdB, h1]]
      rfl
    · rw [if_neg h1, if_neg (by decide), show sdB T κ i = false by simp [sdB, h0, h1]]
      rfl
theorem m_saysL (o : OnM T M) (g : Good T) {κ : Kn} (hK : KnC 118 T κ M) {i : Nat} (hi : i < T 14 0) : ∀ (m n k : Nat), k + m = T 1 5 → m < n → f_Mod_says_L35 n (nI i) (hrs T (T 3 (T 16 i)) (T 15 i)) (jshl 1 (nI (T 16 i)) ||| orN (fun q => decide (hbN T (T 3 (T 16 i)) (T 3 q) (T 15 i) = 1)) k) (nI k) M = some (upd2 M 118 (T 17 i) (orN (tel T κ i (T 17 i)) (T 1 5))) := by
  have h9 := g.n
  have hv := g.v hi
  obtain ⟨c0, c1, c2⟩ := m_say o g hi
  intro m
  induction m with
  | zero =>
    intro n k hk hn
    obtain ⟨n, rfl⟩ : ∃ z, n = z + 1 := ⟨n - 1, by omega⟩
    have e : k = T 1 5 := by omega
    subst e
    rw [f_Mod_says_L35, o.s5, if_pos (by rw [nI_leI (by omega) (by omega)]; omega), c2, e_bnd, e_ckn hv.2.2 (by decide), e_ckn hv.2.2 (by decide), e_set, show ix (nI (T 17 i)) = T 17 i from e_ix (by omega), hK _ hv.2.2, tel_is hv.2.1, b_or_assoc]
    rfl
  | succ m ih =>
    intro n k hk hn
    obtain ⟨n, rfl⟩ : ∃ z, n = z + 1 := ⟨n - 1, by omega⟩
    have hkp : k < T 1 5 := by omega
    have hs := g.p hkp
    have hle := hbN_le (T := T) (b := T 3 (T 16 i)) (c := T 3 k) (h := T 15 i)
    have ih2 := ih n (k + 1) (by omega) (by omega)
    rw [orN_s] at ih2
    rw [f_Mod_says_L35, o.s5, if_neg (by rw [nI_leI (by omega) (by omega)]; omega), l82, nI_add, e_ckn (by omega) (by decide), show ix (nI (82 + k)) = 82 + k from e_ix (by omega), o.p (by omega), hrs_bit g hs, e_nmI, nI_1]
    by_cases h1 : hbN T (T 3 (T 16 i)) (T 3 k) (T 15 i) = 1
    · rw [if_pos (by simp [h1])] at ih2
      rw [h1, b_or_assoc]
      exact ih2
    · rw [if_neg (by simp [h1])] at ih2
      rw [show hbN T (T 3 (T 16 i)) (T 3 k) (T 15 i) = 0 by omega, show nI 0 = 0 from rfl, jshl_0 k (by omega), b_or0]
      exact ih2
theorem m_says (o : OnM T M) (g : Good T) {κ : Kn} (hK : KnC 118 T κ M) {i : Nat} (hi : i < T 14 0) : ∃ M', f_Mod_says (nI i) M = some M' ∧ Frm M M' ∧ KnC 118 T (tel T κ i) M' := by
  have h9 := g.n
  have hv := g.v hi
  obtain ⟨c0, c1, c2⟩ := m_say o g hi
  obtain ⟨M1, p1, p2⟩ := m_heardOf (h := T 15 i) o g (g.p hv.2.1) hv.1
  have hK1 : KnC 118 T κ M1 := fun s hs => by rw [p2 118 s (by decide) (by decide) (fun e => by omega)]; exact hK s hs
  refine ⟨upd2 M1 118 (T 17 i) (orN (tel T κ i (T 17 i)) (T 1 5)), ?_, p2.m.set (by decide) (by decide), fun s hs => ?_⟩
  · unfold f_Mod_says
    rw [c1, e_bnd, l82, nI_add, e_ckn (by omega) (by decide), c0, e_bnd, show ix (nI (82 + T 16 i)) = 82 + T 16 i from e_ix (by omega), o.p (by omega), p1, e_bnd2, e_nmI]
    have := m_saysL (o.fr p2.m) g hK1 hi (T 1 5) 1000 0 (by omega) (by omega)
    rw [orN_0, b_or0] at this
    exact this
  · by_cases e : s = T 17 i
    · subst e; exact u_eq
    · rw [u_nk e, tel_ne e]
      exact hK1 s hs
theorem m_nobodyL : ∀ (m n k : Nat) (M : Mem), k + m = 8 → m < n → (∀ j, j < k → M 118 j = 0) → ∃ M', f_Mod_nobodyKnows_L2 n (nI k) M = some M' ∧ Frm M M' ∧ ∀ j, j < 8 → M' 118 j = 0 := by
  intro m
  induction m with
  | zero =>
    intro n k M hk hn h
    obtain ⟨n, rfl⟩ : ∃ z, n = z + 1 := ⟨n - 1, by omega⟩
    have e : k = 8 := by omega
    subst e
    exact ⟨M, by rw [f_Mod_nobodyKnows_L2, if_pos (by decide)], Frm.rf, h⟩
  | succ m ih =>
    intro n k M hk hn h
    obtain ⟨n, rfl⟩ : ∃ z, n = z + 1 := ⟨n - 1, by omega⟩
    obtain ⟨M', r1, r2, r3⟩ := ih n (k + 1) (upd2 M 118 k 0) (by omega) (by omega) (fun j hj => by
      by_cases e : j = k
      · subst e; exact u_eq
      · rw [u_nk e]; exact h j (by omega))
    refine ⟨M', ?_, (Frm.rf.set (by decide) (by decide)).tr r2, r3⟩
    rw [f_Mod_nobodyKnows_L2, if_neg (by rw [l8, nI_leI (by omega) (by omega)]; omega), e_ckn (by omega) (by decide), e_set, nI_1, show ix (nI k) = k from e_ix (by omega)]
    exact r1
theorem m_whL (g : Good T) {N : Nat} (hN : N ≤ T 14 0) {x : Int32} {bt : Nat → Bool} (hbt : ∀ c, c < T 14 0 → (nI c = x ↔ bt c = true)) : ∀ (m n k : Nat) (M : Mem), OnM T M → KnC 118 T (tl T bt k) M → k + m = N → m < n → ∃ M', f_Mod_whispers_L9 n (nI N) x (nI (wct T bt k)) (nI k) M = some (nI (wct T bt N), M') ∧ Frm M M' ∧ KnC 118 T (tl T bt N) M' := by
  have h9 := g.ns
  intro m
  induction m with
  | zero =>
    intro n k M o hK hk hn
    obtain ⟨n, rfl⟩ : ∃ z, n = z + 1 := ⟨n - 1, by omega⟩
    have e : k = N := by omega
    subst e
    exact ⟨M, by rw [f_Mod_whispers_L9, if_pos (by rw [nI_leI (by omega) (by omega)]; omega)], Frm.rf, hK⟩
  | succ m ih =>
    intro n k M o hK hk hn
    obtain ⟨n, rfl⟩ : ∃ z, n = z + 1 := ⟨n - 1, by omega⟩
    have hkn : k < T 14 0 := by omega
    rw [f_Mod_whispers_L9, if_neg (by rw [nI_leI (by omega) (by omega)]; omega), nI_1]
    have stay : (!bt k && sdB T (tl T bt k) k) = false → ∃ M', f_Mod_whispers_L9 n (nI N) x (nI (wct T bt k)) (nI (k + 1)) M = some (nI (wct T bt N), M') ∧ Frm M M' ∧ KnC 118 T (tl T bt N) M' := fun e => by
      have e1 : tl T bt (k + 1) = tl T bt k := by rw [tl_s, e]; rfl
      have e2 : wct T bt (k + 1) = wct T bt k := by rw [wct_s, e]; rfl
      have := ih n (k + 1) M o (by rw [e1]; exact hK) (by omega) (by omega)
      rw [e2] at this
      exact this
    by_cases hb : bt k = true
    · rw [if_pos ((hbt k hkn).mpr hb)]
      exact stay (by simp [hb])
    · rw [if_neg (fun e => hb ((hbt k hkn).mp e)), m_isSaid o g hK hkn, e_bnd, nI_1]
      by_cases hs : sdB T (tl T bt k) k = true
      · rw [if_pos hs, if_neg (by decide)]
        obtain ⟨M1, p1, p2, p3⟩ := m_says o g hK hkn
        have e0 : (!bt k && sdB T (tl T bt k) k) = true := by simp [hs, hb]
        have e1 : tl T bt (k + 1) = tel T (tl T bt k) k := by rw [tl_s, e0]; rfl
        have e2 : wct T bt (k + 1) = wct T bt k + 1 := by rw [wct_s, e0]; rfl
        obtain ⟨M', r1, r2, r3⟩ := ih n (k + 1) M1 (o.fr p2) (by rw [e1]; exact p3) (by omega) (by omega)
        refine ⟨M', ?_, p2.tr r2, r3⟩
        rw [p1, e_bnd, ← e2]
        exact r1
      · rw [if_neg hs, if_pos (by rfl)]
        exact stay (by simp [hs])
theorem m_wh (o : OnM T M) (g : Good T) {N : Nat} (hN : N ≤ T 14 0) {x : Int32} {bt : Nat → Bool} (hbt : ∀ c, c < T 14 0 → (nI c = x ↔ bt c = true)) : ∃ M', f_Mod_whispers (nI N) x M = some (nI (wct T bt N), M') ∧ Frm M M' ∧ KnC 118 T (tl T bt N) M' := by
  have h9 := g.ns
  obtain ⟨M1, p1, p2, p3⟩ := m_nobodyL 8 1000 0 M rfl (by decide) (fun j hj => by omega)
  obtain ⟨M', r1, r2, r3⟩ := m_whL g hN hbt N 1000 0 M1 (o.fr p2) (fun s hs => by rw [p3 s hs]; exact (orN_none (fun q _ => rfl)).symm) (by omega) (by omega)
  refine ⟨M', ?_, p2.tr r2, r3⟩
  unfold f_Mod_whispers
  rw [show f_Mod_nobodyKnows M = some M1 from p1, e_bnd]
  exact r1
theorem m_wh0 (o : OnM T M) (g : Good T) {N : Nat} (hN : N ≤ T 14 0) : ∃ M', f_Mod_whispers (nI N) (-4) M = some (nI (wct T bt0 N), M') ∧ Frm M M' ∧ KnC 118 T (tl T bt0 N) M' := by
  have h9 := g.ns
  refine m_wh o g hN (fun c hc => ⟨fun e => ?_, fun e => by simp [bt0] at e⟩)
  rw [l4, e_neg (by omega) (by omega) (by omega)] at e
  exact e.elim
end GO
