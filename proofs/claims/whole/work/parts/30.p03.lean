/-! pure: the way of a whisper -/
abbrev PS : Type := Int × Int × Int × Int × Int
def dX (d : Nat) : Int := ([0, 1, 1, 1, 0, -1, -1, -1] : List Int).getD d 0
def dY (d : Nat) : Int := ([-1, -1, 0, 1, 1, 1, 0, -1] : List Int).getD d 0
def sx (w x dx n : Int) : Int × Int × Int := if x + dx < 0 ∨ w ≤ x + dx then (x + -dx, -dx, n + 1) else (x + dx, dx, n)
def sw (T : Tn) (k : Nat) (y : Int) : Int := if 0 < T 1 4 ∧ k % T 1 4 = 0 ∧ y + 1 < T 1 1 then y + 1 else y
def stp (T : Tn) (k : Nat) (q : PS) : PS :=
  ((sx (T 1 0) q.1 q.2.2.1 q.2.2.2.2).1, sw T k (sx (T 1 1) q.2.1 q.2.2.2.1 (sx (T 1 0) q.1 q.2.2.1 q.2.2.2.2).2.2).1, (sx (T 1 0) q.1 q.2.2.1 q.2.2.2.2).2.1, (sx (T 1 1) q.2.1 q.2.2.2.1 (sx (T 1 0) q.1 q.2.2.1 q.2.2.2.2).2.2).2.1, (sx (T 1 1) q.2.1 q.2.2.2.1 (sx (T 1 0) q.1 q.2.2.1 q.2.2.2.2).2.2).2.2)
def pc (x y : Int) : Nat := (9 * y + x).toNat
def pcq (q : PS) : Nat := pc q.1 q.2.1
def plo (T : Tn) (k : Nat) (n : Int) : Int := 100 - T 1 2 * k - T 1 3 * n
def pok (T : Tn) (r k : Nat) (x y n : Int) : Bool := decide (0 < plo T k n) && (decide (T 2 (pc x y) ≠ 1) && (decide (T 2 (pc x y) ≠ 2) || decide (r = 1)))
def pkq (T : Tn) (r k : Nat) (q : PS) : Bool := pok T r k q.1 q.2.1 q.2.2.2.2
def pst (T : Tn) (q : PS) : Nat → PS
  | 0 => q
  | k + 1 => stp T (k + 1) (pst T q k)
def pln (T : Tn) (r : Nat) (q : PS) : Nat → Nat
  | 0 => 0
  | k + 1 => if pln T r q k = k ∧ pkq T r (k + 1) (pst T q (k + 1)) = true then k + 1 else pln T r q k
def plen (T : Tn) (r : Nat) (q : PS) : Nat := pln T r q 40
def q0 (s d : Nat) : PS := (s % 9, s / 9, dX d, dY d, 0)
def pin (T : Tn) (k : Nat) (q : PS) : Prop := (0 ≤ q.1 ∧ q.1 < T 1 0) ∧ (0 ≤ q.2.1 ∧ q.2.1 < T 1 1) ∧ (-1 ≤ q.2.2.1 ∧ q.2.2.1 ≤ 1) ∧ (-1 ≤ q.2.2.2.1 ∧ q.2.2.2.1 ≤ 1) ∧ (0 ≤ q.2.2.2.2 ∧ q.2.2.2.2 ≤ 2 * k)
theorem sx_in {w x dx n : Int} (hw : 2 ≤ w) (h1 : 0 ≤ x) (h2 : x < w) (h3 : -1 ≤ dx) (h4 : dx ≤ 1) : (0 ≤ (sx w x dx n).1 ∧ (sx w x dx n).1 < w) ∧ (-1 ≤ (sx w x dx n).2.1 ∧ (sx w x dx n).2.1 ≤ 1) ∧ (n ≤ (sx w x dx n).2.2 ∧ (sx w x dx n).2.2 ≤ n + 1) := by
  unfold sx
  split
  · dsimp only
    omega
  · dsimp only
    omega
theorem stp_in {T : Tn} (g : Good T) {k : Nat} {q : PS} (h : pin T k q) : pin T (k + 1) (stp T (k + 1) q) := by
  obtain ⟨h1, h2, h3, h4, h5⟩ := h
  have gw := g.w
  have gh := g.h
  have a := sx_in (n := q.2.2.2.2) (show (2 : Int) ≤ T 1 0 by omega) h1.1 h1.2 h3.1 h3.2
  have b := sx_in (n := (sx (T 1 0) q.1 q.2.2.1 q.2.2.2.2).2.2) (show (2 : Int) ≤ T 1 1 by omega) h2.1 h2.2 h4.1 h4.2
  refine ⟨a.1, ?_, a.2.1, b.2.1, ?_, ?_⟩
  · show 0 ≤ sw _ _ _ ∧ sw _ _ _ < _
    unfold sw
    split
    · omega
    · exact b.1
  · show 0 ≤ (sx _ _ _ _).2.2
    omega
  · show (sx _ _ _ _).2.2 ≤ _
    omega
theorem pst_in {T : Tn} (g : Good T) {q : PS} (h : pin T 0 q) : ∀ k, pin T k (pst T q k)
  | 0 => h
  | k + 1 => stp_in g (pst_in g h k)
theorem q0_in {T : Tn} {s d : Nat} (hs : isC T s) (hd : d < 8) : pin T 0 (q0 s d) := by
  have hd2 : -1 ≤ dX d ∧ dX d ≤ 1 ∧ -1 ≤ dY d ∧ dY d ≤ 1 := by
    rcases (show d = 0 ∨ d = 1 ∨ d = 2 ∨ d = 3 ∨ d = 4 ∨ d = 5 ∨ d = 6 ∨ d = 7 by omega) with rfl | rfl | rfl | rfl | rfl | rfl | rfl | rfl <;> decide
  obtain ⟨h1, h2, h3⟩ := hs
  refine ⟨?_, ?_, ?_, ?_, ?_⟩
  · show 0 ≤ ((s : Int) % 9) ∧ ((s : Int) % 9) < _
    omega
  · show 0 ≤ ((s : Int) / 9) ∧ ((s : Int) / 9) < _
    omega
  · exact ⟨hd2.1, hd2.2.1⟩
  · exact ⟨hd2.2.2.1, hd2.2.2.2⟩
  · exact ⟨Int.le_refl 0, by show (0 : Int) ≤ _; omega⟩
theorem pln_le {T : Tn} {r : Nat} {q : PS} : ∀ k, pln T r q k ≤ k
  | 0 => Nat.le_refl 0
  | k + 1 => by
    have := pln_le (T := T) (r := r) (q := q) k
    unfold pln
    split <;> omega
theorem pln_stop {T : Tn} {r : Nat} {q : PS} {k : Nat} (h : pln T r q k < k) : ∀ m, pln T r q (k + m) = pln T r q k
  | 0 => rfl
  | m + 1 => by
    have h1 := pln_stop h m
    show (if pln T r q (k + m) = k + m ∧ _ then _ else _) = _
    rw [if_neg (by omega)]
    exact h1
theorem pln_yes {T : Tn} {r : Nat} {q : PS} {k : Nat} (h : pln T r q k = k) (hp : pkq T r (k + 1) (pst T q (k + 1)) = true) : pln T r q (k + 1) = k + 1 := if_pos ⟨h, hp⟩
theorem pln_no {T : Tn} {r : Nat} {q : PS} {k : Nat} (h : pln T r q k = k) (hk : k < 40) (hp : ¬ pkq T r (k + 1) (pst T q (k + 1)) = true) : plen T r q = k := by
  have h1 : pln T r q (k + 1) = k := by
    show (if _ then _ else _) = _
    rw [if_neg (fun e => hp e.2)]
    exact h
  have h2 := pln_stop (T := T) (r := r) (q := q) (k := k + 1) (by omega) (40 - (k + 1))
  rw [show k + 1 + (40 - (k + 1)) = 40 by omega] at h2
  exact h2.trans h1
theorem plen_le {T : Tn} {r : Nat} {q : PS} : plen T r q ≤ 40 := pln_le 40
theorem pc_lt {T : Tn} (g : Good T) {x y : Int} (h1 : 0 ≤ x ∧ x < T 1 0) (h2 : 0 ≤ y ∧ y < T 1 1) : isC T (pc x y) := by
  have gw := g.w
  have gh := g.h
  unfold pc isC
  omega
theorem pc_J {x y : Int} (h1 : 0 ≤ x) (h2 : 0 ≤ y) : 9 * J y + J x = nI (pc x y) := by
  rw [show (9 : Int32) = J 9 from rfl, J_mul, J_add, J_nat (by omega)]
  rfl
theorem lo_J (T : Tn) (k : Nat) (n : Int) : 100 - nI (T 1 2) * nI k - nI (T 1 3) * J n = J (plo T k n) := by
  rw [show (100 : Int32) = J 100 from rfl, J_nI, J_nI, J_nI, J_mul, J_mul, J_sub, J_sub]
  rfl
theorem plo_bd {T : Tn} (g : Good T) {k : Nat} {n : Int} (hk : k ≤ 40) (h0 : 0 ≤ n) (h1 : n ≤ 80) : -5000 ≤ plo T k n ∧ plo T k n ≤ 100 := by
  have a1 := g.fade
  have a2 := g.bounce
  have b1 : (T 1 2 : Int) * k ≤ 20 * 40 := by
    have : T 1 2 * k ≤ 20 * 40 := Nat.mul_le_mul a1 hk
    exact_mod_cast this
  have b2 : (T 1 3 : Int) * n ≤ 50 * 80 := by
    have h5 : T 1 3 * n.toNat ≤ 50 * 80 := Nat.mul_le_mul a2 (by omega)
    have h6 : ((T 1 3 * n.toNat : Nat) : Int) ≤ 50 * 80 := by exact_mod_cast h5
    rw [Int.natCast_mul, Int.toNat_of_nonneg h0] at h6
    exact h6
  have b3 : 0 ≤ (T 1 2 : Int) * k := Int.mul_nonneg (by omega) (by omega)
  have b4 : 0 ≤ (T 1 3 : Int) * n := Int.mul_nonneg (by omega) h0
  unfold plo
  omega
section PP
variable {T : Tn} {M : Mem} {c : Nat} {k63 : Int32 → Int32 → Int32 → Int32 → Int32 → Int32 → Int32 → Mem → Option Mem}
theorem r228 {x4 x5 x6 x7 x8 x9 x12 : Int32} {k : Nat} (hk : k ≤ 40) : f_Cou_run_J228 k63 c x4 x5 x6 x7 x8 x9 (nI k) x12 M = k63 x4 x5 x6 x7 x8 x9 (nI (k + 1)) (upd2 (upd2 (upd2 (upd2 M (c + 1) k (9 * x6 + x5)) (c + 2) k x12) (c + 3) k x9) c 0 (nI k)) := by
  simp (disch := omega) only [e_bnd, e_bnd2, e_set, e_cpy, e_nmI, e_nmL, e_ckn, e_ckB0, e_ckB1, l0, l1, l2, l3, l4, l5, l6, l7, l8, l9, l10, l11, l12, l13, l14, l15, l16, l17, l18, l19, l20, l21, l22, l24, l25, l32, l39, l40, l41, l48, l50, l56, l57, l59, l60, l72, l79, l80, l81, l82, l88, l89, l97, l100, l122, l124, l125, l160, l255, l312, l320, l375, l1000, nI_ltI, nI_leI, nI_eq, nI_add, pk_mul, e_ix, e_neg, if_true, if_false, if_pos, if_neg, f_Cou_run_J228]
theorem r171 (o : On T M) (g : Good T) {x y n : Int} {r k : Nat} {x7 x8 : Int32} (hx : 0 ≤ x ∧ x < T 1 0) (hy : 0 ≤ y ∧ y < T 1 1) (hn : 0 ≤ n ∧ n ≤ 80) (hk : k ≤ 40) (hr : r ≤ 1) :
    f_Cou_run_J171 k63 c (nI r) (J x) (J y) x7 x8 (J n) (nI k) M = if pok T r k x y n = true then k63 (nI r) (J x) (J y) x7 x8 (J n) (nI (k + 1)) (upd2 (upd2 (upd2 (upd2 M (c + 1) k (nI (pc x y))) (c + 2) k (J (plo T k n))) (c + 3) k (J n)) c 0 (nI k)) else some M := by
  have hc := (pc_lt g hx hy).1
  have hb := plo_bd g hk hn.1 hn.2
  have g2 := g.c hc
  unfold f_Cou_run_J171
  rw [pc_J hx.1 hy.1, c_state o hc, e_bnd, e_nmI, o.s2, o.s3, lo_J]
  by_cases h1 : plo T k n ≤ 0
  · rw [if_pos (by rw [show (0 : Int32) = J 0 from rfl, J_le (by omega) (by omega) (by omega) (by omega)]; exact h1), if_neg]
    simp [pok]
    omega
  · rw [if_neg (by rw [show (0 : Int32) = J 0 from rfl, J_le (by omega) (by omega) (by omega) (by omega)]; exact h1)]
    by_cases h2 : T 2 (pc x y) = 1
    · rw [h2, if_pos (show nI 1 = 1 from rfl), if_neg]
      simp [pok, h2]
    · rw [if_neg (by rw [l1, nI_eq (by omega) (by omega)]; exact h2)]
      by_cases h3 : T 2 (pc x y) = 2
      · rw [h3, if_pos (show nI 2 = 2 from rfl)]
        by_cases h4 : r = 0
        · rw [h4, if_pos (show nI 0 = 0 from rfl), if_neg]
          simp [pok, h3]
        · rw [if_neg (by rw [l0, nI_eq (by omega) (by omega)]; exact h4), r228 hk, if_pos, pc_J hx.1 hy.1]
          simp [pok, h3]
          omega
      · rw [if_neg (by rw [l2, nI_eq (by omega) (by omega)]; exact h3), r228 hk, if_pos, pc_J hx.1 hy.1]
        simp [pok, h2, h3]
        omega
theorem r126 (o : On T M) (g : Good T) {x y dx dy : Int} {k : Nat} {x4 x9 : Int32} (hy : -1 ≤ y + dy ∧ y + dy ≤ 9) (hk : k ≤ 40) :
    f_Cou_run_J126 k63 c x4 (J x) (J y) (J dx) (J dy) x9 (nI k) M = f_Cou_run_J171 k63 c x4 (J (x + dx)) (J (sw T k (y + dy))) (J dx) (J dy) x9 (nI k) M := by
  have g1 := g.warm
  have g2 := g.h
  unfold f_Cou_run_J126
  rw [J_add, J_add, e_nmI, e_nmI, o.s4, o.s1]
  by_cases h1 : T 1 4 = 0
  · rw [h1, if_pos (show nI 0 ≤ 0 from by decide), sw, if_neg (by omega)]
  · rw [if_neg (by rw [l0, nI_leI (by omega) (by omega)]; omega), if_neg (by rw [l0, nI_eq (by omega) (by omega)]; omega), j_rem (by omega) (by omega) (by omega)]
    have h9 : k % T 1 4 < T 1 4 := Nat.mod_lt _ (by omega)
    by_cases h2 : k % T 1 4 = 0
    · rw [h2, if_pos (show nI 0 = 0 from rfl), show (1 : Int32) = J 1 from rfl, J_add, J_nI (T 1 1)]
      by_cases h3 : y + dy + 1 < T 1 1
      · rw [if_neg (by rw [J_le (by omega) (by omega) (by omega) (by omega)]; omega), sw, if_pos (by omega)]
      · rw [if_pos (by rw [J_le (by omega) (by omega) (by omega) (by omega)]; omega), sw, if_neg (by omega)]
    · rw [if_neg (by rw [l0, nI_eq (by omega) (by omega)]; omega), sw, if_neg (by omega)]
theorem r98 (o : On T M) (g : Good T) {x y dx dy n : Int} {k : Nat} {x4 : Int32} (hy : 0 ≤ y ∧ y < T 1 1) (hd : -1 ≤ dy ∧ dy ≤ 1) (hk : k ≤ 40) :
    f_Cou_run_J98 k63 c x4 (J x) (J y) (J dx) (J dy) (J n) (nI k) M = f_Cou_run_J171 k63 c x4 (J (x + dx)) (J (sw T k (sx (T 1 1) y dy n).1)) (J dx) (J (sx (T 1 1) y dy n).2.1) (J (sx (T 1 1) y dy n).2.2) (nI k) M := by
  have g2 := g.h
  unfold f_Cou_run_J98 f_Cou_run_J118
  rw [J_add, o.s1, show (0 : Int32) = J 0 from rfl, show (1 : Int32) = J 1 from rfl, J_neg, J_add, e_nmI, J_nI (T 1 1)]
  simp (disch := omega) only [J_lt]
  by_cases h1 : y + dy < 0
  · rw [if_pos h1, r126 o g (by omega) hk, sx, if_pos (Or.inl h1)]
  · rw [if_neg h1]
    by_cases h2 : y + dy < T 1 1
    · rw [if_pos h2, r126 o g (by omega) hk, sx, if_neg (by omega)]
    · rw [if_neg h2, r126 o g (by omega) hk, sx, if_pos (by omega)]
/-- one step -/
theorem r63 (o : On T M) (g : Good T) {q : PS} {r k n : Nat} (hq : pin T k q) (hk : k < 40) (hr : r ≤ 1) :
    f_Cou_run_L63 c (n + 1) (nI r) (J q.1) (J q.2.1) (J q.2.2.1) (J q.2.2.2.1) (J q.2.2.2.2) (nI (k + 1)) M = if pkq T r (k + 1) (stp T (k + 1) q) = true then
      f_Cou_run_L63 c n (nI r) (J (stp T (k + 1) q).1) (J (stp T (k + 1) q).2.1) (J (stp T (k + 1) q).2.2.1) (J (stp T (k + 1) q).2.2.2.1) (J (stp T (k + 1) q).2.2.2.2) (nI (k + 1 + 1)) (upd2 (upd2 (upd2 (upd2 M (c + 1) (k + 1) (nI (pcq (stp T (k + 1) q)))) (c + 2) (k + 1) (J (plo T (k + 1) (stp T (k + 1) q).2.2.2.2))) (c + 3) (k + 1) (J (stp T (k + 1) q).2.2.2.2)) c 0 (nI (k + 1))) else some M := by
  have hs := stp_in g hq
  obtain ⟨h1, h2, h3, h4, h5⟩ := hq
  have g2 := g.w
  rw [f_Cou_run_L63, if_neg (by rw [l40, nI_ltI (by omega) (by omega)]; omega), J_add, o.s0, show (0 : Int32) = J 0 from rfl, J_nI (T 1 0)]
  simp (disch := omega) only [J_lt]
  have key : ∀ dx' n' : Int, sx (T 1 0) q.1 q.2.2.1 q.2.2.2.2 = (q.1 + dx', dx', n') → f_Cou_run_J98 (f_Cou_run_L63 c n) c (nI r) (J q.1) (J q.2.1) (J dx') (J q.2.2.2.1) (J n') (nI (k + 1)) M = if pkq T r (k + 1) (stp T (k + 1) q) = true then
      f_Cou_run_L63 c n (nI r) (J (stp T (k + 1) q).1) (J (stp T (k + 1) q).2.1) (J (stp T (k + 1) q).2.2.1) (J (stp T (k + 1) q).2.2.2.1) (J (stp T (k + 1) q).2.2.2.2) (nI (k + 1 + 1)) (upd2 (upd2 (upd2 (upd2 M (c + 1) (k + 1) (nI (pcq (stp T (k + 1) q)))) (c + 2) (k + 1) (J (plo T (k + 1) (stp T (k + 1) q).2.2.2.2))) (c + 3) (k + 1) (J (stp T (k + 1) q).2.2.2.2)) c 0 (nI (k + 1))) else some M := by
    intro dx' n' e
    have e1 : (stp T (k + 1) q).1 = q.1 + dx' := congrArg Prod.fst e
    have e2 : (stp T (k + 1) q).2.1 = sw T (k + 1) (sx (T 1 1) q.2.1 q.2.2.2.1 n').1 := by show sw _ _ (sx _ _ _ (sx _ _ _ _).2.2).1 = _; rw [e]
    have e3 : (stp T (k + 1) q).2.2.1 = dx' := by show (sx _ _ _ _).2.1 = _; rw [e]
    have e4 : (stp T (k + 1) q).2.2.2.1 = (sx (T 1 1) q.2.1 q.2.2.2.1 n').2.1 := by show (sx _ _ _ (sx _ _ _ _).2.2).2.1 = _; rw [e]
    have e5 : (stp T (k + 1) q).2.2.2.2 = (sx (T 1 1) q.2.1 q.2.2.2.1 n').2.2 := by show (sx _ _ _ (sx _ _ _ _).2.2).2.2 = _; rw [e]
    obtain ⟨i1, i2, i3, i4, i5⟩ := hs
    unfold pkq pcq
    rw [e1] at i1 ⊢
    rw [e2] at i2 ⊢
    rw [e3, e4]
    rw [e5] at i5 ⊢
    rw [r98 o g h2 h4 (by omega), r171 o g i1 i2 ⟨i5.1, by omega⟩ (by omega) hr]
  by_cases c1 : q.1 + q.2.2.1 < 0
  · rw [if_pos c1, f_Cou_run_J90, show (1 : Int32) = J 1 from rfl, J_neg, J_add, e_nmI]
    exact key _ _ (by rw [sx, if_pos (Or.inl c1)])
  · rw [if_neg c1]
    by_cases c2 : q.1 + q.2.2.1 < T 1 0
    · rw [if_pos c2]
      exact key _ _ (by rw [sx, if_neg (by omega)])
    · rw [if_neg c2, f_Cou_run_J90, show (1 : Int32) = J 1 from rfl, J_neg, J_add, e_nmI]
      exact key _ _ (by rw [sx, if_pos (by omega)])
/-- the rows of the way, up to step k -/
def Fil (c : Nat) (T : Tn) (q : PS) (k : Nat) (M : Mem) : Prop := ∀ j, 1 ≤ j → j ≤ k → M (c + 1) j = nI (pcq (pst T q j)) ∧ M (c + 2) j = J (plo T j (pst T q j).2.2.2.2) ∧ M (c + 3) j = J (pst T q j).2.2.2.2
def PthC (c : Nat) (T : Tn) (r s : Nat) (q : PS) (M : Mem) : Prop := M c 0 = nI (plen T r q) ∧ M (c + 1) 0 = nI s ∧ Fil c T q (plen T r q) M
theorem r63L (g : Good T) {q : PS} (hq : pin T 0 q) {r s : Nat} (hr : r ≤ 1) (hc : 18 ≤ c) : ∀ (m n k : Nat) (M : Mem), k + m = 40 → m < n → On T M → pln T r q k = k → M c 0 = nI k → M (c + 1) 0 = nI s → Fil c T q k M →
    ∃ M', f_Cou_run_L63 c n (nI r) (J (pst T q k).1) (J (pst T q k).2.1) (J (pst T q k).2.2.1) (J (pst T q k).2.2.2.1) (J (pst T q k).2.2.2.2) (nI (k + 1)) M = some M' ∧ Fr c (c + 3) M M' ∧ PthC c T r s q M' := by
  intro m
  induction m with
  | zero =>
    intro n k M hk hn o hp h1 h2 h3
    obtain ⟨n, rfl⟩ : ∃ z, n = z + 1 := ⟨n - 1, by omega⟩
    have e : k = 40 := by omega
    subst e
    rw [f_Cou_run_L63, if_pos (by rw [l40, nI_ltI (by omega) (by omega)]; omega)]
    have hp2 : plen T r q = 40 := hp
    refine ⟨M, rfl, Fr.rf, ?_, h2, ?_⟩
    · rw [hp2]; exact h1
    · rw [hp2]; exact h3
  | succ m ih =>
    intro n k M hk hn o hp h1 h2 h3
    obtain ⟨n, rfl⟩ : ∃ z, n = z + 1 := ⟨n - 1, by omega⟩
    rw [r63 o g (pst_in g hq k) (by omega) hr]
    by_cases hpk : pkq T r (k + 1) (stp T (k + 1) (pst T q k)) = true
    · rw [if_pos hpk]
      have f0 : Fr c (c + 3) M (upd2 (upd2 (upd2 (upd2 M (c + 1) (k + 1) (nI (pcq (stp T (k + 1) (pst T q k))))) (c + 2) (k + 1) (J (plo T (k + 1) (stp T (k + 1) (pst T q k)).2.2.2.2))) (c + 3) (k + 1) (J (stp T (k + 1) (pst T q k)).2.2.2.2)) c 0 (nI (k + 1))) := (((Fr.rf.set (by omega) (by omega)).set (by omega) (by omega)).set (by omega) (by omega)).set (Nat.le_refl c) (Nat.le_add_right c 3)
      generalize hM2 : upd2 (upd2 (upd2 (upd2 M (c + 1) (k + 1) (nI (pcq (stp T (k + 1) (pst T q k))))) (c + 2) (k + 1) (J (plo T (k + 1) (stp T (k + 1) (pst T q k)).2.2.2.2))) (c + 3) (k + 1) (J (stp T (k + 1) (pst T q k)).2.2.2.2)) c 0 (nI (k + 1)) = M2 at f0 ⊢
      have e0 : M2 c 0 = nI (k + 1) := by rw [← hM2]; exact u_eq
      have e1 : M2 (c + 1) 0 = nI s := by
        rw [← hM2, u_ne (by omega), u_ne (by omega), u_ne (by omega), u_nk (by omega)]
        exact h2
      have e2 : Fil c T q (k + 1) M2 := by
        intro j hj1 hj2
        rw [← hM2]
        by_cases hj : j = k + 1
        · subst hj
          refine ⟨?_, ?_, ?_⟩
          · rw [u_ne (by omega), u_ne (by omega), u_ne (by omega), u_eq]; rfl
          · rw [u_ne (by omega), u_ne (by omega), u_eq]; rfl
          · rw [u_ne (by omega), u_eq]; rfl
        · obtain ⟨b1, b2, b3⟩ := h3 j hj1 (by omega)
          refine ⟨?_, ?_, ?_⟩
          · rw [u_ne (by omega), u_ne (by omega), u_ne (by omega), u_nk (by omega)]; exact b1
          · rw [u_ne (by omega), u_ne (by omega), u_nk (by omega), u_ne (by omega)]; exact b2
          · rw [u_ne (by omega), u_nk (by omega), u_ne (by omega), u_ne (by omega)]; exact b3
      obtain ⟨M', a1, a2, a3⟩ := ih n (k + 1) M2 (by omega) (by omega) (o.fr f0 hc) (pln_yes hp hpk) e0 e1 e2
      exact ⟨M', a1, f0.tr a2, a3⟩
    · rw [if_neg hpk]
      have e := pln_no hp (by omega) hpk
      refine ⟨M, rfl, Fr.rf, ?_, h2, ?_⟩
      · rw [e]; exact h1
      · rw [e]; exact h3
theorem chX_J : ∀ d, d < 8 → chX d = J (dX d) := by decide +kernel
theorem chY_J : ∀ d, d < 8 → chY d = J (dY d) := by decide +kernel
theorem c_run (o : On T M) (g : Good T) {s d r : Nat} (hs : isC T s) (hd : d < 8) (hr : r ≤ 1) (hc : 18 ≤ c) : ∃ M', f_Cou_run c (nI s) (nI d) (nI r) M = some M' ∧ Fr c (c + 3) M M' ∧ PthC c T r s (q0 s d) M' := by
  have hs1 := hs.1
  have f0 : Fr c (c + 3) M (upd2 (upd2 M c 0 0) (c + 1) (ix 0) (nI s)) := (Fr.rf.set (Nat.le_refl c) (by omega)).set (by omega) (by omega)
  have o2 := o.fr f0 hc
  have hx : nI (s % 9) = J (pst T (q0 s d) 0).1 := by rw [J_nI]; rfl
  have hy : nI (s / 9) = J (pst T (q0 s d) 0).2.1 := by rw [J_nI]; rfl
  obtain ⟨M', a1, a2, a3⟩ := r63L g (q0_in hs hd) hr hc (s := s) 40 1000 0 _ rfl (by decide) o2 rfl (by rw [u_ne (by omega), u_eq]; rfl) u_eq (fun j h1 h2 => absurd h2 (by omega))
  refine ⟨M', ?_, f0.tr a2, a3⟩
  unfold f_Cou_run
  rw [e_set, e_set, c_isCell o2 g hs1, if_pos ⟨hs.2.1, hs.2.2⟩, e_bnd, if_neg (by decide), w_in, if_pos (by rw [l0, l7, nI_leI (by omega) (by omega), nI_leI (by omega) (by omega)]; omega), e_bnd, if_neg (by decide), e_nmI, e_nmI, e_ckn hd (by decide), e_nmI, e_ckn hd (by decide), e_nmI, l9, j_rem (by omega) (by omega) (by omega), pk_div (by omega) (by omega) (by omega), hx, hy]
  rw [show ix (nI d) = d from e_ix (by omega), chX_J d hd, chY_J d hd]
  exact a1
end PP
