/-! pure: seatings, what is sought, and the class -/
theorem cnt_add {P Q R : Nat → Bool} : ∀ n, (∀ i, i < n → R i = (P i || Q i) ∧ (P i && Q i) = false) → cntN R n = cntN P n + cntN Q n
  | 0, _ => rfl
  | n + 1, h => by
    have ih := cnt_add n (fun i hi => h i (by omega))
    obtain ⟨h1, h2⟩ := h n (by omega)
    rw [cntN_s, cntN_s, cntN_s, ih, h1]
    cases hp : P n <;> cases hq : Q n
    · rfl
    · simp; omega
    · simp; omega
    · rw [hp, hq] at h2; cases h2
theorem cnt_cg {P Q : Nat → Bool} : ∀ {n : Nat}, (∀ i, i < n → P i = Q i) → cntN P n = cntN Q n
  | 0, _ => rfl
  | n + 1, h => by rw [cntN_s, cntN_s, cnt_cg (fun i hi => h i (by omega)), h n (by omega)]
theorem cnt_imp {P Q : Nat → Bool} : ∀ n, (∀ i, i < n → P i = true → Q i = true) → cntN P n ≤ cntN Q n
  | 0, _ => Nat.le_refl _
  | n + 1, h => by
    have ih := cnt_imp n (fun i hi => h i (by omega))
    have h1 := h n (by omega)
    rw [cntN_s, cntN_s]
    by_cases q : P n = true
    · rw [if_pos q, if_pos (h1 q)]; omega
    · rw [if_neg q]; split <;> omega
def sgU (S : Nat → Nat) : Nat → Nat → Bool
  | 0, _ => false
  | k + 1, b => sgU S k b || decide (b = S k)
def sgD (S : Nat → Nat) : Nat → Bool
  | 0 => true
  | k + 1 => sgD S k && !sgU S k (S k)
def sgS (S : Nat → Nat) (p x : Nat) : Nat → Nat := fun q => if q = p then x else S q
abbrev SgT : Type := Nat × Nat × (Nat → Nat)
def sgL (g : Nat → SgT → SgT) : Nat → SgT → SgT
  | 0, s => s
  | n + 1, s => g n (sgL g n s)
def sgF (up : (Nat → Nat) → SgT → SgT) (nb : Nat) : Nat → Nat → (Nat → Nat) → SgT → SgT
  | 0, _, S, s => up S s
  | d + 1, p, S, s => sgL (fun x s => sgF up nb d (p + 1) (sgS S p x) s) nb s
theorem sgS_e {S : Nat → Nat} {p x : Nat} : sgS S p x p = x := if_pos rfl
theorem sgS_n {S : Nat → Nat} {p x q : Nat} (h : q ≠ p) : sgS S p x q = S q := if_neg h
theorem sgU_cg {S S' : Nat → Nat} : ∀ {k : Nat}, (∀ q, q < k → S' q = S q) → ∀ b, sgU S' k b = sgU S k b
  | 0, _, _ => rfl
  | k + 1, h, b => by
    show (sgU S' k b || decide (b = S' k)) = (sgU S k b || decide (b = S k))
    rw [sgU_cg (fun q hq => h q (by omega)) b, h k (by omega)]
theorem sgD_cg {S S' : Nat → Nat} : ∀ {k : Nat}, (∀ q, q < k → S' q = S q) → sgD S' k = sgD S k
  | 0, _ => rfl
  | k + 1, h => by
    show (sgD S' k && !sgU S' k (S' k)) = (sgD S k && !sgU S k (S k))
    rw [sgD_cg (fun q hq => h q (by omega)), sgU_cg (fun q hq => h q (by omega)), h k (by omega)]
theorem sgD_f {S : Nat → Nat} {k : Nat} (h : sgD S k = false) : ∀ d, sgD S (k + d) = false
  | 0 => h
  | d + 1 => by
    show (sgD S (k + d) && _) = false
    rw [sgD_f h d]
    rfl
theorem sgL_id {g : Nat → SgT → SgT} {s : SgT} : ∀ n, (∀ x, x < n → g x s = s) → sgL g n s = s
  | 0, _ => rfl
  | n + 1, h => by
    show g n (sgL g n s) = s
    rw [sgL_id n (fun x hx => h x (by omega)), h n (by omega)]
theorem sgF_id {up : (Nat → Nat) → SgT → SgT} {nb : Nat} : ∀ (d p : Nat) (S : Nat → Nat) (s : SgT), (∀ S', (∀ q, q < p → S' q = S q) → up S' s = s) → sgF up nb d p S s = s
  | 0, _, S, _, h => h S (fun _ _ => rfl)
  | d + 1, p, _, s, h => sgL_id nb (fun x _ => sgF_id d (p + 1) _ s (fun S' hS => h S' (fun q hq => by rw [hS q (by omega)]; exact sgS_n (by omega))))
theorem sgL_kp {g : Nat → SgT → SgT} {Q : SgT → Prop} : ∀ (n : Nat) (s : SgT), (∀ x s, Q s → Q (g x s)) → Q s → Q (sgL g n s)
  | 0, _, _, h => h
  | n + 1, s, k, h => k n _ (sgL_kp n s k h)
theorem sgF_kp {up : (Nat → Nat) → SgT → SgT} {nb : Nat} {Q : SgT → Prop} (k : ∀ S s, Q s → Q (up S s)) : ∀ (d p : Nat) (S : Nat → Nat) (s : SgT), Q s → Q (sgF up nb d p S s)
  | 0, _, S, s, h => k S s h
  | d + 1, p, S, s, h => sgL_kp nb s (fun x s h => sgF_kp k d (p + 1) _ s h) h
def sgB (T : Tn) (h : Nat) (S : Nat → Nat) : Nat := cntN (bkP T S h) (T 10 0)
def sgC (T : Tn) (h : Nat) (S : Nat → Nat) (p : Nat) : Nat := cntN (fun i => bkP T S h i && decide (max (T 11 i) (T 12 i) < p)) (T 10 0)
def sgP (T : Tn) (h : Nat) (S : Nat → Nat) (p : Nat) : Nat → Bool := fun i => bkP T S h i && decide (max (T 11 i) (T 12 i) = p)
def sgUp (T : Tn) (h : Nat) (S : Nat → Nat) (s : SgT) : SgT := if sgD S (T 1 5) = true then (if sgB T h S < s.1 then (sgB T h S, 1, S) else if sgB T h S = s.1 then (s.1, s.2.1 + 1, s.2.2) else s) else s
theorem sgB_le {T : Tn} (g : Good T) {h : Nat} {S : Nat → Nat} : sgB T h S ≤ 8 := Nat.le_trans (cntN_le _) g.nw
theorem sgC_cg {T : Tn} {h p : Nat} {S S' : Nat → Nat} (e : ∀ q, q < p → S' q = S q) : sgC T h S' p = sgC T h S p := cnt_cg (fun i _ => by
  by_cases q : max (T 11 i) (T 12 i) < p
  · unfold bkP
    rw [e (T 11 i) (by omega), e (T 12 i) (by omega)]
  · simp [q])
theorem sgC_s {T : Tn} {h p : Nat} {S : Nat → Nat} : sgC T h S (p + 1) = sgC T h S p + cntN (sgP T h S p) (T 10 0) := cnt_add _ (fun i _ => by
  unfold sgP
  cases hb : bkP T S h i
  · exact ⟨rfl, rfl⟩
  · simp only [Bool.true_and]
    by_cases q : max (T 11 i) (T 12 i) = p
    · have h1 : max (T 11 i) (T 12 i) < p + 1 := by omega
      have h2 : ¬ max (T 11 i) (T 12 i) < p := by omega
      simp only [q, Nat.lt_succ_self, Nat.lt_irrefl, decide_true, decide_false, Bool.or_true, Bool.false_and, and_self]
    · by_cases r : max (T 11 i) (T 12 i) < p
      · have h1 : max (T 11 i) (T 12 i) < p + 1 := by omega
        rw [decide_eq_true r, decide_eq_true h1, decide_eq_false q]
        exact ⟨rfl, rfl⟩
      · have h1 : ¬ max (T 11 i) (T 12 i) < p + 1 := by omega
        rw [decide_eq_false r, decide_eq_false h1, decide_eq_false q]
        exact ⟨rfl, rfl⟩)
theorem sgC_le {T : Tn} {h p : Nat} {S : Nat → Nat} : sgC T h S p ≤ sgB T h S := cnt_imp _ (fun i _ e => by
  rw [Bool.and_eq_true] at e
  exact e.1)
theorem sgC_all {T : Tn} (g : Good T) {h : Nat} {S : Nat → Nat} : sgC T h S (T 1 5) = sgB T h S := cnt_cg (fun i hi => by
  have := g.wi hi
  rw [decide_eq_true (show max (T 11 i) (T 12 i) < T 1 5 by omega), Bool.and_true])
theorem sgC_0 {T : Tn} {h : Nat} {S : Nat → Nat} : sgC T h S 0 = 0 := by
  have := cnt_imp (P := fun i => bkP T S h i && decide (max (T 11 i) (T 12 i) < 0)) (Q := fun _ => false) (T 10 0) (fun i _ e => by simp at e)
  have e : ∀ n, cntN (fun _ => false) n = 0 := fun n => by
    induction n with
    | zero => rfl
    | succ n ih => rw [cntN_s, ih]; rfl
  rw [e] at this
  exact Nat.le_zero.mp this
theorem sgUp_le {T : Tn} (g : Good T) {h : Nat} {m : Nat} (hm : 8 ≤ m) (S : Nat → Nat) (s : SgT) (hs : s.1 ≤ m) : (sgUp T h S s).1 ≤ m := by
  have hb := sgB_le g (h := h) (S := S)
  unfold sgUp
  split
  · split
    · exact Nat.le_trans hb hm
    · split <;> exact hs
  · exact hs
/-- a seating of those that are there is met, so the fewest is told -/
theorem sgF_hit {T : Tn} (g : Good T) {h : Nat} {R : Nat → Nat} (hR : ∀ q, q < T 1 5 → R q < T 4 0) (hD : sgD R (T 1 5) = true) : ∀ (d p : Nat) (S : Nat → Nat) (s : SgT), p + d = T 1 5 → (∀ q, q < p → S q = R q) → s.1 ≤ 9 → (sgF (sgUp T h) (T 4 0) d p S s).1 ≤ 8
  | 0, p, S, s, hp, hS, hs => by
    have hb := sgB_le g (h := h) (S := S)
    have hp' : p = T 1 5 := by omega
    subst hp'
    show (sgUp T h S s).1 ≤ 8
    unfold sgUp
    rw [if_pos (by rw [sgD_cg hS]; exact hD)]
    split
    · exact hb
    · split
      · rename_i h1 h2
        show s.1 ≤ 8
        omega
      · rename_i h1 h2
        omega
  | d + 1, p, S, s, hp, hS, hs => by
    have hx := hR p (by omega)
    have k9 : ∀ x (s : SgT), s.1 ≤ 9 → (sgF (sgUp T h) (T 4 0) d (p + 1) (sgS S p x) s).1 ≤ 9 := fun x s q => sgF_kp (Q := fun s => s.1 ≤ 9) (fun S s q => sgUp_le g (by decide) S s q) d (p + 1) _ s q
    have k8 : ∀ x (s : SgT), s.1 ≤ 8 → (sgF (sgUp T h) (T 4 0) d (p + 1) (sgS S p x) s).1 ≤ 8 := fun x s q => sgF_kp (Q := fun s => s.1 ≤ 8) (fun S s q => sgUp_le g (by decide) S s q) d (p + 1) _ s q
    have main : ∀ n, R p < n → (sgL (fun x s => sgF (sgUp T h) (T 4 0) d (p + 1) (sgS S p x) s) n s).1 ≤ 8 := fun n => by
      induction n with
      | zero => intro q; omega
      | succ n ih =>
        intro q
        show (sgF (sgUp T h) (T 4 0) d (p + 1) (sgS S p n) (sgL _ n s)).1 ≤ 8
        by_cases e : R p = n
        · refine sgF_hit g hR hD d (p + 1) _ _ (by omega) (fun q hq => ?_) (sgL_kp (Q := fun s => s.1 ≤ 9) n s k9 hs)
          by_cases r : q = p
          · subst r; rw [sgS_e]; exact e.symm
          · rw [sgS_n r]; exact hS q (by omega)
        · exact k8 n _ (ih (by omega))
    exact main (T 4 0) hx
theorem sgD_inj {S : Nat → Nat} : ∀ {k : Nat}, (∀ p q, p < k → q < k → S p = S q → p = q) → sgD S k = true
  | 0, _ => rfl
  | k + 1, h => by
    have hu : ∀ n, n ≤ k → sgU S n (S k) = false := fun n => by
      induction n with
      | zero => intro _; rfl
      | succ n ih =>
        intro q
        show (sgU S n (S k) || decide (S k = S n)) = false
        rw [ih (by omega), decide_eq_false (fun e => by have := h k n (by omega) (by omega) e; omega)]
        rfl
    show (sgD S k && !sgU S k (S k)) = true
    rw [sgD_inj (fun p q hp hq => h p q (by omega) (by omega)), hu k (Nat.le_refl _)]
    rfl
/-- the benches that are taken, as bits -/
theorem sgM_s {S : Nat → Nat} {k n : Nat} (h : S k < n) : orN (sgU S k) n ||| jshl 1 (nI (S k)) = orN (sgU S (k + 1)) n := by
  rw [← orN_bit1 h, orN_or]
  rfl
theorem sgM_0 {S : Nat → Nat} {n : Nat} : orN (sgU S 0) n = 0 := orN_none (fun _ _ => rfl)
/-! the class -/
def SgC (T : Tn) (s : SgT) (M : Mem) : Prop := M 86 0 = nI s.1 ∧ M 86 1 = nI s.2.1 ∧ (s.1 ≠ 9 → ∀ p, p < T 1 5 → M 93 p = nI (s.2.2 p)) ∧ s.1 ≤ 9
theorem jmax_n {a b : Nat} (ha : a < 2147483648) (hb : b < 2147483648) : jmax (nI a) (nI b) = nI (max a b) := by
  unfold jmax
  by_cases h : a < b
  · rw [if_pos (by rw [nI_ltI (by omega) (by omega)]; exact h)]
    congr 1
    omega
  · rw [if_neg (by rw [nI_ltI (by omega) (by omega)]; exact h)]
    congr 1
    omega
section SGC
variable {T : Tn} {M : Mem}
theorem c_tried {p x : Nat} (hp : p < 6) (h : M 94 p = nI x) : f_Sea_benchTried M (nI p) = some (nI x) := by
  unfold f_Sea_benchTried
  rw [w_in, if_pos (by rw [l0, l5, nI_leI (by omega) (by omega), nI_leI (by omega) (by omega)]; omega), e_bnd, if_neg (by decide), e_ckn hp (by decide), show ix (nI p) = p from e_ix (by omega), h]
theorem c_bbL (o : On T M) (g : Good T) {h p : Nat} {S : Nat → Nat} (hL : ∀ b, b < T 4 0 → M 92 b = hrs T b h) (hp : p < T 1 5) (h94 : ∀ q, q ≤ p → M 94 q = nI (S q)) (hS : ∀ q, q ≤ p → S q < T 4 0) : ∀ (m n k : Nat), k + m = T 10 0 → m < n → f_Sea_brokenBy_L5 M n (nI p) (nI (cntN (sgP T h S p) k)) (nI k) = some (nI (cntN (sgP T h S p) (T 10 0))) := by
  have h9 := g.nw
  have h8 := g.n
  intro m
  induction m with
  | zero =>
    intro n k hk hn
    obtain ⟨n, rfl⟩ : ∃ z, n = z + 1 := ⟨n - 1, by omega⟩
    have e : k = T 10 0 := by omega
    subst e
    rw [f_Sea_brokenBy_L5, o.nw, if_pos (by rw [nI_leI (by omega) (by omega)]; omega)]
  | succ m ih =>
    intro n k hk hn
    obtain ⟨n, rfl⟩ : ∃ z, n = z + 1 := ⟨n - 1, by omega⟩
    have hi : k < T 10 0 := by omega
    have hw := g.wi hi
    obtain ⟨c1, c2, c3⟩ := c_want o g hi
    have ih2 := ih n (k + 1) (by omega) (by omega)
    rw [cntN_s] at ih2
    rw [f_Sea_brokenBy_L5, o.nw, if_neg (by rw [nI_leI (by omega) (by omega)]; omega), c1, e_bnd, c2, e_bnd, jmax_n (by omega) (by omega), nI_1, nI_1]
    by_cases q : max (T 11 k) (T 12 k) = p
    · have b1 : T 11 k ≤ p := by omega
      have b2 : T 12 k ≤ p := by omega
      have hle := hbN_le (T := T) (b := S (T 11 k)) (c := S (T 12 k)) (h := h)
      rw [if_pos (by rw [q]), c_tried (by omega) (h94 _ b1), e_bnd, c_tried (by omega) (h94 _ b2), e_bnd, c_heardBy (gg := 87) g hL (hS _ b1) (hS _ b2), e_bnd, c3, e_bnd]
      by_cases h0 : hbN T (S (T 11 k)) (S (T 12 k)) h = T 13 k
      · rw [if_pos (by rw [h0])]
        rw [if_neg (by simp [sgP, bkP, h0])] at ih2
        exact ih2
      · rw [if_neg (by rw [nI_eq (by omega) (by omega)]; exact h0)]
        rw [if_pos (by simp [sgP, bkP, h0, q])] at ih2
        exact ih2
    · rw [if_neg (by rw [nI_eq (by omega) (by omega)]; exact q)]
      rw [if_neg (by simp [sgP, q])] at ih2
      exact ih2
/-- what seatNext may change -/
def Fr3 (M M' : Mem) : Prop := ∀ a, a ≠ 86 → a ≠ 93 → a ≠ 94 → M' a = M a
theorem Fr3.rf {M : Mem} : Fr3 M M := fun _ _ _ _ => rfl
theorem Fr3.tr {M M' M2 : Mem} (h : Fr3 M M') (g : Fr3 M' M2) : Fr3 M M2 := fun a q r t => (g a q r t).trans (h a q r t)
theorem Fr3.fr {M M' : Mem} (h : Fr3 M M') : Fr 86 94 M M' := fun a q => h a (by omega) (by omega) (by omega)
theorem Fr3.s {M M' : Mem} {a k : Nat} {x : Int32} (h : Fr3 M M') (ha : a = 86 ∨ a = 93 ∨ a = 94) : Fr3 M (upd2 M' a k x) := fun b q r t => by
  rw [u_ne (by omega)]; exact h b q r t
theorem c_take (g : Good T) {h : Nat} {s : SgT} {S : Nat → Nat} (c : SgC T s M) (hD : sgD S (T 1 5) = true) (hle : sgB T h S ≤ s.1) (h94 : ∀ q, q < T 1 5 → M 94 q = nI (S q)) : ∃ M', f_Sea_takeSeating (nI (sgB T h S)) M = some M' ∧ SgC T (sgUp T h S s) M' ∧ M' 94 = M 94 ∧ Fr3 M M' := by
  have h8 := g.n
  have hb := sgB_le g (h := h) (S := S)
  obtain ⟨c1, c2, c3, c4⟩ := c
  unfold f_Sea_takeSeating f_Sea_takeSeating_J33
  by_cases q : sgB T h S < s.1
  · refine ⟨upd2 (cpy2 (upd2 (upd2 M 86 0 (nI (sgB T h S))) 86 1 0) 94 0 93 0 6) 86 1 1, ?_, ?_, ?_, fun a x y z => ?_⟩
    · rw [c1, if_neg (by rw [nI_leI (by omega) (by omega)]; omega), e_set, e_set, e_cpy, e_set, show ix 0 = 0 from rfl, show ix 6 = 6 from rfl, y_ne (by decide), u_eq]
      rfl
    · have e : sgUp T h S s = (sgB T h S, 1, S) := by
        unfold sgUp
        rw [if_pos hD, if_pos q]
      rw [e]
      refine ⟨?_, u_eq, fun _ p hp => ?_, by show sgB T h S ≤ 9; omega⟩
      · rw [u_nk (by decide), y_ne (by decide), u_nk (by decide), u_eq]
      · rw [u_ne (by decide), y_in (by omega), u_ne (by decide), u_ne (by decide)]
        exact h94 p hp
    · rw [u_ne (by decide), y_ne (by decide), u_ne (by decide), u_ne (by decide)]
    · rw [u_ne x, y_ne y, u_ne x, u_ne x]
  · have e2 : sgB T h S = s.1 := by omega
    refine ⟨upd2 M 86 1 (nI (s.2.1 + 1)), ?_, ?_, u_ne (by decide), Fr3.rf.s (Or.inl rfl)⟩
    · rw [c1, if_pos (by rw [nI_leI (by omega) (by omega)]; omega), e_set, c2, nI_1]
    · have e : sgUp T h S s = (s.1, s.2.1 + 1, s.2.2) := by
        unfold sgUp
        rw [if_pos hD, if_neg q, if_pos e2]
      rw [e]
      exact ⟨by rw [u_nk (by decide)]; exact c1, u_eq, fun x p hp => by rw [u_ne (by decide)]; exact c3 x p hp, c4⟩
end SGC
theorem c_seatNext {T : Tn} (g : Good T) {h : Nat} : ∀ (d p f : Nat) (S : Nat → Nat) (s : SgT) (M : Mem), p + d = T 1 5 → d < f → SgC T s M → On T M → (∀ b, b < T 4 0 → M 92 b = hrs T b h) → (∀ q, q < p → M 94 q = nI (S q)) → (∀ q, q < p → S q < T 4 0) → sgD S p = true → ∃ M', f_Sea_seatNext f (nI p) (orN (sgU S p) (T 4 0)) (nI (sgC T h S p)) M = some M' ∧ SgC T (sgF (sgUp T h) (T 4 0) d p S s) M' ∧ (∀ q, q < p → M' 94 q = M 94 q) ∧ Fr3 M M' := by
  have h8 := g.n
  have h9 := g.nw
  intro d
  induction d with
  | zero =>
    intro p f S s M hp hf c o hL h94 hS hD
    obtain ⟨f, rfl⟩ : ∃ z, f = z + 1 := ⟨f - 1, by omega⟩
    have e : p = T 1 5 := by omega
    subst e
    have hb := sgB_le g (h := h) (S := S)
    rw [sgC_all g, f_Sea_seatNext, c.1]
    by_cases q : sgB T h S ≤ s.1
    · obtain ⟨M', a1, a2, a3, a4⟩ := c_take g c hD q h94
      refine ⟨M', ?_, a2, fun q hq => by rw [a3], a4⟩
      rw [if_pos (by have := c.2.2.2; rw [nI_leI (by omega) (by omega)]; exact q), if_neg (by rw [l0, nI_ltI (by omega) (by omega)]; omega), o.s5, if_pos (by rw [nI_leI (by omega) (by omega)]; omega), f_Sea_seatNext_J28, a1, e_bnd]
    · refine ⟨M, ?_, ?_, fun _ _ => rfl, Fr3.rf⟩
      · rw [if_neg (by have := c.2.2.2; rw [nI_leI (by omega) (by omega)]; exact q)]
      · have e : sgF (sgUp T h) (T 4 0) 0 (T 1 5) S s = s := by
          show sgUp T h S s = s
          unfold sgUp
          rw [if_pos hD, if_neg (by omega), if_neg (by omega)]
        rw [e]
        exact c
  | succ d ih =>
    intro p f S s M hp hf c o hL h94 hS hD
    obtain ⟨f, rfl⟩ : ∃ z, f = z + 1 := ⟨f - 1, by omega⟩
    have hcl := Nat.le_trans (sgC_le (T := T) (h := h) (p := p) (S := S)) (sgB_le g)
    rw [f_Sea_seatNext, c.1]
    by_cases q : sgC T h S p ≤ s.1
    · rw [if_pos (by have := c.2.2.2; rw [nI_leI (by omega) (by omega)]; exact q), if_neg (by rw [l0, nI_ltI (by omega) (by omega)]; omega), o.s5, if_neg (by rw [nI_leI (by omega) (by omega)]; omega), if_pos (by rw [l6, nI_ltI (by omega) (by omega)]; omega)]
      -- over the benches
      have loop : ∀ (m n k : Nat) (M2 : Mem), k + m = T 4 0 → m < n → SgC T (sgL (fun x s => sgF (sgUp T h) (T 4 0) d (p + 1) (sgS S p x) s) k s) M2 → (∀ q, q < p → M2 94 q = M 94 q) → Fr3 M M2 → ∃ M', f_Sea_seatNext_L38 (f_Sea_seatNext f) n (nI p) (orN (sgU S p) (T 4 0)) (nI (sgC T h S p)) (nI k) M2 = some M' ∧ SgC T (sgF (sgUp T h) (T 4 0) (d + 1) p S s) M' ∧ (∀ q, q < p → M' 94 q = M 94 q) ∧ Fr3 M M' := by
        intro m
        induction m with
        | zero =>
          intro n k M2 hk hn c2 e94 f2
          obtain ⟨n, rfl⟩ : ∃ z, n = z + 1 := ⟨n - 1, by omega⟩
          have e : k = T 4 0 := by omega
          subst e
          refine ⟨M2, ?_, c2, e94, f2⟩
          rw [f_Sea_seatNext_L38, (o.fr f2.fr (by decide)).nb, if_pos (by rw [nI_leI (by omega) (by omega)]; omega)]
        | succ m ihm =>
          intro n k M2 hk hn c2 e94 f2
          obtain ⟨n, rfl⟩ : ∃ z, n = z + 1 := ⟨n - 1, by omega⟩
          have o2 := o.fr f2.fr (by decide)
          rw [f_Sea_seatNext_L38, o2.nb, if_neg (by rw [nI_leI (by omega) (by omega)]; omega), f_Hal_bit, orN_bit (by omega) (by omega), e_bnd]
          by_cases u : sgU S p k = true
          · have eb : (if k < T 4 0 ∧ sgU S p k = true then nI 1 else nI 0) = nI 1 := if_pos ⟨by omega, u⟩
            rw [eb, if_neg (by decide), nI_1]
            refine ihm n (k + 1) M2 (by omega) (by omega) ?_ e94 f2
            show SgC T (sgF (sgUp T h) (T 4 0) d (p + 1) (sgS S p k) (sgL _ k s)) M2
            rw [sgF_id d (p + 1) _ _ (fun S' hS' => by
              have hx : sgD S' (p + 1) = false := by
                show (sgD S' p && !sgU S' p (S' p)) = false
                have e1 : ∀ q, q < p → S' q = S q := fun q hq => by rw [hS' q (by omega), sgS_n (by omega)]
                rw [sgU_cg e1, hS' p (by omega), sgS_e, u]
                simp
              have hy := sgD_f hx d
              rw [show p + 1 + d = T 1 5 by omega] at hy
              unfold sgUp
              rw [if_neg (by rw [hy]; decide)])]
            exact c2
          · have eb0 : (if k < T 4 0 ∧ sgU S p k = true then nI 1 else nI 0) = nI 0 := if_neg (fun e => u e.2)
            rw [eb0, if_pos (show nI 0 = 0 from rfl), e_ckn (by omega) (by decide), e_set, show ix (nI p) = p from e_ix (by omega)]
            have eS : ∀ q, q < p → sgS S p k q = S q := fun q hq => sgS_n (by omega)
            have f3 : Fr3 M (upd2 M2 94 p (nI k)) := f2.s (Or.inr (Or.inr rfl))
            have o3 := o.fr f3.fr (by decide)
            have h94' : ∀ q, q < p + 1 → upd2 M2 94 p (nI k) 94 q = nI (sgS S p k q) := fun q hq => by
              by_cases e : q = p
              · subst e; rw [u_eq, sgS_e]
              · rw [u_nk e, sgS_n e, e94 q (by omega)]; exact h94 q (by omega)
            have hS' : ∀ q, q < p + 1 → sgS S p k q < T 4 0 := fun q hq => by
              by_cases e : q = p
              · subst e; rw [sgS_e]; omega
              · rw [sgS_n e]; exact hS q (by omega)
            have hL3 : ∀ b, b < T 4 0 → upd2 M2 94 p (nI k) 92 b = hrs T b h := fun b hb => by rw [f3 92 (by decide) (by decide) (by decide)]; exact hL b hb
            have eb := c_bbL o3 g hL3 (show p < T 1 5 by omega) (fun q hq => h94' q (by omega)) (fun q hq => hS' q (by omega)) (T 10 0) 1000 0 (by omega) (by omega)
            have hbk : f_Sea_brokenBy (upd2 M2 94 p (nI k)) (nI p) = some (nI (cntN (sgP T h (sgS S p k) p) (T 10 0))) := eb
            have em : orN (sgU S p) (T 4 0) ||| jshl 1 (nI k) = orN (sgU (sgS S p k) (p + 1)) (T 4 0) := by
              rw [← sgM_s (by rw [sgS_e]; omega), sgS_e]
              congr 1
              exact orN_cg (fun i _ => (sgU_cg eS i).symm)
            have ec : sgC T h S p + cntN (sgP T h (sgS S p k) p) (T 10 0) = sgC T h (sgS S p k) (p + 1) := by
              rw [sgC_s, sgC_cg eS]
            have hD' : sgD (sgS S p k) (p + 1) = true := by
              show (sgD (sgS S p k) p && !sgU (sgS S p k) p (sgS S p k p)) = true
              rw [sgD_cg eS, hD, sgU_cg eS, sgS_e, Bool.eq_false_iff.mpr u]
              rfl
            have c3 : SgC T (sgL (fun x s => sgF (sgUp T h) (T 4 0) d (p + 1) (sgS S p x) s) k s) (upd2 M2 94 p (nI k)) := ⟨by rw [u_ne (by decide)]; exact c2.1, by rw [u_ne (by decide)]; exact c2.2.1, by rw [u_ne (by decide)]; exact c2.2.2.1, c2.2.2.2⟩
            obtain ⟨M4, a1, a2, a3, a4⟩ := ih (p + 1) f (sgS S p k) _ _ (by omega) (by omega) c3 o3 hL3 h94' hS' hD'
            rw [hbk, e_bnd, nI_1, em, nI_add, ec, a1, e_bnd, nI_1]
            exact ihm n (k + 1) M4 (by omega) (by omega) a2 (fun q hq => by rw [a3 q (by omega), u_nk (by omega)]; exact e94 q hq) (f3.tr a4)
      exact loop (T 4 0) 1000 0 M (by omega) (by omega) c (fun _ _ => rfl) Fr3.rf
    · refine ⟨M, ?_, ?_, fun _ _ => rfl, Fr3.rf⟩
      · rw [if_neg (by have := c.2.2.2; rw [nI_leI (by omega) (by omega)]; exact q)]
      · rw [sgF_id (d + 1) p S s (fun S' hS' => by
          have e1 := sgC_cg (T := T) (h := h) hS'
          have e2 := sgC_le (T := T) (h := h) (p := p) (S := S')
          unfold sgUp
          split
          · rw [if_neg (by omega), if_neg (by omega)]
          · rfl)]
        exact c
theorem c_search {T : Tn} {M : Mem} (o : On T M) (g : Good T) {h : Nat} (hh : h < 12) : ∃ M', f_Sea_search (nI h) M = some M' ∧ SgC T (sgF (sgUp T h) (T 4 0) (T 1 5) 0 (fun _ => 0) (9, 0, fun _ => 0)) M' ∧ Fr 86 94 M M' := by
  have h8 := g.n
  obtain ⟨M1, a1, a2, a3⟩ := c_listen (gg := 87) o g hh (by decide)
  have f1 : Fr 86 94 M (upd2 (upd2 M1 86 0 9) 86 1 0) := ((a2.up (by decide) (by decide)).set (by decide) (by decide)).set (by decide) (by decide)
  obtain ⟨M2, b1, b2, b3, b4⟩ := c_seatNext g (h := h) (T 1 5) 0 12 (fun _ => 0) (9, 0, fun _ => 0) (upd2 (upd2 M1 86 0 9) 86 1 0) (by omega) (by omega) ⟨by rw [u_nk (by decide), u_eq]; rfl, u_eq, fun q => absurd rfl q, Nat.le_refl _⟩ (o.fr f1 (by decide)) (fun b hb => by rw [u_ne (by decide), u_ne (by decide)]; exact a3 b hb) (fun q hq => by omega) (fun q hq => by omega) rfl
  refine ⟨M2, ?_, b2, f1.tr b4.fr⟩
  unfold f_Sea_search
  rw [a1, e_bnd, e_set, e_set]
  rw [sgM_0, sgC_0] at b1
  rw [show (0 : Int32) = nI 0 from rfl] at b1 ⊢
  rw [b1, e_bnd]
