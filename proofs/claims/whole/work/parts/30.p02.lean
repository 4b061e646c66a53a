/-! pure: what is told, in numbers -/
abbrev Tn : Type := Nat → Nat → Nat
def On (T : Tn) (M : Mem) : Prop :=
  (∀ j, j < 6 → M 1 j = nI (T 1 j)) ∧ (∀ c, c < 81 → M 2 c = nI (T 2 c)) ∧ (∀ p, p < 6 → M 3 p = nI (T 3 p)) ∧ M 4 0 = nI (T 4 0) ∧ (∀ a, 5 ≤ a → a ≤ 9 → ∀ b, b < T 4 0 → M a b = nI (T a b)) ∧ M 10 0 = nI (T 10 0) ∧ (∀ a, 11 ≤ a → a ≤ 13 → ∀ i, i < T 10 0 → M a i = nI (T a i)) ∧ M 14 0 = nI (T 14 0) ∧ (∀ a, 15 ≤ a → a ≤ 17 → ∀ i, i < T 14 0 → M a i = nI (T a i))
def OnM (T : Tn) (M : Mem) : Prop :=
  (M 103 2 = nI (T 1 0) ∧ M 103 3 = nI (T 1 1) ∧ M 103 4 = nI (T 1 2) ∧ M 103 5 = nI (T 1 3) ∧ M 104 81 = nI (T 1 4) ∧ M 103 7 = nI (T 1 5)) ∧ (∀ c, c < 81 → M 104 c = nI (T 2 c)) ∧ (∀ p, p < 6 → M 104 (82 + p) = nI (T 3 p)) ∧ M 103 6 = nI (T 4 0) ∧ (∀ b, b < T 4 0 → M 106 (4 * b) = nI (9 * T 6 b + T 5 b) ∧ M 106 (4 * b + 1) = nI (T 7 b) ∧ M 106 (4 * b + 2) = nI (T 8 b) ∧ M 106 (4 * b + 3) = nI (T 9 b)) ∧
  M 103 8 = nI (T 10 0) ∧ (∀ i, i < T 10 0 → M 107 (3 * i) = nI (T 11 i) ∧ M 107 (3 * i + 1) = nI (T 12 i) ∧ M 107 (3 * i + 2) = nI (T 13 i)) ∧ M 104 88 = nI (T 14 0) ∧ (∀ i, i < T 14 0 → M 104 (89 + 3 * i) = nI (T 15 i) ∧ M 104 (89 + 3 * i + 1) = nI (T 16 i) ∧ M 104 (89 + 3 * i + 2) = nI (T 17 i))
def Good (T : Tn) : Prop :=
  (3 ≤ T 1 0 ∧ T 1 0 ≤ 9) ∧ (3 ≤ T 1 1 ∧ T 1 1 ≤ 9) ∧ T 1 2 ≤ 20 ∧ T 1 3 ≤ 50 ∧ T 1 4 ≤ 9 ∧ (T 1 5 ≤ 6 ∧ T 1 5 ≤ T 4 0 ∧ T 4 0 ≤ 8) ∧ (∀ c, c < 81 → T 2 c ≤ 2) ∧ (∀ p, p < T 1 5 → T 3 p < T 4 0) ∧ (∀ p q, p < T 1 5 → q < T 1 5 → T 3 p = T 3 q → p = q) ∧ (∀ b, b < T 4 0 → T 5 b < T 1 0 ∧ T 6 b < T 1 1 ∧ T 7 b < 8 ∧ 1 ≤ T 8 b ∧ T 8 b ≤ 100 ∧ T 9 b ≤ 4) ∧
  (T 10 0 ≤ 8 ∧ ∀ i, i < T 10 0 → T 11 i < T 1 5 ∧ T 12 i < T 1 5 ∧ T 13 i ≤ 1) ∧ (T 14 0 ≤ 12 ∧ ∀ i, i < T 14 0 → T 15 i < 12 ∧ T 16 i < T 1 5 ∧ T 17 i < 8)
section PT
variable {T : Tn} {M : Mem}
theorem On.s (h : On T M) {j : Nat} (hj : j < 6) : M 1 j = nI (T 1 j) := h.1 j hj
theorem On.s0 (h : On T M) : M 1 0 = nI (T 1 0) := h.1 0 (by decide)
theorem On.s1 (h : On T M) : M 1 1 = nI (T 1 1) := h.1 1 (by decide)
theorem On.s2 (h : On T M) : M 1 2 = nI (T 1 2) := h.1 2 (by decide)
theorem On.s3 (h : On T M) : M 1 3 = nI (T 1 3) := h.1 3 (by decide)
theorem On.s4 (h : On T M) : M 1 4 = nI (T 1 4) := h.1 4 (by decide)
theorem On.s5 (h : On T M) : M 1 5 = nI (T 1 5) := h.1 5 (by decide)
theorem On.c (h : On T M) {c : Nat} (hc : c < 81) : M 2 c = nI (T 2 c) := h.2.1 c hc
theorem On.p (h : On T M) {p : Nat} (hp : p < 6) : M 3 p = nI (T 3 p) := h.2.2.1 p hp
theorem On.nb (h : On T M) : M 4 0 = nI (T 4 0) := h.2.2.2.1
theorem On.b (h : On T M) {a b : Nat} (h1 : 5 ≤ a) (h2 : a ≤ 9) (hb : b < T 4 0) : M a b = nI (T a b) := h.2.2.2.2.1 a h1 h2 b hb
theorem On.b5 (h : On T M) {b : Nat} (hb : b < T 4 0) : M 5 b = nI (T 5 b) := h.b (by decide) (by decide) hb
theorem On.b6 (h : On T M) {b : Nat} (hb : b < T 4 0) : M 6 b = nI (T 6 b) := h.b (by decide) (by decide) hb
theorem On.b7 (h : On T M) {b : Nat} (hb : b < T 4 0) : M 7 b = nI (T 7 b) := h.b (by decide) (by decide) hb
theorem On.b8 (h : On T M) {b : Nat} (hb : b < T 4 0) : M 8 b = nI (T 8 b) := h.b (by decide) (by decide) hb
theorem On.b9 (h : On T M) {b : Nat} (hb : b < T 4 0) : M 9 b = nI (T 9 b) := h.b (by decide) (by decide) hb
theorem On.nw (h : On T M) : M 10 0 = nI (T 10 0) := h.2.2.2.2.2.1
theorem On.w (h : On T M) {a i : Nat} (h1 : 11 ≤ a) (h2 : a ≤ 13) (hi : i < T 10 0) : M a i = nI (T a i) := h.2.2.2.2.2.2.1 a h1 h2 i hi
theorem On.ns (h : On T M) : M 14 0 = nI (T 14 0) := h.2.2.2.2.2.2.2.1
theorem On.v (h : On T M) {a i : Nat} (h1 : 15 ≤ a) (h2 : a ≤ 17) (hi : i < T 14 0) : M a i = nI (T a i) := h.2.2.2.2.2.2.2.2 a h1 h2 i hi
theorem OnM.s0 (h : OnM T M) : M 103 2 = nI (T 1 0) := h.1.1
theorem OnM.s1 (h : OnM T M) : M 103 3 = nI (T 1 1) := h.1.2.1
theorem OnM.s2 (h : OnM T M) : M 103 4 = nI (T 1 2) := h.1.2.2.1
theorem OnM.s3 (h : OnM T M) : M 103 5 = nI (T 1 3) := h.1.2.2.2.1
theorem OnM.s4 (h : OnM T M) : M 104 81 = nI (T 1 4) := h.1.2.2.2.2.1
theorem OnM.s5 (h : OnM T M) : M 103 7 = nI (T 1 5) := h.1.2.2.2.2.2
theorem OnM.c (h : OnM T M) {c : Nat} (hc : c < 81) : M 104 c = nI (T 2 c) := h.2.1 c hc
theorem OnM.p (h : OnM T M) {p : Nat} (hp : p < 6) : M 104 (82 + p) = nI (T 3 p) := h.2.2.1 p hp
theorem OnM.nb (h : OnM T M) : M 103 6 = nI (T 4 0) := h.2.2.2.1
theorem OnM.b0 (h : OnM T M) {b : Nat} (hb : b < T 4 0) : M 106 (4 * b) = nI (9 * T 6 b + T 5 b) := (h.2.2.2.2.1 b hb).1
theorem OnM.b1 (h : OnM T M) {b : Nat} (hb : b < T 4 0) : M 106 (4 * b + 1) = nI (T 7 b) := (h.2.2.2.2.1 b hb).2.1
theorem OnM.b2 (h : OnM T M) {b : Nat} (hb : b < T 4 0) : M 106 (4 * b + 2) = nI (T 8 b) := (h.2.2.2.2.1 b hb).2.2.1
theorem OnM.b3 (h : OnM T M) {b : Nat} (hb : b < T 4 0) : M 106 (4 * b + 3) = nI (T 9 b) := (h.2.2.2.2.1 b hb).2.2.2
theorem OnM.nw (h : OnM T M) : M 103 8 = nI (T 10 0) := h.2.2.2.2.2.1
theorem OnM.w0 (h : OnM T M) {i : Nat} (hi : i < T 10 0) : M 107 (3 * i) = nI (T 11 i) := (h.2.2.2.2.2.2.1 i hi).1
theorem OnM.w1 (h : OnM T M) {i : Nat} (hi : i < T 10 0) : M 107 (3 * i + 1) = nI (T 12 i) := (h.2.2.2.2.2.2.1 i hi).2.1
theorem OnM.w2 (h : OnM T M) {i : Nat} (hi : i < T 10 0) : M 107 (3 * i + 2) = nI (T 13 i) := (h.2.2.2.2.2.2.1 i hi).2.2
theorem OnM.ns (h : OnM T M) : M 104 88 = nI (T 14 0) := h.2.2.2.2.2.2.2.1
theorem OnM.v0 (h : OnM T M) {i : Nat} (hi : i < T 14 0) : M 104 (89 + 3 * i) = nI (T 15 i) := (h.2.2.2.2.2.2.2.2 i hi).1
theorem OnM.v1 (h : OnM T M) {i : Nat} (hi : i < T 14 0) : M 104 (89 + 3 * i + 1) = nI (T 16 i) := (h.2.2.2.2.2.2.2.2 i hi).2.1
theorem OnM.v2 (h : OnM T M) {i : Nat} (hi : i < T 14 0) : M 104 (89 + 3 * i + 2) = nI (T 17 i) := (h.2.2.2.2.2.2.2.2 i hi).2.2
theorem Good.w (h : Good T) : 3 ≤ T 1 0 ∧ T 1 0 ≤ 9 := h.1
theorem Good.h (h : Good T) : 3 ≤ T 1 1 ∧ T 1 1 ≤ 9 := h.2.1
theorem Good.fade (h : Good T) : T 1 2 ≤ 20 := h.2.2.1
theorem Good.bounce (h : Good T) : T 1 3 ≤ 50 := h.2.2.2.1
theorem Good.warm (h : Good T) : T 1 4 ≤ 9 := h.2.2.2.2.1
theorem Good.n (h : Good T) : T 1 5 ≤ 6 ∧ T 1 5 ≤ T 4 0 ∧ T 4 0 ≤ 8 := h.2.2.2.2.2.1
theorem Good.c (h : Good T) {c : Nat} (hc : c < 81) : T 2 c ≤ 2 := h.2.2.2.2.2.2.1 c hc
theorem Good.p (h : Good T) {p : Nat} (hp : p < T 1 5) : T 3 p < T 4 0 := h.2.2.2.2.2.2.2.1 p hp
theorem Good.pi (h : Good T) {p q : Nat} (hp : p < T 1 5) (hq : q < T 1 5) (e : T 3 p = T 3 q) : p = q := h.2.2.2.2.2.2.2.2.1 p q hp hq e
theorem Good.b (h : Good T) {b : Nat} (hb : b < T 4 0) : T 5 b < T 1 0 ∧ T 6 b < T 1 1 ∧ T 7 b < 8 ∧ 1 ≤ T 8 b ∧ T 8 b ≤ 100 ∧ T 9 b ≤ 4 := h.2.2.2.2.2.2.2.2.2.1 b hb
theorem Good.nw (h : Good T) : T 10 0 ≤ 8 := h.2.2.2.2.2.2.2.2.2.2.1.1
theorem Good.wi (h : Good T) {i : Nat} (hi : i < T 10 0) : T 11 i < T 1 5 ∧ T 12 i < T 1 5 ∧ T 13 i ≤ 1 := h.2.2.2.2.2.2.2.2.2.2.1.2 i hi
theorem Good.ns (h : Good T) : T 14 0 ≤ 12 := h.2.2.2.2.2.2.2.2.2.2.2.1
theorem Good.v (h : Good T) {i : Nat} (hi : i < T 14 0) : T 15 i < 12 ∧ T 16 i < T 1 5 ∧ T 17 i < 8 := h.2.2.2.2.2.2.2.2.2.2.2.2 i hi
/-- what is told lies below 18 -/
theorem On.fr (h : On T M) {lo hi : Nat} {M' : Mem} (f : Fr lo hi M M') (hl : 18 ≤ lo) : On T M' := by
  have e : ∀ a, a < 18 → M' a = M a := fun a ha => f a (by omega)
  refine ⟨fun j hj => ?_, fun j hj => ?_, fun j hj => ?_, ?_, fun a h1 h2 j hj => ?_, ?_, fun a h1 h2 j hj => ?_, ?_, fun a h1 h2 j hj => ?_⟩
  · rw [e 1 (by decide)]; exact h.1 j hj
  · rw [e 2 (by decide)]; exact h.c hj
  · rw [e 3 (by decide)]; exact h.p hj
  · rw [e 4 (by decide)]; exact h.nb
  · rw [e a (by omega)]; exact h.b h1 h2 hj
  · rw [e 10 (by decide)]; exact h.nw
  · rw [e a (by omega)]; exact h.w h1 h2 hj
  · rw [e 14 (by decide)]; exact h.ns
  · rw [e a (by omega)]; exact h.v h1 h2 hj
theorem OnM.fr (h : OnM T M) {M' : Mem} (f : Frm M M') : OnM T M' := by
  have e3 : ∀ k, k ≤ 8 → M' 103 k = M 103 k := fun k hk => f 103 k (by decide) (fun _ => by omega)
  have e : ∀ a k, 104 ≤ a → a ≤ 107 → M' a k = M a k := fun a k h1 h2 => f a k (by omega) (fun q => by omega)
  refine ⟨⟨?_, ?_, ?_, ?_, ?_, ?_⟩, fun j hj => ?_, fun j hj => ?_, ?_, fun j hj => ⟨?_, ?_, ?_, ?_⟩, ?_, fun j hj => ⟨?_, ?_, ?_⟩, ?_, fun j hj => ⟨?_, ?_, ?_⟩⟩
  · rw [e3 _ (by decide)]; exact h.s0
  · rw [e3 _ (by decide)]; exact h.s1
  · rw [e3 _ (by decide)]; exact h.s2
  · rw [e3 _ (by decide)]; exact h.s3
  · rw [e _ _ (by decide) (by decide)]; exact h.s4
  · rw [e3 _ (by decide)]; exact h.s5
  · rw [e _ _ (by decide) (by decide)]; exact h.c hj
  · rw [e _ _ (by decide) (by decide)]; exact h.p hj
  · rw [e3 _ (by decide)]; exact h.nb
  · rw [e _ _ (by decide) (by decide)]; exact h.b0 hj
  · rw [e _ _ (by decide) (by decide)]; exact h.b1 hj
  · rw [e _ _ (by decide) (by decide)]; exact h.b2 hj
  · rw [e _ _ (by decide) (by decide)]; exact h.b3 hj
  · rw [e3 _ (by decide)]; exact h.nw
  · rw [e _ _ (by decide) (by decide)]; exact h.w0 hj
  · rw [e _ _ (by decide) (by decide)]; exact h.w1 hj
  · rw [e _ _ (by decide) (by decide)]; exact h.w2 hj
  · rw [e _ _ (by decide) (by decide)]; exact h.ns
  · rw [e _ _ (by decide) (by decide)]; exact h.v0 hj
  · rw [e _ _ (by decide) (by decide)]; exact h.v1 hj
  · rw [e _ _ (by decide) (by decide)]; exact h.v2 hj
/-! benches -/
def cel (T : Tn) (b h : Nat) : Nat := 9 * T 6 b + (if T 9 b = 2 then (T 5 b + h) % T 1 0 else T 5 b)
def fac (T : Tn) (b h : Nat) : Nat := if T 9 b = 1 ∨ T 9 b = 2 then (T 7 b + h) % 8 else T 7 b
def ear (T : Tn) (b : Nat) : Nat := if T 9 b = 4 then (if T 8 b / 2 ≤ 1 then 1 else T 8 b / 2) else T 8 b
theorem cel_lt (g : Good T) {b h : Nat} (hb : b < T 4 0) : cel T b h < 81 ∧ cel T b h % 9 < T 1 0 ∧ cel T b h / 9 < T 1 1 := by
  have h1 := g.b hb
  have h2 := g.w
  have h3 := g.h
  unfold cel
  have : (T 5 b + h) % T 1 0 < T 1 0 := Nat.mod_lt _ (by omega)
  split <;> omega
theorem fac_lt (g : Good T) {b h : Nat} (hb : b < T 4 0) : fac T b h < 8 := by
  have h1 := g.b hb
  unfold fac
  split <;> omega
theorem ear_lt (g : Good T) {b : Nat} (hb : b < T 4 0) : 1 ≤ ear T b ∧ ear T b ≤ 100 := by
  have h1 := g.b hb
  unfold ear
  split
  · split <;> omega
  · omega
theorem c_exists (o : On T M) (g : Good T) {b : Nat} (hb : b < T 4 0) : f_Ben_exists 4 M (nI b) = some (nI 1) := by
  have h1 := g.n
  simp (disch := omega) only [e_bnd, e_bnd2, e_set, e_cpy, e_nmI, e_nmL, e_ckn, e_ckB0, e_ckB1, l0, l1, l2, l3, l4, l5, l6, l7, l8, l9, l10, l11, l12, l13, l14, l15, l16, l17, l18, l19, l20, l21, l22, l24, l25, l32, l39, l40, l41, l48, l50, l56, l57, l59, l60, l72, l79, l80, l81, l82, l88, l89, l97, l100, l122, l124, l125, l160, l255, l312, l320, l375, l1000, nI_ltI, nI_leI, nI_eq, nI_add, pk_mul, e_ix, e_neg, if_true, if_false, if_pos, if_neg, f_Ben_exists, o.nb]
theorem c_cell (o : On T M) (g : Good T) {b h : Nat} (hb : b < T 4 0) (hh : h < 12) : f_Ben_cellIn 4 M (nI b) (nI h) (M 1 0) = some (nI (cel T b h)) := by
  have h1 := g.n
  have h2 := g.w
  have h3 := g.b hb
  by_cases hk : T 9 b = 2
  · simp (disch := omega) only [e_bnd, e_bnd2, e_set, e_cpy, e_nmI, e_nmL, e_ckn, e_ckB0, e_ckB1, l0, l1, l2, l3, l4, l5, l6, l7, l8, l9, l10, l11, l12, l13, l14, l15, l16, l17, l18, l19, l20, l21, l22, l24, l25, l32, l39, l40, l41, l48, l50, l56, l57, l59, l60, l72, l79, l80, l81, l82, l88, l89, l97, l100, l122, l124, l125, l160, l255, l312, l320, l375, l1000, nI_ltI, nI_leI, nI_eq, nI_add, pk_mul, e_ix, e_neg, if_true, if_false, if_pos, if_neg, f_Ben_cellIn, f_Ben_cellIn_J44, c_exists o g hb, Nat.reduceAdd, o.b9 hb, hk, o.s0, o.b5 hb, o.b6 hb, j_rem, cel]
  · simp (disch := omega) only [e_bnd, e_bnd2, e_set, e_cpy, e_nmI, e_nmL, e_ckn, e_ckB0, e_ckB1, l0, l1, l2, l3, l4, l5, l6, l7, l8, l9, l10, l11, l12, l13, l14, l15, l16, l17, l18, l19, l20, l21, l22, l24, l25, l32, l39, l40, l41, l48, l50, l56, l57, l59, l60, l72, l79, l80, l81, l82, l88, l89, l97, l100, l122, l124, l125, l160, l255, l312, l320, l375, l1000, nI_ltI, nI_leI, nI_eq, nI_add, pk_mul, e_ix, e_neg, if_true, if_false, if_pos, if_neg, f_Ben_cellIn, f_Ben_cellIn_J44, f_Ben_cellIn_J38, c_exists o g hb, Nat.reduceAdd, o.b9 hb, o.s0, o.b5 hb, o.b6 hb, j_rem, cel]
theorem c_fac (o : On T M) (g : Good T) {b h : Nat} (hb : b < T 4 0) (hh : h < 12) : f_Ben_facingIn 4 M (nI b) (nI h) = some (nI (fac T b h)) := by
  have h1 := g.n
  have h3 := g.b hb
  by_cases hk : T 9 b = 1
  · simp (disch := omega) only [e_bnd, e_bnd2, e_set, e_cpy, e_nmI, e_nmL, e_ckn, e_ckB0, e_ckB1, l0, l1, l2, l3, l4, l5, l6, l7, l8, l9, l10, l11, l12, l13, l14, l15, l16, l17, l18, l19, l20, l21, l22, l24, l25, l32, l39, l40, l41, l48, l50, l56, l57, l59, l60, l72, l79, l80, l81, l82, l88, l89, l97, l100, l122, l124, l125, l160, l255, l312, l320, l375, l1000, nI_ltI, nI_leI, nI_eq, nI_add, pk_mul, e_ix, e_neg, if_true, if_false, if_pos, if_neg, f_Ben_facingIn, f_Ben_facingIn_J36, f_Ben_facingIn_J31, c_exists o g hb, Nat.reduceAdd, o.b9 hb, hk, o.b7 hb, j_rem, fac, true_or]
  · by_cases hk2 : T 9 b = 2
    · simp (disch := omega) only [e_bnd, e_bnd2, e_set, e_cpy, e_nmI, e_nmL, e_ckn, e_ckB0, e_ckB1, l0, l1, l2, l3, l4, l5, l6, l7, l8, l9, l10, l11, l12, l13, l14, l15, l16, l17, l18, l19, l20, l21, l22, l24, l25, l32, l39, l40, l41, l48, l50, l56, l57, l59, l60, l72, l79, l80, l81, l82, l88, l89, l97, l100, l122, l124, l125, l160, l255, l312, l320, l375, l1000, nI_ltI, nI_leI, nI_eq, nI_add, pk_mul, e_ix, e_neg, if_true, if_false, if_pos, if_neg, f_Ben_facingIn, f_Ben_facingIn_J36, f_Ben_facingIn_J31, c_exists o g hb, Nat.reduceAdd, o.b9 hb, hk2, o.b7 hb, j_rem, fac, or_true]
    · simp (disch := omega) only [e_bnd, e_bnd2, e_set, e_cpy, e_nmI, e_nmL, e_ckn, e_ckB0, e_ckB1, l0, l1, l2, l3, l4, l5, l6, l7, l8, l9, l10, l11, l12, l13, l14, l15, l16, l17, l18, l19, l20, l21, l22, l24, l25, l32, l39, l40, l41, l48, l50, l56, l57, l59, l60, l72, l79, l80, l81, l82, l88, l89, l97, l100, l122, l124, l125, l160, l255, l312, l320, l375, l1000, nI_ltI, nI_leI, nI_eq, nI_add, pk_mul, e_ix, e_neg, if_true, if_false, if_pos, if_neg, f_Ben_facingIn, f_Ben_facingIn_J36, f_Ben_facingIn_J31, c_exists o g hb, Nat.reduceAdd, o.b9 hb, o.b7 hb, j_rem, fac]
theorem c_ear (o : On T M) (g : Good T) {b : Nat} (hb : b < T 4 0) : f_Ben_earOf 4 M (nI b) = some (nI (ear T b)) := by
  have h1 := g.n
  have h3 := g.b hb
  by_cases hk : T 9 b = 4
  · by_cases h5 : T 8 b / 2 ≤ 1
    · by_cases h6 : 1 < T 8 b / 2
      · omega
      · simp (disch := omega) only [e_bnd, e_bnd2, e_set, e_cpy, e_nmI, e_nmL, e_ckn, e_ckB0, e_ckB1, l0, l1, l2, l3, l4, l5, l6, l7, l8, l9, l10, l11, l12, l13, l14, l15, l16, l17, l18, l19, l20, l21, l22, l24, l25, l32, l39, l40, l41, l48, l50, l56, l57, l59, l60, l72, l79, l80, l81, l82, l88, l89, l97, l100, l122, l124, l125, l160, l255, l312, l320, l375, l1000, nI_ltI, nI_leI, nI_eq, nI_add, pk_mul, e_ix, e_neg, if_true, if_false, if_pos, if_neg, f_Ben_earOf, c_exists o g hb, Nat.reduceAdd, o.b9 hb, hk, o.b8 hb, pk_div, jmax, ear]
    · simp (disch := omega) only [e_bnd, e_bnd2, e_set, e_cpy, e_nmI, e_nmL, e_ckn, e_ckB0, e_ckB1, l0, l1, l2, l3, l4, l5, l6, l7, l8, l9, l10, l11, l12, l13, l14, l15, l16, l17, l18, l19, l20, l21, l22, l24, l25, l32, l39, l40, l41, l48, l50, l56, l57, l59, l60, l72, l79, l80, l81, l82, l88, l89, l97, l100, l122, l124, l125, l160, l255, l312, l320, l375, l1000, nI_ltI, nI_leI, nI_eq, nI_add, pk_mul, e_ix, e_neg, if_true, if_false, if_pos, if_neg, f_Ben_earOf, c_exists o g hb, Nat.reduceAdd, o.b9 hb, hk, o.b8 hb, pk_div, jmax, ear]
  · simp (disch := omega) only [e_bnd, e_bnd2, e_set, e_cpy, e_nmI, e_nmL, e_ckn, e_ckB0, e_ckB1, l0, l1, l2, l3, l4, l5, l6, l7, l8, l9, l10, l11, l12, l13, l14, l15, l16, l17, l18, l19, l20, l21, l22, l24, l25, l32, l39, l40, l41, l48, l50, l56, l57, l59, l60, l72, l79, l80, l81, l82, l88, l89, l97, l100, l122, l124, l125, l160, l255, l312, l320, l375, l1000, nI_ltI, nI_leI, nI_eq, nI_add, pk_mul, e_ix, e_neg, if_true, if_false, if_pos, if_neg, f_Ben_earOf, c_exists o g hb, Nat.reduceAdd, o.b9 hb, o.b8 hb, ear]
theorem c_kind (o : On T M) (g : Good T) {b : Nat} (hb : b < T 4 0) : f_Ben_kindOf 4 M (nI b) = some (nI (T 9 b)) := by
  have h1 := g.n
  simp (disch := omega) only [e_bnd, e_bnd2, e_set, e_cpy, e_nmI, e_nmL, e_ckn, e_ckB0, e_ckB1, l0, l1, l2, l3, l4, l5, l6, l7, l8, l9, l10, l11, l12, l13, l14, l15, l16, l17, l18, l19, l20, l21, l22, l24, l25, l32, l39, l40, l41, l48, l50, l56, l57, l59, l60, l72, l79, l80, l81, l82, l88, l89, l97, l100, l122, l124, l125, l160, l255, l312, l320, l375, l1000, nI_ltI, nI_leI, nI_eq, nI_add, pk_mul, e_ix, e_neg, if_true, if_false, if_pos, if_neg, f_Ben_kindOf, c_exists o g hb, Nat.reduceAdd, o.b9 hb]
theorem m_kind (o : OnM T M) (g : Good T) {b : Nat} (hb : b < T 4 0) : f_Mod_kindOf M (nI b) = some (nI (T 9 b)) := by
  have h1 := g.n
  simp (disch := omega) only [e_bnd, e_bnd2, e_set, e_cpy, e_nmI, e_nmL, e_ckn, e_ckB0, e_ckB1, l0, l1, l2, l3, l4, l5, l6, l7, l8, l9, l10, l11, l12, l13, l14, l15, l16, l17, l18, l19, l20, l21, l22, l24, l25, l32, l39, l40, l41, l48, l50, l56, l57, l59, l60, l72, l79, l80, l81, l82, l88, l89, l97, l100, l122, l124, l125, l160, l255, l312, l320, l375, l1000, nI_ltI, nI_leI, nI_eq, nI_add, pk_mul, e_ix, e_neg, if_true, if_false, if_pos, if_neg, f_Mod_kindOf, o.b3 hb]
theorem m_cell (o : OnM T M) (g : Good T) {b h : Nat} (hb : b < T 4 0) (hh : h < 12) : f_Mod_cellOf M (nI b) (nI h) = some (nI (cel T b h)) := by
  have h1 := g.n
  have h2 := g.w
  have h3 := g.b hb
  have h5 := g.h
  have h4 : (9 * T 6 b + T 5 b) % 9 = T 5 b := by omega
  by_cases hk : T 9 b = 2
  · simp (disch := omega) only [e_bnd, e_bnd2, e_set, e_cpy, e_nmI, e_nmL, e_ckn, e_ckB0, e_ckB1, l0, l1, l2, l3, l4, l5, l6, l7, l8, l9, l10, l11, l12, l13, l14, l15, l16, l17, l18, l19, l20, l21, l22, l24, l25, l32, l39, l40, l41, l48, l50, l56, l57, l59, l60, l72, l79, l80, l81, l82, l88, l89, l97, l100, l122, l124, l125, l160, l255, l312, l320, l375, l1000, nI_ltI, nI_leI, nI_eq, nI_add, pk_mul, e_ix, e_neg, if_true, if_false, if_pos, if_neg, f_Mod_cellOf, m_kind o g hb, o.b0 hb, hk, j_rem, h4, o.s0, cel, pk_sub, Nat.add_sub_cancel]
  · simp (disch := omega) only [e_bnd, e_bnd2, e_set, e_cpy, e_nmI, e_nmL, e_ckn, e_ckB0, e_ckB1, l0, l1, l2, l3, l4, l5, l6, l7, l8, l9, l10, l11, l12, l13, l14, l15, l16, l17, l18, l19, l20, l21, l22, l24, l25, l32, l39, l40, l41, l48, l50, l56, l57, l59, l60, l72, l79, l80, l81, l82, l88, l89, l97, l100, l122, l124, l125, l160, l255, l312, l320, l375, l1000, nI_ltI, nI_leI, nI_eq, nI_add, pk_mul, e_ix, e_neg, if_true, if_false, if_pos, if_neg, f_Mod_cellOf, m_kind o g hb, o.b0 hb, cel]
theorem m_fac (o : OnM T M) (g : Good T) {b h : Nat} (hb : b < T 4 0) (hh : h < 12) : f_Mod_facingOf M (nI b) (nI h) = some (nI (fac T b h)) := by
  have h1 := g.n
  have h3 := g.b hb
  have e : f_Mod_in (nI (T 9 b)).toInt64 1 2 = some (if (1 : Int32) ≤ nI (T 9 b) ∧ nI (T 9 b) ≤ 2 then nI 1 else nI 0) := m_in0 _ rfl rfl
  by_cases hk : T 9 b = 1 ∨ T 9 b = 2
  · simp (disch := omega) only [e_bnd, e_bnd2, e_set, e_cpy, e_nmI, e_nmL, e_ckn, e_ckB0, e_ckB1, l0, l1, l2, l3, l4, l5, l6, l7, l8, l9, l10, l11, l12, l13, l14, l15, l16, l17, l18, l19, l20, l21, l22, l24, l25, l32, l39, l40, l41, l48, l50, l56, l57, l59, l60, l72, l79, l80, l81, l82, l88, l89, l97, l100, l122, l124, l125, l160, l255, l312, l320, l375, l1000, nI_ltI, nI_leI, nI_eq, nI_add, pk_mul, e_ix, e_neg, if_true, if_false, if_pos, if_neg, f_Mod_facingOf, m_kind o g hb, e, o.b1 hb, j_rem, fac]
  · simp (disch := omega) only [e_bnd, e_bnd2, e_set, e_cpy, e_nmI, e_nmL, e_ckn, e_ckB0, e_ckB1, l0, l1, l2, l3, l4, l5, l6, l7, l8, l9, l10, l11, l12, l13, l14, l15, l16, l17, l18, l19, l20, l21, l22, l24, l25, l32, l39, l40, l41, l48, l50, l56, l57, l59, l60, l72, l79, l80, l81, l82, l88, l89, l97, l100, l122, l124, l125, l160, l255, l312, l320, l375, l1000, nI_ltI, nI_leI, nI_eq, nI_add, pk_mul, e_ix, e_neg, if_true, if_false, if_pos, if_neg, f_Mod_facingOf, m_kind o g hb, e, o.b1 hb, j_rem, fac]
theorem m_ear (o : OnM T M) (g : Good T) {b : Nat} (hb : b < T 4 0) : f_Mod_earOf M (nI b) = some (nI (ear T b)) := by
  have h1 := g.n
  have h3 := g.b hb
  by_cases hk : T 9 b = 4
  · by_cases h5 : T 8 b / 2 ≤ 1
    · simp (disch := omega) only [e_bnd, e_bnd2, e_set, e_cpy, e_nmI, e_nmL, e_ckn, e_ckB0, e_ckB1, l0, l1, l2, l3, l4, l5, l6, l7, l8, l9, l10, l11, l12, l13, l14, l15, l16, l17, l18, l19, l20, l21, l22, l24, l25, l32, l39, l40, l41, l48, l50, l56, l57, l59, l60, l72, l79, l80, l81, l82, l88, l89, l97, l100, l122, l124, l125, l160, l255, l312, l320, l375, l1000, nI_ltI, nI_leI, nI_eq, nI_add, pk_mul, e_ix, e_neg, if_true, if_false, if_pos, if_neg, f_Mod_earOf, m_kind o g hb, hk, o.b2 hb, pk_div, ear]
    · simp (disch := omega) only [e_bnd, e_bnd2, e_set, e_cpy, e_nmI, e_nmL, e_ckn, e_ckB0, e_ckB1, l0, l1, l2, l3, l4, l5, l6, l7, l8, l9, l10, l11, l12, l13, l14, l15, l16, l17, l18, l19, l20, l21, l22, l24, l25, l32, l39, l40, l41, l48, l50, l56, l57, l59, l60, l72, l79, l80, l81, l82, l88, l89, l97, l100, l122, l124, l125, l160, l255, l312, l320, l375, l1000, nI_ltI, nI_leI, nI_eq, nI_add, pk_mul, e_ix, e_neg, if_true, if_false, if_pos, if_neg, f_Mod_earOf, m_kind o g hb, hk, o.b2 hb, pk_div, ear]
  · simp (disch := omega) only [e_bnd, e_bnd2, e_set, e_cpy, e_nmI, e_nmL, e_ckn, e_ckB0, e_ckB1, l0, l1, l2, l3, l4, l5, l6, l7, l8, l9, l10, l11, l12, l13, l14, l15, l16, l17, l18, l19, l20, l21, l22, l24, l25, l32, l39, l40, l41, l48, l50, l56, l57, l59, l60, l72, l79, l80, l81, l82, l88, l89, l97, l100, l122, l124, l125, l160, l255, l312, l320, l375, l1000, nI_ltI, nI_leI, nI_eq, nI_add, pk_mul, e_ix, e_neg, if_true, if_false, if_pos, if_neg, f_Mod_earOf, m_kind o g hb, o.b2 hb, pk_div, ear]
/-! cells -/
def isC (T : Tn) (c : Nat) : Prop := c < 81 ∧ c % 9 < T 1 0 ∧ c / 9 < T 1 1
theorem c_isCell (o : On T M) (g : Good T) {c : Nat} (hc : c < 81) : f_Tol_isCell 1 M (nI c) = some (if c % 9 < T 1 0 ∧ c / 9 < T 1 1 then nI 1 else nI 0) := by
  have h2 := g.w
  have h3 := g.h
  by_cases h4 : T 1 0 ≤ c % 9
  · simp (disch := omega) only [e_bnd, e_bnd2, e_set, e_cpy, e_nmI, e_nmL, e_ckn, e_ckB0, e_ckB1, l0, l1, l2, l3, l4, l5, l6, l7, l8, l9, l10, l11, l12, l13, l14, l15, l16, l17, l18, l19, l20, l21, l22, l24, l25, l32, l39, l40, l41, l48, l50, l56, l57, l59, l60, l72, l79, l80, l81, l82, l88, l89, l97, l100, l122, l124, l125, l160, l255, l312, l320, l375, l1000, nI_ltI, nI_leI, nI_eq, nI_add, pk_mul, e_ix, e_neg, if_true, if_false, if_pos, if_neg, f_Tol_isCell, o.s0, o.s1, j_rem, pk_div]
  · by_cases h5 : T 1 1 ≤ c / 9
    · simp (disch := omega) only [e_bnd, e_bnd2, e_set, e_cpy, e_nmI, e_nmL, e_ckn, e_ckB0, e_ckB1, l0, l1, l2, l3, l4, l5, l6, l7, l8, l9, l10, l11, l12, l13, l14, l15, l16, l17, l18, l19, l20, l21, l22, l24, l25, l32, l39, l40, l41, l48, l50, l56, l57, l59, l60, l72, l79, l80, l81, l82, l88, l89, l97, l100, l122, l124, l125, l160, l255, l312, l320, l375, l1000, nI_ltI, nI_leI, nI_eq, nI_add, pk_mul, e_ix, e_neg, if_true, if_false, if_pos, if_neg, f_Tol_isCell, o.s0, o.s1, j_rem, pk_div]
    · simp (disch := omega) only [e_bnd, e_bnd2, e_set, e_cpy, e_nmI, e_nmL, e_ckn, e_ckB0, e_ckB1, l0, l1, l2, l3, l4, l5, l6, l7, l8, l9, l10, l11, l12, l13, l14, l15, l16, l17, l18, l19, l20, l21, l22, l24, l25, l32, l39, l40, l41, l48, l50, l56, l57, l59, l60, l72, l79, l80, l81, l82, l88, l89, l97, l100, l122, l124, l125, l160, l255, l312, l320, l375, l1000, nI_ltI, nI_leI, nI_eq, nI_add, pk_mul, e_ix, e_neg, if_true, if_false, if_pos, if_neg, f_Tol_isCell, o.s0, o.s1, j_rem, pk_div]
theorem c_state (o : On T M) {c : Nat} (hc : c < 81) : f_Tol_stateOf 1 M (nI c) = some (nI (T 2 c)) := by
  simp (disch := omega) only [e_bnd, e_bnd2, e_set, e_cpy, e_nmI, e_nmL, e_ckn, e_ckB0, e_ckB1, l0, l1, l2, l3, l4, l5, l6, l7, l8, l9, l10, l11, l12, l13, l14, l15, l16, l17, l18, l19, l20, l21, l22, l24, l25, l32, l39, l40, l41, l48, l50, l56, l57, l59, l60, l72, l79, l80, l81, l82, l88, l89, l97, l100, l122, l124, l125, l160, l255, l312, l320, l375, l1000, nI_ltI, nI_leI, nI_eq, nI_add, pk_mul, e_ix, e_neg, if_true, if_false, if_pos, if_neg, f_Tol_stateOf, Nat.reduceAdd, o.c hc]
theorem m_isCell (o : OnM T M) (g : Good T) {c : Nat} (hc : c < 81) : f_Mod_isCell M (nI c) = some (if c % 9 < T 1 0 ∧ c / 9 < T 1 1 then nI 1 else nI 0) := by
  have h2 := g.w
  have h3 := g.h
  have e : f_Mod_in (nI c).toInt64 0 80 = some (if (0 : Int32) ≤ nI c ∧ nI c ≤ 80 then nI 1 else nI 0) := m_in0 _ rfl rfl
  by_cases h4 : T 1 0 ≤ c % 9
  · simp (disch := omega) only [e_bnd, e_bnd2, e_set, e_cpy, e_nmI, e_nmL, e_ckn, e_ckB0, e_ckB1, l0, l1, l2, l3, l4, l5, l6, l7, l8, l9, l10, l11, l12, l13, l14, l15, l16, l17, l18, l19, l20, l21, l22, l24, l25, l32, l39, l40, l41, l48, l50, l56, l57, l59, l60, l72, l79, l80, l81, l82, l88, l89, l97, l100, l122, l124, l125, l160, l255, l312, l320, l375, l1000, nI_ltI, nI_leI, nI_eq, nI_add, pk_mul, e_ix, e_neg, if_true, if_false, if_pos, if_neg, f_Mod_isCell, e, o.s0, o.s1, j_rem, pk_div]
  · by_cases h5 : T 1 1 ≤ c / 9
    · simp (disch := omega) only [e_bnd, e_bnd2, e_set, e_cpy, e_nmI, e_nmL, e_ckn, e_ckB0, e_ckB1, l0, l1, l2, l3, l4, l5, l6, l7, l8, l9, l10, l11, l12, l13, l14, l15, l16, l17, l18, l19, l20, l21, l22, l24, l25, l32, l39, l40, l41, l48, l50, l56, l57, l59, l60, l72, l79, l80, l81, l82, l88, l89, l97, l100, l122, l124, l125, l160, l255, l312, l320, l375, l1000, nI_ltI, nI_leI, nI_eq, nI_add, pk_mul, e_ix, e_neg, if_true, if_false, if_pos, if_neg, f_Mod_isCell, e, o.s0, o.s1, j_rem, pk_div]
    · simp (disch := omega) only [e_bnd, e_bnd2, e_set, e_cpy, e_nmI, e_nmL, e_ckn, e_ckB0, e_ckB1, l0, l1, l2, l3, l4, l5, l6, l7, l8, l9, l10, l11, l12, l13, l14, l15, l16, l17, l18, l19, l20, l21, l22, l24, l25, l32, l39, l40, l41, l48, l50, l56, l57, l59, l60, l72, l79, l80, l81, l82, l88, l89, l97, l100, l122, l124, l125, l160, l255, l312, l320, l375, l1000, nI_ltI, nI_leI, nI_eq, nI_add, pk_mul, e_ix, e_neg, if_true, if_false, if_pos, if_neg, f_Mod_isCell, e, o.s0, o.s1, j_rem, pk_div]
theorem c_seat (o : On T M) (g : Good T) {p : Nat} (hp : p < T 1 5) : f_Tol_seatOf 1 M (nI p) = some (nI (T 3 p)) := by
  have h1 := g.n
  simp (disch := omega) only [e_bnd, e_bnd2, e_set, e_cpy, e_nmI, e_nmL, e_ckn, e_ckB0, e_ckB1, l0, l1, l2, l3, l4, l5, l6, l7, l8, l9, l10, l11, l12, l13, l14, l15, l16, l17, l18, l19, l20, l21, l22, l24, l25, l32, l39, l40, l41, l48, l50, l56, l57, l59, l60, l72, l79, l80, l81, l82, l88, l89, l97, l100, l122, l124, l125, l160, l255, l312, l320, l375, l1000, nI_ltI, nI_leI, nI_eq, nI_add, pk_mul, e_ix, e_neg, if_true, if_false, if_pos, if_neg, f_Tol_seatOf, o.s5, Nat.reduceAdd, o.p (show p < 6 by omega)]
end PT
