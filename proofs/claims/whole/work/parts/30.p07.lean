/-! pure: the invariant of both -/
def tset (T : Tn) (a k v : Nat) : Tn := fun a' k' => if a' = a ∧ k' = k then v else T a' k'
theorem ts_eq {T : Tn} {a k v : Nat} : tset T a k v a k = v := if_pos ⟨rfl, rfl⟩
theorem ts_ne {T : Tn} {a k v a' k' : Nat} (h : a' ≠ a) : tset T a k v a' k' = T a' k' := if_neg (fun q => h q.1)
theorem ts_nk {T : Tn} {a k v a' k' : Nat} (h : k' ≠ k) : tset T a k v a' k' = T a' k' := if_neg (fun q => h q.2)
/-- what an image holds -/
def chg (a k : Nat) : Bool := a == 2 || a == 3 || (a == 14 || a == 15 || a == 16 || a == 17) || (a == 1 && k == 4)
def mix (T I : Tn) : Tn := fun a k => if chg a k = true then I a k else T a k
def Img (t o : Nat) (T I : Tn) (M : Mem) : Prop :=
  Good (mix T I) ∧ ((∀ c, c < 81 → M (t + 1) c = nI (I 2 c)) ∧ M t 4 = nI (I 1 4) ∧ (∀ p, p < 6 → M (t + 2) p = nI (I 3 p)) ∧ M (t + 13) 0 = nI (I 14 0) ∧ (∀ i, i < I 14 0 → M (t + 14) i = nI (I 15 i) ∧ M (t + 15) i = nI (I 16 i) ∧ M (t + 16) i = nI (I 17 i))) ∧
  ((∀ c, c < 81 → M 104 (o + c) = nI (I 2 c)) ∧ M 104 (o + 81) = nI (I 1 4) ∧ (∀ p, p < 6 → M 104 (o + (82 + p)) = nI (I 3 p)) ∧ M 104 (o + 88) = nI (I 14 0) ∧ (∀ i, i < I 14 0 → M 104 (o + (89 + 3 * i)) = nI (I 15 i) ∧ M 104 (o + (89 + 3 * i + 1)) = nI (I 16 i) ∧ M 104 (o + (89 + 3 * i + 2)) = nI (I 17 i)))
def InvI (T : Tn) (M : Mem) : Prop := ∃ k0 k1 : Nat, k0 ≤ 1 ∧ k1 ≤ 1 ∧ M 0 3 = nI (k0 + 2 * k1) ∧ M 105 0 = nI k0 ∧ M 105 1 = nI k1 ∧ (k0 = 1 → ∃ I, Img 18 125 T I M) ∧ (k1 = 1 → ∃ I, Img 35 250 T I M)
def She1 (M : Mem) (k : Nat) : Prop := (M 101 k = -1 ∧ M 119 k = -4) ∨ ∃ l n : Nat, l ≤ 2 ∧ n ≤ 40 ∧ M 101 k = nI l ∧ M 119 k = nI l ∧ M 102 k = nI n ∧ M 120 k = nI n ∧ ∀ i, i < 40 → M (97 + k) i = M 121 (40 * k + i)
def InvS (M : Mem) : Prop := (∀ k, k < 4 → She1 M k) ∧ M 0 9 = M 103 43
def InvT (M : Mem) : Prop := ∃ L : Nat, L ≤ 320 ∧ M 70 0 = nI L ∧ M 103 22 = nI L ∧ ∀ j, j < L → ∃ b : Nat, b < 256 ∧ M 112 j = nI b ∧ M 71 j = (nI b).toInt8.toInt32
def InvF (M : Mem) : Prop := M 70 4 = M 103 27
def InvA (T : Tn) (M : Mem) : Prop := On T M ∧ OnM T M ∧ Good T
def Inv (M : Mem) : Prop := ∃ T : Tn, InvA T M ∧ InvI T M ∧ InvS M ∧ InvT M ∧ InvF M
/-- what the images, sheets, tape, faults rest on is the same in both -/
def Kp (M M' : Mem) : Prop := ((∀ k, k ≠ 3 → k ≠ 9 → True) ∧ M' 0 3 = M 0 3 ∧ M' 0 9 = M 0 9) ∧ (∀ a, 18 ≤ a → a ≤ 51 → M' a = M a) ∧ (∀ a, 97 ≤ a → a ≤ 102 → M' a = M a) ∧ (M' 70 0 = M 70 0 ∧ M' 70 4 = M 70 4 ∧ M' 71 = M 71) ∧ (M' 103 22 = M 103 22 ∧ M' 103 27 = M 103 27 ∧ M' 103 43 = M 103 43) ∧ (∀ k, 125 ≤ k → M' 104 k = M 104 k) ∧ M' 105 = M 105 ∧ M' 112 = M 112 ∧ (∀ a, 119 ≤ a → a ≤ 121 → M' a = M a)
theorem Kp.rf {M : Mem} : Kp M M := ⟨⟨fun _ _ _ => trivial, rfl, rfl⟩, fun _ _ _ => rfl, fun _ _ _ => rfl, ⟨rfl, rfl, rfl⟩, ⟨rfl, rfl, rfl⟩, fun _ _ => rfl, rfl, rfl, fun _ _ _ => rfl⟩
theorem Kp.tr {M M' M2 : Mem} (h : Kp M M') (g : Kp M' M2) : Kp M M2 := by
  obtain ⟨⟨-, h1, h2⟩, h3, h4, ⟨h5, h6, h7⟩, ⟨h8, h9, h10⟩, h11, h12, h13, h14⟩ := h
  obtain ⟨⟨-, g1, g2⟩, g3, g4, ⟨g5, g6, g7⟩, ⟨g8, g9, g10⟩, g11, g12, g13, g14⟩ := g
  exact ⟨⟨fun _ _ _ => trivial, g1.trans h1, g2.trans h2⟩, fun a x y => (g3 a x y).trans (h3 a x y), fun a x y => (g4 a x y).trans (h4 a x y), ⟨g5.trans h5, g6.trans h6, g7.trans h7⟩, ⟨g8.trans h8, g9.trans h9, g10.trans h10⟩, fun k x => (g11 k x).trans (h11 k x), g12.trans h12, g13.trans h13, fun a x y => (g14 a x y).trans (h14 a x y)⟩
theorem Fr.kp {lo hi : Nat} {M M' : Mem} (f : Fr lo hi M M') (h1 : 72 ≤ lo) (h2 : hi ≤ 94) : Kp M M' := by
  have e : ∀ a, a < 72 ∨ 94 < a → M' a = M a := fun a h => f a (by omega)
  refine ⟨⟨fun _ _ _ => trivial, by rw [e 0 (by decide)], by rw [e 0 (by decide)]⟩, fun a x y => e a (by omega), fun a x y => e a (by omega), ⟨?_, ?_, e 71 (by decide)⟩, ⟨?_, ?_, ?_⟩, fun k _ => ?_, e 105 (by decide), e 112 (by decide), fun a x y => e a (by omega)⟩
  · rw [e 70 (by decide)]
  · rw [e 70 (by decide)]
  · rw [e 103 (by decide)]
  · rw [e 103 (by decide)]
  · rw [e 103 (by decide)]
  · rw [e 104 (by decide)]
theorem Frm.kp {M M' : Mem} (f : Frm M M') : Kp M M' := by
  have e : ∀ a, (a < 113 ∨ 118 < a) → a ≠ 103 → M' a = M a := fun a h q => funext fun k => f a k h (fun e => absurd e q)
  refine ⟨⟨fun _ _ _ => trivial, by rw [e 0 (by decide) (by decide)], by rw [e 0 (by decide) (by decide)]⟩, fun a x y => e a (by omega) (by omega), fun a x y => e a (by omega) (by omega), ⟨?_, ?_, e 71 (by decide) (by decide)⟩, ⟨f 103 22 (by decide) (fun _ => by decide), f 103 27 (by decide) (fun _ => by decide), f 103 43 (by decide) (fun _ => by decide)⟩, fun k _ => ?_, e 105 (by decide) (by decide), e 112 (by decide) (by decide), fun a x y => e a (by omega) (by omega)⟩
  · rw [e 70 (by decide) (by decide)]
  · rw [e 70 (by decide) (by decide)]
  · rw [e 104 (by decide) (by decide)]
/-- a cell of what is told, in both, is set -/
theorem Kp.set {M M' : Mem} {a k : Nat} {x : Int32} (h : Kp M M') (h1 : (1 ≤ a ∧ a ≤ 17) ∨ (a = 104 ∧ k < 125) ∨ (72 ≤ a ∧ a ≤ 94) ∨ (113 ≤ a ∧ a ≤ 118)) : Kp M (upd2 M' a k x) := by
  refine h.tr ⟨⟨fun _ _ _ => trivial, ?_, ?_⟩, fun b x y => u_ne (by omega), fun b x y => u_ne (by omega), ⟨?_, ?_, u_ne (by omega)⟩, ⟨?_, ?_, ?_⟩, fun j hj => ?_, u_ne (by omega), u_ne (by omega), fun b x y => u_ne (by omega)⟩
  · rw [u_ne (by omega)]
  · rw [u_ne (by omega)]
  · rw [u_ne (by omega)]
  · rw [u_ne (by omega)]
  · rw [u_ne (by omega)]
  · rw [u_ne (by omega)]
  · rw [u_ne (by omega)]
  · by_cases e : a = 104
    · subst e; rw [u_nk (by omega)]
    · rw [u_ne (fun q => e q.symm)]
theorem Img.kp {t o : Nat} {T I : Tn} {M M' : Mem} (h : Img t o T I M) (ht : t = 18 ∨ t = 35) (ho : 125 ≤ o) (k : Kp M M') : Img t o T I M' := by
  obtain ⟨-, h3, -, -, -, h11, -, -, -⟩ := k
  obtain ⟨g, ⟨a1, a2, a3, a4, a5⟩, ⟨b1, b2, b3, b4, b5⟩⟩ := h
  refine ⟨g, ⟨fun c hc => ?_, ?_, fun p hp => ?_, ?_, fun i hi => ⟨?_, ?_, ?_⟩⟩, ⟨fun c hc => ?_, ?_, fun p hp => ?_, ?_, fun i hi => ⟨?_, ?_, ?_⟩⟩⟩
  · rw [h3 _ (by omega) (by omega)]; exact a1 c hc
  · rw [h3 _ (by omega) (by omega)]; exact a2
  · rw [h3 _ (by omega) (by omega)]; exact a3 p hp
  · rw [h3 _ (by omega) (by omega)]; exact a4
  · rw [h3 _ (by omega) (by omega)]; exact (a5 i hi).1
  · rw [h3 _ (by omega) (by omega)]; exact (a5 i hi).2.1
  · rw [h3 _ (by omega) (by omega)]; exact (a5 i hi).2.2
  · rw [h11 _ (by omega)]; exact b1 c hc
  · rw [h11 _ (by omega)]; exact b2
  · rw [h11 _ (by omega)]; exact b3 p hp
  · rw [h11 _ (by omega)]; exact b4
  · rw [h11 _ (by omega)]; exact (b5 i hi).1
  · rw [h11 _ (by omega)]; exact (b5 i hi).2.1
  · rw [h11 _ (by omega)]; exact (b5 i hi).2.2
theorem mix_cg {T T' I : Tn} (h : ∀ a k, chg a k = false → T' a k = T a k) : mix T' I = mix T I := by
  funext a k
  unfold mix
  by_cases e : chg a k = true
  · rw [if_pos e, if_pos e]
  · rw [if_neg e, if_neg e]
    exact h a k (Bool.eq_false_iff.mpr e)
theorem InvI.kp {T T' : Tn} {M M' : Mem} (h : InvI T M) (k : Kp M M') (hT : ∀ a k, chg a k = false → T' a k = T a k) : InvI T' M' := by
  obtain ⟨k0, k1, c1, c2, c3, c4, c5, c6, c7⟩ := h
  have k' := k
  obtain ⟨⟨-, h1, h2⟩, h3, h4, -, -, h11, h12, -, -⟩ := k'
  refine ⟨k0, k1, c1, c2, by rw [h1]; exact c3, by rw [h12]; exact c4, by rw [h12]; exact c5, fun e => ?_, fun e => ?_⟩
  · obtain ⟨I, hI⟩ := c6 e
    have := hI.kp (Or.inl rfl) (by decide) k
    refine ⟨I, ?_, this.2⟩
    rw [mix_cg hT]
    exact this.1
  · obtain ⟨I, hI⟩ := c7 e
    have := hI.kp (Or.inr rfl) (by decide) k
    refine ⟨I, ?_, this.2⟩
    rw [mix_cg hT]
    exact this.1
theorem InvS.kp {M M' : Mem} (h : InvS M) (k : Kp M M') : InvS M' := by
  obtain ⟨⟨-, h1, h2⟩, h3, h4, -, ⟨h8, h9, h10⟩, -, -, -, h14⟩ := k
  refine ⟨fun j hj => ?_, by rw [h2, h10]; exact h.2⟩
  have e1 := h4 101 (by decide) (by decide)
  have e2 := h4 102 (by decide) (by decide)
  have e3 := h14 119 (by decide) (by decide)
  have e4 := h14 120 (by decide) (by decide)
  have e5 := h14 121 (by decide) (by decide)
  have e6 := h4 (97 + j) (by omega) (by omega)
  unfold She1
  rw [e1, e2, e3, e4, e5, e6]
  exact h.1 j hj
theorem InvT.kp {M M' : Mem} (h : InvT M) (k : Kp M M') : InvT M' := by
  obtain ⟨-, -, -, ⟨h5, h6, h7⟩, ⟨h8, h9, h10⟩, -, -, h13, -⟩ := k
  unfold InvT
  rw [h5, h7, h8, h13]
  exact h
theorem InvF.kp {M M' : Mem} (h : InvF M) (k : Kp M M') : InvF M' := by
  obtain ⟨-, -, -, ⟨h5, h6, h7⟩, ⟨h8, h9, h10⟩, -, -, h13, -⟩ := k
  unfold InvF
  rw [h6, h9]
  exact h
theorem Inv.to {T T' : Tn} {M M' : Mem} (hI : InvI T M) (hS : InvS M) (hT : InvT M) (hF : InvF M) (k : Kp M M') (ht : ∀ a k, chg a k = false → T' a k = T a k) (hA : InvA T' M') : Inv M' := ⟨T', hA, hI.kp k ht, hS.kp k, hT.kp k, hF.kp k⟩
theorem OnM.frc {T : Tn} {M M' : Mem} (h : OnM T M) {lo hi : Nat} (f : Fr lo hi M M') (h2 : hi ≤ 102) : OnM T M' := by
  have e : ∀ a, 102 < a → M' a = M a := fun a q => f a (by omega)
  unfold OnM
  rw [e 103 (by decide), e 104 (by decide), e 106 (by decide), e 107 (by decide)]
  exact h
theorem On.frm {T : Tn} {M M' : Mem} (h : On T M) (f : Frm M M') : On T M' := by
  have e : ∀ a, a < 103 → M' a = M a := fun a q => funext fun k => f a k (by omega) (fun e => by omega)
  unfold On
  rw [e 1 (by decide), e 2 (by decide), e 3 (by decide), e 4 (by decide), e 10 (by decide), e 14 (by decide)]
  refine ⟨h.1, h.2.1, h.2.2.1, h.2.2.2.1, fun a h1 h2 => ?_, h.2.2.2.2.2.1, fun a h1 h2 => ?_, h.2.2.2.2.2.2.2.1, fun a h1 h2 => ?_⟩
  · rw [e a (by omega)]; exact h.2.2.2.2.1 a h1 h2
  · rw [e a (by omega)]; exact h.2.2.2.2.2.2.1 a h1 h2
  · rw [e a (by omega)]; exact h.2.2.2.2.2.2.2.2 a h1 h2
theorem InvA.frc {T : Tn} {M M' : Mem} (h : InvA T M) {lo hi : Nat} (f : Fr lo hi M M') (h1 : 18 ≤ lo) (h2 : hi ≤ 102) : InvA T M' := ⟨h.1.fr f h1, h.2.1.frc f h2, h.2.2⟩
theorem InvA.frm {T : Tn} {M M' : Mem} (h : InvA T M) (f : Frm M M') : InvA T M' := ⟨h.1.frm f, h.2.1.fr f, h.2.2⟩
/-! what arguments may be -/
theorem hb_ck {α : Type} {v : Int32} {a : Option α} (h : v = nI 0 ∨ v = nI 1) : ck (isB v) a = a := by
  rcases h with h | h <;> subst h
  · exact e_ckB0
  · exact e_ckB1
theorem wi (x : Int32) {m : Nat} (hm : m < 2147483648) : (∃ k, k ≤ m ∧ x = nI k ∧ f_Hal_within x (nI 0) (nI m) = some (nI 1) ∧ f_Mod_in x.toInt64 0 (nI m).toInt64 = some (nI 1)) ∨ (f_Hal_within x (nI 0) (nI m) = some (nI 0) ∧ f_Mod_in x.toInt64 0 (nI m).toInt64 = some (nI 0) ∧ ¬ (0 ≤ x ∧ x ≤ nI m)) := by
  have e : f_Mod_in x.toInt64 0 (nI m).toInt64 = some (if 0 ≤ x ∧ x ≤ nI m then nI 1 else nI 0) := m_in0 x rfl rfl
  have e2 : f_Hal_within x (nI 0) (nI m) = some (if 0 ≤ x ∧ x ≤ nI m then nI 1 else nI 0) := w_in x 0 (nI m)
  by_cases h : 0 ≤ x ∧ x ≤ nI m
  · obtain ⟨k, hk, hx⟩ := nI_rng hm h.1 h.2
    exact Or.inl ⟨k, hk, hx, by rw [e2, if_pos h], by rw [e, if_pos h]⟩
  · exact Or.inr ⟨by rw [e2, if_neg h], by rw [e, if_neg h], h⟩
/-- below a count -/
theorem wi1 (x : Int32) {m : Nat} (hm : m < 2147483648) : (∃ k, k < m ∧ x = nI k ∧ f_Hal_within x (nI 0) (nI m - nI 1) = some (nI 1) ∧ f_Mod_in x.toInt64 0 (nI m - nI 1).toInt64 = some (nI 1)) ∨ (f_Hal_within x (nI 0) (nI m - nI 1) = some (nI 0) ∧ f_Mod_in x.toInt64 0 (nI m - nI 1).toInt64 = some (nI 0)) := by
  have e : f_Mod_in x.toInt64 0 (nI m - nI 1).toInt64 = some (if 0 ≤ x ∧ x ≤ nI m - 1 then nI 1 else nI 0) := m_in0 x rfl rfl
  have e2 : f_Hal_within x (nI 0) (nI m - nI 1) = some (if 0 ≤ x ∧ x ≤ nI m - 1 then nI 1 else nI 0) := w_in x 0 (nI m - 1)
  by_cases h : 0 ≤ x ∧ x ≤ nI m - 1
  · obtain ⟨k, hk, hx⟩ := nI_rng1 hm h.1 h.2
    exact Or.inl ⟨k, hk, hx, by rw [e2, if_pos h], by rw [e, if_pos h]⟩
  · exact Or.inr ⟨by rw [e2, if_neg h], by rw [e, if_neg h]⟩
theorem a_hour (x : Int32) : (∃ k, k < 12 ∧ x = nI k ∧ f_Hal_isHour x = some (nI 1) ∧ f_Mod_isHour x = some (nI 1)) ∨ (f_Hal_isHour x = some (nI 0) ∧ f_Mod_isHour x = some (nI 0)) := by
  have e11 : f_Mod_in x.toInt64 0 11 = f_Mod_in x.toInt64 0 (nI 11).toInt64 := rfl
  rcases wi x (m := 11) (by decide) with ⟨k, hk, hx, h1, h2⟩ | ⟨h1, h2, -⟩
  · refine Or.inl ⟨k, by omega, hx, ?_, ?_⟩
    · simp (disch := omega) only [e_bnd, e_bnd2, e_set, e_cpy, e_nmI, e_nmL, e_ckn, e_ckB0, e_ckB1, l0, l1, l2, l3, l4, l5, l6, l7, l8, l9, l10, l11, l12, l13, l14, l15, l16, l17, l18, l19, l20, l21, l22, l24, l25, l32, l39, l40, l41, l48, l50, l56, l57, l59, l60, l72, l79, l80, l81, l82, l88, l89, l97, l100, l122, l124, l125, l160, l255, l312, l320, l375, l1000, nI_ltI, nI_leI, nI_eq, nI_add, pk_mul, e_ix, e_neg, if_true, if_false, if_pos, if_neg, f_Hal_isHour, h1]
    · simp (disch := omega) only [e_bnd, e_bnd2, e_set, e_cpy, e_nmI, e_nmL, e_ckn, e_ckB0, e_ckB1, l0, l1, l2, l3, l4, l5, l6, l7, l8, l9, l10, l11, l12, l13, l14, l15, l16, l17, l18, l19, l20, l21, l22, l24, l25, l32, l39, l40, l41, l48, l50, l56, l57, l59, l60, l72, l79, l80, l81, l82, l88, l89, l97, l100, l122, l124, l125, l160, l255, l312, l320, l375, l1000, nI_ltI, nI_leI, nI_eq, nI_add, pk_mul, e_ix, e_neg, if_true, if_false, if_pos, if_neg, f_Mod_isHour, e11, h2]
  · refine Or.inr ⟨?_, ?_⟩
    · simp (disch := omega) only [e_bnd, e_bnd2, e_set, e_cpy, e_nmI, e_nmL, e_ckn, e_ckB0, e_ckB1, l0, l1, l2, l3, l4, l5, l6, l7, l8, l9, l10, l11, l12, l13, l14, l15, l16, l17, l18, l19, l20, l21, l22, l24, l25, l32, l39, l40, l41, l48, l50, l56, l57, l59, l60, l72, l79, l80, l81, l82, l88, l89, l97, l100, l122, l124, l125, l160, l255, l312, l320, l375, l1000, nI_ltI, nI_leI, nI_eq, nI_add, pk_mul, e_ix, e_neg, if_true, if_false, if_pos, if_neg, f_Hal_isHour, h1]
    · simp (disch := omega) only [e_bnd, e_bnd2, e_set, e_cpy, e_nmI, e_nmL, e_ckn, e_ckB0, e_ckB1, l0, l1, l2, l3, l4, l5, l6, l7, l8, l9, l10, l11, l12, l13, l14, l15, l16, l17, l18, l19, l20, l21, l22, l24, l25, l32, l39, l40, l41, l48, l50, l56, l57, l59, l60, l72, l79, l80, l81, l82, l88, l89, l97, l100, l122, l124, l125, l160, l255, l312, l320, l375, l1000, nI_ltI, nI_leI, nI_eq, nI_add, pk_mul, e_ix, e_neg, if_true, if_false, if_pos, if_neg, f_Mod_isHour, e11, h2]
theorem a_secret (x : Int32) : (∃ k, k < 8 ∧ x = nI k ∧ f_Hal_isSecret x = some (nI 1) ∧ f_Mod_isSecret x = some (nI 1)) ∨ (f_Hal_isSecret x = some (nI 0) ∧ f_Mod_isSecret x = some (nI 0)) := by
  have e7 : f_Mod_in x.toInt64 0 7 = f_Mod_in x.toInt64 0 (nI 7).toInt64 := rfl
  rcases wi x (m := 7) (by decide) with ⟨k, hk, hx, h1, h2⟩ | ⟨h1, h2, -⟩
  · refine Or.inl ⟨k, by omega, hx, ?_, ?_⟩
    · simp (disch := omega) only [e_bnd, e_bnd2, e_set, e_cpy, e_nmI, e_nmL, e_ckn, e_ckB0, e_ckB1, l0, l1, l2, l3, l4, l5, l6, l7, l8, l9, l10, l11, l12, l13, l14, l15, l16, l17, l18, l19, l20, l21, l22, l24, l25, l32, l39, l40, l41, l48, l50, l56, l57, l59, l60, l72, l79, l80, l81, l82, l88, l89, l97, l100, l122, l124, l125, l160, l255, l312, l320, l375, l1000, nI_ltI, nI_leI, nI_eq, nI_add, pk_mul, e_ix, e_neg, if_true, if_false, if_pos, if_neg, f_Hal_isSecret, h1]
    · simp (disch := omega) only [e_bnd, e_bnd2, e_set, e_cpy, e_nmI, e_nmL, e_ckn, e_ckB0, e_ckB1, l0, l1, l2, l3, l4, l5, l6, l7, l8, l9, l10, l11, l12, l13, l14, l15, l16, l17, l18, l19, l20, l21, l22, l24, l25, l32, l39, l40, l41, l48, l50, l56, l57, l59, l60, l72, l79, l80, l81, l82, l88, l89, l97, l100, l122, l124, l125, l160, l255, l312, l320, l375, l1000, nI_ltI, nI_leI, nI_eq, nI_add, pk_mul, e_ix, e_neg, if_true, if_false, if_pos, if_neg, f_Mod_isSecret, e7, h2]
  · refine Or.inr ⟨?_, ?_⟩
    · simp (disch := omega) only [e_bnd, e_bnd2, e_set, e_cpy, e_nmI, e_nmL, e_ckn, e_ckB0, e_ckB1, l0, l1, l2, l3, l4, l5, l6, l7, l8, l9, l10, l11, l12, l13, l14, l15, l16, l17, l18, l19, l20, l21, l22, l24, l25, l32, l39, l40, l41, l48, l50, l56, l57, l59, l60, l72, l79, l80, l81, l82, l88, l89, l97, l100, l122, l124, l125, l160, l255, l312, l320, l375, l1000, nI_ltI, nI_leI, nI_eq, nI_add, pk_mul, e_ix, e_neg, if_true, if_false, if_pos, if_neg, f_Hal_isSecret, h1]
    · simp (disch := omega) only [e_bnd, e_bnd2, e_set, e_cpy, e_nmI, e_nmL, e_ckn, e_ckB0, e_ckB1, l0, l1, l2, l3, l4, l5, l6, l7, l8, l9, l10, l11, l12, l13, l14, l15, l16, l17, l18, l19, l20, l21, l22, l24, l25, l32, l39, l40, l41, l48, l50, l56, l57, l59, l60, l72, l79, l80, l81, l82, l88, l89, l97, l100, l122, l124, l125, l160, l255, l312, l320, l375, l1000, nI_ltI, nI_leI, nI_eq, nI_add, pk_mul, e_ix, e_neg, if_true, if_false, if_pos, if_neg, f_Mod_isSecret, e7, h2]
theorem a_bench {T : Tn} (g : Good T) (x : Int32) : (∃ b, b < T 4 0 ∧ x = nI b ∧ (∀ M, On T M → f_Hal_isBench M x = some (nI 1)) ∧ ∀ M, OnM T M → f_Mod_isBench M x = some (nI 1)) ∨ ((∀ M, On T M → f_Hal_isBench M x = some (nI 0)) ∧ ∀ M, OnM T M → f_Mod_isBench M x = some (nI 0)) := by
  have h9 := g.n
  rcases wi1 x (m := T 4 0) (by omega) with ⟨k, hk, hx, h1, h2⟩ | ⟨h1, h2⟩
  · refine Or.inl ⟨k, hk, hx, fun M o => ?_, fun M o => ?_⟩
    · simp (disch := omega) only [e_bnd, e_bnd2, e_set, e_cpy, e_nmI, e_nmL, e_ckn, e_ckB0, e_ckB1, l0, l1, l2, l3, l4, l5, l6, l7, l8, l9, l10, l11, l12, l13, l14, l15, l16, l17, l18, l19, l20, l21, l22, l24, l25, l32, l39, l40, l41, l48, l50, l56, l57, l59, l60, l72, l79, l80, l81, l82, l88, l89, l97, l100, l122, l124, l125, l160, l255, l312, l320, l375, l1000, nI_ltI, nI_leI, nI_eq, nI_add, pk_mul, e_ix, e_neg, if_true, if_false, if_pos, if_neg, f_Hal_isBench, o.nb, h1]
    · simp (disch := omega) only [e_bnd, e_bnd2, e_set, e_cpy, e_nmI, e_nmL, e_ckn, e_ckB0, e_ckB1, l0, l1, l2, l3, l4, l5, l6, l7, l8, l9, l10, l11, l12, l13, l14, l15, l16, l17, l18, l19, l20, l21, l22, l24, l25, l32, l39, l40, l41, l48, l50, l56, l57, l59, l60, l72, l79, l80, l81, l82, l88, l89, l97, l100, l122, l124, l125, l160, l255, l312, l320, l375, l1000, nI_ltI, nI_leI, nI_eq, nI_add, pk_mul, e_ix, e_neg, if_true, if_false, if_pos, if_neg, f_Mod_isBench, o.nb, h2]
  · refine Or.inr ⟨fun M o => ?_, fun M o => ?_⟩
    · simp (disch := omega) only [e_bnd, e_bnd2, e_set, e_cpy, e_nmI, e_nmL, e_ckn, e_ckB0, e_ckB1, l0, l1, l2, l3, l4, l5, l6, l7, l8, l9, l10, l11, l12, l13, l14, l15, l16, l17, l18, l19, l20, l21, l22, l24, l25, l32, l39, l40, l41, l48, l50, l56, l57, l59, l60, l72, l79, l80, l81, l82, l88, l89, l97, l100, l122, l124, l125, l160, l255, l312, l320, l375, l1000, nI_ltI, nI_leI, nI_eq, nI_add, pk_mul, e_ix, e_neg, if_true, if_false, if_pos, if_neg, f_Hal_isBench, o.nb, h1]
    · simp (disch := omega) only [e_bnd, e_bnd2, e_set, e_cpy, e_nmI, e_nmL, e_ckn, e_ckB0, e_ckB1, l0, l1, l2, l3, l4, l5, l6, l7, l8, l9, l10, l11, l12, l13, l14, l15, l16, l17, l18, l19, l20, l21, l22, l24, l25, l32, l39, l40, l41, l48, l50, l56, l57, l59, l60, l72, l79, l80, l81, l82, l88, l89, l97, l100, l122, l124, l125, l160, l255, l312, l320, l375, l1000, nI_ltI, nI_leI, nI_eq, nI_add, pk_mul, e_ix, e_neg, if_true, if_false, if_pos, if_neg, f_Mod_isBench, o.nb, h2]
theorem a_one {T : Tn} (g : Good T) (x : Int32) : (∃ b, b < T 1 5 ∧ x = nI b ∧ (∀ M, On T M → f_Hal_isOne M x = some (nI 1)) ∧ ∀ M, OnM T M → f_Mod_isOne M x = some (nI 1)) ∨ ((∀ M, On T M → f_Hal_isOne M x = some (nI 0)) ∧ ∀ M, OnM T M → f_Mod_isOne M x = some (nI 0)) := by
  have h9 := g.n
  rcases wi1 x (m := T 1 5) (by omega) with ⟨k, hk, hx, h1, h2⟩ | ⟨h1, h2⟩
  · refine Or.inl ⟨k, hk, hx, fun M o => ?_, fun M o => ?_⟩
    · simp (disch := omega) only [e_bnd, e_bnd2, e_set, e_cpy, e_nmI, e_nmL, e_ckn, e_ckB0, e_ckB1, l0, l1, l2, l3, l4, l5, l6, l7, l8, l9, l10, l11, l12, l13, l14, l15, l16, l17, l18, l19, l20, l21, l22, l24, l25, l32, l39, l40, l41, l48, l50, l56, l57, l59, l60, l72, l79, l80, l81, l82, l88, l89, l97, l100, l122, l124, l125, l160, l255, l312, l320, l375, l1000, nI_ltI, nI_leI, nI_eq, nI_add, pk_mul, e_ix, e_neg, if_true, if_false, if_pos, if_neg, f_Hal_isOne, o.s5, h1]
    · simp (disch := omega) only [e_bnd, e_bnd2, e_set, e_cpy, e_nmI, e_nmL, e_ckn, e_ckB0, e_ckB1, l0, l1, l2, l3, l4, l5, l6, l7, l8, l9, l10, l11, l12, l13, l14, l15, l16, l17, l18, l19, l20, l21, l22, l24, l25, l32, l39, l40, l41, l48, l50, l56, l57, l59, l60, l72, l79, l80, l81, l82, l88, l89, l97, l100, l122, l124, l125, l160, l255, l312, l320, l375, l1000, nI_ltI, nI_leI, nI_eq, nI_add, pk_mul, e_ix, e_neg, if_true, if_false, if_pos, if_neg, f_Mod_isOne, o.s5, h2]
  · refine Or.inr ⟨fun M o => ?_, fun M o => ?_⟩
    · simp (disch := omega) only [e_bnd, e_bnd2, e_set, e_cpy, e_nmI, e_nmL, e_ckn, e_ckB0, e_ckB1, l0, l1, l2, l3, l4, l5, l6, l7, l8, l9, l10, l11, l12, l13, l14, l15, l16, l17, l18, l19, l20, l21, l22, l24, l25, l32, l39, l40, l41, l48, l50, l56, l57, l59, l60, l72, l79, l80, l81, l82, l88, l89, l97, l100, l122, l124, l125, l160, l255, l312, l320, l375, l1000, nI_ltI, nI_leI, nI_eq, nI_add, pk_mul, e_ix, e_neg, if_true, if_false, if_pos, if_neg, f_Hal_isOne, o.s5, h1]
    · simp (disch := omega) only [e_bnd, e_bnd2, e_set, e_cpy, e_nmI, e_nmL, e_ckn, e_ckB0, e_ckB1, l0, l1, l2, l3, l4, l5, l6, l7, l8, l9, l10, l11, l12, l13, l14, l15, l16, l17, l18, l19, l20, l21, l22, l24, l25, l32, l39, l40, l41, l48, l50, l56, l57, l59, l60, l72, l79, l80, l81, l82, l88, l89, l97, l100, l122, l124, l125, l160, l255, l312, l320, l375, l1000, nI_ltI, nI_leI, nI_eq, nI_add, pk_mul, e_ix, e_neg, if_true, if_false, if_pos, if_neg, f_Mod_isOne, o.s5, h2]
theorem a_say {T : Tn} (g : Good T) (x : Int32) : (∃ b, b < T 14 0 ∧ x = nI b ∧ (∀ M, On T M → f_Hal_isWhisper M x = some (nI 1)) ∧ ∀ M, OnM T M → f_Mod_isSay M x = some (nI 1)) ∨ ((∀ M, On T M → f_Hal_isWhisper M x = some (nI 0)) ∧ ∀ M, OnM T M → f_Mod_isSay M x = some (nI 0)) := by
  have h9 := g.ns
  rcases wi1 x (m := T 14 0) (by omega) with ⟨k, hk, hx, h1, h2⟩ | ⟨h1, h2⟩
  · refine Or.inl ⟨k, hk, hx, fun M o => ?_, fun M o => ?_⟩
    · simp (disch := omega) only [e_bnd, e_bnd2, e_set, e_cpy, e_nmI, e_nmL, e_ckn, e_ckB0, e_ckB1, l0, l1, l2, l3, l4, l5, l6, l7, l8, l9, l10, l11, l12, l13, l14, l15, l16, l17, l18, l19, l20, l21, l22, l24, l25, l32, l39, l40, l41, l48, l50, l56, l57, l59, l60, l72, l79, l80, l81, l82, l88, l89, l97, l100, l122, l124, l125, l160, l255, l312, l320, l375, l1000, nI_ltI, nI_leI, nI_eq, nI_add, pk_mul, e_ix, e_neg, if_true, if_false, if_pos, if_neg, f_Hal_isWhisper, o.ns, h1]
    · simp (disch := omega) only [e_bnd, e_bnd2, e_set, e_cpy, e_nmI, e_nmL, e_ckn, e_ckB0, e_ckB1, l0, l1, l2, l3, l4, l5, l6, l7, l8, l9, l10, l11, l12, l13, l14, l15, l16, l17, l18, l19, l20, l21, l22, l24, l25, l32, l39, l40, l41, l48, l50, l56, l57, l59, l60, l72, l79, l80, l81, l82, l88, l89, l97, l100, l122, l124, l125, l160, l255, l312, l320, l375, l1000, nI_ltI, nI_leI, nI_eq, nI_add, pk_mul, e_ix, e_neg, if_true, if_false, if_pos, if_neg, f_Mod_isSay, o.ns, h2]
  · refine Or.inr ⟨fun M o => ?_, fun M o => ?_⟩
    · simp (disch := omega) only [e_bnd, e_bnd2, e_set, e_cpy, e_nmI, e_nmL, e_ckn, e_ckB0, e_ckB1, l0, l1, l2, l3, l4, l5, l6, l7, l8, l9, l10, l11, l12, l13, l14, l15, l16, l17, l18, l19, l20, l21, l22, l24, l25, l32, l39, l40, l41, l48, l50, l56, l57, l59, l60, l72, l79, l80, l81, l82, l88, l89, l97, l100, l122, l124, l125, l160, l255, l312, l320, l375, l1000, nI_ltI, nI_leI, nI_eq, nI_add, pk_mul, e_ix, e_neg, if_true, if_false, if_pos, if_neg, f_Hal_isWhisper, o.ns, h1]
    · simp (disch := omega) only [e_bnd, e_bnd2, e_set, e_cpy, e_nmI, e_nmL, e_ckn, e_ckB0, e_ckB1, l0, l1, l2, l3, l4, l5, l6, l7, l8, l9, l10, l11, l12, l13, l14, l15, l16, l17, l18, l19, l20, l21, l22, l24, l25, l32, l39, l40, l41, l48, l50, l56, l57, l59, l60, l72, l79, l80, l81, l82, l88, l89, l97, l100, l122, l124, l125, l160, l255, l312, l320, l375, l1000, nI_ltI, nI_leI, nI_eq, nI_add, pk_mul, e_ix, e_neg, if_true, if_false, if_pos, if_neg, f_Mod_isSay, o.ns, h2]
theorem a_cell {T : Tn} (g : Good T) (x : Int32) : (∃ c, isC T c ∧ x = nI c ∧ (∀ M, On T M → f_Tol_isCell 1 M x = some (nI 1)) ∧ ∀ M, OnM T M → f_Mod_isCell M x = some (nI 1)) ∨ ((∀ M, On T M → f_Tol_isCell 1 M x = some (nI 0)) ∧ ∀ M, OnM T M → f_Mod_isCell M x = some (nI 0)) := by
  have e80 : f_Mod_in x.toInt64 0 80 = f_Mod_in x.toInt64 0 (nI 80).toInt64 := rfl
  rcases wi x (m := 80) (by decide) with ⟨k, hk, rfl, h1, h2⟩ | ⟨h1, h2, h3⟩
  · by_cases hc : k % 9 < T 1 0 ∧ k / 9 < T 1 1
    · refine Or.inl ⟨k, ⟨by omega, hc⟩, rfl, fun M o => ?_, fun M o => ?_⟩
      · rw [c_isCell o g (by omega), if_pos hc]
      · rw [m_isCell o g (by omega), if_pos hc]
    · refine Or.inr ⟨fun M o => ?_, fun M o => ?_⟩
      · rw [c_isCell o g (by omega), if_neg hc]
      · rw [m_isCell o g (by omega), if_neg hc]
  · refine Or.inr ⟨fun M o => ?_, fun M o => ?_⟩
    · unfold f_Tol_isCell
      by_cases q : x < 0
      · rw [if_pos q]; rfl
      · rw [if_neg q, if_pos]
        · rfl
        · have h4 : ¬ x ≤ nI 80 := fun e => h3 ⟨Int32.not_lt.mp q, e⟩
          obtain ⟨e1, e2⟩ := nI_self (Int32.not_lt.mp q)
          rw [e1, nI_leI (by omega) (by omega)] at h4
          rw [e1, l81, nI_leI (by omega) (by omega)]
          omega
    · simp (disch := omega) only [e_bnd, e_bnd2, e_set, e_cpy, e_nmI, e_nmL, e_ckn, e_ckB0, e_ckB1, l0, l1, l2, l3, l4, l5, l6, l7, l8, l9, l10, l11, l12, l13, l14, l15, l16, l17, l18, l19, l20, l21, l22, l24, l25, l32, l39, l40, l41, l48, l50, l56, l57, l59, l60, l72, l79, l80, l81, l82, l88, l89, l97, l100, l122, l124, l125, l160, l255, l312, l320, l375, l1000, nI_ltI, nI_leI, nI_eq, nI_add, pk_mul, e_ix, e_neg, if_true, if_false, if_pos, if_neg, f_Mod_isCell, e80, h2]
