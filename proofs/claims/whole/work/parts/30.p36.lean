/-! pure: what holds of a draft -/
def DG (D : Tn) : Prop := ((3 ≤ D 1 0 ∧ D 1 0 ≤ 9) ∧ (3 ≤ D 1 1 ∧ D 1 1 ≤ 9) ∧ D 1 2 ≤ 20 ∧ D 1 3 ≤ 50 ∧ D 1 4 ≤ 9 ∧ D 21 0 ≤ 7) ∧ (∀ c, c < 81 → D 2 c ≤ 2) ∧ (D 4 0 ≤ 8 ∧ ∀ i, i < D 4 0 → D 5 i ≤ 8 ∧ D 6 i ≤ 8 ∧ D 7 i ≤ 7 ∧ 1 ≤ D 8 i ∧ D 8 i ≤ 100 ∧ D 9 i ≤ 4) ∧ (D 10 0 ≤ 8 ∧ ∀ i, i < D 10 0 → D 11 i ≤ 5 ∧ D 12 i ≤ 5 ∧ D 13 i ≤ 1) ∧ (D 14 0 ≤ 12 ∧ ∀ i, i < D 14 0 → D 15 i ≤ 11 ∧ D 16 i ≤ 5 ∧ D 17 i ≤ 7) ∧ DA D
/-- what is gathered is what the draft says -/
def A22 (D : Tn) : Prop := D 22 0 = 0 ∨ (∃ i, i < D 4 0 ∧ D 5 i = D 22 0) ∨ ∃ c, c < 81 ∧ D 2 c ≠ 0 ∧ c % 9 = D 22 0
def A23 (D : Tn) : Prop := D 23 0 = 0 ∨ (∃ i, i < D 4 0 ∧ D 6 i = D 23 0) ∨ ∃ c, c < 81 ∧ D 2 c ≠ 0 ∧ c / 9 = D 23 0
def A24 (D : Tn) : Prop := D 24 0 = 0 ∨ (∃ i, i < D 10 0 ∧ (D 11 i + 1 = D 24 0 ∨ D 12 i + 1 = D 24 0)) ∨ ∃ i, i < D 14 0 ∧ D 16 i + 1 = D 24 0
def DX (D : Tn) : Prop := ((∀ i, i < D 4 0 → D 5 i ≤ D 22 0 ∧ D 6 i ≤ D 23 0) ∧ (∀ c, c < 81 → D 2 c ≠ 0 → c % 9 ≤ D 22 0 ∧ c / 9 ≤ D 23 0) ∧ (∀ i, i < D 10 0 → D 11 i < D 24 0 ∧ D 12 i < D 24 0) ∧ ∀ i, i < D 14 0 → D 16 i < D 24 0) ∧ A22 D ∧ A23 D ∧ A24 D
section DGX
variable {D : Tn}
theorem DG.b (g : DG D) : DB D := ⟨g.2.2.1.1, g.2.2.2.1.1, g.2.2.2.2.1.1, fun i hi => (g.2.2.2.2.1.2 i hi).1, g.2.1⟩
theorem DG.a (g : DG D) : DA D := g.2.2.2.2.2
theorem DX.o (x : DX D) {a k v : Nat} (h : a = 1 ∨ a = 20 ∨ a = 21) : DX (tset D a k v) := by
  have e : ∀ r, r ≠ a → tset D a k v r = D r := fun r hr => funext fun j => ts_ne hr
  unfold DX A22 A23 A24
  rw [e 2 (by omega), e 4 (by omega), e 5 (by omega), e 6 (by omega), e 10 (by omega), e 11 (by omega), e 12 (by omega), e 14 (by omega), e 16 (by omega), e 22 (by omega), e 23 (by omega), e 24 (by omega)]
  exact x
theorem DG.o (g : DG D) {k v : Nat} : DG (tset D 20 k v) := by
  have e : ∀ r, r ≠ 20 → tset D 20 k v r = D r := fun r hr => funext fun j => ts_ne hr
  unfold DG DA
  rw [e 1 (by decide), e 2 (by decide), e 4 (by decide), e 5 (by decide), e 6 (by decide), e 7 (by decide), e 8 (by decide), e 9 (by decide), e 10 (by decide), e 11 (by decide), e 12 (by decide), e 13 (by decide), e 14 (by decide), e 15 (by decide), e 16 (by decide), e 17 (by decide), e 21 (by decide), e 22 (by decide), e 23 (by decide), e 24 (by decide)]
  exact g
theorem DG.p (g : DG D) {v : Nat} (hv : v ≤ 6) : DG (tset D 21 0 (v + 1)) := by
  have e : ∀ r, r ≠ 21 → tset D 21 0 (v + 1) r = D r := fun r hr => funext fun j => ts_ne hr
  unfold DG DA
  rw [e 1 (by decide), e 2 (by decide), e 4 (by decide), e 5 (by decide), e 6 (by decide), e 7 (by decide), e 8 (by decide), e 9 (by decide), e 10 (by decide), e 11 (by decide), e 12 (by decide), e 13 (by decide), e 14 (by decide), e 15 (by decide), e 16 (by decide), e 17 (by decide), e 22 (by decide), e 23 (by decide), e 24 (by decide), ts_eq]
  obtain ⟨⟨h1, h2, h3, h4, h5, h6⟩, h⟩ := g
  exact ⟨⟨h1, h2, h3, h4, h5, by omega⟩, h⟩
theorem DG.r (g : DG D) {k v : Nat} (hv : (k = 0 ∧ 3 ≤ v ∧ v ≤ 9) ∨ (k = 1 ∧ 3 ≤ v ∧ v ≤ 9) ∨ (k = 2 ∧ v ≤ 20) ∨ (k = 3 ∧ v ≤ 50) ∨ (k = 4 ∧ v ≤ 9)) : DG (tset D 1 k v) := by
  have e : ∀ r, r ≠ 1 → tset D 1 k v r = D r := fun r hr => funext fun j => ts_ne hr
  unfold DG DA
  rw [e 2 (by decide), e 4 (by decide), e 5 (by decide), e 6 (by decide), e 7 (by decide), e 8 (by decide), e 9 (by decide), e 10 (by decide), e 11 (by decide), e 12 (by decide), e 13 (by decide), e 14 (by decide), e 15 (by decide), e 16 (by decide), e 17 (by decide), e 21 (by decide), e 22 (by decide), e 23 (by decide), e 24 (by decide)]
  obtain ⟨⟨h1, h2, h3, h4, h5, h6⟩, h⟩ := g
  have t : ∀ j, tset D 1 k v 1 j = if j = k then v else D 1 j := fun j => by
    by_cases u : j = k
    · subst u; rw [ts_eq, if_pos rfl]
    · rw [ts_nk u, if_neg u]
  rw [t, t, t, t, t]
  refine ⟨⟨?_, ?_, ?_, ?_, ?_, h6⟩, h⟩ <;> (split <;> omega)
theorem D1_e {x y : Nat} : (∀ r, r ≠ 22 → r ≠ 23 → tset (tset D 22 0 x) 23 0 y r = D r) ∧ tset (tset D 22 0 x) 23 0 y 22 0 = x ∧ tset (tset D 22 0 x) 23 0 y 23 0 = y :=
  ⟨fun r h1 h2 => funext fun j => by rw [ts_ne h2, ts_ne h1], by rw [ts_ne (by decide), ts_eq], ts_eq⟩
theorem DG.ben (g : DG D) (hn : D 4 0 < 8) {x y f e k : Nat} (hx : x ≤ 8) (hy : y ≤ 8) (hf : f ≤ 7) (he : 1 ≤ e) (he2 : e ≤ 100) (hk : k ≤ 4) : DG (bP (tset (tset D 22 0 (max (D 22 0) x)) 23 0 (max (D 23 0) y)) x y f e k) := by
  obtain ⟨d1, d2, d3⟩ := D1_e (D := D) (x := max (D 22 0) x) (y := max (D 23 0) y)
  generalize tset (tset D 22 0 (max (D 22 0) x)) 23 0 (max (D 23 0) y) = E at d1 d2 d3
  have o : ∀ a i, a < 4 ∨ 9 < a → bP E x y f e k a i = E a i := fun a i h => bP_o h
  obtain ⟨g1, g2, ⟨g3, g3'⟩, ⟨g4, g4'⟩, ⟨g5, g5'⟩, g6, g7, g8⟩ := g
  unfold DG DA
  rw [bP_4, o 1 _ (by decide), o 1 _ (by decide), o 1 _ (by decide), o 1 _ (by decide), o 1 _ (by decide), o 21 _ (by decide), o 10 _ (by decide), o 14 _ (by decide), o 22 _ (by decide), o 23 _ (by decide), o 24 _ (by decide), d1 1 (by decide) (by decide), d1 21 (by decide) (by decide), d1 4 (by decide) (by decide), d1 10 (by decide) (by decide), d1 14 (by decide) (by decide), d1 24 (by decide) (by decide), d2, d3]
  refine ⟨g1, fun c hc => by rw [o 2 _ (by decide), d1 2 (by decide) (by decide)]; exact g2 c hc, ⟨by omega, fun i hi => ?_⟩, ⟨g4, fun i hi => by rw [o 11 _ (by decide), o 12 _ (by decide), o 13 _ (by decide), d1 11 (by decide) (by decide), d1 12 (by decide) (by decide), d1 13 (by decide) (by decide)]; exact g4' i hi⟩, ⟨g5, fun i hi => by rw [o 15 _ (by decide), o 16 _ (by decide), o 17 _ (by decide), d1 15 (by decide) (by decide), d1 16 (by decide) (by decide), d1 17 (by decide) (by decide)]; exact g5' i hi⟩, by omega, by omega, g8⟩
  have e4 : E 4 0 = D 4 0 := by rw [d1 4 (by decide) (by decide)]
  by_cases q : i = E 4 0
  · subst q
    rw [bP_n (by decide) (by decide), bP_n (by decide) (by decide), bP_n (by decide) (by decide), bP_n (by decide) (by decide), bP_n (by decide) (by decide)]
    exact ⟨hx, hy, hf, he, he2, hk⟩
  · rw [bP_i (by decide) q, bP_i (by decide) q, bP_i (by decide) q, bP_i (by decide) q, bP_i (by decide) q, d1 5 (by decide) (by decide), d1 6 (by decide) (by decide), d1 7 (by decide) (by decide), d1 8 (by decide) (by decide), d1 9 (by decide) (by decide)]
    exact g3' i (by omega)
theorem DX.ben (g : DX D) {x y f e k : Nat} : DX (bP (tset (tset D 22 0 (max (D 22 0) x)) 23 0 (max (D 23 0) y)) x y f e k) := by
  obtain ⟨d1, d2, d3⟩ := D1_e (D := D) (x := max (D 22 0) x) (y := max (D 23 0) y)
  generalize tset (tset D 22 0 (max (D 22 0) x)) 23 0 (max (D 23 0) y) = E at d1 d2 d3
  have o : ∀ a, a < 4 ∨ 9 < a → bP E x y f e k a = E a := fun a h => funext fun i => bP_o h
  have e4 : E 4 0 = D 4 0 := by rw [d1 4 (by decide) (by decide)]
  obtain ⟨⟨g1, g2, g3, g4⟩, g5, g6, g7⟩ := g
  have n5 : bP E x y f e k 5 (D 4 0) = x := by rw [← e4, bP_n (by decide) (by decide)]; rfl
  have n6 : bP E x y f e k 6 (D 4 0) = y := by rw [← e4, bP_n (by decide) (by decide)]; rfl
  have m5 : ∀ i, i < D 4 0 → bP E x y f e k 5 i = D 5 i := fun i hi => by rw [bP_i (by decide) (by omega), d1 5 (by decide) (by decide)]
  have m6 : ∀ i, i < D 4 0 → bP E x y f e k 6 i = D 6 i := fun i hi => by rw [bP_i (by decide) (by omega), d1 6 (by decide) (by decide)]
  unfold DX A22 A23 A24
  rw [bP_4, o 2 (by decide), o 10 (by decide), o 11 (by decide), o 12 (by decide), o 14 (by decide), o 16 (by decide), o 22 (by decide), o 23 (by decide), o 24 (by decide), d1 2 (by decide) (by decide), e4, d1 10 (by decide) (by decide), d1 11 (by decide) (by decide), d1 12 (by decide) (by decide), d1 14 (by decide) (by decide), d1 16 (by decide) (by decide), d1 24 (by decide) (by decide), d2, d3]
  refine ⟨⟨fun i hi => ?_, fun c hc h => ?_, g3, g4⟩, ?_, ?_, g7⟩
  · by_cases q : i = D 4 0
    · subst q; rw [n5, n6]; omega
    · have := g1 i (by omega)
      rw [m5 i (by omega), m6 i (by omega)]; omega
  · have := g2 c hc h
    omega
  · by_cases q : D 22 0 ≤ x
    · exact Or.inr (Or.inl ⟨D 4 0, by omega, by rw [n5]; omega⟩)
    · rcases g5 with h | ⟨i, i1, i2⟩ | ⟨c, c1, c2, c3⟩
      · omega
      · exact Or.inr (Or.inl ⟨i, by omega, by rw [m5 i i1]; omega⟩)
      · exact Or.inr (Or.inr ⟨c, c1, c2, by omega⟩)
  · by_cases q : D 23 0 ≤ y
    · exact Or.inr (Or.inl ⟨D 4 0, by omega, by rw [n6]; omega⟩)
    · rcases g6 with h | ⟨i, i1, i2⟩ | ⟨c, c1, c2, c3⟩
      · omega
      · exact Or.inr (Or.inl ⟨i, by omega, by rw [m6 i i1]; omega⟩)
      · exact Or.inr (Or.inr ⟨c, c1, c2, by omega⟩)
theorem DG.cell (g : DG D) {x y s : Nat} (hx : x ≤ 8) (hy : y ≤ 8) (hs : s ≤ 2) : DG (tset (tset (tset D 22 0 (max (D 22 0) x)) 23 0 (max (D 23 0) y)) 2 (9 * y + x) s) := by
  obtain ⟨d1, d2, d3⟩ := D1_e (D := D) (x := max (D 22 0) x) (y := max (D 23 0) y)
  generalize tset (tset D 22 0 (max (D 22 0) x)) 23 0 (max (D 23 0) y) = E at d1 d2 d3
  have e : ∀ r, r ≠ 2 → tset E 2 (9 * y + x) s r = E r := fun r hr => funext fun j => ts_ne hr
  obtain ⟨g1, g2, g3, g4, g5, g6, g7, g8⟩ := g
  unfold DG DA
  rw [e 1 (by decide), e 4 (by decide), e 5 (by decide), e 6 (by decide), e 7 (by decide), e 8 (by decide), e 9 (by decide), e 10 (by decide), e 11 (by decide), e 12 (by decide), e 13 (by decide), e 14 (by decide), e 15 (by decide), e 16 (by decide), e 17 (by decide), e 21 (by decide), e 22 (by decide), e 23 (by decide), e 24 (by decide), d1 1 (by decide) (by decide), d1 4 (by decide) (by decide), d1 5 (by decide) (by decide), d1 6 (by decide) (by decide), d1 7 (by decide) (by decide), d1 8 (by decide) (by decide), d1 9 (by decide) (by decide), d1 10 (by decide) (by decide), d1 11 (by decide) (by decide), d1 12 (by decide) (by decide), d1 13 (by decide) (by decide), d1 14 (by decide) (by decide), d1 15 (by decide) (by decide), d1 16 (by decide) (by decide), d1 17 (by decide) (by decide), d1 21 (by decide) (by decide), d1 24 (by decide) (by decide), d2, d3]
  refine ⟨g1, fun c hc => ?_, g3, g4, g5, by omega, by omega, g8⟩
  by_cases q : c = 9 * y + x
  · subst q; rw [ts_eq]; exact hs
  · rw [ts_nk q, d1 2 (by decide) (by decide)]; exact g2 c hc
theorem DX.cell (g : DX D) {x y s : Nat} (hx : x ≤ 8) (hy : y ≤ 8) (hs : 1 ≤ s) : DX (tset (tset (tset D 22 0 (max (D 22 0) x)) 23 0 (max (D 23 0) y)) 2 (9 * y + x) s) := by
  obtain ⟨d1, d2, d3⟩ := D1_e (D := D) (x := max (D 22 0) x) (y := max (D 23 0) y)
  generalize tset (tset D 22 0 (max (D 22 0) x)) 23 0 (max (D 23 0) y) = E at d1 d2 d3
  have e : ∀ r, r ≠ 2 → tset E 2 (9 * y + x) s r = E r := fun r hr => funext fun j => ts_ne hr
  obtain ⟨⟨g1, g2, g3, g4⟩, g5, g6, g7⟩ := g
  have t : ∀ c, c ≠ 9 * y + x → tset E 2 (9 * y + x) s 2 c = D 2 c := fun c q => by rw [ts_nk q, d1 2 (by decide) (by decide)]
  have t0 : tset E 2 (9 * y + x) s 2 (9 * y + x) = s := ts_eq
  have hm : (9 * y + x) % 9 = x ∧ (9 * y + x) / 9 = y := by omega
  unfold DX A22 A23 A24
  rw [e 4 (by decide), e 5 (by decide), e 6 (by decide), e 10 (by decide), e 11 (by decide), e 12 (by decide), e 14 (by decide), e 16 (by decide), e 22 (by decide), e 23 (by decide), e 24 (by decide), d1 4 (by decide) (by decide), d1 5 (by decide) (by decide), d1 6 (by decide) (by decide), d1 10 (by decide) (by decide), d1 11 (by decide) (by decide), d1 12 (by decide) (by decide), d1 14 (by decide) (by decide), d1 16 (by decide) (by decide), d1 24 (by decide) (by decide), d2, d3]
  refine ⟨⟨fun i hi => ?_, fun c hc h => ?_, g3, g4⟩, ?_, ?_, g7⟩
  · have := g1 i hi
    omega
  · by_cases q : c = 9 * y + x
    · subst q; omega
    · rw [t c q] at h
      have := g2 c hc h
      omega
  · by_cases q : D 22 0 ≤ x
    · exact Or.inr (Or.inr ⟨9 * y + x, by omega, by rw [t0]; omega, by omega⟩)
    · rcases g5 with h | ⟨i, i1, i2⟩ | ⟨c, c1, c2, c3⟩
      · omega
      · exact Or.inr (Or.inl ⟨i, i1, by omega⟩)
      · exact Or.inr (Or.inr ⟨c, c1, by
          rw [t c (fun u => by subst u; omega)]; exact c2, by omega⟩)
  · by_cases q : D 23 0 ≤ y
    · exact Or.inr (Or.inr ⟨9 * y + x, by omega, by rw [t0]; omega, by omega⟩)
    · rcases g6 with h | ⟨i, i1, i2⟩ | ⟨c, c1, c2, c3⟩
      · omega
      · exact Or.inr (Or.inl ⟨i, i1, by omega⟩)
      · exact Or.inr (Or.inr ⟨c, c1, by
          rw [t c (fun u => by subst u; omega)]; exact c2, by omega⟩)
theorem DG.want (g : DG D) (hn : D 10 0 < 8) {u v w m : Nat} (hu : u ≤ 5) (hv : v ≤ 5) (hw : w ≤ 1) (hm : m = max (max (D 24 0) (u + 1)) (v + 1)) {E : Tn} (hE : (∀ r, r ≠ 24 → E r = D r) ∧ E 24 0 = m) : DG (tP E 10 u v w) := by
  obtain ⟨d1, d2⟩ := hE
  have o : ∀ a, a < 10 ∨ 13 < a → tP E 10 u v w a = E a := fun a h => funext fun i => tP_o h
  have e4 : E 10 0 = D 10 0 := by rw [d1 10 (by decide)]
  obtain ⟨g1, g2, g3, ⟨g4, g4'⟩, g5, g6, g7, g8⟩ := g
  unfold DG DA
  rw [tP_t, o 1 (by decide), o 2 (by decide), o 4 (by decide), o 5 (by decide), o 6 (by decide), o 7 (by decide), o 8 (by decide), o 9 (by decide), o 14 (by decide), o 15 (by decide), o 16 (by decide), o 17 (by decide), o 21 (by decide), o 22 (by decide), o 23 (by decide), o 24 (by decide), d1 1 (by decide), d1 2 (by decide), d1 4 (by decide), d1 5 (by decide), d1 6 (by decide), d1 7 (by decide), d1 8 (by decide), d1 9 (by decide), e4, d1 14 (by decide), d1 15 (by decide), d1 16 (by decide), d1 17 (by decide), d1 21 (by decide), d1 22 (by decide), d1 23 (by decide), d2]
  refine ⟨g1, g2, g3, ⟨by omega, fun i hi => ?_⟩, g5, g6, g7, by omega⟩
  by_cases q : i = E 10 0
  · subst q
    rw [show tP E 10 u v w 11 (E 10 0) = u from tP_1, show tP E 10 u v w 12 (E 10 0) = v from tP_2, show tP E 10 u v w 13 (E 10 0) = w from tP_3]
    exact ⟨hu, hv, hw⟩
  · rw [tP_i (by decide) q, tP_i (by decide) q, tP_i (by decide) q, d1 11 (by decide), d1 12 (by decide), d1 13 (by decide)]
    exact g4' i (by omega)
theorem DX.want (g : DX D) {u v w m : Nat} (hm : m = max (max (D 24 0) (u + 1)) (v + 1)) {E : Tn} (hE : (∀ r, r ≠ 24 → E r = D r) ∧ E 24 0 = m) : DX (tP E 10 u v w) := by
  obtain ⟨d1, d2⟩ := hE
  have o : ∀ a, a < 10 ∨ 13 < a → tP E 10 u v w a = E a := fun a h => funext fun i => tP_o h
  have e4 : E 10 0 = D 10 0 := by rw [d1 10 (by decide)]
  obtain ⟨⟨g1, g2, g3, g4⟩, g5, g6, g7⟩ := g
  have n1 : tP E 10 u v w 11 (D 10 0) = u := by rw [← e4]; exact tP_1
  have n2 : tP E 10 u v w 12 (D 10 0) = v := by rw [← e4]; exact tP_2
  have m1 : ∀ i, i < D 10 0 → tP E 10 u v w 11 i = D 11 i ∧ tP E 10 u v w 12 i = D 12 i := fun i hi => by
    rw [tP_i (by decide) (by omega), tP_i (by decide) (by omega), d1 11 (by decide), d1 12 (by decide)]
    exact ⟨rfl, rfl⟩
  unfold DX A22 A23 A24
  rw [tP_t, o 2 (by decide), o 4 (by decide), o 5 (by decide), o 6 (by decide), o 14 (by decide), o 16 (by decide), o 22 (by decide), o 23 (by decide), o 24 (by decide), d1 2 (by decide), d1 4 (by decide), d1 5 (by decide), d1 6 (by decide), e4, d1 14 (by decide), d1 16 (by decide), d1 22 (by decide), d1 23 (by decide), d2]
  refine ⟨⟨g1, g2, fun i hi => ?_, fun i hi => ?_⟩, g5, g6, ?_⟩
  · by_cases q : i = D 10 0
    · subst q; rw [n1, n2]; omega
    · have := g3 i (by omega)
      obtain ⟨h1, h2⟩ := m1 i (by omega)
      rw [h1, h2]; omega
  · have := g4 i hi
    omega
  · by_cases q : D 24 0 < m
    · exact Or.inr (Or.inl ⟨D 10 0, by omega, by rw [n1, n2]; omega⟩)
    · rcases g7 with h | ⟨i, i1, i2⟩ | ⟨i, i1, i2⟩
      · omega
      · obtain ⟨h1, h2⟩ := m1 i i1
        exact Or.inr (Or.inl ⟨i, by omega, by rw [h1, h2]; omega⟩)
      · exact Or.inr (Or.inr ⟨i, i1, by omega⟩)
theorem DG.wsp (g : DG D) (hn : D 14 0 < 12) {u v w m : Nat} (hu : u ≤ 11) (hv : v ≤ 5) (hw : w ≤ 7) (hm : m = max (D 24 0) (v + 1)) {E : Tn} (hE : (∀ r, r ≠ 24 → E r = D r) ∧ E 24 0 = m) : DG (tP E 14 u v w) := by
  obtain ⟨d1, d2⟩ := hE
  have o : ∀ a, a < 14 ∨ 17 < a → tP E 14 u v w a = E a := fun a h => funext fun i => tP_o h
  have e4 : E 14 0 = D 14 0 := by rw [d1 14 (by decide)]
  obtain ⟨g1, g2, g3, g4, ⟨g5, g5'⟩, g6, g7, g8⟩ := g
  unfold DG DA
  rw [tP_t, o 1 (by decide), o 2 (by decide), o 4 (by decide), o 5 (by decide), o 6 (by decide), o 7 (by decide), o 8 (by decide), o 9 (by decide), o 10 (by decide), o 11 (by decide), o 12 (by decide), o 13 (by decide), o 21 (by decide), o 22 (by decide), o 23 (by decide), o 24 (by decide), d1 1 (by decide), d1 2 (by decide), d1 4 (by decide), d1 5 (by decide), d1 6 (by decide), d1 7 (by decide), d1 8 (by decide), d1 9 (by decide), e4, d1 10 (by decide), d1 11 (by decide), d1 12 (by decide), d1 13 (by decide), d1 21 (by decide), d1 22 (by decide), d1 23 (by decide), d2]
  refine ⟨g1, g2, g3, g4, ⟨by omega, fun i hi => ?_⟩, g6, g7, by omega⟩
  by_cases q : i = E 14 0
  · subst q
    rw [show tP E 14 u v w 15 (E 14 0) = u from tP_1, show tP E 14 u v w 16 (E 14 0) = v from tP_2, show tP E 14 u v w 17 (E 14 0) = w from tP_3]
    exact ⟨hu, hv, hw⟩
  · rw [tP_i (by decide) q, tP_i (by decide) q, tP_i (by decide) q, d1 15 (by decide), d1 16 (by decide), d1 17 (by decide)]
    exact g5' i (by omega)
theorem DX.wsp (g : DX D) {u v w m : Nat} (hm : m = max (D 24 0) (v + 1)) {E : Tn} (hE : (∀ r, r ≠ 24 → E r = D r) ∧ E 24 0 = m) : DX (tP E 14 u v w) := by
  obtain ⟨d1, d2⟩ := hE
  have o : ∀ a, a < 14 ∨ 17 < a → tP E 14 u v w a = E a := fun a h => funext fun i => tP_o h
  have e4 : E 14 0 = D 14 0 := by rw [d1 14 (by decide)]
  obtain ⟨⟨g1, g2, g3, g4⟩, g5, g6, g7⟩ := g
  have n2 : tP E 14 u v w 16 (D 14 0) = v := by rw [← e4]; exact tP_2
  have m1 : ∀ i, i < D 14 0 → tP E 14 u v w 16 i = D 16 i := fun i hi => by
    rw [tP_i (by decide) (by omega), d1 16 (by decide)]
  unfold DX A22 A23 A24
  rw [tP_t, o 2 (by decide), o 4 (by decide), o 5 (by decide), o 6 (by decide), o 10 (by decide), o 11 (by decide), o 12 (by decide), o 22 (by decide), o 23 (by decide), o 24 (by decide), d1 2 (by decide), d1 4 (by decide), d1 5 (by decide), d1 6 (by decide), e4, d1 10 (by decide), d1 11 (by decide), d1 12 (by decide), d1 22 (by decide), d1 23 (by decide), d2]
  refine ⟨⟨g1, g2, fun i hi => ?_, fun i hi => ?_⟩, g5, g6, ?_⟩
  · have := g3 i hi
    omega
  · by_cases q : i = D 14 0
    · subst q; rw [n2]; omega
    · have := g4 i (by omega)
      rw [m1 i (by omega)]; omega
  · by_cases q : D 24 0 < m
    · exact Or.inr (Or.inr ⟨D 14 0, by omega, by rw [n2]; omega⟩)
    · rcases g7 with h | ⟨i, i1, i2⟩ | ⟨i, i1, i2⟩
      · omega
      · exact Or.inr (Or.inl ⟨i, i1, by omega⟩)
      · exact Or.inr (Or.inr ⟨i, by omega, by rw [m1 i i1]; omega⟩)
end DGX
/-- the next word's place -/
def Ps (p : Nat) (w : Tz) : Prop := w.1 = 0 → p ≤ w.2.2.2.2.2
def P3 (p : Nat) (w : Tz) : Prop := w.1 = 0 → w.2.2.1 = 3 → p + 1 ≤ w.2.2.2.2.2
section PS
variable {b : Nat → Nat} {L p : Nat} {v : Tz}
theorem ps_nx (h : Ps p v) : Ps p (nx b L v) := fun e => by
  have := h (nx_l e)
  have := nx_pos e
  omega
theorem ps_n3 (h : Ps p v) : P3 p (nx b L v) := fun e t => by
  have := h (nx_l e)
  have h2 := nx_pos e
  have := h2.2.2.1 t
  omega
theorem ps_ck {lo hi : Nat} (h : Ps p v) : Ps p (ckN lo hi v) := fun e => by
  have := ckN_l e
  rw [this.1]
  exact h this.2.1
theorem ps_fl {f : Nat} (hf : f ≠ 0) : Ps p (flt f v) := fun e => absurd e (flt_ne hf)
theorem p3_s (h : P3 p v) : Ps (p + 1) (ckS v) := fun e => by
  have := ckS_l e
  rw [this.1]
  exact h this.2.1 this.2.2
theorem ps_kd (h : Ps p v) : P3 p (kdZ b L (nx b L v)) := by
  unfold kdZ
  split
  · split
    · exact ps_n3 (ps_nx h)
    · exact fun e => absurd e (flt_ne (by decide))
  · exact ps_n3 h
end PS
