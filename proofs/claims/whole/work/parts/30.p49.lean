/-! pure: a draft is kept, in both -/
def nT (D : Tn) : Tn := fun a k => if a = 1 ∧ k = 5 then pplN D else if a = 3 then k else D a k
theorem nT_5 {D : Tn} : nT D 1 5 = pplN D := if_pos ⟨rfl, rfl⟩
theorem nT_3 {D : Tn} {k : Nat} : nT D 3 k = k := by
  unfold nT
  rw [if_neg (by omega), if_pos rfl]
theorem nT_o {D : Tn} {a k : Nat} (h : a ≠ 3) (h1 : a = 1 → k ≠ 5) : nT D a k = D a k := by
  unfold nT
  rw [if_neg (fun e => h1 e.1 e.2), if_neg h]
theorem nT_G {D : Tn} (g : DG D) (x : DX D) (n6 : ¬ F6 D) : Good (nT D) := by
  have a4 : pplN D ≤ 6 := pplN_le g
  obtain ⟨⟨g1, g2, g3, g4, g5, -⟩, g6, ⟨g7, g7'⟩, ⟨g8, g8'⟩, ⟨g9, g9'⟩, -⟩ := g
  obtain ⟨⟨x1, -, x3, x4⟩, -, -, -⟩ := x
  have a0 : ¬ D 1 0 ≤ D 22 0 := fun e => n6 (Or.inl e)
  have a1 : ¬ D 1 1 ≤ D 23 0 := fun e => n6 (Or.inr (Or.inl e))
  have a2 : ¬ pplN D < D 24 0 := fun e => n6 (Or.inr (Or.inr (Or.inl e)))
  have a3 : ¬ D 4 0 < pplN D := fun e => n6 (Or.inr (Or.inr (Or.inr e)))
  have o : ∀ a, a ≠ 1 → a ≠ 3 → nT D a = D a := fun a h1 h3 => funext fun k => nT_o h3 (fun e => absurd e h1)
  unfold Good
  rw [nT_5, nT_o (show (1 : Nat) ≠ 3 by decide) (fun _ => show (0 : Nat) ≠ 5 by decide), nT_o (show (1 : Nat) ≠ 3 by decide) (fun _ => show (1 : Nat) ≠ 5 by decide), nT_o (show (1 : Nat) ≠ 3 by decide) (fun _ => show (2 : Nat) ≠ 5 by decide), nT_o (show (1 : Nat) ≠ 3 by decide) (fun _ => show (3 : Nat) ≠ 5 by decide), nT_o (show (1 : Nat) ≠ 3 by decide) (fun _ => show (4 : Nat) ≠ 5 by decide),
    o 2 (by decide) (by decide), o 4 (by decide) (by decide), o 5 (by decide) (by decide), o 6 (by decide) (by decide), o 7 (by decide) (by decide), o 8 (by decide) (by decide), o 9 (by decide) (by decide), o 10 (by decide) (by decide), o 11 (by decide) (by decide), o 12 (by decide) (by decide), o 13 (by decide) (by decide), o 14 (by decide) (by decide), o 15 (by decide) (by decide), o 16 (by decide) (by decide), o 17 (by decide) (by decide)]
  refine ⟨g1, g2, g3, g4, g5, ⟨a4, by omega, g7⟩, g6, fun p hp => ?_, fun p q _ _ h => ?_, fun i hi => ?_, ⟨g8, fun i hi => ?_⟩, ⟨g9, fun i hi => ?_⟩⟩
  · rw [nT_3]; omega
  · rw [nT_3, nT_3] at h; exact h
  · have h1 := g7' i hi
    have h2 := x1 i hi
    omega
  · have h1 := g8' i hi
    have h2 := x3 i hi
    omega
  · have h1 := g9' i hi
    have h2 := x4 i hi
    omega
/-! in the class -/
theorem ben_copy {M : Mem} : ∃ M', f_Ben_copyFrom 4 56 M = some M' ∧ (∀ a, a < 4 ∨ 9 < a → M' a = M a) ∧ M' 4 0 = M 56 0 ∧ ∀ i, i < 8 → M' 5 i = M 57 i ∧ M' 6 i = M 58 i ∧ M' 7 i = M 59 i ∧ M' 8 i = M 60 i ∧ M' 9 i = M 61 i := by
  unfold f_Ben_copyFrom
  simp only [e_cpy, e_set, e_bnd, show ix 0 = 0 from rfl, show ix 8 = 8 from rfl, Nat.reduceAdd]
  refine ⟨_, rfl, fun a h => ?_, ?_, fun i hi => ⟨?_, ?_, ?_, ?_, ?_⟩⟩
  · rw [y_ne (by omega), y_ne (by omega), y_ne (by omega), y_ne (by omega), y_ne (by omega), u_ne (by omega)]
  · rw [y_ne (by decide), y_ne (by decide), y_ne (by decide), y_ne (by decide), y_ne (by decide), u_eq]
  · rw [y_ne (by decide), y_ne (by decide), y_ne (by decide), y_ne (by decide), y_in hi, u_ne (by decide)]
  · rw [y_ne (by decide), y_ne (by decide), y_ne (by decide), y_in hi, y_ne (by decide), u_ne (by decide)]
  · rw [y_ne (by decide), y_ne (by decide), y_in hi, y_ne (by decide), y_ne (by decide), u_ne (by decide)]
  · rw [y_ne (by decide), y_in hi, y_ne (by decide), y_ne (by decide), y_ne (by decide), u_ne (by decide)]
  · rw [y_in hi, y_ne (by decide), y_ne (by decide), y_ne (by decide), y_ne (by decide), u_ne (by decide)]
theorem tri_copy {M : Mem} : ∃ M', f_Tri_copyFrom 10 62 M = some M' ∧ (∀ a, a < 10 ∨ 13 < a → M' a = M a) ∧ M' 10 0 = M 62 0 ∧ ∀ i, i < 12 → M' 11 i = M 63 i ∧ M' 12 i = M 64 i ∧ M' 13 i = M 65 i := by
  unfold f_Tri_copyFrom
  simp only [e_cpy, e_set, e_bnd, show ix 0 = 0 from rfl, show ix 12 = 12 from rfl, Nat.reduceAdd]
  refine ⟨_, rfl, fun a h => ?_, ?_, fun i hi => ⟨?_, ?_, ?_⟩⟩
  · rw [y_ne (by omega), y_ne (by omega), y_ne (by omega), u_ne (by omega)]
  · rw [y_ne (by decide), y_ne (by decide), y_ne (by decide), u_eq]
  · rw [y_ne (by decide), y_ne (by decide), y_in hi, u_ne (by decide)]
  · rw [y_ne (by decide), y_in hi, y_ne (by decide), u_ne (by decide)]
  · rw [y_in hi, y_ne (by decide), y_ne (by decide), u_ne (by decide)]
theorem c_all {D : Tn} {M : Mem} (d : DC D M) (g : DG D) (h5 : M 53 5 = nI (pplN D)) : ∃ M', f_Tol_copyAll 1 53 M = some M' ∧ (∀ a, a = 0 ∨ 17 < a → M' a = M a) ∧ On (nT D) M' := by
  obtain ⟨M0, h0⟩ : ∃ M0, M0 = upd2 (upd2 (upd2 (upd2 (upd2 M 1 0 (M 53 0)) 1 1 (M 53 1)) 1 2 (M 53 2)) 1 3 (M 53 3)) 1 5 (M 53 5) := ⟨_, rfl⟩
  obtain ⟨M1, a1, a2, a3, a4⟩ := ben_copy (M := M0)
  obtain ⟨M2, b1, b2, b3, b4⟩ := tri_copy (M := M1)
  obtain ⟨M3, c1, c2, c3, c4, c5, c6, c7, c8⟩ := c_copy (M := M2) (t := 1) (o := 53) (by decide)
  have e0 : ∀ a, a ≠ 1 → M0 a = M a := fun a h => by
    rw [h0, u_ne h, u_ne h, u_ne h, u_ne h, u_ne h]
  have e2 : ∀ a, a ≠ 1 → (a < 4 ∨ 13 < a) → M2 a = M a := fun a h h' => by
    rw [b2 a (by omega), a2 a (by omega), e0 a h]
  obtain ⟨⟨d1, d2, d3⟩, ⟨⟨d4, d4'⟩, ⟨d5, d5'⟩, d6, d6'⟩, -⟩ := d
  have n4 := g.2.2.1.1
  have n10 := g.2.2.2.1.1
  have n14 := g.2.2.2.2.1.1
  have o : ∀ a, a ≠ 1 → a ≠ 3 → nT D a = D a := fun a h1 h3 => funext fun k => nT_o h3 (fun e => absurd e h1)
  refine ⟨M3, ?_, fun a h => ?_, fun j hj => ?_, fun c hc => ?_, fun p hp => ?_, ?_, ?_⟩
  · unfold f_Tol_copyAll
    rw [e_set, u_ne (show (53 : Nat) ≠ 1 by decide), e_set, u_ne (show (53 : Nat) ≠ 1 by decide), u_ne (show (53 : Nat) ≠ 1 by decide), e_set, u_ne (show (53 : Nat) ≠ 1 by decide), u_ne (show (53 : Nat) ≠ 1 by decide), u_ne (show (53 : Nat) ≠ 1 by decide), e_set, u_ne (show (53 : Nat) ≠ 1 by decide), u_ne (show (53 : Nat) ≠ 1 by decide), u_ne (show (53 : Nat) ≠ 1 by decide), u_ne (show (53 : Nat) ≠ 1 by decide), e_set, ← h0]
    rw [show f_Ben_copyFrom (1 + 3) (53 + 3) M0 = some M1 from a1, e_bnd, show f_Tri_copyFrom (1 + 9) (53 + 9) M1 = some M2 from b1, e_bnd, c1, e_bnd]
  · rw [c2 a (by omega) (by omega) (by omega) (by omega) (by omega) (by omega) (by omega)]
    exact e2 a (by omega) (by omega)
  · have z : M2 1 = M0 1 := by rw [b2 1 (by decide), a2 1 (by decide)]
    rcases (show j = 0 ∨ j = 1 ∨ j = 2 ∨ j = 3 ∨ j = 4 ∨ j = 5 by omega) with rfl | rfl | rfl | rfl | rfl | rfl
    · rw [c5 0 (by decide), z, h0, u_nk (by decide), u_nk (by decide), u_nk (by decide), u_nk (by decide), u_eq, d1 0 (by decide), nT_o (by decide) (fun _ => by decide)]
    · rw [c5 1 (by decide), z, h0, u_nk (by decide), u_nk (by decide), u_nk (by decide), u_eq, d1 1 (by decide), nT_o (by decide) (fun _ => by decide)]
    · rw [c5 2 (by decide), z, h0, u_nk (by decide), u_nk (by decide), u_eq, d1 2 (by decide), nT_o (by decide) (fun _ => by decide)]
    · rw [c5 3 (by decide), z, h0, u_nk (by decide), u_eq, d1 3 (by decide), nT_o (by decide) (fun _ => by decide)]
    · rw [c4, e2 53 (by decide) (by decide), d1 4 (by decide), nT_o (by decide) (fun _ => by decide)]
    · rw [c5 5 (by decide), z, h0, u_eq, h5, nT_5]
  · rw [show M3 2 c = M2 54 c from c3 c hc, e2 54 (by decide) (by decide), d2 c hc, o 2 (by decide) (by decide)]
  · rw [show M3 3 p = M2 55 p from c6 p hp, e2 55 (by decide) (by decide), d3 p hp, nT_3]
  · rw [c2 4 (by decide) (by decide) (by decide) (by decide) (by decide) (by decide) (by decide), b2 4 (by decide), a3, e0 56 (by decide), d4, o 4 (by decide) (by decide)]
  · rw [o 4 (by decide) (by decide), o 10 (by decide) (by decide), o 14 (by decide) (by decide)]
    refine ⟨fun a h1 h2 i hi => ?_, ?_, fun a h1 h2 i hi => ?_, ?_, fun a h1 h2 i hi => ?_⟩
    · rw [c2 a (by omega) (by omega) (by omega) (by omega) (by omega) (by omega) (by omega), b2 a (by omega), o a (by omega) (by omega)]
      obtain ⟨f5, f6, f7, f8, f9⟩ := a4 i (by omega)
      rcases (show a = 5 ∨ a = 6 ∨ a = 7 ∨ a = 8 ∨ a = 9 by omega) with rfl | rfl | rfl | rfl | rfl
      · rw [f5, e0 57 (by decide)]; exact d4' 57 (by decide) (by decide) i hi
      · rw [f6, e0 58 (by decide)]; exact d4' 58 (by decide) (by decide) i hi
      · rw [f7, e0 59 (by decide)]; exact d4' 59 (by decide) (by decide) i hi
      · rw [f8, e0 60 (by decide)]; exact d4' 60 (by decide) (by decide) i hi
      · rw [f9, e0 61 (by decide)]; exact d4' 61 (by decide) (by decide) i hi
    · rw [c2 10 (by decide) (by decide) (by decide) (by decide) (by decide) (by decide) (by decide), b3, a2 62 (by decide), e0 62 (by decide)]
      exact d5
    · rw [c2 a (by omega) (by omega) (by omega) (by omega) (by omega) (by omega) (by omega), o a (by omega) (by omega)]
      obtain ⟨f5, f6, f7⟩ := b4 i (by omega)
      rcases (show a = 11 ∨ a = 12 ∨ a = 13 by omega) with rfl | rfl | rfl
      · rw [f5, a2 63 (by decide), e0 63 (by decide)]; exact d5' 63 (by decide) (by decide) i hi
      · rw [f6, a2 64 (by decide), e0 64 (by decide)]; exact d5' 64 (by decide) (by decide) i hi
      · rw [f7, a2 65 (by decide), e0 65 (by decide)]; exact d5' 65 (by decide) (by decide) i hi
    · rw [show M3 14 0 = M2 66 0 from c7, e2 66 (by decide) (by decide)]
      exact d6
    · obtain ⟨f5, f6, f7⟩ := c8 i (by omega)
      rw [o a (by omega) (by omega)]
      rcases (show a = 15 ∨ a = 16 ∨ a = 17 by omega) with rfl | rfl | rfl
      · rw [show M3 15 i = M2 67 i from f5, e2 67 (by decide) (by decide)]; exact d6' 67 (by decide) (by decide) i hi
      · rw [show M3 16 i = M2 68 i from f6, e2 68 (by decide) (by decide)]; exact d6' 68 (by decide) (by decide) i hi
      · rw [show M3 17 i = M2 69 i from f7, e2 69 (by decide) (by decide)]; exact d6' 69 (by decide) (by decide) i hi
