/-! pure: images -/
theorem y_ne {M : Mem} {a sp d dp n a' : Nat} (h : a' ≠ d) : cpy2 M a sp d dp n a' = M a' := by
  funext j; exact if_neg (fun q => h q.1)
theorem y_in {M : Mem} {a d n j : Nat} (h : j < n) : cpy2 M a 0 d 0 n d j = M a j := by
  show (if _ then _ else _) = _
  rw [if_pos ⟨rfl, Nat.zero_le _, by omega⟩, Nat.zero_add, Nat.sub_zero]
/-- what copyChanging does -/
def CpF (t o : Nat) (M M' : Mem) : Prop := (∀ a, a ≠ t → a ≠ t + 1 → a ≠ t + 2 → a ≠ t + 13 → a ≠ t + 14 → a ≠ t + 15 → a ≠ t + 16 → M' a = M a) ∧ (∀ c, c < 81 → M' (t + 1) c = M (o + 1) c) ∧ M' t 4 = M o 4 ∧ (∀ j, j ≠ 4 → M' t j = M t j) ∧ (∀ p, p < 6 → M' (t + 2) p = M (o + 2) p) ∧ M' (t + 13) 0 = M (o + 13) 0 ∧ (∀ i, i < 12 → M' (t + 14) i = M (o + 14) i ∧ M' (t + 15) i = M (o + 15) i ∧ M' (t + 16) i = M (o + 16) i)
theorem c_copy {M : Mem} {t o : Nat} (h : t + 16 < o ∨ o + 16 < t) : ∃ M', f_Tol_copyChanging t o M = some M' ∧ CpF t o M M' := by
  unfold f_Tol_copyChanging f_Tri_copyFrom
  simp only [e_cpy, e_set, e_bnd, show ix 0 = 0 from rfl, show ix 81 = 81 from rfl, show ix 6 = 6 from rfl, show ix 12 = 12 from rfl, Nat.add_assoc, Nat.reduceAdd]
  refine ⟨_, rfl, ?_, ?_, ?_, ?_, ?_, ?_, ?_⟩
  · intro a h1 h2 h3 h4 h5 h6 h7
    rw [y_ne h7, y_ne h6, y_ne h5, u_ne h4, y_ne h3, u_ne h1, y_ne h2]
  · intro c hc
    rw [y_ne (by omega), y_ne (by omega), y_ne (by omega), u_ne (by omega), y_ne (by omega), u_ne (by omega), y_in hc]
  · rw [y_ne (by omega), y_ne (by omega), y_ne (by omega), u_ne (by omega), y_ne (by omega), u_eq, y_ne (by omega)]
  · intro j hj
    rw [y_ne (by omega), y_ne (by omega), y_ne (by omega), u_ne (by omega), y_ne (by omega), u_nk hj, y_ne (by omega)]
  · intro p hp
    rw [y_ne (by omega), y_ne (by omega), y_ne (by omega), u_ne (by omega), y_in hp, u_ne (by omega), y_ne (by omega)]
  · rw [y_ne (by omega), y_ne (by omega), y_ne (by omega), u_eq, y_ne (by omega), u_ne (by omega), y_ne (by omega)]
  · intro i hi
    refine ⟨?_, ?_, ?_⟩
    · rw [y_ne (by omega), y_ne (by omega), y_in hi, u_ne (by omega), y_ne (by omega), u_ne (by omega), y_ne (by omega)]
    · rw [y_ne (by omega), y_in hi, y_ne (by omega), u_ne (by omega), y_ne (by omega), u_ne (by omega), y_ne (by omega)]
    · rw [y_in hi, y_ne (by omega), y_ne (by omega), u_ne (by omega), y_ne (by omega), u_ne (by omega), y_ne (by omega)]
theorem m_copyL {to of : Nat} (h1 : to + 125 ≤ 375) (h2 : of + 125 ≤ 375) (hd : to + 125 ≤ of ∨ of + 125 ≤ to) {M0 : Mem} : ∀ (m n k : Nat) (M : Mem), (∀ a j, (a ≠ 104 ∨ j < to ∨ to + 125 ≤ j) → M a j = M0 a j) → (∀ j, j < k → M 104 (to + j) = M0 104 (of + j)) → k + m = 125 → m < n → ∃ M', f_Mod_copies_L2 n (nI to) (nI of) (nI k) M = some M' ∧ (∀ a j, (a ≠ 104 ∨ j < to ∨ to + 125 ≤ j) → M' a j = M0 a j) ∧ (∀ j, j < 125 → M' 104 (to + j) = M0 104 (of + j)) := by
  intro m
  induction m with
  | zero =>
    intro n k M hM hE hk hn
    obtain ⟨n, rfl⟩ : ∃ z, n = z + 1 := ⟨n - 1, by omega⟩
    have e : k = 125 := by omega
    subst e
    exact ⟨M, by rw [f_Mod_copies_L2, if_pos (by decide)], hM, hE⟩
  | succ m ih =>
    intro n k M hM hE hk hn
    obtain ⟨n, rfl⟩ : ∃ z, n = z + 1 := ⟨n - 1, by omega⟩
    have e0 : M 104 (of + k) = M0 104 (of + k) := hM _ _ (by omega)
    obtain ⟨M', r1, r2, r3⟩ := ih n (k + 1) (upd2 M 104 (to + k) (M0 104 (of + k))) (fun a j ha => by
      by_cases e : a = 104
      · subst e; rw [u_nk (by omega)]; exact hM _ _ ha
      · rw [u_ne e]; exact hM _ _ ha) (fun j hj => by
      by_cases e : j = k
      · subst e; exact u_eq
      · rw [u_nk (by omega)]; exact hE j (by omega)) (by omega) (by omega)
    refine ⟨M', ?_, r2, r3⟩
    rw [f_Mod_copies_L2, if_neg (by rw [l125, nI_leI (by omega) (by omega)]; omega), nI_add, nI_add, e_ckn (by omega) (by decide), e_ckn (by omega) (by decide), e_set, show ix (nI (of + k)) = of + k from e_ix (by omega), show ix (nI (to + k)) = to + k from e_ix (by omega), e0, nI_1]
    exact r1
theorem m_copy {M : Mem} {to of : Nat} (h1 : to + 125 ≤ 375) (h2 : of + 125 ≤ 375) (hd : to + 125 ≤ of ∨ of + 125 ≤ to) : ∃ M', f_Mod_copies (nI to) (nI of) M = some M' ∧ (∀ a j, (a ≠ 104 ∨ j < to ∨ to + 125 ≤ j) → M' a j = M a j) ∧ (∀ j, j < 125 → M' 104 (to + j) = M 104 (of + j)) :=
  m_copyL h1 h2 hd 125 1000 0 M (fun _ _ _ => rfl) (fun j hj => by omega) rfl (by decide)
/-- an image's place rests on its own addresses alone -/
theorem Img.mv {t o : Nat} {T I : Tn} {M M' : Mem} (h : Img t o T I M) (hc : ∀ a, (a = t ∨ a = t + 1 ∨ a = t + 2 ∨ a = t + 13 ∨ a = t + 14 ∨ a = t + 15 ∨ a = t + 16) → M' a = M a) (hm : ∀ j, j < 125 → M' 104 (o + j) = M 104 (o + j)) : Img t o T I M' := by
  obtain ⟨g, ⟨a1, a2, a3, a4, a5⟩, ⟨b1, b2, b3, b4, b5⟩⟩ := h
  have hI : I 14 0 ≤ 12 := by
    have := g.ns
    exact this
  refine ⟨g, ⟨fun c hc9 => ?_, ?_, fun p hp => ?_, ?_, fun i hi => ⟨?_, ?_, ?_⟩⟩, ⟨fun c hc9 => ?_, ?_, fun p hp => ?_, ?_, fun i hi => ⟨?_, ?_, ?_⟩⟩⟩
  · rw [hc _ (by omega)]; exact a1 c hc9
  · rw [hc _ (by omega)]; exact a2
  · rw [hc _ (by omega)]; exact a3 p hp
  · rw [hc _ (by omega)]; exact a4
  · rw [hc _ (by omega)]; exact (a5 i hi).1
  · rw [hc _ (by omega)]; exact (a5 i hi).2.1
  · rw [hc _ (by omega)]; exact (a5 i hi).2.2
  · rw [hm _ (by omega)]; exact b1 c hc9
  · rw [hm _ (by omega)]; exact b2
  · rw [hm _ (by omega)]; exact b3 p hp
  · rw [hm _ (by omega)]; exact b4
  · rw [hm _ (by omega)]; exact (b5 i hi).1
  · rw [hm _ (by omega)]; exact (b5 i hi).2.1
  · rw [hm _ (by omega)]; exact (b5 i hi).2.2
theorem mix_self {T : Tn} : mix T T = T := by
  funext a k
  unfold mix
  split <;> rfl
/-- sheets, tape, faults rest on little -/
theorem InvS.mv {M M' : Mem} (h : InvS M) (h1 : ∀ a, 97 ≤ a → a ≤ 102 → M' a = M a) (h2 : ∀ a, 119 ≤ a → a ≤ 121 → M' a = M a) (h3 : M' 0 9 = M 0 9) (h4 : M' 103 43 = M 103 43) : InvS M' := by
  refine ⟨fun j hj => ?_, by rw [h3, h4]; exact h.2⟩
  unfold She1
  rw [h1 101 (by decide) (by decide), h1 102 (by decide) (by decide), h2 119 (by decide) (by decide), h2 120 (by decide) (by decide), h2 121 (by decide) (by decide), h1 (97 + j) (by omega) (by omega)]
  exact h.1 j hj
theorem InvT.mv {M M' : Mem} (h : InvT M) (h1 : M' 70 0 = M 70 0) (h2 : M' 71 = M 71) (h3 : M' 103 22 = M 103 22) (h4 : M' 112 = M 112) : InvT M' := by
  unfold InvT
  rw [h1, h2, h3, h4]
  exact h
theorem InvF.mv {M M' : Mem} (h : InvF M) (h1 : M' 70 4 = M 70 4) (h2 : M' 103 27 = M 103 27) : InvF M' := by
  unfold InvF
  rw [h1, h2]
  exact h
theorem kbits : ∀ a, a ≤ 1 → ∀ b, b ≤ 1 → jshr (nI (a + 2 * b)) (nI 0) &&& 1 = nI a ∧ jshr (nI (a + 2 * b)) (nI 1) &&& 1 = nI b ∧ nI (a + 2 * b) ||| jshl 1 (nI 0) = nI (1 + 2 * b) ∧ nI (a + 2 * b) ||| jshl 1 (nI 1) = nI (a + 2 * 1) := by decide +kernel
theorem flag_of {k : Nat} (h : k ≤ 1) : f_Mod_flag (nI k) = some (nI k) := by
  rcases (show k = 0 ∨ k = 1 by omega) with rfl | rfl <;> rfl
/-- what keep makes -/
theorem Img.of {T : Tn} {M M' : Mem} {t o : Nat} (ho : On T M) (hm : OnM T M) (g : Good T) (c1 : ∀ c, c < 81 → M' (t + 1) c = M 2 c) (c2 : M' t 4 = M 1 4) (c3 : ∀ p, p < 6 → M' (t + 2) p = M 3 p) (c4 : M' (t + 13) 0 = M 14 0) (c5 : ∀ i, i < 12 → M' (t + 14) i = M 15 i ∧ M' (t + 15) i = M 16 i ∧ M' (t + 16) i = M 17 i) (hl : ∀ j, j < 125 → M' 104 (o + j) = M 104 j) : Img t o T T M' := by
  have h9 := g.ns
  refine ⟨by rw [mix_self]; exact g, ⟨fun c hc9 => ?_, ?_, fun p hp => ?_, ?_, fun i hi => ⟨?_, ?_, ?_⟩⟩, ⟨fun c hc9 => ?_, ?_, fun p hp => ?_, ?_, fun i hi => ⟨?_, ?_, ?_⟩⟩⟩
  · rw [c1 c hc9]; exact ho.c hc9
  · rw [c2]; exact ho.s4
  · rw [c3 p hp]; exact ho.p hp
  · rw [c4]; exact ho.ns
  · rw [(c5 i (by omega)).1]; exact ho.v (a := 15) (by decide) (by decide) hi
  · rw [(c5 i (by omega)).2.1]; exact ho.v (a := 16) (by decide) (by decide) hi
  · rw [(c5 i (by omega)).2.2]; exact ho.v (a := 17) (by decide) (by decide) hi
  · rw [hl _ (by omega)]; exact hm.c hc9
  · rw [hl _ (by omega)]; exact hm.s4
  · rw [hl _ (by omega)]; exact hm.p hp
  · rw [hl _ (by omega)]; exact hm.ns
  · rw [hl _ (by omega)]; exact hm.v0 hi
  · rw [hl _ (by omega)]; exact hm.v1 hi
  · rw [hl _ (by omega)]; exact hm.v2 hi
theorem s_keep (x : Int32) : Sim (f_Hal_keep x) (f_Mod_keep x) := by
  intro M ⟨T, hA, hI, hS, hT, hF⟩
  obtain ⟨o, om, g⟩ := id hA
  have e1 : f_Mod_in x.toInt64 0 1 = f_Mod_in x.toInt64 0 (nI 1).toInt64 := rfl
  obtain ⟨k0, k1, i1, i2, i3, i4, i5, i6, i7⟩ := id hI
  obtain ⟨kb1, kb2, kb3, kb4⟩ := kbits k0 i1 k1 i2
  rcases wi x (m := 1) (by decide) with ⟨w, hw, rfl, f1, f2⟩ | ⟨f1, f2, -⟩
  · -- one image, at its places
    have main : ∀ t off kw, (w = 0 ∧ t = 18 ∧ off = 125 ∧ kw = k0 ∨ w = 1 ∧ t = 35 ∧ off = 250 ∧ kw = k1) → ∃ v M1 M2, f_Hal_keep (nI w) M = some (v, M1) ∧ f_Mod_keep (nI w) M1 = some (v, M2) ∧ Inv M2 := fun t off kw hc => by
      have ht : t = 18 ∨ t = 35 := by omega
      have hoff : 125 * (w + 1) = off := by omega
      obtain ⟨Ma, c1, c2⟩ := c_copy (M := M) (t := t) (o := 1) (by omega)
      have cfr := c2.1
      have a03 : Ma 0 = M 0 := cfr 0 (by omega) (by omega) (by omega) (by omega) (by omega) (by omega) (by omega)
      have hkw : kw ≤ 1 := by omega
      have ebit : jshr (M 0 3) (nI w) &&& 1 = nI kw := by
        rw [i3]
        rcases hc with ⟨rfl, -, -, rfl⟩ | ⟨rfl, -, -, rfl⟩
        · exact kb1
        · exact kb2
      obtain ⟨M1, hM1⟩ : ∃ z, z = upd2 Ma 0 3 (M 0 3 ||| jshl 1 (nI w)) := ⟨_, rfl⟩
      have m1lo : ∀ a, a ≠ 0 → M1 a = Ma a := fun a ha => by rw [hM1]; exact u_ne ha
      have m1hi : ∀ a, 52 ≤ a → M1 a = M a := fun a ha => by rw [m1lo a (by omega)]; exact cfr a (by omega) (by omega) (by omega) (by omega) (by omega) (by omega) (by omega)
      have m1t : ∀ a, 1 ≤ a → a ≤ 17 → M1 a = M a := fun a h1 h2 => by rw [m1lo a (by omega)]; exact cfr a (by omega) (by omega) (by omega) (by omega) (by omega) (by omega) (by omega)
      have m105 : M1 105 w = nI kw := by
        rw [m1hi 105 (by decide)]
        rcases hc with ⟨rfl, -, -, rfl⟩ | ⟨rfl, -, -, rfl⟩
        · exact i4
        · exact i5
      obtain ⟨M2, d1, d2, d3⟩ := m_copy (M := upd2 M1 105 w 1) (to := off) (of := 0) (by omega) (by omega) (by omega)
      have m2 : ∀ a, a ≠ 104 → M2 a = upd2 M1 105 w 1 a := fun a ha => funext fun j => d2 a j (Or.inl ha)
      have m2b : ∀ a, a ≠ 104 → a ≠ 105 → M2 a = M1 a := fun a ha hb => by rw [m2 a ha, u_ne hb]
      have m104 : ∀ j, j < off ∨ off + 125 ≤ j → M2 104 j = M 104 j := fun j hj => by
        rw [d2 104 j (by omega), u_ne (by decide), m1hi 104 (by decide)]
      have m104b : ∀ j, j < 125 → M2 104 (off + j) = M 104 j := fun j hj => by
        rw [d3 j hj, Nat.zero_add, u_ne (by decide), m1hi 104 (by decide)]
      have o2 : On T M2 := by
        have e : ∀ a, 1 ≤ a → a ≤ 17 → M2 a = M a := fun a h1 h2 => by rw [m2b a (by omega) (by omega), m1t a h1 h2]
        unfold On
        rw [e 1 (by decide) (by decide), e 2 (by decide) (by decide), e 3 (by decide) (by decide), e 4 (by decide) (by decide), e 10 (by decide) (by decide), e 14 (by decide) (by decide)]
        refine ⟨o.1, o.2.1, o.2.2.1, o.2.2.2.1, fun a a1 a2 => ?_, o.2.2.2.2.2.1, fun a a1 a2 => ?_, o.2.2.2.2.2.2.2.1, fun a a1 a2 => ?_⟩
        · rw [e a (by omega) (by omega)]; exact o.2.2.2.2.1 a a1 a2
        · rw [e a (by omega) (by omega)]; exact o.2.2.2.2.2.2.1 a a1 a2
        · rw [e a (by omega) (by omega)]; exact o.2.2.2.2.2.2.2.2 a a1 a2
      have om2 : OnM T M2 := by
        have e : ∀ a, 52 ≤ a → a ≠ 104 → a ≠ 105 → M2 a = M a := fun a h1 h2 h3 => by rw [m2b a h2 h3, m1hi a h1]
        have h12 := g.ns
        refine ⟨?_, fun c hc9 => ?_, fun p hp => ?_, ?_, ?_, ?_, ?_, ?_, fun i hi => ?_⟩
        · rw [e 103 (by decide) (by decide) (by decide), m104 81 (by omega)]; exact om.1
        · rw [m104 c (by omega)]; exact om.c hc9
        · rw [m104 _ (by omega)]; exact om.p hp
        · rw [e 103 (by decide) (by decide) (by decide)]; exact om.nb
        · rw [e 106 (by decide) (by decide) (by decide)]; exact om.2.2.2.2.1
        · rw [e 103 (by decide) (by decide) (by decide)]; exact om.nw
        · rw [e 107 (by decide) (by decide) (by decide)]; exact om.2.2.2.2.2.2.1
        · rw [m104 88 (by omega)]; exact om.ns
        · rw [m104 _ (by omega), m104 _ (by omega), m104 _ (by omega)]; exact ⟨om.v0 hi, om.v1 hi, om.v2 hi⟩
      have hi2 : ∀ a, 52 ≤ a → a ≠ 104 → a ≠ 105 → M2 a = M a := fun a h1 h2 h3 => by rw [m2b a h2 h3, m1hi a h1]
      have img : Img t off T T M2 := by
        obtain ⟨-, q1, q2, -, q4, q5, q6⟩ := c2
        have eq : ∀ a, 18 ≤ a → a ≤ 51 → M2 a = Ma a := fun a h1 h2 => by rw [m2b a (by omega) (by omega), m1lo a (by omega)]
        refine Img.of (M := M) o om g ?_ ?_ ?_ ?_ ?_ m104b
        · rw [eq _ (by omega) (by omega)]; exact q1
        · rw [eq _ (by omega) (by omega)]; exact q2
        · rw [eq _ (by omega) (by omega)]; exact q4
        · rw [eq _ (by omega) (by omega)]; exact q5
        · rw [eq _ (by omega) (by omega), eq _ (by omega) (by omega), eq _ (by omega) (by omega)]; exact q6
      have other : ∀ t' off' I, (t' = 18 ∧ off' = 125 ∨ t' = 35 ∧ off' = 250) → t' ≠ t → Img t' off' T I M → Img t' off' T I M2 := fun t' off' I h1 h2 h3 => by
        refine h3.mv (fun a ha => ?_) (fun j hj => m104 _ (by omega))
        rw [m2b a (by omega) (by omega), m1lo a (by omega)]
        exact cfr a (by omega) (by omega) (by omega) (by omega) (by omega) (by omega) (by omega)
      have m2_03 : M2 0 3 = M 0 3 ||| jshl 1 (nI w) := by rw [m2b 0 (by decide) (by decide), hM1, u_eq]
      have m2_105 : M2 105 = upd2 M1 105 w 1 105 := m2 105 (by decide)
      have inv2 : InvI T M2 := by
        rcases hc with ⟨rfl, rfl, rfl, rfl⟩ | ⟨rfl, rfl, rfl, rfl⟩
        · refine ⟨1, k1, Nat.le_refl 1, i2, ?_, ?_, ?_, fun _ => ⟨T, img⟩, fun e => ?_⟩
          · rw [m2_03, i3]; exact kb3
          · rw [m2_105, u_eq]; rfl
          · rw [m2_105, u_nk (by decide), m1hi 105 (by decide)]; exact i5
          · obtain ⟨I, hI⟩ := i7 e
            exact ⟨I, other 35 250 I (Or.inr ⟨rfl, rfl⟩) (by decide) hI⟩
        · refine ⟨k0, 1, i1, Nat.le_refl 1, ?_, ?_, ?_, fun e => ?_, fun _ => ⟨T, img⟩⟩
          · rw [m2_03, i3]; exact kb4
          · rw [m2_105, u_nk (by decide), m1hi 105 (by decide)]; exact i4
          · rw [m2_105, u_eq]; rfl
          · obtain ⟨I, hI⟩ := i6 e
            exact ⟨I, other 18 125 I (Or.inl ⟨rfl, rfl⟩) (by decide) hI⟩
      refine ⟨nI kw, M1, M2, ?_, ?_, ⟨T, ⟨o2, om2, g⟩, inv2, ?_, ?_, ?_⟩⟩
      · have eimg : f_Hal_imageOf M (nI w) = some t ∧ isImg t = true := by
          rcases hc with ⟨rfl, rfl, -, -⟩ | ⟨rfl, rfl, -, -⟩
          · exact ⟨rfl, rfl⟩
          · exact ⟨rfl, rfl⟩
        unfold f_Hal_keep f_Hal_bit
        rw [show (0 : Int32) = nI 0 from rfl, show f_Hal_within (nI w) (nI 0) 1 = some (nI 1) from f1, e_bnd, if_neg (by decide), ebit, e_bnd, eimg.1, e_bnd, e_ck eimg.2, c1, e_bnd, e_set, a03, hM1]
      · unfold f_Mod_keep
        rw [e1, f2, e_bnd, if_neg (by decide), e_ckn (by omega) (by decide), show ix (nI w) = w from e_ix (by omega), m105, flag_of hkw, e_bnd, e_ckn (by omega) (by decide), e_set, nI_1, l125, pk_mul, hoff, show (0 : Int32) = nI 0 from rfl, d1, e_bnd]
      · exact hS.mv (fun a h1 h2 => hi2 a (by omega) (by omega) (by omega)) (fun a h1 h2 => hi2 a (by omega) (by omega) (by omega)) (by rw [m2b 0 (by decide) (by decide), hM1, u_nk (by decide), a03]) (by rw [hi2 103 (by decide) (by decide) (by decide)])
      · exact hT.mv (by rw [hi2 70 (by decide) (by decide) (by decide)]) (hi2 71 (by decide) (by decide) (by decide)) (by rw [hi2 103 (by decide) (by decide) (by decide)]) (hi2 112 (by decide) (by decide) (by decide))
      · exact hF.mv (by rw [hi2 70 (by decide) (by decide) (by decide)]) (by rw [hi2 103 (by decide) (by decide) (by decide)])
    rcases (show w = 0 ∨ w = 1 by omega) with rfl | rfl
    · exact main 18 125 k0 (Or.inl ⟨rfl, rfl, rfl, rfl⟩)
    · exact main 35 250 k1 (Or.inr ⟨rfl, rfl, rfl, rfl⟩)
  · refine ⟨-1, M, M, ?_, ?_, ⟨T, hA, hI, hS, hT, hF⟩⟩
    · simp (disch := omega) only [e_bnd, e_bnd2, e_set, e_cpy, e_nmI, e_nmL, e_ckn, e_ckB0, e_ckB1, l0, l1, l2, l3, l4, l5, l6, l7, l8, l9, l10, l11, l12, l13, l14, l15, l16, l17, l18, l19, l20, l21, l22, l24, l25, l32, l39, l40, l41, l48, l50, l56, l57, l59, l60, l72, l79, l80, l81, l82, l88, l89, l97, l100, l122, l124, l125, l160, l255, l312, l320, l375, l1000, nI_ltI, nI_leI, nI_eq, nI_add, pk_mul, e_ix, e_neg, if_true, if_false, if_pos, if_neg, f_Hal_keep, f1]
    · simp (disch := omega) only [e_bnd, e_bnd2, e_set, e_cpy, e_nmI, e_nmL, e_ckn, e_ckB0, e_ckB1, l0, l1, l2, l3, l4, l5, l6, l7, l8, l9, l10, l11, l12, l13, l14, l15, l16, l17, l18, l19, l20, l21, l22, l24, l25, l32, l39, l40, l41, l48, l50, l56, l57, l59, l60, l72, l79, l80, l81, l82, l88, l89, l97, l100, l122, l124, l125, l160, l255, l312, l320, l375, l1000, nI_ltI, nI_leI, nI_eq, nI_add, pk_mul, e_ix, e_neg, if_true, if_false, if_pos, if_neg, f_Mod_keep, e1, f2]

theorem mix_mix {T I K : Tn} : mix (mix T I) K = mix T K := mix_cg (fun a k h => by
  unfold mix
  rw [h]
  rfl)
theorem s_back (x : Int32) : Sim (f_Hal_back x) (f_Mod_back x) := by
  intro M ⟨T, hA, hI, hS, hT, hF⟩
  obtain ⟨o, om, g⟩ := id hA
  have e1 : f_Mod_in x.toInt64 0 1 = f_Mod_in x.toInt64 0 (nI 1).toInt64 := rfl
  obtain ⟨k0, k1, i1, i2, i3, i4, i5, i6, i7⟩ := id hI
  obtain ⟨kb1, kb2, kb3, kb4⟩ := kbits k0 i1 k1 i2
  rcases wi x (m := 1) (by decide) with ⟨w, hw, rfl, f1, f2⟩ | ⟨f1, f2, -⟩
  · have main : ∀ t off kw, (w = 0 ∧ t = 18 ∧ off = 125 ∧ kw = k0 ∨ w = 1 ∧ t = 35 ∧ off = 250 ∧ kw = k1) → (kw = 1 → ∃ I, Img t off T I M) → ∃ v M1 M2, f_Hal_back (nI w) M = some (v, M1) ∧ f_Mod_back (nI w) M1 = some (v, M2) ∧ Inv M2 := fun t off kw hc himg => by
      have ht : t = 18 ∨ t = 35 := by omega
      have hoff : 125 * (w + 1) = off := by omega
      have hkw : kw ≤ 1 := by omega
      have ebit : jshr (M 0 3) (nI w) &&& 1 = nI kw := by
        rw [i3]
        rcases hc with ⟨rfl, -, -, rfl⟩ | ⟨rfl, -, -, rfl⟩
        · exact kb1
        · exact kb2
      have m105 : M 105 w = nI kw := by
        rcases hc with ⟨rfl, -, -, rfl⟩ | ⟨rfl, -, -, rfl⟩
        · exact i4
        · exact i5
      by_cases hk0 : kw = 0
      · subst hk0
        refine ⟨-2, M, M, ?_, ?_, ⟨T, hA, hI, hS, hT, hF⟩⟩
        · unfold f_Hal_back f_Hal_bit
          rw [show (0 : Int32) = nI 0 from rfl, show f_Hal_within (nI w) (nI 0) 1 = some (nI 1) from f1, e_bnd, if_neg (by decide), ebit, e_bnd, if_pos rfl]
        · unfold f_Mod_back
          rw [e1, f2, e_bnd, if_neg (by decide), e_ckn (by omega) (by decide), show ix (nI w) = w from e_ix (by omega), m105, if_pos (by rfl)]
      · obtain ⟨I, gI, ⟨a1, a2, a3, a4, a5⟩, ⟨b1, b2, b3, b4, b5⟩⟩ := id (himg (by omega))
        obtain ⟨M1, c1, cfr, q1, q2, q3, q4, q5, q6⟩ := c_copy (M := M) (t := 1) (o := t) (by omega)
        have hI12 : I 14 0 ≤ 12 := gI.ns
        have m1hi : ∀ a, 18 ≤ a → M1 a = M a := fun a ha => cfr a (by omega) (by omega) (by omega) (by omega) (by omega) (by omega) (by omega)
        have m1_0 : M1 0 = M 0 := cfr 0 (by omega) (by omega) (by omega) (by omega) (by omega) (by omega) (by omega)
        obtain ⟨M2, d1, d2, d3⟩ := m_copy (M := M1) (to := 0) (of := off) (by omega) (by omega) (by omega)
        have m2 : ∀ a, a ≠ 104 → M2 a = M1 a := fun a ha => funext fun j => d2 a j (Or.inl ha)
        have m104 : ∀ j, 125 ≤ j → M2 104 j = M 104 j := fun j hj => by rw [d2 104 j (by omega), m1hi 104 (by decide)]
        have m104b : ∀ j, j < 125 → M2 104 j = M 104 (off + j) := fun j hj => by
          have := d3 j hj
          rw [Nat.zero_add] at this
          rw [this, m1hi 104 (by decide)]
        have o1 : On (mix T I) M1 := by
          refine ⟨fun j hj => ?_, fun j hj => ?_, fun j hj => ?_, ?_, fun a h1 h2 j hj => ?_, ?_, fun a h1 h2 j hj => ?_, ?_, fun a h1 h2 j hj => ?_⟩
          · by_cases e : j = 4
            · subst e
              rw [q2, a2]; rfl
            · rw [q3 j e, o.s hj]
              have : chg 1 j = false := by simp [chg, e]
              unfold mix
              rw [this]; rfl
          · rw [q1 j hj, a1 j hj]; rfl
          · rw [q4 j hj, a3 j hj]; rfl
          · rw [cfr 4 (by decide) (by decide) (by decide) (by decide) (by decide) (by decide) (by decide)]; exact o.nb
          · rw [cfr a (by omega) (by omega) (by omega) (by omega) (by omega) (by omega) (by omega), o.b h1 h2 hj]
            rcases (show a = 5 ∨ a = 6 ∨ a = 7 ∨ a = 8 ∨ a = 9 by omega) with rfl | rfl | rfl | rfl | rfl <;> rfl
          · rw [cfr 10 (by decide) (by decide) (by decide) (by decide) (by decide) (by decide) (by decide)]; exact o.nw
          · rw [cfr a (by omega) (by omega) (by omega) (by omega) (by omega) (by omega) (by omega), o.w h1 h2 hj]
            rcases (show a = 11 ∨ a = 12 ∨ a = 13 by omega) with rfl | rfl | rfl <;> rfl
          · rw [q5, a4]; rfl
          · have hj' : j < I 14 0 := hj
            rcases (show a = 15 ∨ a = 16 ∨ a = 17 by omega) with rfl | rfl | rfl
            · rw [(q6 j (by omega)).1, (a5 j hj').1]; rfl
            · rw [(q6 j (by omega)).2.1, (a5 j hj').2.1]; rfl
            · rw [(q6 j (by omega)).2.2, (a5 j hj').2.2]; rfl
        have o2 : On (mix T I) M2 := o1.low (fun a ha => m2 a (by omega))
        have om2 : OnM (mix T I) M2 := by
          have e : ∀ a, 52 ≤ a → a ≠ 104 → M2 a = M a := fun a h1 h2 => by rw [m2 a h2, m1hi a (by omega)]
          refine ⟨⟨?_, ?_, ?_, ?_, ?_, ?_⟩, fun c hc9 => ?_, fun p hp => ?_, ?_, fun b hb => ?_, ?_, fun i hi => ?_, ?_, fun i hi => ?_⟩
          · rw [e 103 (by decide) (by decide)]; exact om.s0
          · rw [e 103 (by decide) (by decide)]; exact om.s1
          · rw [e 103 (by decide) (by decide)]; exact om.s2
          · rw [e 103 (by decide) (by decide)]; exact om.s3
          · rw [m104b 81 (by decide)]; exact b2
          · rw [e 103 (by decide) (by decide)]; exact om.s5
          · rw [m104b c (by omega)]; exact b1 c hc9
          · rw [m104b _ (by omega)]; exact b3 p hp
          · rw [e 103 (by decide) (by decide)]; exact om.nb
          · rw [e 106 (by decide) (by decide)]
            exact ⟨om.b0 hb, om.b1 hb, om.b2 hb, om.b3 hb⟩
          · rw [e 103 (by decide) (by decide)]; exact om.nw
          · rw [e 107 (by decide) (by decide)]
            exact ⟨om.w0 hi, om.w1 hi, om.w2 hi⟩
          · rw [m104b 88 (by decide)]; exact b4
          · have hi' : i < I 14 0 := hi
            rw [m104b _ (by omega), m104b _ (by omega), m104b _ (by omega)]
            exact b5 i hi'
        have img : ∀ t' off' K, (t' = 18 ∧ off' = 125 ∨ t' = 35 ∧ off' = 250) → Img t' off' T K M → Img t' off' (mix T I) K M2 := fun t' off' K h1 h3 => by
          have h4 := h3.mv (M' := M2) (fun a ha => by rw [m2 a (by omega), m1hi a (by omega)]) (fun j hj => m104 _ (by omega))
          refine ⟨?_, h4.2⟩
          rw [mix_mix]
          exact h4.1
        refine ⟨nI (I 14 0), M1, M2, ?_, ?_, ⟨mix T I, ⟨o2, om2, gI⟩, ⟨k0, k1, i1, i2, ?_, ?_, ?_, fun e => ?_, fun e => ?_⟩, ?_, ?_, ?_⟩⟩
        · have eimg : f_Hal_imageOf M (nI w) = some t ∧ isImg t = true := by
            rcases hc with ⟨rfl, rfl, -, -⟩ | ⟨rfl, rfl, -, -⟩
            · exact ⟨rfl, rfl⟩
            · exact ⟨rfl, rfl⟩
          unfold f_Hal_back f_Hal_bit
          rw [show (0 : Int32) = nI 0 from rfl, show f_Hal_within (nI w) (nI 0) 1 = some (nI 1) from f1, e_bnd, if_neg (by decide), ebit, e_bnd, if_neg (by rw [nI_eq (by omega) (by omega)]; exact hk0), eimg.1, e_bnd, e_ck eimg.2, c1, e_bnd, q5, a4]
        · unfold f_Mod_back
          rw [e1, f2, e_bnd, if_neg (by decide), e_ckn (by omega) (by decide), show ix (nI w) = w from e_ix (by omega), m1hi 105 (by decide), m105, if_neg (by rw [l0, nI_eq (by omega) (by omega)]; exact hk0), nI_1, l125, pk_mul, hoff, show (0 : Int32) = nI 0 from rfl, d1, e_bnd, show ix 88 = 88 from rfl, m104b 88 (by decide), b4]
        · rw [m2 0 (by decide), m1_0]; exact i3
        · rw [m2 105 (by decide), m1hi 105 (by decide)]; exact i4
        · rw [m2 105 (by decide), m1hi 105 (by decide)]; exact i5
        · obtain ⟨K, hK⟩ := i6 e
          exact ⟨K, img 18 125 K (Or.inl ⟨rfl, rfl⟩) hK⟩
        · obtain ⟨K, hK⟩ := i7 e
          exact ⟨K, img 35 250 K (Or.inr ⟨rfl, rfl⟩) hK⟩
        · exact hS.mv (fun a h1 h2 => by rw [m2 a (by omega), m1hi a (by omega)]) (fun a h1 h2 => by rw [m2 a (by omega), m1hi a (by omega)]) (by rw [m2 0 (by decide), m1_0]) (by rw [m2 103 (by decide), m1hi 103 (by decide)])
        · exact hT.mv (by rw [m2 70 (by decide), m1hi 70 (by decide)]) (by rw [m2 71 (by decide), m1hi 71 (by decide)]) (by rw [m2 103 (by decide), m1hi 103 (by decide)]) (by rw [m2 112 (by decide), m1hi 112 (by decide)])
        · exact hF.mv (by rw [m2 70 (by decide), m1hi 70 (by decide)]) (by rw [m2 103 (by decide), m1hi 103 (by decide)])
    rcases (show w = 0 ∨ w = 1 by omega) with rfl | rfl
    · exact main 18 125 k0 (Or.inl ⟨rfl, rfl, rfl, rfl⟩) i6
    · exact main 35 250 k1 (Or.inr ⟨rfl, rfl, rfl, rfl⟩) i7
  · refine ⟨-1, M, M, ?_, ?_, ⟨T, hA, hI, hS, hT, hF⟩⟩
    · simp (disch := omega) only [e_bnd, e_bnd2, e_set, e_cpy, e_nmI, e_nmL, e_ckn, e_ckB0, e_ckB1, l0, l1, l2, l3, l4, l5, l6, l7, l8, l9, l10, l11, l12, l13, l14, l15, l16, l17, l18, l19, l20, l21, l22, l24, l25, l32, l39, l40, l41, l48, l50, l56, l57, l59, l60, l72, l79, l80, l81, l82, l88, l89, l97, l100, l122, l124, l125, l160, l255, l312, l320, l375, l1000, nI_ltI, nI_leI, nI_eq, nI_add, pk_mul, e_ix, e_neg, if_true, if_false, if_pos, if_neg, f_Hal_back, f1]
    · simp (disch := omega) only [e_bnd, e_bnd2, e_set, e_cpy, e_nmI, e_nmL, e_ckn, e_ckB0, e_ckB1, l0, l1, l2, l3, l4, l5, l6, l7, l8, l9, l10, l11, l12, l13, l14, l15, l16, l17, l18, l19, l20, l21, l22, l24, l25, l32, l39, l40, l41, l48, l50, l56, l57, l59, l60, l72, l79, l80, l81, l82, l88, l89, l97, l100, l122, l124, l125, l160, l255, l312, l320, l375, l1000, nI_ltI, nI_leI, nI_eq, nI_add, pk_mul, e_ix, e_neg, if_true, if_false, if_pos, if_neg, f_Mod_back, e1, f2]
