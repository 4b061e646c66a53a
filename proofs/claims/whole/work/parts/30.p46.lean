/-! pure: a text's end in the class, alive -/
theorem fail_fr {p r : Int32} {M M' : Mem} (h : f_Tap_fail p r M = some M') : ∀ a, a ≠ 70 → M' a = M a := fun a ha => by
  unfold f_Tap_fail at h
  by_cases e : M 70 4 = 0
  · rw [if_pos e, e_set, e_set] at h
    rw [← Option.some.inj h, u_ne ha, u_ne ha]
  · rw [if_neg e] at h
    rw [← Option.some.inj h]
theorem l52_fr : ∀ (n : Nat) (x : Int32) (M M' : Mem), f_Rea_checkAll_L52 n x M = some M' → ∀ a, a ≠ 70 → M' a = M a := by
  intro n
  induction n with
  | zero => intro x M M' h; rw [f_Rea_checkAll_L52] at h; cases h
  | succ n ih =>
    intro x M M' h a ha
    rw [f_Rea_checkAll_L52] at h
    by_cases e : 81 ≤ x
    · rw [if_pos e] at h
      rw [← Option.some.inj h]
    · rw [if_neg e] at h
      cases h1 : f_Tol_stateOf 53 M x with
      | none => rw [h1] at h; cases h
      | some v =>
        rw [h1, e_bnd] at h
        by_cases u : v = 0
        · rw [if_pos u] at h; exact ih _ _ _ h a ha
        · rw [if_neg u] at h
          cases h2 : f_Ben_anyPutOn 56 M x with
          | none => rw [h2] at h; cases h
          | some v2 =>
            rw [h2, e_bnd] at h
            by_cases u2 : v2 = 0
            · rw [if_pos u2] at h; exact ih _ _ _ h a ha
            · rw [if_neg u2] at h
              cases h3 : f_Tap_fail 7 (M 70 0) M with
              | none => rw [h3] at h; cases h
              | some M9 =>
                rw [h3, e_bnd] at h
                rw [ih _ _ _ h a ha, fail_fr h3 a ha]
section CS
variable {b : Nat → Nat} {L : Nat} {z : Tz} {D : Tn} {M : Mem}
theorem c_end (hL : L ≤ 320) (c : CI b L z D M) (q : z.1 = 0) (hs : z.2.2.2.1 = L) (g : DG D) (x : DX D) (w : Int32) : ∃ M', f_Rea_readLines_J82 w M = some (w, M') ∧ Fr 52 70 M M' ∧ (F6 D → CI b L (flt 6 z) D M') ∧ (¬ F6 D → ¬ frB D (D 4 0) → CI b L (flt 7 z) D M') ∧ (¬ F6 D → frB D (D 4 0) → CI b L z D M') ∧ (M' 53 5 = nI (pplN D)) := by
  have d := c.2.2.2.2 q
  have h6 := pplN_le g
  have h4 := g.2.2.1.1
  have h21 := g.1.2.2.2.2.2
  have e82 : f_Rea_readLines_J82 w M = f_Rea_readLines_J116 w (nI (pplN D)) M := by
    unfold f_Rea_readLines_J82 pplN
    rw [d.2.2.2, d.2.1.1.1]
    by_cases e : D 21 0 = 0
    · rw [if_pos e, if_pos rfl, if_pos e]
      congr 1
      unfold jmin
      by_cases u : 6 < D 4 0
      · rw [if_pos (by rw [l6, nI_ltI (by omega) (by omega)]; exact u), show min (D 4 0) 6 = 6 by omega]
        rfl
      · rw [if_neg (by rw [l6, nI_ltI (by omega) (by omega)]; exact u), show min (D 4 0) 6 = D 4 0 by omega]
    · rw [if_neg e, if_neg (by rw [l1, e_neg (by omega) (by omega) (by omega)]; exact id), if_neg e]
  obtain ⟨c1, f1⟩ := c.set (a := 53) (k := 5) (x := nI (pplN D)) (D' := D) (by decide) (by decide) (fun _ h => h.s535)
  have e5 : upd2 M 53 5 (nI (pplN D)) 53 5 = nI (pplN D) := u_eq
  have go : ∃ M', f_Rea_checkAll (upd2 M 53 5 (nI (pplN D))) = some M' ∧ Fr 54 70 (upd2 M 53 5 (nI (pplN D))) M' ∧ (F6 D → CI b L (flt 6 z) D M') ∧ (¬ F6 D → ¬ frB D (D 4 0) → CI b L (flt 7 z) D M') ∧ (¬ F6 D → frB D (D 4 0) → CI b L z D M') := by
    have d1 := c1.2.2.2.2 q
    have j34 : F6 D → ∃ M', f_Rea_checkAll_J34 (upd2 M 53 5 (nI (pplN D))) = some M' ∧ Fr 54 70 (upd2 M 53 5 (nI (pplN D))) M' ∧ (F6 D → CI b L (flt 6 z) D M') ∧ (¬ F6 D → ¬ frB D (D 4 0) → CI b L (flt 7 z) D M') ∧ (¬ F6 D → frB D (D 4 0) → CI b L z D M') := fun hf => by
      obtain ⟨M1, a1, a2, a3⟩ := ci_fail hL c1 (fun _ => hs) (f := 6) (by decide) (by decide)
      refine ⟨M1, ?_, fun a ha => fail_fr a1 a (by omega), fun _ => a2, fun h => absurd hf h, fun h => absurd hf h⟩
      unfold f_Rea_checkAll_J34 f_Rea_checkAll_J50
      rw [show (6 : Int32) = nI 6 from rfl, a1, e_bnd]
      exact c_l52D a2 (flt_ne (by decide)) 81 1000 0 rfl (by decide)
    have mis : (badC D ∧ f_Rea_anyCellMissing (upd2 M 53 5 (nI (pplN D))) = some 1) ∨ (¬ badC D ∧ f_Rea_anyCellMissing (upd2 M 53 5 (nI (pplN D))) = some 0) := c_misL d1 g 81 1000 0 rfl (by decide) (fun c hc => by omega)
    have one : (badO D (pplN D) ∧ f_Rea_anyOneMissing (upd2 M 53 5 (nI (pplN D))) = some 1) ∨ (¬ badO D (pplN D) ∧ f_Rea_anyOneMissing (upd2 M 53 5 (nI (pplN D))) = some 0) := c_oneL d1 g h6 e5 (D 10 0) 1000 0 (by omega) (by have := g.2.2.2.1.1; omega) (fun i hi => by omega)
    unfold f_Rea_checkAll
    rcases mis with ⟨m1, m2⟩ | ⟨m1, m2⟩
    · rw [m2, e_bnd, if_neg (by decide)]
      exact j34 (((badC_iff g x).mp m1).elim Or.inl (fun h => Or.inr (Or.inl h)))
    · rw [m2, e_bnd, if_pos rfl]
      rcases one with ⟨o1, o2⟩ | ⟨o1, o2⟩
      · rw [o2, e_bnd, if_neg (by decide)]
        exact j34 (Or.inr (Or.inr (Or.inl ((badO_iff x).mp o1))))
      · rw [o2, e_bnd, if_pos rfl, e5, d1.2.1.1.1]
        by_cases u : pplN D ≤ D 4 0
        · rw [if_pos (by rw [nI_leI (by omega) (by omega)]; exact u)]
          obtain ⟨M1, a1, a2, a3, a4⟩ := c_l52 hL c1 q hs g 81 1000 0 rfl (by decide) (fun c hc => by omega)
          have nf : ¬ F6 D := fun h => by
            rcases h with h | h | h | h
            · exact m1 ((badC_iff g x).mpr (Or.inl h))
            · exact m1 ((badC_iff g x).mpr (Or.inr h))
            · exact o1 ((badO_iff x).mpr h)
            · omega
          exact ⟨M1, a1, fun a ha => l52_fr _ _ _ _ a1 a (by omega), fun h => absurd h nf, fun _ => a4, fun _ => a3⟩
        · rw [if_neg (by rw [nI_leI (by omega) (by omega)]; exact u)]
          exact j34 (Or.inr (Or.inr (Or.inr (by omega))))
  obtain ⟨M', a1, a2, a3, a4, a5⟩ := go
  refine ⟨M', ?_, f1.tr (a2.up (by decide) (by decide)), a3, a4, a5, by rw [a2 53 (by decide)]; exact e5⟩
  rw [e82]
  unfold f_Rea_readLines_J116
  rw [e_set, a1, e_bnd]
end CS
