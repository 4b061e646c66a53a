/-! pure: a text's end in the class, dead -/
section CT
variable {b : Nat → Nat} {L : Nat} {z : Tz} {D : Tn} {M : Mem}
theorem c_endD (hL : L ≤ 320) (c : CI b L z D M) (q : z.1 ≠ 0) (w : Int32) : ∃ M', f_Rea_readLines_J82 w M = some (w, M') ∧ Fr 52 70 M M' ∧ CI b L z D M' := by
  have go : ∀ s1 : Int32, ∃ M', f_Rea_readLines_J116 w s1 M = some (w, M') ∧ Fr 52 70 M M' ∧ CI b L z D M' := fun s1 => by
    obtain ⟨c1, f1⟩ := c.set (a := 53) (k := 5) (x := s1) (D' := D) (by decide) (by decide) (fun e _ => absurd e q)
    obtain ⟨-, ⟨n1, k1, k2⟩, n2, k3, k4⟩ := id c1.2.2.2.1
    obtain ⟨v1, h1⟩ := mis_any (upd2 M 53 5 s1) 81 1000 0 rfl (by decide)
    obtain ⟨v2, h2⟩ := one_any k1 k2 k3 k4 n1 1000 0 (by omega) (by omega)
    have h4 : ¬ upd2 M 53 5 s1 70 4 = 0 := fun e => q ((c1.2.2.1.z0 c1.2.1).mp e)
    have l52 := c_l52D c1 q 81 1000 0 rfl (by decide)
    have j34 : f_Rea_checkAll_J34 (upd2 M 53 5 s1) = some (upd2 M 53 5 s1) := by
      unfold f_Rea_checkAll_J34 f_Rea_checkAll_J50 f_Tap_fail
      rw [if_neg h4, e_bnd]
      exact l52
    have all : f_Rea_checkAll (upd2 M 53 5 s1) = some (upd2 M 53 5 s1) := by
      unfold f_Rea_checkAll
      rw [show f_Rea_anyCellMissing (upd2 M 53 5 s1) = some v1 from h1, e_bnd, show f_Rea_anyOneMissing (upd2 M 53 5 s1) = some v2 from h2, e_bnd, j34, show f_Rea_checkAll_J50 (upd2 M 53 5 s1) = some (upd2 M 53 5 s1) from l52]
      repeat' split
      all_goals rfl
    refine ⟨upd2 M 53 5 s1, ?_, f1, c1⟩
    unfold f_Rea_readLines_J116
    rw [e_set, all, e_bnd]
  unfold f_Rea_readLines_J82
  by_cases e : M 52 3 = -1
  · rw [if_pos e]; exact go _
  · rw [if_neg e]; exact go _
end CT
