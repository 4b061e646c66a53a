/-! pure: a text's beginning -/
def D0 : Tn := fun a k => if a = 1 then (if k = 0 then 9 else if k = 1 then 7 else if k = 2 then 3 else if k = 3 then 5 else 0) else 0
theorem D0_z {a k : Nat} (h : a ≠ 1) : D0 a k = 0 := if_neg h
theorem rl_D0 : rlM D0 = 0 := orN_none (fun r _ => by rw [D0_z (by decide)]; rfl)
theorem DG_D0 : DG D0 := by
  have z : ∀ a, a ≠ 1 → ∀ k, D0 a k = 0 := fun a h k => D0_z h
  unfold DG DA
  rw [z 21 (by decide), z 4 (by decide), z 10 (by decide), z 14 (by decide), z 22 (by decide), z 23 (by decide), z 24 (by decide)]
  exact ⟨⟨by decide, by decide, by decide, by decide, by decide, by decide⟩, fun c _ => by rw [z 2 (by decide)]; decide, ⟨by decide, fun i hi => by omega⟩, ⟨by decide, fun i hi => by omega⟩, ⟨by decide, fun i hi => by omega⟩, by decide, by decide, by decide⟩
theorem DX_D0 : DX D0 := by
  have z : ∀ a, a ≠ 1 → ∀ k, D0 a k = 0 := fun a h k => D0_z h
  unfold DX A22 A23 A24
  rw [z 4 (by decide), z 10 (by decide), z 14 (by decide), z 22 (by decide), z 23 (by decide), z 24 (by decide)]
  exact ⟨⟨fun i hi => by omega, fun c _ h => absurd (z 2 (by decide) c) h, fun i hi => by omega, fun i hi => by omega⟩, Or.inl rfl, Or.inl rfl, Or.inl rfl⟩
theorem c_seatsL : ∀ (m n k : Nat) (M : Mem), k + m = 6 → m < n → (∀ j, j < k → M 55 j = nI j) → ∃ M', f_Tol_startAnew_L42 53 n (nI k) M = some M' ∧ Fr 55 66 M M' ∧ (∀ a, a ≠ 55 → a ≠ 56 → a ≠ 62 → a ≠ 66 → M' a = M a) ∧ (∀ j, j < 6 → M' 55 j = nI j) ∧ M' 56 0 = 0 ∧ M' 62 0 = 0 ∧ M' 66 0 = 0 := by
  intro m
  induction m with
  | zero =>
    intro n k M hk hn hf
    obtain ⟨n, rfl⟩ : ∃ z, n = z + 1 := ⟨n - 1, by omega⟩
    have e : k = 6 := by omega
    subst e
    refine ⟨upd2 (upd2 (upd2 M 56 0 0) 62 0 0) 66 0 0, ?_, ((Fr.rf.set (by decide) (by decide)).set (by decide) (by decide)).set (by decide) (by decide), fun a h1 h2 h3 h4 => by rw [u_ne h4, u_ne h3, u_ne h2], fun j hj => by rw [u_ne (by decide), u_ne (by decide), u_ne (by decide)]; exact hf j hj, ?_, ?_, u_eq⟩
    · rw [f_Tol_startAnew_L42, if_pos (by decide), e_set, e_set, e_set]
    · rw [u_ne (by decide), u_ne (by decide), u_eq]
    · rw [u_ne (by decide), u_eq]
  | succ m ih =>
    intro n k M hk hn hf
    obtain ⟨n, rfl⟩ : ∃ z, n = z + 1 := ⟨n - 1, by omega⟩
    obtain ⟨M', r1, r2, r3, r4, r5⟩ := ih n (k + 1) (upd2 M 55 k (nI k)) (by omega) (by omega) (fun j hj => by
      by_cases e : j = k
      · subst e; exact u_eq
      · rw [u_nk e]; exact hf j (by omega))
    refine ⟨M', ?_, (Fr.rf.set (by decide) (by decide)).tr r2, fun a h1 h2 h3 h4 => by rw [r3 a h1 h2 h3 h4, u_ne h1], r4, r5⟩
    rw [f_Tol_startAnew_L42, if_neg (by rw [l6, nI_leI (by omega) (by omega)]; omega), e_ckn (by omega) (by decide), e_set, show ix (nI k) = k from e_ix (by omega), nI_1]
    exact r1
theorem c_begin {b : Nat → Nat} {L : Nat} (hL : L ≤ 320) (hb : ∀ j, j < L → b j < 256) {M : Mem} (t : Tc b L M) : ∃ M', f_Rea_readLines M = f_Rea_readLines_L33 1000 (nI 0) M' ∧ CI b L (nx b L (0, 0, 0, 0, 0, 0)) D0 M' ∧ Fr 52 70 M M' := by
  obtain ⟨M1, hf, a2, a3⟩ := fill_ok (M := upd2 (upd2 (upd2 (upd2 (upd2 (upd2 M 53 0 9) 53 1 7) 53 2 3) 53 3 5) 53 4 0) 53 5 0) (a := 54) (n := 81) (x := 0) (by decide)
  obtain ⟨M2, b1, b2, b2', b3, b4, b5, b6⟩ := c_seatsL 6 1000 0 M1 rfl (by decide) (fun j hj => by omega)
  have hs : f_Tol_startAnew 53 M = some M2 := by
    unfold f_Tol_startAnew
    rw [e_set, e_set, e_set, e_set, e_set, e_set, show 53 + 1 = 54 from rfl, hf, e_bnd]
    exact b1
  have e53 : ∀ j, M2 53 j = upd2 (upd2 (upd2 (upd2 (upd2 (upd2 M 53 0 9) 53 1 7) 53 2 3) 53 3 5) 53 4 0) 53 5 0 53 j := fun j => by
    rw [b2' 53 (by decide) (by decide) (by decide) (by decide), a2 53 (by decide)]
  obtain ⟨M3, h3⟩ : ∃ M3, M3 = upd2 (upd2 (upd2 (upd2 M2 52 2 0) 52 3 (-1)) 70 6 0) 70 4 0 := ⟨_, rfl⟩
  have f0 : Fr 52 70 M (upd2 (upd2 (upd2 (upd2 (upd2 (upd2 M 53 0 9) 53 1 7) 53 2 3) 53 3 5) 53 4 0) 53 5 0) := (((((Fr.rf.set (by decide) (by decide)).set (by decide) (by decide)).set (by decide) (by decide)).set (by decide) (by decide)).set (by decide) (by decide)).set (by decide) (by decide)
  have f3 : Fr 52 70 M M3 := by
    rw [h3]
    exact ((((f0.tr (a2.up (by decide) (by decide))).tr (b2.up (by decide) (by decide))).set (by decide) (by decide)).set (by decide) (by decide)).set (by decide) (by decide) |>.set (by decide) (by decide)
  have z : ∀ a, a ≠ 1 → ∀ k, D0 a k = 0 := fun a h k => D0_z h
  have un : ∀ a, a ≠ 52 → a ≠ 70 → M3 a = M2 a := fun a h1 h2 => by rw [h3, u_ne h2, u_ne h2, u_ne h1, u_ne h1]
  have t3 : Tc b L M3 := by
    refine ⟨?_, fun j hj => ?_⟩
    · rw [h3, u_nk (by decide), u_nk (by decide), u_ne (by decide), u_ne (by decide), b2' 70 (by decide) (by decide) (by decide) (by decide), a2 70 (by decide)]
      rw [u_ne (by decide), u_ne (by decide), u_ne (by decide), u_ne (by decide), u_ne (by decide), u_ne (by decide)]
      exact t.1
    · rw [f3 71 (by decide)]
      exact t.2 j hj
  have dc : DC D0 M3 := by
    unfold DC
    rw [un 53 (by decide) (by decide), un 54 (by decide) (by decide), un 55 (by decide) (by decide), un 56 (by decide) (by decide), un 62 (by decide) (by decide), un 66 (by decide) (by decide), z 4 (by decide), z 10 (by decide), z 14 (by decide), z 21 (by decide), b4, b5, b6, rl_D0]
    refine ⟨⟨fun j hj => ?_, fun c hc => ?_, b3⟩, ⟨⟨rfl, fun a x y i hi => by omega⟩, ⟨rfl, fun a x y i hi => by omega⟩, rfl, fun a x y i hi => by omega⟩, ?_, ?_⟩
    · rw [e53]
      rcases (show j = 0 ∨ j = 1 ∨ j = 2 ∨ j = 3 ∨ j = 4 by omega) with rfl | rfl | rfl | rfl | rfl
      · rw [u_nk (by decide), u_nk (by decide), u_nk (by decide), u_nk (by decide), u_nk (by decide), u_eq]; rfl
      · rw [u_nk (by decide), u_nk (by decide), u_nk (by decide), u_nk (by decide), u_eq]; rfl
      · rw [u_nk (by decide), u_nk (by decide), u_nk (by decide), u_eq]; rfl
      · rw [u_nk (by decide), u_nk (by decide), u_eq]; rfl
      · rw [u_nk (by decide), u_eq]; rfl
    · rw [z 2 (by decide), b2' 54 (by decide) (by decide) (by decide) (by decide), a3 c hc]
      rfl
    · rw [h3, u_ne (by decide), u_ne (by decide), u_nk (by decide), u_eq]
    · rw [h3, u_ne (by decide), u_ne (by decide), u_eq, if_pos rfl]
  have cn : Cn M3 := by
    unfold Cn
    rw [un 56 (by decide) (by decide), un 62 (by decide) (by decide), un 66 (by decide) (by decide)]
    exact ⟨⟨0, by decide, b4⟩, ⟨0, by decide, b5⟩, ⟨0, by decide, b6⟩⟩
  obtain ⟨M4, c1, c2, c3⟩ := c_nextL hL hb t3 (p := 0) (Nat.zero_le _) (by rw [h3, u_eq]) (by rw [h3, u_nk (by decide), u_eq]; rfl)
  have en : nxp b L (sk (isSp b L) 320 0) = nx b L (0, 0, 0, 0, 0, 0) := (if_pos rfl).symm
  rw [en] at c2
  refine ⟨M4, ?_, ⟨t3.f c3, nx_w hL (fun _ => Nat.zero_le _) (fun e => absurd rfl e), c2, cn.f c3, fun _ => dc.f c3⟩, f3.tr c3.fl⟩
  unfold f_Rea_readLines f_Tap_rewind
  rw [hs, e_bnd, e_set, e_set, e_set, e_set, e_bnd, ← h3, c1, e_bnd]
  rfl
