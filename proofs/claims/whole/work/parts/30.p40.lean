/-! pure: a text's beginning in the reference -/
def drf (M : Mem) : Mem := upd2 (upd2 (upd2 (upd2 (upd2 (upd2 (upd2 (upd2 (upd2 (upd2 (upd2 M 111 0 9) 111 1 7) 111 2 3) 111 3 5) 111 4 (-4)) 103 15 0) 103 16 0) 103 17 (-4)) 103 18 0) 103 19 0) 103 20 0
theorem m_draftL : ∀ (m n k : Nat) (M : Mem), k + m = 125 → m < n → (∀ j, j < k → M 108 j = 0) → ∃ M', f_Mod_firstDraft_L2 n (nI k) M = some (drf M') ∧ (∀ a, a ≠ 108 → M' a = M a) ∧ ∀ j, j < 125 → M' 108 j = 0 := by
  intro m
  induction m with
  | zero =>
    intro n k M hk hn hf
    obtain ⟨n, rfl⟩ : ∃ z, n = z + 1 := ⟨n - 1, by omega⟩
    have e : k = 125 := by omega
    subst e
    refine ⟨M, ?_, fun _ _ => rfl, hf⟩
    rw [f_Mod_firstDraft_L2, if_pos (by decide), e_set, e_set, e_set, e_set, e_set, e_set, e_set, e_set, e_set, e_set, e_set]
    rfl
  | succ m ih =>
    intro n k M hk hn hf
    obtain ⟨n, rfl⟩ : ∃ z, n = z + 1 := ⟨n - 1, by omega⟩
    obtain ⟨M', r1, r2, r3⟩ := ih n (k + 1) (upd2 M 108 k 0) (by omega) (by omega) (fun j hj => by
      by_cases e : j = k
      · subst e; exact u_eq
      · rw [u_nk e]; exact hf j (by omega))
    refine ⟨M', ?_, fun a h => by rw [r2 a h, u_ne h], r3⟩
    rw [f_Mod_firstDraft_L2, if_neg (by rw [l125, nI_leI (by omega) (by omega)]; omega), e_ckn (by omega) (by decide), e_set, show ix (nI k) = k from e_ix (by omega), nI_1]
    exact r1
theorem drf_q {M M' : Mem} (h : Fq M M') : Fq M (drf M') := ((((((((((h.s (Or.inl (by decide))).s (Or.inl (by decide))).s (Or.inl (by decide))).s (Or.inl (by decide))).s (Or.inl (by decide))).s (Or.inr (by decide))).s (Or.inr (by decide))).s (Or.inr (by decide))).s (Or.inr (by decide))).s (Or.inr (by decide))).s (Or.inr (by decide))
theorem drf_DM {M : Mem} (hz : ∀ j, j < 125 → M 108 j = 0) : DM D0 (drf M) := by
  have z : ∀ a, a ≠ 1 → ∀ k, D0 a k = 0 := fun a h k => D0_z h
  have e108 : drf M 108 = M 108 := by
    unfold drf
    rw [u_ne (by decide), u_ne (by decide), u_ne (by decide), u_ne (by decide), u_ne (by decide), u_ne (by decide), u_ne (by decide), u_ne (by decide), u_ne (by decide), u_ne (by decide), u_ne (by decide)]
  have e111 : drf M 111 0 = 9 ∧ drf M 111 1 = 7 ∧ drf M 111 2 = 3 ∧ drf M 111 3 = 5 ∧ drf M 111 4 = -4 := ⟨rfl, rfl, rfl, rfl, rfl⟩
  have e103 : drf M 103 15 = 0 ∧ drf M 103 16 = 0 ∧ drf M 103 17 = -4 ∧ drf M 103 18 = 0 ∧ drf M 103 19 = 0 ∧ drf M 103 20 = 0 := ⟨rfl, rfl, rfl, rfl, rfl, rfl⟩
  obtain ⟨a1, a2, a3, a4, a5⟩ := e111
  obtain ⟨b1, b2, b3, b4, b5, b6⟩ := e103
  unfold DM
  rw [e108, a1, a2, a3, a4, a5, b1, b2, b3, b4, b5, b6, z 4 (by decide), z 10 (by decide), z 14 (by decide), z 21 (by decide), z 22 (by decide), z 23 (by decide), z 24 (by decide), rl_D0]
  exact ⟨⟨⟨rfl, rfl, rfl, rfl⟩, hz 81 (by decide), rfl⟩, fun c hc => by rw [z 2 (by decide)]; exact hz c (by omega), ⟨rfl, fun i hi => by omega⟩, ⟨rfl, fun i hi => by omega⟩, ⟨hz 88 (by decide), fun i hi => by omega⟩, rfl, rfl, rfl, rfl⟩
theorem m_begin {b : Nat → Nat} {L : Nat} (hL : L ≤ 320) (hb : ∀ j, j < L → b j < 256) {M : Mem} (t : Tpm b L M) : ∃ M', f_Mod_text M = f_Mod_text_L20 1000 (nI 0) M' ∧ MI b L (nx b L (0, 0, 0, 0, 0, 0)) D0 M' ∧ Fq M M' := by
  obtain ⟨M1, a1, a2, a3⟩ := m_draftL 125 1000 0 (upd2 (upd2 M 103 27 0) 103 23 0) rfl (by decide) (fun j hj => by omega)
  have f0 : F103 M (upd2 (upd2 M 103 27 0) 103 23 0) := (F103.rf.s (by decide) (by decide)).s (by decide) (by decide)
  have f1 : Fq M M1 := f0.q.tr ⟨fun a h1 h2 => a2 a (by omega), fun k _ _ => by rw [a2 103 (by decide)]⟩
  have f2 : Fq M (drf M1) := drf_q f1
  have t2 : Tpm b L (drf M1) := ⟨(f2.2 22 (by decide) (by decide)).trans t.1, fun j hj => by rw [f2.1 112 (by decide) (by decide)]; exact t.2 j hj⟩
  have lo : ∀ k, 23 ≤ k → drf M1 103 k = M1 103 k := fun k hk => by
    unfold drf
    rw [u_nk (by omega), u_nk (by omega), u_nk (by omega), u_nk (by omega), u_nk (by omega), u_nk (by omega), u_ne (by decide), u_ne (by decide), u_ne (by decide), u_ne (by decide), u_ne (by decide)]
  have e27 : drf M1 103 27 = 0 := by rw [lo 27 (by decide), a2 103 (by decide), u_nk (by decide), u_eq]
  have e23 : drf M1 103 23 = nI 0 := by rw [lo 23 (by decide), a2 103 (by decide), u_eq]; rfl
  obtain ⟨M4, c1, c2, c3⟩ := m_nextL hL hb t2 (p := 0) (Nat.zero_le _) e27 e23
  have en : nxp b L (sk (isSp b L) 320 0) = nx b L (0, 0, 0, 0, 0, 0) := (if_pos rfl).symm
  rw [en] at c2
  refine ⟨M4, ?_, ⟨t2.f c3, nx_w hL (fun _ => Nat.zero_le _) (fun e => absurd rfl e), c2, fun _ => (drf_DM a3).f c3⟩, f2.tr c3.q⟩
  unfold f_Mod_text f_Mod_firstDraft
  rw [show (0 : Int32) = nI 0 from rfl] at a1 ⊢
  rw [e_set, e_set, a1, e_bnd, c1, e_bnd]
