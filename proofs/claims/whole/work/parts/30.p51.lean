/-! pure: a text is read, in both -/
theorem byt {M : Mem} {L : Nat} (h : ∀ j, j < L → ∃ b : Nat, b < 256 ∧ M 112 j = nI b ∧ M 71 j = (nI b).toInt8.toInt32) : ∃ b : Nat → Nat, ∀ j, j < L → b j < 256 ∧ M 112 j = nI (b j) ∧ M 71 j = sgb (b j) :=
  Classical.skolem.mp (show ∀ j, ∃ b : Nat, j < L → b < 256 ∧ M 112 j = nI b ∧ M 71 j = sgb b from fun j => by
    by_cases hj : j < L
    · obtain ⟨b, h1, h2, h3⟩ := h j hj
      exact ⟨b, fun _ => ⟨h1, h2, h3⟩⟩
    · exact ⟨0, fun e => absurd e hj⟩)
theorem tx_end {b : Nat → Nat} {L : Nat} {z : Tz} {D : Tn} {M : Mem} (hL : L ≤ 320) (c : CI b L z D M) (hz : z.1 = 0 → z.2.2.1 = 0 ∧ DG D ∧ DX D ∧ z.2.2.2.1 = L) (w : Int32) : ∃ (y : Tz) (M' : Mem), f_Rea_readLines_J82 w M = some (w, M') ∧ Fr 52 70 M M' ∧ CI b L y D M' ∧ (y.1 = 0 → DG D ∧ DX D ∧ ¬ F6 D ∧ M' 53 5 = nI (pplN D)) ∧ ∀ (x : Int32) (Mr : Mem), MI b L z D Mr → ∃ Mr', f_Mod_text_J44 x Mr = f_Mod_text_J120 x Mr' ∧ MI b L y D Mr' ∧ Fq Mr Mr' := by
  by_cases q : z.1 = 0
  · obtain ⟨-, g, x, hs⟩ := hz q
    obtain ⟨M', a1, a2, a3, a4, a5, a6⟩ := c_end hL c q hs g x w
    by_cases n6 : F6 D
    · exact ⟨flt 6 z, M', a1, a2, a3 n6, fun e => absurd e (flt_ne (by decide)), fun x Mr r => by
        obtain ⟨Mr', b1, b2, b3, -, -⟩ := m_end hL r q g x
        exact ⟨Mr', b1, b3 n6, b2⟩⟩
    · by_cases fr : frB D (D 4 0)
      · exact ⟨z, M', a1, a2, a5 n6 fr, fun _ => ⟨g, x, n6, a6⟩, fun x Mr r => by
          obtain ⟨Mr', b1, b2, -, -, b3⟩ := m_end hL r q g x
          exact ⟨Mr', b1, b3 n6 fr, b2⟩⟩
      · exact ⟨flt 7 z, M', a1, a2, a4 n6 fr, fun e => absurd e (flt_ne (by decide)), fun x Mr r => by
          obtain ⟨Mr', b1, b2, -, b3, -⟩ := m_end hL r q g x
          exact ⟨Mr', b1, b3 n6 fr, b2⟩⟩
  · obtain ⟨M', a1, a2, a3⟩ := c_endD hL c q w
    refine ⟨z, M', a1, a2, a3, fun e => absurd e q, fun x Mr r => ⟨Mr, ?_, r, Fq.rf⟩⟩
    unfold f_Mod_text_J44
    rw [if_neg (fun e => q (r.z0.mp e))]
theorem tx_read {M : Mem} (hT : InvT M) : ∃ (v : Int32) (b : Nat → Nat) (L : Nat) (y : Tz) (D : Tn) (M' : Mem), f_Rea_readLines M = some (v, M') ∧ Fr 52 70 M M' ∧ CI b L y D M' ∧ (y.1 = 0 → DG D ∧ DX D ∧ ¬ F6 D ∧ M' 53 5 = nI (pplN D)) ∧ ∀ Mr : Mem, Mr 103 22 = M 103 22 → Mr 112 = M 112 → ∃ Mr', f_Mod_text Mr = f_Mod_text_J120 v Mr' ∧ MI b L y D Mr' ∧ Fq Mr Mr' := by
  obtain ⟨L, hL, t1, t2, t3⟩ := hT
  obtain ⟨b, hb⟩ := byt t3
  have hb' : ∀ j, j < L → b j < 256 := fun j hj => (hb j hj).1
  have tc : Tc b L M := ⟨t1, fun j hj => (hb j hj).2.2⟩
  obtain ⟨M1, a1, a2, a3⟩ := c_begin hL hb' tc
  obtain ⟨zE, DE, cnt, M2, b1, b2, b3, b4, b5, b6⟩ := lp_all hL hb' 321 1000 0 (nx b L (0, 0, 0, 0, 0, 0)) D0 M1 (by decide) a2 (fun e => ⟨DG_D0, DX_D0, Nat.zero_le _, fun t0 => (nx_pos e).2.2.2 t0⟩) rfl
  obtain ⟨y, M3, c1, c2, c3, c4, c5⟩ := tx_end hL b2 b4 (nI cnt)
  refine ⟨nI cnt, b, L, y, DE, M3, ?_, a3.tr (b3.tr c2), c3, c4, fun Mr h1 h2 => ?_⟩
  · rw [a1, b1, c1]
  · have tp : Tpm b L Mr := ⟨by rw [h1]; exact t2, fun j hj => by rw [h2]; exact (hb j hj).2.1⟩
    obtain ⟨Mr1, d1, d2, d3⟩ := m_begin hL hb' tp
    obtain ⟨Mr2, e1, e2, e3⟩ := b6 Mr1 d2
    obtain ⟨Mr3, f1, f2, f3⟩ := c5 (nI cnt) Mr2 e2
    exact ⟨Mr3, by rw [d1, e1, f1], f2, d3.tr (e3.tr f3)⟩
/-! what the invariant rests on -/
theorem On.mv {T : Tn} {M M' : Mem} (h : On T M) (e : ∀ a, 1 ≤ a → a ≤ 17 → M' a = M a) : On T M' := by
  unfold On
  rw [e 1 (by decide) (by decide), e 2 (by decide) (by decide), e 3 (by decide) (by decide), e 4 (by decide) (by decide), e 10 (by decide) (by decide), e 14 (by decide) (by decide)]
  refine ⟨h.1, h.2.1, h.2.2.1, h.2.2.2.1, fun a h1 h2 => ?_, h.2.2.2.2.2.1, fun a h1 h2 => ?_, h.2.2.2.2.2.2.2.1, fun a h1 h2 => ?_⟩
  · rw [e a (by omega) (by omega)]; exact h.2.2.2.2.1 a h1 h2
  · rw [e a (by omega) (by omega)]; exact h.2.2.2.2.2.2.1 a h1 h2
  · rw [e a (by omega) (by omega)]; exact h.2.2.2.2.2.2.2.2 a h1 h2
theorem OnM.mv {T : Tn} {M M' : Mem} (h : OnM T M) (e : ∀ a, 104 ≤ a → a ≤ 107 → M' a = M a) (e3 : ∀ k, k ≤ 8 → M' 103 k = M 103 k) : OnM T M' := by
  unfold OnM at h ⊢
  rw [e3 2 (by decide), e3 3 (by decide), e3 4 (by decide), e3 5 (by decide), e3 6 (by decide), e3 7 (by decide), e3 8 (by decide), e 104 (by decide) (by decide), e 106 (by decide) (by decide), e 107 (by decide) (by decide)]
  exact h
theorem InvI.mv {T : Tn} {M M' : Mem} (h : InvI T M) (e0 : M' 0 3 = M 0 3) (e : ∀ a, 18 ≤ a → a ≤ 51 → M' a = M a) (e4 : M' 104 = M 104) (e5 : M' 105 = M 105) : InvI T M' := by
  obtain ⟨k0, k1, i1, i2, i3, i4, i5, i6, i7⟩ := h
  refine ⟨k0, k1, i1, i2, by rw [e0]; exact i3, by rw [e5]; exact i4, by rw [e5]; exact i5, fun q => ?_, fun q => ?_⟩
  · obtain ⟨I, h⟩ := i6 q
    exact ⟨I, h.mv (fun a ha => e a (by omega) (by omega)) (fun j _ => by rw [e4])⟩
  · obtain ⟨I, h⟩ := i7 q
    exact ⟨I, h.mv (fun a ha => e a (by omega) (by omega)) (fun j _ => by rw [e4])⟩
theorem DC.u70 {D : Tn} {M : Mem} {k : Nat} {x : Int32} (h : DC D M) : DC D (upd2 M 70 k x) := by
  unfold DC
  rw [u_ne (show (52 : Nat) ≠ 70 by decide), u_ne (show (53 : Nat) ≠ 70 by decide), u_ne (show (54 : Nat) ≠ 70 by decide), u_ne (show (55 : Nat) ≠ 70 by decide), u_ne (show (56 : Nat) ≠ 70 by decide), u_ne (show (62 : Nat) ≠ 70 by decide), u_ne (show (66 : Nat) ≠ 70 by decide)]
  obtain ⟨h1, ⟨⟨h2, h3⟩, ⟨h4, h5⟩, h6, h7⟩, h8⟩ := h
  exact ⟨h1, ⟨⟨h2, fun a x y => by rw [u_ne (by omega)]; exact h3 a x y⟩, ⟨h4, fun a x y => by rw [u_ne (by omega)]; exact h5 a x y⟩, h6, fun a x y => by rw [u_ne (by omega)]; exact h7 a x y⟩, h8⟩
