/-! pure: all the lines in both -/
theorem lp_all {b : Nat → Nat} {L : Nat} (hL : L ≤ 320) (hb : ∀ j, j < L → b j < 256) : ∀ (m n c : Nat) (z : Tz) (D : Tn) (Mc : Mem), m < n → CI b L z D Mc → (z.1 = 0 → DG D ∧ DX D ∧ c ≤ z.2.2.2.2.2 ∧ (z.2.2.1 = 0 → L ≤ z.2.2.2.1)) → m + c = 321 → ∃ (zE : Tz) (DE : Tn) (cnt : Nat) (Mc' : Mem), f_Rea_readLines_L33 n (nI c) Mc = f_Rea_readLines_J82 (nI cnt) Mc' ∧ CI b L zE DE Mc' ∧ Fr 52 70 Mc Mc' ∧ (zE.1 = 0 → zE.2.2.1 = 0 ∧ DG DE ∧ DX DE ∧ zE.2.2.2.1 = L) ∧ cnt ≤ 321 ∧ ∀ Mr, MI b L z D Mr → ∃ Mr', f_Mod_text_L20 n (nI c) Mr = f_Mod_text_J44 (nI cnt) Mr' ∧ MI b L zE DE Mr' ∧ Fq Mr Mr' := by
  intro m
  induction m with
  | zero =>
    intro n c z D Mc hn h hz hc
    obtain ⟨n, rfl⟩ : ∃ k, n = k + 1 := ⟨n - 1, by omega⟩
    have q : z.1 ≠ 0 := fun q => by
      have := (hz q).2.2.1
      have := (h.2.1.2.2 q).2.2.1
      omega
    refine ⟨z, D, c, Mc, ?_, h, Fr.rf, fun e => absurd e q, by omega, fun Mr r => ⟨Mr, ?_, r, Fq.rf⟩⟩
    · rw [f_Rea_readLines_L33, if_neg (fun e => q ((h.2.2.1.z0 h.2.1).mp e))]
    · rw [f_Mod_text_L20, if_neg (fun e => q (r.z0.mp e))]
  | succ m ih =>
    intro n c z D Mc hn h hz hc
    obtain ⟨n, rfl⟩ : ∃ k, n = k + 1 := ⟨n - 1, by omega⟩
    by_cases q : z.1 = 0
    · obtain ⟨hG, hX, hp, hl⟩ := hz q
      have hw := h.2.1.2.2 q
      have h1 := (h.2.2.1.2.2.2 q).1
      by_cases t : z.2.2.1 = 0
      · refine ⟨z, D, c, Mc, ?_, h, Fr.rf, fun _ => ⟨t, hG, hX, by have := hl t; omega⟩, by omega, fun Mr r => ⟨Mr, ?_, r, Fq.rf⟩⟩
        · rw [f_Rea_readLines_L33, if_pos ((h.2.2.1.z0 h.2.1).mpr q), h1, if_pos t, if_pos (by rfl)]
        · rw [f_Mod_text_L20, if_pos (r.z0.mpr q), (r.2.2.1.2.2 q).1, t, if_pos (by rfl)]
      · obtain ⟨y, D', k1, k2, k3⟩ := ln_all hL hb q hG hX
        obtain ⟨M1, a1, a2, a3⟩ := k1 Mc (fun M9 => f_Rea_readLines_L33 n (nI c + 1) M9) h
        obtain ⟨zE, DE, cnt, M2, b1, b2, b3, b4, b5, b6⟩ := ih n (c + 1) (nx b L y) D' M1 (by omega) a2 (fun e => by
          obtain ⟨g1, g2, g3⟩ := k3 e
          exact ⟨g1, g2, by omega, fun t0 => (nx_pos e).2.2.2 t0⟩) (by omega)
        refine ⟨zE, DE, cnt, M2, ?_, b2, a3.tr b3, b4, b5, fun Mr r => ?_⟩
        · rw [f_Rea_readLines_L33, if_pos ((h.2.2.1.z0 h.2.1).mpr q), h1, if_neg t, if_neg (by rw [l4, nI_eq (by omega) (by omega)]; omega), if_neg (by rw [l320, nI_ltI (by omega) (by omega)]; omega)]
          rw [a1, nI_1]
          exact b1
        · obtain ⟨Mr1, d1, d2, d3⟩ := k2 Mr r
          obtain ⟨Mr2, e1, e2, e3⟩ := b6 Mr1 d2
          refine ⟨Mr2, ?_, e2, d3.tr e3⟩
          rw [f_Mod_text_L20, if_pos (r.z0.mpr q), (r.2.2.1.2.2 q).1, if_neg (by rw [l0, nI_eq (by omega) (by omega)]; exact t), d1, e_bnd, nI_1]
          exact e1
    · refine ⟨z, D, c, Mc, ?_, h, Fr.rf, fun e => absurd e q, by omega, fun Mr r => ⟨Mr, ?_, r, Fq.rf⟩⟩
      · rw [f_Rea_readLines_L33, if_neg (fun e => q ((h.2.2.1.z0 h.2.1).mp e))]
      · rw [f_Mod_text_L20, if_neg (fun e => q (r.z0.mp e))]
