/-! pure: the class's lines -/
def nm (y : Tz) : Nat := y.2.2.2.2.1
theorem nm_ck {lo hi : Nat} {y : Tz} (h : (ckN lo hi y).1 = 0) : nm (ckN lo hi y) = nm y := by rw [(ckN_l h).1]
section CLN
variable {b : Nat → Nat} {L : Nat} {z : Tz} {D : Tn} {M : Mem}
theorem CI.tri (c : CI b L z D M) {t : Nat} (ht : t = 62 ∨ t = 66) {u v w : Nat} {x1 x2 x3 : Int32} (hn : z.1 = 0 → D (t - 52) 0 < 12) (hx : z.1 = 0 → x1 = nI u ∧ x2 = nI v ∧ x3 = nI w) : ∃ M', f_Tri_add t x1 x2 x3 M = some M' ∧ CI b L z (tP D (t - 52) u v w) M' ∧ Fr 52 70 M M' := by
  obtain ⟨c1, c2, c3, c4, c5⟩ := c
  have hk : ∃ k, k ≤ 12 ∧ M t 0 = nI k := by
    rcases ht with rfl | rfl
    · exact c4.2.1
    · exact c4.2.2
  obtain ⟨n, n1, n2⟩ := hk
  unfold f_Tri_add
  rw [n2, if_neg (by rw [l0, nI_ltI (by omega) (by omega)]; omega)]
  by_cases q : n < 12
  · rw [if_pos (by rw [l12, nI_ltI (by omega) (by omega)]; exact q), e_ckn q (by decide), e_set, show ix (nI n) = n from e_ix (by omega)]
    simp only [u_ne (show t ≠ t + 1 by omega), u_ne (show t ≠ t + 2 by omega), u_ne (show t ≠ t + 3 by omega), n2, e_ckn q (show 12 ≤ 2147483648 by decide), e_set, show ix (nI n) = n from e_ix (by omega), nI_1]
    have un : ∀ a, (a < t ∨ t + 3 < a) → ∀ k, upd2 (upd2 (upd2 (upd2 M (t + 1) n x1) (t + 2) n x2) (t + 3) n x3) t 0 (nI (n + 1)) a k = M a k := fun a ha k => by
      rw [u_ne (by omega), u_ne (by omega), u_ne (by omega), u_ne (by omega)]
    refine ⟨_, rfl, ⟨(((c1.u (by omega)).u (by omega)).u (by omega)).u (by omega), c2, (((c3.u (by omega)).u (by omega)).u (by omega)).u (by omega), ?_, fun h => ?_⟩, (((Fr.rf.set (by omega) (by omega)).set (by omega) (by omega)).set (by omega) (by omega)).set (by omega) (by omega)⟩
    · unfold Cn
      rcases ht with rfl | rfl
      · rw [un 56 (by decide), un 66 (by decide)]
        exact ⟨c4.1, ⟨n + 1, by omega, u_eq⟩, c4.2.2⟩
      · rw [un 56 (by decide), un 62 (by decide)]
        exact ⟨c4.1, c4.2.1, ⟨n + 1, by omega, u_eq⟩⟩
    · obtain ⟨⟨h1, h2, h3⟩, ⟨⟨h4, h5⟩, ⟨h6, h7⟩, h8, h9⟩, h10, h11⟩ := c5 h
      obtain ⟨g1, g2, g3⟩ := hx h
      have h0 := hn h
      have en : n = D (t - 52) 0 := by
        rcases ht with rfl | rfl
        · have h0' : D 10 0 < 12 := h0
          rw [n2, nI_eq (by omega) (by omega)] at h6
          exact h6
        · have h0' : D 14 0 < 12 := h0
          rw [n2, nI_eq (by omega) (by omega)] at h8
          exact h8
      subst en
      have row : ∀ a, t + 1 ≤ a → a ≤ t + 3 → (∀ i, i < D (t - 52) 0 → M a i = nI (D (a - 52) i)) → ∀ i, i < D (t - 52) 0 + 1 → upd2 (upd2 (upd2 (upd2 M (t + 1) (D (t - 52) 0) x1) (t + 2) (D (t - 52) 0) x2) (t + 3) (D (t - 52) 0) x3) t 0 (nI (D (t - 52) 0 + 1)) a i = nI (tP D (t - 52) u v w (a - 52) i) := fun a a1 a2 hh i hi => by
        rw [u_ne (by omega)]
        by_cases e : i = D (t - 52) 0
        · subst e
          rcases (show a = t + 1 ∨ a = t + 2 ∨ a = t + 3 by omega) with rfl | rfl | rfl
          · rw [u_ne (by omega), u_ne (by omega), u_eq, show t + 1 - 52 = t - 52 + 1 by omega, tP_1, g1]
          · rw [u_ne (by omega), u_eq, show t + 2 - 52 = t - 52 + 2 by omega, tP_2, g2]
          · rw [u_eq, show t + 3 - 52 = t - 52 + 3 by omega, tP_3, g3]
        · rw [tP_i (by omega) e]
          have s : ∀ {M : Mem} {a' : Nat} {v : Int32}, upd2 M a' (D (t - 52) 0) v a i = M a i := fun {M a' v} => by
            by_cases u : a = a'
            · subst u; exact u_nk e
            · rw [u_ne u]
          rw [s, s, s]
          exact hh i (by omega)
      refine ⟨⟨fun j hj => ?_, fun c hc => ?_, fun p hp => ?_⟩, ⟨⟨?_, fun a x y i hi => ?_⟩, ⟨?_, fun a x y i hi => ?_⟩, ?_, fun a x y i hi => ?_⟩, ?_, ?_⟩
      · rw [un 53 (by omega), tP_o (by omega)]; exact h1 j hj
      · rw [un 54 (by omega), tP_o (by omega)]; exact h2 c hc
      · rw [un 55 (by omega)]; exact h3 p hp
      · rw [un 56 (by omega), tP_o (by omega)]; exact h4
      · rw [tP_o (by omega)] at hi; rw [un a (by omega), tP_o (by omega)]; exact h5 a x y i hi
      · rcases ht with rfl | rfl
        · rw [u_eq]; exact congrArg nI tP_t.symm
        · rw [un 62 (by decide), tP_o (by decide)]; exact h6
      · rcases ht with rfl | rfl
        · have hi' : i < D 10 0 + 1 := by
            have e : tP D (62 - 52) u v w 10 0 = D 10 0 + 1 := tP_t
            rw [e] at hi; exact hi
          exact row a (by omega) (by omega) (h7 a x y) i hi'
        · rw [tP_o (by decide)] at hi; rw [un a (by omega), tP_o (by omega)]; exact h7 a x y i hi
      · rcases ht with rfl | rfl
        · rw [un 66 (by decide), tP_o (by decide)]; exact h8
        · rw [u_eq]; exact congrArg nI tP_t.symm
      · rcases ht with rfl | rfl
        · rw [tP_o (by decide)] at hi; rw [un a (by omega), tP_o (by omega)]; exact h9 a x y i hi
        · have hi' : i < D 14 0 + 1 := by
            have e : tP D (66 - 52) u v w 14 0 = D 14 0 + 1 := tP_t
            rw [e] at hi; exact hi
          exact row a (by omega) (by omega) (h9 a x y) i hi'
      · rw [un 52 (by omega), h10]; unfold rlM; exact orN_cg (fun r _ => by rw [tP_o (by omega)])
      · rw [un 52 (by omega), tP_o (by omega)]; exact h11
  · rw [if_neg (by rw [l12, nI_ltI (by omega) (by omega)]; exact q)]
    refine ⟨M, rfl, ⟨c1, c2, c3, c4, fun h => ?_⟩, Fr.rf⟩
    obtain ⟨⟨h1, h2, h3⟩, ⟨⟨h4, h5⟩, ⟨h6, h7⟩, h8, h9⟩, h10, h11⟩ := c5 h
    have h0 := hn h
    rcases ht with rfl | rfl
    · have h0' : D 10 0 < 12 := h0
      rw [n2, nI_eq (by omega) (by omega)] at h6
      omega
    · have h0' : D 14 0 < 12 := h0
      rw [n2, nI_eq (by omega) (by omega)] at h8
      omega
/-- the rule's first step: told twice? -/
def lnf (D : Tn) (i : Nat) (z : Tz) : Tz := if D 20 i = 1 then flt 4 z else z
def full (n m : Nat) (z : Tz) : Tz := if m ≤ n then flt 5 z else z
theorem c_rule (hL : L ≤ 320) (c : CI b L z D M) (q : z.1 = 0) {i : Nat} (hi : i < 5) : ∃ M', f_Rea_readRule (nI i) M = f_Rea_readRule_J17 (nI i) M' ∧ CI b L (lnf D i z) D M' ∧ Fr 52 70 M M' := by
  have h := (c.2.2.2.2 q).2.2.1
  unfold f_Rea_readRule f_Hal_bit lnf
  rw [h, rlM, orN_bit (by omega) (by decide), e_bnd]
  by_cases e : D 20 i = 1
  · have eb : (if i < 5 ∧ decide (D 20 i = 1) = true then nI 1 else nI 0) = nI 1 := if_pos ⟨hi, decide_eq_true e⟩
    obtain ⟨M', a1, a2, a3⟩ := c.flt hL (f := 4) (by decide) (by decide)
    rw [eb, if_pos (show nI 1 = 1 from rfl), if_pos e, show (4 : Int32) = nI 4 from rfl, a1, e_bnd]
    exact ⟨M', rfl, a2, a3⟩
  · have eb : (if i < 5 ∧ decide (D 20 i = 1) = true then nI 1 else nI 0) = nI 0 := if_neg (fun x => e (of_decide_eq_true x.2))
    rw [eb, if_neg (show ¬ nI 0 = 1 by decide), if_neg e]
    exact ⟨M, rfl, c, Fr.rf⟩
theorem c_j17 (c : CI b L z D M) {i : Nat} (hi : i < 5) : CI b L z (tset D 20 i 1) (upd2 M 52 2 (M 52 2 ||| jshl 1 (nI i))) ∧ Fr 52 70 M (upd2 M 52 2 (M 52 2 ||| jshl 1 (nI i))) := c.set (by decide) (by decide) (fun _ h => h.s522 hi)
theorem c_ln0 (hL : L ≤ 320) (hb : ∀ j, j < L → b j < 256) (c : CI b L z D M) (q : z.1 = 0) : ∃ M', f_Rea_readLine (nI 0) M = some M' ∧ CI b L (ckS (nx b L (ckN 3 9 (nx b L (ckN 3 9 (nx b L (lnf D 0 z))))))) (tset (tset (tset D 20 0 1) 1 0 (nm (nx b L (lnf D 0 z)))) 1 1 (nm (nx b L (ckN 3 9 (nx b L (lnf D 0 z)))))) M' ∧ Fr 52 70 M M' := by
  obtain ⟨M1, a1, a2, a3⟩ := c_rule hL c q (i := 0) (by decide)
  obtain ⟨b1, b2⟩ := c_j17 a2 (i := 0) (by decide)
  obtain ⟨k, M2, d1, d2, d3, d4, d5, d6⟩ := b1.num hL hb (lo := 3) (hi := 9) (by decide) (by decide)
  obtain ⟨e1, e2⟩ := d2.set (a := 53) (k := 0) (x := nI k) (D' := tset (tset D 20 0 1) 1 0 (nm (nx b L (lnf D 0 z)))) (by decide) (by decide) (fun e h => by rw [d6 e]; exact h.s53)
  obtain ⟨k2, M3, g1, g2, g3, g4, g5, g6⟩ := e1.num hL hb (lo := 3) (hi := 9) (by decide) (by decide)
  obtain ⟨h1, h2⟩ := g2.set (a := 53) (k := 1) (x := nI k2) (D' := tset (tset (tset D 20 0 1) 1 0 (nm (nx b L (lnf D 0 z)))) 1 1 (nm (nx b L (ckN 3 9 (nx b L (lnf D 0 z)))))) (by decide) (by decide) (fun e h => by rw [g6 e]; exact h.s53)
  obtain ⟨M4, i1, i2, i3⟩ := h1.sign hL hb
  refine ⟨M4, ?_, i2, a3.tr (b2.tr (d3.tr (e2.tr (g3.tr (h2.tr i3)))))⟩
  unfold f_Rea_readLine f_Rea_readLine_J60
  rw [if_pos (by rfl), a1, f_Rea_readRule_J17, e_set, if_pos (by rfl), show (3 : Int32) = nI 3 from rfl, show (9 : Int32) = nI 9 from rfl, d1, e_bnd2, e_set, g1, e_bnd2, e_set, f_Rea_readRule_J153, i1, e_bnd, e_bnd]

theorem c_ln1 (hL : L ≤ 320) (hb : ∀ j, j < L → b j < 256) (c : CI b L z D M) (q : z.1 = 0) : ∃ M', f_Rea_readLine (nI 1) M = some M' ∧ CI b L (ckS (nx b L (ckN 0 20 (nx b L (lnf D 1 z))))) (tset (tset D 20 1 1) 1 2 (nm (nx b L (lnf D 1 z)))) M' ∧ Fr 52 70 M M' := by
  obtain ⟨M1, a1, a2, a3⟩ := c_rule hL c q (i := 1) (by decide)
  obtain ⟨b1, b2⟩ := c_j17 a2 (i := 1) (by decide)
  obtain ⟨k, M2, d1, d2, d3, d4, d5, d6⟩ := b1.num hL hb (lo := 0) (hi := 20) (by decide) (by decide)
  obtain ⟨h1, h2⟩ := d2.set (a := 53) (k := 2) (x := nI k) (D' := (tset (tset D 20 1 1) 1 2 (nm (nx b L (lnf D 1 z))))) (by decide) (by decide) (fun e h => by rw [d6 e]; exact h.s53)
  obtain ⟨M4, i1, i2, i3⟩ := h1.sign hL hb
  refine ⟨M4, ?_, i2, a3.tr (b2.tr (d3.tr (h2.tr i3)))⟩
  unfold f_Rea_readLine f_Rea_readLine_J60
  rw [if_neg (show ¬ nI 1 = 0 by decide), if_pos (by rfl), a1, f_Rea_readRule_J17, e_set, if_neg (show ¬ nI 1 = 0 by decide), if_pos (show nI 1 = 1 from rfl), show (0 : Int32) = nI 0 from rfl, show (20 : Int32) = nI 20 from rfl, d1, e_bnd2, e_set, f_Rea_readRule_J153, i1, e_bnd, e_bnd]
theorem c_ln2 (hL : L ≤ 320) (hb : ∀ j, j < L → b j < 256) (c : CI b L z D M) (q : z.1 = 0) : ∃ M', f_Rea_readLine (nI 2) M = some M' ∧ CI b L (ckS (nx b L (ckN 0 50 (nx b L (lnf D 2 z))))) (tset (tset D 20 2 1) 1 3 (nm (nx b L (lnf D 2 z)))) M' ∧ Fr 52 70 M M' := by
  obtain ⟨M1, a1, a2, a3⟩ := c_rule hL c q (i := 2) (by decide)
  obtain ⟨b1, b2⟩ := c_j17 a2 (i := 2) (by decide)
  obtain ⟨k, M2, d1, d2, d3, d4, d5, d6⟩ := b1.num hL hb (lo := 0) (hi := 50) (by decide) (by decide)
  obtain ⟨h1, h2⟩ := d2.set (a := 53) (k := 3) (x := nI k) (D' := (tset (tset D 20 2 1) 1 3 (nm (nx b L (lnf D 2 z))))) (by decide) (by decide) (fun e h => by rw [d6 e]; exact h.s53)
  obtain ⟨M4, i1, i2, i3⟩ := h1.sign hL hb
  refine ⟨M4, ?_, i2, a3.tr (b2.tr (d3.tr (h2.tr i3)))⟩
  unfold f_Rea_readLine f_Rea_readLine_J60
  rw [if_neg (show ¬ nI 2 = 0 by decide), if_neg (show ¬ nI 2 = 1 by decide), if_pos (by rfl), a1, f_Rea_readRule_J17, e_set, if_neg (show ¬ nI 2 = 0 by decide), if_neg (show ¬ nI 2 = 1 by decide), if_pos (show nI 2 = 2 from rfl), show (0 : Int32) = nI 0 from rfl, show (50 : Int32) = nI 50 from rfl, d1, e_bnd2, e_set, f_Rea_readRule_J153, i1, e_bnd, e_bnd]
theorem c_ln3 (hL : L ≤ 320) (hb : ∀ j, j < L → b j < 256) (c : CI b L z D M) (q : z.1 = 0) : ∃ M', f_Rea_readLine (nI 3) M = some M' ∧ CI b L (ckS (nx b L (ckN 0 9 (nx b L (lnf D 3 z))))) (tset (tset D 20 3 1) 1 4 (nm (nx b L (lnf D 3 z)))) M' ∧ Fr 52 70 M M' := by
  obtain ⟨M1, a1, a2, a3⟩ := c_rule hL c q (i := 3) (by decide)
  obtain ⟨b1, b2⟩ := c_j17 a2 (i := 3) (by decide)
  obtain ⟨k, M2, d1, d2, d3, d4, d5, d6⟩ := b1.num hL hb (lo := 0) (hi := 9) (by decide) (by decide)
  obtain ⟨h1, h2⟩ := d2.set (a := 53) (k := 4) (x := nI k) (D' := (tset (tset D 20 3 1) 1 4 (nm (nx b L (lnf D 3 z))))) (by decide) (by decide) (fun e h => by rw [d6 e]; exact h.s53)
  obtain ⟨M4, i1, i2, i3⟩ := h1.sign hL hb
  refine ⟨M4, ?_, i2, a3.tr (b2.tr (d3.tr (h2.tr i3)))⟩
  unfold f_Rea_readLine f_Rea_readLine_J60
  rw [if_neg (show ¬ nI 3 = 0 by decide), if_neg (show ¬ nI 3 = 1 by decide), if_neg (show ¬ nI 3 = 2 by decide), if_pos (by rfl), a1, f_Rea_readRule_J17, e_set, if_neg (show ¬ nI 3 = 0 by decide), if_neg (show ¬ nI 3 = 1 by decide), if_neg (show ¬ nI 3 = 2 by decide), if_pos (show nI 3 = 3 from rfl), show (0 : Int32) = nI 0 from rfl, show (9 : Int32) = nI 9 from rfl, d1, e_bnd2, e_set, f_Rea_readRule_J153, i1, e_bnd, e_bnd]
theorem c_ln4 (hL : L ≤ 320) (hb : ∀ j, j < L → b j < 256) (c : CI b L z D M) (q : z.1 = 0) : ∃ M', f_Rea_readLine (nI 4) M = some M' ∧ CI b L (ckS (nx b L (ckN 0 6 (nx b L (lnf D 4 z))))) (tset (tset D 20 4 1) 21 0 (nm (nx b L (lnf D 4 z)) + 1)) M' ∧ Fr 52 70 M M' := by
  obtain ⟨M1, a1, a2, a3⟩ := c_rule hL c q (i := 4) (by decide)
  obtain ⟨b1, b2⟩ := c_j17 a2 (i := 4) (by decide)
  obtain ⟨k, M2, d1, d2, d3, d4, d5, d6⟩ := b1.num hL hb (lo := 0) (hi := 6) (by decide) (by decide)
  obtain ⟨h1, h2⟩ := d2.set (a := 52) (k := 3) (x := nI k) (D' := (tset (tset D 20 4 1) 21 0 (nm (nx b L (lnf D 4 z)) + 1))) (by decide) (by decide) (fun e h => by rw [d6 e]; exact h.s523)
  obtain ⟨M4, i1, i2, i3⟩ := h1.sign hL hb
  refine ⟨M4, ?_, i2, a3.tr (b2.tr (d3.tr (h2.tr i3)))⟩
  unfold f_Rea_readLine f_Rea_readLine_J60
  rw [if_neg (show ¬ nI 4 = 0 by decide), if_neg (show ¬ nI 4 = 1 by decide), if_neg (show ¬ nI 4 = 2 by decide), if_neg (show ¬ nI 4 = 3 by decide), if_pos (by rfl), a1, f_Rea_readRule_J17, e_set, if_neg (show ¬ nI 4 = 0 by decide), if_neg (show ¬ nI 4 = 1 by decide), if_neg (show ¬ nI 4 = 2 by decide), if_neg (show ¬ nI 4 = 3 by decide), show (0 : Int32) = nI 0 from rfl, show (6 : Int32) = nI 6 from rfl, d1, e_bnd2, e_set, f_Rea_readRule_J153, i1, e_bnd, e_bnd]
/-- the kind at a bench's end -/
def kdZ (b : Nat → Nat) (L : Nat) (z : Tz) : Tz := if z.2.2.1 = 1 then (if sfi (kdI b L z) 5 < 5 then nx b L z else flt 2 z) else z
def kdN (b : Nat → Nat) (L : Nat) (z : Tz) : Nat := if z.2.2.1 = 1 ∧ sfi (kdI b L z) 5 < 5 then sfi (kdI b L z) 5 else 0
theorem c_kindD (c : CI b L z D M) (q : z.1 ≠ 0) : ∀ (m n k : Nat), k + m = 5 → m < n → ∃ v, v ≤ 4 ∧ f_Rea_readKind_L9 n (nI k) M = some (nI v, M) := by
  have h4 : ¬ M 70 4 = 0 := fun e => q ((c.2.2.1.z0 c.2.1).mp e)
  obtain ⟨s, s1, s2⟩ := c.2.2.1.2.2.1
  have nmd : ∀ i, i < 16 → ∃ v : Int32, f_Tap_isName (1010 + i) M = some v := fun i hi => by
    have hs := slen_le i hi
    have lp : ∀ (m n k : Nat), k + m = slen (1010 + i) → m < n → ∃ v : Int32, f_Tap_isName_L28 (1010 + i) M n (nI k) = some v := fun m => by
      induction m with
      | zero =>
        intro n k hk hn
        obtain ⟨n, rfl⟩ : ∃ z, n = z + 1 := ⟨n - 1, by omega⟩
        exact ⟨1, by rw [f_Tap_isName_L28, if_pos (by rw [nI_leI (by omega) (by omega)]; omega)]⟩
      | succ m ih =>
        intro n k hk hn
        obtain ⟨n, rfl⟩ : ∃ z, n = z + 1 := ⟨n - 1, by omega⟩
        rw [f_Tap_isName_L28, if_neg (by rw [nI_leI (by omega) (by omega)]; omega), s2, nI_add]
        by_cases u : 320 ≤ s + k
        · exact ⟨1, by rw [if_pos (by rw [l320, nI_leI (by omega) (by omega)]; exact u)]⟩
        · rw [if_neg (by rw [l320, nI_leI (by omega) (by omega)]; exact u), e_ckn (by omega) (by decide), e_ckn (by omega) (by omega), nI_1]
          by_cases x : M 71 (ix (nI (s + k))) = sch (1010 + i) (ix (nI k))
          · rw [if_pos x]; exact ih n (k + 1) (by omega) (by omega)
          · exact ⟨0, by rw [if_neg x]⟩
    unfold f_Tap_isName
    by_cases x : M 70 1 = 1
    · rw [if_pos x]
      by_cases y : M 70 6 - M 70 2 = nI (slen (1010 + i))
      · rw [if_pos y]; exact lp (slen (1010 + i)) 1000 0 (by omega) (by omega)
      · exact ⟨0, by rw [if_neg y]⟩
    · exact ⟨0, by rw [if_neg x]⟩
  intro m
  induction m with
  | zero =>
    intro n k hk hn
    obtain ⟨n, rfl⟩ : ∃ z, n = z + 1 := ⟨n - 1, by omega⟩
    have e : k = 5 := by omega
    subst e
    exact ⟨0, by decide, by rw [f_Rea_readKind_L9, if_pos (by decide)]; rfl⟩
  | succ m ih =>
    intro n k hk hn
    obtain ⟨n, rfl⟩ : ∃ z, n = z + 1 := ⟨n - 1, by omega⟩
    obtain ⟨v, hv⟩ := nmd (11 + k) (by omega)
    rw [f_Rea_readKind_L9, if_neg (by rw [l4, nI_ltI (by omega) (by omega)]; omega), nmK_all k (by omega), e_bnd, e_ck (slen_le (11 + k) (by omega)).2.2, hv, e_bnd]
    by_cases x : v = 0
    · rw [if_pos x, nI_1]; exact ih n (k + 1) (by omega) (by omega)
    · rw [if_neg x]
      refine ⟨k, by omega, ?_⟩
      unfold f_Tap_nextToken
      rw [if_neg h4, e_bnd]
theorem CI.kind (hL : L ≤ 320) (hb : ∀ j, j < L → b j < 256) (c : CI b L z D M) : ∃ v M', f_Rea_readKind M = some (nI v, M') ∧ (∃ y, CI b L y D M' ∧ ckS y = ckS (kdZ b L (nx b L z)) ∧ (y.1 = 0 → v = kdN b L (nx b L z)) ∧ (y.1 = 0 → z.1 = 0) ∧ v ≤ 4) ∧ Fr 52 70 M M' := by
  obtain ⟨M1, a1, a2, a3⟩ := c.next hL hb
  have hzl : (nx b L z).1 = 0 → z.1 = 0 := nx_l
  generalize nx b L z = y at a2 hzl
  unfold f_Rea_readKind
  rw [a1, e_bnd]
  by_cases q : y.1 = 0
  · rcases c_kindL hL hb a2.1 a2.2.1 a2.2.2.1 q 5 1000 0 rfl (by decide) (fun j hj => by omega) with ⟨h1, h2⟩ | ⟨h1, h2⟩
    · have t1 : y.2.2.1 = 1 := by
        have := (sfi_sp (P := kdI b L y) 5).2.2 h1
        exact (isW_iff.mp this).1
      obtain ⟨M2, b1, b2, b3⟩ := a2.next hL hb
      rw [show (0 : Int32) = nI 0 from rfl, h2, b1, e_bnd]
      refine ⟨_, M2, rfl, ⟨nx b L y, b2, ?_, fun _ => ?_, fun e => hzl (nx_l e), by omega⟩, a3.tr b3⟩
      · unfold kdZ
        rw [if_pos t1, if_pos h1]
      · unfold kdN
        rw [if_pos ⟨t1, h1⟩]
    · rw [show (0 : Int32) = nI 0 from rfl, h2]
      refine ⟨0, M1, rfl, ⟨y, a2, ?_, fun _ => ?_, hzl, by decide⟩, a3⟩
      · unfold kdZ
        by_cases t1 : y.2.2.1 = 1
        · rw [if_pos t1, if_neg (by omega)]
          unfold ckS
          rw [if_neg (by omega), flt_l q, if_neg (show ¬ (0 : Nat) = 3 by decide), flt_d (show (2 : Nat) ≠ 0 by decide)]
        · rw [if_neg t1]
      · unfold kdN
        rw [if_neg (by omega)]
  · obtain ⟨v, v1, v2⟩ := c_kindD a2 q 5 1000 0 rfl (by decide)
    rw [show (0 : Int32) = nI 0 from rfl, v2]
    refine ⟨v, M1, rfl, ⟨y, a2, ?_, fun e => absurd e q, hzl, v1⟩, a3⟩
    have e : kdZ b L y = y := by
      unfold kdZ
      split
      · split
        · exact nx_d q
        · exact flt_d q
      · rfl
    rw [e]

end CLN
