/-! pure: a line in both -/
def LOK (b : Nat → Nat) (L : Nat) (z : Tz) (D : Tn) : Prop := ∃ (y : Tz) (D' : Tn), (∀ (Mc : Mem) (K : Mem → Option (Int32 × Mem)), CI b L z D Mc → ∃ Mc', (bnd (f_Rea_lineBegun Mc) fun v5 => bnd (f_Rea_readLine v5 Mc) fun M7 => bnd (f_Tap_nextToken M7) fun M9 => K M9) = K Mc' ∧ CI b L (nx b L y) D' Mc' ∧ Fr 52 70 Mc Mc') ∧ (∀ Mr, MI b L z D Mr → ∃ Mr', f_Mod_readLine Mr = some Mr' ∧ MI b L (nx b L y) D' Mr' ∧ Fq Mr Mr') ∧ ((nx b L y).1 = 0 → DG D' ∧ DX D' ∧ z.2.2.2.2.2 + 1 ≤ (nx b L y).2.2.2.2.2)
section LK
variable {b : Nat → Nat} {L : Nat} {z : Tz} {D : Tn}
theorem m_rl (hL : L ≤ 320) {M : Mem} (c : MI b L z D M) (q : z.1 = 0) : f_Mod_readLine M = f_Mod_readLine_J17 (e8 11 (sfi (isW b L z) 11)) M := by
  unfold f_Mod_readLine
  have hw := (c.2.1.2.2 q).1
  rw [(c.2.2.1.2.2 q).1]
  by_cases t : z.2.2.1 = 1
  · rw [if_pos (by rw [t]; rfl), m_name hL c.1 c.2.1 c.2.2.1 q t, e_bnd]
  · have e : sfi (isW b L z) 11 = 11 := sfi_is (Nat.le_refl _) (fun j hj => Bool.eq_false_iff.mpr (fun x => t (isW_iff.mp x).1)) (fun h => absurd h (Nat.lt_irrefl _))
    rw [if_neg (by rw [l1, nI_eq (by omega) (by omega)]; exact t), e]
    rfl
theorem ln_both (hL : L ≤ 320) (hb : ∀ j, j < L → b j < 256) (q : z.1 = 0) {x : Int32} (hx : e8 11 (sfi (isW b L z) 11) = x) {y : Tz} {D' : Tn} (hc : ∀ Mc, CI b L z D Mc → ∃ Mc', f_Rea_readLine x Mc = some Mc' ∧ CI b L y D' Mc' ∧ Fr 52 70 Mc Mc') (hm : ∀ Mr, MI b L z D Mr → ∃ Mr', f_Mod_readLine_J17 x Mr = some Mr' ∧ MI b L (nx b L y) D' Mr' ∧ Fq Mr Mr') (hp : (nx b L y).1 = 0 → DG D' ∧ DX D' ∧ z.2.2.2.2.2 + 1 ≤ (nx b L y).2.2.2.2.2) : LOK b L z D := by
  refine ⟨y, D', fun Mc K c => ?_, fun Mr m => ?_, hp⟩
  · obtain ⟨M1, a1, a2, a3⟩ := hc Mc c
    obtain ⟨M2, b1, b2, b3⟩ := a2.next hL hb
    refine ⟨M2, ?_, b2, a3.tr b3⟩
    rw [c_line hL hb c.1 c.2.1 c.2.2.1 q, e_bnd, hx, a1, e_bnd, b1, e_bnd]
  · rw [m_rl hL m q, hx]
    exact hm Mr m
theorem ln_U (hL : L ≤ 320) (hb : ∀ j, j < L → b j < 256) (q : z.1 = 0) (hx : sfi (isW b L z) 11 = 11) : LOK b L z D := by
  have n0 : (flt 2 z).1 ≠ 0 := flt_ne (by decide)
  refine ln_both hL hb q (x := -4) (y := flt 2 z) (D' := D) (by rw [hx]; rfl) (fun Mc c => c_lnU hL c) (fun Mr m => ?_) (fun e => absurd e (by rw [nx_d n0]; exact n0))
  rw [nx_d n0]
  exact m_lnU hL hb m
theorem lnf_p {i : Nat} : Ps z.2.2.2.2.2 (lnf D i z) := by
  unfold lnf
  split
  · exact ps_fl (by decide)
  · exact fun _ => Nat.le_refl _
theorem full_p {n m : Nat} : Ps z.2.2.2.2.2 (full n m z) := by
  unfold full
  split
  · exact ps_fl (by decide)
  · exact fun _ => Nat.le_refl _
theorem m_go (hL : L ≤ 320) (hb : ∀ j, j < L → b j < 256) (q : z.1 = 0) (hD : DB D) {i : Nat} (hi : i ≤ 10) {zf y : Tz} {Dp D' : Tn} (hz : (if i < 5 then lnf D i z else if i = 5 then full (D 4 0) 8 z else if i = 8 ∨ i = 9 then full (D 10 0) 8 z else if i = 10 then full (D 14 0) 12 z else z) = zf) (hDp : (if i < 5 then tset D 20 i 1 else D) = Dp) (H : ∀ M2, MI b L (nx b L zf) Dp M2 → (nx b L zf).1 = 0 → ∃ M5, f_Mod_readLineOf (nI i) M2 = some M5 ∧ MI b L y D' M5 ∧ Fq M2 M5) (hd : (nx b L zf).1 ≠ 0 → y = nx b L zf) : ∀ Mr, MI b L z D Mr → ∃ Mr', f_Mod_readLine_J17 (nI i) Mr = some Mr' ∧ MI b L (nx b L (ckS y)) D' Mr' ∧ Fq Mr Mr' := fun Mr m => by
  obtain ⟨M1, a1, a2, a3⟩ := m_pre hL m q hD hi
  rw [hz, hDp] at a2
  obtain ⟨M2, b1, b2, b3⟩ := m_142 hL hb a2 H hd
  exact ⟨M2, a1.trans b1, b2, a3.tr b3⟩
theorem ln_0 (hL : L ≤ 320) (hb : ∀ j, j < L → b j < 256) (q : z.1 = 0) (hG : DG D) (hX : DX D) (hx : sfi (isW b L z) 11 = 0) : LOK b L z D := by
  refine ln_both hL hb q (x := nI 0) (by rw [hx]; rfl) (fun Mc c => c_ln0 hL hb c q) (m_go hL hb q hG.b (i := 0) (zf := lnf D 0 z) (Dp := tset D 20 0 1) (by decide) rfl rfl (fun M2 m _ => m_of0 hL hb m) (fun e => by rw [ckN_d e, nx_d e, ckN_d e, nx_d e])) (fun e => ?_)
  have e1 := (ckS_l (nx_l e)).2.1
  have e2 := ckN_l (nx_l e1)
  have e3 := ckN_l (nx_l e2.2.1)
  refine ⟨(((hG.o).r (Or.inl ⟨rfl, e3.2.2.2.1, e3.2.2.2.2⟩))).r (Or.inr (Or.inl ⟨rfl, e2.2.2.2.1, e2.2.2.2.2⟩)), ((hX.o (by decide)).o (by decide)).o (by decide), ?_⟩
  exact ps_nx (p3_s (ps_n3 (ps_ck (ps_nx (ps_ck (ps_nx lnf_p)))))) e

theorem ln_1 (hL : L ≤ 320) (hb : ∀ j, j < L → b j < 256) (q : z.1 = 0) (hG : DG D) (hX : DX D) (hx : sfi (isW b L z) 11 = 1) : LOK b L z D := by
  refine ln_both hL hb q (x := nI 1) (by rw [hx]; rfl) (fun Mc c => c_ln1 hL hb c q) (m_go hL hb q hG.b (i := 1) (zf := lnf D 1 z) (Dp := tset D 20 1 1) (by decide) rfl rfl (fun M2 m _ => m_of1 hL hb m) (fun e => by rw [ckN_d e, nx_d e])) (fun e => ?_)
  have e1 := (ckS_l (nx_l e)).2.1
  have e2 := ckN_l (nx_l e1)
  refine ⟨hG.o.r (Or.inr (Or.inr (Or.inl ⟨rfl, e2.2.2.2.2⟩))), (hX.o (by decide)).o (by decide), ?_⟩
  exact ps_nx (p3_s (ps_n3 (ps_ck (ps_nx lnf_p)))) e
theorem ln_2 (hL : L ≤ 320) (hb : ∀ j, j < L → b j < 256) (q : z.1 = 0) (hG : DG D) (hX : DX D) (hx : sfi (isW b L z) 11 = 2) : LOK b L z D := by
  refine ln_both hL hb q (x := nI 2) (by rw [hx]; rfl) (fun Mc c => c_ln2 hL hb c q) (m_go hL hb q hG.b (i := 2) (zf := lnf D 2 z) (Dp := tset D 20 2 1) (by decide) rfl rfl (fun M2 m _ => m_of2 hL hb m) (fun e => by rw [ckN_d e, nx_d e])) (fun e => ?_)
  have e1 := (ckS_l (nx_l e)).2.1
  have e2 := ckN_l (nx_l e1)
  refine ⟨hG.o.r (Or.inr (Or.inr (Or.inr (Or.inl ⟨rfl, e2.2.2.2.2⟩)))), (hX.o (by decide)).o (by decide), ?_⟩
  exact ps_nx (p3_s (ps_n3 (ps_ck (ps_nx lnf_p)))) e
theorem ln_3 (hL : L ≤ 320) (hb : ∀ j, j < L → b j < 256) (q : z.1 = 0) (hG : DG D) (hX : DX D) (hx : sfi (isW b L z) 11 = 3) : LOK b L z D := by
  refine ln_both hL hb q (x := nI 3) (by rw [hx]; rfl) (fun Mc c => c_ln3 hL hb c q) (m_go hL hb q hG.b (i := 3) (zf := lnf D 3 z) (Dp := tset D 20 3 1) (by decide) rfl rfl (fun M2 m _ => m_of3 hL hb m) (fun e => by rw [ckN_d e, nx_d e])) (fun e => ?_)
  have e1 := (ckS_l (nx_l e)).2.1
  have e2 := ckN_l (nx_l e1)
  refine ⟨hG.o.r (Or.inr (Or.inr (Or.inr (Or.inr ⟨rfl, e2.2.2.2.2⟩)))), (hX.o (by decide)).o (by decide), ?_⟩
  exact ps_nx (p3_s (ps_n3 (ps_ck (ps_nx lnf_p)))) e
theorem ln_4 (hL : L ≤ 320) (hb : ∀ j, j < L → b j < 256) (q : z.1 = 0) (hG : DG D) (hX : DX D) (hx : sfi (isW b L z) 11 = 4) : LOK b L z D := by
  refine ln_both hL hb q (x := nI 4) (by rw [hx]; rfl) (fun Mc c => c_ln4 hL hb c q) (m_go hL hb q hG.b (i := 4) (zf := lnf D 4 z) (Dp := tset D 20 4 1) (by decide) rfl rfl (fun M2 m _ => m_of4 hL hb m) (fun e => by rw [ckN_d e, nx_d e])) (fun e => ?_)
  have e1 := (ckS_l (nx_l e)).2.1
  have e2 := ckN_l (nx_l e1)
  refine ⟨hG.o.p (e2.2.2.2.2), (hX.o (by decide)).o (by decide), ?_⟩
  exact ps_nx (p3_s (ps_n3 (ps_ck (ps_nx lnf_p)))) e
theorem CI.own {M : Mem} (c : CI b L z D M) {a k v : Nat} (h : 22 ≤ a) : CI b L z (tset D a k v) M := ⟨c.1, c.2.1, c.2.2.1, c.2.2.2.1, fun e => (c.2.2.2.2 e).own h⟩
theorem DB.own (h : DB D) {a k v : Nat} (ha : 22 ≤ a) : DB (tset D a k v) := by
  have e : ∀ r, r ≠ a → tset D a k v r = D r := fun r hr => funext fun j => ts_ne hr
  unfold DB
  rw [e 2 (by omega), e 4 (by omega), e 10 (by omega), e 14 (by omega), e 15 (by omega)]
  exact h
theorem ln_5 (hL : L ≤ 320) (hb : ∀ j, j < L → b j < 256) (q : z.1 = 0) (hG : DG D) (hX : DX D) (hx : sfi (isW b L z) 11 = 5) : LOK b L z D := by
  obtain ⟨y1, h1⟩ : ∃ y1, y1 = nx b L (full (D 4 0) 8 z) := ⟨_, rfl⟩
  obtain ⟨y2, h2⟩ : ∃ y2, y2 = nx b L (ckN 0 8 y1) := ⟨_, rfl⟩
  obtain ⟨y3, h3⟩ : ∃ y3, y3 = nx b L (ckN 0 8 y2) := ⟨_, rfl⟩
  obtain ⟨y4, h4⟩ : ∃ y4, y4 = nx b L (ckN 0 7 y3) := ⟨_, rfl⟩
  obtain ⟨y5, h5⟩ : ∃ y5, y5 = nx b L (ckN 1 100 y4) := ⟨_, rfl⟩
  have e40 : tset (tset D 22 0 (max (D 22 0) (nm y1))) 23 0 (max (D 23 0) (nm y2)) 4 0 = D 4 0 := by rw [ts_ne (by decide), ts_ne (by decide)]
  refine ln_both hL hb q (x := nI 5) (by rw [hx]; rfl) (fun Mc c => c_ln5 hL hb ((c.own (a := 22) (k := 0) (v := max (D 22 0) (nm y1)) (by decide)).own (a := 23) (k := 0) (v := max (D 23 0) (nm y2)) (by decide)) q ((hG.b.own (by decide)).own (by decide)) (by rw [e40]; exact h1) h2 h3 h4 h5) (m_go hL hb q hG.b (i := 5) (zf := full (D 4 0) 8 z) (Dp := D) (by decide) rfl rfl (fun M2 m e => ?_) (fun e => ?_)) (fun e => ?_)
  · rw [← h1] at m e
    exact m_of5 hL hb m e hG.a hG.b (full_l (nx_l (by rw [← h1]; exact e))).1 h2 h3 h4 h5 rfl
  · rw [← h1] at e ⊢
    have u2 : y2 = y1 := by rw [h2, ckN_d e, nx_d e]
    have u3 : y3 = y1 := by rw [h3, u2, ckN_d e, nx_d e]
    have u4 : y4 = y1 := by rw [h4, u3, ckN_d e, nx_d e]
    have u5 : y5 = y1 := by rw [h5, u4, ckN_d e, nx_d e]
    rw [u5]
    unfold kdZ
    split
    · split
      · exact nx_d e
      · exact flt_d e
    · rfl
  · have e1 := (ckS_l (nx_l e)).2.1
    have p5 : y5.1 = 0 := by
      unfold kdZ at e1
      split at e1
      · split at e1
        · exact nx_l e1
        · exact absurd e1 (flt_ne (by decide))
      · exact e1
    have c4 := ckN_l (by rw [h5] at p5; exact nx_l p5)
    have c3 := ckN_l (by have := c4.2.1; rw [h4] at this; exact nx_l this)
    have c2 := ckN_l (by have := c3.2.1; rw [h3] at this; exact nx_l this)
    have c1 := ckN_l (by have := c2.2.1; rw [h2] at this; exact nx_l this)
    have c0 := full_l (nx_l (by have := c1.2.1; rw [h1] at this; exact this))
    have kd : kdN b L y5 ≤ 4 := by
      unfold kdN
      split
      · omega
      · decide
    refine ⟨hG.ben c0.1 c1.2.2.2.2 c2.2.2.2.2 c3.2.2.2.2 c4.2.2.2.1 c4.2.2.2.2 kd, hX.ben, ?_⟩
    have r4 : Ps z.2.2.2.2.2 (ckN 1 100 y4) := by
      rw [h4, h3, h2, h1]
      exact ps_ck (ps_nx (ps_ck (ps_nx (ps_ck (ps_nx (ps_ck (ps_nx full_p)))))))
    have r5 : P3 z.2.2.2.2.2 (kdZ b L y5) := by
      rw [h5]
      exact ps_kd r4
    exact ps_nx (p3_s r5) e
theorem ln_6 (hL : L ≤ 320) (hb : ∀ j, j < L → b j < 256) (q : z.1 = 0) (hG : DG D) (hX : DX D) {i s : Nat} (hi : (i = 6 ∧ s = 1) ∨ (i = 7 ∧ s = 2)) (hx : sfi (isW b L z) 11 = i) : LOK b L z D := by
  obtain ⟨y1, h1⟩ : ∃ y1, y1 = nx b L z := ⟨_, rfl⟩
  obtain ⟨y2, h2⟩ : ∃ y2, y2 = nx b L (ckN 0 8 y1) := ⟨_, rfl⟩
  obtain ⟨y3, h3⟩ : ∃ y3, y3 = ckN 0 8 y2 := ⟨_, rfl⟩
  obtain ⟨zc, h4⟩ : ∃ zc, zc = if D 2 (9 * nm y2 + nm y1) = 0 then y3 else flt 4 y3 := ⟨_, rfl⟩
  have e2D : ∀ c, tset (tset D 22 0 (max (D 22 0) (nm y1))) 23 0 (max (D 23 0) (nm y2)) 2 c = D 2 c := fun c => by rw [ts_ne (by decide), ts_ne (by decide)]
  have hc : ∀ Mc, CI b L z D Mc → ∃ Mc', f_Rea_readLine (nI i) Mc = some Mc' ∧ CI b L (ckS (nx b L zc)) (tset (tset (tset D 22 0 (max (D 22 0) (nm y1))) 23 0 (max (D 23 0) (nm y2))) 2 (9 * nm y2 + nm y1) s) Mc' ∧ Fr 52 70 Mc Mc' := fun Mc c => by
    obtain ⟨M1, a1, a2, a3⟩ := c_ln6 hL hb ((c.own (a := 22) (k := 0) (v := max (D 22 0) (nm y1)) (by decide)).own (a := 23) (k := 0) (v := max (D 23 0) (nm y2)) (by decide)) ((hG.b.own (by decide)).own (by decide)) s (zc := zc) h1 h2 h3 (by rw [e2D]; exact h4)
    refine ⟨M1, ?_, a2, a3⟩
    unfold f_Rea_readLine
    rcases hi with ⟨rfl, rfl⟩ | ⟨rfl, rfl⟩
    · rw [if_neg (show ¬ nI 6 = 0 by decide), if_neg (show ¬ nI 6 = 1 by decide), if_neg (show ¬ nI 6 = 2 by decide), if_neg (show ¬ nI 6 = 3 by decide), if_neg (show ¬ nI 6 = 4 by decide), if_neg (show ¬ nI 6 = 5 by decide), if_pos (show nI 6 = 6 from rfl), show (1 : Int32) = nI 1 from rfl, a1, e_bnd]
    · rw [if_neg (show ¬ nI 7 = 0 by decide), if_neg (show ¬ nI 7 = 1 by decide), if_neg (show ¬ nI 7 = 2 by decide), if_neg (show ¬ nI 7 = 3 by decide), if_neg (show ¬ nI 7 = 4 by decide), if_neg (show ¬ nI 7 = 5 by decide), if_neg (show ¬ nI 7 = 6 by decide), if_pos (show nI 7 = 7 from rfl), show (2 : Int32) = nI 2 from rfl, a1, e_bnd]
  have lz : zc.1 = 0 → y3.1 = 0 := fun e => by
    rw [h4] at e
    split at e
    · exact e
    · exact absurd e (flt_ne (by decide))
  refine ln_both hL hb q (x := nI i) (by rw [hx, e8, if_pos (by omega)]) hc (m_go hL hb q hG.b (i := i) (zf := z) (Dp := D) (by omega) (by rw [if_neg (by omega), if_neg (by omega), if_neg (by omega), if_neg (by omega)]) (if_neg (by omega)) (fun M2 m e => ?_) (fun e => ?_)) (fun e => ?_)
  · rw [← h1] at m
    exact m_of6 hL hb m hG.a hG.b hi h2 h3 h4 rfl
  · rw [← h1] at e ⊢
    have u2 : y2 = y1 := by rw [h2, ckN_d e, nx_d e]
    have u3 : y3 = y1 := by rw [h3, u2, ckN_d e]
    have uz : zc = y1 := by
      rw [h4, u3]
      split
      · rfl
      · exact flt_d e
    rw [uz, nx_d e]
  · have e1 := (ckS_l (nx_l e)).2.1
    have c2 := ckN_l (by have := lz (nx_l e1); rw [h3] at this; exact this)
    have c1 := ckN_l (by have := c2.2.1; rw [h2] at this; exact nx_l this)
    refine ⟨hG.cell c1.2.2.2.2 c2.2.2.2.2 (by omega), hX.cell c1.2.2.2.2 c2.2.2.2.2 (by omega), ?_⟩
    have r3 : Ps z.2.2.2.2.2 zc := fun u => by
      have u3 := lz u
      have ez : zc = y3 := by
        rw [h4] at u ⊢
        split
        · rfl
        · rename_i g
          rw [if_neg g] at u
          exact absurd u (flt_ne (by decide))
      have hp : Ps z.2.2.2.2.2 y3 := by
        rw [h3, h2, h1]
        exact ps_ck (ps_nx (ps_ck (ps_nx (fun _ => Nat.le_refl _))))
      rw [ez]
      exact hp u3
    exact ps_nx (p3_s (ps_n3 r3)) e
theorem ln_8 (hL : L ≤ 320) (hb : ∀ j, j < L → b j < 256) (q : z.1 = 0) (hG : DG D) (hX : DX D) {i s : Nat} (hi : (i = 8 ∧ s = 1) ∨ (i = 9 ∧ s = 0)) (hx : sfi (isW b L z) 11 = i) : LOK b L z D := by
  obtain ⟨y1, h1⟩ : ∃ y1, y1 = nx b L (full (D 10 0) 8 z) := ⟨_, rfl⟩
  obtain ⟨y2, h2⟩ : ∃ y2, y2 = nx b L (ckN 0 5 y1) := ⟨_, rfl⟩
  obtain ⟨y3, h3⟩ : ∃ y3, y3 = ckN 0 5 y2 := ⟨_, rfl⟩
  obtain ⟨zc, h4⟩ : ∃ zc, zc = if nm y1 = nm y2 then flt 4 y3 else y3 := ⟨_, rfl⟩
  obtain ⟨Da, hDa⟩ : ∃ Da, Da = tset D 24 0 (max (D 24 0) (nm y1 + 1)) := ⟨_, rfl⟩
  obtain ⟨D1, hD1⟩ : ∃ D1, D1 = tset Da 24 0 (max (Da 24 0) (nm y2 + 1)) := ⟨_, rfl⟩
  have en : D1 10 0 = D 10 0 := by rw [hD1, ts_ne (by decide), hDa, ts_ne (by decide)]
  have hE : (∀ r, r ≠ 24 → D1 r = D r) ∧ D1 24 0 = max (max (D 24 0) (nm y1 + 1)) (nm y2 + 1) :=
    ⟨fun r hr => funext fun j => by rw [hD1, ts_ne hr, hDa, ts_ne hr], by rw [hD1, ts_eq, hDa, ts_eq]⟩
  have hB1 : DB D1 := by
    rw [hD1, hDa]
    exact (hG.b.own (by decide)).own (by decide)
  have hc : ∀ Mc, CI b L z D Mc → ∃ Mc', f_Rea_readLine (nI i) Mc = some Mc' ∧ CI b L (ckS (nx b L zc)) (tP D1 10 (nm y1) (nm y2) s) Mc' ∧ Fr 52 70 Mc Mc' := fun Mc c => by
    have c1 : CI b L z D1 Mc := by
      rw [hD1, hDa]
      exact (c.own (by decide)).own (by decide)
    obtain ⟨M1, a1, a2, a3⟩ := c_ln8 hL hb c1 q hB1 s (by rw [en]; exact h1) h2 h3 h4
    refine ⟨M1, ?_, a2, a3⟩
    unfold f_Rea_readLine
    rcases hi with ⟨rfl, rfl⟩ | ⟨rfl, rfl⟩
    · rw [if_neg (show ¬ nI 8 = 0 by decide), if_neg (show ¬ nI 8 = 1 by decide), if_neg (show ¬ nI 8 = 2 by decide), if_neg (show ¬ nI 8 = 3 by decide), if_neg (show ¬ nI 8 = 4 by decide), if_neg (show ¬ nI 8 = 5 by decide), if_neg (show ¬ nI 8 = 6 by decide), if_neg (show ¬ nI 8 = 7 by decide), if_pos (show nI 8 = 8 from rfl), show (1 : Int32) = nI 1 from rfl, a1, e_bnd]
    · rw [if_neg (show ¬ nI 9 = 0 by decide), if_neg (show ¬ nI 9 = 1 by decide), if_neg (show ¬ nI 9 = 2 by decide), if_neg (show ¬ nI 9 = 3 by decide), if_neg (show ¬ nI 9 = 4 by decide), if_neg (show ¬ nI 9 = 5 by decide), if_neg (show ¬ nI 9 = 6 by decide), if_neg (show ¬ nI 9 = 7 by decide), if_neg (show ¬ nI 9 = 8 by decide), if_pos (show nI 9 = 9 from rfl), show (0 : Int32) = nI 0 from rfl, a1, e_bnd]
  have lz : zc.1 = 0 → y3.1 = 0 ∧ zc = y3 := fun e => by
    rw [h4] at e ⊢
    split at e
    · exact absurd e (flt_ne (by decide))
    · rename_i g
      rw [if_neg g]
      exact ⟨e, rfl⟩
  refine ln_both hL hb q (x := nI i) (by rw [hx, e8, if_pos (by omega)]) hc (m_go hL hb q hG.b (i := i) (zf := full (D 10 0) 8 z) (Dp := D) (by omega) (by rw [if_neg (by omega), if_neg (by omega), if_pos (by omega)]) (if_neg (by omega)) (fun M2 m e => ?_) (fun e => ?_)) (fun e => ?_)
  · have ef := full_l (nx_l e)
    rw [← h1] at m e
    exact m_of8 hL hb m e hG.a ef.1 hi h2 h3 h4 hDa hD1
  · rw [← h1] at e ⊢
    have u2 : y2 = y1 := by rw [h2, ckN_d e, nx_d e]
    have u3 : y3 = y1 := by rw [h3, u2, ckN_d e]
    have uz : zc = y1 := by
      rw [h4, u3]
      split
      · exact flt_d e
      · rfl
    rw [uz, nx_d e]
  · have e1 := nx_l (ckS_l (nx_l e)).2.1
    have e3 := lz e1
    have c2 := ckN_l (by have := e3.1; rw [h3] at this; exact this)
    have c1 := ckN_l (by have := c2.2.1; rw [h2] at this; exact nx_l this)
    have c0 := full_l (nx_l (by have := c1.2.1; rw [h1] at this; exact this))
    refine ⟨hG.want c0.1 c1.2.2.2.2 c2.2.2.2.2 (by omega) rfl hE, hX.want rfl hE, ?_⟩
    have hp : Ps z.2.2.2.2.2 y3 := by
      rw [h3, h2, h1]
      exact ps_ck (ps_nx (ps_ck (ps_nx full_p)))
    have r3 : Ps z.2.2.2.2.2 zc := by rw [e3.2]; exact hp
    exact ps_nx (p3_s (ps_n3 r3)) e
theorem ln_10 (hL : L ≤ 320) (hb : ∀ j, j < L → b j < 256) (q : z.1 = 0) (hG : DG D) (hX : DX D) (hx : sfi (isW b L z) 11 = 10) : LOK b L z D := by
  obtain ⟨y1, h1⟩ : ∃ y1, y1 = nx b L (full (D 14 0) 12 z) := ⟨_, rfl⟩
  obtain ⟨y2, h2⟩ : ∃ y2, y2 = nx b L (ckN (lhr D) 11 y1) := ⟨_, rfl⟩
  obtain ⟨y3, h3⟩ : ∃ y3, y3 = nx b L (ckN 0 5 y2) := ⟨_, rfl⟩
  obtain ⟨zc, h4⟩ : ∃ zc, zc = ckN 0 7 y3 := ⟨_, rfl⟩
  obtain ⟨D1, hD1⟩ : ∃ D1, D1 = tset D 24 0 (max (D 24 0) (nm y2 + 1)) := ⟨_, rfl⟩
  have hE : (∀ r, r ≠ 24 → D1 r = D r) ∧ D1 24 0 = max (D 24 0) (nm y2 + 1) :=
    ⟨fun r hr => funext fun j => by rw [hD1, ts_ne hr], by rw [hD1, ts_eq]⟩
  have hB1 : DB D1 := by
    rw [hD1]
    exact hG.b.own (by decide)
  have hlr : lhr D1 = lhr D := by
    unfold lhr
    rw [hE.1 14 (by decide), hE.1 15 (by decide)]
  have hc : ∀ Mc, CI b L z D Mc → ∃ Mc', f_Rea_readLine (nI 10) Mc = some Mc' ∧ CI b L (ckS (nx b L zc)) (tP D1 14 (nm y1) (nm y2) (nm y3)) Mc' ∧ Fr 52 70 Mc Mc' := fun Mc c => by
    have c1 : CI b L z D1 Mc := by
      rw [hD1]
      exact c.own (by decide)
    obtain ⟨M1, a1, a2, a3⟩ := c_ln10 hL hb c1 q hB1 (y1 := y1) (y2 := y2) (by rw [hE.1 14 (by decide)]; exact h1) (by rw [hlr]; exact h2) h3 h4
    refine ⟨M1, ?_, a2, a3⟩
    unfold f_Rea_readLine
    rw [if_neg (show ¬ nI 10 = 0 by decide), if_neg (show ¬ nI 10 = 1 by decide), if_neg (show ¬ nI 10 = 2 by decide), if_neg (show ¬ nI 10 = 3 by decide), if_neg (show ¬ nI 10 = 4 by decide), if_neg (show ¬ nI 10 = 5 by decide), if_neg (show ¬ nI 10 = 6 by decide), if_neg (show ¬ nI 10 = 7 by decide), if_neg (show ¬ nI 10 = 8 by decide), if_neg (show ¬ nI 10 = 9 by decide), if_pos (show nI 10 = 10 from rfl), a1, e_bnd]
  refine ln_both hL hb q (x := nI 10) (by rw [hx]; rfl) hc (m_go hL hb q hG.b (i := 10) (zf := full (D 14 0) 12 z) (Dp := D) (by decide) rfl rfl (fun M2 m e => ?_) (fun e => ?_)) (fun e => ?_)
  · have ef := full_l (nx_l e)
    rw [← h1] at m e
    exact m_of10 hL hb m e hG.a hG.b ef.1 h2 h3 h4 hD1
  · rw [← h1] at e ⊢
    have u2 : y2 = y1 := by rw [h2, ckN_d e, nx_d e]
    have u3 : y3 = y1 := by rw [h3, u2, ckN_d e, nx_d e]
    rw [h4, u3, ckN_d e, nx_d e]
  · have e1 := nx_l (ckS_l (nx_l e)).2.1
    have c3 := ckN_l (by rw [h4] at e1; exact e1)
    have c2 := ckN_l (by have := c3.2.1; rw [h3] at this; exact nx_l this)
    have c1 := ckN_l (by have := c2.2.1; rw [h2] at this; exact nx_l this)
    have c0 := full_l (nx_l (by have := c1.2.1; rw [h1] at this; exact this))
    refine ⟨hG.wsp c0.1 c1.2.2.2.2 c2.2.2.2.2 c3.2.2.2.2 rfl hE, hX.wsp rfl hE, ?_⟩
    have r3 : Ps z.2.2.2.2.2 zc := by
      rw [h4, h3, h2, h1]
      exact ps_ck (ps_nx (ps_ck (ps_nx (ps_ck (ps_nx full_p)))))
    exact ps_nx (p3_s (ps_n3 r3)) e
theorem ln_all (hL : L ≤ 320) (hb : ∀ j, j < L → b j < 256) (q : z.1 = 0) (hG : DG D) (hX : DX D) : LOK b L z D := by
  have h := (sfi_sp (P := isW b L z) 11).1
  rcases (show sfi (isW b L z) 11 = 0 ∨ sfi (isW b L z) 11 = 1 ∨ sfi (isW b L z) 11 = 2 ∨ sfi (isW b L z) 11 = 3 ∨ sfi (isW b L z) 11 = 4 ∨ sfi (isW b L z) 11 = 5 ∨ sfi (isW b L z) 11 = 6 ∨ sfi (isW b L z) 11 = 7 ∨ sfi (isW b L z) 11 = 8 ∨ sfi (isW b L z) 11 = 9 ∨ sfi (isW b L z) 11 = 10 ∨ sfi (isW b L z) 11 = 11 by omega) with h | h | h | h | h | h | h | h | h | h | h | h
  · exact ln_0 hL hb q hG hX h
  · exact ln_1 hL hb q hG hX h
  · exact ln_2 hL hb q hG hX h
  · exact ln_3 hL hb q hG hX h
  · exact ln_4 hL hb q hG hX h
  · exact ln_5 hL hb q hG hX h
  · exact ln_6 hL hb q hG hX (Or.inl ⟨rfl, rfl⟩) h
  · exact ln_6 hL hb q hG hX (Or.inr ⟨rfl, rfl⟩) h
  · exact ln_8 hL hb q hG hX (Or.inl ⟨rfl, rfl⟩) h
  · exact ln_8 hL hb q hG hX (Or.inr ⟨rfl, rfl⟩) h
  · exact ln_10 hL hb q hG hX h
  · exact ln_U hL hb q h
end LK
