/-! pure: the draft in the reference -/
def DM (D : Tn) (M : Mem) : Prop :=
  ((M 111 0 = nI (D 1 0) ∧ M 111 1 = nI (D 1 1) ∧ M 111 2 = nI (D 1 2) ∧ M 111 3 = nI (D 1 3)) ∧ M 108 81 = nI (D 1 4) ∧ M 111 4 = (if D 21 0 = 0 then -4 else nI (D 21 0 - 1))) ∧
  (∀ c, c < 81 → M 108 c = nI (D 2 c)) ∧
  (M 103 15 = nI (D 4 0) ∧ ∀ i, i < D 4 0 → M 109 (4 * i) = nI (9 * D 6 i + D 5 i) ∧ M 109 (4 * i + 1) = nI (D 7 i) ∧ M 109 (4 * i + 2) = nI (D 8 i) ∧ M 109 (4 * i + 3) = nI (D 9 i)) ∧
  (M 103 16 = nI (D 10 0) ∧ ∀ i, i < D 10 0 → M 110 (3 * i) = nI (D 11 i) ∧ M 110 (3 * i + 1) = nI (D 12 i) ∧ M 110 (3 * i + 2) = nI (D 13 i)) ∧
  (M 108 88 = nI (D 14 0) ∧ ∀ i, i < D 14 0 → M 108 (89 + 3 * i) = nI (D 15 i) ∧ M 108 (89 + 3 * i + 1) = nI (D 16 i) ∧ M 108 (89 + 3 * i + 2) = nI (D 17 i)) ∧
  (M 103 17 = (if D 24 0 = 0 then -4 else nI (D 24 0 - 1)) ∧ M 103 18 = nI (D 22 0) ∧ M 103 19 = nI (D 23 0) ∧ M 103 20 = rlM D)
theorem DM.f {D : Tn} {M M' : Mem} (h : DM D M) (f : F103 M M') : DM D M' := by
  unfold DM
  rw [f.1 108 (by decide), f.1 109 (by decide), f.1 110 (by decide), f.1 111 (by decide), f.2 15 (by decide), f.2 16 (by decide), f.2 17 (by decide), f.2 18 (by decide), f.2 19 (by decide), f.2 20 (by decide)]
  exact h
def MI (b : Nat → Nat) (L : Nat) (z : Tz) (D : Tn) (M : Mem) : Prop := Tpm b L M ∧ Wz L z ∧ Rm z M ∧ (z.1 = 0 → DM D M)
/-- what reading may change -/
def Fq (M M' : Mem) : Prop := (∀ a, a ≠ 103 → (a < 108 ∨ 111 < a) → M' a = M a) ∧ ∀ k, (k < 15 ∨ 20 < k) → (k < 23 ∨ 28 < k) → M' 103 k = M 103 k
theorem Fq.rf {M : Mem} : Fq M M := ⟨fun _ _ _ => rfl, fun _ _ _ => rfl⟩
theorem Fq.tr {M M' M2 : Mem} (h : Fq M M') (g : Fq M' M2) : Fq M M2 := ⟨fun a q r => (g.1 a q r).trans (h.1 a q r), fun k q r => (g.2 k q r).trans (h.2 k q r)⟩
theorem F103.q {M M' : Mem} (f : F103 M M') : Fq M M' := ⟨fun a q _ => f.1 a q, fun k _ r => f.2 k r⟩
theorem Fq.s {M M' : Mem} {a k : Nat} {x : Int32} (h : Fq M M') (ha : (108 ≤ a ∧ a ≤ 111) ∨ (a = 103 ∧ 15 ≤ k ∧ k ≤ 20)) : Fq M (upd2 M' a k x) := by
  refine ⟨fun i q r => ?_, fun j q r => ?_⟩
  · by_cases e : i = a
    · omega
    · rw [u_ne e]; exact h.1 i q r
  · by_cases e : 103 = a
    · subst e
      rw [u_nk (by omega)]; exact h.2 j q r
    · rw [u_ne e]; exact h.2 j q r
section ML
variable {b : Nat → Nat} {L : Nat} {z : Tz} {D : Tn} {M : Mem}
theorem MI.flt (hL : L ≤ 320) (c : MI b L z D M) {f : Nat} (hf : f ≠ 0) (hf7 : f ≤ 7) : ∃ M', f_Mod_needs 0 (nI f) M = some M' ∧ MI b L (flt f z) D M' ∧ F103 M M' := by
  obtain ⟨c1, c2, c3, c4⟩ := c
  obtain ⟨M', a1, a2, a3⟩ := m_flt hL c2 c3 hf
  exact ⟨M', a1, ⟨c1.f a3, flt_w hL hf7 hf c2, a2, fun e => absurd e (flt_ne hf)⟩, a3⟩
theorem MI.next (hL : L ≤ 320) (hb : ∀ j, j < L → b j < 256) (c : MI b L z D M) : ∃ M', f_Mod_next M = some M' ∧ MI b L (nx b L z) D M' ∧ F103 M M' := by
  obtain ⟨c1, c2, c3, c4⟩ := c
  obtain ⟨M', a1, a2, a3⟩ := m_next hL hb c1 c2 c3
  exact ⟨M', a1, ⟨c1.f a3, nx_w hL (fun q => (c2.2.2 q).2.2.1) (fun _ => c2), a2, fun e => (c4 (nx_l e)).f a3⟩, a3⟩
theorem MI.look (hL : L ≤ 320) (c : MI b L z D M) {lo hi : Nat} (hhi : hi ≤ 1000) (hlo : lo ≤ 1000) : ∃ k M', f_Mod_looked (nI lo) (nI hi) M = some (nI k, M') ∧ MI b L (ckN lo hi z) D M' ∧ F103 M M' ∧ ((ckN lo hi z).1 = 0 → k = nm z) ∧ k ≤ hi := by
  obtain ⟨c1, c2, c3, c4⟩ := c
  obtain ⟨k, M', a1, a2, a3, a4, a5⟩ := m_looked hL c2 c3 hhi hlo
  refine ⟨k, M', a1, ⟨c1.f a3, ckN_w hL c2, a2, fun e => (c4 (ckN_l e).2.1).f a3⟩, a3, a4, ?_⟩
  by_cases q : (ckN lo hi z).1 = 0
  · rw [a4 q]; exact (ckN_l q).2.2.2.2
  · rw [a5 q]; exact Nat.zero_le _
theorem MI.num (hL : L ≤ 320) (hb : ∀ j, j < L → b j < 256) (c : MI b L z D M) {lo hi : Nat} (hhi : hi ≤ 1000) (hlo : lo ≤ 1000) : ∃ k M', f_Mod_readNumber (nI lo) (nI hi) M = some (nI k, M') ∧ MI b L (nx b L (ckN lo hi z)) D M' ∧ F103 M M' ∧ ((nx b L (ckN lo hi z)).1 = 0 → k = nm z) ∧ k ≤ hi := by
  obtain ⟨k, M1, a1, a2, a3, a4, a5⟩ := c.look hL hhi hlo
  obtain ⟨M2, b1, b2, b3⟩ := a2.next hL hb
  refine ⟨k, M2, ?_, b2, a3.tr b3, fun e => a4 (nx_l e), a5⟩
  unfold f_Mod_readNumber
  rw [a1, e_bnd2, b1, e_bnd]
theorem Rm.u {a k : Nat} {x : Int32} (r : Rm z M) (h : a ≠ 103 ∨ k < 23) : Rm z (upd2 M a k x) := by
  have e : ∀ j, 23 ≤ j → upd2 M a k x 103 j = M 103 j := fun j hj => by
    by_cases e : 103 = a
    · subst e; exact u_nk (by omega)
    · rw [u_ne e]
  unfold Rm
  rw [e 27 (by decide), e 28 (by decide), e 25 (by decide), e 24 (by decide), e 26 (by decide), e 23 (by decide)]
  exact r
theorem Tpm.u {a k : Nat} {x : Int32} (t : Tpm b L M) (h : a ≠ 112) (h2 : a ≠ 103 ∨ k ≠ 22) : Tpm b L (upd2 M a k x) := by
  unfold Tpm
  rw [u_ne (Ne.symm h)]
  refine ⟨?_, t.2⟩
  by_cases e : 103 = a
  · subst e; rw [u_nk (by omega)]; exact t.1
  · rw [u_ne e]; exact t.1
theorem MI.set (c : MI b L z D M) {D' : Tn} {a k : Nat} {x : Int32} (ha : (108 ≤ a ∧ a ≤ 111) ∨ (a = 103 ∧ 15 ≤ k ∧ k ≤ 20)) (hD : z.1 = 0 → DM D M → DM D' (upd2 M a k x)) : MI b L z D' (upd2 M a k x) :=
  ⟨c.1.u (by omega) (by omega), c.2.1, c.2.2.1.u (by omega), fun e => hD e (c.2.2.2 e)⟩
theorem MI.cg (c : MI b L z D M) {D' : Tn} (h : z.1 = 0 → D = D') : MI b L z D' M := ⟨c.1, c.2.1, c.2.2.1, fun e => by rw [← h e]; exact c.2.2.2 e⟩
theorem rl_ne {a k v : Nat} (h : a ≠ 20) : rlM (tset D a k v) = rlM D := by
  unfold rlM
  exact orN_cg (fun r _ => by rw [ts_ne (Ne.symm h)])

theorem DM.s111 (c : DM D M) {k v : Nat} (hk : k < 4) : DM (tset D 1 k v) (upd2 M 111 k (nI v)) := by
  obtain ⟨⟨⟨h1, h2, h3, h4⟩, h5, h6⟩, h7, h8, h9, h10, h11⟩ := c
  unfold DM
  rw [rl_ne (show (1 : Nat) ≠ 20 by decide)]
  simp only [ts_ne (T := D) (k := k) (v := v) (show (2 : Nat) ≠ 1 by decide), ts_ne (T := D) (k := k) (v := v) (show (4 : Nat) ≠ 1 by decide), ts_ne (T := D) (k := k) (v := v) (show (5 : Nat) ≠ 1 by decide), ts_ne (T := D) (k := k) (v := v) (show (6 : Nat) ≠ 1 by decide), ts_ne (T := D) (k := k) (v := v) (show (7 : Nat) ≠ 1 by decide), ts_ne (T := D) (k := k) (v := v) (show (8 : Nat) ≠ 1 by decide), ts_ne (T := D) (k := k) (v := v) (show (9 : Nat) ≠ 1 by decide), ts_ne (T := D) (k := k) (v := v) (show (10 : Nat) ≠ 1 by decide), ts_ne (T := D) (k := k) (v := v) (show (11 : Nat) ≠ 1 by decide), ts_ne (T := D) (k := k) (v := v) (show (12 : Nat) ≠ 1 by decide), ts_ne (T := D) (k := k) (v := v) (show (13 : Nat) ≠ 1 by decide), ts_ne (T := D) (k := k) (v := v) (show (14 : Nat) ≠ 1 by decide), ts_ne (T := D) (k := k) (v := v) (show (15 : Nat) ≠ 1 by decide), ts_ne (T := D) (k := k) (v := v) (show (16 : Nat) ≠ 1 by decide), ts_ne (T := D) (k := k) (v := v) (show (17 : Nat) ≠ 1 by decide), ts_ne (T := D) (k := k) (v := v) (show (21 : Nat) ≠ 1 by decide), ts_ne (T := D) (k := k) (v := v) (show (22 : Nat) ≠ 1 by decide), ts_ne (T := D) (k := k) (v := v) (show (23 : Nat) ≠ 1 by decide), ts_ne (T := D) (k := k) (v := v) (show (24 : Nat) ≠ 1 by decide), u_ne (M := M) (k := k) (x := nI v) (show (103 : Nat) ≠ 111 by decide), u_ne (M := M) (k := k) (x := nI v) (show (108 : Nat) ≠ 111 by decide), u_ne (M := M) (k := k) (x := nI v) (show (109 : Nat) ≠ 111 by decide), u_ne (M := M) (k := k) (x := nI v) (show (110 : Nat) ≠ 111 by decide)]
  have go : ∀ j, M 111 j = nI (D 1 j) → upd2 M 111 k (nI v) 111 j = nI (tset D 1 k v 1 j) := fun j h => by
    by_cases e : j = k
    · subst e; rw [u_eq, ts_eq]
    · rw [u_nk e, ts_nk e]; exact h
  exact ⟨⟨⟨go 0 h1, go 1 h2, go 2 h3, go 3 h4⟩, by rw [ts_nk (show (4 : Nat) ≠ k by omega)]; exact h5, by rw [u_nk (show (4 : Nat) ≠ k by omega)]; exact h6⟩, h7, h8, h9, h10, h11⟩

theorem DM.s108w (c : DM D M) {v : Nat} : DM (tset D 1 4 v) (upd2 M 108 81 (nI v)) := by
  obtain ⟨⟨⟨h1, h2, h3, h4⟩, h5, h6⟩, h7, ⟨h8, h8'⟩, ⟨h9, h9'⟩, ⟨h10, h10'⟩, h11, h12, h13, h14⟩ := c
  unfold DM
  rw [rl_ne (show (1 : Nat) ≠ 20 by decide)]
  simp only [ts_ne (T := D) (k := 4) (v := v) (show (2 : Nat) ≠ 1 by decide), ts_ne (T := D) (k := 4) (v := v) (show (4 : Nat) ≠ 1 by decide), ts_ne (T := D) (k := 4) (v := v) (show (5 : Nat) ≠ 1 by decide), ts_ne (T := D) (k := 4) (v := v) (show (6 : Nat) ≠ 1 by decide), ts_ne (T := D) (k := 4) (v := v) (show (7 : Nat) ≠ 1 by decide), ts_ne (T := D) (k := 4) (v := v) (show (8 : Nat) ≠ 1 by decide), ts_ne (T := D) (k := 4) (v := v) (show (9 : Nat) ≠ 1 by decide), ts_ne (T := D) (k := 4) (v := v) (show (10 : Nat) ≠ 1 by decide), ts_ne (T := D) (k := 4) (v := v) (show (11 : Nat) ≠ 1 by decide), ts_ne (T := D) (k := 4) (v := v) (show (12 : Nat) ≠ 1 by decide), ts_ne (T := D) (k := 4) (v := v) (show (13 : Nat) ≠ 1 by decide), ts_ne (T := D) (k := 4) (v := v) (show (14 : Nat) ≠ 1 by decide), ts_ne (T := D) (k := 4) (v := v) (show (15 : Nat) ≠ 1 by decide), ts_ne (T := D) (k := 4) (v := v) (show (16 : Nat) ≠ 1 by decide), ts_ne (T := D) (k := 4) (v := v) (show (17 : Nat) ≠ 1 by decide), ts_ne (T := D) (k := 4) (v := v) (show (21 : Nat) ≠ 1 by decide), ts_ne (T := D) (k := 4) (v := v) (show (22 : Nat) ≠ 1 by decide), ts_ne (T := D) (k := 4) (v := v) (show (23 : Nat) ≠ 1 by decide), ts_ne (T := D) (k := 4) (v := v) (show (24 : Nat) ≠ 1 by decide), u_ne (M := M) (k := 81) (x := (nI v)) (show (103 : Nat) ≠ 108 by decide), u_ne (M := M) (k := 81) (x := (nI v)) (show (109 : Nat) ≠ 108 by decide), u_ne (M := M) (k := 81) (x := (nI v)) (show (110 : Nat) ≠ 108 by decide), u_ne (M := M) (k := 81) (x := (nI v)) (show (111 : Nat) ≠ 108 by decide)]
  have go : ∀ j, j ≠ 81 → upd2 M 108 81 (nI v) 108 j = M 108 j := fun j h => u_nk h
  refine ⟨⟨⟨?_, ?_, ?_, ?_⟩, ?_, h6⟩, fun c hc => ?_, ⟨h8, h8'⟩, ⟨h9, h9'⟩, ⟨?_, fun i hi => ?_⟩, h11, h12, h13, h14⟩
  · rw [ts_nk (show (0 : Nat) ≠ 4 by decide)]; exact h1
  · rw [ts_nk (show (1 : Nat) ≠ 4 by decide)]; exact h2
  · rw [ts_nk (show (2 : Nat) ≠ 4 by decide)]; exact h3
  · rw [ts_nk (show (3 : Nat) ≠ 4 by decide)]; exact h4
  · rw [u_eq, ts_eq]
  · rw [go c (by omega)]; exact h7 c hc
  · rw [go 88 (by decide)]; exact h10
  · rw [go _ (by omega), go _ (by omega), go _ (by omega)]; exact h10' i hi
theorem DM.s1114 (c : DM D M) {v : Nat} : DM (tset D 21 0 (v + 1)) (upd2 M 111 4 (nI v)) := by
  obtain ⟨⟨⟨h1, h2, h3, h4⟩, h5, h6⟩, h7, ⟨h8, h8'⟩, ⟨h9, h9'⟩, ⟨h10, h10'⟩, h11, h12, h13, h14⟩ := c
  unfold DM
  rw [rl_ne (show (21 : Nat) ≠ 20 by decide)]
  simp only [ts_ne (T := D) (k := 0) (v := (v + 1)) (show (1 : Nat) ≠ 21 by decide), ts_ne (T := D) (k := 0) (v := (v + 1)) (show (2 : Nat) ≠ 21 by decide), ts_ne (T := D) (k := 0) (v := (v + 1)) (show (4 : Nat) ≠ 21 by decide), ts_ne (T := D) (k := 0) (v := (v + 1)) (show (5 : Nat) ≠ 21 by decide), ts_ne (T := D) (k := 0) (v := (v + 1)) (show (6 : Nat) ≠ 21 by decide), ts_ne (T := D) (k := 0) (v := (v + 1)) (show (7 : Nat) ≠ 21 by decide), ts_ne (T := D) (k := 0) (v := (v + 1)) (show (8 : Nat) ≠ 21 by decide), ts_ne (T := D) (k := 0) (v := (v + 1)) (show (9 : Nat) ≠ 21 by decide), ts_ne (T := D) (k := 0) (v := (v + 1)) (show (10 : Nat) ≠ 21 by decide), ts_ne (T := D) (k := 0) (v := (v + 1)) (show (11 : Nat) ≠ 21 by decide), ts_ne (T := D) (k := 0) (v := (v + 1)) (show (12 : Nat) ≠ 21 by decide), ts_ne (T := D) (k := 0) (v := (v + 1)) (show (13 : Nat) ≠ 21 by decide), ts_ne (T := D) (k := 0) (v := (v + 1)) (show (14 : Nat) ≠ 21 by decide), ts_ne (T := D) (k := 0) (v := (v + 1)) (show (15 : Nat) ≠ 21 by decide), ts_ne (T := D) (k := 0) (v := (v + 1)) (show (16 : Nat) ≠ 21 by decide), ts_ne (T := D) (k := 0) (v := (v + 1)) (show (17 : Nat) ≠ 21 by decide), ts_ne (T := D) (k := 0) (v := (v + 1)) (show (22 : Nat) ≠ 21 by decide), ts_ne (T := D) (k := 0) (v := (v + 1)) (show (23 : Nat) ≠ 21 by decide), ts_ne (T := D) (k := 0) (v := (v + 1)) (show (24 : Nat) ≠ 21 by decide), u_ne (M := M) (k := 4) (x := (nI v)) (show (103 : Nat) ≠ 111 by decide), u_ne (M := M) (k := 4) (x := (nI v)) (show (108 : Nat) ≠ 111 by decide), u_ne (M := M) (k := 4) (x := (nI v)) (show (109 : Nat) ≠ 111 by decide), u_ne (M := M) (k := 4) (x := (nI v)) (show (110 : Nat) ≠ 111 by decide)]
  refine ⟨⟨⟨?_, ?_, ?_, ?_⟩, h5, ?_⟩, h7, ⟨h8, h8'⟩, ⟨h9, h9'⟩, ⟨h10, h10'⟩, h11, h12, h13, h14⟩
  · rw [u_nk (by decide)]; exact h1
  · rw [u_nk (by decide)]; exact h2
  · rw [u_nk (by decide)]; exact h3
  · rw [u_nk (by decide)]; exact h4
  · rw [u_eq, ts_eq, if_neg (by omega)]; rfl
theorem DM.s108 (c : DM D M) {k v : Nat} (hk : k < 81) : DM (tset D 2 k v) (upd2 M 108 k (nI v)) := by
  obtain ⟨⟨⟨h1, h2, h3, h4⟩, h5, h6⟩, h7, ⟨h8, h8'⟩, ⟨h9, h9'⟩, ⟨h10, h10'⟩, h11, h12, h13, h14⟩ := c
  unfold DM
  rw [rl_ne (show (2 : Nat) ≠ 20 by decide)]
  simp only [ts_ne (T := D) (k := k) (v := v) (show (1 : Nat) ≠ 2 by decide), ts_ne (T := D) (k := k) (v := v) (show (4 : Nat) ≠ 2 by decide), ts_ne (T := D) (k := k) (v := v) (show (5 : Nat) ≠ 2 by decide), ts_ne (T := D) (k := k) (v := v) (show (6 : Nat) ≠ 2 by decide), ts_ne (T := D) (k := k) (v := v) (show (7 : Nat) ≠ 2 by decide), ts_ne (T := D) (k := k) (v := v) (show (8 : Nat) ≠ 2 by decide), ts_ne (T := D) (k := k) (v := v) (show (9 : Nat) ≠ 2 by decide), ts_ne (T := D) (k := k) (v := v) (show (10 : Nat) ≠ 2 by decide), ts_ne (T := D) (k := k) (v := v) (show (11 : Nat) ≠ 2 by decide), ts_ne (T := D) (k := k) (v := v) (show (12 : Nat) ≠ 2 by decide), ts_ne (T := D) (k := k) (v := v) (show (13 : Nat) ≠ 2 by decide), ts_ne (T := D) (k := k) (v := v) (show (14 : Nat) ≠ 2 by decide), ts_ne (T := D) (k := k) (v := v) (show (15 : Nat) ≠ 2 by decide), ts_ne (T := D) (k := k) (v := v) (show (16 : Nat) ≠ 2 by decide), ts_ne (T := D) (k := k) (v := v) (show (17 : Nat) ≠ 2 by decide), ts_ne (T := D) (k := k) (v := v) (show (21 : Nat) ≠ 2 by decide), ts_ne (T := D) (k := k) (v := v) (show (22 : Nat) ≠ 2 by decide), ts_ne (T := D) (k := k) (v := v) (show (23 : Nat) ≠ 2 by decide), ts_ne (T := D) (k := k) (v := v) (show (24 : Nat) ≠ 2 by decide), u_ne (M := M) (k := k) (x := (nI v)) (show (103 : Nat) ≠ 108 by decide), u_ne (M := M) (k := k) (x := (nI v)) (show (109 : Nat) ≠ 108 by decide), u_ne (M := M) (k := k) (x := (nI v)) (show (110 : Nat) ≠ 108 by decide), u_ne (M := M) (k := k) (x := (nI v)) (show (111 : Nat) ≠ 108 by decide)]
  have go : ∀ j, 81 ≤ j → upd2 M 108 k (nI v) 108 j = M 108 j := fun j h => u_nk (by omega)
  refine ⟨⟨⟨h1, h2, h3, h4⟩, ?_, h6⟩, fun c hc => ?_, ⟨h8, h8'⟩, ⟨h9, h9'⟩, ⟨?_, fun i hi => ?_⟩, h11, h12, h13, h14⟩
  · rw [go 81 (by decide)]; exact h5
  · by_cases e : c = k
    · subst e; rw [u_eq, ts_eq]
    · rw [u_nk e, ts_nk e]; exact h7 c hc
  · rw [go 88 (by decide)]; exact h10
  · rw [go _ (by omega), go _ (by omega), go _ (by omega)]; exact h10' i hi
theorem DM.s18 (c : DM D M) {v : Nat} : DM (tset D 22 0 v) (upd2 M 103 18 (nI v)) := by
  obtain ⟨⟨⟨h1, h2, h3, h4⟩, h5, h6⟩, h7, ⟨h8, h8'⟩, ⟨h9, h9'⟩, ⟨h10, h10'⟩, h11, h12, h13, h14⟩ := c
  unfold DM
  rw [rl_ne (show (22 : Nat) ≠ 20 by decide)]
  simp only [ts_ne (T := D) (k := 0) (v := v) (show (1 : Nat) ≠ 22 by decide), ts_ne (T := D) (k := 0) (v := v) (show (2 : Nat) ≠ 22 by decide), ts_ne (T := D) (k := 0) (v := v) (show (4 : Nat) ≠ 22 by decide), ts_ne (T := D) (k := 0) (v := v) (show (5 : Nat) ≠ 22 by decide), ts_ne (T := D) (k := 0) (v := v) (show (6 : Nat) ≠ 22 by decide), ts_ne (T := D) (k := 0) (v := v) (show (7 : Nat) ≠ 22 by decide), ts_ne (T := D) (k := 0) (v := v) (show (8 : Nat) ≠ 22 by decide), ts_ne (T := D) (k := 0) (v := v) (show (9 : Nat) ≠ 22 by decide), ts_ne (T := D) (k := 0) (v := v) (show (10 : Nat) ≠ 22 by decide), ts_ne (T := D) (k := 0) (v := v) (show (11 : Nat) ≠ 22 by decide), ts_ne (T := D) (k := 0) (v := v) (show (12 : Nat) ≠ 22 by decide), ts_ne (T := D) (k := 0) (v := v) (show (13 : Nat) ≠ 22 by decide), ts_ne (T := D) (k := 0) (v := v) (show (14 : Nat) ≠ 22 by decide), ts_ne (T := D) (k := 0) (v := v) (show (15 : Nat) ≠ 22 by decide), ts_ne (T := D) (k := 0) (v := v) (show (16 : Nat) ≠ 22 by decide), ts_ne (T := D) (k := 0) (v := v) (show (17 : Nat) ≠ 22 by decide), ts_ne (T := D) (k := 0) (v := v) (show (21 : Nat) ≠ 22 by decide), ts_ne (T := D) (k := 0) (v := v) (show (23 : Nat) ≠ 22 by decide), ts_ne (T := D) (k := 0) (v := v) (show (24 : Nat) ≠ 22 by decide), u_ne (M := M) (k := 18) (x := (nI v)) (show (108 : Nat) ≠ 103 by decide), u_ne (M := M) (k := 18) (x := (nI v)) (show (109 : Nat) ≠ 103 by decide), u_ne (M := M) (k := 18) (x := (nI v)) (show (110 : Nat) ≠ 103 by decide), u_ne (M := M) (k := 18) (x := (nI v)) (show (111 : Nat) ≠ 103 by decide)]
  refine ⟨⟨⟨h1, h2, h3, h4⟩, h5, h6⟩, h7, ⟨?_, h8'⟩, ⟨?_, h9'⟩, ⟨h10, h10'⟩, ?_, ?_, ?_, ?_⟩
  · rw [u_nk (by decide)]; exact h8
  · rw [u_nk (by decide)]; exact h9
  · rw [u_nk (by decide)]; exact h11
  · rw [u_eq, ts_eq]
  · rw [u_nk (by decide)]; exact h13
  · rw [u_nk (by decide)]; exact h14
theorem DM.s19 (c : DM D M) {v : Nat} : DM (tset D 23 0 v) (upd2 M 103 19 (nI v)) := by
  obtain ⟨⟨⟨h1, h2, h3, h4⟩, h5, h6⟩, h7, ⟨h8, h8'⟩, ⟨h9, h9'⟩, ⟨h10, h10'⟩, h11, h12, h13, h14⟩ := c
  unfold DM
  rw [rl_ne (show (23 : Nat) ≠ 20 by decide)]
  simp only [ts_ne (T := D) (k := 0) (v := v) (show (1 : Nat) ≠ 23 by decide), ts_ne (T := D) (k := 0) (v := v) (show (2 : Nat) ≠ 23 by decide), ts_ne (T := D) (k := 0) (v := v) (show (4 : Nat) ≠ 23 by decide), ts_ne (T := D) (k := 0) (v := v) (show (5 : Nat) ≠ 23 by decide), ts_ne (T := D) (k := 0) (v := v) (show (6 : Nat) ≠ 23 by decide), ts_ne (T := D) (k := 0) (v := v) (show (7 : Nat) ≠ 23 by decide), ts_ne (T := D) (k := 0) (v := v) (show (8 : Nat) ≠ 23 by decide), ts_ne (T := D) (k := 0) (v := v) (show (9 : Nat) ≠ 23 by decide), ts_ne (T := D) (k := 0) (v := v) (show (10 : Nat) ≠ 23 by decide), ts_ne (T := D) (k := 0) (v := v) (show (11 : Nat) ≠ 23 by decide), ts_ne (T := D) (k := 0) (v := v) (show (12 : Nat) ≠ 23 by decide), ts_ne (T := D) (k := 0) (v := v) (show (13 : Nat) ≠ 23 by decide), ts_ne (T := D) (k := 0) (v := v) (show (14 : Nat) ≠ 23 by decide), ts_ne (T := D) (k := 0) (v := v) (show (15 : Nat) ≠ 23 by decide), ts_ne (T := D) (k := 0) (v := v) (show (16 : Nat) ≠ 23 by decide), ts_ne (T := D) (k := 0) (v := v) (show (17 : Nat) ≠ 23 by decide), ts_ne (T := D) (k := 0) (v := v) (show (21 : Nat) ≠ 23 by decide), ts_ne (T := D) (k := 0) (v := v) (show (22 : Nat) ≠ 23 by decide), ts_ne (T := D) (k := 0) (v := v) (show (24 : Nat) ≠ 23 by decide), u_ne (M := M) (k := 19) (x := (nI v)) (show (108 : Nat) ≠ 103 by decide), u_ne (M := M) (k := 19) (x := (nI v)) (show (109 : Nat) ≠ 103 by decide), u_ne (M := M) (k := 19) (x := (nI v)) (show (110 : Nat) ≠ 103 by decide), u_ne (M := M) (k := 19) (x := (nI v)) (show (111 : Nat) ≠ 103 by decide)]
  refine ⟨⟨⟨h1, h2, h3, h4⟩, h5, h6⟩, h7, ⟨?_, h8'⟩, ⟨?_, h9'⟩, ⟨h10, h10'⟩, ?_, ?_, ?_, ?_⟩
  · rw [u_nk (by decide)]; exact h8
  · rw [u_nk (by decide)]; exact h9
  · rw [u_nk (by decide)]; exact h11
  · rw [u_nk (by decide)]; exact h12
  · rw [u_eq, ts_eq]
  · rw [u_nk (by decide)]; exact h14
theorem DM.s17 (c : DM D M) {v : Nat} : DM (tset D 24 0 (v + 1)) (upd2 M 103 17 (nI v)) := by
  obtain ⟨⟨⟨h1, h2, h3, h4⟩, h5, h6⟩, h7, ⟨h8, h8'⟩, ⟨h9, h9'⟩, ⟨h10, h10'⟩, h11, h12, h13, h14⟩ := c
  unfold DM
  rw [rl_ne (show (24 : Nat) ≠ 20 by decide)]
  simp only [ts_ne (T := D) (k := 0) (v := (v + 1)) (show (1 : Nat) ≠ 24 by decide), ts_ne (T := D) (k := 0) (v := (v + 1)) (show (2 : Nat) ≠ 24 by decide), ts_ne (T := D) (k := 0) (v := (v + 1)) (show (4 : Nat) ≠ 24 by decide), ts_ne (T := D) (k := 0) (v := (v + 1)) (show (5 : Nat) ≠ 24 by decide), ts_ne (T := D) (k := 0) (v := (v + 1)) (show (6 : Nat) ≠ 24 by decide), ts_ne (T := D) (k := 0) (v := (v + 1)) (show (7 : Nat) ≠ 24 by decide), ts_ne (T := D) (k := 0) (v := (v + 1)) (show (8 : Nat) ≠ 24 by decide), ts_ne (T := D) (k := 0) (v := (v + 1)) (show (9 : Nat) ≠ 24 by decide), ts_ne (T := D) (k := 0) (v := (v + 1)) (show (10 : Nat) ≠ 24 by decide), ts_ne (T := D) (k := 0) (v := (v + 1)) (show (11 : Nat) ≠ 24 by decide), ts_ne (T := D) (k := 0) (v := (v + 1)) (show (12 : Nat) ≠ 24 by decide), ts_ne (T := D) (k := 0) (v := (v + 1)) (show (13 : Nat) ≠ 24 by decide), ts_ne (T := D) (k := 0) (v := (v + 1)) (show (14 : Nat) ≠ 24 by decide), ts_ne (T := D) (k := 0) (v := (v + 1)) (show (15 : Nat) ≠ 24 by decide), ts_ne (T := D) (k := 0) (v := (v + 1)) (show (16 : Nat) ≠ 24 by decide), ts_ne (T := D) (k := 0) (v := (v + 1)) (show (17 : Nat) ≠ 24 by decide), ts_ne (T := D) (k := 0) (v := (v + 1)) (show (21 : Nat) ≠ 24 by decide), ts_ne (T := D) (k := 0) (v := (v + 1)) (show (22 : Nat) ≠ 24 by decide), ts_ne (T := D) (k := 0) (v := (v + 1)) (show (23 : Nat) ≠ 24 by decide), u_ne (M := M) (k := 17) (x := (nI v)) (show (108 : Nat) ≠ 103 by decide), u_ne (M := M) (k := 17) (x := (nI v)) (show (109 : Nat) ≠ 103 by decide), u_ne (M := M) (k := 17) (x := (nI v)) (show (110 : Nat) ≠ 103 by decide), u_ne (M := M) (k := 17) (x := (nI v)) (show (111 : Nat) ≠ 103 by decide)]
  refine ⟨⟨⟨h1, h2, h3, h4⟩, h5, h6⟩, h7, ⟨?_, h8'⟩, ⟨?_, h9'⟩, ⟨h10, h10'⟩, ?_, ?_, ?_, ?_⟩
  · rw [u_nk (by decide)]; exact h8
  · rw [u_nk (by decide)]; exact h9
  · rw [u_eq, ts_eq, if_neg (by omega)]; rfl
  · rw [u_nk (by decide)]; exact h12
  · rw [u_nk (by decide)]; exact h13
  · rw [u_nk (by decide)]; exact h14
theorem DM.s20 (c : DM D M) {i : Nat} (hi : i < 5) : DM (tset D 20 i 1) (upd2 M 103 20 (M 103 20 ||| jshl 1 (nI i))) := by
  obtain ⟨⟨⟨h1, h2, h3, h4⟩, h5, h6⟩, h7, ⟨h8, h8'⟩, ⟨h9, h9'⟩, ⟨h10, h10'⟩, h11, h12, h13, h14⟩ := c
  unfold DM
  rw [rl_set hi]
  simp only [ts_ne (T := D) (k := i) (v := 1) (show (1 : Nat) ≠ 20 by decide), ts_ne (T := D) (k := i) (v := 1) (show (2 : Nat) ≠ 20 by decide), ts_ne (T := D) (k := i) (v := 1) (show (4 : Nat) ≠ 20 by decide), ts_ne (T := D) (k := i) (v := 1) (show (5 : Nat) ≠ 20 by decide), ts_ne (T := D) (k := i) (v := 1) (show (6 : Nat) ≠ 20 by decide), ts_ne (T := D) (k := i) (v := 1) (show (7 : Nat) ≠ 20 by decide), ts_ne (T := D) (k := i) (v := 1) (show (8 : Nat) ≠ 20 by decide), ts_ne (T := D) (k := i) (v := 1) (show (9 : Nat) ≠ 20 by decide), ts_ne (T := D) (k := i) (v := 1) (show (10 : Nat) ≠ 20 by decide), ts_ne (T := D) (k := i) (v := 1) (show (11 : Nat) ≠ 20 by decide), ts_ne (T := D) (k := i) (v := 1) (show (12 : Nat) ≠ 20 by decide), ts_ne (T := D) (k := i) (v := 1) (show (13 : Nat) ≠ 20 by decide), ts_ne (T := D) (k := i) (v := 1) (show (14 : Nat) ≠ 20 by decide), ts_ne (T := D) (k := i) (v := 1) (show (15 : Nat) ≠ 20 by decide), ts_ne (T := D) (k := i) (v := 1) (show (16 : Nat) ≠ 20 by decide), ts_ne (T := D) (k := i) (v := 1) (show (17 : Nat) ≠ 20 by decide), ts_ne (T := D) (k := i) (v := 1) (show (21 : Nat) ≠ 20 by decide), ts_ne (T := D) (k := i) (v := 1) (show (22 : Nat) ≠ 20 by decide), ts_ne (T := D) (k := i) (v := 1) (show (23 : Nat) ≠ 20 by decide), ts_ne (T := D) (k := i) (v := 1) (show (24 : Nat) ≠ 20 by decide), u_ne (M := M) (k := 20) (x := M 103 20 ||| jshl 1 (nI i)) (show (108 : Nat) ≠ 103 by decide), u_ne (M := M) (k := 20) (x := M 103 20 ||| jshl 1 (nI i)) (show (109 : Nat) ≠ 103 by decide), u_ne (M := M) (k := 20) (x := M 103 20 ||| jshl 1 (nI i)) (show (110 : Nat) ≠ 103 by decide), u_ne (M := M) (k := 20) (x := M 103 20 ||| jshl 1 (nI i)) (show (111 : Nat) ≠ 103 by decide)]
  refine ⟨⟨⟨h1, h2, h3, h4⟩, h5, h6⟩, h7, ⟨?_, h8'⟩, ⟨?_, h9'⟩, ⟨h10, h10'⟩, ?_, ?_, ?_, ?_⟩
  · rw [u_nk (by decide)]; exact h8
  · rw [u_nk (by decide)]; exact h9
  · rw [u_nk (by decide)]; exact h11
  · rw [u_nk (by decide)]; exact h12
  · rw [u_nk (by decide)]; exact h13
  · rw [u_eq, h14]
/-- a cell behind the counts is set -/
theorem DM.s109 (c : DM D M) {k : Nat} {x : Int32} (hk : 4 * D 4 0 ≤ k) : DM D (upd2 M 109 k x) := by
  obtain ⟨⟨⟨h1, h2, h3, h4⟩, h5, h6⟩, h7, ⟨h8, h8'⟩, ⟨h9, h9'⟩, ⟨h10, h10'⟩, h11, h12, h13, h14⟩ := c
  unfold DM
  rw [u_ne (show (103 : Nat) ≠ 109 by decide), u_ne (show (108 : Nat) ≠ 109 by decide), u_ne (show (110 : Nat) ≠ 109 by decide), u_ne (show (111 : Nat) ≠ 109 by decide)]
  exact ⟨⟨⟨h1, h2, h3, h4⟩, h5, h6⟩, h7, ⟨h8, fun i hi => by rw [u_nk (by omega), u_nk (by omega), u_nk (by omega), u_nk (by omega)]; exact h8' i hi⟩, ⟨h9, h9'⟩, ⟨h10, h10'⟩, h11, h12, h13, h14⟩
theorem DM.s110 (c : DM D M) {k : Nat} {x : Int32} (hk : 3 * D 10 0 ≤ k) : DM D (upd2 M 110 k x) := by
  obtain ⟨⟨⟨h1, h2, h3, h4⟩, h5, h6⟩, h7, ⟨h8, h8'⟩, ⟨h9, h9'⟩, ⟨h10, h10'⟩, h11, h12, h13, h14⟩ := c
  unfold DM
  rw [u_ne (show (103 : Nat) ≠ 110 by decide), u_ne (show (108 : Nat) ≠ 110 by decide), u_ne (show (109 : Nat) ≠ 110 by decide), u_ne (show (111 : Nat) ≠ 110 by decide)]
  exact ⟨⟨⟨h1, h2, h3, h4⟩, h5, h6⟩, h7, ⟨h8, h8'⟩, ⟨h9, fun i hi => by rw [u_nk (by omega), u_nk (by omega), u_nk (by omega)]; exact h9' i hi⟩, ⟨h10, h10'⟩, h11, h12, h13, h14⟩
theorem DM.s108v (c : DM D M) {k : Nat} {x : Int32} (hk : 89 + 3 * D 14 0 ≤ k) : DM D (upd2 M 108 k x) := by
  obtain ⟨⟨⟨h1, h2, h3, h4⟩, h5, h6⟩, h7, ⟨h8, h8'⟩, ⟨h9, h9'⟩, ⟨h10, h10'⟩, h11, h12, h13, h14⟩ := c
  unfold DM
  rw [u_ne (show (103 : Nat) ≠ 108 by decide), u_ne (show (109 : Nat) ≠ 108 by decide), u_ne (show (110 : Nat) ≠ 108 by decide), u_ne (show (111 : Nat) ≠ 108 by decide)]
  exact ⟨⟨⟨h1, h2, h3, h4⟩, by rw [u_nk (by omega)]; exact h5, h6⟩, fun c hc => by rw [u_nk (by omega)]; exact h7 c hc, ⟨h8, h8'⟩, ⟨h9, h9'⟩, ⟨by rw [u_nk (by omega)]; exact h10, fun i hi => by rw [u_nk (by omega), u_nk (by omega), u_nk (by omega)]; exact h10' i hi⟩, h11, h12, h13, h14⟩
theorem rl_bP {x y f e k : Nat} : rlM (bP D x y f e k) = rlM D := by
  unfold rlM
  exact orN_cg (fun r _ => by rw [bP_o (by decide)])
theorem rl_tP {t u v w : Nat} (ht : t ≤ 14) : rlM (tP D t u v w) = rlM D := by
  unfold rlM
  exact orN_cg (fun r _ => by rw [tP_o (by omega)])
theorem DM.ben (c : DM D M) {x y f e k : Nat} (e0 : M 109 (4 * D 4 0) = nI (9 * y + x)) (e1 : M 109 (4 * D 4 0 + 1) = nI f) (e2 : M 109 (4 * D 4 0 + 2) = nI e) (e3 : M 109 (4 * D 4 0 + 3) = nI k) : DM (bP D x y f e k) (upd2 M 103 15 (nI (D 4 0 + 1))) := by
  obtain ⟨⟨⟨h1, h2, h3, h4⟩, h5, h6⟩, h7, ⟨h8, h8'⟩, ⟨h9, h9'⟩, ⟨h10, h10'⟩, h11, h12, h13, h14⟩ := c
  have o : ∀ a i, a < 4 ∨ 9 < a → bP D x y f e k a i = D a i := fun a i h => bP_o h
  unfold DM
  rw [rl_bP, u_ne (show (108 : Nat) ≠ 103 by decide), u_ne (show (109 : Nat) ≠ 103 by decide), u_ne (show (110 : Nat) ≠ 103 by decide), u_ne (show (111 : Nat) ≠ 103 by decide), bP_4]
  refine ⟨⟨⟨by rw [o 1 _ (by decide)]; exact h1, by rw [o 1 _ (by decide)]; exact h2, by rw [o 1 _ (by decide)]; exact h3, by rw [o 1 _ (by decide)]; exact h4⟩, by rw [o 1 _ (by decide)]; exact h5, by rw [o 21 _ (by decide)]; exact h6⟩, fun c hc => by rw [o 2 _ (by decide)]; exact h7 c hc, ⟨u_eq, fun i hi => ?_⟩, ⟨by rw [u_nk (by decide), o 10 _ (by decide)]; exact h9, fun i hi => by rw [o 10 _ (by decide)] at hi; rw [o 11 _ (by decide), o 12 _ (by decide), o 13 _ (by decide)]; exact h9' i hi⟩, ⟨by rw [o 14 _ (by decide)]; exact h10, fun i hi => by rw [o 14 _ (by decide)] at hi; rw [o 15 _ (by decide), o 16 _ (by decide), o 17 _ (by decide)]; exact h10' i hi⟩, by rw [u_nk (by decide), o 24 _ (by decide)]; exact h11, by rw [u_nk (by decide), o 22 _ (by decide)]; exact h12, by rw [u_nk (by decide), o 23 _ (by decide)]; exact h13, by rw [u_nk (by decide)]; exact h14⟩
  by_cases q : i = D 4 0
  · subst q
    rw [bP_n (by decide) (by decide), bP_n (by decide) (by decide), bP_n (by decide) (by decide), bP_n (by decide) (by decide), bP_n (by decide) (by decide)]
    exact ⟨e0, e1, e2, e3⟩
  · rw [bP_i (by decide) q, bP_i (by decide) q, bP_i (by decide) q, bP_i (by decide) q, bP_i (by decide) q]
    exact h8' i (by omega)
theorem DM.want (c : DM D M) {u v w : Nat} (e0 : M 110 (3 * D 10 0) = nI u) (e1 : M 110 (3 * D 10 0 + 1) = nI v) (e2 : M 110 (3 * D 10 0 + 2) = nI w) : DM (tP D 10 u v w) (upd2 M 103 16 (nI (D 10 0 + 1))) := by
  obtain ⟨⟨⟨h1, h2, h3, h4⟩, h5, h6⟩, h7, ⟨h8, h8'⟩, ⟨h9, h9'⟩, ⟨h10, h10'⟩, h11, h12, h13, h14⟩ := c
  have o : ∀ a i, a < 10 ∨ 13 < a → tP D 10 u v w a i = D a i := fun a i h => tP_o h
  unfold DM
  rw [rl_tP (by decide), u_ne (show (108 : Nat) ≠ 103 by decide), u_ne (show (109 : Nat) ≠ 103 by decide), u_ne (show (110 : Nat) ≠ 103 by decide), u_ne (show (111 : Nat) ≠ 103 by decide), tP_t]
  refine ⟨⟨⟨by rw [o 1 _ (by decide)]; exact h1, by rw [o 1 _ (by decide)]; exact h2, by rw [o 1 _ (by decide)]; exact h3, by rw [o 1 _ (by decide)]; exact h4⟩, by rw [o 1 _ (by decide)]; exact h5, by rw [o 21 _ (by decide)]; exact h6⟩, fun c hc => by rw [o 2 _ (by decide)]; exact h7 c hc, ⟨by rw [u_nk (by decide), o 4 _ (by decide)]; exact h8, fun i hi => by rw [o 4 _ (by decide)] at hi; rw [o 5 _ (by decide), o 6 _ (by decide), o 7 _ (by decide), o 8 _ (by decide), o 9 _ (by decide)]; exact h8' i hi⟩, ⟨u_eq, fun i hi => ?_⟩, ⟨by rw [o 14 _ (by decide)]; exact h10, fun i hi => by rw [o 14 _ (by decide)] at hi; rw [o 15 _ (by decide), o 16 _ (by decide), o 17 _ (by decide)]; exact h10' i hi⟩, by rw [u_nk (by decide), o 24 _ (by decide)]; exact h11, by rw [u_nk (by decide), o 22 _ (by decide)]; exact h12, by rw [u_nk (by decide), o 23 _ (by decide)]; exact h13, by rw [u_nk (by decide)]; exact h14⟩
  by_cases q : i = D 10 0
  · subst q
    rw [show tP D 10 u v w 11 (D 10 0) = u from tP_1, show tP D 10 u v w 12 (D 10 0) = v from tP_2, show tP D 10 u v w 13 (D 10 0) = w from tP_3]
    exact ⟨e0, e1, e2⟩
  · rw [tP_i (by decide) q, tP_i (by decide) q, tP_i (by decide) q]
    exact h9' i (by omega)
theorem DM.wsp (c : DM D M) {u v w : Nat} (e0 : M 108 (89 + 3 * D 14 0) = nI u) (e1 : M 108 (89 + 3 * D 14 0 + 1) = nI v) (e2 : M 108 (89 + 3 * D 14 0 + 2) = nI w) : DM (tP D 14 u v w) (upd2 M 108 88 (nI (D 14 0 + 1))) := by
  obtain ⟨⟨⟨h1, h2, h3, h4⟩, h5, h6⟩, h7, ⟨h8, h8'⟩, ⟨h9, h9'⟩, ⟨h10, h10'⟩, h11, h12, h13, h14⟩ := c
  have o : ∀ a i, a < 14 ∨ 17 < a → tP D 14 u v w a i = D a i := fun a i h => tP_o h
  unfold DM
  rw [rl_tP (by decide), u_ne (show (103 : Nat) ≠ 108 by decide), u_ne (show (109 : Nat) ≠ 108 by decide), u_ne (show (110 : Nat) ≠ 108 by decide), u_ne (show (111 : Nat) ≠ 108 by decide), tP_t]
  refine ⟨⟨⟨by rw [o 1 _ (by decide)]; exact h1, by rw [o 1 _ (by decide)]; exact h2, by rw [o 1 _ (by decide)]; exact h3, by rw [o 1 _ (by decide)]; exact h4⟩, by rw [u_nk (by decide), o 1 _ (by decide)]; exact h5, by rw [o 21 _ (by decide)]; exact h6⟩, fun c hc => by rw [u_nk (by omega), o 2 _ (by decide)]; exact h7 c hc, ⟨by rw [o 4 _ (by decide)]; exact h8, fun i hi => by rw [o 4 _ (by decide)] at hi; rw [o 5 _ (by decide), o 6 _ (by decide), o 7 _ (by decide), o 8 _ (by decide), o 9 _ (by decide)]; exact h8' i hi⟩, ⟨by rw [o 10 _ (by decide)]; exact h9, fun i hi => by rw [o 10 _ (by decide)] at hi; rw [o 11 _ (by decide), o 12 _ (by decide), o 13 _ (by decide)]; exact h9' i hi⟩, ⟨u_eq, fun i hi => ?_⟩, by rw [o 24 _ (by decide)]; exact h11, by rw [o 22 _ (by decide)]; exact h12, by rw [o 23 _ (by decide)]; exact h13, h14⟩
  rw [u_nk (by omega), u_nk (by omega), u_nk (by omega)]
  by_cases q : i = D 14 0
  · subst q
    rw [show tP D 14 u v w 15 (D 14 0) = u from tP_1, show tP D 14 u v w 16 (D 14 0) = v from tP_2, show tP D 14 u v w 17 (D 14 0) = w from tP_3]
    exact ⟨e0, e1, e2⟩
  · rw [tP_i (by decide) q, tP_i (by decide) q, tP_i (by decide) q]
    exact h10' i (by omega)
end ML
