/-! pure: the words of the text, one by one -/
theorem sub_nJ {a b : Nat} (h : b ≤ a) : nI a - nI b = nI (a - b) := by
  rw [J_nI, J_nI, J_nI, J_sub]
  congr 1
  omega
def sk (P : Nat → Bool) : Nat → Nat → Nat
  | 0, p => p
  | m + 1, p => if P p = true then sk P m (p + 1) else p
theorem sk_s {P : Nat → Bool} {m p : Nat} : sk P (m + 1) p = if P p = true then sk P m (p + 1) else p := rfl
theorem sk_ge {P : Nat → Bool} : ∀ m p, p ≤ sk P m p
  | 0, _ => Nat.le_refl _
  | m + 1, p => by
    rw [sk_s]
    split
    · exact Nat.le_trans (Nat.le_succ p) (sk_ge m (p + 1))
    · exact Nat.le_refl _
theorem sk_le {P : Nat → Bool} {L : Nat} (h : ∀ p, P p = true → p < L) : ∀ m p, p ≤ L → sk P m p ≤ L
  | 0, _, q => q
  | m + 1, p, q => by
    rw [sk_s]
    split
    · rename_i e
      exact sk_le h m (p + 1) (h p e)
    · exact q
def sgb (x : Nat) : Int32 := (nI x).toInt8.toInt32
def clsN (x : Nat) : Nat := if 97 ≤ x ∧ x ≤ 122 then 1 else if 48 ≤ x ∧ x ≤ 57 then 2 else if x = 59 then 3 else 0
theorem sg_all : ∀ x, x < 256 → (sgb x = 32 ↔ x = 32) ∧ f_Tap_tokenOf (sgb x) = some (nI (clsN x)) ∧ (clsN x = 1 ∨ clsN x = 2 → sgb x = nI x ∧ 48 ≤ x) := by decide +kernel
theorem cls_le {x : Nat} : clsN x ≤ 3 := by
  unfold clsN
  split
  · decide
  · split
    · decide
    · split <;> decide
def isSp (b : Nat → Nat) (L : Nat) : Nat → Bool := fun p => decide (p < L) && decide (b p = 32)
def isK (b : Nat → Nat) (L c : Nat) : Nat → Bool := fun p => decide (p < L) && decide (clsN (b p) = c)
def dvN (b : Nat → Nat) (p : Nat) : Nat → Nat
  | 0 => 0
  | k + 1 => 10 * dvN b p k + (b (p + k) - 48)
/-- fault, its place, kind (0 the end, 1 a name, 2 a number, 3 the sign), start, number, next -/
abbrev Tz : Type := Nat × Nat × Nat × Nat × Nat × Nat
def nxp (b : Nat → Nat) (L p : Nat) : Tz :=
  if L ≤ p then (0, 0, 0, p, 0, p)
  else if clsN (b p) = 0 then (1, p, 0, p, 0, p)
  else if clsN (b p) = 3 then (0, 0, 3, p, 0, p + 1)
  else if clsN (b p) = 1 then (0, 0, 1, p, 0, sk (isK b L 1) 320 p)
  else if sk (isK b L 2) 320 p - p ≤ 3 then (0, 0, 2, p, dvN b p (sk (isK b L 2) 320 p - p), sk (isK b L 2) 320 p) else (1, p, 2, p, 0, sk (isK b L 2) 320 p)
def nx (b : Nat → Nat) (L : Nat) (z : Tz) : Tz := if z.1 = 0 then nxp b L (sk (isSp b L) 320 z.2.2.2.2.2) else z
def Tc (b : Nat → Nat) (L : Nat) (M : Mem) : Prop := M 70 0 = nI L ∧ ∀ j, j < L → M 71 j = sgb (b j)
def Tpm (b : Nat → Nat) (L : Nat) (M : Mem) : Prop := M 103 22 = nI L ∧ ∀ j, j < L → M 112 j = nI (b j)
def Rc (z : Tz) (M : Mem) : Prop := M 70 4 = nI z.1 ∧ (z.1 ≠ 0 → M 70 5 = nI z.2.1) ∧ (∃ s, s ≤ 320 ∧ M 70 2 = nI s) ∧ (z.1 = 0 → M 70 1 = nI (if z.2.2.1 = 0 then 4 else z.2.2.1) ∧ M 70 2 = nI z.2.2.2.1 ∧ (z.2.2.1 = 2 → M 70 3 = nI z.2.2.2.2.1) ∧ M 70 6 = nI z.2.2.2.2.2)
def Rm (z : Tz) (M : Mem) : Prop := M 103 27 = nI z.1 ∧ (z.1 ≠ 0 → M 103 28 = nI z.2.1) ∧ (z.1 = 0 → M 103 25 = nI z.2.2.1 ∧ M 103 24 = nI z.2.2.2.1 ∧ (z.2.2.1 = 2 → M 103 26 = nI z.2.2.2.2.1) ∧ M 103 23 = nI z.2.2.2.2.2)
def Wz (L : Nat) (z : Tz) : Prop := z.1 ≤ 7 ∧ z.2.1 ≤ 320 ∧ (z.1 = 0 → z.2.2.1 ≤ 3 ∧ z.2.2.2.1 ≤ z.2.2.2.2.2 ∧ z.2.2.2.2.2 ≤ L ∧ (z.2.2.1 = 2 → z.2.2.2.2.1 ≤ 999))
theorem Wz.dd {L f p t s n q : Nat} (h1 : f ≤ 7) (h2 : p ≤ 320) (h3 : f ≠ 0) : Wz L (f, p, t, s, n, q) := ⟨h1, h2, fun e => absurd e h3⟩
theorem Wz.lv {L t s n q : Nat} (h1 : t ≤ 3) (h2 : s ≤ q) (h3 : q ≤ L) (h4 : t = 2 → n ≤ 999) : Wz L (0, 0, t, s, n, q) := ⟨Nat.zero_le _, Nat.zero_le _, fun _ => ⟨h1, h2, h3, h4⟩⟩
theorem Rc.lv {t s n q : Nat} {M : Mem} (h4 : M 70 4 = 0) (h2 : M 70 2 = nI s) (hs : s ≤ 320) (h1 : M 70 1 = nI (if t = 0 then 4 else t)) (h3 : t = 2 → M 70 3 = nI n) (h6 : M 70 6 = nI q) : Rc (0, 0, t, s, n, q) M := ⟨h4, fun e => absurd rfl e, ⟨s, hs, h2⟩, fun _ => ⟨h1, h2, h3, h6⟩⟩
theorem Rc.dd {f p t s n q : Nat} {M : Mem} (hf : f ≠ 0) (h4 : M 70 4 = nI f) (h5 : M 70 5 = nI p) (h2 : ∃ s, s ≤ 320 ∧ M 70 2 = nI s) : Rc (f, p, t, s, n, q) M := ⟨h4, fun _ => h5, h2, fun e => absurd e hf⟩
theorem Rm.lv {t s n q : Nat} {M : Mem} (h4 : M 103 27 = 0) (h1 : M 103 25 = nI t) (h2 : M 103 24 = nI s) (h3 : t = 2 → M 103 26 = nI n) (h6 : M 103 23 = nI q) : Rm (0, 0, t, s, n, q) M := ⟨h4, fun e => absurd rfl e, fun _ => ⟨h1, h2, h3, h6⟩⟩
theorem Rm.dd {f p t s n q : Nat} {M : Mem} (hf : f ≠ 0) (h4 : M 103 27 = nI f) (h5 : M 103 28 = nI p) : Rm (f, p, t, s, n, q) M := ⟨h4, fun _ => h5, fun e => absurd e hf⟩
theorem isK_lt {b : Nat → Nat} {L c p : Nat} (h : isK b L c p = true) : p < L := by
  unfold isK at h
  rw [Bool.and_eq_true] at h
  exact of_decide_eq_true h.1
theorem isSp_lt {b : Nat → Nat} {L p : Nat} (h : isSp b L p = true) : p < L := by
  unfold isSp at h
  rw [Bool.and_eq_true] at h
  exact of_decide_eq_true h.1
theorem isK_all {b : Nat → Nat} {L c : Nat} : ∀ m p j, p ≤ j → j < sk (isK b L c) m p → clsN (b j) = c
  | 0, p, j, h1, h2 => by
    have : j < p := h2
    omega
  | m + 1, p, j, h1, h2 => by
    rw [sk_s] at h2
    by_cases q : isK b L c p = true
    · rw [if_pos q] at h2
      by_cases e : j = p
      · subst e
        unfold isK at q
        rw [Bool.and_eq_true] at q
        exact of_decide_eq_true q.2
      · exact isK_all m (p + 1) j (by omega) h2
    · rw [if_neg q] at h2
      omega
theorem dig_le {x : Nat} (h : clsN x = 2) : 48 ≤ x ∧ x ≤ 57 := by
  unfold clsN at h
  split at h
  · omega
  · split at h
    · assumption
    · split at h <;> omega
theorem dv_le {b : Nat → Nat} {p n : Nat} (h : ∀ j, p ≤ j → j < p + n → clsN (b j) = 2) (hn : n ≤ 3) : dvN b p n ≤ 999 := by
  have d : ∀ k, k < n → b (p + k) - 48 ≤ 9 := fun k hk => by
    have := dig_le (h (p + k) (by omega) (by omega))
    omega
  rcases (show n = 0 ∨ n = 1 ∨ n = 2 ∨ n = 3 by omega) with rfl | rfl | rfl | rfl
  · exact Nat.zero_le _
  · have := d 0 (by decide)
    show 10 * 0 + (b (p + 0) - 48) ≤ 999
    omega
  · have h0 := d 0 (by decide)
    have h1 := d 1 (by decide)
    show 10 * (10 * 0 + (b (p + 0) - 48)) + (b (p + 1) - 48) ≤ 999
    omega
  · have h0 := d 0 (by decide)
    have h1 := d 1 (by decide)
    have h2 := d 2 (by decide)
    show 10 * (10 * (10 * 0 + (b (p + 0) - 48)) + (b (p + 1) - 48)) + (b (p + 2) - 48) ≤ 999
    omega
theorem nx_w {b : Nat → Nat} {L : Nat} {z : Tz} (hL : L ≤ 320) (h : z.1 = 0 → z.2.2.2.2.2 ≤ L) (hz : z.1 ≠ 0 → Wz L z) : Wz L (nx b L z) := by
  unfold nx
  by_cases q : z.1 = 0
  · rw [if_pos q]
    have h1 := sk_le (P := isSp b L) (fun p => isSp_lt) 320 _ (h q)
    generalize sk (isSp b L) 320 z.2.2.2.2.2 = p at h1
    have h2 := sk_ge (P := isK b L 1) 320 p
    have h3 := sk_le (P := isK b L 1) (fun p => isK_lt) 320 p h1
    have h4 := sk_ge (P := isK b L 2) 320 p
    have h5 := sk_le (P := isK b L 2) (fun p => isK_lt) 320 p h1
    unfold nxp
    split
    · exact Wz.lv (by decide) (Nat.le_refl _) h1 (fun e => absurd e (by decide))
    · split
      · exact Wz.dd (by decide) (by omega) (by decide)
      · split
        · exact Wz.lv (by decide) (by omega) (by omega) (fun e => absurd e (by decide))
        · split
          · exact Wz.lv (by decide) h2 h3 (fun e => absurd e (by decide))
          · split
            · rename_i h9
              refine Wz.lv (by decide) h4 h5 (fun _ => dv_le (fun j a c => isK_all (b := b) (L := L) 320 p j a ?_) h9)
              omega
            · exact Wz.dd (by decide) (by omega) (by decide)
  · rw [if_neg q]
    exact hz q
/-! the class -/
def F70 (M M' : Mem) : Prop := (∀ a, a ≠ 70 → M' a = M a) ∧ M' 70 0 = M 70 0
theorem F70.rf {M : Mem} : F70 M M := ⟨fun _ _ => rfl, rfl⟩
theorem F70.tr {M M' M2 : Mem} (h : F70 M M') (g : F70 M' M2) : F70 M M2 := ⟨fun a q => (g.1 a q).trans (h.1 a q), g.2.trans h.2⟩
theorem F70.s {M M' : Mem} {k : Nat} {x : Int32} (h : F70 M M') (hk : k ≠ 0) : F70 M (upd2 M' 70 k x) := ⟨fun a q => by rw [u_ne q]; exact h.1 a q, by rw [u_nk (fun e => hk e.symm)]; exact h.2⟩
theorem Tc.f {b : Nat → Nat} {L : Nat} {M M' : Mem} (h : Tc b L M) (f : F70 M M') : Tc b L M' := ⟨f.2.trans h.1, fun j hj => by rw [f.1 71 (by decide)]; exact h.2 j hj⟩
section NC
variable {b : Nat → Nat} {L : Nat}
theorem c_skip (hL : L ≤ 320) (hb : ∀ j, j < L → b j < 256) : ∀ (m n p : Nat) (M : Mem), L - p ≤ m → m < n → Tc b L M → p ≤ L → M 70 6 = nI p → f_Tap_nextToken_L8 n M = f_Tap_nextToken_J56 (upd2 M 70 6 (nI (sk (isSp b L) m p))) := by
  intro m
  induction m with
  | zero =>
    intro n p M hm hn t hp h6
    obtain ⟨n, rfl⟩ : ∃ z, n = z + 1 := ⟨n - 1, by omega⟩
    rw [f_Tap_nextToken_L8, t.1, h6, if_pos (by rw [nI_leI (by omega) (by omega)]; omega)]
    show _ = f_Tap_nextToken_J56 (upd2 M 70 6 (nI p))
    rw [u_self h6]
  | succ m ih =>
    intro n p M hm hn t hp h6
    obtain ⟨n, rfl⟩ : ∃ z, n = z + 1 := ⟨n - 1, by omega⟩
    rw [f_Tap_nextToken_L8, t.1, h6, sk_s]
    by_cases q : p < L
    · rw [if_neg (by rw [nI_leI (by omega) (by omega)]; omega), if_neg (by rw [l320, nI_leI (by omega) (by omega)]; omega), e_ckn (by omega) (by decide), show ix (nI p) = p from e_ix (by omega), t.2 p q]
      by_cases r : b p = 32
      · rw [if_pos ((sg_all _ (hb p q)).1.mpr r), if_pos (by unfold isSp; rw [decide_eq_true q, decide_eq_true r]; rfl), e_set, nI_1, ih n (p + 1) (upd2 M 70 6 (nI (p + 1))) (by omega) (by omega) (t.f (F70.rf.s (by decide))) (by omega) u_eq, u_u]
      · rw [if_neg (fun e => r ((sg_all _ (hb p q)).1.mp e)), if_neg (by unfold isSp; rw [decide_eq_false r]; simp), u_self h6]
    · rw [if_pos (by rw [nI_leI (by omega) (by omega)]; omega), if_neg (fun e => q (isSp_lt e)), u_self h6]
theorem c_runL (hL : L ≤ 320) (hb : ∀ j, j < L → b j < 256) {c p0 : Nat} (hc : c = 1 ∨ c = 2) : ∀ (m n p : Nat) (M : Mem), L - p ≤ m → m < n → Tc b L M → p0 ≤ p → p ≤ L → M 70 6 = nI p → M 70 1 = nI c → M 70 3 = nI (dvN b p0 (p - p0)) → ∃ M', f_Tap_nextToken_L132 n 1 M = f_Tap_nextToken_J213 M' ∧ F70 M M' ∧ M' 70 1 = nI c ∧ M' 70 2 = M 70 2 ∧ M' 70 4 = M 70 4 ∧ M' 70 6 = nI (sk (isK b L c) m p) ∧ M' 70 3 = nI (dvN b p0 (sk (isK b L c) m p - p0)) := by
  intro m
  induction m with
  | zero =>
    intro n p M hm hn t hp0 hp h6 h1 h3
    obtain ⟨n, rfl⟩ : ∃ z, n = z + 1 := ⟨n - 1, by omega⟩
    refine ⟨M, ?_, F70.rf, h1, rfl, rfl, h6, h3⟩
    rw [f_Tap_nextToken_L132, if_neg (by decide), t.1, h6, if_pos (by rw [nI_leI (by omega) (by omega)]; omega)]
  | succ m ih =>
    intro n p M hm hn t hp0 hp h6 h1 h3
    obtain ⟨n, rfl⟩ : ∃ z, n = z + 1 := ⟨n - 1, by omega⟩
    by_cases q : p < L
    · have hcl := cls_le (x := b p)
      by_cases r : clsN (b p) = c
      · obtain ⟨g1, g2⟩ := (sg_all _ (hb p q)).2.2 (by omega)
        have ek : isK b L c p = true := by
          unfold isK
          rw [decide_eq_true q, decide_eq_true r]
          rfl
        have ed : dvN b p0 (p + 1 - p0) = 10 * dvN b p0 (p - p0) + (b p - 48) := by
          rw [show p + 1 - p0 = (p - p0) + 1 by omega]
          show 10 * dvN b p0 (p - p0) + (b (p0 + (p - p0)) - 48) = _
          rw [show p0 + (p - p0) = p by omega]
        obtain ⟨M', r1, r2, r3, r4, r5, r6, r7⟩ := ih n (p + 1) (upd2 (upd2 M 70 3 (nI (dvN b p0 (p + 1 - p0)))) 70 6 (nI (p + 1))) (by omega) (by omega) (t.f ((F70.rf.s (by decide)).s (by decide))) (by omega) (by omega) u_eq (by rw [u_nk (by decide), u_nk (by decide)]; exact h1) (by rw [u_nk (by decide), u_eq])
        refine ⟨M', ?_, ((F70.rf.s (by decide)).s (by decide)).tr r2, r3, by rw [r4, u_nk (by decide), u_nk (by decide)], by rw [r5, u_nk (by decide), u_nk (by decide)], ?_, ?_⟩
        · rw [f_Tap_nextToken_L132, if_neg (by decide), t.1, h6, if_neg (by rw [nI_leI (by omega) (by omega)]; omega), if_neg (by rw [l320, nI_leI (by omega) (by omega)]; omega), e_ckn (by omega) (by decide), show ix (nI p) = p from e_ix (by omega), t.2 p q, (sg_all _ (hb p q)).2.1, e_bnd, h1, r, if_pos rfl, e_ckn (by omega) (by decide), e_set, h3, g1, l10, pk_mul, nI_add, l48, sub_nJ (by omega), show 10 * dvN b p0 (p - p0) + b p - 48 = dvN b p0 (p + 1 - p0) by rw [ed]; omega, u_nk (show (6 : Nat) ≠ 3 by decide), h6, nI_1, e_set]
          exact r1
        · rw [sk_s, if_pos ek]; exact r6
        · rw [sk_s, if_pos ek]; exact r7
      · have ek : ¬ isK b L c p = true := by
          unfold isK
          rw [decide_eq_false r]
          simp
        refine ⟨M, ?_, F70.rf, h1, rfl, rfl, by rw [sk_s, if_neg ek]; exact h6, by rw [sk_s, if_neg ek]; exact h3⟩
        rw [f_Tap_nextToken_L132, if_neg (by decide), t.1, h6, if_neg (by rw [nI_leI (by omega) (by omega)]; omega), if_neg (by rw [l320, nI_leI (by omega) (by omega)]; omega), e_ckn (by omega) (by decide), show ix (nI p) = p from e_ix (by omega), t.2 p q, (sg_all _ (hb p q)).2.1, e_bnd, h1, if_neg (by rw [nI_eq (by omega) (by omega)]; exact r)]
    · have ek : ¬ isK b L c p = true := fun e => q (isK_lt e)
      refine ⟨M, ?_, F70.rf, h1, rfl, rfl, by rw [sk_s, if_neg ek]; exact h6, by rw [sk_s, if_neg ek]; exact h3⟩
      rw [f_Tap_nextToken_L132, if_neg (by decide), t.1, h6, if_pos (by rw [nI_leI (by omega) (by omega)]; omega)]
theorem c_nextL (hL : L ≤ 320) (hb : ∀ j, j < L → b j < 256) {p : Nat} {M : Mem} (t : Tc b L M) (hp : p ≤ L) (h4 : M 70 4 = 0) (h6 : M 70 6 = nI p) : ∃ M', f_Tap_nextToken M = some M' ∧ Rc (nxp b L (sk (isSp b L) 320 p)) M' ∧ F70 M M' := by
  have hq := sk_le (P := isSp b L) (fun p => isSp_lt) 320 p hp
  unfold f_Tap_nextToken
  rw [if_pos h4, c_skip hL hb 320 1000 p M (by omega) (by decide) t hp h6]
  generalize sk (isSp b L) 320 p = r at hq
  have t1 := t.f (F70.rf.s (k := 6) (x := nI r) (by decide))
  have f1 : F70 M (upd2 (upd2 M 70 6 (nI r)) 70 2 (nI r)) := (F70.rf.s (by decide)).s (by decide)
  have t2 := t.f f1
  have e6 : upd2 (upd2 M 70 6 (nI r)) 70 2 (nI r) 70 6 = nI r := by rw [u_nk (by decide), u_eq]
  have e2 : upd2 (upd2 M 70 6 (nI r)) 70 2 (nI r) 70 2 = nI r := u_eq
  have e4 : upd2 (upd2 M 70 6 (nI r)) 70 2 (nI r) 70 4 = 0 := by rw [u_nk (by decide), u_nk (by decide)]; exact h4
  unfold f_Tap_nextToken_J56
  rw [u_eq, e_set]
  generalize upd2 (upd2 M 70 6 (nI r)) 70 2 (nI r) = M1 at f1 t2 e6 e2 e4
  have f3 : ∀ x : Int32, F70 M (upd2 (upd2 M1 70 1 x) 70 3 0) := fun x => (f1.s (by decide)).s (by decide)
  rw [t2.1, e6]
  unfold nxp
  by_cases q : L ≤ r
  · rw [if_pos (by rw [nI_leI (by omega) (by omega)]; exact q), if_pos q]
    refine ⟨upd2 (upd2 M1 70 1 4) 70 3 0, ?_, Rc.lv ?_ ?_ (by omega) ?_ (fun e => absurd e (by decide)) ?_, f3 4⟩
    · unfold f_Tap_nextToken_J101 f_Tap_nextToken_J102 f_Tap_nextToken_J131
      rw [e_set, e_set, u_nk (show (1 : Nat) ≠ 3 by decide), u_eq, if_neg (by decide), if_neg (by decide), show (1000 : Nat) = 999 + 1 from rfl, f_Tap_nextToken_L132, if_pos rfl]
      unfold f_Tap_nextToken_J213 f_Tap_nextToken_J231
      rw [u_nk (show (1 : Nat) ≠ 3 by decide), u_eq, if_neg (by decide), if_neg (by decide), if_neg (by decide)]
    · rw [u_nk (by decide), u_nk (by decide), e4]
    · rw [u_nk (by decide), u_nk (by decide), e2]
    · rw [u_nk (by decide), u_eq]; rfl
    · rw [u_nk (by decide), u_nk (by decide), e6]
  · have q' : r < L := by omega
    have hcl := cls_le (x := b r)
    rw [if_neg (by rw [nI_leI (by omega) (by omega)]; exact q), if_neg q, if_neg (by rw [l320, nI_leI (by omega) (by omega)]; omega), e_ckn (by omega) (by decide), show ix (nI r) = r from e_ix (by omega), t2.2 r q', (sg_all _ (hb r q')).2.1, e_bnd]
    unfold f_Tap_nextToken_J102
    rw [e_set, e_set, u_nk (show (1 : Nat) ≠ 3 by decide), u_eq]
    have E4 : ∀ x : Int32, upd2 (upd2 M1 70 1 x) 70 3 0 70 4 = 0 := fun x => by rw [u_nk (by decide), u_nk (by decide), e4]
    have E2 : ∀ x : Int32, upd2 (upd2 M1 70 1 x) 70 3 0 70 2 = nI r := fun x => by rw [u_nk (by decide), u_nk (by decide), e2]
    have E6 : ∀ x : Int32, upd2 (upd2 M1 70 1 x) 70 3 0 70 6 = nI r := fun x => by rw [u_nk (by decide), u_nk (by decide), e6]
    have E1 : ∀ x : Int32, upd2 (upd2 M1 70 1 x) 70 3 0 70 1 = x := fun x => by rw [u_nk (by decide), u_eq]
    have E3 : ∀ x : Int32, upd2 (upd2 M1 70 1 x) 70 3 0 70 3 = 0 := fun x => u_eq
    have run : ∀ c, c = 1 ∨ c = 2 → ∃ M', f_Tap_nextToken_L132 1000 1 (upd2 (upd2 M1 70 1 (nI c)) 70 3 0) = f_Tap_nextToken_J213 M' ∧ F70 M M' ∧ M' 70 1 = nI c ∧ M' 70 2 = nI r ∧ M' 70 4 = 0 ∧ M' 70 6 = nI (sk (isK b L c) 320 r) ∧ M' 70 3 = nI (dvN b r (sk (isK b L c) 320 r - r)) := fun c hc => by
      obtain ⟨M', r1, r2, r3, r4, r5, r6, r7⟩ := c_runL hL hb (p0 := r) hc 320 1000 r (upd2 (upd2 M1 70 1 (nI c)) 70 3 0) (by omega) (by decide) (t.f (f3 _)) (Nat.le_refl _) hq (E6 _) (E1 _) (by rw [Nat.sub_self]; exact E3 _)
      exact ⟨M', r1, (f3 _).tr r2, r3, r4.trans (E2 _), r5.trans (E4 _), r6, r7⟩
    generalize hcc : clsN (b r) = c at hcl
    rcases (show c = 0 ∨ c = 3 ∨ c = 1 ∨ c = 2 by omega) with rfl | rfl | rfl | rfl
    · rw [if_pos rfl, if_neg (by decide), if_neg (by decide)]
      refine ⟨upd2 (upd2 (upd2 (upd2 M1 70 1 (nI 0)) 70 3 0) 70 4 1) 70 5 (nI r), ?_, Rc.dd (by decide) ?_ u_eq ⟨r, by omega, ?_⟩, ((f3 _).s (by decide)).s (by decide)⟩
      · unfold f_Tap_nextToken_J131
        rw [show (1000 : Nat) = 999 + 1 from rfl, f_Tap_nextToken_L132, if_pos rfl]
        unfold f_Tap_nextToken_J213 f_Tap_nextToken_J231 f_Tap_nextToken_J259 f_Tap_fail
        rw [E1, if_neg (by decide), if_pos (by rfl), E4, if_pos rfl, E2, e_set, e_set, e_bnd]
      · rw [u_nk (by decide), u_eq]; rfl
      · rw [u_nk (by decide), u_nk (by decide)]; exact E2 _
    · rw [if_neg (by decide), if_pos rfl, if_neg (by decide), if_neg (by decide)]
      refine ⟨upd2 (upd2 (upd2 M1 70 1 (nI 3)) 70 3 0) 70 6 (nI (r + 1)), ?_, Rc.lv ?_ ?_ (by omega) ?_ (fun e => absurd e (by decide)) u_eq, (f3 _).s (by decide)⟩
      · unfold f_Tap_nextToken_J131
        rw [show (1000 : Nat) = 999 + 1 from rfl, f_Tap_nextToken_L132, if_pos rfl]
        unfold f_Tap_nextToken_J213 f_Tap_nextToken_J231
        rw [E1, if_pos (by rfl), E6, nI_1, e_set, u_nk (show (1 : Nat) ≠ 6 by decide), E1, if_neg (by decide), if_neg (by decide)]
      · rw [u_nk (by decide)]; exact E4 _
      · rw [u_nk (by decide)]; exact E2 _
      · rw [u_nk (by decide)]; exact E1 _
    · rw [if_pos (show nI 1 = 1 from rfl), if_neg (show ¬ (1 : Nat) = 0 by decide), if_neg (show ¬ (1 : Nat) = 3 by decide), if_pos (rfl : (1 : Nat) = 1)]
      obtain ⟨M', r1, r2, r3, r4, r5, r6, r7⟩ := run 1 (Or.inl rfl)
      refine ⟨M', ?_, Rc.lv (t := 1) r5 r4 (by omega) r3 (fun e => absurd e (by decide)) r6, r2⟩
      unfold f_Tap_nextToken_J126 f_Tap_nextToken_J131
      rw [r1]
      unfold f_Tap_nextToken_J213 f_Tap_nextToken_J231
      rw [r3, if_neg (by decide), if_neg (by decide), if_neg (by decide)]
    · rw [if_neg (show ¬ nI 2 = 1 by decide), if_pos (show nI 2 = 2 from rfl), if_neg (show ¬ (2 : Nat) = 0 by decide), if_neg (show ¬ (2 : Nat) = 3 by decide), if_neg (show ¬ (2 : Nat) = 1 by decide)]
      obtain ⟨M', r1, r2, r3, r4, r5, r6, r7⟩ := run 2 (Or.inr rfl)
      have g1 := sk_ge (P := isK b L 2) 320 r
      have g2 := sk_le (P := isK b L 2) (fun p => isK_lt) 320 r hq
      unfold f_Tap_nextToken_J126 f_Tap_nextToken_J131
      rw [r1]
      unfold f_Tap_nextToken_J213 f_Tap_nextToken_J231 f_Tap_nextToken_J259 f_Tap_fail
      rw [r3, if_neg (by decide), if_neg (by decide), if_pos (by rfl), r6, r4, sub_nJ g1]
      by_cases u : sk (isK b L 2) 320 r - r ≤ 3
      · rw [if_pos u, if_pos (by rw [l3, nI_leI (by omega) (by omega)]; exact u)]
        exact ⟨M', rfl, Rc.lv (t := 2) r5 r4 (by omega) r3 (fun _ => r7) r6, r2⟩
      · rw [if_neg u, if_neg (by rw [l3, nI_leI (by omega) (by omega)]; exact u), r5, if_pos rfl, e_set, e_set, e_bnd]
        refine ⟨_, rfl, Rc.dd (by decide) ?_ u_eq ⟨r, by omega, ?_⟩, (r2.s (by decide)).s (by decide)⟩
        · rw [u_nk (by decide), u_eq]; rfl
        · rw [u_nk (by decide), u_nk (by decide)]; exact r4
theorem c_next (hL : L ≤ 320) (hb : ∀ j, j < L → b j < 256) {z : Tz} {M : Mem} (t : Tc b L M) (w : Wz L z) (r : Rc z M) : ∃ M', f_Tap_nextToken M = some M' ∧ Rc (nx b L z) M' ∧ F70 M M' := by
  unfold nx
  by_cases q : z.1 = 0
  · rw [if_pos q]
    exact c_nextL hL hb t (w.2.2 q).2.2.1 (by rw [r.1, q]; rfl) (r.2.2.2 q).2.2.2
  · rw [if_neg q]
    refine ⟨M, ?_, r, F70.rf⟩
    unfold f_Tap_nextToken
    rw [if_neg (by have := w.1; rw [r.1, l0, nI_eq (by omega) (by omega)]; exact q)]
end NC
