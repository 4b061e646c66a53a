/-! pure: seatings, the reference, both -/
def SgM (T : Tn) (s : SgT) (M : Mem) : Prop := M 103 35 = (if s.1 = 9 then -4 else nI s.1) ∧ M 103 36 = nI s.2.1 ∧ (s.1 ≠ 9 → ∀ p, p < T 1 5 → M 117 p = nI (s.2.2 p)) ∧ s.1 ≤ 9
section SGM
variable {T : Tn} {M : Mem}
theorem m_unlL (o : OnM T M) (g : Good T) {S : Nat → Nat} (hS : ∀ q, q < T 1 5 → M 116 q = nI (S q) ∧ S q < T 4 0) : ∀ (m n k : Nat), k + m = T 1 5 → m < n → f_Mod_areUnlike_L6 M n (orN (sgU S k) (T 4 0)) (if sgD S k = true then nI 1 else nI 0) (nI k) = some (if sgD S (T 1 5) = true then nI 1 else nI 0) := by
  have h8 := g.n
  intro m
  induction m with
  | zero =>
    intro n k hk hn
    obtain ⟨n, rfl⟩ : ∃ z, n = z + 1 := ⟨n - 1, by omega⟩
    have e : k = T 1 5 := by omega
    subst e
    rw [f_Mod_areUnlike_L6, o.s5, if_pos (by rw [nI_leI (by omega) (by omega)]; omega)]
    by_cases q : sgD S (T 1 5) = true
    · rw [if_pos q, e_ckB1]
    · rw [if_neg q, e_ckB0]
  | succ m ih =>
    intro n k hk hn
    obtain ⟨n, rfl⟩ : ∃ z, n = z + 1 := ⟨n - 1, by omega⟩
    obtain ⟨s1, s2⟩ := hS k (by omega)
    have ih2 := ih n (k + 1) (by omega) (by omega)
    rw [← sgM_s s2] at ih2
    have eD : sgD S (k + 1) = (sgD S k && !sgU S k (S k)) := rfl
    have j36 : ∀ s0 : Int32, f_Mod_areUnlike_J36 (f_Mod_areUnlike_L6 M n) M (orN (sgU S k) (T 4 0)) (nI k) s0 = f_Mod_areUnlike_L6 M n (orN (sgU S k) (T 4 0) ||| jshl 1 (nI (S k))) s0 (nI (k + 1)) := fun s0 => by
      rw [f_Mod_areUnlike_J36, e_ckn (by omega) (by decide), show ix (nI k) = k from e_ix (by omega), s1, e_nmI, nI_1]
    rw [f_Mod_areUnlike_L6, o.s5, if_neg (by rw [nI_leI (by omega) (by omega)]; omega)]
    by_cases q : sgD S k = true
    · rw [if_pos q, if_neg (show ¬ nI 1 = 0 by decide), e_ckn (by omega) (by decide), show ix (nI k) = k from e_ix (by omega), s1, orN_bit (by omega) (by omega)]
      rw [eD, q] at ih2
      by_cases u : sgU S k (S k) = true
      · have eb : (if S k < T 4 0 ∧ sgU S k (S k) = true then nI 1 else nI 0) = nI 1 := if_pos ⟨s2, u⟩
        rw [eb, if_neg (show ¬ nI 1 = 0 by decide), f_Mod_areUnlike_J35, j36]
        rw [u] at ih2
        exact ih2
      · have eb : (if S k < T 4 0 ∧ sgU S k (S k) = true then nI 1 else nI 0) = nI 0 := if_neg (fun e => u e.2)
        rw [eb, if_pos (show nI 0 = 0 from rfl), j36]
        rw [Bool.eq_false_iff.mpr u] at ih2
        exact ih2
    · rw [if_neg q, if_pos (show nI 0 = 0 from rfl), f_Mod_areUnlike_J35, j36]
      rw [eD, Bool.eq_false_iff.mpr q] at ih2
      exact ih2
theorem m_unl (o : OnM T M) (g : Good T) {S : Nat → Nat} (hS : ∀ q, q < T 1 5 → M 116 q = nI (S q) ∧ S q < T 4 0) : f_Mod_areUnlike M = some (if sgD S (T 1 5) = true then nI 1 else nI 0) := by
  have h8 := g.n
  have := m_unlL o g hS (T 1 5) 1000 0 (by omega) (by omega)
  rw [sgM_0] at this
  exact this
/-- what the seeking may change -/
def Fs (M M' : Mem) : Prop := ∀ a k, a ≠ 116 → a ≠ 117 → (a = 103 → k ≠ 35 ∧ k ≠ 36) → M' a k = M a k
theorem Fs.rf {M : Mem} : Fs M M := fun _ _ _ _ _ => rfl
theorem Fs.tr {M M' M2 : Mem} (h : Fs M M') (g : Fs M' M2) : Fs M M2 := fun a k q r t => (g a k q r t).trans (h a k q r t)
theorem Fs.m {M M' : Mem} (h : Fs M M') : Frm M M' := fun a k q r => h a k (by omega) (by omega) (fun e => ⟨(r e).2.1, (r e).2.2.1⟩)
theorem Fs.s {M M' : Mem} {a k : Nat} {x : Int32} (h : Fs M M') (ha : a = 116 ∨ a = 117 ∨ (a = 103 ∧ (k = 35 ∨ k = 36))) : Fs M (upd2 M' a k x) := fun b j q r t => by
  by_cases e : b = a
  · subst e
    rw [u_nk (by have := t; omega)]; exact h b j q r t
  · rw [u_ne e]; exact h b j q r t
theorem m_cpL {k39 : Int32 → Mem → Option Mem} {x3 : Int32} : ∀ (m n k : Nat) (M : Mem), k + m = 6 → m < n → ∃ M', f_Mod_findSeating_L88 k39 n x3 (nI k) M = f_Mod_findSeating_J115 k39 x3 M' ∧ (∀ a, a ≠ 117 → M' a = M a) ∧ (∀ j, j < k → M' 117 j = M 117 j) ∧ ∀ j, k ≤ j → j < 6 → M' 117 j = M 116 j := by
  intro m
  induction m with
  | zero =>
    intro n k M hk hn
    obtain ⟨n, rfl⟩ : ∃ z, n = z + 1 := ⟨n - 1, by omega⟩
    have e : k = 6 := by omega
    subst e
    exact ⟨M, by rw [f_Mod_findSeating_L88, if_pos (by decide)], fun _ _ => rfl, fun _ _ => rfl, fun j a b => by omega⟩
  | succ m ih =>
    intro n k M hk hn
    obtain ⟨n, rfl⟩ : ∃ z, n = z + 1 := ⟨n - 1, by omega⟩
    obtain ⟨M', r1, r2, r3, r4⟩ := ih n (k + 1) (upd2 M 117 k (M 116 k)) (by omega) (by omega)
    refine ⟨M', ?_, fun a q => by rw [r2 a q, u_ne q], fun j hj => by rw [r3 j (by omega), u_nk (by omega)], fun j a b => ?_⟩
    · rw [f_Mod_findSeating_L88, if_neg (by rw [l6, nI_leI (by omega) (by omega)]; omega), e_ckn (by omega) (by decide), e_ckn (by omega) (by decide), e_set, show ix (nI k) = k from e_ix (by omega), nI_1]
      exact r1
    · by_cases e : j = k
      · subst e; rw [r3 j (by omega), u_eq]
      · rw [r4 j (by omega) b, u_ne (by decide)]
/-- one seating is weighed -/
theorem m_weigh (o : OnM T M) (g : Good T) {h : Nat} {S : Nat → Nat} {s : SgT} (hL : ∀ b, b < T 4 0 → M 115 b = hrs T b h) (hS : ∀ q, q < T 1 5 → M 116 q = nI (S q) ∧ S q < T 4 0) (c : SgM T s M) (n : Nat) : ∃ M', f_Mod_findSeating_L39 (n + 1) 1 M = bnd2 (f_Mod_nextSeats M') (fun v M3 => f_Mod_findSeating_L39 n v M3) ∧ SgM T (sgUp T h S s) M' ∧ M' 116 = M 116 ∧ Fs M M' := by
  have h8 := g.n
  have h9 := g.nw
  have hb := sgB_le g (h := h) (S := S)
  obtain ⟨c1, c2, c3, c4⟩ := id c
  rw [f_Mod_findSeating_L39, if_neg (by decide), m_unl o g hS, e_bnd]
  by_cases q : sgD S (T 1 5) = true
  · have j115 : ∀ (x : Nat) (M2 : Mem), x ≤ 9 → ∀ y, y ≤ 9 → M2 103 35 = nI y → f_Mod_findSeating_J115 (f_Mod_findSeating_L39 n) (nI x) M2 = f_Mod_findSeating_J140 (f_Mod_findSeating_L39 n) (upd2 M2 103 36 (M2 103 36 + (if x = y then nI 1 else nI 0))) := fun x M2 hx y hy e => by
      unfold f_Mod_findSeating_J115 f_Mod_findSeating_J133
      rw [e]
      by_cases r : x = y
      · rw [if_pos (by rw [r]), if_pos r]
        rfl
      · rw [if_neg (by rw [nI_eq (by omega) (by omega)]; exact r), if_neg r]
        rfl
    rw [if_pos q, if_neg (by decide), m_brokenBy o g hL hS, e_bnd, m_cnt h9, e_bnd]
    show ∃ M', (if M 103 35 = -4 then f_Mod_findSeating_J75 (f_Mod_findSeating_L39 n) (nI (sgB T h S)) M else if M 103 35 ≤ nI (sgB T h S) then f_Mod_findSeating_J115 (f_Mod_findSeating_L39 n) (nI (sgB T h S)) M else f_Mod_findSeating_J75 (f_Mod_findSeating_L39 n) (nI (sgB T h S)) M) = _ ∧ _
    -- one that is better
    have better : sgB T h S < s.1 → ∃ M', f_Mod_findSeating_J75 (f_Mod_findSeating_L39 n) (nI (sgB T h S)) M = bnd2 (f_Mod_nextSeats M') (fun v M3 => f_Mod_findSeating_L39 n v M3) ∧ SgM T (sgUp T h S s) M' ∧ M' 116 = M 116 ∧ Fs M M' := fun r => by
      obtain ⟨M2, a1, a2, a3, a4⟩ := m_cpL (k39 := f_Mod_findSeating_L39 n) (x3 := nI (sgB T h S)) 6 1000 0 (upd2 (upd2 M 103 35 (nI (sgB T h S))) 103 36 0) rfl (by decide)
      have e35 : M2 103 35 = nI (sgB T h S) := by rw [a2 103 (by decide), u_nk (by decide), u_eq]
      have e36 : M2 103 36 = 0 := by rw [a2 103 (by decide), u_eq]
      refine ⟨upd2 M2 103 36 (nI 1), ?_, ?_, ?_, ?_⟩
      · unfold f_Mod_findSeating_J75
        rw [e_set, e_set, show (0 : Int32) = nI 0 from rfl] at *
        rw [a1, j115 _ M2 (by omega) _ (by omega) e35, if_pos rfl, e36]
        rfl
      · have e : sgUp T h S s = (sgB T h S, 1, S) := by
          unfold sgUp
          rw [if_pos q, if_pos r]
        rw [e]
        refine ⟨?_, u_eq, fun _ p hp => ?_, by show sgB T h S ≤ 9; omega⟩
        · rw [u_nk (by decide), e35, if_neg (by show ¬ sgB T h S = 9; omega)]
        · rw [u_ne (by decide), a4 p (by omega) (by omega), u_ne (by decide), u_ne (by decide)]
          exact (hS p hp).1
      · rw [u_ne (by decide), a2 116 (by decide), u_ne (by decide), u_ne (by decide)]
      · refine Fs.s (fun a k x y z => ?_) (Or.inr (Or.inr ⟨rfl, Or.inr rfl⟩))
        rw [a2 a y]
        exact ((Fs.rf (M := M)).s (Or.inr (Or.inr ⟨rfl, Or.inl rfl⟩))).s (Or.inr (Or.inr ⟨rfl, Or.inr rfl⟩)) a k x y z
    by_cases r9 : s.1 = 9
    · rw [if_pos (by rw [c1, if_pos r9])]
      exact better (by omega)
    · have e35 : M 103 35 = nI s.1 := by rw [c1, if_neg r9]
      rw [if_neg (by rw [e35, l4, e_neg (by omega) (by omega) (by omega)]; exact id), e35]
      by_cases r : sgB T h S < s.1
      · rw [if_neg (by rw [nI_leI (by omega) (by omega)]; omega)]
        exact better r
      · rw [if_pos (by rw [nI_leI (by omega) (by omega)]; omega), j115 _ M (by omega) _ c4 e35]
        refine ⟨_, rfl, ?_, u_ne (by decide), Fs.rf.s (Or.inr (Or.inr ⟨rfl, Or.inr rfl⟩))⟩
        by_cases t : sgB T h S = s.1
        · have e : sgUp T h S s = (s.1, s.2.1 + 1, s.2.2) := by
            unfold sgUp
            rw [if_pos q, if_neg r, if_pos t]
          rw [e, if_pos t]
          exact ⟨by rw [u_nk (by decide)]; exact c1, by rw [u_eq, c2, nI_add], fun x p hp => by rw [u_ne (by decide)]; exact c3 x p hp, c4⟩
        · have e : sgUp T h S s = s := by
            unfold sgUp
            rw [if_pos q, if_neg r, if_neg t]
          rw [e, if_neg t]
          exact ⟨by rw [u_nk (by decide)]; exact c1, by rw [u_eq, c2, nI_add]; rfl, fun x p hp => by rw [u_ne (by decide)]; exact c3 x p hp, c4⟩
  · rw [if_neg q, if_pos (by rfl)]
    have e : sgUp T h S s = s := by
      unfold sgUp
      rw [if_neg q]
    rw [e]
    exact ⟨M, rfl, c, rfl, Fs.rf⟩
end SGM
theorem m_run {T : Tn} (g : Good T) {h : Nat} : ∀ (d p n : Nat) (S : Nat → Nat) (s : SgT) (M : Mem), p + d = T 1 5 → SgM T s M → OnM T M → (∀ b, b < T 4 0 → M 115 b = hrs T b h) → (∀ q, q < p → M 116 q = nI (S q) ∧ S q < T 4 0) → (∀ q, p ≤ q → q < T 1 5 → M 116 q = nI 0) → ∃ M', f_Mod_findSeating_L39 (n + T 4 0 ^ d) 1 M = bnd2 (f_Mod_nextSeats_L7 (1000 - d) (nI p - 1) M') (fun v M3 => f_Mod_findSeating_L39 n v M3) ∧ SgM T (sgF (sgUp T h) (T 4 0) d p S s) M' ∧ (∀ q, q < p → M' 116 q = M 116 q) ∧ (∀ q, p ≤ q → q < T 1 5 → M' 116 q = nI 0) ∧ Fs M M' := by
  have h8 := g.n
  intro d
  induction d with
  | zero =>
    intro p n S s M hp c o hL hS hZ
    have e : p = T 1 5 := by omega
    subst e
    obtain ⟨M', a1, a2, a3, a4⟩ := m_weigh o g hL hS c n
    refine ⟨M', ?_, a2, fun q _ => by rw [a3], fun q x y => by omega, a4⟩
    rw [Nat.pow_zero, a1, f_Mod_nextSeats, (o.fr a4.m).s5, e_nmI]
  | succ d ih =>
    intro p n S s M hp c o hL hS hZ
    have hnb : 0 < T 4 0 := by omega
    -- from bench k on
    have loop : ∀ (m k : Nat) (M2 : Mem), k + (m + 1) = T 4 0 → SgM T (sgL (fun x s => sgF (sgUp T h) (T 4 0) d (p + 1) (sgS S p x) s) k s) M2 → (∀ q, q < p → M2 116 q = M 116 q) → M2 116 p = nI k → (∀ q, p + 1 ≤ q → q < T 1 5 → M2 116 q = nI 0) → Fs M M2 → ∃ M', f_Mod_findSeating_L39 (n + (m + 1) * T 4 0 ^ d) 1 M2 = bnd2 (f_Mod_nextSeats_L7 (1000 - (d + 1)) (nI p - 1) M') (fun v M3 => f_Mod_findSeating_L39 n v M3) ∧ SgM T (sgF (sgUp T h) (T 4 0) (d + 1) p S s) M' ∧ (∀ q, q < p → M' 116 q = M 116 q) ∧ (∀ q, p ≤ q → q < T 1 5 → M' 116 q = nI 0) ∧ Fs M M' := by
      intro m
      induction m with
      | zero =>
        intro k M2 hk c2 e2 ep z2 f2
        have hk' : T 4 0 = k + 1 := by omega
        obtain ⟨M3, a1, a2, a3, a4, a5⟩ := ih (p + 1) n (sgS S p k) _ M2 (by omega) c2 (o.fr f2.m) (fun b hb => by rw [f2 115 b (by decide) (by decide) (fun e => absurd e (by decide))]; exact hL b hb) (fun q hq => by
          by_cases e : q = p
          · subst e; rw [ep, sgS_e]; exact ⟨rfl, by omega⟩
          · rw [sgS_n e, e2 q (by omega)]; exact hS q (by omega)) z2
        have o3 := o.fr (f2.tr a5).m
        have e3p : M3 116 p = nI k := by rw [a3 p (by omega)]; exact ep
        refine ⟨upd2 M3 116 p 0, ?_, ?_, fun q hq => ?_, fun q x y => ?_, (f2.tr a5).s (Or.inl rfl)⟩
        · rw [Nat.one_mul, a1, show 1000 - d = (1000 - (d + 1)) + 1 by omega, f_Mod_nextSeats_L7, show nI (p + 1) - 1 = nI p from sub_nI (b := 1) (by omega) (by omega), if_neg (by rw [l0, nI_ltI (by omega) (by omega)]; omega), e_ckn (by omega) (by decide), show ix (nI p) = p from e_ix (by omega), e3p, o3.nb, hk', show nI (k + 1) - 1 = nI k from sub_nI (b := 1) (by omega) (by omega), if_pos rfl, e_ckn (by omega) (by decide), e_set, show nI p + (-1) = nI p - 1 from (Int32.sub_eq_add_neg _ _).symm]
        · have e : sgF (sgUp T h) (T 4 0) (d + 1) p S s = sgL (fun x s => sgF (sgUp T h) (T 4 0) d (p + 1) (sgS S p x) s) (k + 1) s := by rw [← hk']; rfl
          rw [e]
          exact ⟨by rw [u_ne (by decide)]; exact a2.1, by rw [u_ne (by decide)]; exact a2.2.1, by rw [u_ne (by decide)]; exact a2.2.2.1, a2.2.2.2⟩
        · rw [u_nk (by omega), a3 q (by omega)]; exact e2 q hq
        · by_cases e : q = p
          · subst e; rw [u_eq]; rfl
          · rw [u_nk e]; exact a4 q (by omega) y
      | succ m ihm =>
        intro k M2 hk c2 e2 ep z2 f2
        obtain ⟨M3, a1, a2, a3, a4, a5⟩ := ih (p + 1) (n + (m + 1) * T 4 0 ^ d) (sgS S p k) _ M2 (by omega) c2 (o.fr f2.m) (fun b hb => by rw [f2 115 b (by decide) (by decide) (fun e => absurd e (by decide))]; exact hL b hb) (fun q hq => by
          by_cases e : q = p
          · subst e; rw [ep, sgS_e]; exact ⟨rfl, by omega⟩
          · rw [sgS_n e, e2 q (by omega)]; exact hS q (by omega)) z2
        have o3 := o.fr (f2.tr a5).m
        have e3p : M3 116 p = nI k := by rw [a3 p (by omega)]; exact ep
        obtain ⟨M', b1, b2, b3, b4, b5⟩ := ihm (k + 1) (upd2 M3 116 p (nI (k + 1))) (by omega) ⟨by rw [u_ne (by decide)]; exact a2.1, by rw [u_ne (by decide)]; exact a2.2.1, by rw [u_ne (by decide)]; exact a2.2.2.1, a2.2.2.2⟩ (fun q hq => by rw [u_nk (by omega), a3 q (by omega)]; exact e2 q hq) u_eq (fun q x y => by rw [u_nk (by omega)]; exact a4 q x y) ((f2.tr a5).s (Or.inl rfl))
        refine ⟨M', ?_, b2, b3, b4, b5⟩
        rw [show n + (m + 1 + 1) * T 4 0 ^ d = n + (m + 1) * T 4 0 ^ d + T 4 0 ^ d by rw [Nat.add_mul (m + 1) 1, Nat.one_mul, Nat.add_assoc], a1, show 1000 - d = (1000 - (d + 1)) + 1 by omega, f_Mod_nextSeats_L7, show nI (p + 1) - 1 = nI p from sub_nI (b := 1) (by omega) (by omega), if_neg (by rw [l0, nI_ltI (by omega) (by omega)]; omega), e_ckn (by omega) (by decide), show ix (nI p) = p from e_ix (by omega), e3p, o3.nb, show nI (T 4 0) - 1 = nI (T 4 0 - 1) from sub_nI (b := 1) (by omega) (by omega), if_neg (by rw [nI_eq (by omega) (by omega)]; omega), f_Mod_nextSeats_J39, if_neg (by rw [l0, nI_ltI (by omega) (by omega)]; omega), e_ckn (by omega) (by decide), e_ckn (by omega) (by decide), show ix (nI p) = p from e_ix (by omega), e3p, nI_1, e_set, f_Mod_nextSeats_J53, if_neg (by rw [l0, nI_ltI (by omega) (by omega)]; omega), e_bnd2]
        exact b1
    obtain ⟨M', r⟩ := loop (T 4 0 - 1) 0 M (by omega) c (fun _ _ => rfl) (hZ p (Nat.le_refl _) (by omega)) (fun q x y => hZ q (by omega) y) Fs.rf
    refine ⟨M', ?_⟩
    rw [show T 4 0 - 1 + 1 = T 4 0 by omega] at r
    rw [Nat.pow_succ, Nat.mul_comm]
    exact r
theorem m_zeroL : ∀ (m n k : Nat) (M : Mem), k + m = 6 → m < n → (∀ j, j < k → M 116 j = nI 0) → ∃ M', f_Mod_findSeating_L18 n (nI k) M = f_Mod_findSeating_L39 300000 1 M' ∧ (∀ a, a ≠ 116 → M' a = M a) ∧ ∀ j, j < 6 → M' 116 j = nI 0 := by
  intro m
  induction m with
  | zero =>
    intro n k M hk hn hz
    obtain ⟨n, rfl⟩ : ∃ z, n = z + 1 := ⟨n - 1, by omega⟩
    have e : k = 6 := by omega
    subst e
    exact ⟨M, by rw [f_Mod_findSeating_L18, if_pos (by decide)], fun _ _ => rfl, hz⟩
  | succ m ih =>
    intro n k M hk hn hz
    obtain ⟨n, rfl⟩ : ∃ z, n = z + 1 := ⟨n - 1, by omega⟩
    obtain ⟨M', r1, r2, r3⟩ := ih n (k + 1) (upd2 M 116 k 0) (by omega) (by omega) (fun j hj => by
      by_cases e : j = k
      · subst e; exact u_eq
      · rw [u_nk e]; exact hz j (by omega))
    refine ⟨M', ?_, fun a q => by rw [r2 a q, u_ne q], r3⟩
    rw [f_Mod_findSeating_L18, if_neg (by rw [l6, nI_leI (by omega) (by omega)]; omega), e_ckn (by omega) (by decide), e_set, show ix (nI k) = k from e_ix (by omega), nI_1]
    exact r1
theorem m_search {T : Tn} {M : Mem} (o : OnM T M) (g : Good T) {h : Nat} (hh : h < 12) : ∃ M', f_Mod_findSeating (nI h) M = some M' ∧ SgM T (sgF (sgUp T h) (T 4 0) (T 1 5) 0 (fun _ => 0) (9, 0, fun _ => 0)) M' ∧ Frm M M' := by
  have h8 := g.n
  obtain ⟨M1, a1, a2, a3⟩ := m_find o g hh
  obtain ⟨M2, b1, b2, b3⟩ := m_zeroL 6 1000 0 (upd2 (upd2 M1 103 35 (-4)) 103 36 0) rfl (by decide) (fun j hj => by omega)
  have fu : Fs M1 (upd2 (upd2 M1 103 35 (-4)) 103 36 0) := (Fs.rf.s (Or.inr (Or.inr ⟨rfl, Or.inl rfl⟩))).s (Or.inr (Or.inr ⟨rfl, Or.inr rfl⟩))
  have f2 : Fs M1 M2 := fun a k x y z => by rw [b2 a x]; exact fu a k x y z
  have hpw : T 4 0 ^ T 1 5 ≤ 262144 := by
    have e1 : T 4 0 ^ T 1 5 ≤ 8 ^ T 1 5 := Nat.pow_le_pow_left h8.2.2 _
    have e2 : 8 ^ T 1 5 ≤ 8 ^ 6 := Nat.pow_le_pow_right (by decide) h8.1
    exact Nat.le_trans e1 (Nat.le_trans e2 (by decide))
  obtain ⟨n, hn⟩ : ∃ n, 300000 = n + 1 + T 4 0 ^ T 1 5 := ⟨299999 - T 4 0 ^ T 1 5, by omega⟩
  obtain ⟨M3, c1, c2, c3, c4, c5⟩ := m_run g (h := h) (T 1 5) 0 (n + 1) (fun _ => 0) (9, 0, fun _ => 0) M2 (by omega) ⟨by rw [b2 103 (by decide), u_nk (by decide), u_eq]; rfl, by rw [b2 103 (by decide), u_eq]; rfl, fun q => absurd rfl q, Nat.le_refl _⟩ (o.fr (a2.m.tr f2.m)) (fun b hb => by rw [f2 115 b (by decide) (by decide) (fun e => absurd e (by decide))]; exact a3 b hb) (fun q hq => by omega) (fun q x y => b3 q (by omega))
  refine ⟨M3, ?_, c2, a2.m.tr (f2.tr c5).m⟩
  unfold f_Mod_findSeating
  rw [a1, e_bnd, e_set, e_set]
  rw [show nI 0 = (0 : Int32) from rfl] at b1 c1
  rw [b1, hn, c1]
  obtain ⟨f, hf⟩ : ∃ f, 1000 - T 1 5 = f + 1 := ⟨999 - T 1 5, by omega⟩
  rw [hf, f_Mod_nextSeats_L7, if_pos (by decide), f_Mod_nextSeats_J39, if_pos (by decide), f_Mod_nextSeats_J53, if_pos (by decide), e_bnd2, f_Mod_findSeating_L39, if_pos (by rfl)]
theorem s_seating (x y : Int32) : Sim (f_Hal_seating x y) (f_Mod_seating x y) := by
  intro M ⟨T, hA, hI, hS, hT, hF⟩
  obtain ⟨o, om, g⟩ := id hA
  have h8 := g.n
  have e1 : f_Mod_in y.toInt64 0 1 = f_Mod_in y.toInt64 0 (nI 1).toInt64 := rfl
  rcases a_hour x with ⟨h, hh, rfl, b1, b2⟩ | ⟨b1, b2⟩
  · obtain ⟨M1, p1, p2, p3⟩ := c_search o g hh
    have hA1 := hA.frc p3 (by decide) (by decide)
    obtain ⟨M2, q1, q2, q3⟩ := m_search hA1.2.1 g hh
    have hInv : Inv M2 := Inv.to hI hS hT hF ((p3.kp (by decide) (by decide)).tr q3.kp) (fun _ _ _ => rfl) (hA1.frm q3)
    have h9 : (sgF (sgUp T h) (T 4 0) (T 1 5) 0 (fun _ => 0) (9, 0, fun _ => 0)).1 ≠ 9 := by
      have := sgF_hit g (h := h) (R := fun p => T 3 p) (fun q hq => g.p hq) (sgD_inj (fun p q hp hq e => g.pi hp hq e)) (T 1 5) 0 (fun _ => 0) (9, 0, fun _ => 0) (by omega) (fun q hq => by omega) (Nat.le_refl _)
      omega
    rcases wi y (m := 1) (by decide) with ⟨k, hk, rfl, f1, f2⟩ | ⟨f1, f2, f3⟩
    · have hlt : nI k < 10 := by rw [l10, nI_ltI (by omega) (by omega)]; omega
      rcases (show k = 0 ∨ k = 1 by omega) with rfl | rfl
      · refine ⟨M1 86 0, M1, M2, ?_, ?_, hInv⟩
        · unfold f_Hal_seating f_Hal_seating_J21 f_Hal_seating_J22 f_Hal_seating_J45
          rw [if_pos hlt, b1, e_bnd, if_neg (by decide), show f_Hal_within (nI 0) 0 1 = some (nI 1) from f1, e_bnd, if_neg (by decide), p1, e_bnd, if_pos rfl, if_pos (by rfl)]
        · unfold f_Mod_seating f_Mod_seating_J30
          rw [b2, e_bnd, if_neg (by decide), e1, f2, e_bnd, if_neg (by decide), q1, e_bnd, if_pos (by rfl), q2.1, if_neg h9, p2.1]
      · refine ⟨M1 86 1, M1, M2, ?_, ?_, hInv⟩
        · unfold f_Hal_seating f_Hal_seating_J21 f_Hal_seating_J22 f_Hal_seating_J45
          rw [if_pos hlt, b1, e_bnd, if_neg (by decide), show f_Hal_within (nI 1) 0 1 = some (nI 1) from f1, e_bnd, if_neg (by decide), p1, e_bnd, if_pos rfl, if_neg (by decide)]
        · unfold f_Mod_seating f_Mod_seating_J30
          rw [b2, e_bnd, if_neg (by decide), e1, f2, e_bnd, if_neg (by decide), q1, e_bnd, if_neg (by decide), if_pos (by rfl), q2.2.1, p2.2.1]
    · rcases a_one g (y - 10) with ⟨b, hb, hy, d1, d2⟩ | ⟨d1, d2⟩
      · have hy' : y = nI (b + 10) := by
          have : y = (y - 10) + 10 := by simp
          rw [this, hy, l10, nI_add]
        have hge : ¬ y < 10 := by rw [hy', l10, nI_ltI (by omega) (by omega)]; omega
        refine ⟨M1 93 b, M1, M2, ?_, ?_, hInv⟩
        · unfold f_Hal_seating f_Hal_seating_J22 f_Hal_seating_J45 f_Sea_benchInFirst
          rw [if_neg hge, d1 M o, e_bnd, if_neg (by decide), b1, e_bnd, if_neg (by decide), show f_Hal_within y 0 1 = some (nI 0) from f1, e_bnd, if_pos (by rfl), if_neg (by decide), p1, e_bnd, if_neg (by decide), hy, w_in, if_pos (by rw [l0, l5, nI_leI (by omega) (by omega), nI_leI (by omega) (by omega)]; omega), e_bnd, if_neg (by decide), e_ckn (by omega) (by decide), show ix (nI b) = b from e_ix (by omega), e_bnd]
        · unfold f_Mod_seating f_Mod_seating_J30
          rw [b2, e_bnd, if_neg (by decide), e1, f2, e_bnd, if_pos (by rfl), d2 M1 hA1.2.1, e_bnd, if_neg (by decide), q1, e_bnd, if_neg (by rw [hy', l0, nI_eq (by omega) (by omega)]; omega), if_neg (by rw [hy', l1, nI_eq (by omega) (by omega)]; omega), hy, e_ckn (by omega) (by decide), show ix (nI b) = b from e_ix (by omega), q2.2.2.1 h9 b hb, p2.2.2.1 h9 b hb]
      · refine ⟨-1, M, M, ?_, ?_, ⟨T, hA, hI, hS, hT, hF⟩⟩
        · have j21 : f_Hal_seating_J21 (nI h) y M = some (-1, M) := by
            unfold f_Hal_seating_J21 f_Hal_seating_J22
            rw [b1, e_bnd, if_neg (by decide), show f_Hal_within y 0 1 = some (nI 0) from f1, e_bnd, if_pos (by rfl), if_pos rfl]
          unfold f_Hal_seating
          by_cases q : y < 10
          · rw [if_pos q, j21]
          · rw [if_neg q, d1 M o, e_bnd, if_pos (by rfl), j21]
        · unfold f_Mod_seating
          rw [b2, e_bnd, if_neg (by decide), e1, f2, e_bnd, if_pos (by rfl), d2 M om, e_bnd, if_pos (by rfl)]
  · refine ⟨-1, M, M, ?_, ?_, ⟨T, hA, hI, hS, hT, hF⟩⟩
    · have j22 : ∀ s0, f_Hal_seating_J22 x y s0 M = some (-1, M) := fun s0 => by
        unfold f_Hal_seating_J22
        rw [b1, e_bnd, if_pos (by rfl)]
      unfold f_Hal_seating f_Hal_seating_J21
      by_cases q : y < 10
      · rw [if_pos q, j22]
      · rw [if_neg q]
        rcases a_one g (y - 10) with ⟨b, hb, hy, d1, d2⟩ | ⟨d1, d2⟩
        · rw [d1 M o, e_bnd, if_neg (by decide), j22]
        · rw [d1 M o, e_bnd, if_pos (by rfl), j22]
    · unfold f_Mod_seating
      rw [b2, e_bnd, if_pos (by rfl)]
