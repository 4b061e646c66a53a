/-! pure: what is drafted, in the class -/
/-- D as T; 20: the rules told; 21 0: 1 more than the people told, or 0; 22 0 the rightmost, 23 0 the lowest; 24 0: 1 more than the highest one, or 0 -/
def bP (D : Tn) (x y f e k : Nat) : Tn := fun a i => if a = 4 ∧ i = 0 then D 4 0 + 1 else if i = D 4 0 then (if a = 5 then x else if a = 6 then y else if a = 7 then f else if a = 8 then e else if a = 9 then k else D a i) else D a i
def tP (D : Tn) (t u v w : Nat) : Tn := fun a i => if a = t ∧ i = 0 then D t 0 + 1 else if i = D t 0 then (if a = t + 1 then u else if a = t + 2 then v else if a = t + 3 then w else D a i) else D a i
theorem bP_o {D : Tn} {x y f e k a i : Nat} (h : a < 4 ∨ 9 < a) : bP D x y f e k a i = D a i := by
  unfold bP
  rw [if_neg (by omega), if_neg (show ¬ a = 5 by omega), if_neg (show ¬ a = 6 by omega), if_neg (show ¬ a = 7 by omega), if_neg (show ¬ a = 8 by omega), if_neg (show ¬ a = 9 by omega), ite_self]
theorem bP_4 {D : Tn} {x y f e k : Nat} : bP D x y f e k 4 0 = D 4 0 + 1 := if_pos ⟨rfl, rfl⟩
theorem bP_i {D : Tn} {x y f e k a i : Nat} (ha : a ≠ 4) (h : i ≠ D 4 0) : bP D x y f e k a i = D a i := by
  unfold bP
  rw [if_neg (fun q => ha q.1), if_neg h]
theorem bP_n {D : Tn} {x y f e k a : Nat} (ha : 5 ≤ a) (h : a ≤ 9) : bP D x y f e k a (D 4 0) = if a = 5 then x else if a = 6 then y else if a = 7 then f else if a = 8 then e else k := by
  unfold bP
  rw [if_neg (by omega), if_pos rfl]
  rcases (show a = 5 ∨ a = 6 ∨ a = 7 ∨ a = 8 ∨ a = 9 by omega) with rfl | rfl | rfl | rfl | rfl <;> rfl
theorem tP_o {D : Tn} {t u v w a i : Nat} (h : a < t ∨ t + 3 < a) : tP D t u v w a i = D a i := by
  unfold tP
  rw [if_neg (by omega), if_neg (show ¬ a = t + 1 by omega), if_neg (show ¬ a = t + 2 by omega), if_neg (show ¬ a = t + 3 by omega), ite_self]
theorem tP_t {D : Tn} {t u v w : Nat} : tP D t u v w t 0 = D t 0 + 1 := if_pos ⟨rfl, rfl⟩
theorem tP_i {D : Tn} {t u v w a i : Nat} (ha : a ≠ t) (h : i ≠ D t 0) : tP D t u v w a i = D a i := by
  unfold tP
  rw [if_neg (fun q => ha q.1), if_neg h]
theorem tP_1 {D : Tn} {t u v w : Nat} : tP D t u v w (t + 1) (D t 0) = u := by
  unfold tP
  rw [if_neg (by omega), if_pos rfl, if_pos rfl]
theorem tP_2 {D : Tn} {t u v w : Nat} : tP D t u v w (t + 2) (D t 0) = v := by
  unfold tP
  rw [if_neg (by omega), if_pos rfl, if_neg (by omega), if_pos rfl]
theorem tP_3 {D : Tn} {t u v w : Nat} : tP D t u v w (t + 3) (D t 0) = w := by
  unfold tP
  rw [if_neg (by omega), if_pos rfl, if_neg (by omega), if_neg (by omega), if_pos rfl]
def rlM (D : Tn) : Int32 := orN (fun r => decide (D 20 r = 1)) 5
def DC (D : Tn) (M : Mem) : Prop :=
  ((∀ j, j < 5 → M 53 j = nI (D 1 j)) ∧ (∀ c, c < 81 → M 54 c = nI (D 2 c)) ∧ (∀ p, p < 6 → M 55 p = nI p)) ∧
  ((M 56 0 = nI (D 4 0) ∧ ∀ a, 57 ≤ a → a ≤ 61 → ∀ i, i < D 4 0 → M a i = nI (D (a - 52) i)) ∧ (M 62 0 = nI (D 10 0) ∧ ∀ a, 63 ≤ a → a ≤ 65 → ∀ i, i < D 10 0 → M a i = nI (D (a - 52) i)) ∧ (M 66 0 = nI (D 14 0) ∧ ∀ a, 67 ≤ a → a ≤ 69 → ∀ i, i < D 14 0 → M a i = nI (D (a - 52) i))) ∧
  M 52 2 = rlM D ∧ M 52 3 = (if D 21 0 = 0 then -1 else nI (D 21 0 - 1))
def Cn (M : Mem) : Prop := (∃ k, k ≤ 8 ∧ M 56 0 = nI k) ∧ (∃ k, k ≤ 12 ∧ M 62 0 = nI k) ∧ ∃ k, k ≤ 12 ∧ M 66 0 = nI k
/-- bounds that the lines themselves rest on -/
def DB (D : Tn) : Prop := D 4 0 ≤ 8 ∧ D 10 0 ≤ 8 ∧ D 14 0 ≤ 12 ∧ (∀ i, i < D 14 0 → D 15 i ≤ 11) ∧ ∀ c, c < 81 → D 2 c ≤ 2
theorem DC.f {D : Tn} {M M' : Mem} (h : DC D M) (f : F70 M M') : DC D M' := by
  unfold DC
  rw [f.1 52 (by decide), f.1 53 (by decide), f.1 54 (by decide), f.1 55 (by decide), f.1 56 (by decide), f.1 62 (by decide), f.1 66 (by decide)]
  obtain ⟨h1, ⟨⟨h2, h3⟩, ⟨h4, h5⟩, h6, h7⟩, h8⟩ := h
  exact ⟨h1, ⟨⟨h2, fun a x y => by rw [f.1 a (by omega)]; exact h3 a x y⟩, ⟨h4, fun a x y => by rw [f.1 a (by omega)]; exact h5 a x y⟩, h6, fun a x y => by rw [f.1 a (by omega)]; exact h7 a x y⟩, h8⟩
theorem Cn.f {M M' : Mem} (h : Cn M) (f : F70 M M') : Cn M' := by
  unfold Cn
  rw [f.1 56 (by decide), f.1 62 (by decide), f.1 66 (by decide)]
  exact h
theorem Rc.u {z : Tz} {M : Mem} {a k : Nat} {x : Int32} (r : Rc z M) (h : a ≠ 70) : Rc z (upd2 M a k x) := by
  unfold Rc
  rw [u_ne (show 70 ≠ a from fun e => h e.symm)]
  exact r
theorem Tc.u {b : Nat → Nat} {L : Nat} {M : Mem} {a k : Nat} {x : Int32} (t : Tc b L M) (h : a < 70) : Tc b L (upd2 M a k x) := by
  unfold Tc
  rw [u_ne (show 70 ≠ a by omega), u_ne (show 71 ≠ a by omega)]
  exact t
theorem Cn.u {M : Mem} {a k : Nat} {x : Int32} (h : Cn M) (h1 : a ≠ 56) (h2 : a ≠ 62) (h3 : a ≠ 66) : Cn (upd2 M a k x) := by
  unfold Cn
  rw [u_ne (Ne.symm h1), u_ne (Ne.symm h2), u_ne (Ne.symm h3)]
  exact h
/-- what stands at each step of a line -/
def CI (b : Nat → Nat) (L : Nat) (z : Tz) (D : Tn) (M : Mem) : Prop := Tc b L M ∧ Wz L z ∧ Rc z M ∧ Cn M ∧ (z.1 = 0 → DC D M)
def Fl (M M' : Mem) : Prop := Fr 52 70 M M' 
theorem F70.fl {M M' : Mem} (f : F70 M M') : Fr 52 70 M M' := fun a h => f.1 a (by omega)
section CL
variable {b : Nat → Nat} {L : Nat} {z : Tz} {D : Tn} {M : Mem}
theorem CI.flt (hL : L ≤ 320) (c : CI b L z D M) {f : Nat} (hf : f ≠ 0) (hf7 : f ≤ 7) : ∃ M', f_Rea_failHere (nI f) M = some M' ∧ CI b L (flt f z) D M' ∧ Fr 52 70 M M' := by
  obtain ⟨c1, c2, c3, c4, c5⟩ := c
  obtain ⟨M', a1, a2, a3⟩ := c_flt hL c2 c3 hf
  exact ⟨M', a1, ⟨c1.f a3, flt_w hL hf7 hf c2, a2, c4.f a3, fun e => absurd e (flt_ne hf)⟩, a3.fl⟩
theorem CI.next (hL : L ≤ 320) (hb : ∀ j, j < L → b j < 256) (c : CI b L z D M) : ∃ M', f_Tap_nextToken M = some M' ∧ CI b L (nx b L z) D M' ∧ Fr 52 70 M M' := by
  obtain ⟨c1, c2, c3, c4, c5⟩ := c
  obtain ⟨M', a1, a2, a3⟩ := c_next hL hb c1 c2 c3
  exact ⟨M', a1, ⟨c1.f a3, nx_w hL (fun q => (c2.2.2 q).2.2.1) (fun _ => c2), a2, c4.f a3, fun e => (c5 (nx_l e)).f a3⟩, a3.fl⟩
theorem CI.sgn (hL : L ≤ 320) (c : CI b L z D M) : ∃ M', f_Rea_requireSign M = some M' ∧ CI b L (ckS z) D M' ∧ Fr 52 70 M M' := by
  obtain ⟨c1, c2, c3, c4, c5⟩ := c
  obtain ⟨M', a1, a2, a3⟩ := c_sgn' hL c2 c3
  exact ⟨M', a1, ⟨c1.f a3, ckS_w hL c2, a2, c4.f a3, fun e => (c5 (ckS_l e).2.1).f a3⟩, a3.fl⟩
theorem CI.sign (hL : L ≤ 320) (hb : ∀ j, j < L → b j < 256) (c : CI b L z D M) : ∃ M', f_Rea_readSign M = some M' ∧ CI b L (ckS (nx b L z)) D M' ∧ Fr 52 70 M M' := by
  obtain ⟨M1, a1, a2, a3⟩ := c.next hL hb
  obtain ⟨M2, b1, b2, b3⟩ := a2.sgn hL
  refine ⟨M2, ?_, b2, a3.tr b3⟩
  unfold f_Rea_readSign
  rw [a1, e_bnd, b1, e_bnd]
theorem CI.num (hL : L ≤ 320) (hb : ∀ j, j < L → b j < 256) (c : CI b L z D M) {lo hi : Nat} (hlh : lo ≤ hi) (hhi : hi ≤ 1000) : ∃ k M', f_Rea_readNumber (nI lo) (nI hi) M = some (nI k, M') ∧ CI b L (ckN lo hi (nx b L z)) D M' ∧ Fr 52 70 M M' ∧ lo ≤ k ∧ k ≤ hi ∧ ((ckN lo hi (nx b L z)).1 = 0 → k = (nx b L z).2.2.2.2.1) := by
  obtain ⟨c1, c2, c3, c4, c5⟩ := c
  obtain ⟨k, M', a1, a2, a3, a4, a5, a6⟩ := c_num hL hb c1 c2 c3 hlh hhi
  have w1 : Wz L (nx b L z) := nx_w hL (fun q => (c2.2.2 q).2.2.1) (fun _ => c2)
  exact ⟨k, M', a1, ⟨c1.f a3, ckN_w hL w1, a2, c4.f a3, fun e => (c5 (nx_l (ckN_l e).2.1)).f a3⟩, a3.fl, a4, a5, a6⟩
/-- a cell outside the counts is set -/
theorem CI.set (c : CI b L z D M) {D' : Tn} {a k : Nat} {x : Int32} (h : 52 ≤ a) (h2 : a ≤ 55) (hD : z.1 = 0 → DC D M → DC D' (upd2 M a k x)) : CI b L z D' (upd2 M a k x) ∧ Fr 52 70 M (upd2 M a k x) := by
  obtain ⟨c1, c2, c3, c4, c5⟩ := c
  exact ⟨⟨c1.u (by omega), c2, c3.u (by omega), c4.u (by omega) (by omega) (by omega), fun e => hD e (c5 e)⟩, Fr.rf.set (by omega) (by omega)⟩
theorem DC.s53 (c : DC D M) {k v : Nat} : DC (tset D 1 k v) (upd2 M 53 k (nI v)) := by
  obtain ⟨⟨h1, h2, h3⟩, ⟨⟨h4, h5⟩, ⟨h6, h7⟩, h8, h9⟩, h10, h11⟩ := c
  refine ⟨⟨fun j hj => ?_, fun c hc => ?_, fun p hp => ?_⟩, ⟨⟨?_, fun a x y i hi => ?_⟩, ⟨?_, fun a x y i hi => ?_⟩, ?_, fun a x y i hi => ?_⟩, ?_, ?_⟩
  · by_cases e : j = k
    · subst e; rw [u_eq, ts_eq]
    · rw [u_nk e, ts_nk e]; exact h1 j hj
  · rw [u_ne (by decide), ts_ne (by decide)]; exact h2 c hc
  · rw [u_ne (by decide)]; exact h3 p hp
  · rw [u_ne (by decide), ts_ne (by decide)]; exact h4
  · rw [ts_ne (by decide)] at hi; rw [u_ne (by omega), ts_ne (by omega)]; exact h5 a x y i hi
  · rw [u_ne (by decide), ts_ne (by decide)]; exact h6
  · rw [ts_ne (by decide)] at hi; rw [u_ne (by omega), ts_ne (by omega)]; exact h7 a x y i hi
  · rw [u_ne (by decide), ts_ne (by decide)]; exact h8
  · rw [ts_ne (by decide)] at hi; rw [u_ne (by omega), ts_ne (by omega)]; exact h9 a x y i hi
  · rw [u_ne (by decide)]; exact h10
  · rw [u_ne (by decide), ts_ne (by decide)]; exact h11
theorem DC.s54 (c : DC D M) {k v : Nat} : DC (tset D 2 k v) (upd2 M 54 k (nI v)) := by
  obtain ⟨⟨h1, h2, h3⟩, ⟨⟨h4, h5⟩, ⟨h6, h7⟩, h8, h9⟩, h10, h11⟩ := c
  refine ⟨⟨fun j hj => ?_, fun c hc => ?_, fun p hp => ?_⟩, ⟨⟨?_, fun a x y i hi => ?_⟩, ⟨?_, fun a x y i hi => ?_⟩, ?_, fun a x y i hi => ?_⟩, ?_, ?_⟩
  · rw [u_ne (by decide), ts_ne (by decide)]; exact h1 j hj
  · by_cases e : c = k
    · subst e; rw [u_eq, ts_eq]
    · rw [u_nk e, ts_nk e]; exact h2 c hc
  · rw [u_ne (by decide)]; exact h3 p hp
  · rw [u_ne (by decide), ts_ne (by decide)]; exact h4
  · rw [ts_ne (by decide)] at hi; rw [u_ne (by omega), ts_ne (by omega)]; exact h5 a x y i hi
  · rw [u_ne (by decide), ts_ne (by decide)]; exact h6
  · rw [ts_ne (by decide)] at hi; rw [u_ne (by omega), ts_ne (by omega)]; exact h7 a x y i hi
  · rw [u_ne (by decide), ts_ne (by decide)]; exact h8
  · rw [ts_ne (by decide)] at hi; rw [u_ne (by omega), ts_ne (by omega)]; exact h9 a x y i hi
  · rw [u_ne (by decide)]; exact h10
  · rw [u_ne (by decide), ts_ne (by decide)]; exact h11
theorem rl_set {i : Nat} (hi : i < 5) : rlM (tset D 20 i 1) = rlM D ||| jshl 1 (nI i) := by
  unfold rlM
  rw [← orN_bit1 hi, orN_or]
  refine orN_cg (fun r _ => ?_)
  by_cases e : r = i
  · subst e; rw [ts_eq]; simp
  · rw [ts_nk e]; simp [e]
theorem DC.s522 (c : DC D M) {i : Nat} (hi : i < 5) : DC (tset D 20 i 1) (upd2 M 52 2 (M 52 2 ||| jshl 1 (nI i))) := by
  obtain ⟨⟨h1, h2, h3⟩, ⟨⟨h4, h5⟩, ⟨h6, h7⟩, h8, h9⟩, h10, h11⟩ := c
  refine ⟨⟨fun j hj => ?_, fun c hc => ?_, fun p hp => ?_⟩, ⟨⟨?_, fun a x y i hi => ?_⟩, ⟨?_, fun a x y i hi => ?_⟩, ?_, fun a x y i hi => ?_⟩, ?_, ?_⟩
  · rw [u_ne (by decide), ts_ne (by decide)]; exact h1 j hj
  · rw [u_ne (by decide), ts_ne (by decide)]; exact h2 c hc
  · rw [u_ne (by decide)]; exact h3 p hp
  · rw [u_ne (by decide), ts_ne (by decide)]; exact h4
  · rw [ts_ne (by decide)] at hi; rw [u_ne (by omega), ts_ne (by omega)]; exact h5 a x y i hi
  · rw [u_ne (by decide), ts_ne (by decide)]; exact h6
  · rw [ts_ne (by decide)] at hi; rw [u_ne (by omega), ts_ne (by omega)]; exact h7 a x y i hi
  · rw [u_ne (by decide), ts_ne (by decide)]; exact h8
  · rw [ts_ne (by decide)] at hi; rw [u_ne (by omega), ts_ne (by omega)]; exact h9 a x y i hi
  · rw [u_eq, rl_set hi, h10]
  · rw [u_nk (by decide), ts_ne (by decide)]; exact h11
theorem DC.s523 (c : DC D M) {v : Nat} : DC (tset D 21 0 (v + 1)) (upd2 M 52 3 (nI v)) := by
  obtain ⟨⟨h1, h2, h3⟩, ⟨⟨h4, h5⟩, ⟨h6, h7⟩, h8, h9⟩, h10, h11⟩ := c
  refine ⟨⟨fun j hj => ?_, fun c hc => ?_, fun p hp => ?_⟩, ⟨⟨?_, fun a x y i hi => ?_⟩, ⟨?_, fun a x y i hi => ?_⟩, ?_, fun a x y i hi => ?_⟩, ?_, ?_⟩
  · rw [u_ne (by decide), ts_ne (by decide)]; exact h1 j hj
  · rw [u_ne (by decide), ts_ne (by decide)]; exact h2 c hc
  · rw [u_ne (by decide)]; exact h3 p hp
  · rw [u_ne (by decide), ts_ne (by decide)]; exact h4
  · rw [ts_ne (by decide)] at hi; rw [u_ne (by omega), ts_ne (by omega)]; exact h5 a x y i hi
  · rw [u_ne (by decide), ts_ne (by decide)]; exact h6
  · rw [ts_ne (by decide)] at hi; rw [u_ne (by omega), ts_ne (by omega)]; exact h7 a x y i hi
  · rw [u_ne (by decide), ts_ne (by decide)]; exact h8
  · rw [ts_ne (by decide)] at hi; rw [u_ne (by omega), ts_ne (by omega)]; exact h9 a x y i hi
  · rw [u_nk (by decide), h10]; unfold rlM; exact orN_cg (fun r _ => by rw [ts_ne (by decide)])
  · rw [u_eq, ts_eq, if_neg (by omega)]; rfl
/-- a row of the draft that the class doesn't hold -/
theorem DC.own (c : DC D M) {a k v : Nat} (h : 22 ≤ a) : DC (tset D a k v) M := by
  obtain ⟨⟨h1, h2, h3⟩, ⟨⟨h4, h5⟩, ⟨h6, h7⟩, h8, h9⟩, h10, h11⟩ := c
  refine ⟨⟨fun j hj => ?_, fun c hc => ?_, h3⟩, ⟨⟨?_, fun a x y i hi => ?_⟩, ⟨?_, fun a x y i hi => ?_⟩, ?_, fun a x y i hi => ?_⟩, ?_, ?_⟩
  · rw [ts_ne (by omega)]; exact h1 j hj
  · rw [ts_ne (by omega)]; exact h2 c hc
  · rw [ts_ne (by omega)]; exact h4
  · rw [ts_ne (by omega)] at hi; rw [ts_ne (by omega)]; exact h5 a x y i hi
  · rw [ts_ne (by omega)]; exact h6
  · rw [ts_ne (by omega)] at hi; rw [ts_ne (by omega)]; exact h7 a x y i hi
  · rw [ts_ne (by omega)]; exact h8
  · rw [ts_ne (by omega)] at hi; rw [ts_ne (by omega)]; exact h9 a x y i hi
  · rw [h10]; unfold rlM; exact orN_cg (fun r _ => by rw [ts_ne (by omega)])
  · rw [ts_ne (by omega)]; exact h11
/-- a bench is added, or there is no room -/
theorem CI.ben (c : CI b L z D M) (hn : z.1 = 0 → D 4 0 < 8) (x y f e k : Nat) : ∃ M', f_Ben_add 56 (nI x) (nI y) (nI f) (nI e) (nI k) M = some M' ∧ CI b L z (bP D x y f e k) M' ∧ Fr 52 70 M M' := by
  obtain ⟨c1, c2, c3, ⟨⟨n, n1, n2⟩, c4, c4'⟩, c5⟩ := c
  unfold f_Ben_add
  rw [n2, if_neg (by rw [l0, nI_ltI (by omega) (by omega)]; omega)]
  by_cases q : n < 8
  · rw [if_pos (by rw [l8, nI_ltI (by omega) (by omega)]; exact q), e_ckn q (by decide), e_set, show ix (nI n) = n from e_ix (by omega)]
    simp only [u_ne (show (56 : Nat) ≠ 56 + 1 by decide), u_ne (show (56 : Nat) ≠ 56 + 2 by decide), u_ne (show (56 : Nat) ≠ 56 + 3 by decide), u_ne (show (56 : Nat) ≠ 56 + 4 by decide), u_ne (show (56 : Nat) ≠ 56 + 5 by decide), n2, e_ckn q (show 8 ≤ 2147483648 by decide), e_set, show ix (nI n) = n from e_ix (by omega), nI_1]
    refine ⟨_, rfl, ⟨?_, c2, ?_, ⟨⟨n + 1, by omega, u_eq⟩, ?_, ?_⟩, fun h => ?_⟩, (((((Fr.rf.set (by decide) (by decide)).set (by decide) (by decide)).set (by decide) (by decide)).set (by decide) (by decide)).set (by decide) (by decide)).set (by decide) (by decide)⟩
    · exact (((((c1.u (by decide)).u (by decide)).u (by decide)).u (by decide)).u (by decide)).u (by decide)
    · exact (((((c3.u (by decide)).u (by decide)).u (by decide)).u (by decide)).u (by decide)).u (by decide)
    · obtain ⟨k, k1, k2⟩ := c4
      exact ⟨k, k1, by rw [u_ne (by decide), u_ne (by decide), u_ne (by decide), u_ne (by decide), u_ne (by decide), u_ne (by decide)]; exact k2⟩
    · obtain ⟨k, k1, k2⟩ := c4'
      exact ⟨k, k1, by rw [u_ne (by decide), u_ne (by decide), u_ne (by decide), u_ne (by decide), u_ne (by decide), u_ne (by decide)]; exact k2⟩
    · obtain ⟨⟨h1, h2, h3⟩, ⟨⟨h4, h5⟩, ⟨h6, h7⟩, h8, h9⟩, h10, h11⟩ := c5 h
      have en : n = D 4 0 := by
        have h0 := hn h
        rw [n2, nI_eq (by omega) (by omega)] at h4
        exact h4
      subst en
      have un : ∀ a, (a < 56 ∨ 61 < a) → ∀ (v1 v2 v3 v4 v5 v6 : Int32) (k : Nat), upd2 (upd2 (upd2 (upd2 (upd2 (upd2 M (56 + 1) (D 4 0) v1) (56 + 2) (D 4 0) v2) (56 + 3) (D 4 0) v3) (56 + 4) (D 4 0) v4) (56 + 5) (D 4 0) v5) 56 0 v6 a k = M a k := fun a ha v1 v2 v3 v4 v5 v6 k => by
        rw [u_ne (by omega), u_ne (by omega), u_ne (by omega), u_ne (by omega), u_ne (by omega), u_ne (by omega)]
      refine ⟨⟨fun j hj => ?_, fun c hc => ?_, fun p hp => ?_⟩, ⟨⟨?_, fun a x y i hi => ?_⟩, ⟨?_, fun a x y i hi => ?_⟩, ?_, fun a x y i hi => ?_⟩, ?_, ?_⟩
      · rw [un 53 (by decide), bP_o (by decide)]; exact h1 j hj
      · rw [un 54 (by decide), bP_o (by decide)]; exact h2 c hc
      · rw [un 55 (by decide)]; exact h3 p hp
      · rw [u_eq, bP_4]
      · rw [bP_4] at hi
        by_cases e : i = D 4 0
        · subst e
          rw [bP_n (by omega) (by omega), u_ne (by omega)]
          rcases (show a = 57 ∨ a = 58 ∨ a = 59 ∨ a = 60 ∨ a = 61 by omega) with rfl | rfl | rfl | rfl | rfl
          · rw [u_ne (by decide), u_ne (by decide), u_ne (by decide), u_ne (by decide), u_eq]; rfl
          · rw [u_ne (by decide), u_ne (by decide), u_ne (by decide), u_eq]; rfl
          · rw [u_ne (by decide), u_ne (by decide), u_eq]; rfl
          · rw [u_ne (by decide), u_eq]; rfl
          · rw [u_eq]; rfl
        · rw [bP_i (by omega) e, u_ne (by omega)]
          have s : ∀ {M : Mem} {a' : Nat} {v : Int32}, upd2 M a' (D 4 0) v a i = M a i := fun {M a' v} => by
            by_cases u : a = a'
            · subst u; exact u_nk e
            · rw [u_ne u]
          rw [s, s, s, s, s]
          exact h5 a x y i (by omega)
      · rw [un 62 (by decide), bP_o (by decide)]; exact h6
      · rw [bP_o (by decide)] at hi; rw [un a (by omega), bP_o (by omega)]; exact h7 a x y i hi
      · rw [un 66 (by decide), bP_o (by decide)]; exact h8
      · rw [bP_o (by decide)] at hi; rw [un a (by omega), bP_o (by omega)]; exact h9 a x y i hi
      · rw [un 52 (by decide), h10]; unfold rlM; exact orN_cg (fun r _ => by rw [bP_o (by decide)])
      · rw [un 52 (by decide), bP_o (by decide)]; exact h11
  · rw [if_neg (by rw [l8, nI_ltI (by omega) (by omega)]; exact q)]
    refine ⟨M, rfl, ⟨c1, c2, c3, ⟨⟨n, n1, n2⟩, c4, c4'⟩, fun h => ?_⟩, Fr.rf⟩
    have h4 := (c5 h).2.1.1.1
    have h0 := hn h
    rw [n2, nI_eq (by omega) (by omega)] at h4
    omega
end CL
