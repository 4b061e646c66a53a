/-! pure: whispers more, fewer -/
theorem On.push {T T' : Tn} {M : Mem} (o : On T M) {k : Nat} (hk : T 14 0 = k) (h1 : ∀ a j, a < 14 → T' a j = T a j) (h2 : T' 14 0 = k + 1) (h3 : ∀ a i, 15 ≤ a → a ≤ 17 → i < k → T' a i = T a i) :
    On T' (upd2 (upd2 (upd2 (upd2 M 15 k (nI (T' 15 k))) 16 k (nI (T' 16 k))) 17 k (nI (T' 17 k))) 14 0 (nI (k + 1))) := by
  have eM : ∀ a, a < 14 → upd2 (upd2 (upd2 (upd2 M 15 k (nI (T' 15 k))) 16 k (nI (T' 16 k))) 17 k (nI (T' 17 k))) 14 0 (nI (k + 1)) a = M a := fun a ha => by
    rw [u_ne (by omega), u_ne (by omega), u_ne (by omega), u_ne (by omega)]
  have eT : ∀ a, a < 14 → T' a = T a := fun a ha => funext fun j => h1 a j ha
  refine ⟨fun j hj => ?_, fun j hj => ?_, fun j hj => ?_, ?_, fun a a1 a2 j hj => ?_, ?_, fun a a1 a2 j hj => ?_, ?_, fun a a1 a2 j hj => ?_⟩
  · rw [eM _ (by decide), eT _ (by decide)]; exact o.s hj
  · rw [eM _ (by decide), eT _ (by decide)]; exact o.c hj
  · rw [eM _ (by decide), eT _ (by decide)]; exact o.p hj
  · rw [eM _ (by decide), eT _ (by decide)]; exact o.nb
  · rw [eT 4 (by decide)] at hj
    rw [eM _ (by omega), eT _ (by omega)]; exact o.b a1 a2 hj
  · rw [eM _ (by decide), eT _ (by decide)]; exact o.nw
  · rw [eT 10 (by decide)] at hj
    rw [eM _ (by omega), eT _ (by omega)]; exact o.w a1 a2 hj
  · rw [u_eq, h2]
  · rw [h2] at hj
    rw [u_ne (by omega)]
    by_cases e : j = k
    · subst e
      rcases (show a = 15 ∨ a = 16 ∨ a = 17 by omega) with rfl | rfl | rfl
      · rw [u_ne (by decide), u_ne (by decide), u_eq]
      · rw [u_ne (by decide), u_eq]
      · rw [u_eq]
    · rw [h3 a j a1 a2 (by omega)]
      have := o.v a1 a2 (show j < T 14 0 by omega)
      rcases (show a = 15 ∨ a = 16 ∨ a = 17 by omega) with rfl | rfl | rfl
      · rw [u_ne (by decide), u_ne (by decide), u_nk e]; exact this
      · rw [u_ne (by decide), u_nk e, u_ne (by decide)]; exact this
      · rw [u_nk e, u_ne (by decide), u_ne (by decide)]; exact this
theorem OnM.push {T T' : Tn} {M M' : Mem} (o : OnM T M) (h1 : ∀ a j, a < 14 → T' a j = T a j) (hM : ∀ a k, (a ≠ 104 ∨ k < 88) → M' a k = M a k) (h88 : M' 104 88 = nI (T' 14 0)) (hv : ∀ i, i < T' 14 0 → M' 104 (89 + 3 * i) = nI (T' 15 i) ∧ M' 104 (89 + 3 * i + 1) = nI (T' 16 i) ∧ M' 104 (89 + 3 * i + 2) = nI (T' 17 i)) : OnM T' M' := by
  have eM : ∀ a, a ≠ 104 → M' a = M a := fun a ha => funext fun k => hM a k (Or.inl ha)
  have eT : ∀ a, a < 14 → T' a = T a := fun a ha => funext fun j => h1 a j ha
  refine ⟨⟨?_, ?_, ?_, ?_, ?_, ?_⟩, fun c hc => ?_, fun p hp => ?_, ?_, fun b hb => ?_, ?_, fun i hi => ?_, h88, hv⟩
  · rw [eM _ (by decide), eT _ (by decide)]; exact o.s0
  · rw [eM _ (by decide), eT _ (by decide)]; exact o.s1
  · rw [eM _ (by decide), eT _ (by decide)]; exact o.s2
  · rw [eM _ (by decide), eT _ (by decide)]; exact o.s3
  · rw [hM _ _ (Or.inr (by decide)), eT _ (by decide)]; exact o.s4
  · rw [eM _ (by decide), eT _ (by decide)]; exact o.s5
  · rw [hM _ _ (Or.inr (by omega)), eT _ (by decide)]; exact o.c hc
  · rw [hM _ _ (Or.inr (by omega)), eT _ (by decide)]; exact o.p hp
  · rw [eM _ (by decide), eT _ (by decide)]; exact o.nb
  · rw [eT 4 (by decide)] at hb
    rw [eM _ (by decide), eT _ (by decide), eT _ (by decide), eT _ (by decide), eT _ (by decide), eT _ (by decide)]
    exact ⟨o.b0 hb, o.b1 hb, o.b2 hb, o.b3 hb⟩
  · rw [eM _ (by decide), eT _ (by decide)]; exact o.nw
  · rw [eT 10 (by decide)] at hi
    rw [eM _ (by decide), eT _ (by decide), eT _ (by decide), eT _ (by decide)]
    exact ⟨o.w0 hi, o.w1 hi, o.w2 hi⟩
/-- other whispers, n of them -/
theorem Good.push {T T' : Tn} (g : Good T) (h1 : ∀ a j, a < 14 → T' a j = T a j) (h2 : T' 14 0 ≤ 12) (hv : ∀ i, i < T' 14 0 → T' 15 i < 12 ∧ T' 16 i < T 1 5 ∧ T' 17 i < 8) : Good T' := by
  have eT : ∀ a, a < 14 → T' a = T a := fun a ha => funext fun j => h1 a j ha
  unfold Good
  rw [eT 1 (by decide), eT 2 (by decide), eT 3 (by decide), eT 4 (by decide), eT 5 (by decide), eT 6 (by decide), eT 7 (by decide), eT 8 (by decide), eT 9 (by decide), eT 10 (by decide), eT 11 (by decide), eT 12 (by decide), eT 13 (by decide)]
  exact ⟨g.w, g.h, g.fade, g.bounce, g.warm, g.n, fun c hc => g.c hc, fun p hp => g.p hp, fun p q hp hq e => g.pi hp hq e, fun b hb => g.b hb, ⟨g.nw, fun i hi => g.wi hi⟩, ⟨h2, hv⟩⟩
theorem c_add {M : Mem} {k : Nat} (hk : M 14 0 = nI k) (h : k < 12) {x y z : Int32} : f_Tri_add 14 x y z M = some (upd2 (upd2 (upd2 (upd2 M 15 k x) 16 k y) 17 k z) 14 0 (nI (k + 1))) := by
  have e1 : ∀ (N : Mem) (a j : Nat) (v : Int32), a ≠ 14 → upd2 N a j v 14 = N 14 := fun N a j v ha => u_ne (fun e => ha e.symm)
  unfold f_Tri_add
  rw [hk, if_neg (by rw [l0, nI_ltI (by omega) (by omega)]; omega), if_pos (by rw [l12, nI_ltI (by omega) (by omega)]; omega), e_ckn h (by decide), e_set, show ix (nI k) = k from e_ix (by omega)]
  simp only [Nat.reduceAdd, e_set, e1 _ 15 _ _ (by decide), e1 _ 16 _ _ (by decide), e1 _ 17 _ _ (by decide), hk, e_ckn h (show (12 : Nat) ≤ 2147483648 by decide), show ix (nI k) = k from e_ix (by omega), nI_1]
def lh (T : Tn) : Nat := if T 14 0 = 0 then 0 else T 15 (T 14 0 - 1)
theorem lh_lt {T : Tn} (g : Good T) : lh T < 12 := by
  unfold lh
  split
  · decide
  · exact (g.v (by omega)).1
theorem c_last {T : Tn} {M : Mem} (o : On T M) (g : Good T) : f_Tol_latestHour 1 M = some (nI (lh T)) := by
  have h9 := g.ns
  unfold f_Tol_latestHour lh
  rw [show 1 + 13 = 14 from rfl, o.ns]
  by_cases h0 : T 14 0 = 0
  · rw [h0, if_pos (show nI 0 ≤ 0 from by decide), if_pos rfl]
    rfl
  · have c := (c_wsp o g (show T 14 0 - 1 < T 14 0 by omega)).1
    rw [if_neg (by rw [l0, nI_leI (by omega) (by omega)]; omega), if_neg h0, l1, pk_sub (by omega), c, e_bnd]
theorem m_last {T : Tn} {M : Mem} (o : OnM T M) (g : Good T) : f_Mod_lastHour M = some (nI (lh T)) := by
  have h9 := g.ns
  unfold f_Mod_lastHour lh
  rw [show M 104 (ix 88) = nI (T 14 0) from o.ns]
  by_cases h0 : T 14 0 = 0
  · rw [h0, if_pos (show nI 0 = 0 from rfl), if_pos rfl]
    rfl
  · have c := (m_say o g (show T 14 0 - 1 < T 14 0 by omega)).1
    rw [if_neg (by rw [l0, nI_eq (by omega) (by omega)]; omega), if_neg h0, l1, pk_sub (by omega), c, e_bnd]
/-- one whisper more, behind what there is -/
def tpu (T : Tn) (a b c : Nat) : Tn := tset (tset (tset (tset T 15 (T 14 0) a) 16 (T 14 0) b) 17 (T 14 0) c) 14 0 (T 14 0 + 1)
theorem tpu_f {T : Tn} {a b c : Nat} : (∀ i j, i < 14 → tpu T a b c i j = T i j) ∧ tpu T a b c 14 0 = T 14 0 + 1 ∧ (∀ i j, 15 ≤ i → i ≤ 17 → j < T 14 0 → tpu T a b c i j = T i j) ∧ tpu T a b c 15 (T 14 0) = a ∧ tpu T a b c 16 (T 14 0) = b ∧ tpu T a b c 17 (T 14 0) = c := by
  unfold tpu
  refine ⟨fun i j h => ?_, ts_eq, fun i j h1 h2 h3 => ?_, ?_, ?_, ?_⟩
  · rw [ts_ne (by omega), ts_ne (by omega), ts_ne (by omega), ts_ne (by omega)]
  · rw [ts_ne (by omega)]
    rcases (show i = 15 ∨ i = 16 ∨ i = 17 by omega) with rfl | rfl | rfl
    · rw [ts_ne (by decide), ts_ne (by decide), ts_nk (by omega)]
    · rw [ts_ne (by decide), ts_nk (by omega), ts_ne (by decide)]
    · rw [ts_nk (by omega), ts_ne (by decide), ts_ne (by decide)]
  · rw [ts_ne (by decide), ts_ne (by decide), ts_ne (by decide), ts_eq]
  · rw [ts_ne (by decide), ts_ne (by decide), ts_eq]
  · rw [ts_ne (by decide), ts_eq]
theorem chg_lo {a k : Nat} (h : chg a k = false) : a < 14 ∨ 17 < a := by
  by_cases q : a < 14 ∨ 17 < a
  · exact q
  · exfalso
    rcases (show a = 14 ∨ a = 15 ∨ a = 16 ∨ a = 17 by omega) with rfl | rfl | rfl | rfl <;> simp [chg] at h
/-- what say() and its twin do, for any ints -/
theorem sayS {T : Tn} (g : Good T) (x y z : Int32) : ∃ (v : Int32) (T' : Tn), Good T' ∧ (∀ a k, a < 14 → T' a k = T a k) ∧ (∀ a k, 17 < a → T' a k = T a k) ∧ (∀ a i, 15 ≤ a → a ≤ 17 → i < T 14 0 → T' a i = T a i) ∧ ((v < 0 ∧ T' = T) ∨ (v = nI (T 14 0 + 1) ∧ T' 14 0 = T 14 0 + 1)) ∧
    (∀ M, On T M → ∃ M', f_Hal_whisperMore x y z M = some (v, M') ∧ On T' M' ∧ Fr 14 17 M M') ∧ (∀ M, OnM T M → ∃ M', f_Mod_say x y z M = some (v, M') ∧ OnM T' M' ∧ ∀ a k, (a ≠ 104 ∨ k < 88 ∨ 124 < k) → M' a k = M a k) := by
  have h9 := g.n
  have hs := g.ns
  have hl := lh_lt g
  have bad : (∀ M, On T M → f_Hal_whisperMore x y z M = some (-1, M)) → (∀ M, OnM T M → f_Mod_say x y z M = some (-1, M)) → ∃ (v : Int32) (T' : Tn), Good T' ∧ (∀ a k, a < 14 → T' a k = T a k) ∧ (∀ a k, 17 < a → T' a k = T a k) ∧ (∀ a i, 15 ≤ a → a ≤ 17 → i < T 14 0 → T' a i = T a i) ∧ ((v < 0 ∧ T' = T) ∨ (v = nI (T 14 0 + 1) ∧ T' 14 0 = T 14 0 + 1)) ∧
    (∀ M, On T M → ∃ M', f_Hal_whisperMore x y z M = some (v, M') ∧ On T' M' ∧ Fr 14 17 M M') ∧ (∀ M, OnM T M → ∃ M', f_Mod_say x y z M = some (v, M') ∧ OnM T' M' ∧ ∀ a k, (a ≠ 104 ∨ k < 88 ∨ 124 < k) → M' a k = M a k) := fun b1 b2 =>
    ⟨-1, T, g, fun _ _ _ => rfl, fun _ _ _ => rfl, fun _ _ _ _ _ => rfl, Or.inl ⟨by decide, rfl⟩, fun M o => ⟨M, b1 M o, o, Fr.rf⟩, fun M o => ⟨M, b2 M o, o, fun _ _ _ => rfl⟩⟩
  have ein : f_Mod_in x.toInt64 (nI (lh T)).toInt64 11 = some (if nI (lh T) ≤ x ∧ x ≤ nI 11 then nI 1 else nI 0) := m_in0 x rfl rfl
  rcases wi x (m := 11) (by decide) with ⟨h, hh, rfl, f1, -⟩ | ⟨f1, -, f3⟩
  · by_cases hlt : h < lh T
    · refine bad (fun M o => ?_) (fun M o => ?_)
      · simp (disch := omega) only [e_bnd, e_bnd2, e_set, e_cpy, e_nmI, e_nmL, e_ckn, e_ckB0, e_ckB1, l0, l1, l2, l3, l4, l5, l6, l7, l8, l9, l10, l11, l12, l13, l14, l15, l16, l17, l18, l19, l20, l21, l22, l24, l25, l32, l39, l40, l41, l48, l50, l56, l57, l59, l60, l72, l79, l80, l81, l82, l88, l89, l97, l100, l122, l124, l125, l160, l255, l312, l320, l375, l1000, nI_ltI, nI_leI, nI_eq, nI_add, pk_mul, e_ix, e_neg, if_true, if_false, if_pos, if_neg, f_Hal_whisperMore, f_Hal_isHour, f1, c_last o g]
      · simp (disch := omega) only [e_bnd, e_bnd2, e_set, e_cpy, e_nmI, e_nmL, e_ckn, e_ckB0, e_ckB1, l0, l1, l2, l3, l4, l5, l6, l7, l8, l9, l10, l11, l12, l13, l14, l15, l16, l17, l18, l19, l20, l21, l22, l24, l25, l32, l39, l40, l41, l48, l50, l56, l57, l59, l60, l72, l79, l80, l81, l82, l88, l89, l97, l100, l122, l124, l125, l160, l255, l312, l320, l375, l1000, nI_ltI, nI_leI, nI_eq, nI_add, pk_mul, e_ix, e_neg, if_true, if_false, if_pos, if_neg, f_Mod_say, m_last o g, ein]
    · rcases a_one g y with ⟨p, hp, rfl, a1, a2⟩ | ⟨a1, a2⟩
      · rcases a_secret z with ⟨s, hs8, rfl, b1, b2⟩ | ⟨b1, b2⟩
        · by_cases hfull : T 14 0 = 12
          · refine ⟨-3, T, g, fun _ _ _ => rfl, fun _ _ _ => rfl, fun _ _ _ _ _ => rfl, Or.inl ⟨by decide, rfl⟩, fun M o => ⟨M, ?_, o, Fr.rf⟩, fun M o => ⟨M, ?_, o, fun _ _ _ => rfl⟩⟩
            · simp (disch := omega) only [e_bnd, e_bnd2, e_set, e_cpy, e_nmI, e_nmL, e_ckn, e_ckB0, e_ckB1, l0, l1, l2, l3, l4, l5, l6, l7, l8, l9, l10, l11, l12, l13, l14, l15, l16, l17, l18, l19, l20, l21, l22, l24, l25, l32, l39, l40, l41, l48, l50, l56, l57, l59, l60, l72, l79, l80, l81, l82, l88, l89, l97, l100, l122, l124, l125, l160, l255, l312, l320, l375, l1000, nI_ltI, nI_leI, nI_eq, nI_add, pk_mul, e_ix, e_neg, if_true, if_false, if_pos, if_neg, f_Hal_whisperMore, f_Hal_isHour, f1, c_last o g, a1 M o, b1, o.ns]
            · simp (disch := omega) only [e_bnd, e_bnd2, e_set, e_cpy, e_nmI, e_nmL, e_ckn, e_ckB0, e_ckB1, l0, l1, l2, l3, l4, l5, l6, l7, l8, l9, l10, l11, l12, l13, l14, l15, l16, l17, l18, l19, l20, l21, l22, l24, l25, l32, l39, l40, l41, l48, l50, l56, l57, l59, l60, l72, l79, l80, l81, l82, l88, l89, l97, l100, l122, l124, l125, l160, l255, l312, l320, l375, l1000, nI_ltI, nI_leI, nI_eq, nI_add, pk_mul, e_ix, e_neg, if_true, if_false, if_pos, if_neg, f_Mod_say, m_last o g, ein, a2 M o, b2, ix_88, o.ns]
          · obtain ⟨q1, q2, q3, q4, q5, q6⟩ := tpu_f (T := T) (a := h) (b := p) (c := s)
            refine ⟨nI (T 14 0 + 1), tpu T h p s, ?_, q1, fun a k ha => ?_, q3, Or.inr ⟨rfl, q2⟩, fun M o => ?_, fun M o => ?_⟩
            · refine g.push q1 (by rw [q2]; omega) (fun i hi => ?_)
              rw [q2] at hi
              by_cases e : i = T 14 0
              · subst e
                rw [q4, q5, q6]
                exact ⟨by omega, hp, hs8⟩
              · rw [q3 15 i (by decide) (by decide) (by omega), q3 16 i (by decide) (by decide) (by omega), q3 17 i (by decide) (by decide) (by omega)]
                exact g.v (by omega)
            · unfold tpu
              rw [ts_ne (by omega), ts_ne (by omega), ts_ne (by omega), ts_ne (by omega)]
            · have o1 := o.push rfl q1 q2 q3
              rw [q4, q5, q6] at o1
              refine ⟨_, ?_, o1, (((Fr.rf.set (by decide) (by decide)).set (by decide) (by decide)).set (by decide) (by decide)).set (by decide) (by decide)⟩
              have ca := c_add (M := M) (k := T 14 0) o.ns (by omega) (x := nI h) (y := nI p) (z := nI s)
              simp (disch := omega) only [e_bnd, e_bnd2, e_set, e_cpy, e_nmI, e_nmL, e_ckn, e_ckB0, e_ckB1, l0, l1, l2, l3, l4, l5, l6, l7, l8, l9, l10, l11, l12, l13, l14, l15, l16, l17, l18, l19, l20, l21, l22, l24, l25, l32, l39, l40, l41, l48, l50, l56, l57, l59, l60, l72, l79, l80, l81, l82, l88, l89, l97, l100, l122, l124, l125, l160, l255, l312, l320, l375, l1000, nI_ltI, nI_leI, nI_eq, nI_add, pk_mul, e_ix, e_neg, if_true, if_false, if_pos, if_neg, f_Hal_whisperMore, f_Hal_isHour, f1, c_last o g, a1 M o, b1, o.ns, ca, u_eq]
            · have ens : M 104 88 = nI (T 14 0) := o.ns
              refine ⟨upd2 (upd2 (upd2 (upd2 M 104 (89 + 3 * T 14 0) (nI h)) 104 (89 + 3 * T 14 0 + 1) (nI p)) 104 (89 + 3 * T 14 0 + 2) (nI s)) 104 88 (nI (T 14 0 + 1)), ?_, ?_, fun a k hak => ?_⟩
              · simp (disch := omega) only [e_bnd, e_bnd2, e_set, e_cpy, e_nmI, e_nmL, e_ckn, e_ckB0, e_ckB1, l0, l1, l2, l3, l4, l5, l6, l7, l8, l9, l10, l11, l12, l13, l14, l15, l16, l17, l18, l19, l20, l21, l22, l24, l25, l32, l39, l40, l41, l48, l50, l56, l57, l59, l60, l72, l79, l80, l81, l82, l88, l89, l97, l100, l122, l124, l125, l160, l255, l312, l320, l375, l1000, nI_ltI, nI_leI, nI_eq, nI_add, pk_mul, e_ix, e_neg, if_true, if_false, if_pos, if_neg, f_Mod_say, m_last o g, ein, a2 M o, b2, ix_88, ens, u_eq, u_nk]
              · refine o.push q1 (fun a k hak => ?_) ?_ (fun i hi => ?_)
                · by_cases e : a = 104
                  · subst e
                    rw [u_nk (by omega), u_nk (by omega), u_nk (by omega), u_nk (by omega)]
                  · rw [u_ne e, u_ne e, u_ne e, u_ne e]
                · rw [u_eq, q2]
                · rw [q2] at hi
                  by_cases e : i = T 14 0
                  · subst e
                    rw [q4, q5, q6]
                    refine ⟨?_, ?_, ?_⟩
                    · rw [u_nk (by omega), u_nk (by omega), u_nk (by omega), u_eq]
                    · rw [u_nk (by omega), u_nk (by omega), u_eq]
                    · rw [u_nk (by omega), u_eq]
                  · rw [q3 15 i (by decide) (by decide) (by omega), q3 16 i (by decide) (by decide) (by omega), q3 17 i (by decide) (by decide) (by omega)]
                    refine ⟨?_, ?_, ?_⟩
                    · rw [u_nk (by omega), u_nk (by omega), u_nk (by omega), u_nk (by omega)]; exact o.v0 (by omega)
                    · rw [u_nk (by omega), u_nk (by omega), u_nk (by omega), u_nk (by omega)]; exact o.v1 (by omega)
                    · rw [u_nk (by omega), u_nk (by omega), u_nk (by omega), u_nk (by omega)]; exact o.v2 (by omega)
              · by_cases e : a = 104
                · subst e
                  rw [u_nk (by omega), u_nk (by omega), u_nk (by omega), u_nk (by omega)]
                · rw [u_ne e, u_ne e, u_ne e, u_ne e]
        · refine bad (fun M o => ?_) (fun M o => ?_)
          · simp (disch := omega) only [e_bnd, e_bnd2, e_set, e_cpy, e_nmI, e_nmL, e_ckn, e_ckB0, e_ckB1, l0, l1, l2, l3, l4, l5, l6, l7, l8, l9, l10, l11, l12, l13, l14, l15, l16, l17, l18, l19, l20, l21, l22, l24, l25, l32, l39, l40, l41, l48, l50, l56, l57, l59, l60, l72, l79, l80, l81, l82, l88, l89, l97, l100, l122, l124, l125, l160, l255, l312, l320, l375, l1000, nI_ltI, nI_leI, nI_eq, nI_add, pk_mul, e_ix, e_neg, if_true, if_false, if_pos, if_neg, f_Hal_whisperMore, f_Hal_isHour, f1, c_last o g, a1 M o, b1]
          · simp (disch := omega) only [e_bnd, e_bnd2, e_set, e_cpy, e_nmI, e_nmL, e_ckn, e_ckB0, e_ckB1, l0, l1, l2, l3, l4, l5, l6, l7, l8, l9, l10, l11, l12, l13, l14, l15, l16, l17, l18, l19, l20, l21, l22, l24, l25, l32, l39, l40, l41, l48, l50, l56, l57, l59, l60, l72, l79, l80, l81, l82, l88, l89, l97, l100, l122, l124, l125, l160, l255, l312, l320, l375, l1000, nI_ltI, nI_leI, nI_eq, nI_add, pk_mul, e_ix, e_neg, if_true, if_false, if_pos, if_neg, f_Mod_say, m_last o g, ein, a2 M o, b2]
      · refine bad (fun M o => ?_) (fun M o => ?_)
        · simp (disch := omega) only [e_bnd, e_bnd2, e_set, e_cpy, e_nmI, e_nmL, e_ckn, e_ckB0, e_ckB1, l0, l1, l2, l3, l4, l5, l6, l7, l8, l9, l10, l11, l12, l13, l14, l15, l16, l17, l18, l19, l20, l21, l22, l24, l25, l32, l39, l40, l41, l48, l50, l56, l57, l59, l60, l72, l79, l80, l81, l82, l88, l89, l97, l100, l122, l124, l125, l160, l255, l312, l320, l375, l1000, nI_ltI, nI_leI, nI_eq, nI_add, pk_mul, e_ix, e_neg, if_true, if_false, if_pos, if_neg, f_Hal_whisperMore, f_Hal_isHour, f1, c_last o g, a1 M o]
        · simp (disch := omega) only [e_bnd, e_bnd2, e_set, e_cpy, e_nmI, e_nmL, e_ckn, e_ckB0, e_ckB1, l0, l1, l2, l3, l4, l5, l6, l7, l8, l9, l10, l11, l12, l13, l14, l15, l16, l17, l18, l19, l20, l21, l22, l24, l25, l32, l39, l40, l41, l48, l50, l56, l57, l59, l60, l72, l79, l80, l81, l82, l88, l89, l97, l100, l122, l124, l125, l160, l255, l312, l320, l375, l1000, nI_ltI, nI_leI, nI_eq, nI_add, pk_mul, e_ix, e_neg, if_true, if_false, if_pos, if_neg, f_Mod_say, m_last o g, ein, a2 M o]
  · have e0 : ¬ (nI (lh T) ≤ x ∧ x ≤ nI 11) := fun ⟨u1, u2⟩ => f3 ⟨Int32.le_trans (show (0 : Int32) ≤ nI (lh T) by rw [l0, nI_leI (by omega) (by omega)]; omega) u1, u2⟩
    rw [if_neg e0] at ein
    refine bad (fun M o => ?_) (fun M o => ?_)
    · simp (disch := omega) only [e_bnd, e_bnd2, e_set, e_cpy, e_nmI, e_nmL, e_ckn, e_ckB0, e_ckB1, l0, l1, l2, l3, l4, l5, l6, l7, l8, l9, l10, l11, l12, l13, l14, l15, l16, l17, l18, l19, l20, l21, l22, l24, l25, l32, l39, l40, l41, l48, l50, l56, l57, l59, l60, l72, l79, l80, l81, l82, l88, l89, l97, l100, l122, l124, l125, l160, l255, l312, l320, l375, l1000, nI_ltI, nI_leI, nI_eq, nI_add, pk_mul, e_ix, e_neg, if_true, if_false, if_pos, if_neg, f_Hal_whisperMore, f_Hal_isHour, f1]
    · simp (disch := omega) only [e_bnd, e_bnd2, e_set, e_cpy, e_nmI, e_nmL, e_ckn, e_ckB0, e_ckB1, l0, l1, l2, l3, l4, l5, l6, l7, l8, l9, l10, l11, l12, l13, l14, l15, l16, l17, l18, l19, l20, l21, l22, l24, l25, l32, l39, l40, l41, l48, l50, l56, l57, l59, l60, l72, l79, l80, l81, l82, l88, l89, l97, l100, l122, l124, l125, l160, l255, l312, l320, l375, l1000, nI_ltI, nI_leI, nI_eq, nI_add, pk_mul, e_ix, e_neg, if_true, if_false, if_pos, if_neg, f_Mod_say, m_last o g, ein]
theorem kp_say {M M' : Mem} (h : ∀ a k, (a ≠ 104 ∨ k < 88 ∨ 124 < k) → M' a k = M a k) : Kp M M' := by
  have e : ∀ a, a ≠ 104 → M' a = M a := fun a ha => funext fun k => h a k (Or.inl ha)
  refine ⟨⟨fun _ _ _ => trivial, by rw [e 0 (by decide)], by rw [e 0 (by decide)]⟩, fun a x y => e a (by omega), fun a x y => e a (by omega), ⟨?_, ?_, e 71 (by decide)⟩, ⟨?_, ?_, ?_⟩, fun k hk => h 104 k (by omega), e 105 (by decide), e 112 (by decide), fun a x y => e a (by omega)⟩
  · rw [e 70 (by decide)]
  · rw [e 70 (by decide)]
  · rw [e 103 (by decide)]
  · rw [e 103 (by decide)]
  · rw [e 103 (by decide)]
theorem kp_lo {M M' : Mem} {lo hi : Nat} (f : Fr lo hi M M') (h1 : 1 ≤ lo) (h2 : hi ≤ 17) : Kp M M' := by
  have e : ∀ a, (a = 0 ∨ 17 < a) → M' a = M a := fun a ha => f a (by omega)
  refine ⟨⟨fun _ _ _ => trivial, by rw [e 0 (by decide)], by rw [e 0 (by decide)]⟩, fun a x y => e a (by omega), fun a x y => e a (by omega), ⟨?_, ?_, e 71 (by decide)⟩, ⟨?_, ?_, ?_⟩, fun k hk => ?_, e 105 (by decide), e 112 (by decide), fun a x y => e a (by omega)⟩
  · rw [e 70 (by decide)]
  · rw [e 70 (by decide)]
  · rw [e 103 (by decide)]
  · rw [e 103 (by decide)]
  · rw [e 103 (by decide)]
  · rw [e 104 (by decide)]
theorem s_say (x y z : Int32) : Sim (f_Hal_say x y z) (f_Mod_say x y z) := by
  intro M ⟨T, hA, hI, hS, hT, hF⟩
  obtain ⟨o, om, g⟩ := id hA
  obtain ⟨v, T', g', e1, e2, e3, -, hc, hm⟩ := sayS g x y z
  obtain ⟨M1, p1, p2, p3⟩ := hc M o
  obtain ⟨M2, q1, q2, q3⟩ := hm M1 (om.frc p3 (by decide))
  refine ⟨v, M1, M2, ?_, q1, Inv.to hI hS hT hF ((kp_lo p3 (by decide) (by decide)).tr (kp_say q3)) (fun a k h => ?_) ⟨p2.low (fun a ha => funext fun k => q3 a k (Or.inl (by omega))), q2, g'⟩⟩
  · unfold f_Hal_say
    rw [p1, e_bnd2]
  · rcases chg_lo h with q | q
    · exact e1 a k q
    · exact e2 a k q
theorem on_cnt {T : Tn} {M : Mem} (o : On T M) {k : Nat} (hk : k ≤ T 14 0) : On (tset T 14 0 k) (upd2 M 14 0 (nI k)) := by
  have eM : ∀ a, a ≠ 14 → upd2 M 14 0 (nI k) a = M a := fun a ha => u_ne ha
  have eT : ∀ a, a ≠ 14 → tset T 14 0 k a = T a := fun a ha => funext fun j => ts_ne ha
  refine ⟨fun j hj => ?_, fun j hj => ?_, fun j hj => ?_, ?_, fun a a1 a2 j hj => ?_, ?_, fun a a1 a2 j hj => ?_, ?_, fun a a1 a2 j hj => ?_⟩
  · rw [eM _ (by decide), eT _ (by decide)]; exact o.s hj
  · rw [eM _ (by decide), eT _ (by decide)]; exact o.c hj
  · rw [eM _ (by decide), eT _ (by decide)]; exact o.p hj
  · rw [eM _ (by decide), eT _ (by decide)]; exact o.nb
  · rw [eT 4 (by decide)] at hj
    rw [eM _ (by omega), eT _ (by omega)]; exact o.b a1 a2 hj
  · rw [eM _ (by decide), eT _ (by decide)]; exact o.nw
  · rw [eT 10 (by decide)] at hj
    rw [eM _ (by omega), eT _ (by omega)]; exact o.w a1 a2 hj
  · rw [u_eq, ts_eq]
  · rw [ts_eq] at hj
    rw [eM _ (by omega), eT _ (by omega)]; exact o.v a1 a2 (by omega)
theorem onM_cnt {T : Tn} {M : Mem} (o : OnM T M) {k : Nat} (hk : k ≤ T 14 0) : OnM (tset T 14 0 k) (upd2 M 104 88 (nI k)) := by
  refine o.push (fun a j h => ts_ne (by omega)) (fun a j h => ?_) (by rw [u_eq, ts_eq]) (fun i hi => ?_)
  · by_cases e : a = 104
    · subst e; rw [u_nk (by omega)]
    · rw [u_ne e]
  · rw [ts_eq] at hi
    rw [ts_ne (by decide), ts_ne (by decide), ts_ne (by decide), u_nk (by omega), u_nk (by omega), u_nk (by omega)]
    exact ⟨o.v0 (by omega), o.v1 (by omega), o.v2 (by omega)⟩
theorem good_cnt {T : Tn} (g : Good T) {k : Nat} (hk : k ≤ T 14 0) : Good (tset T 14 0 k) := by
  have h9 := g.ns
  refine g.push (fun a j h => ts_ne (by omega)) (by rw [ts_eq]; omega) (fun i hi => ?_)
  rw [ts_eq] at hi
  rw [ts_ne (by decide), ts_ne (by decide), ts_ne (by decide)]
  exact g.v (by omega)
theorem s_unsay (x : Int32) : Sim (f_Hal_unsay x) (f_Mod_unsay x) := by
  intro M ⟨T, hA, hI, hS, hT, hF⟩
  obtain ⟨o, om, g⟩ := id hA
  have h9 := g.ns
  rcases wi x (m := T 14 0) (by omega) with ⟨k, hk, rfl, f1, f2⟩ | ⟨f1, f2, -⟩
  · have om1 : OnM T (upd2 M 14 0 (nI k)) := om.frc (Fr.rf.set (lo := 14) (hi := 14) (by decide) (by decide)) (by decide)
    refine ⟨nI (T 14 0), upd2 M 14 0 (nI k), upd2 (upd2 M 14 0 (nI k)) 104 88 (nI k), ?_, ?_, Inv.to (T := T) hI hS hT hF ((Kp.rf.set (by omega)).set (by omega)) (chg_ts rfl) ⟨(on_cnt o hk).fr (Fr.rf.set (lo := 104) (hi := 104) (by decide) (by decide)) (by decide), onM_cnt om1 hk, good_cnt g hk⟩⟩
    · simp (disch := omega) only [e_bnd, e_bnd2, e_set, e_cpy, e_nmI, e_nmL, e_ckn, e_ckB0, e_ckB1, l0, l1, l2, l3, l4, l5, l6, l7, l8, l9, l10, l11, l12, l13, l14, l15, l16, l17, l18, l19, l20, l21, l22, l24, l25, l32, l39, l40, l41, l48, l50, l56, l57, l59, l60, l72, l79, l80, l81, l82, l88, l89, l97, l100, l122, l124, l125, l160, l255, l312, l320, l375, l1000, nI_ltI, nI_leI, nI_eq, nI_add, pk_mul, e_ix, e_neg, if_true, if_false, if_pos, if_neg, f_Hal_unsay, o.ns, f1]
    · simp (disch := omega) only [e_bnd, e_bnd2, e_set, e_cpy, e_nmI, e_nmL, e_ckn, e_ckB0, e_ckB1, l0, l1, l2, l3, l4, l5, l6, l7, l8, l9, l10, l11, l12, l13, l14, l15, l16, l17, l18, l19, l20, l21, l22, l24, l25, l32, l39, l40, l41, l48, l50, l56, l57, l59, l60, l72, l79, l80, l81, l82, l88, l89, l97, l100, l122, l124, l125, l160, l255, l312, l320, l375, l1000, nI_ltI, nI_leI, nI_eq, nI_add, pk_mul, e_ix, e_neg, if_true, if_false, if_pos, if_neg, f_Mod_unsay, ix_88, om1.ns, f2]
  · refine ⟨-1, M, M, ?_, ?_, ⟨T, hA, hI, hS, hT, hF⟩⟩
    · simp (disch := omega) only [e_bnd, e_bnd2, e_set, e_cpy, e_nmI, e_nmL, e_ckn, e_ckB0, e_ckB1, l0, l1, l2, l3, l4, l5, l6, l7, l8, l9, l10, l11, l12, l13, l14, l15, l16, l17, l18, l19, l20, l21, l22, l24, l25, l32, l39, l40, l41, l48, l50, l56, l57, l59, l60, l72, l79, l80, l81, l82, l88, l89, l97, l100, l122, l124, l125, l160, l255, l312, l320, l375, l1000, nI_ltI, nI_leI, nI_eq, nI_add, pk_mul, e_ix, e_neg, if_true, if_false, if_pos, if_neg, f_Hal_unsay, o.ns, f1]
    · simp (disch := omega) only [e_bnd, e_bnd2, e_set, e_cpy, e_nmI, e_nmL, e_ckn, e_ckB0, e_ckB1, l0, l1, l2, l3, l4, l5, l6, l7, l8, l9, l10, l11, l12, l13, l14, l15, l16, l17, l18, l19, l20, l21, l22, l24, l25, l32, l39, l40, l41, l48, l50, l56, l57, l59, l60, l72, l79, l80, l81, l82, l88, l89, l97, l100, l122, l124, l125, l160, l255, l312, l320, l375, l1000, nI_ltI, nI_leI, nI_eq, nI_add, pk_mul, e_ix, e_neg, if_true, if_false, if_pos, if_neg, f_Mod_unsay, ix_88, om.ns, f2]
