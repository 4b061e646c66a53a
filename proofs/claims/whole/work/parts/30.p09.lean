/-! pure: what is changed; a whisper's way -/
theorem w_yes {k m : Nat} (h : k ≤ m) (hm : m < 2147483648) : f_Hal_within (nI k) (nI 0) (nI m) = some (nI 1) := by
  rw [w_in, if_pos]
  rw [nI_leI (by omega) (by omega), nI_leI (by omega) (by omega)]
  omega
theorem pw {T : Tn} {M : Mem} {a k v i j : Nat} (h : M i j = nI (T i j)) : upd2 M a k (nI v) i j = nI (tset T a k v i j) := by
  by_cases e : i = a ∧ j = k
  · obtain ⟨rfl, rfl⟩ := e
    rw [u_eq, ts_eq]
  · rw [show upd2 M a k (nI v) i j = M i j from if_neg e, show tset T a k v i j = T i j from if_neg e, h]
theorem On.tset {T : Tn} {M : Mem} {a k v : Nat} (o : On T M) (h : a = 1 ∨ a = 2 ∨ a = 3) : On (tset T a k v) (upd2 M a k (nI v)) := by
  have e4 : Jvm.Pilot.CHallAnswersLaw_law_r2429_030bd8.tset T a k v 4 = T 4 := funext fun j => ts_ne (by omega)
  have e10 : Jvm.Pilot.CHallAnswersLaw_law_r2429_030bd8.tset T a k v 10 = T 10 := funext fun j => ts_ne (by omega)
  have e14 : Jvm.Pilot.CHallAnswersLaw_law_r2429_030bd8.tset T a k v 14 = T 14 := funext fun j => ts_ne (by omega)
  refine ⟨fun j hj => pw (o.s hj), fun j hj => pw (o.c hj), fun j hj => pw (o.p hj), pw o.nb, fun b h1 h2 j hj => pw (o.b h1 h2 ?_), pw o.nw, fun b h1 h2 j hj => pw (o.w h1 h2 ?_), pw o.ns, fun b h1 h2 j hj => pw (o.v h1 h2 ?_)⟩
  · rw [e4] at hj; exact hj
  · rw [e10] at hj; exact hj
  · rw [e14] at hj; exact hj
theorem qw {T : Tn} {M : Mem} {a k v i j A K : Nat} (h : M A K = nI (T i j)) (hq : (A = 104 ∧ K = k) ↔ (i = a ∧ j = v)) {x : Nat} : upd2 M 104 k (nI x) A K = nI (tset T a v x i j) := by
  by_cases e : i = a ∧ j = v
  · obtain ⟨e1, e2⟩ := hq.mpr e
    subst e1; subst e2
    obtain ⟨rfl, rfl⟩ := e
    rw [u_eq, ts_eq]
  · rw [show upd2 M 104 k (nI x) A K = M A K from if_neg (fun q => e (hq.mp q)), show tset T a v x i j = T i j from if_neg e, h]
/-- the reference keeps warm, cells and seats in one row: place k of it is T a v -/
theorem OnM.tset {T : Tn} {M : Mem} {a k v x : Nat} (o : OnM T M) (h : (a = 1 ∧ v = 4 ∧ k = 81) ∨ (a = 2 ∧ v = k ∧ k < 81) ∨ (a = 3 ∧ k = 82 + v ∧ v < 6)) : OnM (tset T a v x) (upd2 M 104 k (nI x)) := by
  have en : ∀ b, 4 ≤ b → Jvm.Pilot.CHallAnswersLaw_law_r2429_030bd8.tset T a v x b = T b := fun b hb => funext fun j => ts_ne (by omega)
  have e1 : ∀ j, j ≠ 4 → Jvm.Pilot.CHallAnswersLaw_law_r2429_030bd8.tset T a v x 1 j = T 1 j := fun j hj => if_neg (by omega)
  have eM : ∀ b, b ≠ 104 → upd2 M 104 k (nI x) b = M b := fun b hb => u_ne hb
  refine ⟨⟨?_, ?_, ?_, ?_, qw o.s4 (by omega), ?_⟩, fun c hc => qw (o.c hc) (by omega), fun p hp => qw (o.p hp) (by omega), ?_, fun b hb => ?_, ?_, fun i hi => ?_, ?_, fun i hi => ⟨?_, ?_, ?_⟩⟩
  · rw [eM _ (by decide), e1 _ (by decide)]; exact o.s0
  · rw [eM _ (by decide), e1 _ (by decide)]; exact o.s1
  · rw [eM _ (by decide), e1 _ (by decide)]; exact o.s2
  · rw [eM _ (by decide), e1 _ (by decide)]; exact o.s3
  · rw [eM _ (by decide), e1 _ (by decide)]; exact o.s5
  · rw [eM _ (by decide), en _ (by decide)]; exact o.nb
  · rw [en 4 (by decide)] at hb
    rw [eM _ (by decide), en _ (by decide), en _ (by decide), en _ (by decide), en _ (by decide), en _ (by decide)]
    exact ⟨o.b0 hb, o.b1 hb, o.b2 hb, o.b3 hb⟩
  · rw [eM _ (by decide), en _ (by decide)]; exact o.nw
  · rw [en 10 (by decide)] at hi
    rw [eM _ (by decide), en _ (by decide), en _ (by decide), en _ (by decide)]
    exact ⟨o.w0 hi, o.w1 hi, o.w2 hi⟩
  · rw [en _ (by decide), u_nk (by omega)]; exact o.ns
  · rw [en 14 (by decide)] at hi
    rw [en _ (by decide), u_nk (by omega)]; exact o.v0 hi
  · rw [en 14 (by decide)] at hi
    rw [en _ (by decide), u_nk (by omega)]; exact o.v1 hi
  · rw [en 14 (by decide)] at hi
    rw [en _ (by decide), u_nk (by omega)]; exact o.v2 hi
theorem Good.setW {T : Tn} (g : Good T) {v : Nat} (hv : v ≤ 9) : Good (tset T 1 4 v) := ⟨g.w, g.h, g.fade, g.bounce, hv, g.n, fun c hc => g.c hc, fun p hp => g.p hp, fun p q hp hq e => g.pi hp hq e, fun b hb => g.b hb, ⟨g.nw, fun i hi => g.wi hi⟩, ⟨g.ns, fun i hi => g.v hi⟩⟩
theorem Good.setC {T : Tn} (g : Good T) {c v : Nat} (hv : v ≤ 2) : Good (tset T 2 c v) := ⟨g.w, g.h, g.fade, g.bounce, g.warm, g.n, fun d hd => by
  by_cases e : d = c
  · subst e; rw [ts_eq]; exact hv
  · rw [ts_nk e]; exact g.c hd, fun p hp => g.p hp, fun p q hp hq e => g.pi hp hq e, fun b hb => g.b hb, ⟨g.nw, fun i hi => g.wi hi⟩, ⟨g.ns, fun i hi => g.v hi⟩⟩
theorem chg_ts {T : Tn} {a k v : Nat} (h : chg a k = true) : ∀ a' k', chg a' k' = false → tset T a k v a' k' = T a' k' := fun a' k' h2 => if_neg (fun e => by
  obtain ⟨rfl, rfl⟩ := e
  rw [h] at h2
  exact absurd h2 (by decide))
theorem ts_self {T : Tn} {a k : Nat} : tset T a k (T a k) = T := by
  funext i j
  by_cases e : i = a ∧ j = k
  · obtain ⟨rfl, rfl⟩ := e; exact ts_eq
  · exact if_neg e
theorem ts_ts {T : Tn} {a k v w : Nat} : tset (tset T a k v) a k w = tset T a k w := by
  funext i j
  by_cases e : i = a ∧ j = k
  · obtain ⟨rfl, rfl⟩ := e; rw [ts_eq, ts_eq]
  · show (if _ then _ else _) = (if _ then _ else _)
    rw [if_neg e, if_neg e]
    exact if_neg e
theorem s_warm (x : Int32) : Sim (f_Hal_warm x) (f_Mod_warm x) := by
  intro M ⟨T, hA, hI, hS, hT, hF⟩
  obtain ⟨o, om, g⟩ := hA
  have e9 : f_Mod_in x.toInt64 0 9 = f_Mod_in x.toInt64 0 (nI 9).toInt64 := rfl
  rcases wi x (m := 9) (by decide) with ⟨k, hk, rfl, h1, h2⟩ | ⟨h1, h2, -⟩
  · have om1 : OnM T (upd2 M 1 4 (nI k)) := om.frc (Fr.rf.set (lo := 1) (hi := 1) (by decide) (by decide)) (by decide)
    have o2 : On (tset T 1 4 k) (upd2 (upd2 M 1 4 (nI k)) 104 81 (nI k)) := (On.tset o (Or.inl rfl)).fr (Fr.rf.set (lo := 104) (hi := 104) (by decide) (by decide)) (by decide)
    refine ⟨nI (T 1 4), upd2 M 1 4 (nI k), upd2 (upd2 M 1 4 (nI k)) 104 81 (nI k), ?_, ?_, Inv.to (T := T) hI hS hT hF ((Kp.rf.set (by omega)).set (by omega)) (chg_ts (by decide)) ⟨o2, om1.tset (Or.inl ⟨rfl, rfl, rfl⟩), g.setW (by omega)⟩⟩
    · simp (disch := omega) only [e_bnd, e_bnd2, e_set, e_cpy, e_nmI, e_nmL, e_ckn, e_ckB0, e_ckB1, l0, l1, l2, l3, l4, l5, l6, l7, l8, l9, l10, l11, l12, l13, l14, l15, l16, l17, l18, l19, l20, l21, l22, l24, l25, l32, l39, l40, l41, l48, l50, l56, l57, l59, l60, l72, l79, l80, l81, l82, l88, l89, l97, l100, l122, l124, l125, l160, l255, l312, l320, l375, l1000, nI_ltI, nI_leI, nI_eq, nI_add, pk_mul, e_ix, e_neg, if_true, if_false, if_pos, if_neg, f_Hal_warm, h1, o.s4]
    · simp (disch := omega) only [e_bnd, e_bnd2, e_set, e_cpy, e_nmI, e_nmL, e_ckn, e_ckB0, e_ckB1, l0, l1, l2, l3, l4, l5, l6, l7, l8, l9, l10, l11, l12, l13, l14, l15, l16, l17, l18, l19, l20, l21, l22, l24, l25, l32, l39, l40, l41, l48, l50, l56, l57, l59, l60, l72, l79, l80, l81, l82, l88, l89, l97, l100, l122, l124, l125, l160, l255, l312, l320, l375, l1000, nI_ltI, nI_leI, nI_eq, nI_add, pk_mul, e_ix, e_neg, if_true, if_false, if_pos, if_neg, f_Mod_warm, e9, h2, ix_81, om1.s4]
  · refine ⟨-1, M, M, ?_, ?_, ⟨T, ⟨o, om, g⟩, hI, hS, hT, hF⟩⟩
    · simp (disch := omega) only [e_bnd, e_bnd2, e_set, e_cpy, e_nmI, e_nmL, e_ckn, e_ckB0, e_ckB1, l0, l1, l2, l3, l4, l5, l6, l7, l8, l9, l10, l11, l12, l13, l14, l15, l16, l17, l18, l19, l20, l21, l22, l24, l25, l32, l39, l40, l41, l48, l50, l56, l57, l59, l60, l72, l79, l80, l81, l82, l88, l89, l97, l100, l122, l124, l125, l160, l255, l312, l320, l375, l1000, nI_ltI, nI_leI, nI_eq, nI_add, pk_mul, e_ix, e_neg, if_true, if_false, if_pos, if_neg, f_Hal_warm, h1]
    · simp (disch := omega) only [e_bnd, e_bnd2, e_set, e_cpy, e_nmI, e_nmL, e_ckn, e_ckB0, e_ckB1, l0, l1, l2, l3, l4, l5, l6, l7, l8, l9, l10, l11, l12, l13, l14, l15, l16, l17, l18, l19, l20, l21, l22, l24, l25, l32, l39, l40, l41, l48, l50, l56, l57, l59, l60, l72, l79, l80, l81, l82, l88, l89, l97, l100, l122, l124, l125, l160, l255, l312, l320, l375, l1000, nI_ltI, nI_leI, nI_eq, nI_add, pk_mul, e_ix, e_neg, if_true, if_false, if_pos, if_neg, f_Mod_warm, e9, h2]
/-- whether a bench was put on cell c -/
def anyB (T : Tn) (c : Nat) : Nat → Bool
  | 0 => false
  | n + 1 => anyB T c n || decide (9 * T 6 n + T 5 n = c)
theorem anyB_t {T : Tn} {c : Nat} : ∀ {n b : Nat}, b < n → 9 * T 6 b + T 5 b = c → anyB T c n = true
  | n + 1, b, h, e => by
    unfold anyB
    by_cases q : b = n
    · subst q; simp [e]
    · rw [anyB_t (show b < n by omega) e]; rfl
theorem anyB_f {T : Tn} {c : Nat} : ∀ {n : Nat}, (∀ b, b < n → 9 * T 6 b + T 5 b ≠ c) → anyB T c n = false
  | 0, _ => rfl
  | n + 1, h => by
    unfold anyB
    rw [anyB_f (fun b hb => h b (by omega))]
    simp [h n (by omega)]
theorem c_anyL {T : Tn} {M : Mem} (o : On T M) (g : Good T) {c : Nat} (hc : c < 81) : ∀ (m n k : Nat), k + m = T 4 0 → m < n → (∀ b, b < k → 9 * T 6 b + T 5 b ≠ c) → f_Ben_anyPutOn_L2 4 M n (nI c) (nI k) = some (nI (if anyB T c (T 4 0) = true then 1 else 0)) := by
  have h9 := g.n
  have hw := g.w
  have hh := g.h
  intro m
  induction m with
  | zero =>
    intro n k hk hn hf
    obtain ⟨n, rfl⟩ : ∃ z, n = z + 1 := ⟨n - 1, by omega⟩
    have e : k = T 4 0 := by omega
    subst e
    rw [f_Ben_anyPutOn_L2, o.nb, if_pos (by rw [nI_leI (by omega) (by omega)]; omega), anyB_f hf]
    rfl
  | succ m ih =>
    intro n k hk hn hf
    obtain ⟨n, rfl⟩ : ∃ z, n = z + 1 := ⟨n - 1, by omega⟩
    have hb : k < T 4 0 := by omega
    have hg := g.b hb
    rw [f_Ben_anyPutOn_L2]
    by_cases e : 9 * T 6 k + T 5 k = c
    · rw [anyB_t hb e]
      simp (disch := omega) only [e_bnd, e_bnd2, e_set, e_cpy, e_nmI, e_nmL, e_ckn, e_ckB0, e_ckB1, l0, l1, l2, l3, l4, l5, l6, l7, l8, l9, l10, l11, l12, l13, l14, l15, l16, l17, l18, l19, l20, l21, l22, l24, l25, l32, l39, l40, l41, l48, l50, l56, l57, l59, l60, l72, l79, l80, l81, l82, l88, l89, l97, l100, l122, l124, l125, l160, l255, l312, l320, l375, l1000, nI_ltI, nI_leI, nI_eq, nI_add, pk_mul, e_ix, e_neg, if_true, if_false, if_pos, if_neg, o.nb, Nat.reduceAdd, o.b5 hb, o.b6 hb]
    · simp (disch := omega) only [e_bnd, e_bnd2, e_set, e_cpy, e_nmI, e_nmL, e_ckn, e_ckB0, e_ckB1, l0, l1, l2, l3, l4, l5, l6, l7, l8, l9, l10, l11, l12, l13, l14, l15, l16, l17, l18, l19, l20, l21, l22, l24, l25, l32, l39, l40, l41, l48, l50, l56, l57, l59, l60, l72, l79, l80, l81, l82, l88, l89, l97, l100, l122, l124, l125, l160, l255, l312, l320, l375, l1000, nI_ltI, nI_leI, nI_eq, nI_add, pk_mul, e_ix, e_neg, if_true, if_false, if_pos, if_neg, o.nb, Nat.reduceAdd, o.b5 hb, o.b6 hb]
      refine Eq.trans (ih n (k + 1) (by omega) (by omega) (fun b h => ?_)) ?_
      · by_cases q : b = k
        · subst q; exact e
        · exact hf b (by omega)
      · rfl
theorem c_any {T : Tn} {M : Mem} (o : On T M) (g : Good T) {c : Nat} (hc : c < 81) : f_Ben_anyPutOn 4 M (nI c) = some (nI (if anyB T c (T 4 0) = true then 1 else 0)) := by
  have h9 := g.n
  exact c_anyL o g hc (T 4 0) 1000 0 (by omega) (by omega) (fun b hb => by omega)
theorem m_hangL {T : Tn} {M : Mem} (o : OnM T M) (g : Good T) {c w : Nat} (hc : c < 81) (hw : w ≤ 2) : ∀ (m n k : Nat), k + m = T 4 0 → m < n → (∀ b, b < k → 9 * T 6 b + T 5 b ≠ c ∨ w = 0) → f_Mod_hang_L24 n (nI c) (nI w) (nI k) M = if w ≠ 0 ∧ anyB T c (T 4 0) = true then some (-2, M) else some (nI (T 2 c), upd2 M 104 c (nI w)) := by
  have h9 := g.n
  have hw := g.w
  have hh := g.h
  intro m
  induction m with
  | zero =>
    intro n k hk hn hf
    obtain ⟨n, rfl⟩ : ∃ z, n = z + 1 := ⟨n - 1, by omega⟩
    have e : k = T 4 0 := by omega
    subst e
    rw [f_Mod_hang_L24, o.nb, if_pos (by rw [nI_leI (by omega) (by omega)]; omega), e_ckn (by omega) (by decide), e_nmI, e_ckn (by omega) (by decide), e_set, show ix (nI c) = c from e_ix (by omega), o.c hc, if_neg]
    intro ⟨h1, h2⟩
    rw [anyB_f (fun b hb => (hf b hb).resolve_right h1)] at h2
    exact absurd h2 (by decide)
  | succ m ih =>
    intro n k hk hn hf
    obtain ⟨n, rfl⟩ : ∃ z, n = z + 1 := ⟨n - 1, by omega⟩
    have hb : k < T 4 0 := by omega
    have hg := g.b hb
    rw [f_Mod_hang_L24]
    by_cases e : 9 * T 6 k + T 5 k = c
    · by_cases w0 : w = 0
      · simp (disch := omega) only [e_bnd, e_bnd2, e_set, e_cpy, e_nmI, e_nmL, e_ckn, e_ckB0, e_ckB1, l0, l1, l2, l3, l4, l5, l6, l7, l8, l9, l10, l11, l12, l13, l14, l15, l16, l17, l18, l19, l20, l21, l22, l24, l25, l32, l39, l40, l41, l48, l50, l56, l57, l59, l60, l72, l79, l80, l81, l82, l88, l89, l97, l100, l122, l124, l125, l160, l255, l312, l320, l375, l1000, nI_ltI, nI_leI, nI_eq, nI_add, pk_mul, e_ix, e_neg, if_true, if_false, if_pos, if_neg, o.nb, o.b0 hb]
        refine Eq.trans (ih n (k + 1) (by omega) (by omega) (fun b h => Or.inr w0)) ?_
        simp (disch := omega) only [e_bnd, e_bnd2, e_set, e_cpy, e_nmI, e_nmL, e_ckn, e_ckB0, e_ckB1, l0, l1, l2, l3, l4, l5, l6, l7, l8, l9, l10, l11, l12, l13, l14, l15, l16, l17, l18, l19, l20, l21, l22, l24, l25, l32, l39, l40, l41, l48, l50, l56, l57, l59, l60, l72, l79, l80, l81, l82, l88, l89, l97, l100, l122, l124, l125, l160, l255, l312, l320, l375, l1000, nI_ltI, nI_leI, nI_eq, nI_add, pk_mul, e_ix, e_neg, if_true, if_false, if_pos, if_neg]
      · rw [if_pos (show w ≠ 0 ∧ anyB T c (T 4 0) = true from ⟨w0, anyB_t hb e⟩)]
        simp (disch := omega) only [e_bnd, e_bnd2, e_set, e_cpy, e_nmI, e_nmL, e_ckn, e_ckB0, e_ckB1, l0, l1, l2, l3, l4, l5, l6, l7, l8, l9, l10, l11, l12, l13, l14, l15, l16, l17, l18, l19, l20, l21, l22, l24, l25, l32, l39, l40, l41, l48, l50, l56, l57, l59, l60, l72, l79, l80, l81, l82, l88, l89, l97, l100, l122, l124, l125, l160, l255, l312, l320, l375, l1000, nI_ltI, nI_leI, nI_eq, nI_add, pk_mul, e_ix, e_neg, if_true, if_false, if_pos, if_neg, o.nb, o.b0 hb]
    · simp (disch := omega) only [e_bnd, e_bnd2, e_set, e_cpy, e_nmI, e_nmL, e_ckn, e_ckB0, e_ckB1, l0, l1, l2, l3, l4, l5, l6, l7, l8, l9, l10, l11, l12, l13, l14, l15, l16, l17, l18, l19, l20, l21, l22, l24, l25, l32, l39, l40, l41, l48, l50, l56, l57, l59, l60, l72, l79, l80, l81, l82, l88, l89, l97, l100, l122, l124, l125, l160, l255, l312, l320, l375, l1000, nI_ltI, nI_leI, nI_eq, nI_add, pk_mul, e_ix, e_neg, if_true, if_false, if_pos, if_neg, o.nb, o.b0 hb]
      refine Eq.trans (ih n (k + 1) (by omega) (by omega) (fun b h => ?_)) ?_
      · by_cases q : b = k
        · subst q; exact Or.inl e
        · exact hf b (by omega)
      · simp (disch := omega) only [e_bnd, e_bnd2, e_set, e_cpy, e_nmI, e_nmL, e_ckn, e_ckB0, e_ckB1, l0, l1, l2, l3, l4, l5, l6, l7, l8, l9, l10, l11, l12, l13, l14, l15, l16, l17, l18, l19, l20, l21, l22, l24, l25, l32, l39, l40, l41, l48, l50, l56, l57, l59, l60, l72, l79, l80, l81, l82, l88, l89, l97, l100, l122, l124, l125, l160, l255, l312, l320, l375, l1000, nI_ltI, nI_leI, nI_eq, nI_add, pk_mul, e_ix, e_neg, if_true, if_false, if_pos, if_neg]
theorem s_hang (x y : Int32) : Sim (f_Hal_hang x y) (f_Mod_hang x y) := by
  intro M ⟨T, hA, hI, hS, hT, hF⟩
  obtain ⟨o, om, g⟩ := hA
  have h9 := g.n
  have e2 : f_Mod_in y.toInt64 0 2 = f_Mod_in y.toInt64 0 (nI 2).toInt64 := rfl
  rcases a_cell g x with ⟨c, hc, rfl, a1, a2⟩ | ⟨a1, a2⟩
  · have hc1 := hc.1
    rcases wi y (m := 2) (by decide) with ⟨w, hw, rfl, h1, h2⟩ | ⟨h1, h2, -⟩
    · by_cases hq : w ≠ 0 ∧ anyB T c (T 4 0) = true
      · refine ⟨-2, M, M, ?_, ?_, ⟨T, ⟨o, om, g⟩, hI, hS, hT, hF⟩⟩
        · have q1 := hq.1
          simp (disch := omega) only [e_bnd, e_bnd2, e_set, e_cpy, e_nmI, e_nmL, e_ckn, e_ckB0, e_ckB1, l0, l1, l2, l3, l4, l5, l6, l7, l8, l9, l10, l11, l12, l13, l14, l15, l16, l17, l18, l19, l20, l21, l22, l24, l25, l32, l39, l40, l41, l48, l50, l56, l57, l59, l60, l72, l79, l80, l81, l82, l88, l89, l97, l100, l122, l124, l125, l160, l255, l312, l320, l375, l1000, nI_ltI, nI_leI, nI_eq, nI_add, pk_mul, e_ix, e_neg, if_true, if_false, if_pos, if_neg, f_Hal_hang, a1 M o, h1, c_any o g hc1, hq.2]
        · have e := m_hangL om g hc1 hw (T 4 0) 1000 0 (by omega) (by omega) (fun b hb => by omega)
          rw [if_pos hq] at e
          unfold f_Mod_hang
          rw [a2 M om, e_bnd, if_neg (by decide), e2, h2, e_bnd, if_neg (by decide)]
          exact e
      · have om1 : OnM T (upd2 M 2 c (nI w)) := om.frc (Fr.rf.set (lo := 2) (hi := 2) (by decide) (by decide)) (by decide)
        have o2 : On (tset T 2 c w) (upd2 (upd2 M 2 c (nI w)) 104 c (nI w)) := (On.tset o (Or.inr (Or.inl rfl))).fr (Fr.rf.set (lo := 104) (hi := 104) (by decide) (by decide)) (by decide)
        refine ⟨nI (T 2 c), upd2 M 2 c (nI w), upd2 (upd2 M 2 c (nI w)) 104 c (nI w), ?_, ?_, Inv.to (T := T) hI hS hT hF ((Kp.rf.set (by omega)).set (by omega)) (chg_ts rfl) ⟨o2, om1.tset (Or.inr (Or.inl ⟨rfl, rfl, hc1⟩)), g.setC hw⟩⟩
        · by_cases w0 : w = 0
          · simp (disch := omega) only [e_bnd, e_bnd2, e_set, e_cpy, e_nmI, e_nmL, e_ckn, e_ckB0, e_ckB1, l0, l1, l2, l3, l4, l5, l6, l7, l8, l9, l10, l11, l12, l13, l14, l15, l16, l17, l18, l19, l20, l21, l22, l24, l25, l32, l39, l40, l41, l48, l50, l56, l57, l59, l60, l72, l79, l80, l81, l82, l88, l89, l97, l100, l122, l124, l125, l160, l255, l312, l320, l375, l1000, nI_ltI, nI_leI, nI_eq, nI_add, pk_mul, e_ix, e_neg, if_true, if_false, if_pos, if_neg, f_Hal_hang, f_Hal_hang_J43, f_Tol_setState, a1 M o, h1, c_state o hc1, Nat.reduceAdd]
          · have q2 : ¬ anyB T c (T 4 0) = true := fun e => hq ⟨w0, e⟩
            have q3 : anyB T c (T 4 0) = false := Bool.eq_false_iff.mpr q2
            simp (disch := omega) only [e_bnd, e_bnd2, e_set, e_cpy, e_nmI, e_nmL, e_ckn, e_ckB0, e_ckB1, l0, l1, l2, l3, l4, l5, l6, l7, l8, l9, l10, l11, l12, l13, l14, l15, l16, l17, l18, l19, l20, l21, l22, l24, l25, l32, l39, l40, l41, l48, l50, l56, l57, l59, l60, l72, l79, l80, l81, l82, l88, l89, l97, l100, l122, l124, l125, l160, l255, l312, l320, l375, l1000, nI_ltI, nI_leI, nI_eq, nI_add, pk_mul, e_ix, e_neg, if_true, if_false, if_pos, if_neg, f_Hal_hang, f_Hal_hang_J43, f_Tol_setState, a1 M o, h1, c_state o hc1, Nat.reduceAdd, c_any o g hc1, q3, Bool.false_eq_true]
        · have e := m_hangL om1 g hc1 hw (T 4 0) 1000 0 (by omega) (by omega) (fun b hb => by omega)
          rw [if_neg hq] at e
          unfold f_Mod_hang
          rw [a2 _ om1, e_bnd, if_neg (by decide), e2, h2, e_bnd, if_neg (by decide)]
          exact e
    · refine ⟨-1, M, M, ?_, ?_, ⟨T, ⟨o, om, g⟩, hI, hS, hT, hF⟩⟩
      · simp (disch := omega) only [e_bnd, e_bnd2, e_set, e_cpy, e_nmI, e_nmL, e_ckn, e_ckB0, e_ckB1, l0, l1, l2, l3, l4, l5, l6, l7, l8, l9, l10, l11, l12, l13, l14, l15, l16, l17, l18, l19, l20, l21, l22, l24, l25, l32, l39, l40, l41, l48, l50, l56, l57, l59, l60, l72, l79, l80, l81, l82, l88, l89, l97, l100, l122, l124, l125, l160, l255, l312, l320, l375, l1000, nI_ltI, nI_leI, nI_eq, nI_add, pk_mul, e_ix, e_neg, if_true, if_false, if_pos, if_neg, f_Hal_hang, a1 M o, h1]
      · simp (disch := omega) only [e_bnd, e_bnd2, e_set, e_cpy, e_nmI, e_nmL, e_ckn, e_ckB0, e_ckB1, l0, l1, l2, l3, l4, l5, l6, l7, l8, l9, l10, l11, l12, l13, l14, l15, l16, l17, l18, l19, l20, l21, l22, l24, l25, l32, l39, l40, l41, l48, l50, l56, l57, l59, l60, l72, l79, l80, l81, l82, l88, l89, l97, l100, l122, l124, l125, l160, l255, l312, l320, l375, l1000, nI_ltI, nI_leI, nI_eq, nI_add, pk_mul, e_ix, e_neg, if_true, if_false, if_pos, if_neg, f_Mod_hang, a2 M om, e2, h2]
  · refine ⟨-1, M, M, ?_, ?_, ⟨T, ⟨o, om, g⟩, hI, hS, hT, hF⟩⟩
    · simp (disch := omega) only [e_bnd, e_bnd2, e_set, e_cpy, e_nmI, e_nmL, e_ckn, e_ckB0, e_ckB1, l0, l1, l2, l3, l4, l5, l6, l7, l8, l9, l10, l11, l12, l13, l14, l15, l16, l17, l18, l19, l20, l21, l22, l24, l25, l32, l39, l40, l41, l48, l50, l56, l57, l59, l60, l72, l79, l80, l81, l82, l88, l89, l97, l100, l122, l124, l125, l160, l255, l312, l320, l375, l1000, nI_ltI, nI_leI, nI_eq, nI_add, pk_mul, e_ix, e_neg, if_true, if_false, if_pos, if_neg, f_Hal_hang, a1 M o]
    · simp (disch := omega) only [e_bnd, e_bnd2, e_set, e_cpy, e_nmI, e_nmL, e_ckn, e_ckB0, e_ckB1, l0, l1, l2, l3, l4, l5, l6, l7, l8, l9, l10, l11, l12, l13, l14, l15, l16, l17, l18, l19, l20, l21, l22, l24, l25, l32, l39, l40, l41, l48, l50, l56, l57, l59, l60, l72, l79, l80, l81, l82, l88, l89, l97, l100, l122, l124, l125, l160, l255, l312, l320, l375, l1000, nI_ltI, nI_leI, nI_eq, nI_add, pk_mul, e_ix, e_neg, if_true, if_false, if_pos, if_neg, f_Mod_hang, a2 M om]

theorem s_sit (x y : Int32) : Sim (f_Hal_sit x y) (f_Mod_sit x y) := by
  intro M ⟨T, hA, hI, hS, hT, hF⟩
  obtain ⟨o, om, g⟩ := hA
  have h9 := g.n
  rcases a_one g x with ⟨p, hp, rfl, a1, a2⟩ | ⟨a1, a2⟩
  · rcases a_bench g y with ⟨b, hb, rfl, b1, b2⟩ | ⟨b1, b2⟩
    · have hpT := g.p hp
      obtain ⟨w, hw1, hw2⟩ := sitw o g hb
      have c1 := c_seat o g hp
      rcases hw2 with ⟨q, hq, eq, rfl⟩ | ⟨hn, rfl⟩
      · have hw3 : ∀ N, OnM T N → f_Mod_whoOn N (nI b) = some (nI q) := fun N oN => m_who T N oN g hb (Or.inl ⟨q, hq, eq, rfl⟩)
        have M1d : ∃ M1, M1 = upd2 (upd2 M 3 q (nI (T 3 p))) 3 p (nI b) := ⟨_, rfl⟩
        obtain ⟨M1, hM1⟩ := M1d
        have o1 : On (tset (tset T 3 q (T 3 p)) 3 p b) M1 := by
          rw [hM1]
          exact On.tset (On.tset o (Or.inr (Or.inr rfl))) (Or.inr (Or.inr rfl))
        have f1 : Fr 3 3 M M1 := by
          rw [hM1]
          exact (Fr.rf.set (by decide) (by decide)).set (by decide) (by decide)
        have om1 : OnM T M1 := om.frc f1 (by decide)
        have o2 : On (tset (tset T 3 q (T 3 p)) 3 p b) (upd2 (upd2 M1 104 (82 + q) (nI (T 3 p))) 104 (82 + p) (nI b)) := o1.fr ((Fr.rf.set (lo := 104) (hi := 104) (by decide) (by decide)).set (by decide) (by decide)) (by decide)
        have om2 : OnM (tset (tset T 3 q (T 3 p)) 3 p b) (upd2 (upd2 M1 104 (82 + q) (nI (T 3 p))) 104 (82 + p) (nI b)) := (om1.tset (Or.inr (Or.inr ⟨rfl, rfl, by omega⟩))).tset (Or.inr (Or.inr ⟨rfl, rfl, by omega⟩))
        have kk : Kp M (upd2 (upd2 M1 104 (82 + q) (nI (T 3 p))) 104 (82 + p) (nI b)) := by
          rw [hM1]
          exact (((Kp.rf.set (by omega)).set (by omega)).set (by omega)).set (by omega)
        have v3 : ∀ r, tset (tset T 3 q (T 3 p)) 3 p b 3 r = if r = p then b else if r = q then T 3 p else T 3 r := fun r => by
          by_cases r1 : r = p
          · subst r1; rw [ts_eq, if_pos rfl]
          · rw [ts_nk r1, if_neg r1]
            by_cases r2 : r = q
            · subst r2; rw [ts_eq, if_pos rfl]
            · rw [ts_nk r2, if_neg r2]
        have g2 : Good (tset (tset T 3 q (T 3 p)) 3 p b) := ⟨g.w, g.h, g.fade, g.bounce, g.warm, g.n, fun c hc => g.c hc, fun r hr => by
          have := g.p (show r < T 1 5 from hr)
          rw [v3]
          show (if r = p then b else if r = q then T 3 p else T 3 r) < T 4 0
          split
          · exact hb
          · split
            · exact hpT
            · exact this, fun r s hr hs e => by
          rw [v3, v3] at e
          have i1 := g.pi (show r < T 1 5 from hr) (show s < T 1 5 from hs)
          have i2 := g.pi (show r < T 1 5 from hr) hq
          have i3 := g.pi (show s < T 1 5 from hs) hq
          have i4 := g.pi (show r < T 1 5 from hr) hp
          have i5 := g.pi (show s < T 1 5 from hs) hp
          by_cases r1 : r = p
          · rw [if_pos r1] at e
            by_cases s1 : s = p
            · omega
            · rw [if_neg s1] at e
              by_cases s2 : s = q
              · rw [if_pos s2] at e
                have := g.pi hp hq (by omega)
                omega
              · rw [if_neg s2] at e
                have := i3 (by omega)
                omega
          · rw [if_neg r1] at e
            by_cases r2 : r = q
            · rw [if_pos r2] at e
              by_cases s1 : s = p
              · rw [if_pos s1] at e
                have := g.pi hp hq (by omega)
                omega
              · rw [if_neg s1] at e
                by_cases s2 : s = q
                · omega
                · rw [if_neg s2] at e
                  have := i5 (by omega)
                  omega
            · rw [if_neg r2] at e
              by_cases s1 : s = p
              · rw [if_pos s1] at e
                have := i2 (by omega)
                omega
              · rw [if_neg s1] at e
                by_cases s2 : s = q
                · rw [if_pos s2] at e
                  have := i4 (by omega)
                  omega
                · rw [if_neg s2] at e
                  exact i1 e, fun b hb => g.b hb, ⟨g.nw, fun i hi => g.wi hi⟩, ⟨g.ns, fun i hi => g.v hi⟩⟩
        refine ⟨nI (T 3 p), M1, _, ?_, ?_, Inv.to (T := T) hI hS hT hF kk (fun a k h => ?_) ⟨o2, om2, g2⟩⟩
        · rw [hM1]
          have w1 : f_Hal_within (nI q) (nI 0) (nI 5) = some (nI 1) := w_yes (by omega) (by omega)
          have w2 : f_Hal_within (nI p) (nI 0) (nI 5) = some (nI 1) := w_yes (by omega) (by omega)
          simp (disch := omega) only [e_bnd, e_bnd2, e_set, e_cpy, e_nmI, e_nmL, e_ckn, e_ckB0, e_ckB1, l0, l1, l2, l3, l4, l5, l6, l7, l8, l9, l10, l11, l12, l13, l14, l15, l16, l17, l18, l19, l20, l21, l22, l24, l25, l32, l39, l40, l41, l48, l50, l56, l57, l59, l60, l72, l79, l80, l81, l82, l88, l89, l97, l100, l122, l124, l125, l160, l255, l312, l320, l375, l1000, nI_ltI, nI_leI, nI_eq, nI_add, pk_mul, e_ix, e_neg, if_true, if_false, if_pos, if_neg, f_Hal_sit, f_Tol_seatOn, f_Tol_seatOn_J30, a1 M o, b1 M o, hw1, c1, w1, w2, Nat.reduceAdd]
        · simp (disch := omega) only [e_bnd, e_bnd2, e_set, e_cpy, e_nmI, e_nmL, e_ckn, e_ckB0, e_ckB1, l0, l1, l2, l3, l4, l5, l6, l7, l8, l9, l10, l11, l12, l13, l14, l15, l16, l17, l18, l19, l20, l21, l22, l24, l25, l32, l39, l40, l41, l48, l50, l56, l57, l59, l60, l72, l79, l80, l81, l82, l88, l89, l97, l100, l122, l124, l125, l160, l255, l312, l320, l375, l1000, nI_ltI, nI_leI, nI_eq, nI_add, pk_mul, e_ix, e_neg, if_true, if_false, if_pos, if_neg, f_Mod_sit, f_Mod_sit_J53, a2 M1 om1, b2 M1 om1, hw3 M1 om1, om1.p (show p < 6 by omega)]
        · rw [chg_ts (T := tset T 3 q (T 3 p)) (a := 3) (k := p) rfl a k h, chg_ts (a := 3) (k := q) rfl a k h]
      · have hw3 : ∀ N, OnM T N → f_Mod_whoOn N (nI b) = some (-4) := fun N oN => m_who T N oN g hb (Or.inr ⟨hn, rfl⟩)
        have f1 : Fr 3 3 M (upd2 M 3 p (nI b)) := Fr.rf.set (by decide) (by decide)
        have om1 : OnM T (upd2 M 3 p (nI b)) := om.frc f1 (by decide)
        have o2 : On (tset T 3 p b) (upd2 (upd2 M 3 p (nI b)) 104 (82 + p) (nI b)) := (On.tset o (Or.inr (Or.inr rfl))).fr (Fr.rf.set (lo := 104) (hi := 104) (by decide) (by decide)) (by decide)
        have om2 : OnM (tset T 3 p b) (upd2 (upd2 M 3 p (nI b)) 104 (82 + p) (nI b)) := om1.tset (Or.inr (Or.inr ⟨rfl, rfl, by omega⟩))
        have v3 : ∀ r, tset T 3 p b 3 r = if r = p then b else T 3 r := fun r => by
          by_cases r1 : r = p
          · subst r1; rw [ts_eq, if_pos rfl]
          · rw [ts_nk r1, if_neg r1]
        have g2 : Good (tset T 3 p b) := ⟨g.w, g.h, g.fade, g.bounce, g.warm, g.n, fun c hc => g.c hc, fun r hr => by
          have := g.p (show r < T 1 5 from hr)
          rw [v3]
          show (if r = p then b else T 3 r) < T 4 0
          split
          · exact hb
          · exact this, fun r s hr hs e => by
          rw [v3, v3] at e
          have i1 := g.pi (show r < T 1 5 from hr) (show s < T 1 5 from hs)
          have i2 := hn r hr
          have i3 := hn s hs
          by_cases r1 : r = p
          · rw [if_pos r1] at e
            by_cases s1 : s = p
            · omega
            · rw [if_neg s1] at e
              omega
          · rw [if_neg r1] at e
            by_cases s1 : s = p
            · rw [if_pos s1] at e
              omega
            · rw [if_neg s1] at e
              exact i1 e, fun b hb => g.b hb, ⟨g.nw, fun i hi => g.wi hi⟩, ⟨g.ns, fun i hi => g.v hi⟩⟩
        refine ⟨nI (T 3 p), upd2 M 3 p (nI b), _, ?_, ?_, Inv.to (T := T) hI hS hT hF ((Kp.rf.set (by omega)).set (by omega)) (chg_ts rfl) ⟨o2, om2, g2⟩⟩
        · have w1 : f_Hal_within (-nI 4) (nI 0) (nI 5) = some (nI 0) := by decide +kernel
          have w2 : f_Hal_within (nI p) (nI 0) (nI 5) = some (nI 1) := w_yes (by omega) (by omega)
          simp (disch := omega) only [e_bnd, e_bnd2, e_set, e_cpy, e_nmI, e_nmL, e_ckn, e_ckB0, e_ckB1, l0, l1, l2, l3, l4, l5, l6, l7, l8, l9, l10, l11, l12, l13, l14, l15, l16, l17, l18, l19, l20, l21, l22, l24, l25, l32, l39, l40, l41, l48, l50, l56, l57, l59, l60, l72, l79, l80, l81, l82, l88, l89, l97, l100, l122, l124, l125, l160, l255, l312, l320, l375, l1000, nI_ltI, nI_leI, nI_eq, nI_add, pk_mul, e_ix, e_neg, if_true, if_false, if_pos, if_neg, f_Hal_sit, f_Tol_seatOn, f_Tol_seatOn_J30, a1 M o, b1 M o, hw1, c1, w1, w2, Nat.reduceAdd]
        · simp (disch := omega) only [e_bnd, e_bnd2, e_set, e_cpy, e_nmI, e_nmL, e_ckn, e_ckB0, e_ckB1, l0, l1, l2, l3, l4, l5, l6, l7, l8, l9, l10, l11, l12, l13, l14, l15, l16, l17, l18, l19, l20, l21, l22, l24, l25, l32, l39, l40, l41, l48, l50, l56, l57, l59, l60, l72, l79, l80, l81, l82, l88, l89, l97, l100, l122, l124, l125, l160, l255, l312, l320, l375, l1000, nI_ltI, nI_leI, nI_eq, nI_add, pk_mul, e_ix, e_neg, if_true, if_false, if_pos, if_neg, f_Mod_sit, f_Mod_sit_J53, a2 _ om1, b2 _ om1, hw3 _ om1, om1.p (show p < 6 by omega)]
    · refine ⟨-1, M, M, ?_, ?_, ⟨T, ⟨o, om, g⟩, hI, hS, hT, hF⟩⟩
      · simp (disch := omega) only [e_bnd, e_bnd2, e_set, e_cpy, e_nmI, e_nmL, e_ckn, e_ckB0, e_ckB1, l0, l1, l2, l3, l4, l5, l6, l7, l8, l9, l10, l11, l12, l13, l14, l15, l16, l17, l18, l19, l20, l21, l22, l24, l25, l32, l39, l40, l41, l48, l50, l56, l57, l59, l60, l72, l79, l80, l81, l82, l88, l89, l97, l100, l122, l124, l125, l160, l255, l312, l320, l375, l1000, nI_ltI, nI_leI, nI_eq, nI_add, pk_mul, e_ix, e_neg, if_true, if_false, if_pos, if_neg, f_Hal_sit, a1 M o, b1 M o]
      · simp (disch := omega) only [e_bnd, e_bnd2, e_set, e_cpy, e_nmI, e_nmL, e_ckn, e_ckB0, e_ckB1, l0, l1, l2, l3, l4, l5, l6, l7, l8, l9, l10, l11, l12, l13, l14, l15, l16, l17, l18, l19, l20, l21, l22, l24, l25, l32, l39, l40, l41, l48, l50, l56, l57, l59, l60, l72, l79, l80, l81, l82, l88, l89, l97, l100, l122, l124, l125, l160, l255, l312, l320, l375, l1000, nI_ltI, nI_leI, nI_eq, nI_add, pk_mul, e_ix, e_neg, if_true, if_false, if_pos, if_neg, f_Mod_sit, a2 M om, b2 M om]
  · refine ⟨-1, M, M, ?_, ?_, ⟨T, ⟨o, om, g⟩, hI, hS, hT, hF⟩⟩
    · simp (disch := omega) only [e_bnd, e_bnd2, e_set, e_cpy, e_nmI, e_nmL, e_ckn, e_ckB0, e_ckB1, l0, l1, l2, l3, l4, l5, l6, l7, l8, l9, l10, l11, l12, l13, l14, l15, l16, l17, l18, l19, l20, l21, l22, l24, l25, l32, l39, l40, l41, l48, l50, l56, l57, l59, l60, l72, l79, l80, l81, l82, l88, l89, l97, l100, l122, l124, l125, l160, l255, l312, l320, l375, l1000, nI_ltI, nI_leI, nI_eq, nI_add, pk_mul, e_ix, e_neg, if_true, if_false, if_pos, if_neg, f_Hal_sit, a1 M o]
    · simp (disch := omega) only [e_bnd, e_bnd2, e_set, e_cpy, e_nmI, e_nmL, e_ckn, e_ckB0, e_ckB1, l0, l1, l2, l3, l4, l5, l6, l7, l8, l9, l10, l11, l12, l13, l14, l15, l16, l17, l18, l19, l20, l21, l22, l24, l25, l32, l39, l40, l41, l48, l50, l56, l57, l59, l60, l72, l79, l80, l81, l82, l88, l89, l97, l100, l122, l124, l125, l160, l255, l312, l320, l375, l1000, nI_ltI, nI_leI, nI_eq, nI_add, pk_mul, e_ix, e_neg, if_true, if_false, if_pos, if_neg, f_Mod_sit, a2 M om]
