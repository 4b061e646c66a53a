theorem okc_Mod_days_54 {X : Sc} {l : Launch}     : ∀ (n : Nat) (x1 : Int32) (x2 : Int32) (x3 : Int32) (x4 : Int32) (x5 : Int32) (x6 : Int32) (x7 : Int32) (x8 : Int32) (M : Mem) (r : Int32) (M' : Mem), f_Mod_days_L54  n x1 x2 x3 x4 x5 x6 x7 x8 M = some (r, M') → V X yX11_days cX11_days 11 (some .int) (rmD 5 0 0) l (FM (some (.int r)) S0 M' 0 0) 54 [some (.ref 103), some (.int x1), some (.int x2), some (.int x3), some (.int x4), some (.int x5), some (.int x6), some (.int x7), some (.int x8), none, none] [] S0 M 0 0 := by
  intro n
  induction n with
  | zero =>
    intro x1 x2 x3 x4 x5 x6 x7 x8 M r M' h
    rw [f_Mod_days_L54] at h
    cases h
  | succ n ih =>
    intro x1 x2 x3 x4 x5 x6 x7 x8 M r M' h
    rw [f_Mod_days_L54] at h
    refine V.iload dX11_days_54 rfl ?_
    refine V.aload_n dX11_days_56 rfl ?_
    refine V.getI dX11_days_57 fl_RX11_102 s0_103 rfl rfl ?_
    refine V.icmp_ge (tgt := 142) dX11_days_60 (by decide) (fun hc1 => ?_) (fun hc1 => ?_)
    · replace h := ite_t hc1 h
      refine V.iload_n dX11_days_142 rfl ?_
      refine V.if_ne (tgt := 151) dX11_days_143 (by decide) (fun hc2 => ?_) (fun hc2 => ?_)
      · replace h := ite_f hc2 h
        refine V.iload_n dX11_days_151 rfl ?_
        refine V.iconst dX11_days_152 ic_1 ?_
        refine V.icmp_ne (tgt := 161) dX11_days_153 (by decide) (fun hc3 => ?_) (fun hc3 => ?_)
        · replace h := ite_f hc3 h
          refine V.iload dX11_days_161 rfl ?_
          obtain ⟨e1, e2⟩ := inj2 h
          subst e1
          subst e2
          exact V.iret dX11_days_163 rfl rfl
        replace h := ite_t hc3 h
        refine V.iload dX11_days_156 rfl ?_
        refine V.goto (tgt := 163) dX11_days_158 (by decide) ?_
        obtain ⟨e1, e2⟩ := inj2 h
        subst e1
        subst e2
        exact V.iret dX11_days_163 rfl rfl
      replace h := ite_t hc2 h
      refine V.iload dX11_days_146 rfl ?_
      refine V.goto (tgt := 163) dX11_days_148 (by decide) ?_
      obtain ⟨e1, e2⟩ := inj2 h
      subst e1
      subst e2
      exact V.iret dX11_days_163 rfl rfl
    replace h := ite_f hc1 h
    refine V.aload_n dX11_days_63 rfl ?_
    refine V.iload dX11_days_64 rfl ?_
    refine V.iload_n dX11_days_66 rfl ?_
    obtain ⟨v5, M6, hv4, h⟩ := bnd2_s h
    refine V.cVi dX11_days_67 rfl mv_RX11_285 (ok_Mod_heardOf hv4) rfl rfl s0_103 rfl (by decide) ⟨Nat.zero_le _, Nat.zero_le _⟩ (Nat.le_of_ble_eq_true rfl) (Nat.zero_le _) ?_
    refine V.istore dX11_days_70 (by decide) rfl ?_
    refine V.aload_n dX11_days_72 rfl ?_
    refine V.getR dX11_days_73 fl_RX11_7 s0_103 rfl rfl ?_
    refine V.bipush dX11_days_76 bp_81 ?_
    refine V.iload_n dX11_days_78 rfl ?_
    refine V.iast dX11_days_79 s0_104 rfl (vp_of (by decide)) (fun M7 hM7 => ?_)
    replace h := setM_at h M7 hM7
    refine V.aload_n dX11_days_80 rfl ?_
    refine V.iload dX11_days_81 rfl ?_
    refine V.iload_n dX11_days_83 rfl ?_
    obtain ⟨v9, M10, hv8, h⟩ := bnd2_s h
    refine V.cVi dX11_days_84 rfl mv_RX11_285 (ok_Mod_heardOf hv8) rfl rfl s0_103 rfl (by decide) ⟨Nat.zero_le _, Nat.zero_le _⟩ (Nat.le_of_ble_eq_true rfl) (Nat.zero_le _) ?_
    refine V.istore dX11_days_87 (by decide) rfl ?_
    refine V.aload_n dX11_days_89 rfl ?_
    refine V.getR dX11_days_90 fl_RX11_7 s0_103 rfl rfl ?_
    refine V.bipush dX11_days_93 bp_81 ?_
    refine V.iload dX11_days_95 rfl ?_
    refine V.iast dX11_days_97 s0_104 rfl (vp_of (by decide)) (fun M11 hM11 => ?_)
    replace h := setM_at h M11 hM11
    refine V.iload dX11_days_98 rfl ?_
    refine V.iload dX11_days_100 rfl ?_
    obtain ⟨v13, hv12, h⟩ := bnd_s h
    refine V.cSi dX11_days_102 rfl mv_RX11_309 (ok_Mod_bitsOf hv12) rfl rfl (by decide) ⟨Nat.zero_le _, Nat.zero_le _⟩ (Nat.le_of_ble_eq_true rfl) (Nat.zero_le _) ?_
    refine V.iadd dX11_days_105 ?_
    refine V.nmI (fun w14 hw14 => ?_)
    replace h := nmI_at h w14 hw14
    refine V.istore dX11_days_106 (by decide) rfl ?_
    refine V.iload dX11_days_108 rfl ?_
    refine V.iload dX11_days_110 rfl ?_
    refine V.iload dX11_days_112 rfl ?_
    refine V.iand dX11_days_114 ?_
    obtain ⟨v16, hv15, h⟩ := bnd_s h
    refine V.cSi dX11_days_115 rfl mv_RX11_309 (ok_Mod_bitsOf hv15) rfl rfl (by decide) ⟨Nat.zero_le _, Nat.zero_le _⟩ (Nat.le_of_ble_eq_true rfl) (Nat.zero_le _) ?_
    refine V.iadd dX11_days_118 ?_
    refine V.nmI (fun w17 hw17 => ?_)
    replace h := nmI_at h w17 hw17
    refine V.istore dX11_days_119 (by decide) rfl ?_
    refine V.iload dX11_days_121 rfl ?_
    refine V.iload dX11_days_123 rfl ?_
    refine V.iload dX11_days_125 rfl ?_
    refine V.iconst dX11_days_127 ic_m1 ?_
    refine V.ixor dX11_days_128 ?_
    refine V.iand dX11_days_129 ?_
    obtain ⟨v19, hv18, h⟩ := bnd_s h
    refine V.cSi dX11_days_130 rfl mv_RX11_309 (ok_Mod_bitsOf hv18) rfl rfl (by decide) ⟨Nat.zero_le _, Nat.zero_le _⟩ (Nat.le_of_ble_eq_true rfl) (Nat.zero_le _) ?_
    refine V.iadd dX11_days_133 ?_
    refine V.nmI (fun w20 hw20 => ?_)
    replace h := nmI_at h w20 hw20
    refine V.istore dX11_days_134 (by decide) rfl ?_
    refine V.iinc dX11_days_136 rfl (iinc_c ic_1) (by decide) rfl ?_
    refine V.goto (tgt := 54) dX11_days_139 (by decide) ?_
    refine V.mask [true, true, true, true, true, true, true, true, true, false, false] rfl ?_
    exact ih _ _ _ _ _ _ _ _ _ _ _ h
theorem ok_Mod_days {X : Sc} {l : Launch}  {M : Mem} {x1 : Int32} {x2 : Int32} {x3 : Int32} {r : Int32} {M' : Mem}  (h : f_Mod_days x1 x2 x3 M = some (r, M')) : Mt X l yX11_days cX11_days 11 (some .int) 5 0 0 [.ref 103, .int x1, .int x2, .int x3] S0 M (some (.int r)) S0 M' := by
  refine Mt.ofV (by decide) (Nat.le_of_ble_eq_true rfl) ?_
  show V X yX11_days cX11_days 11 (some .int) (rmD 5 0 0) l (FM (some (.int r)) S0 M' 0 0) 0 [some (.ref 103), some (.int x1), some (.int x2), some (.int x3), none, none, none, none, none, none, none] [] S0 M 0 0
  unfold f_Mod_days at h
  refine V.iload_n dX11_days_0 rfl ?_
  obtain ⟨v2, hv1, h⟩ := bnd_s h
  refine V.cSi dX11_days_1 rfl mv_RX11_231 (ok_Mod_isHour hv1) rfl rfl (by decide) ⟨Nat.zero_le _, Nat.zero_le _⟩ (Nat.le_of_ble_eq_true rfl) (Nat.zero_le _) ?_
  refine V.if_eq (tgt := 31) dX11_days_4 (by decide) (fun hc3 => ?_) (fun hc3 => ?_)
  · replace h := ite_t hc3 h
    refine V.iconst dX11_days_31 ic_m1 ?_
    obtain ⟨e1, e2⟩ := inj2 h
    subst e1
    subst e2
    exact V.iret dX11_days_32 rfl rfl
  replace h := ite_f hc3 h
  refine V.iload_n dX11_days_7 rfl ?_
  refine V.i2l dX11_days_8 ?_
  refine V.lconst dX11_days_9 lc_0 ?_
  refine V.ldc2 dX11_days_10 rfl kc_RX11_246 ?_
  obtain ⟨v5, hv4, h⟩ := bnd_s h
  refine V.cSi dX11_days_13 rfl mv_RX11_120 (ok_Mod_in hv4) rfl rfl (by decide) ⟨Nat.zero_le _, Nat.zero_le _⟩ (Nat.le_of_ble_eq_true rfl) (Nat.zero_le _) ?_
  refine V.if_eq (tgt := 31) dX11_days_16 (by decide) (fun hc6 => ?_) (fun hc6 => ?_)
  · replace h := ite_t hc6 h
    refine V.iconst dX11_days_31 ic_m1 ?_
    obtain ⟨e1, e2⟩ := inj2 h
    subst e1
    subst e2
    exact V.iret dX11_days_32 rfl rfl
  replace h := ite_f hc6 h
  refine V.iload_n dX11_days_19 rfl ?_
  refine V.i2l dX11_days_20 ?_
  refine V.lconst dX11_days_21 lc_0 ?_
  refine V.ldc2 dX11_days_22 rfl kc_RX11_226 ?_
  obtain ⟨v8, hv7, h⟩ := bnd_s h
  refine V.cSi dX11_days_25 rfl mv_RX11_120 (ok_Mod_in hv7) rfl rfl (by decide) ⟨Nat.zero_le _, Nat.zero_le _⟩ (Nat.le_of_ble_eq_true rfl) (Nat.zero_le _) ?_
  refine V.if_ne (tgt := 33) dX11_days_28 (by decide) (fun hc9 => ?_) (fun hc9 => ?_)
  · replace h := ite_f hc9 h
    refine V.aload_n dX11_days_33 rfl ?_
    refine V.getR dX11_days_34 fl_RX11_7 s0_103 rfl rfl ?_
    refine V.bipush dX11_days_37 bp_81 ?_
    refine V.iald dX11_days_39 s0_104 rfl (vp_of (by decide)) ?_
    refine V.nmI (fun w10 hw10 => ?_)
    replace h := nmI_at h w10 hw10
    refine V.istore dX11_days_40 (by decide) rfl ?_
    refine V.iconst dX11_days_42 ic_0 ?_
    refine V.istore dX11_days_43 (by decide) rfl ?_
    refine V.iconst dX11_days_45 ic_0 ?_
    refine V.istore dX11_days_46 (by decide) rfl ?_
    refine V.iconst dX11_days_48 ic_0 ?_
    refine V.istore dX11_days_49 (by decide) rfl ?_
    refine V.iconst dX11_days_51 ic_0 ?_
    refine V.istore dX11_days_52 (by decide) rfl ?_
    exact okc_Mod_days_54 _ _ _ _ _ _ _ _ _ _ _ _ h
  replace h := ite_t hc9 h
  refine V.iconst dX11_days_31 ic_m1 ?_
  obtain ⟨e1, e2⟩ := inj2 h
  subst e1
  subst e2
  exact V.iret dX11_days_32 rfl rfl
theorem okc_Mod_best_96 {X : Sc} {l : Launch} {k37 : Int32 → Int32 → Int32 → Int32 → Int32 → Int32 → Mem → Option (Int32 × Mem)}  (hk37 : ∀ (x1 : Int32) (x2 : Int32) (x3 : Int32) (x4 : Int32) (x5 : Int32) (x6 : Int32) (M : Mem) (r : Int32) (M' : Mem), k37 x1 x2 x3 x4 x5 x6 M = some (r, M') → V X yX11_best cX11_best 9 (some .int) (rmD 7 0 0) l (FM (some (.int r)) S0 M' 0 0) 37 [some (.ref 103), some (.int x1), some (.int x2), some (.int x3), some (.int x4), some (.int x5), some (.int x6), none, none] [] S0 M 0 0)  {x1 : Int32} {x2 : Int32} {x3 : Int32} {x5 : Int32} {x6 : Int32} {x7 : Int32} {x8 : Int32} {s0 : Int32} {M : Mem} {r : Int32} {M' : Mem} (h : f_Mod_best_J96 k37 x1 x2 x3 x5 x6 x7 x8 s0 M = some (r, M')) : V X yX11_best cX11_best 9 (some .int) (rmD 7 0 0) l (FM (some (.int r)) S0 M' 0 0) 96 [some (.ref 103), some (.int x1), some (.int x2), some (.int x3), none, some (.int x5), some (.int x6), some (.int x7), some (.int x8)] [.int s0] S0 M 0 0 := by
  unfold f_Mod_best_J96 at h
  refine V.istore dX11_best_96 (by decide) rfl ?_
  refine V.iload dX11_best_98 rfl ?_
  refine V.if_eq (tgt := 108) dX11_best_100 (by decide) (fun hc1 => ?_) (fun hc1 => ?_)
  · replace h := ite_t hc1 h
    refine V.iload dX11_best_108 rfl ?_
    refine V.istore dX11_best_110 (by decide) rfl ?_
    refine V.iinc dX11_best_112 rfl (iinc_c ic_1) (by decide) rfl ?_
    refine V.goto (tgt := 37) dX11_best_115 (by decide) ?_
    refine V.mask [true, true, true, true, true, true, true, false, false] rfl ?_
    exact hk37 _ _ _ _ _ _ _ _ _ h
  replace h := ite_f hc1 h
  refine V.iload dX11_best_103 rfl ?_
  refine V.goto (tgt := 110) dX11_best_105 (by decide) ?_
  refine V.istore dX11_best_110 (by decide) rfl ?_
  refine V.iinc dX11_best_112 rfl (iinc_c ic_1) (by decide) rfl ?_
  refine V.goto (tgt := 37) dX11_best_115 (by decide) ?_
  refine V.mask [true, true, true, true, true, true, true, false, false] rfl ?_
  exact hk37 _ _ _ _ _ _ _ _ _ h
theorem okc_Mod_best_82 {X : Sc} {l : Launch} {k37 : Int32 → Int32 → Int32 → Int32 → Int32 → Int32 → Mem → Option (Int32 × Mem)}  (hk37 : ∀ (x1 : Int32) (x2 : Int32) (x3 : Int32) (x4 : Int32) (x5 : Int32) (x6 : Int32) (M : Mem) (r : Int32) (M' : Mem), k37 x1 x2 x3 x4 x5 x6 M = some (r, M') → V X yX11_best cX11_best 9 (some .int) (rmD 7 0 0) l (FM (some (.int r)) S0 M' 0 0) 37 [some (.ref 103), some (.int x1), some (.int x2), some (.int x3), some (.int x4), some (.int x5), some (.int x6), none, none] [] S0 M 0 0)  {x1 : Int32} {x2 : Int32} {x3 : Int32} {x4 : Int32} {x5 : Int32} {x6 : Int32} {x7 : Int32} {s0 : Int32} {M : Mem} {r : Int32} {M' : Mem} (h : f_Mod_best_J82 k37 x1 x2 x3 x4 x5 x6 x7 s0 M = some (r, M')) : V X yX11_best cX11_best 9 (some .int) (rmD 7 0 0) l (FM (some (.int r)) S0 M' 0 0) 82 [some (.ref 103), some (.int x1), some (.int x2), some (.int x3), some (.int x4), some (.int x5), some (.int x6), some (.int x7), none] [.int s0] S0 M 0 0 := by
  unfold f_Mod_best_J82 at h
  refine V.istore dX11_best_82 (by decide) rfl ?_
  refine V.iload dX11_best_84 rfl ?_
  refine V.if_eq (tgt := 94) dX11_best_86 (by decide) (fun hc1 => ?_) (fun hc1 => ?_)
  · replace h := ite_t hc1 h
    refine V.iload dX11_best_94 rfl ?_
    refine V.mask [true, true, true, true, false, true, true, true, true] rfl ?_
    exact okc_Mod_best_96 hk37 h
  replace h := ite_f hc1 h
  refine V.iload dX11_best_89 rfl ?_
  refine V.goto (tgt := 96) dX11_best_91 (by decide) ?_
  refine V.mask [true, true, true, true, false, true, true, true, true] rfl ?_
  exact okc_Mod_best_96 hk37 h
theorem okc_Mod_best_77 {X : Sc} {l : Launch} {k37 : Int32 → Int32 → Int32 → Int32 → Int32 → Int32 → Mem → Option (Int32 × Mem)}  (hk37 : ∀ (x1 : Int32) (x2 : Int32) (x3 : Int32) (x4 : Int32) (x5 : Int32) (x6 : Int32) (M : Mem) (r : Int32) (M' : Mem), k37 x1 x2 x3 x4 x5 x6 M = some (r, M') → V X yX11_best cX11_best 9 (some .int) (rmD 7 0 0) l (FM (some (.int r)) S0 M' 0 0) 37 [some (.ref 103), some (.int x1), some (.int x2), some (.int x3), some (.int x4), some (.int x5), some (.int x6), none, none] [] S0 M 0 0)  {x1 : Int32} {x2 : Int32} {x3 : Int32} {x4 : Int32} {x5 : Int32} {x6 : Int32} {x7 : Int32} {M : Mem} {r : Int32} {M' : Mem} (h : f_Mod_best_J77 k37 x1 x2 x3 x4 x5 x6 x7 M = some (r, M')) : V X yX11_best cX11_best 9 (some .int) (rmD 7 0 0) l (FM (some (.int r)) S0 M' 0 0) 77 [some (.ref 103), some (.int x1), some (.int x2), some (.int x3), some (.int x4), some (.int x5), some (.int x6), some (.int x7), none] [] S0 M 0 0 := by
  unfold f_Mod_best_J77 at h
  refine V.iconst dX11_best_77 ic_1 ?_
  refine V.goto (tgt := 82) dX11_best_78 (by decide) ?_
  exact okc_Mod_best_82 hk37 h
theorem okc_Mod_best_37 {X : Sc} {l : Launch}     : ∀ (n : Nat) (x1 : Int32) (x2 : Int32) (x3 : Int32) (x4 : Int32) (x5 : Int32) (x6 : Int32) (M : Mem) (r : Int32) (M' : Mem), f_Mod_best_L37  n x1 x2 x3 x4 x5 x6 M = some (r, M') → V X yX11_best cX11_best 9 (some .int) (rmD 7 0 0) l (FM (some (.int r)) S0 M' 0 0) 37 [some (.ref 103), some (.int x1), some (.int x2), some (.int x3), some (.int x4), some (.int x5), some (.int x6), none, none] [] S0 M 0 0 := by
  intro n
  induction n with
  | zero =>
    intro x1 x2 x3 x4 x5 x6 M r M' h
    rw [f_Mod_best_L37] at h
    cases h
  | succ n ih =>
    intro x1 x2 x3 x4 x5 x6 M r M' h
    rw [f_Mod_best_L37] at h
    refine V.iload dX11_best_37 rfl ?_
    refine V.bipush dX11_best_39 bp_10 ?_
    refine V.icmp_ge (tgt := 118) dX11_best_41 (by decide) (fun hc1 => ?_) (fun hc1 => ?_)
    · replace h := ite_t hc1 h
      refine V.aload_n dX11_best_118 rfl ?_
      refine V.getR dX11_best_119 fl_RX11_7 s0_103 rfl rfl ?_
      refine V.bipush dX11_best_122 bp_81 ?_
      refine V.iload_n dX11_best_124 rfl ?_
      refine V.iast dX11_best_125 s0_104 rfl (vp_of (by decide)) (fun M2 hM2 => ?_)
      replace h := setM_at h M2 hM2
      refine V.iload_n dX11_best_126 rfl ?_
      refine V.if_ne (tgt := 135) dX11_best_127 (by decide) (fun hc3 => ?_) (fun hc3 => ?_)
      · replace h := ite_f hc3 h
        refine V.iload dX11_best_135 rfl ?_
        obtain ⟨e1, e2⟩ := inj2 h
        subst e1
        subst e2
        exact V.iret dX11_best_137 rfl rfl
      replace h := ite_t hc3 h
      refine V.iload dX11_best_130 rfl ?_
      refine V.goto (tgt := 137) dX11_best_132 (by decide) ?_
      obtain ⟨e1, e2⟩ := inj2 h
      subst e1
      subst e2
      exact V.iret dX11_best_137 rfl rfl
    replace h := ite_f hc1 h
    refine V.aload_n dX11_best_44 rfl ?_
    refine V.getR dX11_best_45 fl_RX11_7 s0_103 rfl rfl ?_
    refine V.bipush dX11_best_48 bp_81 ?_
    refine V.iload dX11_best_50 rfl ?_
    refine V.iast dX11_best_52 s0_104 rfl (vp_of (by decide)) (fun M4 hM4 => ?_)
    replace h := setM_at h M4 hM4
    refine V.aload_n dX11_best_53 rfl ?_
    refine V.iload_n dX11_best_54 rfl ?_
    obtain ⟨v6, M7, hv5, h⟩ := bnd2_s h
    refine V.cVi dX11_best_55 rfl mv_RX11_297 (ok_Mod_brokenIn hv5) rfl rfl s0_103 rfl (by decide) ⟨Nat.zero_le _, Nat.zero_le _⟩ (Nat.le_of_ble_eq_true rfl) (Nat.zero_le _) ?_
    obtain ⟨v9, hv8, h⟩ := bnd_s h
    refine V.cSi dX11_best_58 rfl mv_RX11_309 (ok_Mod_bitsOf hv8) rfl rfl (by decide) ⟨Nat.zero_le _, Nat.zero_le _⟩ (Nat.le_of_ble_eq_true rfl) (Nat.zero_le _) ?_
    refine V.istore dX11_best_61 (by decide) rfl ?_
    refine V.iload dX11_best_63 rfl ?_
    refine V.bipush dX11_best_65 bp_m4 ?_
    refine V.icmp_eq (tgt := 77) dX11_best_67 (by decide) (fun hc10 => ?_) (fun hc10 => ?_)
    · replace h := ite_t hc10 h
      exact okc_Mod_best_77 ih h
    replace h := ite_f hc10 h
    refine V.iload dX11_best_70 rfl ?_
    refine V.iload dX11_best_72 rfl ?_
    refine V.icmp_ge (tgt := 81) dX11_best_74 (by decide) (fun hc11 => ?_) (fun hc11 => ?_)
    · replace h := ite_t hc11 h
      refine V.iconst dX11_best_81 ic_0 ?_
      exact okc_Mod_best_82 ih h
    replace h := ite_f hc11 h
    exact okc_Mod_best_77 ih h
theorem ok_Mod_best {X : Sc} {l : Launch}  {M : Mem} {x1 : Int32} {x2 : Int32} {r : Int32} {M' : Mem}  (h : f_Mod_best x1 x2 M = some (r, M')) : Mt X l yX11_best cX11_best 9 (some .int) 7 0 0 [.ref 103, .int x1, .int x2] S0 M (some (.int r)) S0 M' := by
  refine Mt.ofV (by decide) (Nat.le_of_ble_eq_true rfl) ?_
  show V X yX11_best cX11_best 9 (some .int) (rmD 7 0 0) l (FM (some (.int r)) S0 M' 0 0) 0 [some (.ref 103), some (.int x1), some (.int x2), none, none, none, none, none, none] [] S0 M 0 0
  unfold f_Mod_best at h
  refine V.iload_n dX11_best_0 rfl ?_
  obtain ⟨v2, hv1, h⟩ := bnd_s h
  refine V.cSi dX11_best_1 rfl mv_RX11_231 (ok_Mod_isHour hv1) rfl rfl (by decide) ⟨Nat.zero_le _, Nat.zero_le _⟩ (Nat.le_of_ble_eq_true rfl) (Nat.zero_le _) ?_
  refine V.if_eq (tgt := 17) dX11_best_4 (by decide) (fun hc3 => ?_) (fun hc3 => ?_)
  · replace h := ite_t hc3 h
    refine V.iconst dX11_best_17 ic_m1 ?_
    obtain ⟨e1, e2⟩ := inj2 h
    subst e1
    subst e2
    exact V.iret dX11_best_18 rfl rfl
  replace h := ite_f hc3 h
  refine V.iload_n dX11_best_7 rfl ?_
  refine V.i2l dX11_best_8 ?_
  refine V.lconst dX11_best_9 lc_0 ?_
  refine V.lconst dX11_best_10 lc_1 ?_
  obtain ⟨v5, hv4, h⟩ := bnd_s h
  refine V.cSi dX11_best_11 rfl mv_RX11_120 (ok_Mod_in hv4) rfl rfl (by decide) ⟨Nat.zero_le _, Nat.zero_le _⟩ (Nat.le_of_ble_eq_true rfl) (Nat.zero_le _) ?_
  refine V.if_ne (tgt := 19) dX11_best_14 (by decide) (fun hc6 => ?_) (fun hc6 => ?_)
  · replace h := ite_f hc6 h
    refine V.aload_n dX11_best_19 rfl ?_
    refine V.getR dX11_best_20 fl_RX11_7 s0_103 rfl rfl ?_
    refine V.bipush dX11_best_23 bp_81 ?_
    refine V.iald dX11_best_25 s0_104 rfl (vp_of (by decide)) ?_
    refine V.nmI (fun w7 hw7 => ?_)
    replace h := nmI_at h w7 hw7
    refine V.istore_n dX11_best_26 (by decide) rfl ?_
    refine V.bipush dX11_best_27 bp_m4 ?_
    refine V.istore dX11_best_29 (by decide) rfl ?_
    refine V.iconst dX11_best_31 ic_0 ?_
    refine V.istore dX11_best_32 (by decide) rfl ?_
    refine V.iconst dX11_best_34 ic_0 ?_
    refine V.istore dX11_best_35 (by decide) rfl ?_
    exact okc_Mod_best_37 _ _ _ _ _ _ _ _ _ _ h
  replace h := ite_t hc6 h
  refine V.iconst dX11_best_17 ic_m1 ?_
  obtain ⟨e1, e2⟩ := inj2 h
  subst e1
  subst e2
  exact V.iret dX11_best_18 rfl rfl
theorem ok_Mod_sayOf {X : Sc} {l : Launch}  {M : Mem} {x1 : Int32} {x2 : Int32} {r : Int32}  (h : f_Mod_sayOf M x1 x2 = some r) : Mt X l yX11_sayOf cX11_sayOf 3 (some .int) 0 0 0 [.ref 103, .int x1, .int x2] S0 M (some (.int r)) S0 M := by
  refine Mt.ofV (by decide) (Nat.le_of_ble_eq_true rfl) ?_
  show V X yX11_sayOf cX11_sayOf 3 (some .int) (rmD 0 0 0) l (FM (some (.int r)) S0 M 0 0) 0 [some (.ref 103), some (.int x1), some (.int x2)] [] S0 M 0 0
  unfold f_Mod_sayOf at h
  refine V.aload_n dX11_sayOf_0 rfl ?_
  refine V.getR dX11_sayOf_1 fl_RX11_7 s0_103 rfl rfl ?_
  refine V.bipush dX11_sayOf_4 bp_89 ?_
  refine V.iconst dX11_sayOf_6 ic_3 ?_
  refine V.iload_n dX11_sayOf_7 rfl ?_
  refine V.imul dX11_sayOf_8 ?_
  refine V.iadd dX11_sayOf_9 ?_
  refine V.iload_n dX11_sayOf_10 rfl ?_
  refine V.iadd dX11_sayOf_11 ?_
  obtain ⟨hb1, h⟩ := ck_s h
  refine V.iald dX11_sayOf_12 s0_104 rfl (vp_of hb1) ?_
  have e1 := inj1 h
  subst e1
  exact V.iret dX11_sayOf_13 rfl rfl
theorem ok_Mod_isSaid {X : Sc} {l : Launch}  {M : Mem} {x1 : Int32} {r : Int32}  (h : f_Mod_isSaid M x1 = some r) : Mt X l yX11_isSaid cX11_isSaid 3 (some .boolean) 1 0 0 [.ref 103, .int x1] S0 M (some (.int r)) S0 M := by
  refine Mt.ofV (by decide) (Nat.le_of_ble_eq_true rfl) ?_
  show V X yX11_isSaid cX11_isSaid 3 (some .boolean) (rmD 1 0 0) l (FM (some (.int r)) S0 M 0 0) 0 [some (.ref 103), some (.int x1), none] [] S0 M 0 0
  unfold f_Mod_isSaid at h
  refine V.aload_n dX11_isSaid_0 rfl ?_
  refine V.getR dX11_isSaid_1 fl_RX11_53 s0_103 rfl rfl ?_
  refine V.aload_n dX11_isSaid_4 rfl ?_
  refine V.iload_n dX11_isSaid_5 rfl ?_
  refine V.iconst dX11_isSaid_6 ic_2 ?_
  obtain ⟨v2, hv1, h⟩ := bnd_s h
  refine V.cVi dX11_isSaid_7 rfl mv_RX11_332 (ok_Mod_sayOf hv1) rfl rfl s0_103 rfl (by decide) ⟨Nat.zero_le _, Nat.zero_le _⟩ (Nat.le_of_ble_eq_true rfl) (Nat.zero_le _) ?_
  obtain ⟨hb3, h⟩ := ck_s h
  refine V.iald dX11_isSaid_10 s0_118 rfl (vp_of hb3) ?_
  refine V.nmI (fun w4 hw4 => ?_)
  replace h := nmI_at h w4 hw4
  refine V.istore_n dX11_isSaid_11 (by decide) rfl ?_
  refine V.iload_n dX11_isSaid_12 rfl ?_
  refine V.if_eq (tgt := 30) dX11_isSaid_13 (by decide) (fun hc5 => ?_) (fun hc5 => ?_)
  · replace h := ite_t hc5 h
    refine V.iconst dX11_isSaid_30 ic_1 ?_
    refine V.goto (tgt := 35) dX11_isSaid_31 (by decide) ?_
    have e1 := inj1 h
    subst e1
    exact V.iret dX11_isSaid_35 rfl rfl
  replace h := ite_f hc5 h
  refine V.iload_n dX11_isSaid_16 rfl ?_
  refine V.aload_n dX11_isSaid_17 rfl ?_
  refine V.iload_n dX11_isSaid_18 rfl ?_
  refine V.iconst dX11_isSaid_19 ic_1 ?_
  obtain ⟨v7, hv6, h⟩ := bnd_s h
  refine V.cVi dX11_isSaid_20 rfl mv_RX11_332 (ok_Mod_sayOf hv6) rfl rfl s0_103 rfl (by decide) ⟨Nat.zero_le _, Nat.zero_le _⟩ (Nat.le_of_ble_eq_true rfl) (Nat.zero_le _) ?_
  refine V.ishr dX11_isSaid_23 ?_
  refine V.iconst dX11_isSaid_24 ic_1 ?_
  refine V.iand dX11_isSaid_25 ?_
  refine V.iconst dX11_isSaid_26 ic_1 ?_
  refine V.icmp_ne (tgt := 34) dX11_isSaid_27 (by decide) (fun hc8 => ?_) (fun hc8 => ?_)
  · replace h := ite_f hc8 h
    refine V.iconst dX11_isSaid_34 ic_0 ?_
    have e1 := inj1 h
    subst e1
    exact V.iret dX11_isSaid_35 rfl rfl
  replace h := ite_t hc8 h
  refine V.iconst dX11_isSaid_30 ic_1 ?_
  refine V.goto (tgt := 35) dX11_isSaid_31 (by decide) ?_
  have e1 := inj1 h
  subst e1
  exact V.iret dX11_isSaid_35 rfl rfl
theorem okc_Mod_says_35 {X : Sc} {l : Launch}     : ∀ (n : Nat) (x1 : Int32) (x3 : Int32) (x4 : Int32) (x5 : Int32) (M : Mem) (M' : Mem), f_Mod_says_L35  n x1 x3 x4 x5 M = some M' → V X yX11_says cX11_says 6 none (rmD 5 0 0) l (FM none S0 M' 0 0) 35 [some (.ref 103), some (.int x1), none, some (.int x3), some (.int x4), some (.int x5)] [] S0 M 0 0 := by
  intro n
  induction n with
  | zero =>
    intro x1 x3 x4 x5 M M' h
    rw [f_Mod_says_L35] at h
    cases h
  | succ n ih =>
    intro x1 x3 x4 x5 M M' h
    rw [f_Mod_says_L35] at h
    refine V.iload dX11_says_35 rfl ?_
    refine V.aload_n dX11_says_37 rfl ?_
    refine V.getI dX11_says_38 fl_RX11_109 s0_103 rfl rfl ?_
    refine V.icmp_ge (tgt := 72) dX11_says_41 (by decide) (fun hc1 => ?_) (fun hc1 => ?_)
    · replace h := ite_t hc1 h
      refine V.aload_n dX11_says_72 rfl ?_
      refine V.getR dX11_says_73 fl_RX11_53 s0_103 rfl rfl ?_
      refine V.aload_n dX11_says_76 rfl ?_
      refine V.iload_n dX11_says_77 rfl ?_
      refine V.iconst dX11_says_78 ic_2 ?_
      obtain ⟨v3, hv2, h⟩ := bnd_s h
      refine V.cVi dX11_says_79 rfl mv_RX11_332 (ok_Mod_sayOf hv2) rfl rfl s0_103 rfl (by decide) ⟨Nat.zero_le _, Nat.zero_le _⟩ (Nat.le_of_ble_eq_true rfl) (Nat.zero_le _) ?_
      refine V.dup2 dX11_says_82 rfl rfl ?_
      obtain ⟨hb4, h⟩ := ck_s h
      refine V.iald dX11_says_83 s0_118 rfl (vp_of hb4) ?_
      refine V.iload dX11_says_84 rfl ?_
      refine V.ior dX11_says_86 ?_
      obtain ⟨hb5, h⟩ := ck_s h
      refine V.iast dX11_says_87 s0_118 rfl (vp_of hb5) (fun M6 hM6 => ?_)
      replace h := setM_at h M6 hM6
      have e1 := inj1 h
      subst e1
      exact V.vret dX11_says_88 rfl
    replace h := ite_f hc1 h
    refine V.iload dX11_says_44 rfl ?_
    refine V.iload_n dX11_says_46 rfl ?_
    refine V.aload_n dX11_says_47 rfl ?_
    refine V.getR dX11_says_48 fl_RX11_7 s0_103 rfl rfl ?_
    refine V.bipush dX11_says_51 bp_82 ?_
    refine V.iload dX11_says_53 rfl ?_
    refine V.iadd dX11_says_55 ?_
    obtain ⟨hb7, h⟩ := ck_s h
    refine V.iald dX11_says_56 s0_104 rfl (vp_of hb7) ?_
    refine V.ishr dX11_says_57 ?_
    refine V.iconst dX11_says_58 ic_1 ?_
    refine V.iand dX11_says_59 ?_
    refine V.iload dX11_says_60 rfl ?_
    refine V.ishl dX11_says_62 ?_
    refine V.ior dX11_says_63 ?_
    refine V.nmI (fun w8 hw8 => ?_)
    replace h := nmI_at h w8 hw8
    refine V.istore dX11_says_64 (by decide) rfl ?_
    refine V.iinc dX11_says_66 rfl (iinc_c ic_1) (by decide) rfl ?_
    refine V.goto (tgt := 35) dX11_says_69 (by decide) ?_
    exact ih _ _ _ _ _ _ h
theorem ok_Mod_says {X : Sc} {l : Launch}  {M : Mem} {x1 : Int32} {M' : Mem}  (h : f_Mod_says x1 M = some M') : Mt X l yX11_says cX11_says 6 none 5 0 0 [.ref 103, .int x1] S0 M none S0 M' := by
  refine Mt.ofV (by decide) (Nat.le_of_ble_eq_true rfl) ?_
  show V X yX11_says cX11_says 6 none (rmD 5 0 0) l (FM none S0 M' 0 0) 0 [some (.ref 103), some (.int x1), none, none, none, none] [] S0 M 0 0
  unfold f_Mod_says at h
  refine V.aload_n dX11_says_0 rfl ?_
  refine V.iload_n dX11_says_1 rfl ?_
  refine V.iconst dX11_says_2 ic_1 ?_
  obtain ⟨v2, hv1, h⟩ := bnd_s h
  refine V.cVi dX11_says_3 rfl mv_RX11_332 (ok_Mod_sayOf hv1) rfl rfl s0_103 rfl (by decide) ⟨Nat.zero_le _, Nat.zero_le _⟩ (Nat.le_of_ble_eq_true rfl) (Nat.zero_le _) ?_
  refine V.istore_n dX11_says_6 (by decide) rfl ?_
  refine V.aload_n dX11_says_7 rfl ?_
  refine V.aload_n dX11_says_8 rfl ?_
  refine V.getR dX11_says_9 fl_RX11_7 s0_103 rfl rfl ?_
  refine V.bipush dX11_says_12 bp_82 ?_
  refine V.iload_n dX11_says_14 rfl ?_
  refine V.iadd dX11_says_15 ?_
  obtain ⟨hb3, h⟩ := ck_s h
  refine V.iald dX11_says_16 s0_104 rfl (vp_of hb3) ?_
  refine V.aload_n dX11_says_17 rfl ?_
  refine V.iload_n dX11_says_18 rfl ?_
  refine V.iconst dX11_says_19 ic_0 ?_
  obtain ⟨v5, hv4, h⟩ := bnd_s h
  refine V.cVi dX11_says_20 rfl mv_RX11_332 (ok_Mod_sayOf hv4) rfl rfl s0_103 rfl (by decide) ⟨Nat.zero_le _, Nat.zero_le _⟩ (Nat.le_of_ble_eq_true rfl) (Nat.zero_le _) ?_
  obtain ⟨v7, M8, hv6, h⟩ := bnd2_s h
  refine V.cVi dX11_says_23 rfl mv_RX11_285 (ok_Mod_heardOf hv6) rfl rfl s0_103 rfl (by decide) ⟨Nat.zero_le _, Nat.zero_le _⟩ (Nat.le_of_ble_eq_true rfl) (Nat.zero_le _) ?_
  refine V.istore_n dX11_says_26 (by decide) rfl ?_
  refine V.iconst dX11_says_27 ic_1 ?_
  refine V.iload_n dX11_says_28 rfl ?_
  refine V.ishl dX11_says_29 ?_
  refine V.nmI (fun w9 hw9 => ?_)
  replace h := nmI_at h w9 hw9
  refine V.istore dX11_says_30 (by decide) rfl ?_
  refine V.iconst dX11_says_32 ic_0 ?_
  refine V.istore dX11_says_33 (by decide) rfl ?_
  refine V.mask [true, true, false, true, true, true] rfl ?_
  exact okc_Mod_says_35 _ _ _ _ _ _ _ h
theorem okc_Mod_nobodyKnows_2 {X : Sc} {l : Launch}     : ∀ (n : Nat) (x1 : Int32) (M : Mem) (M' : Mem), f_Mod_nobodyKnows_L2  n x1 M = some M' → V X yX11_nobodyKnows cX11_nobodyKnows 2 none (rmD 0 0 0) l (FM none S0 M' 0 0) 2 [some (.ref 103), some (.int x1)] [] S0 M 0 0 := by
  intro n
  induction n with
  | zero =>
    intro x1 M M' h
    rw [f_Mod_nobodyKnows_L2] at h
    cases h
  | succ n ih =>
    intro x1 M M' h
    rw [f_Mod_nobodyKnows_L2] at h
    refine V.iload_n dX11_nobodyKnows_2 rfl ?_
    refine V.bipush dX11_nobodyKnows_3 bp_8 ?_
    refine V.icmp_ge (tgt := 21) dX11_nobodyKnows_5 (by decide) (fun hc1 => ?_) (fun hc1 => ?_)
    · replace h := ite_t hc1 h
      have e1 := inj1 h
      subst e1
      exact V.vret dX11_nobodyKnows_21 rfl
    replace h := ite_f hc1 h
    refine V.aload_n dX11_nobodyKnows_8 rfl ?_
    refine V.getR dX11_nobodyKnows_9 fl_RX11_53 s0_103 rfl rfl ?_
    refine V.iload_n dX11_nobodyKnows_12 rfl ?_
    refine V.iconst dX11_nobodyKnows_13 ic_0 ?_
    obtain ⟨hb2, h⟩ := ck_s h
    refine V.iast dX11_nobodyKnows_14 s0_118 rfl (vp_of hb2) (fun M3 hM3 => ?_)
    replace h := setM_at h M3 hM3
    refine V.iinc dX11_nobodyKnows_15 rfl (iinc_c ic_1) (by decide) rfl ?_
    refine V.goto (tgt := 2) dX11_nobodyKnows_18 (by decide) ?_
    exact ih _ _ _ h
theorem ok_Mod_nobodyKnows {X : Sc} {l : Launch}  {M : Mem}  {M' : Mem}  (h : f_Mod_nobodyKnows M = some M') : Mt X l yX11_nobodyKnows cX11_nobodyKnows 2 none 0 0 0 [.ref 103] S0 M none S0 M' := by
  refine Mt.ofV (by decide) (Nat.le_of_ble_eq_true rfl) ?_
  show V X yX11_nobodyKnows cX11_nobodyKnows 2 none (rmD 0 0 0) l (FM none S0 M' 0 0) 0 [some (.ref 103), none] [] S0 M 0 0
  unfold f_Mod_nobodyKnows at h
  refine V.iconst dX11_nobodyKnows_0 ic_0 ?_
  refine V.istore_n dX11_nobodyKnows_1 (by decide) rfl ?_
  exact okc_Mod_nobodyKnows_2 _ _ _ _ h
theorem okc_Mod_whispers_9 {X : Sc} {l : Launch}     : ∀ (n : Nat) (x1 : Int32) (x2 : Int32) (x3 : Int32) (x4 : Int32) (M : Mem) (r : Int32) (M' : Mem), f_Mod_whispers_L9  n x1 x2 x3 x4 M = some (r, M') → V X yX11_whispers cX11_whispers 5 (some .int) (rmD 6 0 0) l (FM (some (.int r)) S0 M' 0 0) 9 [some (.ref 103), some (.int x1), some (.int x2), some (.int x3), some (.int x4)] [] S0 M 0 0 := by
  intro n
  induction n with
  | zero =>
    intro x1 x2 x3 x4 M r M' h
    rw [f_Mod_whispers_L9] at h
    cases h
  | succ n ih =>
    intro x1 x2 x3 x4 M r M' h
    rw [f_Mod_whispers_L9] at h
    refine V.iload dX11_whispers_9 rfl ?_
    refine V.iload_n dX11_whispers_11 rfl ?_
    refine V.icmp_ge (tgt := 45) dX11_whispers_12 (by decide) (fun hc1 => ?_) (fun hc1 => ?_)
    · replace h := ite_t hc1 h
      refine V.iload_n dX11_whispers_45 rfl ?_
      obtain ⟨e1, e2⟩ := inj2 h
      subst e1
      subst e2
      exact V.iret dX11_whispers_46 rfl rfl
    replace h := ite_f hc1 h
    refine V.iload dX11_whispers_15 rfl ?_
    refine V.iload_n dX11_whispers_17 rfl ?_
    refine V.icmp_eq (tgt := 39) dX11_whispers_18 (by decide) (fun hc2 => ?_) (fun hc2 => ?_)
    · replace h := ite_t hc2 h
      refine V.iinc dX11_whispers_39 rfl (iinc_c ic_1) (by decide) rfl ?_
      refine V.goto (tgt := 9) dX11_whispers_42 (by decide) ?_
      exact ih _ _ _ _ _ _ _ h
    replace h := ite_f hc2 h
    refine V.aload_n dX11_whispers_21 rfl ?_
    refine V.iload dX11_whispers_22 rfl ?_
    obtain ⟨v4, hv3, h⟩ := bnd_s h
    refine V.cVi dX11_whispers_24 rfl mv_RX11_338 (ok_Mod_isSaid hv3) rfl rfl s0_103 rfl (by decide) ⟨Nat.zero_le _, Nat.zero_le _⟩ (Nat.le_of_ble_eq_true rfl) (Nat.zero_le _) ?_
    refine V.if_eq (tgt := 39) dX11_whispers_27 (by decide) (fun hc5 => ?_) (fun hc5 => ?_)
    · replace h := ite_t hc5 h
      refine V.iinc dX11_whispers_39 rfl (iinc_c ic_1) (by decide) rfl ?_
      refine V.goto (tgt := 9) dX11_whispers_42 (by decide) ?_
      exact ih _ _ _ _ _ _ _ h
    replace h := ite_f hc5 h
    refine V.aload_n dX11_whispers_30 rfl ?_
    refine V.iload dX11_whispers_31 rfl ?_
    obtain ⟨M7, hv6, h⟩ := bnd_s h
    refine V.cVv dX11_whispers_33 rfl mv_RX11_341 (ok_Mod_says hv6) rfl rfl s0_103 rfl (by decide) ⟨Nat.zero_le _, Nat.zero_le _⟩ (Nat.le_of_ble_eq_true rfl) (Nat.zero_le _) ?_
    refine V.iinc dX11_whispers_36 rfl (iinc_c ic_1) (by decide) rfl ?_
    refine V.iinc dX11_whispers_39 rfl (iinc_c ic_1) (by decide) rfl ?_
    refine V.goto (tgt := 9) dX11_whispers_42 (by decide) ?_
    exact ih _ _ _ _ _ _ _ h
theorem ok_Mod_whispers {X : Sc} {l : Launch}  {M : Mem} {x1 : Int32} {x2 : Int32} {r : Int32} {M' : Mem}  (h : f_Mod_whispers x1 x2 M = some (r, M')) : Mt X l yX11_whispers cX11_whispers 5 (some .int) 6 0 0 [.ref 103, .int x1, .int x2] S0 M (some (.int r)) S0 M' := by
  refine Mt.ofV (by decide) (Nat.le_of_ble_eq_true rfl) ?_
  show V X yX11_whispers cX11_whispers 5 (some .int) (rmD 6 0 0) l (FM (some (.int r)) S0 M' 0 0) 0 [some (.ref 103), some (.int x1), some (.int x2), none, none] [] S0 M 0 0
  unfold f_Mod_whispers at h
  refine V.aload_n dX11_whispers_0 rfl ?_
  obtain ⟨M2, hv1, h⟩ := bnd_s h
  refine V.cVv dX11_whispers_1 rfl mv_RX11_335 (ok_Mod_nobodyKnows hv1) rfl rfl s0_103 rfl (by decide) ⟨Nat.zero_le _, Nat.zero_le _⟩ (Nat.le_of_ble_eq_true rfl) (Nat.zero_le _) ?_
  refine V.iconst dX11_whispers_4 ic_0 ?_
  refine V.istore_n dX11_whispers_5 (by decide) rfl ?_
  refine V.iconst dX11_whispers_6 ic_0 ?_
  refine V.istore dX11_whispers_7 (by decide) rfl ?_
  exact okc_Mod_whispers_9 _ _ _ _ _ _ _ _ h
theorem ok_Mod_lastHour {X : Sc} {l : Launch}  {M : Mem}  {r : Int32}  (h : f_Mod_lastHour M = some r) : Mt X l yX11_lastHour cX11_lastHour 1 (some .int) 1 0 0 [.ref 103] S0 M (some (.int r)) S0 M := by
  refine Mt.ofV (by decide) (Nat.le_of_ble_eq_true rfl) ?_
  show V X yX11_lastHour cX11_lastHour 1 (some .int) (rmD 1 0 0) l (FM (some (.int r)) S0 M 0 0) 0 [some (.ref 103)] [] S0 M 0 0
  unfold f_Mod_lastHour at h
  refine V.aload_n dX11_lastHour_0 rfl ?_
  refine V.getR dX11_lastHour_1 fl_RX11_7 s0_103 rfl rfl ?_
  refine V.bipush dX11_lastHour_4 bp_88 ?_
  refine V.iald dX11_lastHour_6 s0_104 rfl (vp_of (by decide)) ?_
  refine V.if_ne (tgt := 14) dX11_lastHour_7 (by decide) (fun hc1 => ?_) (fun hc1 => ?_)
  · replace h := ite_f hc1 h
    refine V.aload_n dX11_lastHour_14 rfl ?_
    refine V.aload_n dX11_lastHour_15 rfl ?_
    refine V.getR dX11_lastHour_16 fl_RX11_7 s0_103 rfl rfl ?_
    refine V.bipush dX11_lastHour_19 bp_88 ?_
    refine V.iald dX11_lastHour_21 s0_104 rfl (vp_of (by decide)) ?_
    refine V.iconst dX11_lastHour_22 ic_1 ?_
    refine V.isub dX11_lastHour_23 ?_
    refine V.iconst dX11_lastHour_24 ic_0 ?_
    obtain ⟨v3, hv2, h⟩ := bnd_s h
    refine V.cVi dX11_lastHour_25 rfl mv_RX11_332 (ok_Mod_sayOf hv2) rfl rfl s0_103 rfl (by decide) ⟨Nat.zero_le _, Nat.zero_le _⟩ (Nat.le_of_ble_eq_true rfl) (Nat.zero_le _) ?_
    have e1 := inj1 h
    subst e1
    exact V.iret dX11_lastHour_28 rfl rfl
  replace h := ite_t hc1 h
  refine V.iconst dX11_lastHour_10 ic_0 ?_
  refine V.goto (tgt := 28) dX11_lastHour_11 (by decide) ?_
  have e1 := inj1 h
  subst e1
  exact V.iret dX11_lastHour_28 rfl rfl
theorem ok_Mod_isSecret {X : Sc} {l : Launch} {sh : List Shp}  {M : Mem} {x0 : Int32} {r : Int32}  (h : f_Mod_isSecret x0 = some r) : Mt X l yX11_isSecret cX11_isSecret 1 (some .boolean) 1 0 0 [.int x0] sh M (some (.int r)) sh M := by
  refine Mt.ofV (by decide) (Nat.le_of_ble_eq_true rfl) ?_
  show V X yX11_isSecret cX11_isSecret 1 (some .boolean) (rmD 1 0 0) l (FM (some (.int r)) sh M 0 0) 0 [some (.int x0)] [] sh M 0 0
  unfold f_Mod_isSecret at h
  refine V.iload_n dX11_isSecret_0 rfl ?_
  refine V.i2l dX11_isSecret_1 ?_
  refine V.lconst dX11_isSecret_2 lc_0 ?_
  refine V.ldc2 dX11_isSecret_3 rfl kc_RX11_255 ?_
  obtain ⟨v2, hv1, h⟩ := bnd_s h
  refine V.cSi dX11_isSecret_6 rfl mv_RX11_120 (ok_Mod_in hv1) rfl rfl (by decide) ⟨Nat.zero_le _, Nat.zero_le _⟩ (Nat.le_of_ble_eq_true rfl) (Nat.zero_le _) ?_
  obtain ⟨hB3, h⟩ := ck_s h
  have e1 := inj1 h
  subst e1
  exact V.iret dX11_isSecret_9 rfl (isB_n hB3)
theorem ok_Mod_say {X : Sc} {l : Launch}  {M : Mem} {x1 : Int32} {x2 : Int32} {x3 : Int32} {r : Int32} {M' : Mem}  (h : f_Mod_say x1 x2 x3 M = some (r, M')) : Mt X l yX11_say cX11_say 5 (some .int) 2 0 0 [.ref 103, .int x1, .int x2, .int x3] S0 M (some (.int r)) S0 M' := by
  refine Mt.ofV (by decide) (Nat.le_of_ble_eq_true rfl) ?_
  show V X yX11_say cX11_say 5 (some .int) (rmD 2 0 0) l (FM (some (.int r)) S0 M' 0 0) 0 [some (.ref 103), some (.int x1), some (.int x2), some (.int x3), none] [] S0 M 0 0
  unfold f_Mod_say at h
  refine V.iload_n dX11_say_0 rfl ?_
  refine V.i2l dX11_say_1 ?_
  refine V.aload_n dX11_say_2 rfl ?_
  obtain ⟨v2, hv1, h⟩ := bnd_s h
  refine V.cVi dX11_say_3 rfl mv_RX11_344 (ok_Mod_lastHour hv1) rfl rfl s0_103 rfl (by decide) ⟨Nat.zero_le _, Nat.zero_le _⟩ (Nat.le_of_ble_eq_true rfl) (Nat.zero_le _) ?_
  refine V.i2l dX11_say_6 ?_
  refine V.ldc2 dX11_say_7 rfl kc_RX11_217 ?_
  obtain ⟨v4, hv3, h⟩ := bnd_s h
  refine V.cSi dX11_say_10 rfl mv_RX11_120 (ok_Mod_in hv3) rfl rfl (by decide) ⟨Nat.zero_le _, Nat.zero_le _⟩ (Nat.le_of_ble_eq_true rfl) (Nat.zero_le _) ?_
  refine V.if_eq (tgt := 31) dX11_say_13 (by decide) (fun hc5 => ?_) (fun hc5 => ?_)
  · replace h := ite_t hc5 h
    refine V.iconst dX11_say_31 ic_m1 ?_
    obtain ⟨e1, e2⟩ := inj2 h
    subst e1
    subst e2
    exact V.iret dX11_say_32 rfl rfl
  replace h := ite_f hc5 h
  refine V.aload_n dX11_say_16 rfl ?_
  refine V.iload_n dX11_say_17 rfl ?_
  obtain ⟨v7, hv6, h⟩ := bnd_s h
  refine V.cVi dX11_say_18 rfl mv_RX11_248 (ok_Mod_isOne hv6) rfl rfl s0_103 rfl (by decide) ⟨Nat.zero_le _, Nat.zero_le _⟩ (Nat.le_of_ble_eq_true rfl) (Nat.zero_le _) ?_
  refine V.if_eq (tgt := 31) dX11_say_21 (by decide) (fun hc8 => ?_) (fun hc8 => ?_)
  · replace h := ite_t hc8 h
    refine V.iconst dX11_say_31 ic_m1 ?_
    obtain ⟨e1, e2⟩ := inj2 h
    subst e1
    subst e2
    exact V.iret dX11_say_32 rfl rfl
  replace h := ite_f hc8 h
  refine V.iload_n dX11_say_24 rfl ?_
  obtain ⟨v10, hv9, h⟩ := bnd_s h
  refine V.cSi dX11_say_25 rfl mv_RX11_347 (ok_Mod_isSecret hv9) rfl rfl (by decide) ⟨Nat.zero_le _, Nat.zero_le _⟩ (Nat.le_of_ble_eq_true rfl) (Nat.zero_le _) ?_
  refine V.if_ne (tgt := 33) dX11_say_28 (by decide) (fun hc11 => ?_) (fun hc11 => ?_)
  · replace h := ite_f hc11 h
    refine V.aload_n dX11_say_33 rfl ?_
    refine V.getR dX11_say_34 fl_RX11_7 s0_103 rfl rfl ?_
    refine V.bipush dX11_say_37 bp_88 ?_
    refine V.iald dX11_say_39 s0_104 rfl (vp_of (by decide)) ?_
    refine V.bipush dX11_say_40 bp_12 ?_
    refine V.icmp_ne (tgt := 48) dX11_say_42 (by decide) (fun hc12 => ?_) (fun hc12 => ?_)
    · replace h := ite_f hc12 h
      refine V.bipush dX11_say_48 bp_89 ?_
      refine V.iconst dX11_say_50 ic_3 ?_
      refine V.aload_n dX11_say_51 rfl ?_
      refine V.getR dX11_say_52 fl_RX11_7 s0_103 rfl rfl ?_
      refine V.bipush dX11_say_55 bp_88 ?_
      refine V.iald dX11_say_57 s0_104 rfl (vp_of (by decide)) ?_
      refine V.imul dX11_say_58 ?_
      refine V.iadd dX11_say_59 ?_
      refine V.nmI (fun w13 hw13 => ?_)
      replace h := nmI_at h w13 hw13
      refine V.istore dX11_say_60 (by decide) rfl ?_
      refine V.aload_n dX11_say_62 rfl ?_
      refine V.getR dX11_say_63 fl_RX11_7 s0_103 rfl rfl ?_
      refine V.iload dX11_say_66 rfl ?_
      refine V.iload_n dX11_say_68 rfl ?_
      obtain ⟨hb14, h⟩ := ck_s h
      refine V.iast dX11_say_69 s0_104 rfl (vp_of hb14) (fun M15 hM15 => ?_)
      replace h := setM_at h M15 hM15
      refine V.aload_n dX11_say_70 rfl ?_
      refine V.getR dX11_say_71 fl_RX11_7 s0_103 rfl rfl ?_
      refine V.iload dX11_say_74 rfl ?_
      refine V.iconst dX11_say_76 ic_1 ?_
      refine V.iadd dX11_say_77 ?_
      refine V.iload_n dX11_say_78 rfl ?_
      obtain ⟨hb16, h⟩ := ck_s h
      refine V.iast dX11_say_79 s0_104 rfl (vp_of hb16) (fun M17 hM17 => ?_)
      replace h := setM_at h M17 hM17
      refine V.aload_n dX11_say_80 rfl ?_
      refine V.getR dX11_say_81 fl_RX11_7 s0_103 rfl rfl ?_
      refine V.iload dX11_say_84 rfl ?_
      refine V.iconst dX11_say_86 ic_2 ?_
      refine V.iadd dX11_say_87 ?_
      refine V.iload_n dX11_say_88 rfl ?_
      obtain ⟨hb18, h⟩ := ck_s h
      refine V.iast dX11_say_89 s0_104 rfl (vp_of hb18) (fun M19 hM19 => ?_)
      replace h := setM_at h M19 hM19
      refine V.aload_n dX11_say_90 rfl ?_
      refine V.getR dX11_say_91 fl_RX11_7 s0_103 rfl rfl ?_
      refine V.bipush dX11_say_94 bp_88 ?_
      refine V.dup2 dX11_say_96 rfl rfl ?_
      refine V.iald dX11_say_97 s0_104 rfl (vp_of (by decide)) ?_
      refine V.iconst dX11_say_98 ic_1 ?_
      refine V.iadd dX11_say_99 ?_
      refine V.iast dX11_say_100 s0_104 rfl (vp_of (by decide)) (fun M20 hM20 => ?_)
      replace h := setM_at h M20 hM20
      refine V.aload_n dX11_say_101 rfl ?_
      refine V.getR dX11_say_102 fl_RX11_7 s0_103 rfl rfl ?_
      refine V.bipush dX11_say_105 bp_88 ?_
      refine V.iald dX11_say_107 s0_104 rfl (vp_of (by decide)) ?_
      obtain ⟨e1, e2⟩ := inj2 h
      subst e1
      subst e2
      exact V.iret dX11_say_108 rfl rfl
    replace h := ite_t hc12 h
    refine V.bipush dX11_say_45 bp_m3 ?_
    obtain ⟨e1, e2⟩ := inj2 h
    subst e1
    subst e2
    exact V.iret dX11_say_47 rfl rfl
  replace h := ite_t hc11 h
  refine V.iconst dX11_say_31 ic_m1 ?_
  obtain ⟨e1, e2⟩ := inj2 h
  subst e1
  subst e2
  exact V.iret dX11_say_32 rfl rfl
theorem ok_Mod_unsay {X : Sc} {l : Launch}  {M : Mem} {x1 : Int32} {r : Int32} {M' : Mem}  (h : f_Mod_unsay x1 M = some (r, M')) : Mt X l yX11_unsay cX11_unsay 3 (some .int) 1 0 0 [.ref 103, .int x1] S0 M (some (.int r)) S0 M' := by
  refine Mt.ofV (by decide) (Nat.le_of_ble_eq_true rfl) ?_
  show V X yX11_unsay cX11_unsay 3 (some .int) (rmD 1 0 0) l (FM (some (.int r)) S0 M' 0 0) 0 [some (.ref 103), some (.int x1), none] [] S0 M 0 0
  unfold f_Mod_unsay at h
  refine V.iload_n dX11_unsay_0 rfl ?_
  refine V.i2l dX11_unsay_1 ?_
  refine V.lconst dX11_unsay_2 lc_0 ?_
  refine V.aload_n dX11_unsay_3 rfl ?_
  refine V.getR dX11_unsay_4 fl_RX11_7 s0_103 rfl rfl ?_
  refine V.bipush dX11_unsay_7 bp_88 ?_
  refine V.iald dX11_unsay_9 s0_104 rfl (vp_of (by decide)) ?_
  refine V.i2l dX11_unsay_10 ?_
  obtain ⟨v2, hv1, h⟩ := bnd_s h
  refine V.cSi dX11_unsay_11 rfl mv_RX11_120 (ok_Mod_in hv1) rfl rfl (by decide) ⟨Nat.zero_le _, Nat.zero_le _⟩ (Nat.le_of_ble_eq_true rfl) (Nat.zero_le _) ?_
  refine V.if_ne (tgt := 19) dX11_unsay_14 (by decide) (fun hc3 => ?_) (fun hc3 => ?_)
  · replace h := ite_f hc3 h
    refine V.aload_n dX11_unsay_19 rfl ?_
    refine V.getR dX11_unsay_20 fl_RX11_7 s0_103 rfl rfl ?_
    refine V.bipush dX11_unsay_23 bp_88 ?_
    refine V.iald dX11_unsay_25 s0_104 rfl (vp_of (by decide)) ?_
    refine V.nmI (fun w4 hw4 => ?_)
    replace h := nmI_at h w4 hw4
    refine V.istore_n dX11_unsay_26 (by decide) rfl ?_
    refine V.aload_n dX11_unsay_27 rfl ?_
    refine V.getR dX11_unsay_28 fl_RX11_7 s0_103 rfl rfl ?_
    refine V.bipush dX11_unsay_31 bp_88 ?_
    refine V.iload_n dX11_unsay_33 rfl ?_
    refine V.iast dX11_unsay_34 s0_104 rfl (vp_of (by decide)) (fun M5 hM5 => ?_)
    replace h := setM_at h M5 hM5
    refine V.iload_n dX11_unsay_35 rfl ?_
    obtain ⟨e1, e2⟩ := inj2 h
    subst e1
    subst e2
    exact V.iret dX11_unsay_36 rfl rfl
  replace h := ite_t hc3 h
  refine V.iconst dX11_unsay_17 ic_m1 ?_
  obtain ⟨e1, e2⟩ := inj2 h
  subst e1
  subst e2
  exact V.iret dX11_unsay_18 rfl rfl
theorem ok_Mod_isSay {X : Sc} {l : Launch}  {M : Mem} {x1 : Int32} {r : Int32}  (h : f_Mod_isSay M x1 = some r) : Mt X l yX11_isSay cX11_isSay 2 (some .boolean) 1 0 0 [.ref 103, .int x1] S0 M (some (.int r)) S0 M := by
  refine Mt.ofV (by decide) (Nat.le_of_ble_eq_true rfl) ?_
  show V X yX11_isSay cX11_isSay 2 (some .boolean) (rmD 1 0 0) l (FM (some (.int r)) S0 M 0 0) 0 [some (.ref 103), some (.int x1)] [] S0 M 0 0
  unfold f_Mod_isSay at h
  refine V.iload_n dX11_isSay_0 rfl ?_
  refine V.i2l dX11_isSay_1 ?_
  refine V.lconst dX11_isSay_2 lc_0 ?_
  refine V.aload_n dX11_isSay_3 rfl ?_
  refine V.getR dX11_isSay_4 fl_RX11_7 s0_103 rfl rfl ?_
  refine V.bipush dX11_isSay_7 bp_88 ?_
  refine V.iald dX11_isSay_9 s0_104 rfl (vp_of (by decide)) ?_
  refine V.iconst dX11_isSay_10 ic_1 ?_
  refine V.isub dX11_isSay_11 ?_
  refine V.i2l dX11_isSay_12 ?_
  obtain ⟨v2, hv1, h⟩ := bnd_s h
  refine V.cSi dX11_isSay_13 rfl mv_RX11_120 (ok_Mod_in hv1) rfl rfl (by decide) ⟨Nat.zero_le _, Nat.zero_le _⟩ (Nat.le_of_ble_eq_true rfl) (Nat.zero_le _) ?_
  obtain ⟨hB3, h⟩ := ck_s h
  have e1 := inj1 h
  subst e1
  exact V.iret dX11_isSay_16 rfl (isB_n hB3)
theorem ok_Mod_said {X : Sc} {l : Launch}  {M : Mem} {x1 : Int32} {x2 : Int32} {r : Int32} {M' : Mem}  (h : f_Mod_said x1 x2 M = some (r, M')) : Mt X l yX11_said cX11_said 3 (some .int) 7 0 0 [.ref 103, .int x1, .int x2] S0 M (some (.int r)) S0 M' := by
  refine Mt.ofV (by decide) (Nat.le_of_ble_eq_true rfl) ?_
  show V X yX11_said cX11_said 3 (some .int) (rmD 7 0 0) l (FM (some (.int r)) S0 M' 0 0) 0 [some (.ref 103), some (.int x1), some (.int x2)] [] S0 M 0 0
  unfold f_Mod_said at h
  refine V.aload_n dX11_said_0 rfl ?_
  refine V.iload_n dX11_said_1 rfl ?_
  obtain ⟨v2, hv1, h⟩ := bnd_s h
  refine V.cVi dX11_said_2 rfl mv_RX11_350 (ok_Mod_isSay hv1) rfl rfl s0_103 rfl (by decide) ⟨Nat.zero_le _, Nat.zero_le _⟩ (Nat.le_of_ble_eq_true rfl) (Nat.zero_le _) ?_
  refine V.if_eq (tgt := 20) dX11_said_5 (by decide) (fun hc3 => ?_) (fun hc3 => ?_)
  · replace h := ite_t hc3 h
    refine V.iconst dX11_said_20 ic_m1 ?_
    obtain ⟨e1, e2⟩ := inj2 h
    subst e1
    subst e2
    exact V.iret dX11_said_21 rfl rfl
  replace h := ite_f hc3 h
  refine V.iload_n dX11_said_8 rfl ?_
  refine V.i2l dX11_said_9 ?_
  refine V.lconst dX11_said_10 lc_0 ?_
  refine V.ldc2 dX11_said_11 rfl kc_RX11_251 ?_
  obtain ⟨v5, hv4, h⟩ := bnd_s h
  refine V.cSi dX11_said_14 rfl mv_RX11_120 (ok_Mod_in hv4) rfl rfl (by decide) ⟨Nat.zero_le _, Nat.zero_le _⟩ (Nat.le_of_ble_eq_true rfl) (Nat.zero_le _) ?_
  refine V.if_ne (tgt := 22) dX11_said_17 (by decide) (fun hc6 => ?_) (fun hc6 => ?_)
  · replace h := ite_f hc6 h
    refine V.iload_n dX11_said_22 rfl ?_
    refine V.iconst dX11_said_23 ic_3 ?_
    refine V.icmp_ge (tgt := 34) dX11_said_24 (by decide) (fun hc7 => ?_) (fun hc7 => ?_)
    · replace h := ite_t hc7 h
      refine V.aload_n dX11_said_34 rfl ?_
      refine V.iload_n dX11_said_35 rfl ?_
      refine V.bipush dX11_said_36 bp_m4 ?_
      obtain ⟨v9, M10, hv8, h⟩ := bnd2_s h
      refine V.cVi dX11_said_38 rfl mv_RX11_353 (ok_Mod_whispers hv8) rfl rfl s0_103 rfl (by decide) ⟨Nat.zero_le _, Nat.zero_le _⟩ (Nat.le_of_ble_eq_true rfl) (Nat.zero_le _) ?_
      refine V.pop dX11_said_41 rfl ?_
      refine V.aload_n dX11_said_42 rfl ?_
      refine V.iload_n dX11_said_43 rfl ?_
      obtain ⟨v12, hv11, h⟩ := bnd_s h
      refine V.cVi dX11_said_44 rfl mv_RX11_338 (ok_Mod_isSaid hv11) rfl rfl s0_103 rfl (by decide) ⟨Nat.zero_le _, Nat.zero_le _⟩ (Nat.le_of_ble_eq_true rfl) (Nat.zero_le _) ?_
      obtain ⟨v14, hv13, h⟩ := bnd_s h
      refine V.cSi dX11_said_47 rfl mv_RX11_195 (ok_Mod_flag hv13) rfl rfl (by decide) ⟨Nat.zero_le _, Nat.zero_le _⟩ (Nat.le_of_ble_eq_true rfl) (Nat.zero_le _) ?_
      obtain ⟨e1, e2⟩ := inj2 h
      subst e1
      subst e2
      exact V.iret dX11_said_50 rfl rfl
    replace h := ite_f hc7 h
    refine V.aload_n dX11_said_27 rfl ?_
    refine V.iload_n dX11_said_28 rfl ?_
    refine V.iload_n dX11_said_29 rfl ?_
    obtain ⟨v16, hv15, h⟩ := bnd_s h
    refine V.cVi dX11_said_30 rfl mv_RX11_332 (ok_Mod_sayOf hv15) rfl rfl s0_103 rfl (by decide) ⟨Nat.zero_le _, Nat.zero_le _⟩ (Nat.le_of_ble_eq_true rfl) (Nat.zero_le _) ?_
    obtain ⟨e1, e2⟩ := inj2 h
    subst e1
    subst e2
    exact V.iret dX11_said_33 rfl rfl
  replace h := ite_t hc6 h
  refine V.iconst dX11_said_20 ic_m1 ?_
  obtain ⟨e1, e2⟩ := inj2 h
  subst e1
  subst e2
  exact V.iret dX11_said_21 rfl rfl
theorem okc_Mod_knows_40 {X : Sc} {l : Launch}     : ∀ (n : Nat) (x1 : Int32) (x3 : Int32) (x4 : Int32) (M : Mem) (r : Int32) (M' : Mem), f_Mod_knows_L40  n x1 x3 x4 M = some (r, M') → V X yX11_knows cX11_knows 5 (some .int) (rmD 7 0 0) l (FM (some (.int r)) S0 M' 0 0) 40 [some (.ref 103), some (.int x1), none, some (.int x3), some (.int x4)] [] S0 M 0 0 := by
  intro n
  induction n with
  | zero =>
    intro x1 x3 x4 M r M' h
    rw [f_Mod_knows_L40] at h
    cases h
  | succ n ih =>
    intro x1 x3 x4 M r M' h
    rw [f_Mod_knows_L40] at h
    refine V.iload dX11_knows_40 rfl ?_
    refine V.bipush dX11_knows_42 bp_8 ?_
    refine V.icmp_ge (tgt := 70) dX11_knows_44 (by decide) (fun hc1 => ?_) (fun hc1 => ?_)
    · replace h := ite_t hc1 h
      refine V.iload_n dX11_knows_70 rfl ?_
      obtain ⟨e1, e2⟩ := inj2 h
      subst e1
      subst e2
      exact V.iret dX11_knows_71 rfl rfl
    replace h := ite_f hc1 h
    refine V.iload_n dX11_knows_47 rfl ?_
    refine V.aload_n dX11_knows_48 rfl ?_
    refine V.getR dX11_knows_49 fl_RX11_53 s0_103 rfl rfl ?_
    refine V.iload dX11_knows_52 rfl ?_
    obtain ⟨hb2, h⟩ := ck_s h
    refine V.iald dX11_knows_54 s0_118 rfl (vp_of hb2) ?_
    refine V.iload_n dX11_knows_55 rfl ?_
    refine V.ishr dX11_knows_56 ?_
    refine V.iconst dX11_knows_57 ic_1 ?_
    refine V.iand dX11_knows_58 ?_
    refine V.iload dX11_knows_59 rfl ?_
    refine V.ishl dX11_knows_61 ?_
    refine V.ior dX11_knows_62 ?_
    refine V.nmI (fun w3 hw3 => ?_)
    replace h := nmI_at h w3 hw3
    refine V.istore_n dX11_knows_63 (by decide) rfl ?_
    refine V.iinc dX11_knows_64 rfl (iinc_c ic_1) (by decide) rfl ?_
    refine V.goto (tgt := 40) dX11_knows_67 (by decide) ?_
    exact ih _ _ _ _ _ _ h
theorem ok_Mod_knows {X : Sc} {l : Launch}  {M : Mem} {x1 : Int32} {x2 : Int32} {r : Int32} {M' : Mem}  (h : f_Mod_knows x1 x2 M = some (r, M')) : Mt X l yX11_knows cX11_knows 5 (some .int) 7 0 0 [.ref 103, .int x1, .int x2] S0 M (some (.int r)) S0 M' := by
  refine Mt.ofV (by decide) (Nat.le_of_ble_eq_true rfl) ?_
  show V X yX11_knows cX11_knows 5 (some .int) (rmD 7 0 0) l (FM (some (.int r)) S0 M' 0 0) 0 [some (.ref 103), some (.int x1), some (.int x2), none, none] [] S0 M 0 0
  unfold f_Mod_knows at h
  refine V.aload_n dX11_knows_0 rfl ?_
  refine V.iload_n dX11_knows_1 rfl ?_
  obtain ⟨v2, hv1, h⟩ := bnd_s h
  refine V.cVi dX11_knows_2 rfl mv_RX11_248 (ok_Mod_isOne hv1) rfl rfl s0_103 rfl (by decide) ⟨Nat.zero_le _, Nat.zero_le _⟩ (Nat.le_of_ble_eq_true rfl) (Nat.zero_le _) ?_
  refine V.if_eq (tgt := 25) dX11_knows_5 (by decide) (fun hc3 => ?_) (fun hc3 => ?_)
  · replace h := ite_t hc3 h
    refine V.iconst dX11_knows_25 ic_m1 ?_
    obtain ⟨e1, e2⟩ := inj2 h
    subst e1
    subst e2
    exact V.iret dX11_knows_26 rfl rfl
  replace h := ite_f hc3 h
  refine V.iload_n dX11_knows_8 rfl ?_
  refine V.i2l dX11_knows_9 ?_
  refine V.lconst dX11_knows_10 lc_0 ?_
  refine V.aload_n dX11_knows_11 rfl ?_
  refine V.getR dX11_knows_12 fl_RX11_7 s0_103 rfl rfl ?_
  refine V.bipush dX11_knows_15 bp_88 ?_
  refine V.iald dX11_knows_17 s0_104 rfl (vp_of (by decide)) ?_
  refine V.i2l dX11_knows_18 ?_
  obtain ⟨v5, hv4, h⟩ := bnd_s h
  refine V.cSi dX11_knows_19 rfl mv_RX11_120 (ok_Mod_in hv4) rfl rfl (by decide) ⟨Nat.zero_le _, Nat.zero_le _⟩ (Nat.le_of_ble_eq_true rfl) (Nat.zero_le _) ?_
  refine V.if_ne (tgt := 27) dX11_knows_22 (by decide) (fun hc6 => ?_) (fun hc6 => ?_)
  · replace h := ite_f hc6 h
    refine V.aload_n dX11_knows_27 rfl ?_
    refine V.iload_n dX11_knows_28 rfl ?_
    refine V.bipush dX11_knows_29 bp_m4 ?_
    obtain ⟨v8, M9, hv7, h⟩ := bnd2_s h
    refine V.cVi dX11_knows_31 rfl mv_RX11_353 (ok_Mod_whispers hv7) rfl rfl s0_103 rfl (by decide) ⟨Nat.zero_le _, Nat.zero_le _⟩ (Nat.le_of_ble_eq_true rfl) (Nat.zero_le _) ?_
    refine V.pop dX11_knows_34 rfl ?_
    refine V.iconst dX11_knows_35 ic_0 ?_
    refine V.istore_n dX11_knows_36 (by decide) rfl ?_
    refine V.iconst dX11_knows_37 ic_0 ?_
    refine V.istore dX11_knows_38 (by decide) rfl ?_
    refine V.mask [true, true, false, true, true] rfl ?_
    exact okc_Mod_knows_40 _ _ _ _ _ _ _ h
  replace h := ite_t hc6 h
  refine V.iconst dX11_knows_25 ic_m1 ?_
  obtain ⟨e1, e2⟩ := inj2 h
  subst e1
  subst e2
  exact V.iret dX11_knows_26 rfl rfl
theorem okc_Mod_since_19 {X : Sc} {l : Launch}     : ∀ (n : Nat) (x1 : Int32) (x2 : Int32) (x3 : Int32) (M : Mem) (r : Int32) (M' : Mem), f_Mod_since_L19  n x1 x2 x3 M = some (r, M') → V X yX11_since cX11_since 4 (some .int) (rmD 7 0 0) l (FM (some (.int r)) S0 M' 0 0) 19 [some (.ref 103), some (.int x1), some (.int x2), some (.int x3)] [] S0 M 0 0 := by
  intro n
  induction n with
  | zero =>
    intro x1 x2 x3 M r M' h
    rw [f_Mod_since_L19] at h
    cases h
  | succ n ih =>
    intro x1 x2 x3 M r M' h
    rw [f_Mod_since_L19] at h
    refine V.iload_n dX11_since_19 rfl ?_
    refine V.aload_n dX11_since_20 rfl ?_
    refine V.getR dX11_since_21 fl_RX11_7 s0_103 rfl rfl ?_
    refine V.bipush dX11_since_24 bp_88 ?_
    refine V.iald dX11_since_26 s0_104 rfl (vp_of (by decide)) ?_
    refine V.icmp_ge (tgt := 62) dX11_since_27 (by decide) (fun hc1 => ?_) (fun hc1 => ?_)
    · replace h := ite_t hc1 h
      refine V.bipush dX11_since_62 bp_m4 ?_
      obtain ⟨e1, e2⟩ := inj2 h
      subst e1
      subst e2
      exact V.iret dX11_since_64 rfl rfl
    replace h := ite_f hc1 h
    refine V.aload_n dX11_since_30 rfl ?_
    refine V.iload_n dX11_since_31 rfl ?_
    refine V.iconst dX11_since_32 ic_1 ?_
    refine V.iadd dX11_since_33 ?_
    refine V.bipush dX11_since_34 bp_m4 ?_
    obtain ⟨v3, M4, hv2, h⟩ := bnd2_s h
    refine V.cVi dX11_since_36 rfl mv_RX11_353 (ok_Mod_whispers hv2) rfl rfl s0_103 rfl (by decide) ⟨Nat.zero_le _, Nat.zero_le _⟩ (Nat.le_of_ble_eq_true rfl) (Nat.zero_le _) ?_
    refine V.pop dX11_since_39 rfl ?_
    refine V.aload_n dX11_since_40 rfl ?_
    refine V.getR dX11_since_41 fl_RX11_53 s0_103 rfl rfl ?_
    refine V.iload_n dX11_since_44 rfl ?_
    obtain ⟨hb5, h⟩ := ck_s h
    refine V.iald dX11_since_45 s0_118 rfl (vp_of hb5) ?_
    refine V.iload_n dX11_since_46 rfl ?_
    refine V.ishr dX11_since_47 ?_
    refine V.iconst dX11_since_48 ic_1 ?_
    refine V.iand dX11_since_49 ?_
    refine V.iconst dX11_since_50 ic_1 ?_
    refine V.icmp_ne (tgt := 56) dX11_since_51 (by decide) (fun hc6 => ?_) (fun hc6 => ?_)
    · replace h := ite_f hc6 h
      refine V.iinc dX11_since_56 rfl (iinc_c ic_1) (by decide) rfl ?_
      refine V.goto (tgt := 19) dX11_since_59 (by decide) ?_
      exact ih _ _ _ _ _ _ h
    replace h := ite_t hc6 h
    refine V.iload_n dX11_since_54 rfl ?_
    obtain ⟨e1, e2⟩ := inj2 h
    subst e1
    subst e2
    exact V.iret dX11_since_55 rfl rfl
theorem ok_Mod_since {X : Sc} {l : Launch}  {M : Mem} {x1 : Int32} {x2 : Int32} {r : Int32} {M' : Mem}  (h : f_Mod_since x1 x2 M = some (r, M')) : Mt X l yX11_since cX11_since 4 (some .int) 7 0 0 [.ref 103, .int x1, .int x2] S0 M (some (.int r)) S0 M' := by
  refine Mt.ofV (by decide) (Nat.le_of_ble_eq_true rfl) ?_
  show V X yX11_since cX11_since 4 (some .int) (rmD 7 0 0) l (FM (some (.int r)) S0 M' 0 0) 0 [some (.ref 103), some (.int x1), some (.int x2), none] [] S0 M 0 0
  unfold f_Mod_since at h
  refine V.aload_n dX11_since_0 rfl ?_
  refine V.iload_n dX11_since_1 rfl ?_
  obtain ⟨v2, hv1, h⟩ := bnd_s h
  refine V.cVi dX11_since_2 rfl mv_RX11_248 (ok_Mod_isOne hv1) rfl rfl s0_103 rfl (by decide) ⟨Nat.zero_le _, Nat.zero_le _⟩ (Nat.le_of_ble_eq_true rfl) (Nat.zero_le _) ?_
  refine V.if_eq (tgt := 15) dX11_since_5 (by decide) (fun hc3 => ?_) (fun hc3 => ?_)
  · replace h := ite_t hc3 h
    refine V.iconst dX11_since_15 ic_m1 ?_
    obtain ⟨e1, e2⟩ := inj2 h
    subst e1
    subst e2
    exact V.iret dX11_since_16 rfl rfl
  replace h := ite_f hc3 h
  refine V.iload_n dX11_since_8 rfl ?_
  obtain ⟨v5, hv4, h⟩ := bnd_s h
  refine V.cSi dX11_since_9 rfl mv_RX11_347 (ok_Mod_isSecret hv4) rfl rfl (by decide) ⟨Nat.zero_le _, Nat.zero_le _⟩ (Nat.le_of_ble_eq_true rfl) (Nat.zero_le _) ?_
  refine V.if_ne (tgt := 17) dX11_since_12 (by decide) (fun hc6 => ?_) (fun hc6 => ?_)
  · replace h := ite_f hc6 h
    refine V.iconst dX11_since_17 ic_0 ?_
    refine V.istore_n dX11_since_18 (by decide) rfl ?_
    exact okc_Mod_since_19 _ _ _ _ _ _ _ h
  replace h := ite_t hc6 h
  refine V.iconst dX11_since_15 ic_m1 ?_
  obtain ⟨e1, e2⟩ := inj2 h
  subst e1
  subst e2
  exact V.iret dX11_since_16 rfl rfl
theorem okc_Mod_leak_42 {X : Sc} {l : Launch}     : ∀ (n : Nat) (x1 : Int32) (x2 : Int32) (x3 : Int32) (x4 : Int32) (M : Mem) (r : Int32) (M' : Mem), f_Mod_leak_L42  n x1 x2 x3 x4 M = some (r, M') → V X yX11_leak cX11_leak 6 (some .int) (rmD 7 0 0) l (FM (some (.int r)) S0 M' 0 0) 42 [some (.ref 103), some (.int x1), some (.int x2), some (.int x3), some (.int x4), none] [] S0 M 0 0 := by
  intro n
  induction n with
  | zero =>
    intro x1 x2 x3 x4 M r M' h
    rw [f_Mod_leak_L42] at h
    cases h
  | succ n ih =>
    intro x1 x2 x3 x4 M r M' h
    rw [f_Mod_leak_L42] at h
    refine V.iload dX11_leak_42 rfl ?_
    refine V.aload_n dX11_leak_44 rfl ?_
    refine V.getR dX11_leak_45 fl_RX11_7 s0_103 rfl rfl ?_
    refine V.bipush dX11_leak_48 bp_88 ?_
    refine V.iald dX11_leak_50 s0_104 rfl (vp_of (by decide)) ?_
    refine V.icmp_ge (tgt := 115) dX11_leak_51 (by decide) (fun hc1 => ?_) (fun hc1 => ?_)
    · replace h := ite_t hc1 h
      refine V.bipush dX11_leak_115 bp_m4 ?_
      obtain ⟨e1, e2⟩ := inj2 h
      subst e1
      subst e2
      exact V.iret dX11_leak_117 rfl rfl
    replace h := ite_f hc1 h
    refine V.aload_n dX11_leak_54 rfl ?_
    refine V.iload dX11_leak_55 rfl ?_
    refine V.iconst dX11_leak_57 ic_1 ?_
    refine V.iadd dX11_leak_58 ?_
    refine V.bipush dX11_leak_59 bp_m4 ?_
    obtain ⟨v3, M4, hv2, h⟩ := bnd2_s h
    refine V.cVi dX11_leak_61 rfl mv_RX11_353 (ok_Mod_whispers hv2) rfl rfl s0_103 rfl (by decide) ⟨Nat.zero_le _, Nat.zero_le _⟩ (Nat.le_of_ble_eq_true rfl) (Nat.zero_le _) ?_
    refine V.pop dX11_leak_64 rfl ?_
    refine V.aload_n dX11_leak_65 rfl ?_
    refine V.getR dX11_leak_66 fl_RX11_53 s0_103 rfl rfl ?_
    refine V.iload_n dX11_leak_69 rfl ?_
    obtain ⟨hb5, h⟩ := ck_s h
    refine V.iald dX11_leak_70 s0_118 rfl (vp_of hb5) ?_
    refine V.iload_n dX11_leak_71 rfl ?_
    refine V.iconst dX11_leak_72 ic_m1 ?_
    refine V.ixor dX11_leak_73 ?_
    refine V.iand dX11_leak_74 ?_
    refine V.nmI (fun w6 hw6 => ?_)
    replace h := nmI_at h w6 hw6
    refine V.istore dX11_leak_75 (by decide) rfl ?_
    refine V.iload dX11_leak_77 rfl ?_
    refine V.if_eq (tgt := 109) dX11_leak_79 (by decide) (fun hc7 => ?_) (fun hc7 => ?_)
    · replace h := ite_t hc7 h
      refine V.iinc dX11_leak_109 rfl (iinc_c ic_1) (by decide) rfl ?_
      refine V.goto (tgt := 42) dX11_leak_112 (by decide) ?_
      refine V.mask [true, true, true, true, true, false] rfl ?_
      exact ih _ _ _ _ _ _ _ h
    replace h := ite_f hc7 h
    refine V.iload_n dX11_leak_82 rfl ?_
    refine V.if_ne (tgt := 91) dX11_leak_83 (by decide) (fun hc8 => ?_) (fun hc8 => ?_)
    · replace h := ite_f hc8 h
      refine V.iload_n dX11_leak_91 rfl ?_
      refine V.iconst dX11_leak_92 ic_1 ?_
      refine V.icmp_ne (tgt := 106) dX11_leak_93 (by decide) (fun hc9 => ?_) (fun hc9 => ?_)
      · replace h := ite_f hc9 h
        refine V.iload dX11_leak_106 rfl ?_
        obtain ⟨e1, e2⟩ := inj2 h
        subst e1
        subst e2
        exact V.iret dX11_leak_108 rfl rfl
      replace h := ite_t hc9 h
      refine V.aload_n dX11_leak_96 rfl ?_
      refine V.iload dX11_leak_97 rfl ?_
      refine V.iconst dX11_leak_99 ic_1 ?_
      obtain ⟨v11, hv10, h⟩ := bnd_s h
      refine V.cVi dX11_leak_100 rfl mv_RX11_332 (ok_Mod_sayOf hv10) rfl rfl s0_103 rfl (by decide) ⟨Nat.zero_le _, Nat.zero_le _⟩ (Nat.le_of_ble_eq_true rfl) (Nat.zero_le _) ?_
      refine V.goto (tgt := 108) dX11_leak_103 (by decide) ?_
      obtain ⟨e1, e2⟩ := inj2 h
      subst e1
      subst e2
      exact V.iret dX11_leak_108 rfl rfl
    replace h := ite_t hc8 h
    refine V.iload dX11_leak_86 rfl ?_
    refine V.goto (tgt := 108) dX11_leak_88 (by decide) ?_
    obtain ⟨e1, e2⟩ := inj2 h
    subst e1
    subst e2
    exact V.iret dX11_leak_108 rfl rfl
theorem ok_Mod_leak {X : Sc} {l : Launch}  {M : Mem} {x1 : Int32} {x2 : Int32} {x3 : Int32} {r : Int32} {M' : Mem}  (h : f_Mod_leak x1 x2 x3 M = some (r, M')) : Mt X l yX11_leak cX11_leak 6 (some .int) 7 0 0 [.ref 103, .int x1, .int x2, .int x3] S0 M (some (.int r)) S0 M' := by
  refine Mt.ofV (by decide) (Nat.le_of_ble_eq_true rfl) ?_
  show V X yX11_leak cX11_leak 6 (some .int) (rmD 7 0 0) l (FM (some (.int r)) S0 M' 0 0) 0 [some (.ref 103), some (.int x1), some (.int x2), some (.int x3), none, none] [] S0 M 0 0
  unfold f_Mod_leak at h
  refine V.iload_n dX11_leak_0 rfl ?_
  obtain ⟨v2, hv1, h⟩ := bnd_s h
  refine V.cSi dX11_leak_1 rfl mv_RX11_347 (ok_Mod_isSecret hv1) rfl rfl (by decide) ⟨Nat.zero_le _, Nat.zero_le _⟩ (Nat.le_of_ble_eq_true rfl) (Nat.zero_le _) ?_
  refine V.if_eq (tgt := 37) dX11_leak_4 (by decide) (fun hc3 => ?_) (fun hc3 => ?_)
  · replace h := ite_t hc3 h
    refine V.iconst dX11_leak_37 ic_m1 ?_
    obtain ⟨e1, e2⟩ := inj2 h
    subst e1
    subst e2
    exact V.iret dX11_leak_38 rfl rfl
  replace h := ite_f hc3 h
  refine V.iload_n dX11_leak_7 rfl ?_
  refine V.i2l dX11_leak_8 ?_
  refine V.lconst dX11_leak_9 lc_0 ?_
  refine V.iconst dX11_leak_10 ic_1 ?_
  refine V.aload_n dX11_leak_11 rfl ?_
  refine V.getI dX11_leak_12 fl_RX11_109 s0_103 rfl rfl ?_
  refine V.ishl dX11_leak_15 ?_
  refine V.iconst dX11_leak_16 ic_1 ?_
  refine V.isub dX11_leak_17 ?_
  refine V.i2l dX11_leak_18 ?_
  obtain ⟨v5, hv4, h⟩ := bnd_s h
  refine V.cSi dX11_leak_19 rfl mv_RX11_120 (ok_Mod_in hv4) rfl rfl (by decide) ⟨Nat.zero_le _, Nat.zero_le _⟩ (Nat.le_of_ble_eq_true rfl) (Nat.zero_le _) ?_
  refine V.if_eq (tgt := 37) dX11_leak_22 (by decide) (fun hc6 => ?_) (fun hc6 => ?_)
  · replace h := ite_t hc6 h
    refine V.iconst dX11_leak_37 ic_m1 ?_
    obtain ⟨e1, e2⟩ := inj2 h
    subst e1
    subst e2
    exact V.iret dX11_leak_38 rfl rfl
  replace h := ite_f hc6 h
  refine V.iload_n dX11_leak_25 rfl ?_
  refine V.i2l dX11_leak_26 ?_
  refine V.lconst dX11_leak_27 lc_0 ?_
  refine V.ldc2 dX11_leak_28 rfl kc_RX11_226 ?_
  obtain ⟨v8, hv7, h⟩ := bnd_s h
  refine V.cSi dX11_leak_31 rfl mv_RX11_120 (ok_Mod_in hv7) rfl rfl (by decide) ⟨Nat.zero_le _, Nat.zero_le _⟩ (Nat.le_of_ble_eq_true rfl) (Nat.zero_le _) ?_
  refine V.if_ne (tgt := 39) dX11_leak_34 (by decide) (fun hc9 => ?_) (fun hc9 => ?_)
  · replace h := ite_f hc9 h
    refine V.iconst dX11_leak_39 ic_0 ?_
    refine V.istore dX11_leak_40 (by decide) rfl ?_
    exact okc_Mod_leak_42 _ _ _ _ _ _ _ _ h
  replace h := ite_t hc9 h
  refine V.iconst dX11_leak_37 ic_m1 ?_
  obtain ⟨e1, e2⟩ := inj2 h
  subst e1
  subst e2
  exact V.iret dX11_leak_38 rfl rfl
theorem ok_Mod_without {X : Sc} {l : Launch}  {M : Mem} {x1 : Int32} {r : Int32} {M' : Mem}  (h : f_Mod_without x1 M = some (r, M')) : Mt X l yX11_without cX11_without 5 (some .int) 7 0 0 [.ref 103, .int x1] S0 M (some (.int r)) S0 M' := by
  refine Mt.ofV (by decide) (Nat.le_of_ble_eq_true rfl) ?_
  show V X yX11_without cX11_without 5 (some .int) (rmD 7 0 0) l (FM (some (.int r)) S0 M' 0 0) 0 [some (.ref 103), some (.int x1), none, none, none] [] S0 M 0 0
  unfold f_Mod_without at h
  refine V.aload_n dX11_without_0 rfl ?_
  refine V.iload_n dX11_without_1 rfl ?_
  obtain ⟨v2, hv1, h⟩ := bnd_s h
  refine V.cVi dX11_without_2 rfl mv_RX11_350 (ok_Mod_isSay hv1) rfl rfl s0_103 rfl (by decide) ⟨Nat.zero_le _, Nat.zero_le _⟩ (Nat.le_of_ble_eq_true rfl) (Nat.zero_le _) ?_
  refine V.if_ne (tgt := 10) dX11_without_5 (by decide) (fun hc3 => ?_) (fun hc3 => ?_)
  · replace h := ite_f hc3 h
    refine V.aload_n dX11_without_10 rfl ?_
    refine V.iload_n dX11_without_11 rfl ?_
    refine V.iconst dX11_without_12 ic_2 ?_
    obtain ⟨v5, hv4, h⟩ := bnd_s h
    refine V.cVi dX11_without_13 rfl mv_RX11_332 (ok_Mod_sayOf hv4) rfl rfl s0_103 rfl (by decide) ⟨Nat.zero_le _, Nat.zero_le _⟩ (Nat.le_of_ble_eq_true rfl) (Nat.zero_le _) ?_
    refine V.istore_n dX11_without_16 (by decide) rfl ?_
    refine V.aload_n dX11_without_17 rfl ?_
    refine V.aload_n dX11_without_18 rfl ?_
    refine V.getR dX11_without_19 fl_RX11_7 s0_103 rfl rfl ?_
    refine V.bipush dX11_without_22 bp_88 ?_
    refine V.iald dX11_without_24 s0_104 rfl (vp_of (by decide)) ?_
    refine V.bipush dX11_without_25 bp_m4 ?_
    obtain ⟨v7, M8, hv6, h⟩ := bnd2_s h
    refine V.cVi dX11_without_27 rfl mv_RX11_353 (ok_Mod_whispers hv6) rfl rfl s0_103 rfl (by decide) ⟨Nat.zero_le _, Nat.zero_le _⟩ (Nat.le_of_ble_eq_true rfl) (Nat.zero_le _) ?_
    refine V.pop dX11_without_30 rfl ?_
    refine V.aload_n dX11_without_31 rfl ?_
    refine V.getR dX11_without_32 fl_RX11_53 s0_103 rfl rfl ?_
    refine V.iload_n dX11_without_35 rfl ?_
    obtain ⟨hb9, h⟩ := ck_s h
    refine V.iald dX11_without_36 s0_118 rfl (vp_of hb9) ?_
    obtain ⟨v11, hv10, h⟩ := bnd_s h
    refine V.cSi dX11_without_37 rfl mv_RX11_309 (ok_Mod_bitsOf hv10) rfl rfl (by decide) ⟨Nat.zero_le _, Nat.zero_le _⟩ (Nat.le_of_ble_eq_true rfl) (Nat.zero_le _) ?_
    refine V.istore_n dX11_without_40 (by decide) rfl ?_
    refine V.aload_n dX11_without_41 rfl ?_
    refine V.aload_n dX11_without_42 rfl ?_
    refine V.getR dX11_without_43 fl_RX11_7 s0_103 rfl rfl ?_
    refine V.bipush dX11_without_46 bp_88 ?_
    refine V.iald dX11_without_48 s0_104 rfl (vp_of (by decide)) ?_
    refine V.iload_n dX11_without_49 rfl ?_
    obtain ⟨v13, M14, hv12, h⟩ := bnd2_s h
    refine V.cVi dX11_without_50 rfl mv_RX11_353 (ok_Mod_whispers hv12) rfl rfl s0_103 rfl (by decide) ⟨Nat.zero_le _, Nat.zero_le _⟩ (Nat.le_of_ble_eq_true rfl) (Nat.zero_le _) ?_
    refine V.pop dX11_without_53 rfl ?_
    refine V.iload_n dX11_without_54 rfl ?_
    refine V.aload_n dX11_without_55 rfl ?_
    refine V.getR dX11_without_56 fl_RX11_53 s0_103 rfl rfl ?_
    refine V.iload_n dX11_without_59 rfl ?_
    obtain ⟨hb15, h⟩ := ck_s h
    refine V.iald dX11_without_60 s0_118 rfl (vp_of hb15) ?_
    obtain ⟨v17, hv16, h⟩ := bnd_s h
    refine V.cSi dX11_without_61 rfl mv_RX11_309 (ok_Mod_bitsOf hv16) rfl rfl (by decide) ⟨Nat.zero_le _, Nat.zero_le _⟩ (Nat.le_of_ble_eq_true rfl) (Nat.zero_le _) ?_
    refine V.isub dX11_without_64 ?_
    refine V.nmI (fun w18 hw18 => ?_)
    replace h := nmI_at h w18 hw18
    refine V.istore dX11_without_65 (by decide) rfl ?_
    refine V.iload dX11_without_67 rfl ?_
    refine V.if_ge (tgt := 80) dX11_without_69 (by decide) (fun hc19 => ?_) (fun hc19 => ?_)
    · replace h := ite_t hc19 h
      refine V.iload dX11_without_80 rfl ?_
      obtain ⟨e1, e2⟩ := inj2 h
      subst e1
      subst e2
      exact V.iret dX11_without_82 rfl rfl
    replace h := ite_f hc19 h
    refine V.iload dX11_without_72 rfl ?_
    refine V.bipush dX11_without_74 bp_100 ?_
    refine V.isub dX11_without_76 ?_
    refine V.goto (tgt := 82) dX11_without_77 (by decide) ?_
    obtain ⟨e1, e2⟩ := inj2 h
    subst e1
    subst e2
    exact V.iret dX11_without_82 rfl rfl
  replace h := ite_t hc3 h
  refine V.iconst dX11_without_8 ic_m1 ?_
  obtain ⟨e1, e2⟩ := inj2 h
  subst e1
  subst e2
  exact V.iret dX11_without_9 rfl rfl
theorem okc_Mod_murmur_37 {X : Sc} {l : Launch}     : ∀ (n : Nat) (x2 : Int32) (x3 : Int32) (x4 : Int32) (x5 : Int32) (M : Mem) (r : Int32) (M' : Mem), f_Mod_murmur_L37  n x2 x3 x4 x5 M = some (r, M') → V X yX11_murmur cX11_murmur 7 (some .int) (rmD 7 0 0) l (FM (some (.int r)) S0 M' 0 0) 37 [some (.ref 103), none, some (.int x2), some (.int x3), some (.int x4), some (.int x5), none] [] S0 M 0 0 := by
  intro n
  induction n with
  | zero =>
    intro x2 x3 x4 x5 M r M' h
    rw [f_Mod_murmur_L37] at h
    cases h
  | succ n ih =>
    intro x2 x3 x4 x5 M r M' h
    rw [f_Mod_murmur_L37] at h
    refine V.iload dX11_murmur_37 rfl ?_
    refine V.iload_n dX11_murmur_39 rfl ?_
    refine V.icmp_ge (tgt := 134) dX11_murmur_40 (by decide) (fun hc1 => ?_) (fun hc1 => ?_)
    · replace h := ite_t hc1 h
      refine V.aload_n dX11_murmur_134 rfl ?_
      refine V.getR dX11_murmur_135 fl_RX11_7 s0_103 rfl rfl ?_
      refine V.bipush dX11_murmur_138 bp_88 ?_
      refine V.iload_n dX11_murmur_140 rfl ?_
      refine V.iast dX11_murmur_141 s0_104 rfl (vp_of (by decide)) (fun M2 hM2 => ?_)
      replace h := setM_at h M2 hM2
      refine V.aload_n dX11_murmur_142 rfl ?_
      refine V.iload_n dX11_murmur_143 rfl ?_
      refine V.bipush dX11_murmur_144 bp_m4 ?_
      obtain ⟨v4, M5, hv3, h⟩ := bnd2_s h
      refine V.cVi dX11_murmur_146 rfl mv_RX11_353 (ok_Mod_whispers hv3) rfl rfl s0_103 rfl (by decide) ⟨Nat.zero_le _, Nat.zero_le _⟩ (Nat.le_of_ble_eq_true rfl) (Nat.zero_le _) ?_
      obtain ⟨e1, e2⟩ := inj2 h
      subst e1
      subst e2
      exact V.iret dX11_murmur_149 rfl rfl
    replace h := ite_f hc1 h
    refine V.bipush dX11_murmur_43 bp_89 ?_
    refine V.iconst dX11_murmur_45 ic_3 ?_
    refine V.iload dX11_murmur_46 rfl ?_
    refine V.imul dX11_murmur_48 ?_
    refine V.iadd dX11_murmur_49 ?_
    refine V.nmI (fun w6 hw6 => ?_)
    replace h := nmI_at h w6 hw6
    refine V.istore dX11_murmur_50 (by decide) rfl ?_
    refine V.aload_n dX11_murmur_52 rfl ?_
    refine V.getR dX11_murmur_53 fl_RX11_7 s0_103 rfl rfl ?_
    refine V.iload dX11_murmur_56 rfl ?_
    refine V.iload_n dX11_murmur_58 rfl ?_
    obtain ⟨hb7, h⟩ := ck_s h
    refine V.iast dX11_murmur_59 s0_104 rfl (vp_of hb7) (fun M8 hM8 => ?_)
    replace h := setM_at h M8 hM8
    refine V.iload dX11_murmur_60 rfl ?_
    refine V.ldcw dX11_murmur_62 rfl kc_RX11_358 ?_
    refine V.imul dX11_murmur_65 ?_
    refine V.sipush dX11_murmur_66 sp_12345 ?_
    refine V.iadd dX11_murmur_69 ?_
    refine V.nmI (fun w9 hw9 => ?_)
    replace h := nmI_at h w9 hw9
    refine V.istore dX11_murmur_70 (by decide) rfl ?_
    refine V.aload_n dX11_murmur_72 rfl ?_
    refine V.getR dX11_murmur_73 fl_RX11_7 s0_103 rfl rfl ?_
    refine V.iload dX11_murmur_76 rfl ?_
    refine V.iconst dX11_murmur_78 ic_1 ?_
    refine V.iadd dX11_murmur_79 ?_
    refine V.iload dX11_murmur_80 rfl ?_
    refine V.bipush dX11_murmur_82 bp_16 ?_
    refine V.ishr dX11_murmur_84 ?_
    refine V.sipush dX11_murmur_85 sp_32767 ?_
    refine V.iand dX11_murmur_88 ?_
    refine V.aload_n dX11_murmur_89 rfl ?_
    refine V.getI dX11_murmur_90 fl_RX11_109 s0_103 rfl rfl ?_
    obtain ⟨hz10, h⟩ := ite_z h
    refine V.irem dX11_murmur_93 hz10 ?_
    obtain ⟨hb11, h⟩ := ck_s h
    refine V.iast dX11_murmur_94 s0_104 rfl (vp_of hb11) (fun M12 hM12 => ?_)
    replace h := setM_at h M12 hM12
    refine V.iload dX11_murmur_95 rfl ?_
    refine V.ldcw dX11_murmur_97 rfl kc_RX11_358 ?_
    refine V.imul dX11_murmur_100 ?_
    refine V.sipush dX11_murmur_101 sp_12345 ?_
    refine V.iadd dX11_murmur_104 ?_
    refine V.nmI (fun w13 hw13 => ?_)
    replace h := nmI_at h w13 hw13
    refine V.istore dX11_murmur_105 (by decide) rfl ?_
    refine V.aload_n dX11_murmur_107 rfl ?_
    refine V.getR dX11_murmur_108 fl_RX11_7 s0_103 rfl rfl ?_
    refine V.iload dX11_murmur_111 rfl ?_
    refine V.iconst dX11_murmur_113 ic_2 ?_
    refine V.iadd dX11_murmur_114 ?_
    refine V.iload dX11_murmur_115 rfl ?_
    refine V.bipush dX11_murmur_117 bp_16 ?_
    refine V.ishr dX11_murmur_119 ?_
    refine V.sipush dX11_murmur_120 sp_32767 ?_
    refine V.iand dX11_murmur_123 ?_
    refine V.bipush dX11_murmur_124 bp_8 ?_
    refine V.irem dX11_murmur_126 (by decide) ?_
    obtain ⟨hb14, h⟩ := ck_s h
    refine V.iast dX11_murmur_127 s0_104 rfl (vp_of hb14) (fun M15 hM15 => ?_)
    replace h := setM_at h M15 hM15
    refine V.iinc dX11_murmur_128 rfl (iinc_c ic_1) (by decide) rfl ?_
    refine V.goto (tgt := 37) dX11_murmur_131 (by decide) ?_
    refine V.mask [true, false, true, true, true, true, false] rfl ?_
    exact ih _ _ _ _ _ _ _ h
theorem ok_Mod_murmur {X : Sc} {l : Launch}  {M : Mem} {x1 : Int32} {x2 : Int32} {x3 : Int32} {r : Int32} {M' : Mem}  (h : f_Mod_murmur x1 x2 x3 M = some (r, M')) : Mt X l yX11_murmur cX11_murmur 7 (some .int) 7 0 0 [.ref 103, .int x1, .int x2, .int x3] S0 M (some (.int r)) S0 M' := by
  refine Mt.ofV (by decide) (Nat.le_of_ble_eq_true rfl) ?_
  show V X yX11_murmur cX11_murmur 7 (some .int) (rmD 7 0 0) l (FM (some (.int r)) S0 M' 0 0) 0 [some (.ref 103), some (.int x1), some (.int x2), some (.int x3), none, none, none] [] S0 M 0 0
  unfold f_Mod_murmur at h
  refine V.iload_n dX11_murmur_0 rfl ?_
  refine V.i2l dX11_murmur_1 ?_
  refine V.lconst dX11_murmur_2 lc_1 ?_
  refine V.ldc2 dX11_murmur_3 rfl kc_RX11_356 ?_
  obtain ⟨v2, hv1, h⟩ := bnd_s h
  refine V.cSi dX11_murmur_6 rfl mv_RX11_120 (ok_Mod_in hv1) rfl rfl (by decide) ⟨Nat.zero_le _, Nat.zero_le _⟩ (Nat.le_of_ble_eq_true rfl) (Nat.zero_le _) ?_
  refine V.if_eq (tgt := 19) dX11_murmur_9 (by decide) (fun hc3 => ?_) (fun hc3 => ?_)
  · replace h := ite_t hc3 h
    refine V.iconst dX11_murmur_19 ic_m1 ?_
    obtain ⟨e1, e2⟩ := inj2 h
    subst e1
    subst e2
    exact V.iret dX11_murmur_20 rfl rfl
  replace h := ite_f hc3 h
  refine V.iload_n dX11_murmur_12 rfl ?_
  obtain ⟨v5, hv4, h⟩ := bnd_s h
  refine V.cSi dX11_murmur_13 rfl mv_RX11_231 (ok_Mod_isHour hv4) rfl rfl (by decide) ⟨Nat.zero_le _, Nat.zero_le _⟩ (Nat.le_of_ble_eq_true rfl) (Nat.zero_le _) ?_
  refine V.if_ne (tgt := 21) dX11_murmur_16 (by decide) (fun hc6 => ?_) (fun hc6 => ?_)
  · replace h := ite_f hc6 h
    refine V.aload_n dX11_murmur_21 rfl ?_
    refine V.getI dX11_murmur_22 fl_RX11_109 s0_103 rfl rfl ?_
    refine V.if_ne (tgt := 31) dX11_murmur_25 (by decide) (fun hc7 => ?_) (fun hc7 => ?_)
    · replace h := ite_f hc7 h
      refine V.iload_n dX11_murmur_31 rfl ?_
      refine V.istore dX11_murmur_32 (by decide) rfl ?_
      refine V.iconst dX11_murmur_34 ic_0 ?_
      refine V.istore dX11_murmur_35 (by decide) rfl ?_
      refine V.mask [true, false, true, true, true, true, false] rfl ?_
      exact okc_Mod_murmur_37 _ _ _ _ _ _ _ _ h
    replace h := ite_t hc7 h
    refine V.bipush dX11_murmur_28 bp_m2 ?_
    obtain ⟨e1, e2⟩ := inj2 h
    subst e1
    subst e2
    exact V.iret dX11_murmur_30 rfl rfl
  replace h := ite_t hc6 h
  refine V.iconst dX11_murmur_19 ic_m1 ?_
  obtain ⟨e1, e2⟩ := inj2 h
  subst e1
  subst e2
  exact V.iret dX11_murmur_20 rfl rfl
theorem ok_Mod_areBenches {X : Sc} {l : Launch}  {M : Mem} {x1 : Int32} {r : Int32}  (h : f_Mod_areBenches M x1 = some r) : Mt X l yX11_areBenches cX11_areBenches 2 (some .boolean) 1 0 0 [.ref 103, .int x1] S0 M (some (.int r)) S0 M := by
  refine Mt.ofV (by decide) (Nat.le_of_ble_eq_true rfl) ?_
  show V X yX11_areBenches cX11_areBenches 2 (some .boolean) (rmD 1 0 0) l (FM (some (.int r)) S0 M 0 0) 0 [some (.ref 103), some (.int x1)] [] S0 M 0 0
  unfold f_Mod_areBenches at h
  refine V.iload_n dX11_areBenches_0 rfl ?_
  refine V.i2l dX11_areBenches_1 ?_
  refine V.lconst dX11_areBenches_2 lc_0 ?_
  refine V.iconst dX11_areBenches_3 ic_1 ?_
  refine V.aload_n dX11_areBenches_4 rfl ?_
  refine V.getI dX11_areBenches_5 fl_RX11_102 s0_103 rfl rfl ?_
  refine V.ishl dX11_areBenches_8 ?_
  refine V.iconst dX11_areBenches_9 ic_1 ?_
  refine V.isub dX11_areBenches_10 ?_
  refine V.i2l dX11_areBenches_11 ?_
  obtain ⟨v2, hv1, h⟩ := bnd_s h
  refine V.cSi dX11_areBenches_12 rfl mv_RX11_120 (ok_Mod_in hv1) rfl rfl (by decide) ⟨Nat.zero_le _, Nat.zero_le _⟩ (Nat.le_of_ble_eq_true rfl) (Nat.zero_le _) ?_
  obtain ⟨hB3, h⟩ := ck_s h
  have e1 := inj1 h
  subst e1
  exact V.iret dX11_areBenches_15 rfl (isB_n hB3)
theorem okc_Mod_from_48 {X : Sc} {l : Launch} {k22 : Int32 → Int32 → Int32 → Int32 → Mem → Option (Int32 × Mem)}  (hk22 : ∀ (x1 : Int32) (x2 : Int32) (x3 : Int32) (x4 : Int32) (M : Mem) (r : Int32) (M' : Mem), k22 x1 x2 x3 x4 M = some (r, M') → V X yX11_from cX11_from 5 (some .int) (rmD 5 0 0) l (FM (some (.int r)) S0 M' 0 0) 22 [some (.ref 103), some (.int x1), some (.int x2), some (.int x3), some (.int x4)] [] S0 M 0 0)  {x1 : Int32} {x2 : Int32} {x4 : Int32} {s0 : Int32} {s1 : Int32} {M : Mem} {r : Int32} {M' : Mem} (h : f_Mod_from_J48 k22 x1 x2 x4 s0 s1 M = some (r, M')) : V X yX11_from cX11_from 5 (some .int) (rmD 5 0 0) l (FM (some (.int r)) S0 M' 0 0) 48 [some (.ref 103), some (.int x1), some (.int x2), none, some (.int x4)] [.int s1, .int s0] S0 M 0 0 := by
  unfold f_Mod_from_J48 at h
  obtain ⟨v2, hv1, h⟩ := bnd_s h
  refine V.cSi dX11_from_48 rfl mv_RX11_195 (ok_Mod_flag hv1) rfl rfl (by decide) ⟨Nat.zero_le _, Nat.zero_le _⟩ (Nat.le_of_ble_eq_true rfl) (Nat.zero_le _) ?_
  refine V.iload dX11_from_51 rfl ?_
  refine V.ishl dX11_from_53 ?_
  refine V.ior dX11_from_54 ?_
  refine V.nmI (fun w3 hw3 => ?_)
  replace h := nmI_at h w3 hw3
  refine V.istore_n dX11_from_55 (by decide) rfl ?_
  refine V.iinc dX11_from_56 rfl (iinc_c ic_1) (by decide) rfl ?_
  refine V.goto (tgt := 22) dX11_from_59 (by decide) ?_
  exact hk22 _ _ _ _ _ _ _ h
theorem okc_Mod_from_22 {X : Sc} {l : Launch}     : ∀ (n : Nat) (x1 : Int32) (x2 : Int32) (x3 : Int32) (x4 : Int32) (M : Mem) (r : Int32) (M' : Mem), f_Mod_from_L22  n x1 x2 x3 x4 M = some (r, M') → V X yX11_from cX11_from 5 (some .int) (rmD 5 0 0) l (FM (some (.int r)) S0 M' 0 0) 22 [some (.ref 103), some (.int x1), some (.int x2), some (.int x3), some (.int x4)] [] S0 M 0 0 := by
  intro n
  induction n with
  | zero =>
    intro x1 x2 x3 x4 M r M' h
    rw [f_Mod_from_L22] at h
    cases h
  | succ n ih =>
    intro x1 x2 x3 x4 M r M' h
    rw [f_Mod_from_L22] at h
    refine V.iload dX11_from_22 rfl ?_
    refine V.aload_n dX11_from_24 rfl ?_
    refine V.getI dX11_from_25 fl_RX11_102 s0_103 rfl rfl ?_
    refine V.icmp_ge (tgt := 62) dX11_from_28 (by decide) (fun hc1 => ?_) (fun hc1 => ?_)
    · replace h := ite_t hc1 h
      refine V.iload_n dX11_from_62 rfl ?_
      obtain ⟨e1, e2⟩ := inj2 h
      subst e1
      subst e2
      exact V.iret dX11_from_63 rfl rfl
    replace h := ite_f hc1 h
    refine V.iload_n dX11_from_31 rfl ?_
    refine V.aload_n dX11_from_32 rfl ?_
    refine V.iload dX11_from_33 rfl ?_
    refine V.iload_n dX11_from_35 rfl ?_
    obtain ⟨v3, M4, hv2, h⟩ := bnd2_s h
    refine V.cVi dX11_from_36 rfl mv_RX11_285 (ok_Mod_heardOf hv2) rfl rfl s0_103 rfl (by decide) ⟨Nat.zero_le _, Nat.zero_le _⟩ (Nat.le_of_ble_eq_true rfl) (Nat.zero_le _) ?_
    refine V.iload_n dX11_from_39 rfl ?_
    refine V.icmp_ne (tgt := 47) dX11_from_40 (by decide) (fun hc5 => ?_) (fun hc5 => ?_)
    · replace h := ite_f hc5 h
      refine V.iconst dX11_from_47 ic_0 ?_
      refine V.mask [true, true, true, false, true] rfl ?_
      exact okc_Mod_from_48 ih h
    replace h := ite_t hc5 h
    refine V.iconst dX11_from_43 ic_1 ?_
    refine V.goto (tgt := 48) dX11_from_44 (by decide) ?_
    refine V.mask [true, true, true, false, true] rfl ?_
    exact okc_Mod_from_48 ih h
theorem ok_Mod_from {X : Sc} {l : Launch}  {M : Mem} {x1 : Int32} {x2 : Int32} {r : Int32} {M' : Mem}  (h : f_Mod_from x1 x2 M = some (r, M')) : Mt X l yX11_from cX11_from 5 (some .int) 5 0 0 [.ref 103, .int x1, .int x2] S0 M (some (.int r)) S0 M' := by
  refine Mt.ofV (by decide) (Nat.le_of_ble_eq_true rfl) ?_
  show V X yX11_from cX11_from 5 (some .int) (rmD 5 0 0) l (FM (some (.int r)) S0 M' 0 0) 0 [some (.ref 103), some (.int x1), some (.int x2), none, none] [] S0 M 0 0
  unfold f_Mod_from at h
  refine V.aload_n dX11_from_0 rfl ?_
  refine V.iload_n dX11_from_1 rfl ?_
  obtain ⟨v2, hv1, h⟩ := bnd_s h
  refine V.cVi dX11_from_2 rfl mv_RX11_359 (ok_Mod_areBenches hv1) rfl rfl s0_103 rfl (by decide) ⟨Nat.zero_le _, Nat.zero_le _⟩ (Nat.le_of_ble_eq_true rfl) (Nat.zero_le _) ?_
  refine V.if_eq (tgt := 15) dX11_from_5 (by decide) (fun hc3 => ?_) (fun hc3 => ?_)
  · replace h := ite_t hc3 h
    refine V.iconst dX11_from_15 ic_m1 ?_
    obtain ⟨e1, e2⟩ := inj2 h
    subst e1
    subst e2
    exact V.iret dX11_from_16 rfl rfl
  replace h := ite_f hc3 h
  refine V.iload_n dX11_from_8 rfl ?_
  obtain ⟨v5, hv4, h⟩ := bnd_s h
  refine V.cSi dX11_from_9 rfl mv_RX11_231 (ok_Mod_isHour hv4) rfl rfl (by decide) ⟨Nat.zero_le _, Nat.zero_le _⟩ (Nat.le_of_ble_eq_true rfl) (Nat.zero_le _) ?_
  refine V.if_ne (tgt := 17) dX11_from_12 (by decide) (fun hc6 => ?_) (fun hc6 => ?_)
  · replace h := ite_f hc6 h
    refine V.iconst dX11_from_17 ic_0 ?_
    refine V.istore_n dX11_from_18 (by decide) rfl ?_
    refine V.iconst dX11_from_19 ic_0 ?_
    refine V.istore dX11_from_20 (by decide) rfl ?_
    exact okc_Mod_from_22 _ _ _ _ _ _ _ _ h
  replace h := ite_t hc6 h
  refine V.iconst dX11_from_15 ic_m1 ?_
  obtain ⟨e1, e2⟩ := inj2 h
  subst e1
  subst e2
  exact V.iret dX11_from_16 rfl rfl
theorem okc_Mod_where_154 {X : Sc} {l : Launch} {k48 : Int32 → Int32 → Int32 → Int32 → Int32 → Int32 → Int32 → Mem → Option (Int32 × Mem)}  (hk48 : ∀ (x1 : Int32) (x2 : Int32) (x3 : Int32) (x4 : Int32) (x5 : Int32) (x6 : Int32) (x7 : Int32) (M : Mem) (r : Int32) (M' : Mem), k48 x1 x2 x3 x4 x5 x6 x7 M = some (r, M') → V X yX11_where cX11_where 10 (some .int) (rmD 4 0 0) l (FM (some (.int r)) S0 M' 0 0) 48 [some (.ref 103), some (.int x1), some (.int x2), some (.int x3), some (.int x4), some (.int x5), some (.int x6), some (.int x7), none, none] [] S0 M 0 0)  {x1 : Int32} {x2 : Int32} {x3 : Int32} {x4 : Int32} {x6 : Int32} {x7 : Int32} {x8 : Int32} {s0 : Int32} {M : Mem} {r : Int32} {M' : Mem} (h : f_Mod_where_J154 k48 x1 x2 x3 x4 x6 x7 x8 s0 M = some (r, M')) : V X yX11_where cX11_where 10 (some .int) (rmD 4 0 0) l (FM (some (.int r)) S0 M' 0 0) 154 [some (.ref 103), some (.int x1), some (.int x2), some (.int x3), some (.int x4), none, some (.int x6), some (.int x7), some (.int x8), none] [.int s0] S0 M 0 0 := by
  unfold f_Mod_where_J154 at h
  refine V.istore dX11_where_154 (by decide) rfl ?_
  refine V.iload dX11_where_156 rfl ?_
  refine V.bipush dX11_where_158 bp_m4 ?_
  refine V.icmp_eq (tgt := 168) dX11_where_160 (by decide) (fun hc1 => ?_) (fun hc1 => ?_)
  · replace h := ite_t hc1 h
    refine V.iload dX11_where_168 rfl ?_
    refine V.istore dX11_where_170 (by decide) rfl ?_
    refine V.iinc dX11_where_172 rfl (iinc_c ic_m1) (by decide) rfl ?_
    refine V.goto (tgt := 48) dX11_where_175 (by decide) ?_
    refine V.mask [true, true, true, true, true, true, true, true, false, false] rfl ?_
    exact hk48 _ _ _ _ _ _ _ _ _ _ h
  replace h := ite_f hc1 h
  refine V.iload dX11_where_163 rfl ?_
  refine V.goto (tgt := 170) dX11_where_165 (by decide) ?_
  refine V.istore dX11_where_170 (by decide) rfl ?_
  refine V.iinc dX11_where_172 rfl (iinc_c ic_m1) (by decide) rfl ?_
  refine V.goto (tgt := 48) dX11_where_175 (by decide) ?_
  refine V.mask [true, true, true, true, true, true, true, true, false, false] rfl ?_
  exact hk48 _ _ _ _ _ _ _ _ _ _ h
theorem okc_Mod_where_134 {X : Sc} {l : Launch} {k48 : Int32 → Int32 → Int32 → Int32 → Int32 → Int32 → Int32 → Mem → Option (Int32 × Mem)}  (hk48 : ∀ (x1 : Int32) (x2 : Int32) (x3 : Int32) (x4 : Int32) (x5 : Int32) (x6 : Int32) (x7 : Int32) (M : Mem) (r : Int32) (M' : Mem), k48 x1 x2 x3 x4 x5 x6 x7 M = some (r, M') → V X yX11_where cX11_where 10 (some .int) (rmD 4 0 0) l (FM (some (.int r)) S0 M' 0 0) 48 [some (.ref 103), some (.int x1), some (.int x2), some (.int x3), some (.int x4), some (.int x5), some (.int x6), some (.int x7), none, none] [] S0 M 0 0)  {x1 : Int32} {x2 : Int32} {x3 : Int32} {x5 : Int32} {x6 : Int32} {x7 : Int32} {x8 : Int32} {s0 : Int32} {s1 : Int32} {M : Mem} {r : Int32} {M' : Mem} (h : f_Mod_where_J134 k48 x1 x2 x3 x5 x6 x7 x8 s0 s1 M = some (r, M')) : V X yX11_where cX11_where 10 (some .int) (rmD 4 0 0) l (FM (some (.int r)) S0 M' 0 0) 134 [some (.ref 103), some (.int x1), some (.int x2), some (.int x3), none, some (.int x5), some (.int x6), some (.int x7), some (.int x8), none] [.int s1, .int s0] S0 M 0 0 := by
  unfold f_Mod_where_J134 at h
  obtain ⟨v2, hv1, h⟩ := bnd_s h
  refine V.cSi dX11_where_134 rfl mv_RX11_195 (ok_Mod_flag hv1) rfl rfl (by decide) ⟨Nat.zero_le _, Nat.zero_le _⟩ (Nat.le_of_ble_eq_true rfl) (Nat.zero_le _) ?_
  refine V.iadd dX11_where_137 ?_
  refine V.nmI (fun w3 hw3 => ?_)
  replace h := nmI_at h w3 hw3
  refine V.istore dX11_where_138 (by decide) rfl ?_
  refine V.iload dX11_where_140 rfl ?_
  refine V.bipush dX11_where_142 bp_m4 ?_
  refine V.icmp_eq (tgt := 152) dX11_where_144 (by decide) (fun hc4 => ?_) (fun hc4 => ?_)
  · replace h := ite_t hc4 h
    refine V.iload dX11_where_152 rfl ?_
    refine V.mask [true, true, true, true, true, false, true, true, true, false] rfl ?_
    exact okc_Mod_where_154 hk48 h
  replace h := ite_f hc4 h
  refine V.iload dX11_where_147 rfl ?_
  refine V.goto (tgt := 154) dX11_where_149 (by decide) ?_
  refine V.mask [true, true, true, true, true, false, true, true, true, false] rfl ?_
  exact okc_Mod_where_154 hk48 h
theorem okc_Mod_where_120 {X : Sc} {l : Launch} {k48 : Int32 → Int32 → Int32 → Int32 → Int32 → Int32 → Int32 → Mem → Option (Int32 × Mem)}  (hk48 : ∀ (x1 : Int32) (x2 : Int32) (x3 : Int32) (x4 : Int32) (x5 : Int32) (x6 : Int32) (x7 : Int32) (M : Mem) (r : Int32) (M' : Mem), k48 x1 x2 x3 x4 x5 x6 x7 M = some (r, M') → V X yX11_where cX11_where 10 (some .int) (rmD 4 0 0) l (FM (some (.int r)) S0 M' 0 0) 48 [some (.ref 103), some (.int x1), some (.int x2), some (.int x3), some (.int x4), some (.int x5), some (.int x6), some (.int x7), none, none] [] S0 M 0 0)  {x1 : Int32} {x2 : Int32} {x3 : Int32} {x4 : Int32} {x5 : Int32} {x6 : Int32} {x7 : Int32} {x8 : Int32} {M : Mem} {r : Int32} {M' : Mem} (h : f_Mod_where_J120 k48 x1 x2 x3 x4 x5 x6 x7 x8 M = some (r, M')) : V X yX11_where cX11_where 10 (some .int) (rmD 4 0 0) l (FM (some (.int r)) S0 M' 0 0) 120 [some (.ref 103), some (.int x1), some (.int x2), some (.int x3), some (.int x4), some (.int x5), some (.int x6), some (.int x7), some (.int x8), none] [] S0 M 0 0 := by
  unfold f_Mod_where_J120 at h
  refine V.iload dX11_where_120 rfl ?_
  refine V.iload dX11_where_122 rfl ?_
  refine V.bipush dX11_where_124 bp_m4 ?_
  refine V.icmp_eq (tgt := 133) dX11_where_126 (by decide) (fun hc1 => ?_) (fun hc1 => ?_)
  · replace h := ite_t hc1 h
    refine V.iconst dX11_where_133 ic_0 ?_
    refine V.mask [true, true, true, true, false, true, true, true, true, false] rfl ?_
    exact okc_Mod_where_134 hk48 h
  replace h := ite_f hc1 h
  refine V.iconst dX11_where_129 ic_1 ?_
  refine V.goto (tgt := 134) dX11_where_130 (by decide) ?_
  refine V.mask [true, true, true, true, false, true, true, true, true, false] rfl ?_
  exact okc_Mod_where_134 hk48 h
theorem okc_Mod_where_61 {X : Sc} {l : Launch} {k48 : Int32 → Int32 → Int32 → Int32 → Int32 → Int32 → Int32 → Mem → Option (Int32 × Mem)}  (hk48 : ∀ (x1 : Int32) (x2 : Int32) (x3 : Int32) (x4 : Int32) (x5 : Int32) (x6 : Int32) (x7 : Int32) (M : Mem) (r : Int32) (M' : Mem), k48 x1 x2 x3 x4 x5 x6 x7 M = some (r, M') → V X yX11_where cX11_where 10 (some .int) (rmD 4 0 0) l (FM (some (.int r)) S0 M' 0 0) 48 [some (.ref 103), some (.int x1), some (.int x2), some (.int x3), some (.int x4), some (.int x5), some (.int x6), some (.int x7), none, none] [] S0 M 0 0)  : ∀ (n : Nat) (x1 : Int32) (x2 : Int32) (x3 : Int32) (x4 : Int32) (x5 : Int32) (x6 : Int32) (x7 : Int32) (x8 : Int32) (x9 : Int32) (M : Mem) (r : Int32) (M' : Mem), f_Mod_where_L61 k48 n x1 x2 x3 x4 x5 x6 x7 x8 x9 M = some (r, M') → V X yX11_where cX11_where 10 (some .int) (rmD 4 0 0) l (FM (some (.int r)) S0 M' 0 0) 61 [some (.ref 103), some (.int x1), some (.int x2), some (.int x3), some (.int x4), some (.int x5), some (.int x6), some (.int x7), some (.int x8), some (.int x9)] [] S0 M 0 0 := by
  intro n
  induction n with
  | zero =>
    intro x1 x2 x3 x4 x5 x6 x7 x8 x9 M r M' h
    rw [f_Mod_where_L61] at h
    cases h
  | succ n ih =>
    intro x1 x2 x3 x4 x5 x6 x7 x8 x9 M r M' h
    rw [f_Mod_where_L61] at h
    refine V.iload dX11_where_61 rfl ?_
    refine V.if_lt (tgt := 120) dX11_where_63 (by decide) (fun hc1 => ?_) (fun hc1 => ?_)
    · replace h := ite_t hc1 h
      refine V.mask [true, true, true, true, true, true, true, true, true, false] rfl ?_
      exact okc_Mod_where_120 hk48 h
    replace h := ite_f hc1 h
    refine V.aload_n dX11_where_66 rfl ?_
    refine V.iload dX11_where_67 rfl ?_
    obtain ⟨v3, hv2, h⟩ := bnd_s h
    refine V.cVi dX11_where_69 rfl mv_RX11_219 (ok_Mod_isCell hv2) rfl rfl s0_103 rfl (by decide) ⟨Nat.zero_le _, Nat.zero_le _⟩ (Nat.le_of_ble_eq_true rfl) (Nat.zero_le _) ?_
    refine V.if_eq (tgt := 120) dX11_where_72 (by decide) (fun hc4 => ?_) (fun hc4 => ?_)
    · replace h := ite_t hc4 h
      refine V.mask [true, true, true, true, true, true, true, true, true, false] rfl ?_
      exact okc_Mod_where_120 hk48 h
    replace h := ite_f hc4 h
    refine V.aload_n dX11_where_75 rfl ?_
    refine V.getR dX11_where_76 fl_RX11_7 s0_103 rfl rfl ?_
    refine V.iload dX11_where_79 rfl ?_
    obtain ⟨hb5, h⟩ := ck_s h
    refine V.iald dX11_where_81 s0_104 rfl (vp_of hb5) ?_
    refine V.if_ne (tgt := 120) dX11_where_82 (by decide) (fun hc6 => ?_) (fun hc6 => ?_)
    · replace h := ite_f hc6 h
      refine V.mask [true, true, true, true, true, true, true, true, true, false] rfl ?_
      exact okc_Mod_where_120 hk48 h
    replace h := ite_t hc6 h
    refine V.aload_n dX11_where_85 rfl ?_
    refine V.iload dX11_where_86 rfl ?_
    refine V.iload dX11_where_88 rfl ?_
    refine V.iconst dX11_where_90 ic_0 ?_
    obtain ⟨M8, hv7, h⟩ := bnd_s h
    refine V.cVv dX11_where_91 rfl mv_RX11_266 (ok_Mod_layPath hv7) rfl rfl s0_103 rfl (by decide) ⟨Nat.zero_le _, Nat.zero_le _⟩ (Nat.le_of_ble_eq_true rfl) (Nat.zero_le _) ?_
    refine V.aload_n dX11_where_94 rfl ?_
    refine V.iload_n dX11_where_95 rfl ?_
    refine V.bipush dX11_where_96 bp_m4 ?_
    obtain ⟨v10, hv9, h⟩ := bnd_s h
    refine V.cVi dX11_where_98 rfl mv_RX11_282 (ok_Mod_allTo hv9) rfl rfl s0_103 rfl (by decide) ⟨Nat.zero_le _, Nat.zero_le _⟩ (Nat.le_of_ble_eq_true rfl) (Nat.zero_le _) ?_
    refine V.iload_n dX11_where_101 rfl ?_
    refine V.icmp_ne (tgt := 110) dX11_where_102 (by decide) (fun hc11 => ?_) (fun hc11 => ?_)
    · replace h := ite_f hc11 h
      refine V.iload dX11_where_110 rfl ?_
      refine V.istore dX11_where_112 (by decide) rfl ?_
      refine V.iinc dX11_where_114 rfl (iinc_c ic_m1) (by decide) rfl ?_
      refine V.goto (tgt := 61) dX11_where_117 (by decide) ?_
      exact ih _ _ _ _ _ _ _ _ _ _ _ _ h
    replace h := ite_t hc11 h
    refine V.iload dX11_where_105 rfl ?_
    refine V.goto (tgt := 112) dX11_where_107 (by decide) ?_
    refine V.istore dX11_where_112 (by decide) rfl ?_
    refine V.iinc dX11_where_114 rfl (iinc_c ic_m1) (by decide) rfl ?_
    refine V.goto (tgt := 61) dX11_where_117 (by decide) ?_
    exact ih _ _ _ _ _ _ _ _ _ _ _ _ h
theorem okc_Mod_where_48 {X : Sc} {l : Launch}     : ∀ (n : Nat) (x1 : Int32) (x2 : Int32) (x3 : Int32) (x4 : Int32) (x5 : Int32) (x6 : Int32) (x7 : Int32) (M : Mem) (r : Int32) (M' : Mem), f_Mod_where_L48  n x1 x2 x3 x4 x5 x6 x7 M = some (r, M') → V X yX11_where cX11_where 10 (some .int) (rmD 4 0 0) l (FM (some (.int r)) S0 M' 0 0) 48 [some (.ref 103), some (.int x1), some (.int x2), some (.int x3), some (.int x4), some (.int x5), some (.int x6), some (.int x7), none, none] [] S0 M 0 0 := by
  intro n
  induction n with
  | zero =>
    intro x1 x2 x3 x4 x5 x6 x7 M r M' h
    rw [f_Mod_where_L48] at h
    cases h
  | succ n ih =>
    intro x1 x2 x3 x4 x5 x6 x7 M r M' h
    rw [f_Mod_where_L48] at h
    refine V.iload dX11_where_48 rfl ?_
    refine V.if_lt (tgt := 178) dX11_where_50 (by decide) (fun hc1 => ?_) (fun hc1 => ?_)
    · replace h := ite_t hc1 h
      refine V.iload_n dX11_where_178 rfl ?_
      refine V.if_ne (tgt := 187) dX11_where_179 (by decide) (fun hc2 => ?_) (fun hc2 => ?_)
      · replace h := ite_f hc2 h
        refine V.iload_n dX11_where_187 rfl ?_
        refine V.iconst dX11_where_188 ic_1 ?_
        refine V.icmp_ne (tgt := 197) dX11_where_189 (by decide) (fun hc3 => ?_) (fun hc3 => ?_)
        · replace h := ite_f hc3 h
          refine V.iload dX11_where_197 rfl ?_
          obtain ⟨e1, e2⟩ := inj2 h
          subst e1
          subst e2
          exact V.iret dX11_where_199 rfl rfl
        replace h := ite_t hc3 h
        refine V.iload dX11_where_192 rfl ?_
        refine V.goto (tgt := 199) dX11_where_194 (by decide) ?_
        obtain ⟨e1, e2⟩ := inj2 h
        subst e1
        subst e2
        exact V.iret dX11_where_199 rfl rfl
      replace h := ite_t hc2 h
      refine V.iload dX11_where_182 rfl ?_
      refine V.goto (tgt := 199) dX11_where_184 (by decide) ?_
      obtain ⟨e1, e2⟩ := inj2 h
      subst e1
      subst e2
      exact V.iret dX11_where_199 rfl rfl
    replace h := ite_f hc1 h
    refine V.bipush dX11_where_53 bp_m4 ?_
    refine V.istore dX11_where_55 (by decide) rfl ?_
    refine V.bipush dX11_where_57 bp_7 ?_
    refine V.istore dX11_where_59 (by decide) rfl ?_
    exact okc_Mod_where_61 ih _ _ _ _ _ _ _ _ _ _ _ _ _ h
theorem ok_Mod_where {X : Sc} {l : Launch}  {M : Mem} {x1 : Int32} {x2 : Int32} {x3 : Int32} {r : Int32} {M' : Mem}  (h : f_Mod_where x1 x2 x3 M = some (r, M')) : Mt X l yX11_where cX11_where 10 (some .int) 4 0 0 [.ref 103, .int x1, .int x2, .int x3] S0 M (some (.int r)) S0 M' := by
  refine Mt.ofV (by decide) (Nat.le_of_ble_eq_true rfl) ?_
  show V X yX11_where cX11_where 10 (some .int) (rmD 4 0 0) l (FM (some (.int r)) S0 M' 0 0) 0 [some (.ref 103), some (.int x1), some (.int x2), some (.int x3), none, none, none, none, none, none] [] S0 M 0 0
  unfold f_Mod_where at h
  refine V.aload_n dX11_where_0 rfl ?_
  refine V.iload_n dX11_where_1 rfl ?_
  obtain ⟨v2, hv1, h⟩ := bnd_s h
  refine V.cVi dX11_where_2 rfl mv_RX11_359 (ok_Mod_areBenches hv1) rfl rfl s0_103 rfl (by decide) ⟨Nat.zero_le _, Nat.zero_le _⟩ (Nat.le_of_ble_eq_true rfl) (Nat.zero_le _) ?_
  refine V.if_eq (tgt := 31) dX11_where_5 (by decide) (fun hc3 => ?_) (fun hc3 => ?_)
  · replace h := ite_t hc3 h
    refine V.iconst dX11_where_31 ic_m1 ?_
    obtain ⟨e1, e2⟩ := inj2 h
    subst e1
    subst e2
    exact V.iret dX11_where_32 rfl rfl
  replace h := ite_f hc3 h
  refine V.iload_n dX11_where_8 rfl ?_
  refine V.if_eq (tgt := 31) dX11_where_9 (by decide) (fun hc4 => ?_) (fun hc4 => ?_)
  · replace h := ite_t hc4 h
    refine V.iconst dX11_where_31 ic_m1 ?_
    obtain ⟨e1, e2⟩ := inj2 h
    subst e1
    subst e2
    exact V.iret dX11_where_32 rfl rfl
  replace h := ite_f hc4 h
  refine V.iload_n dX11_where_12 rfl ?_
  obtain ⟨v6, hv5, h⟩ := bnd_s h
  refine V.cSi dX11_where_13 rfl mv_RX11_231 (ok_Mod_isHour hv5) rfl rfl (by decide) ⟨Nat.zero_le _, Nat.zero_le _⟩ (Nat.le_of_ble_eq_true rfl) (Nat.zero_le _) ?_
  refine V.if_eq (tgt := 31) dX11_where_16 (by decide) (fun hc7 => ?_) (fun hc7 => ?_)
  · replace h := ite_t hc7 h
    refine V.iconst dX11_where_31 ic_m1 ?_
    obtain ⟨e1, e2⟩ := inj2 h
    subst e1
    subst e2
    exact V.iret dX11_where_32 rfl rfl
  replace h := ite_f hc7 h
  refine V.iload_n dX11_where_19 rfl ?_
  refine V.i2l dX11_where_20 ?_
  refine V.lconst dX11_where_21 lc_0 ?_
  refine V.ldc2 dX11_where_22 rfl kc_RX11_226 ?_
  obtain ⟨v9, hv8, h⟩ := bnd_s h
  refine V.cSi dX11_where_25 rfl mv_RX11_120 (ok_Mod_in hv8) rfl rfl (by decide) ⟨Nat.zero_le _, Nat.zero_le _⟩ (Nat.le_of_ble_eq_true rfl) (Nat.zero_le _) ?_
  refine V.if_ne (tgt := 33) dX11_where_28 (by decide) (fun hc10 => ?_) (fun hc10 => ?_)
  · replace h := ite_f hc10 h
    refine V.iconst dX11_where_33 ic_0 ?_
    refine V.istore dX11_where_34 (by decide) rfl ?_
    refine V.bipush dX11_where_36 bp_m4 ?_
    refine V.istore dX11_where_38 (by decide) rfl ?_
    refine V.bipush dX11_where_40 bp_m4 ?_
    refine V.istore dX11_where_42 (by decide) rfl ?_
    refine V.bipush dX11_where_44 bp_80 ?_
    refine V.istore dX11_where_46 (by decide) rfl ?_
    exact okc_Mod_where_48 _ _ _ _ _ _ _ _ _ _ _ h
  replace h := ite_t hc10 h
  refine V.iconst dX11_where_31 ic_m1 ?_
  obtain ⟨e1, e2⟩ := inj2 h
  subst e1
  subst e2
  exact V.iret dX11_where_32 rfl rfl
theorem okc_Mod_copies_2 {X : Sc} {l : Launch}     : ∀ (n : Nat) (x1 : Int32) (x2 : Int32) (x3 : Int32) (M : Mem) (M' : Mem), f_Mod_copies_L2  n x1 x2 x3 M = some M' → V X yX11_copies cX11_copies 4 none (rmD 0 0 0) l (FM none S0 M' 0 0) 2 [some (.ref 103), some (.int x1), some (.int x2), some (.int x3)] [] S0 M 0 0 := by
  intro n
  induction n with
  | zero =>
    intro x1 x2 x3 M M' h
    rw [f_Mod_copies_L2] at h
    cases h
  | succ n ih =>
    intro x1 x2 x3 M M' h
    rw [f_Mod_copies_L2] at h
    refine V.iload_n dX11_copies_2 rfl ?_
    refine V.bipush dX11_copies_3 bp_125 ?_
    refine V.icmp_ge (tgt := 30) dX11_copies_5 (by decide) (fun hc1 => ?_) (fun hc1 => ?_)
    · replace h := ite_t hc1 h
      have e1 := inj1 h
      subst e1
      exact V.vret dX11_copies_30 rfl
    replace h := ite_f hc1 h
    refine V.aload_n dX11_copies_8 rfl ?_
    refine V.getR dX11_copies_9 fl_RX11_7 s0_103 rfl rfl ?_
    refine V.iload_n dX11_copies_12 rfl ?_
    refine V.iload_n dX11_copies_13 rfl ?_
    refine V.iadd dX11_copies_14 ?_
    refine V.aload_n dX11_copies_15 rfl ?_
    refine V.getR dX11_copies_16 fl_RX11_7 s0_103 rfl rfl ?_
    refine V.iload_n dX11_copies_19 rfl ?_
    refine V.iload_n dX11_copies_20 rfl ?_
    refine V.iadd dX11_copies_21 ?_
    obtain ⟨hb2, h⟩ := ck_s h
    refine V.iald dX11_copies_22 s0_104 rfl (vp_of hb2) ?_
    obtain ⟨hb3, h⟩ := ck_s h
    refine V.iast dX11_copies_23 s0_104 rfl (vp_of hb3) (fun M4 hM4 => ?_)
    replace h := setM_at h M4 hM4
    refine V.iinc dX11_copies_24 rfl (iinc_c ic_1) (by decide) rfl ?_
    refine V.goto (tgt := 2) dX11_copies_27 (by decide) ?_
    exact ih _ _ _ _ _ h
theorem ok_Mod_copies {X : Sc} {l : Launch}  {M : Mem} {x1 : Int32} {x2 : Int32} {M' : Mem}  (h : f_Mod_copies x1 x2 M = some M') : Mt X l yX11_copies cX11_copies 4 none 0 0 0 [.ref 103, .int x1, .int x2] S0 M none S0 M' := by
  refine Mt.ofV (by decide) (Nat.le_of_ble_eq_true rfl) ?_
  show V X yX11_copies cX11_copies 4 none (rmD 0 0 0) l (FM none S0 M' 0 0) 0 [some (.ref 103), some (.int x1), some (.int x2), none] [] S0 M 0 0
  unfold f_Mod_copies at h
  refine V.iconst dX11_copies_0 ic_0 ?_
  refine V.istore_n dX11_copies_1 (by decide) rfl ?_
  exact okc_Mod_copies_2 _ _ _ _ _ _ h
theorem ok_Mod_keep {X : Sc} {l : Launch}  {M : Mem} {x1 : Int32} {r : Int32} {M' : Mem}  (h : f_Mod_keep x1 M = some (r, M')) : Mt X l yX11_keep cX11_keep 3 (some .int) 1 0 0 [.ref 103, .int x1] S0 M (some (.int r)) S0 M' := by
  refine Mt.ofV (by decide) (Nat.le_of_ble_eq_true rfl) ?_
  show V X yX11_keep cX11_keep 3 (some .int) (rmD 1 0 0) l (FM (some (.int r)) S0 M' 0 0) 0 [some (.ref 103), some (.int x1), none] [] S0 M 0 0
  unfold f_Mod_keep at h
  refine V.iload_n dX11_keep_0 rfl ?_
  refine V.i2l dX11_keep_1 ?_
  refine V.lconst dX11_keep_2 lc_0 ?_
  refine V.lconst dX11_keep_3 lc_1 ?_
  obtain ⟨v2, hv1, h⟩ := bnd_s h
  refine V.cSi dX11_keep_4 rfl mv_RX11_120 (ok_Mod_in hv1) rfl rfl (by decide) ⟨Nat.zero_le _, Nat.zero_le _⟩ (Nat.le_of_ble_eq_true rfl) (Nat.zero_le _) ?_
  refine V.if_ne (tgt := 12) dX11_keep_7 (by decide) (fun hc3 => ?_) (fun hc3 => ?_)
  · replace h := ite_f hc3 h
    refine V.aload_n dX11_keep_12 rfl ?_
    refine V.getR dX11_keep_13 fl_RX11_13 s0_103 rfl rfl ?_
    refine V.iload_n dX11_keep_16 rfl ?_
    obtain ⟨hb4, h⟩ := ck_s h
    refine V.zald dX11_keep_17 s0_105 rfl (vp_of hb4) ?_
    obtain ⟨v6, hv5, h⟩ := bnd_s h
    refine V.cSi dX11_keep_18 rfl mv_RX11_195 (ok_Mod_flag hv5) rfl rfl (by decide) ⟨Nat.zero_le _, Nat.zero_le _⟩ (Nat.le_of_ble_eq_true rfl) (Nat.zero_le _) ?_
    refine V.istore_n dX11_keep_21 (by decide) rfl ?_
    refine V.aload_n dX11_keep_22 rfl ?_
    refine V.getR dX11_keep_23 fl_RX11_13 s0_103 rfl rfl ?_
    refine V.iload_n dX11_keep_26 rfl ?_
    refine V.iconst dX11_keep_27 ic_1 ?_
    obtain ⟨hb7, h⟩ := ck_s h
    refine V.zast dX11_keep_28 s0_105 rfl (vp_of hb7) (by decide) (fun M8 hM8 => ?_)
    replace h := setM_at h M8 hM8
    refine V.aload_n dX11_keep_29 rfl ?_
    refine V.bipush dX11_keep_30 bp_125 ?_
    refine V.iload_n dX11_keep_32 rfl ?_
    refine V.iconst dX11_keep_33 ic_1 ?_
    refine V.iadd dX11_keep_34 ?_
    refine V.imul dX11_keep_35 ?_
    refine V.iconst dX11_keep_36 ic_0 ?_
    obtain ⟨M10, hv9, h⟩ := bnd_s h
    refine V.cVv dX11_keep_37 rfl mv_RX11_362 (ok_Mod_copies hv9) rfl rfl s0_103 rfl (by decide) ⟨Nat.zero_le _, Nat.zero_le _⟩ (Nat.le_of_ble_eq_true rfl) (Nat.zero_le _) ?_
    refine V.iload_n dX11_keep_40 rfl ?_
    obtain ⟨e1, e2⟩ := inj2 h
    subst e1
    subst e2
    exact V.iret dX11_keep_41 rfl rfl
  replace h := ite_t hc3 h
  refine V.iconst dX11_keep_10 ic_m1 ?_
  obtain ⟨e1, e2⟩ := inj2 h
  subst e1
  subst e2
  exact V.iret dX11_keep_11 rfl rfl
theorem ok_Mod_back {X : Sc} {l : Launch}  {M : Mem} {x1 : Int32} {r : Int32} {M' : Mem}  (h : f_Mod_back x1 M = some (r, M')) : Mt X l yX11_back cX11_back 2 (some .int) 1 0 0 [.ref 103, .int x1] S0 M (some (.int r)) S0 M' := by
  refine Mt.ofV (by decide) (Nat.le_of_ble_eq_true rfl) ?_
  show V X yX11_back cX11_back 2 (some .int) (rmD 1 0 0) l (FM (some (.int r)) S0 M' 0 0) 0 [some (.ref 103), some (.int x1)] [] S0 M 0 0
  unfold f_Mod_back at h
  refine V.iload_n dX11_back_0 rfl ?_
  refine V.i2l dX11_back_1 ?_
  refine V.lconst dX11_back_2 lc_0 ?_
  refine V.lconst dX11_back_3 lc_1 ?_
  obtain ⟨v2, hv1, h⟩ := bnd_s h
  refine V.cSi dX11_back_4 rfl mv_RX11_120 (ok_Mod_in hv1) rfl rfl (by decide) ⟨Nat.zero_le _, Nat.zero_le _⟩ (Nat.le_of_ble_eq_true rfl) (Nat.zero_le _) ?_
  refine V.if_ne (tgt := 12) dX11_back_7 (by decide) (fun hc3 => ?_) (fun hc3 => ?_)
  · replace h := ite_f hc3 h
    refine V.aload_n dX11_back_12 rfl ?_
    refine V.getR dX11_back_13 fl_RX11_13 s0_103 rfl rfl ?_
    refine V.iload_n dX11_back_16 rfl ?_
    obtain ⟨hb4, h⟩ := ck_s h
    refine V.zald dX11_back_17 s0_105 rfl (vp_of hb4) ?_
    refine V.if_ne (tgt := 24) dX11_back_18 (by decide) (fun hc5 => ?_) (fun hc5 => ?_)
    · replace h := ite_f hc5 h
      refine V.aload_n dX11_back_24 rfl ?_
      refine V.iconst dX11_back_25 ic_0 ?_
      refine V.bipush dX11_back_26 bp_125 ?_
      refine V.iload_n dX11_back_28 rfl ?_
      refine V.iconst dX11_back_29 ic_1 ?_
      refine V.iadd dX11_back_30 ?_
      refine V.imul dX11_back_31 ?_
      obtain ⟨M7, hv6, h⟩ := bnd_s h
      refine V.cVv dX11_back_32 rfl mv_RX11_362 (ok_Mod_copies hv6) rfl rfl s0_103 rfl (by decide) ⟨Nat.zero_le _, Nat.zero_le _⟩ (Nat.le_of_ble_eq_true rfl) (Nat.zero_le _) ?_
      refine V.aload_n dX11_back_35 rfl ?_
      refine V.getR dX11_back_36 fl_RX11_7 s0_103 rfl rfl ?_
      refine V.bipush dX11_back_39 bp_88 ?_
      refine V.iald dX11_back_41 s0_104 rfl (vp_of (by decide)) ?_
      obtain ⟨e1, e2⟩ := inj2 h
      subst e1
      subst e2
      exact V.iret dX11_back_42 rfl rfl
    replace h := ite_t hc5 h
    refine V.bipush dX11_back_21 bp_m2 ?_
    obtain ⟨e1, e2⟩ := inj2 h
    subst e1
    subst e2
    exact V.iret dX11_back_23 rfl rfl
  replace h := ite_t hc3 h
  refine V.iconst dX11_back_10 ic_m1 ?_
  obtain ⟨e1, e2⟩ := inj2 h
  subst e1
  subst e2
  exact V.iret dX11_back_11 rfl rfl
theorem ok_Mod_isSheet {X : Sc} {l : Launch} {sh : List Shp}  {M : Mem} {x0 : Int32} {x1 : Int32} {r : Int32}  (h : f_Mod_isSheet x0 x1 = some r) : Mt X l yX11_isSheet cX11_isSheet 2 (some .boolean) 1 0 0 [.int x0, .int x1] sh M (some (.int r)) sh M := by
  refine Mt.ofV (by decide) (Nat.le_of_ble_eq_true rfl) ?_
  show V X yX11_isSheet cX11_isSheet 2 (some .boolean) (rmD 1 0 0) l (FM (some (.int r)) sh M 0 0) 0 [some (.int x0), some (.int x1)] [] sh M 0 0
  unfold f_Mod_isSheet at h
  refine V.iload_n dX11_isSheet_0 rfl ?_
  refine V.i2l dX11_isSheet_1 ?_
  refine V.lconst dX11_isSheet_2 lc_0 ?_
  refine V.ldc2 dX11_isSheet_3 rfl kc_RX11_251 ?_
  obtain ⟨v2, hv1, h⟩ := bnd_s h
  refine V.cSi dX11_isSheet_6 rfl mv_RX11_120 (ok_Mod_in hv1) rfl rfl (by decide) ⟨Nat.zero_le _, Nat.zero_le _⟩ (Nat.le_of_ble_eq_true rfl) (Nat.zero_le _) ?_
  refine V.if_eq (tgt := 28) dX11_isSheet_9 (by decide) (fun hc3 => ?_) (fun hc3 => ?_)
  · replace h := ite_t hc3 h
    refine V.iconst dX11_isSheet_28 ic_0 ?_
    have e1 := inj1 h
    subst e1
    exact V.iret dX11_isSheet_29 rfl rfl
  replace h := ite_f hc3 h
  refine V.iload_n dX11_isSheet_12 rfl ?_
  refine V.i2l dX11_isSheet_13 ?_
  refine V.lconst dX11_isSheet_14 lc_0 ?_
  refine V.ldc2 dX11_isSheet_15 rfl kc_RX11_226 ?_
  obtain ⟨v5, hv4, h⟩ := bnd_s h
  refine V.cSi dX11_isSheet_18 rfl mv_RX11_120 (ok_Mod_in hv4) rfl rfl (by decide) ⟨Nat.zero_le _, Nat.zero_le _⟩ (Nat.le_of_ble_eq_true rfl) (Nat.zero_le _) ?_
  refine V.if_eq (tgt := 28) dX11_isSheet_21 (by decide) (fun hc6 => ?_) (fun hc6 => ?_)
  · replace h := ite_t hc6 h
    refine V.iconst dX11_isSheet_28 ic_0 ?_
    have e1 := inj1 h
    subst e1
    exact V.iret dX11_isSheet_29 rfl rfl
  replace h := ite_f hc6 h
  refine V.iconst dX11_isSheet_24 ic_1 ?_
  refine V.goto (tgt := 29) dX11_isSheet_25 (by decide) ?_
  have e1 := inj1 h
  subst e1
  exact V.iret dX11_isSheet_29 rfl rfl
theorem okc_Mod_sheet_40 {X : Sc} {l : Launch}     : ∀ (n : Nat) (x1 : Int32) (x4 : Int32) (M : Mem) (r : Int32) (M' : Mem), f_Mod_sheet_L40  n x1 x4 M = some (r, M') → V X yX11_sheet cX11_sheet 5 (some .int) (rmD 2 0 0) l (FM (some (.int r)) S0 M' 0 0) 40 [some (.ref 103), some (.int x1), none, none, some (.int x4)] [] S0 M 0 0 := by
  intro n
  induction n with
  | zero =>
    intro x1 x4 M r M' h
    rw [f_Mod_sheet_L40] at h
    cases h
  | succ n ih =>
    intro x1 x4 M r M' h
    rw [f_Mod_sheet_L40] at h
    refine V.iload dX11_sheet_40 rfl ?_
    refine V.bipush dX11_sheet_42 bp_40 ?_
    refine V.icmp_ge (tgt := 66) dX11_sheet_44 (by decide) (fun hc1 => ?_) (fun hc1 => ?_)
    · replace h := ite_t hc1 h
      refine V.iconst dX11_sheet_66 ic_1 ?_
      obtain ⟨e1, e2⟩ := inj2 h
      subst e1
      subst e2
      exact V.iret dX11_sheet_67 rfl rfl
    replace h := ite_f hc1 h
    refine V.aload_n dX11_sheet_47 rfl ?_
    refine V.getR dX11_sheet_48 fl_RX11_62 s0_103 rfl rfl ?_
    refine V.bipush dX11_sheet_51 bp_40 ?_
    refine V.iload_n dX11_sheet_53 rfl ?_
    refine V.imul dX11_sheet_54 ?_
    refine V.iload dX11_sheet_55 rfl ?_
    refine V.iadd dX11_sheet_57 ?_
    refine V.iconst dX11_sheet_58 ic_0 ?_
    obtain ⟨hb2, h⟩ := ck_s h
    refine V.iast dX11_sheet_59 s0_121 rfl (vp_of hb2) (fun M3 hM3 => ?_)
    replace h := setM_at h M3 hM3
    refine V.iinc dX11_sheet_60 rfl (iinc_c ic_1) (by decide) rfl ?_
    refine V.goto (tgt := 40) dX11_sheet_63 (by decide) ?_
    exact ih _ _ _ _ _ h
theorem ok_Mod_sheet {X : Sc} {l : Launch}  {M : Mem} {x1 : Int32} {x2 : Int32} {x3 : Int32} {r : Int32} {M' : Mem}  (h : f_Mod_sheet x1 x2 x3 M = some (r, M')) : Mt X l yX11_sheet cX11_sheet 5 (some .int) 2 0 0 [.ref 103, .int x1, .int x2, .int x3] S0 M (some (.int r)) S0 M' := by
  refine Mt.ofV (by decide) (Nat.le_of_ble_eq_true rfl) ?_
  show V X yX11_sheet cX11_sheet 5 (some .int) (rmD 2 0 0) l (FM (some (.int r)) S0 M' 0 0) 0 [some (.ref 103), some (.int x1), some (.int x2), some (.int x3), none] [] S0 M 0 0
  unfold f_Mod_sheet at h
  refine V.iload_n dX11_sheet_0 rfl ?_
  refine V.iload_n dX11_sheet_1 rfl ?_
  obtain ⟨v2, hv1, h⟩ := bnd_s h
  refine V.cSi dX11_sheet_2 rfl mv_RX11_365 (ok_Mod_isSheet hv1) rfl rfl (by decide) ⟨Nat.zero_le _, Nat.zero_le _⟩ (Nat.le_of_ble_eq_true rfl) (Nat.zero_le _) ?_
  refine V.if_eq (tgt := 14) dX11_sheet_5 (by decide) (fun hc3 => ?_) (fun hc3 => ?_)
  · replace h := ite_t hc3 h
    refine V.iconst dX11_sheet_14 ic_m1 ?_
    obtain ⟨e1, e2⟩ := inj2 h
    subst e1
    subst e2
    exact V.iret dX11_sheet_15 rfl rfl
  replace h := ite_f hc3 h
  refine V.iload_n dX11_sheet_8 rfl ?_
  refine V.bipush dX11_sheet_9 bp_40 ?_
  refine V.icmp_le (tgt := 16) dX11_sheet_11 (by decide) (fun hc4 => ?_) (fun hc4 => ?_)
  · replace h := ite_t hc4 h
    refine V.iload_n dX11_sheet_16 rfl ?_
    refine V.if_ge (tgt := 23) dX11_sheet_17 (by decide) (fun hc5 => ?_) (fun hc5 => ?_)
    · replace h := ite_t hc5 h
      refine V.aload_n dX11_sheet_23 rfl ?_
      refine V.getR dX11_sheet_24 fl_RX11_56 s0_103 rfl rfl ?_
      refine V.iload_n dX11_sheet_27 rfl ?_
      refine V.iload_n dX11_sheet_28 rfl ?_
      obtain ⟨hb6, h⟩ := ck_s h
      refine V.iast dX11_sheet_29 s0_119 rfl (vp_of hb6) (fun M7 hM7 => ?_)
      replace h := setM_at h M7 hM7
      refine V.aload_n dX11_sheet_30 rfl ?_
      refine V.getR dX11_sheet_31 fl_RX11_59 s0_103 rfl rfl ?_
      refine V.iload_n dX11_sheet_34 rfl ?_
      refine V.iload_n dX11_sheet_35 rfl ?_
      obtain ⟨hb8, h⟩ := ck_s h
      refine V.iast dX11_sheet_36 s0_120 rfl (vp_of hb8) (fun M9 hM9 => ?_)
      replace h := setM_at h M9 hM9
      refine V.iconst dX11_sheet_37 ic_0 ?_
      refine V.istore dX11_sheet_38 (by decide) rfl ?_
      refine V.mask [true, true, false, false, true] rfl ?_
      exact okc_Mod_sheet_40 _ _ _ _ _ _ h
    replace h := ite_f hc5 h
    refine V.bipush dX11_sheet_20 bp_m14 ?_
    obtain ⟨e1, e2⟩ := inj2 h
    subst e1
    subst e2
    exact V.iret dX11_sheet_22 rfl rfl
  replace h := ite_f hc4 h
  refine V.iconst dX11_sheet_14 ic_m1 ?_
  obtain ⟨e1, e2⟩ := inj2 h
  subst e1
  subst e2
  exact V.iret dX11_sheet_15 rfl rfl
theorem okc_Mod_lay_85 {X : Sc} {l : Launch}     {s1 : Int32} {s2 : Int32} {M : Mem} {r : Int32} {M' : Mem} (h : f_Mod_lay_J85  s1 s2 M = some (r, M')) : V X yX11_lay cX11_lay 4 (some .int) (rmD 2 0 0) l (FM (some (.int r)) S0 M' 0 0) 85 [none, none, none, none] [.int s2, .int s1, .ref 121] S0 M 0 0 := by
  unfold f_Mod_lay_J85 at h
  obtain ⟨hb1, h⟩ := ck_s h
  refine V.iast dX11_lay_85 s0_121 rfl (vp_of hb1) (fun M2 hM2 => ?_)
  replace h := setM_at h M2 hM2
  refine V.iconst dX11_lay_86 ic_1 ?_
  obtain ⟨e1, e2⟩ := inj2 h
  subst e1
  subst e2
  exact V.iret dX11_lay_87 rfl rfl
theorem ok_Mod_lay {X : Sc} {l : Launch}  {M : Mem} {x1 : Int32} {x2 : Int32} {x3 : Int32} {r : Int32} {M' : Mem}  (h : f_Mod_lay x1 x2 x3 M = some (r, M')) : Mt X l yX11_lay cX11_lay 4 (some .int) 2 0 0 [.ref 103, .int x1, .int x2, .int x3] S0 M (some (.int r)) S0 M' := by
  refine Mt.ofV (by decide) (Nat.le_of_ble_eq_true rfl) ?_
  show V X yX11_lay cX11_lay 4 (some .int) (rmD 2 0 0) l (FM (some (.int r)) S0 M' 0 0) 0 [some (.ref 103), some (.int x1), some (.int x2), some (.int x3)] [] S0 M 0 0
  unfold f_Mod_lay at h
  refine V.iload_n dX11_lay_0 rfl ?_
  refine V.iconst dX11_lay_1 ic_0 ?_
  obtain ⟨v2, hv1, h⟩ := bnd_s h
  refine V.cSi dX11_lay_2 rfl mv_RX11_365 (ok_Mod_isSheet hv1) rfl rfl (by decide) ⟨Nat.zero_le _, Nat.zero_le _⟩ (Nat.le_of_ble_eq_true rfl) (Nat.zero_le _) ?_
  refine V.if_ne (tgt := 10) dX11_lay_5 (by decide) (fun hc3 => ?_) (fun hc3 => ?_)
  · replace h := ite_f hc3 h
    refine V.aload_n dX11_lay_10 rfl ?_
    refine V.getR dX11_lay_11 fl_RX11_56 s0_103 rfl rfl ?_
    refine V.iload_n dX11_lay_14 rfl ?_
    obtain ⟨hb4, h⟩ := ck_s h
    refine V.iald dX11_lay_15 s0_119 rfl (vp_of hb4) ?_
    refine V.bipush dX11_lay_16 bp_m4 ?_
    refine V.icmp_ne (tgt := 24) dX11_lay_18 (by decide) (fun hc5 => ?_) (fun hc5 => ?_)
    · replace h := ite_f hc5 h
      refine V.iload_n dX11_lay_24 rfl ?_
      refine V.i2l dX11_lay_25 ?_
      refine V.lconst dX11_lay_26 lc_0 ?_
      refine V.aload_n dX11_lay_27 rfl ?_
      refine V.getR dX11_lay_28 fl_RX11_59 s0_103 rfl rfl ?_
      refine V.iload_n dX11_lay_31 rfl ?_
      obtain ⟨hb6, h⟩ := ck_s h
      refine V.iald dX11_lay_32 s0_120 rfl (vp_of hb6) ?_
      refine V.iconst dX11_lay_33 ic_1 ?_
      refine V.isub dX11_lay_34 ?_
      refine V.i2l dX11_lay_35 ?_
      obtain ⟨v8, hv7, h⟩ := bnd_s h
      refine V.cSi dX11_lay_36 rfl mv_RX11_120 (ok_Mod_in hv7) rfl rfl (by decide) ⟨Nat.zero_le _, Nat.zero_le _⟩ (Nat.le_of_ble_eq_true rfl) (Nat.zero_le _) ?_
      refine V.if_ne (tgt := 45) dX11_lay_39 (by decide) (fun hc9 => ?_) (fun hc9 => ?_)
      · replace h := ite_f hc9 h
        refine V.aload_n dX11_lay_45 rfl ?_
        refine V.getR dX11_lay_46 fl_RX11_62 s0_103 rfl rfl ?_
        refine V.bipush dX11_lay_49 bp_40 ?_
        refine V.iload_n dX11_lay_51 rfl ?_
        refine V.imul dX11_lay_52 ?_
        refine V.iload_n dX11_lay_53 rfl ?_
        refine V.iadd dX11_lay_54 ?_
        refine V.aload_n dX11_lay_55 rfl ?_
        refine V.getR dX11_lay_56 fl_RX11_56 s0_103 rfl rfl ?_
        refine V.iload_n dX11_lay_59 rfl ?_
        obtain ⟨hb10, h⟩ := ck_s h
        refine V.iald dX11_lay_60 s0_119 rfl (vp_of hb10) ?_
        refine V.if_ne (tgt := 69) dX11_lay_61 (by decide) (fun hc11 => ?_) (fun hc11 => ?_)
        · replace h := ite_f hc11 h
          refine V.aload_n dX11_lay_69 rfl ?_
          refine V.getR dX11_lay_70 fl_RX11_56 s0_103 rfl rfl ?_
          refine V.iload_n dX11_lay_73 rfl ?_
          obtain ⟨hb12, h⟩ := ck_s h
          refine V.iald dX11_lay_74 s0_119 rfl (vp_of hb12) ?_
          refine V.iconst dX11_lay_75 ic_1 ?_
          refine V.icmp_ne (tgt := 84) dX11_lay_76 (by decide) (fun hc13 => ?_) (fun hc13 => ?_)
          · replace h := ite_f hc13 h
            refine V.iload_n dX11_lay_84 rfl ?_
            refine V.mask [false, false, false, false] rfl ?_
            exact okc_Mod_lay_85 h
          replace h := ite_t hc13 h
          refine V.iload_n dX11_lay_79 rfl ?_
          refine V.i2s dX11_lay_80 ?_
          refine V.goto (tgt := 85) dX11_lay_81 (by decide) ?_
          refine V.mask [false, false, false, false] rfl ?_
          exact okc_Mod_lay_85 h
        replace h := ite_t hc11 h
        refine V.iload_n dX11_lay_64 rfl ?_
        refine V.i2b dX11_lay_65 ?_
        refine V.goto (tgt := 85) dX11_lay_66 (by decide) ?_
        refine V.mask [false, false, false, false] rfl ?_
        exact okc_Mod_lay_85 h
      replace h := ite_t hc9 h
      refine V.bipush dX11_lay_42 bp_m12 ?_
      obtain ⟨e1, e2⟩ := inj2 h
      subst e1
      subst e2
      exact V.iret dX11_lay_44 rfl rfl
    replace h := ite_t hc5 h
    refine V.bipush dX11_lay_21 bp_m11 ?_
    obtain ⟨e1, e2⟩ := inj2 h
    subst e1
    subst e2
    exact V.iret dX11_lay_23 rfl rfl
  replace h := ite_t hc3 h
  refine V.iconst dX11_lay_8 ic_m1 ?_
  obtain ⟨e1, e2⟩ := inj2 h
  subst e1
  subst e2
  exact V.iret dX11_lay_9 rfl rfl
theorem okc_Mod_read_217 {X : Sc} {l : Launch}     {x6 : Int32} {x7 : Int32} {M : Mem} {r : Int32} {M' : Mem} (h : f_Mod_read_J217  x6 x7 M = some (r, M')) : V X yX11_read cX11_read 12 (some .int) (rmD 3 0 0) l (FM (some (.int r)) S0 M' 0 0) 217 [some (.ref 103), none, none, none, none, none, some (.int x6), some (.int x7), none, none, none, none] [] S0 M 0 0 := by
  unfold f_Mod_read_J217 at h
  refine V.aload_n dX11_read_217 rfl ?_
  refine V.iload dX11_read_218 rfl ?_
  refine V.putI dX11_read_220 fp_RX11_372 s0_103 rfl rfl (fun M1 hM1 => ?_)
  replace h := setM_at h M1 hM1
  refine V.iload dX11_read_223 rfl ?_
  obtain ⟨e1, e2⟩ := inj2 h
  subst e1
  subst e2
  exact V.iret dX11_read_225 rfl rfl
theorem okc_Mod_read_143 {X : Sc} {l : Launch} {k41 : Int32 → Int32 → Int32 → Int32 → Int32 → Int32 → Int32 → Int32 → Mem → Option (Int32 × Mem)}  (hk41 : ∀ (x1 : Int32) (x2 : Int32) (x3 : Int32) (x4 : Int32) (x5 : Int32) (x6 : Int32) (x7 : Int32) (x8 : Int32) (M : Mem) (r : Int32) (M' : Mem), k41 x1 x2 x3 x4 x5 x6 x7 x8 M = some (r, M') → V X yX11_read cX11_read 12 (some .int) (rmD 3 0 0) l (FM (some (.int r)) S0 M' 0 0) 41 [some (.ref 103), some (.int x1), some (.int x2), some (.int x3), some (.int x4), some (.int x5), some (.int x6), some (.int x7), some (.int x8), none, none, none] [] S0 M 0 0)  {x1 : Int32} {x2 : Int32} {x3 : Int32} {x4 : Int32} {x5 : Int32} {x6 : Int32} {x7 : Int32} {x8 : Int32} {M : Mem} {r : Int32} {M' : Mem} (h : f_Mod_read_J143 k41 x1 x2 x3 x4 x5 x6 x7 x8 M = some (r, M')) : V X yX11_read cX11_read 12 (some .int) (rmD 3 0 0) l (FM (some (.int r)) S0 M' 0 0) 143 [some (.ref 103), some (.int x1), some (.int x2), some (.int x3), some (.int x4), some (.int x5), some (.int x6), some (.int x7), some (.int x8), none, none, none] [] S0 M 0 0 := by
  unfold f_Mod_read_J143 at h
  refine V.iload dX11_read_143 rfl ?_
  refine V.if_ne (tgt := 211) dX11_read_145 (by decide) (fun hc1 => ?_) (fun hc1 => ?_)
  · replace h := ite_f hc1 h
    refine V.iinc dX11_read_211 rfl (iinc_c ic_1) (by decide) rfl ?_
    refine V.goto (tgt := 41) dX11_read_214 (by decide) ?_
    exact hk41 _ _ _ _ _ _ _ _ _ _ _ h
  replace h := ite_t hc1 h
  refine V.bipush dX11_read_148 bp_40 ?_
  refine V.iload_n dX11_read_150 rfl ?_
  refine V.imul dX11_read_151 ?_
  refine V.iload_n dX11_read_152 rfl ?_
  refine V.iadd dX11_read_153 ?_
  refine V.iconst dX11_read_154 ic_3 ?_
  refine V.iload dX11_read_155 rfl ?_
  refine V.imul dX11_read_157 ?_
  refine V.iadd dX11_read_158 ?_
  refine V.nmI (fun w2 hw2 => ?_)
  replace h := nmI_at h w2 hw2
  refine V.istore dX11_read_159 (by decide) rfl ?_
  refine V.aload_n dX11_read_161 rfl ?_
  refine V.aload_n dX11_read_162 rfl ?_
  refine V.getR dX11_read_163 fl_RX11_62 s0_103 rfl rfl ?_
  refine V.iload dX11_read_166 rfl ?_
  obtain ⟨hb3, h⟩ := ck_s h
  refine V.iald dX11_read_168 s0_121 rfl (vp_of hb3) ?_
  refine V.aload_n dX11_read_169 rfl ?_
  refine V.getR dX11_read_170 fl_RX11_62 s0_103 rfl rfl ?_
  refine V.iload dX11_read_173 rfl ?_
  refine V.iconst dX11_read_175 ic_1 ?_
  refine V.iadd dX11_read_176 ?_
  obtain ⟨hb4, h⟩ := ck_s h
  refine V.iald dX11_read_177 s0_121 rfl (vp_of hb4) ?_
  refine V.aload_n dX11_read_178 rfl ?_
  refine V.getR dX11_read_179 fl_RX11_62 s0_103 rfl rfl ?_
  refine V.iload dX11_read_182 rfl ?_
  refine V.iconst dX11_read_184 ic_2 ?_
  refine V.iadd dX11_read_185 ?_
  obtain ⟨hb5, h⟩ := ck_s h
  refine V.iald dX11_read_186 s0_121 rfl (vp_of hb5) ?_
  obtain ⟨v7, M8, hv6, h⟩ := bnd2_s h
  refine V.cVi dX11_read_187 rfl mv_RX11_368 (ok_Mod_say hv6) rfl rfl s0_103 rfl (by decide) ⟨Nat.zero_le _, Nat.zero_le _⟩ (Nat.le_of_ble_eq_true rfl) (Nat.zero_le _) ?_
  refine V.if_ge (tgt := 208) dX11_read_190 (by decide) (fun hc9 => ?_) (fun hc9 => ?_)
  · replace h := ite_t hc9 h
    refine V.iinc dX11_read_208 rfl (iinc_c ic_1) (by decide) rfl ?_
    refine V.iinc dX11_read_211 rfl (iinc_c ic_1) (by decide) rfl ?_
    refine V.goto (tgt := 41) dX11_read_214 (by decide) ?_
    refine V.mask [true, true, true, true, true, true, true, true, true, false, false, false] rfl ?_
    exact hk41 _ _ _ _ _ _ _ _ _ _ _ h
  replace h := ite_f hc9 h
  refine V.aload_n dX11_read_193 rfl ?_
  refine V.getR dX11_read_194 fl_RX11_7 s0_103 rfl rfl ?_
  refine V.bipush dX11_read_197 bp_88 ?_
  refine V.iload dX11_read_199 rfl ?_
  refine V.iast dX11_read_201 s0_104 rfl (vp_of (by decide)) (fun M10 hM10 => ?_)
  replace h := setM_at h M10 hM10
  refine V.bipush dX11_read_202 bp_m20 ?_
  refine V.iload dX11_read_204 rfl ?_
  refine V.isub dX11_read_206 ?_
  obtain ⟨e1, e2⟩ := inj2 h
  subst e1
  subst e2
  exact V.iret dX11_read_207 rfl rfl
theorem okc_Mod_read_56 {X : Sc} {l : Launch} {k41 : Int32 → Int32 → Int32 → Int32 → Int32 → Int32 → Int32 → Int32 → Mem → Option (Int32 × Mem)}  (hk41 : ∀ (x1 : Int32) (x2 : Int32) (x3 : Int32) (x4 : Int32) (x5 : Int32) (x6 : Int32) (x7 : Int32) (x8 : Int32) (M : Mem) (r : Int32) (M' : Mem), k41 x1 x2 x3 x4 x5 x6 x7 x8 M = some (r, M') → V X yX11_read cX11_read 12 (some .int) (rmD 3 0 0) l (FM (some (.int r)) S0 M' 0 0) 41 [some (.ref 103), some (.int x1), some (.int x2), some (.int x3), some (.int x4), some (.int x5), some (.int x6), some (.int x7), some (.int x8), none, none, none] [] S0 M 0 0)  : ∀ (n : Nat) (x1 : Int32) (x2 : Int32) (x3 : Int32) (x4 : Int32) (x5 : Int32) (x6 : Int32) (x7 : Int32) (x8 : Int32) (x9 : Int32) (M : Mem) (r : Int32) (M' : Mem), f_Mod_read_L56 k41 n x1 x2 x3 x4 x5 x6 x7 x8 x9 M = some (r, M') → V X yX11_read cX11_read 12 (some .int) (rmD 3 0 0) l (FM (some (.int r)) S0 M' 0 0) 56 [some (.ref 103), some (.int x1), some (.int x2), some (.int x3), some (.int x4), some (.int x5), some (.int x6), some (.int x7), some (.int x8), some (.int x9), none, none] [] S0 M 0 0 := by
  intro n
  induction n with
  | zero =>
    intro x1 x2 x3 x4 x5 x6 x7 x8 x9 M r M' h
    rw [f_Mod_read_L56] at h
    cases h
  | succ n ih =>
    intro x1 x2 x3 x4 x5 x6 x7 x8 x9 M r M' h
    rw [f_Mod_read_L56] at h
    refine V.iload dX11_read_56 rfl ?_
    refine V.iconst dX11_read_58 ic_3 ?_
    refine V.icmp_ge (tgt := 143) dX11_read_59 (by decide) (fun hc1 => ?_) (fun hc1 => ?_)
    · replace h := ite_t hc1 h
      refine V.mask [true, true, true, true, true, true, true, true, true, false, false, false] rfl ?_
      exact okc_Mod_read_143 hk41 h
    replace h := ite_f hc1 h
    refine V.iload dX11_read_62 rfl ?_
    refine V.if_ne (tgt := 143) dX11_read_64 (by decide) (fun hc2 => ?_) (fun hc2 => ?_)
    · replace h := ite_f hc2 h
      refine V.mask [true, true, true, true, true, true, true, true, true, false, false, false] rfl ?_
      exact okc_Mod_read_143 hk41 h
    replace h := ite_t hc2 h
    refine V.iload_n dX11_read_67 rfl ?_
    refine V.i2l dX11_read_68 ?_
    refine V.iconst dX11_read_69 ic_3 ?_
    refine V.iload dX11_read_70 rfl ?_
    refine V.imul dX11_read_72 ?_
    refine V.i2l dX11_read_73 ?_
    refine V.ladd dX11_read_74 ?_
    refine V.iload dX11_read_75 rfl ?_
    refine V.i2l dX11_read_77 ?_
    refine V.ladd dX11_read_78 ?_
    refine V.nmL (fun w3 hw3 => ?_)
    replace h := nmL_at h w3 hw3
    refine V.lstore dX11_read_79 (by decide) rfl ?_
    refine V.aload_n dX11_read_81 rfl ?_
    refine V.getR dX11_read_82 fl_RX11_56 s0_103 rfl rfl ?_
    refine V.iload_n dX11_read_85 rfl ?_
    obtain ⟨hb4, h⟩ := ck_s h
    refine V.iald dX11_read_86 s0_119 rfl (vp_of hb4) ?_
    refine V.bipush dX11_read_87 bp_m4 ?_
    refine V.icmp_ne (tgt := 96) dX11_read_89 (by decide) (fun hc5 => ?_) (fun hc5 => ?_)
    · replace h := ite_f hc5 h
      refine V.aload_n dX11_read_96 rfl ?_
      refine V.getR dX11_read_97 fl_RX11_56 s0_103 rfl rfl ?_
      refine V.iload_n dX11_read_100 rfl ?_
      obtain ⟨hb6, h⟩ := ck_s h
      refine V.iald dX11_read_101 s0_119 rfl (vp_of hb6) ?_
      refine V.iload_n dX11_read_102 rfl ?_
      refine V.icmp_eq (tgt := 110) dX11_read_103 (by decide) (fun hc7 => ?_) (fun hc7 => ?_)
      · replace h := ite_t hc7 h
        refine V.lload dX11_read_110 rfl ?_
        refine V.lconst dX11_read_112 lc_0 ?_
        refine V.lcmp dX11_read_113 ?_
        refine V.if_lt (tgt := 130) dX11_read_114 (by decide) (fun hc8 => ?_) (fun hc8 => ?_)
        · replace h := ite_t hc8 h
          refine V.iconst dX11_read_130 ic_2 ?_
          refine V.goto (tgt := 135) dX11_read_131 (by decide) ?_
          refine V.istore dX11_read_135 (by decide) rfl ?_
          refine V.iinc dX11_read_137 rfl (iinc_c ic_1) (by decide) rfl ?_
          refine V.goto (tgt := 56) dX11_read_140 (by decide) ?_
          refine V.mask [true, true, true, true, true, true, true, true, true, true, false, false] rfl ?_
          exact ih _ _ _ _ _ _ _ _ _ _ _ _ h
        replace h := ite_f hc8 h
        refine V.lload dX11_read_117 rfl ?_
        refine V.aload_n dX11_read_119 rfl ?_
        refine V.getR dX11_read_120 fl_RX11_59 s0_103 rfl rfl ?_
        refine V.iload_n dX11_read_123 rfl ?_
        obtain ⟨hb9, h⟩ := ck_s h
        refine V.iald dX11_read_124 s0_120 rfl (vp_of hb9) ?_
        refine V.i2l dX11_read_125 ?_
        refine V.lcmp dX11_read_126 ?_
        refine V.if_lt (tgt := 134) dX11_read_127 (by decide) (fun hc10 => ?_) (fun hc10 => ?_)
        · replace h := ite_t hc10 h
          refine V.iconst dX11_read_134 ic_0 ?_
          refine V.istore dX11_read_135 (by decide) rfl ?_
          refine V.iinc dX11_read_137 rfl (iinc_c ic_1) (by decide) rfl ?_
          refine V.goto (tgt := 56) dX11_read_140 (by decide) ?_
          refine V.mask [true, true, true, true, true, true, true, true, true, true, false, false] rfl ?_
          exact ih _ _ _ _ _ _ _ _ _ _ _ _ h
        replace h := ite_f hc10 h
        refine V.iconst dX11_read_130 ic_2 ?_
        refine V.goto (tgt := 135) dX11_read_131 (by decide) ?_
        refine V.istore dX11_read_135 (by decide) rfl ?_
        refine V.iinc dX11_read_137 rfl (iinc_c ic_1) (by decide) rfl ?_
        refine V.goto (tgt := 56) dX11_read_140 (by decide) ?_
        refine V.mask [true, true, true, true, true, true, true, true, true, true, false, false] rfl ?_
        exact ih _ _ _ _ _ _ _ _ _ _ _ _ h
      replace h := ite_f hc7 h
      refine V.iconst dX11_read_106 ic_3 ?_
      refine V.goto (tgt := 135) dX11_read_107 (by decide) ?_
      refine V.istore dX11_read_135 (by decide) rfl ?_
      refine V.iinc dX11_read_137 rfl (iinc_c ic_1) (by decide) rfl ?_
      refine V.goto (tgt := 56) dX11_read_140 (by decide) ?_
      refine V.mask [true, true, true, true, true, true, true, true, true, true, false, false] rfl ?_
      exact ih _ _ _ _ _ _ _ _ _ _ _ _ h
    replace h := ite_t hc5 h
    refine V.iconst dX11_read_92 ic_1 ?_
    refine V.goto (tgt := 135) dX11_read_93 (by decide) ?_
    refine V.istore dX11_read_135 (by decide) rfl ?_
    refine V.iinc dX11_read_137 rfl (iinc_c ic_1) (by decide) rfl ?_
    refine V.goto (tgt := 56) dX11_read_140 (by decide) ?_
    refine V.mask [true, true, true, true, true, true, true, true, true, true, false, false] rfl ?_
    exact ih _ _ _ _ _ _ _ _ _ _ _ _ h
theorem okc_Mod_read_41 {X : Sc} {l : Launch}     : ∀ (n : Nat) (x1 : Int32) (x2 : Int32) (x3 : Int32) (x4 : Int32) (x5 : Int32) (x6 : Int32) (x7 : Int32) (x8 : Int32) (M : Mem) (r : Int32) (M' : Mem), f_Mod_read_L41  n x1 x2 x3 x4 x5 x6 x7 x8 M = some (r, M') → V X yX11_read cX11_read 12 (some .int) (rmD 3 0 0) l (FM (some (.int r)) S0 M' 0 0) 41 [some (.ref 103), some (.int x1), some (.int x2), some (.int x3), some (.int x4), some (.int x5), some (.int x6), some (.int x7), some (.int x8), none, none, none] [] S0 M 0 0 := by
  intro n
  induction n with
  | zero =>
    intro x1 x2 x3 x4 x5 x6 x7 x8 M r M' h
    rw [f_Mod_read_L41] at h
    cases h
  | succ n ih =>
    intro x1 x2 x3 x4 x5 x6 x7 x8 M r M' h
    rw [f_Mod_read_L41] at h
    refine V.iload dX11_read_41 rfl ?_
    refine V.iload dX11_read_43 rfl ?_
    refine V.icmp_ge (tgt := 217) dX11_read_45 (by decide) (fun hc1 => ?_) (fun hc1 => ?_)
    · replace h := ite_t hc1 h
      refine V.mask [true, false, false, false, false, false, true, true, false, false, false, false] rfl ?_
      exact okc_Mod_read_217 h
    replace h := ite_f hc1 h
    refine V.iload dX11_read_48 rfl ?_
    refine V.if_ne (tgt := 217) dX11_read_50 (by decide) (fun hc2 => ?_) (fun hc2 => ?_)
    · replace h := ite_f hc2 h
      refine V.mask [true, false, false, false, false, false, true, true, false, false, false, false] rfl ?_
      exact okc_Mod_read_217 h
    replace h := ite_t hc2 h
    refine V.iconst dX11_read_53 ic_0 ?_
    refine V.istore dX11_read_54 (by decide) rfl ?_
    exact okc_Mod_read_56 ih _ _ _ _ _ _ _ _ _ _ _ _ _ h
theorem ok_Mod_read {X : Sc} {l : Launch}  {M : Mem} {x1 : Int32} {x2 : Int32} {x3 : Int32} {x4 : Int32} {r : Int32} {M' : Mem}  (h : f_Mod_read x1 x2 x3 x4 M = some (r, M')) : Mt X l yX11_read cX11_read 12 (some .int) 3 0 0 [.ref 103, .int x1, .int x2, .int x3, .int x4] S0 M (some (.int r)) S0 M' := by
  refine Mt.ofV (by decide) (Nat.le_of_ble_eq_true rfl) ?_
  show V X yX11_read cX11_read 12 (some .int) (rmD 3 0 0) l (FM (some (.int r)) S0 M' 0 0) 0 [some (.ref 103), some (.int x1), some (.int x2), some (.int x3), some (.int x4), none, none, none, none, none, none, none] [] S0 M 0 0
  unfold f_Mod_read at h
  refine V.iload_n dX11_read_0 rfl ?_
  refine V.iload_n dX11_read_1 rfl ?_
  obtain ⟨v2, hv1, h⟩ := bnd_s h
  refine V.cSi dX11_read_2 rfl mv_RX11_365 (ok_Mod_isSheet hv1) rfl rfl (by decide) ⟨Nat.zero_le _, Nat.zero_le _⟩ (Nat.le_of_ble_eq_true rfl) (Nat.zero_le _) ?_
  refine V.if_eq (tgt := 21) dX11_read_5 (by decide) (fun hc3 => ?_) (fun hc3 => ?_)
  · replace h := ite_t hc3 h
    refine V.iconst dX11_read_21 ic_m1 ?_
    obtain ⟨e1, e2⟩ := inj2 h
    subst e1
    subst e2
    exact V.iret dX11_read_22 rfl rfl
  replace h := ite_f hc3 h
  refine V.iload dX11_read_8 rfl ?_
  refine V.i2l dX11_read_10 ?_
  refine V.lconst dX11_read_11 lc_0 ?_
  refine V.ldc2 dX11_read_12 rfl kc_RX11_356 ?_
  obtain ⟨v5, hv4, h⟩ := bnd_s h
  refine V.cSi dX11_read_15 rfl mv_RX11_120 (ok_Mod_in hv4) rfl rfl (by decide) ⟨Nat.zero_le _, Nat.zero_le _⟩ (Nat.le_of_ble_eq_true rfl) (Nat.zero_le _) ?_
  refine V.if_ne (tgt := 23) dX11_read_18 (by decide) (fun hc6 => ?_) (fun hc6 => ?_)
  · replace h := ite_f hc6 h
    refine V.aload_n dX11_read_23 rfl ?_
    refine V.getR dX11_read_24 fl_RX11_7 s0_103 rfl rfl ?_
    refine V.bipush dX11_read_27 bp_88 ?_
    refine V.iald dX11_read_29 s0_104 rfl (vp_of (by decide)) ?_
    refine V.nmI (fun w7 hw7 => ?_)
    replace h := nmI_at h w7 hw7
    refine V.istore dX11_read_30 (by decide) rfl ?_
    refine V.iconst dX11_read_32 ic_0 ?_
    refine V.istore dX11_read_33 (by decide) rfl ?_
    refine V.iconst dX11_read_35 ic_0 ?_
    refine V.istore dX11_read_36 (by decide) rfl ?_
    refine V.iconst dX11_read_38 ic_0 ?_
    refine V.istore dX11_read_39 (by decide) rfl ?_
    exact okc_Mod_read_41 _ _ _ _ _ _ _ _ _ _ _ _ h
  replace h := ite_t hc6 h
  refine V.iconst dX11_read_21 ic_m1 ?_
  obtain ⟨e1, e2⟩ := inj2 h
  subst e1
  subst e2
  exact V.iret dX11_read_22 rfl rfl
theorem ok_Mod_torn {X : Sc} {l : Launch}  {M : Mem}  {r : Int32}  (h : f_Mod_torn M = some r) : Mt X l yX11_torn cX11_torn 1 (some .int) 0 0 0 [.ref 103] S0 M (some (.int r)) S0 M := by
  refine Mt.ofV (by decide) (Nat.le_of_ble_eq_true rfl) ?_
  show V X yX11_torn cX11_torn 1 (some .int) (rmD 0 0 0) l (FM (some (.int r)) S0 M 0 0) 0 [some (.ref 103)] [] S0 M 0 0
  unfold f_Mod_torn at h
  refine V.aload_n dX11_torn_0 rfl ?_
  refine V.getI dX11_torn_1 fl_RX11_372 s0_103 rfl rfl ?_
  have e1 := inj1 h
  subst e1
  exact V.iret dX11_torn_4 rfl rfl
theorem okc_Mod_count_25 {X : Sc} {l : Launch} {k4 : Int32 → Int32 → Int32 → Option Int32}  {M : Mem} (hk4 : ∀ (x1 : Int32) (x2 : Int32) (x3 : Int32) (r : Int32), k4 x1 x2 x3 = some r → V X yX11_count cX11_count 4 (some .int) (rmD 1 0 0) l (FM (some (.int r)) S0 M 0 0) 4 [some (.ref 103), some (.int x1), some (.int x2), some (.int x3)] [] S0 M 0 0)  {x1 : Int32} {x3 : Int32} {s0 : Int32} {s1 : Int32} {r : Int32} (h : f_Mod_count_J25 k4 M x1 x3 s0 s1 = some r) : V X yX11_count cX11_count 4 (some .int) (rmD 1 0 0) l (FM (some (.int r)) S0 M 0 0) 25 [some (.ref 103), some (.int x1), none, some (.int x3)] [.int s1, .int s0] S0 M 0 0 := by
  unfold f_Mod_count_J25 at h
  obtain ⟨v2, hv1, h⟩ := bnd_s h
  refine V.cSi dX11_count_25 rfl mv_RX11_195 (ok_Mod_flag hv1) rfl rfl (by decide) ⟨Nat.zero_le _, Nat.zero_le _⟩ (Nat.le_of_ble_eq_true rfl) (Nat.zero_le _) ?_
  refine V.iadd dX11_count_28 ?_
  refine V.nmI (fun w3 hw3 => ?_)
  replace h := nmI_at h w3 hw3
  refine V.istore_n dX11_count_29 (by decide) rfl ?_
  refine V.iinc dX11_count_30 rfl (iinc_c ic_1) (by decide) rfl ?_
  refine V.goto (tgt := 4) dX11_count_33 (by decide) ?_
  exact hk4 _ _ _ _ h
theorem okc_Mod_count_4 {X : Sc} {l : Launch}   {M : Mem}   : ∀ (n : Nat) (x1 : Int32) (x2 : Int32) (x3 : Int32) (r : Int32), f_Mod_count_L4 M n x1 x2 x3 = some r → V X yX11_count cX11_count 4 (some .int) (rmD 1 0 0) l (FM (some (.int r)) S0 M 0 0) 4 [some (.ref 103), some (.int x1), some (.int x2), some (.int x3)] [] S0 M 0 0 := by
  intro n
  induction n with
  | zero =>
    intro x1 x2 x3 r h
    rw [f_Mod_count_L4] at h
    cases h
  | succ n ih =>
    intro x1 x2 x3 r h
    rw [f_Mod_count_L4] at h
    refine V.iload_n dX11_count_4 rfl ?_
    refine V.bipush dX11_count_5 bp_81 ?_
    refine V.icmp_ge (tgt := 36) dX11_count_7 (by decide) (fun hc1 => ?_) (fun hc1 => ?_)
    · replace h := ite_t hc1 h
      refine V.iload_n dX11_count_36 rfl ?_
      by_cases hc2 : x1 = 0
      · replace h := ite_t hc2 h
        refine V.tabAt (off := 47) (tgt := 84) dX11_count_37 hc2 (by decide) (by decide) (by decide) (by decide) ?_
        refine V.aload_n dX11_count_84 rfl ?_
        refine V.getI dX11_count_85 fl_RX11_102 s0_103 rfl rfl ?_
        have e1 := inj1 h
        subst e1
        exact V.iret dX11_count_88 rfl rfl
      replace h := ite_f hc2 h
      by_cases hc3 : x1 = 1
      · replace h := ite_t hc3 h
        refine V.tabAt (off := 52) (tgt := 89) dX11_count_37 hc3 (by decide) (by decide) (by decide) (by decide) ?_
        refine V.aload_n dX11_count_89 rfl ?_
        refine V.getI dX11_count_90 fl_RX11_109 s0_103 rfl rfl ?_
        have e1 := inj1 h
        subst e1
        exact V.iret dX11_count_93 rfl rfl
      replace h := ite_f hc3 h
      by_cases hc4 : x1 = 2
      · replace h := ite_t hc4 h
        refine V.tabAt (off := 57) (tgt := 94) dX11_count_37 hc4 (by decide) (by decide) (by decide) (by decide) ?_
        refine V.iload_n dX11_count_94 rfl ?_
        have e1 := inj1 h
        subst e1
        exact V.iret dX11_count_95 rfl rfl
      replace h := ite_f hc4 h
      by_cases hc5 : x1 = 3
      · replace h := ite_t hc5 h
        refine V.tabAt (off := 59) (tgt := 96) dX11_count_37 hc5 (by decide) (by decide) (by decide) (by decide) ?_
        refine V.aload_n dX11_count_96 rfl ?_
        refine V.getI dX11_count_97 fl_RX11_112 s0_103 rfl rfl ?_
        have e1 := inj1 h
        subst e1
        exact V.iret dX11_count_100 rfl rfl
      replace h := ite_f hc5 h
      by_cases hc6 : x1 = 4
      · replace h := ite_t hc6 h
        refine V.tabAt (off := 64) (tgt := 101) dX11_count_37 hc6 (by decide) (by decide) (by decide) (by decide) ?_
        refine V.aload_n dX11_count_101 rfl ?_
        refine V.getR dX11_count_102 fl_RX11_7 s0_103 rfl rfl ?_
        refine V.bipush dX11_count_105 bp_88 ?_
        refine V.iald dX11_count_107 s0_104 rfl (vp_of (by decide)) ?_
        have e1 := inj1 h
        subst e1
        exact V.iret dX11_count_108 rfl rfl
      replace h := ite_f hc6 h
      by_cases hc7 : x1 = 5
      · replace h := ite_t hc7 h
        refine V.tabAt (off := 72) (tgt := 109) dX11_count_37 hc7 (by decide) (by decide) (by decide) (by decide) ?_
        refine V.aload_n dX11_count_109 rfl ?_
        refine V.getR dX11_count_110 fl_RX11_13 s0_103 rfl rfl ?_
        refine V.iconst dX11_count_113 ic_0 ?_
        refine V.zald dX11_count_114 s0_105 rfl (vp_of (by decide)) ?_
        obtain ⟨v9, hv8, h⟩ := bnd_s h
        refine V.cSi dX11_count_115 rfl mv_RX11_195 (ok_Mod_flag hv8) rfl rfl (by decide) ⟨Nat.zero_le _, Nat.zero_le _⟩ (Nat.le_of_ble_eq_true rfl) (Nat.zero_le _) ?_
        refine V.aload_n dX11_count_118 rfl ?_
        refine V.getR dX11_count_119 fl_RX11_13 s0_103 rfl rfl ?_
        refine V.iconst dX11_count_122 ic_1 ?_
        refine V.zald dX11_count_123 s0_105 rfl (vp_of (by decide)) ?_
        obtain ⟨v11, hv10, h⟩ := bnd_s h
        refine V.cSi dX11_count_124 rfl mv_RX11_195 (ok_Mod_flag hv10) rfl rfl (by decide) ⟨Nat.zero_le _, Nat.zero_le _⟩ (Nat.le_of_ble_eq_true rfl) (Nat.zero_le _) ?_
        refine V.iadd dX11_count_127 ?_
        have e1 := inj1 h
        subst e1
        exact V.iret dX11_count_128 rfl rfl
      replace h := ite_f hc7 h
      by_cases hc12 : x1 = 6
      · replace h := ite_t hc12 h
        refine V.tabAt (off := 92) (tgt := 129) dX11_count_37 hc12 (by decide) (by decide) (by decide) (by decide) ?_
        refine V.aload_n dX11_count_129 rfl ?_
        refine V.getI dX11_count_130 fl_RX11_115 s0_103 rfl rfl ?_
        have e1 := inj1 h
        subst e1
        exact V.iret dX11_count_133 rfl rfl
      replace h := ite_f hc12 h
      by_cases hc13 : x1 = 7
      · replace h := ite_t hc13 h
        refine V.tabAt (off := 97) (tgt := 134) dX11_count_37 hc13 (by decide) (by decide) (by decide) (by decide) ?_
        refine V.aload_n dX11_count_134 rfl ?_
        refine V.getR dX11_count_135 fl_RX11_56 s0_103 rfl rfl ?_
        refine V.iconst dX11_count_138 ic_0 ?_
        refine V.iald dX11_count_139 s0_119 rfl (vp_of (by decide)) ?_
        refine V.bipush dX11_count_140 bp_m4 ?_
        refine V.icmp_ne (tgt := 150) dX11_count_142 (by decide) (fun hc14 => ?_) (fun hc14 => ?_)
        · replace h := ite_f hc14 h
          refine V.aload_n dX11_count_150 rfl ?_
          refine V.getR dX11_count_151 fl_RX11_59 s0_103 rfl rfl ?_
          refine V.iconst dX11_count_154 ic_0 ?_
          refine V.iald dX11_count_155 s0_120 rfl (vp_of (by decide)) ?_
          have e1 := inj1 h
          subst e1
          exact V.iret dX11_count_156 rfl rfl
        replace h := ite_t hc14 h
        refine V.bipush dX11_count_145 bp_m4 ?_
        refine V.goto (tgt := 156) dX11_count_147 (by decide) ?_
        have e1 := inj1 h
        subst e1
        exact V.iret dX11_count_156 rfl rfl
      replace h := ite_f hc13 h
      refine V.tabOut (tgt := 157) dX11_count_37 (by have e0 := i32_lit (k := 0) hc2 (by decide); have e1 := i32_lit (k := 1) hc3 (by decide); have e2 := i32_lit (k := 2) hc4 (by decide); have e3 := i32_lit (k := 3) hc5 (by decide); have e4 := i32_lit (k := 4) hc6 (by decide); have e5 := i32_lit (k := 5) hc7 (by decide); have e6 := i32_lit (k := 6) hc12 (by decide); have e7 := i32_lit (k := 7) hc13 (by decide); omega) (by decide) ?_
      refine V.iconst dX11_count_157 ic_m1 ?_
      have e1 := inj1 h
      subst e1
      exact V.iret dX11_count_158 rfl rfl
    replace h := ite_f hc1 h
    refine V.iload_n dX11_count_10 rfl ?_
    refine V.aload_n dX11_count_11 rfl ?_
    refine V.getR dX11_count_12 fl_RX11_7 s0_103 rfl rfl ?_
    refine V.iload_n dX11_count_15 rfl ?_
    obtain ⟨hb15, h⟩ := ck_s h
    refine V.iald dX11_count_16 s0_104 rfl (vp_of hb15) ?_
    refine V.if_le (tgt := 24) dX11_count_17 (by decide) (fun hc16 => ?_) (fun hc16 => ?_)
    · replace h := ite_t hc16 h
      refine V.iconst dX11_count_24 ic_0 ?_
      refine V.mask [true, true, false, true] rfl ?_
      exact okc_Mod_count_25 ih h
    replace h := ite_f hc16 h
    refine V.iconst dX11_count_20 ic_1 ?_
    refine V.goto (tgt := 25) dX11_count_21 (by decide) ?_
    refine V.mask [true, true, false, true] rfl ?_
    exact okc_Mod_count_25 ih h
theorem ok_Mod_count {X : Sc} {l : Launch}  {M : Mem} {x1 : Int32} {r : Int32}  (h : f_Mod_count M x1 = some r) : Mt X l yX11_count cX11_count 4 (some .int) 1 0 0 [.ref 103, .int x1] S0 M (some (.int r)) S0 M := by
  refine Mt.ofV (by decide) (Nat.le_of_ble_eq_true rfl) ?_
  show V X yX11_count cX11_count 4 (some .int) (rmD 1 0 0) l (FM (some (.int r)) S0 M 0 0) 0 [some (.ref 103), some (.int x1), none, none] [] S0 M 0 0
  unfold f_Mod_count at h
  refine V.iconst dX11_count_0 ic_0 ?_
  refine V.istore_n dX11_count_1 (by decide) rfl ?_
  refine V.iconst dX11_count_2 ic_0 ?_
  refine V.istore_n dX11_count_3 (by decide) rfl ?_
  exact okc_Mod_count_4 _ _ _ _ _ h
