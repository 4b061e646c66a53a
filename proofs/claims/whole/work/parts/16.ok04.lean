theorem ok_Mod_in {X : Sc} {l : Launch} {sh : List Shp}  {M : Mem} {x0 : Int64} {x2 : Int64} {x4 : Int64} {r : Int32}  (h : f_Mod_in x0 x2 x4 = some r) : Mt X l yX11_in cX11_in 6 (some .boolean) 0 0 0 [.long x0, .long x2, .long x4] sh M (some (.int r)) sh M := by
  refine Mt.ofV (by decide) (Nat.le_of_ble_eq_true rfl) ?_
  show V X yX11_in cX11_in 6 (some .boolean) (rmD 0 0 0) l (FM (some (.int r)) sh M 0 0) 0 [some (.long x0), none, some (.long x2), none, some (.long x4), none] [] sh M 0 0
  unfold f_Mod_in at h
  refine V.lload_n dX11_in_0 rfl ?_
  refine V.lload_n dX11_in_1 rfl ?_
  refine V.lcmp dX11_in_2 ?_
  refine V.if_lt (tgt := 17) dX11_in_3 (by decide) (fun hc1 => ?_) (fun hc1 => ?_)
  · replace h := ite_t hc1 h
    refine V.iconst dX11_in_17 ic_0 ?_
    have e1 := inj1 h
    subst e1
    exact V.iret dX11_in_18 rfl rfl
  replace h := ite_f hc1 h
  refine V.lload_n dX11_in_6 rfl ?_
  refine V.lload dX11_in_7 rfl ?_
  refine V.lcmp dX11_in_9 ?_
  refine V.if_gt (tgt := 17) dX11_in_10 (by decide) (fun hc2 => ?_) (fun hc2 => ?_)
  · replace h := ite_t hc2 h
    refine V.iconst dX11_in_17 ic_0 ?_
    have e1 := inj1 h
    subst e1
    exact V.iret dX11_in_18 rfl rfl
  replace h := ite_f hc2 h
  refine V.iconst dX11_in_13 ic_1 ?_
  refine V.goto (tgt := 18) dX11_in_14 (by decide) ?_
  have e1 := inj1 h
  subst e1
  exact V.iret dX11_in_18 rfl rfl
theorem ok_Mod_flag {X : Sc} {l : Launch} {sh : List Shp}  {M : Mem} {x0 : Int32} {r : Int32}  (h : f_Mod_flag x0 = some r) : Mt X l yX11_flag cX11_flag 1 (some .int) 0 0 0 [.int x0] sh M (some (.int r)) sh M := by
  refine Mt.ofV (by decide) (Nat.le_of_ble_eq_true rfl) ?_
  show V X yX11_flag cX11_flag 1 (some .int) (rmD 0 0 0) l (FM (some (.int r)) sh M 0 0) 0 [some (.int x0)] [] sh M 0 0
  unfold f_Mod_flag at h
  refine V.iload_n dX11_flag_0 rfl ?_
  refine V.if_eq (tgt := 8) dX11_flag_1 (by decide) (fun hc1 => ?_) (fun hc1 => ?_)
  · replace h := ite_t hc1 h
    refine V.iconst dX11_flag_8 ic_0 ?_
    have e1 := inj1 h
    subst e1
    exact V.iret dX11_flag_9 rfl rfl
  replace h := ite_f hc1 h
  refine V.iconst dX11_flag_4 ic_1 ?_
  refine V.goto (tgt := 9) dX11_flag_5 (by decide) ?_
  have e1 := inj1 h
  subst e1
  exact V.iret dX11_flag_9 rfl rfl
theorem okc_Mod_bitsOf_4 {X : Sc} {l : Launch} {sh : List Shp}   {M : Mem}   : ∀ (n : Nat) (x0 : Int32) (x1 : Int32) (x2 : Int32) (r : Int32), f_Mod_bitsOf_L4  n x0 x1 x2 = some r → V X yX11_bitsOf cX11_bitsOf 3 (some .int) (rmD 0 0 0) l (FM (some (.int r)) sh M 0 0) 4 [some (.int x0), some (.int x1), some (.int x2)] [] sh M 0 0 := by
  intro n
  induction n with
  | zero =>
    intro x0 x1 x2 r h
    rw [f_Mod_bitsOf_L4] at h
    cases h
  | succ n ih =>
    intro x0 x1 x2 r h
    rw [f_Mod_bitsOf_L4] at h
    refine V.iload_n dX11_bitsOf_4 rfl ?_
    refine V.bipush dX11_bitsOf_5 bp_12 ?_
    refine V.icmp_ge (tgt := 24) dX11_bitsOf_7 (by decide) (fun hc1 => ?_) (fun hc1 => ?_)
    · replace h := ite_t hc1 h
      refine V.iload_n dX11_bitsOf_24 rfl ?_
      have e1 := inj1 h
      subst e1
      exact V.iret dX11_bitsOf_25 rfl rfl
    replace h := ite_f hc1 h
    refine V.iload_n dX11_bitsOf_10 rfl ?_
    refine V.iload_n dX11_bitsOf_11 rfl ?_
    refine V.iload_n dX11_bitsOf_12 rfl ?_
    refine V.ishr dX11_bitsOf_13 ?_
    refine V.iconst dX11_bitsOf_14 ic_1 ?_
    refine V.iand dX11_bitsOf_15 ?_
    refine V.iadd dX11_bitsOf_16 ?_
    refine V.nmI (fun w2 hw2 => ?_)
    replace h := nmI_at h w2 hw2
    refine V.istore_n dX11_bitsOf_17 (by decide) rfl ?_
    refine V.iinc dX11_bitsOf_18 rfl (iinc_c ic_1) (by decide) rfl ?_
    refine V.goto (tgt := 4) dX11_bitsOf_21 (by decide) ?_
    exact ih _ _ _ _ h
theorem ok_Mod_bitsOf {X : Sc} {l : Launch} {sh : List Shp}  {M : Mem} {x0 : Int32} {r : Int32}  (h : f_Mod_bitsOf x0 = some r) : Mt X l yX11_bitsOf cX11_bitsOf 3 (some .int) 0 0 0 [.int x0] sh M (some (.int r)) sh M := by
  refine Mt.ofV (by decide) (Nat.le_of_ble_eq_true rfl) ?_
  show V X yX11_bitsOf cX11_bitsOf 3 (some .int) (rmD 0 0 0) l (FM (some (.int r)) sh M 0 0) 0 [some (.int x0), none, none] [] sh M 0 0
  unfold f_Mod_bitsOf at h
  refine V.iconst dX11_bitsOf_0 ic_0 ?_
  refine V.istore_n dX11_bitsOf_1 (by decide) rfl ?_
  refine V.iconst dX11_bitsOf_2 ic_0 ?_
  refine V.istore_n dX11_bitsOf_3 (by decide) rfl ?_
  exact okc_Mod_bitsOf_4 _ _ _ _ _ h
theorem okc_Mod_firstDraft_2 {X : Sc} {l : Launch}     : ∀ (n : Nat) (x1 : Int32) (M : Mem) (M' : Mem), f_Mod_firstDraft_L2  n x1 M = some M' → V X yX11_firstDraft cX11_firstDraft 2 none (rmD 0 0 0) l (FM none S0 M' 0 0) 2 [some (.ref 103), some (.int x1)] [] S0 M 0 0 := by
  intro n
  induction n with
  | zero =>
    intro x1 M M' h
    rw [f_Mod_firstDraft_L2] at h
    cases h
  | succ n ih =>
    intro x1 M M' h
    rw [f_Mod_firstDraft_L2] at h
    refine V.iload_n dX11_firstDraft_2 rfl ?_
    refine V.bipush dX11_firstDraft_3 bp_125 ?_
    refine V.icmp_ge (tgt := 21) dX11_firstDraft_5 (by decide) (fun hc1 => ?_) (fun hc1 => ?_)
    · replace h := ite_t hc1 h
      refine V.aload_n dX11_firstDraft_21 rfl ?_
      refine V.getR dX11_firstDraft_22 fl_RX11_32 s0_103 rfl rfl ?_
      refine V.iconst dX11_firstDraft_25 ic_0 ?_
      refine V.bipush dX11_firstDraft_26 bp_9 ?_
      refine V.iast dX11_firstDraft_28 s0_111 rfl (vp_of (by decide)) (fun M2 hM2 => ?_)
      replace h := setM_at h M2 hM2
      refine V.aload_n dX11_firstDraft_29 rfl ?_
      refine V.getR dX11_firstDraft_30 fl_RX11_32 s0_103 rfl rfl ?_
      refine V.iconst dX11_firstDraft_33 ic_1 ?_
      refine V.bipush dX11_firstDraft_34 bp_7 ?_
      refine V.iast dX11_firstDraft_36 s0_111 rfl (vp_of (by decide)) (fun M3 hM3 => ?_)
      replace h := setM_at h M3 hM3
      refine V.aload_n dX11_firstDraft_37 rfl ?_
      refine V.getR dX11_firstDraft_38 fl_RX11_32 s0_103 rfl rfl ?_
      refine V.iconst dX11_firstDraft_41 ic_2 ?_
      refine V.iconst dX11_firstDraft_42 ic_3 ?_
      refine V.iast dX11_firstDraft_43 s0_111 rfl (vp_of (by decide)) (fun M4 hM4 => ?_)
      replace h := setM_at h M4 hM4
      refine V.aload_n dX11_firstDraft_44 rfl ?_
      refine V.getR dX11_firstDraft_45 fl_RX11_32 s0_103 rfl rfl ?_
      refine V.iconst dX11_firstDraft_48 ic_3 ?_
      refine V.iconst dX11_firstDraft_49 ic_5 ?_
      refine V.iast dX11_firstDraft_50 s0_111 rfl (vp_of (by decide)) (fun M5 hM5 => ?_)
      replace h := setM_at h M5 hM5
      refine V.aload_n dX11_firstDraft_51 rfl ?_
      refine V.getR dX11_firstDraft_52 fl_RX11_32 s0_103 rfl rfl ?_
      refine V.iconst dX11_firstDraft_55 ic_4 ?_
      refine V.bipush dX11_firstDraft_56 bp_m4 ?_
      refine V.iast dX11_firstDraft_58 s0_111 rfl (vp_of (by decide)) (fun M6 hM6 => ?_)
      replace h := setM_at h M6 hM6
      refine V.aload_n dX11_firstDraft_59 rfl ?_
      refine V.iconst dX11_firstDraft_60 ic_0 ?_
      refine V.putI dX11_firstDraft_61 fp_RX11_71 s0_103 rfl rfl (fun M7 hM7 => ?_)
      replace h := setM_at h M7 hM7
      refine V.aload_n dX11_firstDraft_64 rfl ?_
      refine V.iconst dX11_firstDraft_65 ic_0 ?_
      refine V.putI dX11_firstDraft_66 fp_RX11_75 s0_103 rfl rfl (fun M8 hM8 => ?_)
      replace h := setM_at h M8 hM8
      refine V.aload_n dX11_firstDraft_69 rfl ?_
      refine V.bipush dX11_firstDraft_70 bp_m4 ?_
      refine V.putI dX11_firstDraft_72 fp_RX11_78 s0_103 rfl rfl (fun M9 hM9 => ?_)
      replace h := setM_at h M9 hM9
      refine V.aload_n dX11_firstDraft_75 rfl ?_
      refine V.iconst dX11_firstDraft_76 ic_0 ?_
      refine V.putI dX11_firstDraft_77 fp_RX11_81 s0_103 rfl rfl (fun M10 hM10 => ?_)
      replace h := setM_at h M10 hM10
      refine V.aload_n dX11_firstDraft_80 rfl ?_
      refine V.iconst dX11_firstDraft_81 ic_0 ?_
      refine V.putI dX11_firstDraft_82 fp_RX11_84 s0_103 rfl rfl (fun M11 hM11 => ?_)
      replace h := setM_at h M11 hM11
      refine V.aload_n dX11_firstDraft_85 rfl ?_
      refine V.iconst dX11_firstDraft_86 ic_0 ?_
      refine V.putI dX11_firstDraft_87 fp_RX11_87 s0_103 rfl rfl (fun M12 hM12 => ?_)
      replace h := setM_at h M12 hM12
      have e1 := inj1 h
      subst e1
      exact V.vret dX11_firstDraft_90 rfl
    replace h := ite_f hc1 h
    refine V.aload_n dX11_firstDraft_8 rfl ?_
    refine V.getR dX11_firstDraft_9 fl_RX11_23 s0_103 rfl rfl ?_
    refine V.iload_n dX11_firstDraft_12 rfl ?_
    refine V.iconst dX11_firstDraft_13 ic_0 ?_
    obtain ⟨hb13, h⟩ := ck_s h
    refine V.iast dX11_firstDraft_14 s0_108 rfl (vp_of hb13) (fun M14 hM14 => ?_)
    replace h := setM_at h M14 hM14
    refine V.iinc dX11_firstDraft_15 rfl (iinc_c ic_1) (by decide) rfl ?_
    refine V.goto (tgt := 2) dX11_firstDraft_18 (by decide) ?_
    exact ih _ _ _ h
theorem ok_Mod_firstDraft {X : Sc} {l : Launch}  {M : Mem}  {M' : Mem}  (h : f_Mod_firstDraft M = some M') : Mt X l yX11_firstDraft cX11_firstDraft 2 none 0 0 0 [.ref 103] S0 M none S0 M' := by
  refine Mt.ofV (by decide) (Nat.le_of_ble_eq_true rfl) ?_
  show V X yX11_firstDraft cX11_firstDraft 2 none (rmD 0 0 0) l (FM none S0 M' 0 0) 0 [some (.ref 103), none] [] S0 M 0 0
  unfold f_Mod_firstDraft at h
  refine V.iconst dX11_firstDraft_0 ic_0 ?_
  refine V.istore_n dX11_firstDraft_1 (by decide) rfl ?_
  exact okc_Mod_firstDraft_2 _ _ _ _ h
theorem ok_Mod_dPeople {X : Sc} {l : Launch}  {M : Mem}  {r : Int32}  (h : f_Mod_dPeople M = some r) : Mt X l yX11_dPeople cX11_dPeople 1 (some .int) 0 0 0 [.ref 103] S0 M (some (.int r)) S0 M := by
  refine Mt.ofV (by decide) (Nat.le_of_ble_eq_true rfl) ?_
  show V X yX11_dPeople cX11_dPeople 1 (some .int) (rmD 0 0 0) l (FM (some (.int r)) S0 M 0 0) 0 [some (.ref 103)] [] S0 M 0 0
  unfold f_Mod_dPeople at h
  refine V.aload_n dX11_dPeople_0 rfl ?_
  refine V.getR dX11_dPeople_1 fl_RX11_32 s0_103 rfl rfl ?_
  refine V.iconst dX11_dPeople_4 ic_4 ?_
  refine V.iald dX11_dPeople_5 s0_111 rfl (vp_of (by decide)) ?_
  refine V.bipush dX11_dPeople_6 bp_m4 ?_
  refine V.icmp_eq (tgt := 20) dX11_dPeople_8 (by decide) (fun hc1 => ?_) (fun hc1 => ?_)
  · replace h := ite_t hc1 h
    refine V.aload_n dX11_dPeople_20 rfl ?_
    refine V.getI dX11_dPeople_21 fl_RX11_71 s0_103 rfl rfl ?_
    refine V.bipush dX11_dPeople_24 bp_6 ?_
    refine V.icmp_ge (tgt := 36) dX11_dPeople_26 (by decide) (fun hc2 => ?_) (fun hc2 => ?_)
    · replace h := ite_t hc2 h
      refine V.bipush dX11_dPeople_36 bp_6 ?_
      have e1 := inj1 h
      subst e1
      exact V.iret dX11_dPeople_38 rfl rfl
    replace h := ite_f hc2 h
    refine V.aload_n dX11_dPeople_29 rfl ?_
    refine V.getI dX11_dPeople_30 fl_RX11_71 s0_103 rfl rfl ?_
    refine V.goto (tgt := 38) dX11_dPeople_33 (by decide) ?_
    have e1 := inj1 h
    subst e1
    exact V.iret dX11_dPeople_38 rfl rfl
  replace h := ite_f hc1 h
  refine V.aload_n dX11_dPeople_11 rfl ?_
  refine V.getR dX11_dPeople_12 fl_RX11_32 s0_103 rfl rfl ?_
  refine V.iconst dX11_dPeople_15 ic_4 ?_
  refine V.iald dX11_dPeople_16 s0_111 rfl (vp_of (by decide)) ?_
  refine V.goto (tgt := 38) dX11_dPeople_17 (by decide) ?_
  have e1 := inj1 h
  subst e1
  exact V.iret dX11_dPeople_38 rfl rfl
theorem okc_Mod_keepDraft_144 {X : Sc} {l : Launch}     : ∀ (n : Nat) (x1 : Int32) (M : Mem) (M' : Mem), f_Mod_keepDraft_L144  n x1 M = some M' → V X yX11_keepDraft cX11_keepDraft 2 none (rmD 1 0 0) l (FM none S0 M' 0 0) 144 [some (.ref 103), some (.int x1)] [] S0 M 0 0 := by
  intro n
  induction n with
  | zero =>
    intro x1 M M' h
    rw [f_Mod_keepDraft_L144] at h
    cases h
  | succ n ih =>
    intro x1 M M' h
    rw [f_Mod_keepDraft_L144] at h
    refine V.iload_n dX11_keepDraft_144 rfl ?_
    refine V.bipush dX11_keepDraft_145 bp_6 ?_
    refine V.icmp_ge (tgt := 166) dX11_keepDraft_147 (by decide) (fun hc1 => ?_) (fun hc1 => ?_)
    · replace h := ite_t hc1 h
      refine V.aload_n dX11_keepDraft_166 rfl ?_
      refine V.getR dX11_keepDraft_167 fl_RX11_13 s0_103 rfl rfl ?_
      refine V.iconst dX11_keepDraft_170 ic_0 ?_
      refine V.iconst dX11_keepDraft_171 ic_0 ?_
      refine V.zast dX11_keepDraft_172 s0_105 rfl (vp_of (by decide)) (by decide) (fun M2 hM2 => ?_)
      replace h := setM_at h M2 hM2
      refine V.aload_n dX11_keepDraft_173 rfl ?_
      refine V.getR dX11_keepDraft_174 fl_RX11_13 s0_103 rfl rfl ?_
      refine V.iconst dX11_keepDraft_177 ic_1 ?_
      refine V.iconst dX11_keepDraft_178 ic_0 ?_
      refine V.zast dX11_keepDraft_179 s0_105 rfl (vp_of (by decide)) (by decide) (fun M3 hM3 => ?_)
      replace h := setM_at h M3 hM3
      have e1 := inj1 h
      subst e1
      exact V.vret dX11_keepDraft_180 rfl
    replace h := ite_f hc1 h
    refine V.aload_n dX11_keepDraft_150 rfl ?_
    refine V.getR dX11_keepDraft_151 fl_RX11_7 s0_103 rfl rfl ?_
    refine V.bipush dX11_keepDraft_154 bp_82 ?_
    refine V.iload_n dX11_keepDraft_156 rfl ?_
    refine V.iadd dX11_keepDraft_157 ?_
    refine V.iload_n dX11_keepDraft_158 rfl ?_
    obtain ⟨hb4, h⟩ := ck_s h
    refine V.iast dX11_keepDraft_159 s0_104 rfl (vp_of hb4) (fun M5 hM5 => ?_)
    replace h := setM_at h M5 hM5
    refine V.iinc dX11_keepDraft_160 rfl (iinc_c ic_1) (by decide) rfl ?_
    refine V.goto (tgt := 144) dX11_keepDraft_163 (by decide) ?_
    exact ih _ _ _ h
theorem okc_Mod_keepDraft_54 {X : Sc} {l : Launch}     : ∀ (n : Nat) (x1 : Int32) (M : Mem) (M' : Mem), f_Mod_keepDraft_L54  n x1 M = some M' → V X yX11_keepDraft cX11_keepDraft 2 none (rmD 1 0 0) l (FM none S0 M' 0 0) 54 [some (.ref 103), some (.int x1)] [] S0 M 0 0 := by
  intro n
  induction n with
  | zero =>
    intro x1 M M' h
    rw [f_Mod_keepDraft_L54] at h
    cases h
  | succ n ih =>
    intro x1 M M' h
    rw [f_Mod_keepDraft_L54] at h
    refine V.iload_n dX11_keepDraft_54 rfl ?_
    refine V.bipush dX11_keepDraft_55 bp_24 ?_
    refine V.icmp_ge (tgt := 78) dX11_keepDraft_57 (by decide) (fun hc1 => ?_) (fun hc1 => ?_)
    · replace h := ite_t hc1 h
      refine V.aload_n dX11_keepDraft_78 rfl ?_
      refine V.aload_n dX11_keepDraft_79 rfl ?_
      refine V.getR dX11_keepDraft_80 fl_RX11_32 s0_103 rfl rfl ?_
      refine V.iconst dX11_keepDraft_83 ic_0 ?_
      refine V.iald dX11_keepDraft_84 s0_111 rfl (vp_of (by decide)) ?_
      refine V.putI dX11_keepDraft_85 fp_RX11_90 s0_103 rfl rfl (fun M2 hM2 => ?_)
      replace h := setM_at h M2 hM2
      refine V.aload_n dX11_keepDraft_88 rfl ?_
      refine V.aload_n dX11_keepDraft_89 rfl ?_
      refine V.getR dX11_keepDraft_90 fl_RX11_32 s0_103 rfl rfl ?_
      refine V.iconst dX11_keepDraft_93 ic_1 ?_
      refine V.iald dX11_keepDraft_94 s0_111 rfl (vp_of (by decide)) ?_
      refine V.putI dX11_keepDraft_95 fp_RX11_93 s0_103 rfl rfl (fun M3 hM3 => ?_)
      replace h := setM_at h M3 hM3
      refine V.aload_n dX11_keepDraft_98 rfl ?_
      refine V.aload_n dX11_keepDraft_99 rfl ?_
      refine V.getR dX11_keepDraft_100 fl_RX11_32 s0_103 rfl rfl ?_
      refine V.iconst dX11_keepDraft_103 ic_2 ?_
      refine V.iald dX11_keepDraft_104 s0_111 rfl (vp_of (by decide)) ?_
      refine V.putI dX11_keepDraft_105 fp_RX11_96 s0_103 rfl rfl (fun M4 hM4 => ?_)
      replace h := setM_at h M4 hM4
      refine V.aload_n dX11_keepDraft_108 rfl ?_
      refine V.aload_n dX11_keepDraft_109 rfl ?_
      refine V.getR dX11_keepDraft_110 fl_RX11_32 s0_103 rfl rfl ?_
      refine V.iconst dX11_keepDraft_113 ic_3 ?_
      refine V.iald dX11_keepDraft_114 s0_111 rfl (vp_of (by decide)) ?_
      refine V.putI dX11_keepDraft_115 fp_RX11_99 s0_103 rfl rfl (fun M5 hM5 => ?_)
      replace h := setM_at h M5 hM5
      refine V.aload_n dX11_keepDraft_118 rfl ?_
      refine V.aload_n dX11_keepDraft_119 rfl ?_
      refine V.getI dX11_keepDraft_120 fl_RX11_71 s0_103 rfl rfl ?_
      refine V.putI dX11_keepDraft_123 fp_RX11_102 s0_103 rfl rfl (fun M6 hM6 => ?_)
      replace h := setM_at h M6 hM6
      refine V.aload_n dX11_keepDraft_126 rfl ?_
      refine V.aload_n dX11_keepDraft_127 rfl ?_
      obtain ⟨v8, hv7, h⟩ := bnd_s h
      refine V.cVi dX11_keepDraft_128 rfl mv_RX11_105 (ok_Mod_dPeople hv7) rfl rfl s0_103 rfl (by decide) ⟨Nat.zero_le _, Nat.zero_le _⟩ (Nat.le_of_ble_eq_true rfl) (Nat.zero_le _) ?_
      refine V.putI dX11_keepDraft_131 fp_RX11_109 s0_103 rfl rfl (fun M9 hM9 => ?_)
      replace h := setM_at h M9 hM9
      refine V.aload_n dX11_keepDraft_134 rfl ?_
      refine V.aload_n dX11_keepDraft_135 rfl ?_
      refine V.getI dX11_keepDraft_136 fl_RX11_75 s0_103 rfl rfl ?_
      refine V.putI dX11_keepDraft_139 fp_RX11_112 s0_103 rfl rfl (fun M10 hM10 => ?_)
      replace h := setM_at h M10 hM10
      refine V.iconst dX11_keepDraft_142 ic_0 ?_
      refine V.istore_n dX11_keepDraft_143 (by decide) rfl ?_
      exact okc_Mod_keepDraft_144 _ _ _ _ h
    replace h := ite_f hc1 h
    refine V.aload_n dX11_keepDraft_60 rfl ?_
    refine V.getR dX11_keepDraft_61 fl_RX11_20 s0_103 rfl rfl ?_
    refine V.iload_n dX11_keepDraft_64 rfl ?_
    refine V.aload_n dX11_keepDraft_65 rfl ?_
    refine V.getR dX11_keepDraft_66 fl_RX11_29 s0_103 rfl rfl ?_
    refine V.iload_n dX11_keepDraft_69 rfl ?_
    obtain ⟨hb11, h⟩ := ck_s h
    refine V.iald dX11_keepDraft_70 s0_110 rfl (vp_of hb11) ?_
    obtain ⟨hb12, h⟩ := ck_s h
    refine V.iast dX11_keepDraft_71 s0_107 rfl (vp_of hb12) (fun M13 hM13 => ?_)
    replace h := setM_at h M13 hM13
    refine V.iinc dX11_keepDraft_72 rfl (iinc_c ic_1) (by decide) rfl ?_
    refine V.goto (tgt := 54) dX11_keepDraft_75 (by decide) ?_
    exact ih _ _ _ h
theorem okc_Mod_keepDraft_28 {X : Sc} {l : Launch}     : ∀ (n : Nat) (x1 : Int32) (M : Mem) (M' : Mem), f_Mod_keepDraft_L28  n x1 M = some M' → V X yX11_keepDraft cX11_keepDraft 2 none (rmD 1 0 0) l (FM none S0 M' 0 0) 28 [some (.ref 103), some (.int x1)] [] S0 M 0 0 := by
  intro n
  induction n with
  | zero =>
    intro x1 M M' h
    rw [f_Mod_keepDraft_L28] at h
    cases h
  | succ n ih =>
    intro x1 M M' h
    rw [f_Mod_keepDraft_L28] at h
    refine V.iload_n dX11_keepDraft_28 rfl ?_
    refine V.bipush dX11_keepDraft_29 bp_32 ?_
    refine V.icmp_ge (tgt := 52) dX11_keepDraft_31 (by decide) (fun hc1 => ?_) (fun hc1 => ?_)
    · replace h := ite_t hc1 h
      refine V.iconst dX11_keepDraft_52 ic_0 ?_
      refine V.istore_n dX11_keepDraft_53 (by decide) rfl ?_
      exact okc_Mod_keepDraft_54 _ _ _ _ h
    replace h := ite_f hc1 h
    refine V.aload_n dX11_keepDraft_34 rfl ?_
    refine V.getR dX11_keepDraft_35 fl_RX11_17 s0_103 rfl rfl ?_
    refine V.iload_n dX11_keepDraft_38 rfl ?_
    refine V.aload_n dX11_keepDraft_39 rfl ?_
    refine V.getR dX11_keepDraft_40 fl_RX11_26 s0_103 rfl rfl ?_
    refine V.iload_n dX11_keepDraft_43 rfl ?_
    obtain ⟨hb2, h⟩ := ck_s h
    refine V.iald dX11_keepDraft_44 s0_109 rfl (vp_of hb2) ?_
    obtain ⟨hb3, h⟩ := ck_s h
    refine V.iast dX11_keepDraft_45 s0_106 rfl (vp_of hb3) (fun M4 hM4 => ?_)
    replace h := setM_at h M4 hM4
    refine V.iinc dX11_keepDraft_46 rfl (iinc_c ic_1) (by decide) rfl ?_
    refine V.goto (tgt := 28) dX11_keepDraft_49 (by decide) ?_
    exact ih _ _ _ h
theorem okc_Mod_keepDraft_2 {X : Sc} {l : Launch}     : ∀ (n : Nat) (x1 : Int32) (M : Mem) (M' : Mem), f_Mod_keepDraft_L2  n x1 M = some M' → V X yX11_keepDraft cX11_keepDraft 2 none (rmD 1 0 0) l (FM none S0 M' 0 0) 2 [some (.ref 103), some (.int x1)] [] S0 M 0 0 := by
  intro n
  induction n with
  | zero =>
    intro x1 M M' h
    rw [f_Mod_keepDraft_L2] at h
    cases h
  | succ n ih =>
    intro x1 M M' h
    rw [f_Mod_keepDraft_L2] at h
    refine V.iload_n dX11_keepDraft_2 rfl ?_
    refine V.bipush dX11_keepDraft_3 bp_125 ?_
    refine V.icmp_ge (tgt := 26) dX11_keepDraft_5 (by decide) (fun hc1 => ?_) (fun hc1 => ?_)
    · replace h := ite_t hc1 h
      refine V.iconst dX11_keepDraft_26 ic_0 ?_
      refine V.istore_n dX11_keepDraft_27 (by decide) rfl ?_
      exact okc_Mod_keepDraft_28 _ _ _ _ h
    replace h := ite_f hc1 h
    refine V.aload_n dX11_keepDraft_8 rfl ?_
    refine V.getR dX11_keepDraft_9 fl_RX11_7 s0_103 rfl rfl ?_
    refine V.iload_n dX11_keepDraft_12 rfl ?_
    refine V.aload_n dX11_keepDraft_13 rfl ?_
    refine V.getR dX11_keepDraft_14 fl_RX11_23 s0_103 rfl rfl ?_
    refine V.iload_n dX11_keepDraft_17 rfl ?_
    obtain ⟨hb2, h⟩ := ck_s h
    refine V.iald dX11_keepDraft_18 s0_108 rfl (vp_of hb2) ?_
    obtain ⟨hb3, h⟩ := ck_s h
    refine V.iast dX11_keepDraft_19 s0_104 rfl (vp_of hb3) (fun M4 hM4 => ?_)
    replace h := setM_at h M4 hM4
    refine V.iinc dX11_keepDraft_20 rfl (iinc_c ic_1) (by decide) rfl ?_
    refine V.goto (tgt := 2) dX11_keepDraft_23 (by decide) ?_
    exact ih _ _ _ h
theorem ok_Mod_keepDraft {X : Sc} {l : Launch}  {M : Mem}  {M' : Mem}  (h : f_Mod_keepDraft M = some M') : Mt X l yX11_keepDraft cX11_keepDraft 2 none 1 0 0 [.ref 103] S0 M none S0 M' := by
  refine Mt.ofV (by decide) (Nat.le_of_ble_eq_true rfl) ?_
  show V X yX11_keepDraft cX11_keepDraft 2 none (rmD 1 0 0) l (FM none S0 M' 0 0) 0 [some (.ref 103), none] [] S0 M 0 0
  unfold f_Mod_keepDraft at h
  refine V.iconst dX11_keepDraft_0 ic_0 ?_
  refine V.istore_n dX11_keepDraft_1 (by decide) rfl ?_
  exact okc_Mod_keepDraft_2 _ _ _ _ h
theorem okc_Mod_feed_19 {X : Sc} {l : Launch}     : ∀ (n : Nat) (x1 : Int64) (x3 : Int32) (M : Mem) (r : Int32) (M' : Mem), f_Mod_feed_L19  n x1 x3 M = some (r, M') → V X yX11_feed cX11_feed 4 (some .int) (rmD 0 0 0) l (FM (some (.int r)) S0 M' 0 0) 19 [some (.ref 103), some (.long x1), none, some (.int x3)] [] S0 M 0 0 := by
  intro n
  induction n with
  | zero =>
    intro x1 x3 M r M' h
    rw [f_Mod_feed_L19] at h
    cases h
  | succ n ih =>
    intro x1 x3 M r M' h
    rw [f_Mod_feed_L19] at h
    refine V.iload_n dX11_feed_19 rfl ?_
    refine V.if_lt (tgt := 56) dX11_feed_20 (by decide) (fun hc1 => ?_) (fun hc1 => ?_)
    · replace h := ite_t hc1 h
      refine V.aload_n dX11_feed_56 rfl ?_
      refine V.getI dX11_feed_57 fl_RX11_115 s0_103 rfl rfl ?_
      obtain ⟨e1, e2⟩ := inj2 h
      subst e1
      subst e2
      exact V.iret dX11_feed_60 rfl rfl
    replace h := ite_f hc1 h
    refine V.aload_n dX11_feed_23 rfl ?_
    refine V.getR dX11_feed_24 fl_RX11_35 s0_103 rfl rfl ?_
    refine V.aload_n dX11_feed_27 rfl ?_
    refine V.getI dX11_feed_28 fl_RX11_115 s0_103 rfl rfl ?_
    refine V.lload_n dX11_feed_31 rfl ?_
    refine V.iload_n dX11_feed_32 rfl ?_
    refine V.lshr dX11_feed_33 ?_
    refine V.ldc2 dX11_feed_34 rfl kc_RX11_118 ?_
    refine V.land dX11_feed_37 ?_
    refine V.l2i dX11_feed_38 ?_
    obtain ⟨hb2, h⟩ := ck_s h
    refine V.iast dX11_feed_39 s0_112 rfl (vp_of hb2) (fun M3 hM3 => ?_)
    replace h := setM_at h M3 hM3
    refine V.aload_n dX11_feed_40 rfl ?_
    refine V.dup dX11_feed_41 rfl ?_
    refine V.getI dX11_feed_42 fl_RX11_115 s0_103 rfl rfl ?_
    refine V.iconst dX11_feed_45 ic_1 ?_
    refine V.iadd dX11_feed_46 ?_
    refine V.putI dX11_feed_47 fp_RX11_115 s0_103 rfl rfl (fun M4 hM4 => ?_)
    replace h := setM_at h M4 hM4
    refine V.iinc dX11_feed_50 rfl (iinc_c ic_m8) (by decide) rfl ?_
    refine V.goto (tgt := 19) dX11_feed_53 (by decide) ?_
    exact ih _ _ _ _ _ h
theorem ok_Mod_feed {X : Sc} {l : Launch}  {M : Mem} {x1 : Int64} {r : Int32} {M' : Mem}  (h : f_Mod_feed x1 M = some (r, M')) : Mt X l yX11_feed cX11_feed 4 (some .int) 0 0 0 [.ref 103, .long x1] S0 M (some (.int r)) S0 M' := by
  refine Mt.ofV (by decide) (Nat.le_of_ble_eq_true rfl) ?_
  show V X yX11_feed cX11_feed 4 (some .int) (rmD 0 0 0) l (FM (some (.int r)) S0 M' 0 0) 0 [some (.ref 103), some (.long x1), none, none] [] S0 M 0 0
  unfold f_Mod_feed at h
  refine V.aload_n dX11_feed_0 rfl ?_
  refine V.getI dX11_feed_1 fl_RX11_115 s0_103 rfl rfl ?_
  refine V.bipush dX11_feed_4 bp_8 ?_
  refine V.iadd dX11_feed_6 ?_
  refine V.sipush dX11_feed_7 sp_320 ?_
  refine V.icmp_le (tgt := 16) dX11_feed_10 (by decide) (fun hc1 => ?_) (fun hc1 => ?_)
  · replace h := ite_t hc1 h
    refine V.bipush dX11_feed_16 bp_56 ?_
    refine V.istore_n dX11_feed_18 (by decide) rfl ?_
    exact okc_Mod_feed_19 _ _ _ _ _ _ h
  replace h := ite_f hc1 h
  refine V.bipush dX11_feed_13 bp_m3 ?_
  obtain ⟨e1, e2⟩ := inj2 h
  subst e1
  subst e2
  exact V.iret dX11_feed_15 rfl rfl
theorem ok_Mod_end {X : Sc} {l : Launch}  {M : Mem} {x1 : Int32} {r : Int32} {M' : Mem}  (h : f_Mod_end x1 M = some (r, M')) : Mt X l yX11_end cX11_end 3 (some .int) 1 0 0 [.ref 103, .int x1] S0 M (some (.int r)) S0 M' := by
  refine Mt.ofV (by decide) (Nat.le_of_ble_eq_true rfl) ?_
  show V X yX11_end cX11_end 3 (some .int) (rmD 1 0 0) l (FM (some (.int r)) S0 M' 0 0) 0 [some (.ref 103), some (.int x1), none] [] S0 M 0 0
  unfold f_Mod_end at h
  refine V.iload_n dX11_end_0 rfl ?_
  refine V.i2l dX11_end_1 ?_
  refine V.lconst dX11_end_2 lc_0 ?_
  refine V.aload_n dX11_end_3 rfl ?_
  refine V.getI dX11_end_4 fl_RX11_115 s0_103 rfl rfl ?_
  refine V.i2l dX11_end_7 ?_
  obtain ⟨v2, hv1, h⟩ := bnd_s h
  refine V.cSi dX11_end_8 rfl mv_RX11_120 (ok_Mod_in hv1) rfl rfl (by decide) ⟨Nat.zero_le _, Nat.zero_le _⟩ (Nat.le_of_ble_eq_true rfl) (Nat.zero_le _) ?_
  refine V.if_ne (tgt := 16) dX11_end_11 (by decide) (fun hc3 => ?_) (fun hc3 => ?_)
  · replace h := ite_f hc3 h
    refine V.aload_n dX11_end_16 rfl ?_
    refine V.getI dX11_end_17 fl_RX11_115 s0_103 rfl rfl ?_
    refine V.nmI (fun w4 hw4 => ?_)
    replace h := nmI_at h w4 hw4
    refine V.istore_n dX11_end_20 (by decide) rfl ?_
    refine V.aload_n dX11_end_21 rfl ?_
    refine V.iload_n dX11_end_22 rfl ?_
    refine V.putI dX11_end_23 fp_RX11_115 s0_103 rfl rfl (fun M5 hM5 => ?_)
    replace h := setM_at h M5 hM5
    refine V.iload_n dX11_end_26 rfl ?_
    obtain ⟨e1, e2⟩ := inj2 h
    subst e1
    subst e2
    exact V.iret dX11_end_27 rfl rfl
  replace h := ite_t hc3 h
  refine V.iconst dX11_end_14 ic_m1 ?_
  obtain ⟨e1, e2⟩ := inj2 h
  subst e1
  subst e2
  exact V.iret dX11_end_15 rfl rfl
theorem ok_Mod_needs {X : Sc} {l : Launch}  {M : Mem} {x1 : Int32} {x2 : Int32} {M' : Mem}  (h : f_Mod_needs x1 x2 M = some M') : Mt X l yX11_needs cX11_needs 3 none 0 0 0 [.ref 103, .int x1, .int x2] S0 M none S0 M' := by
  refine Mt.ofV (by decide) (Nat.le_of_ble_eq_true rfl) ?_
  show V X yX11_needs cX11_needs 3 none (rmD 0 0 0) l (FM none S0 M' 0 0) 0 [some (.ref 103), some (.int x1), some (.int x2)] [] S0 M 0 0
  unfold f_Mod_needs at h
  refine V.iload_n dX11_needs_0 rfl ?_
  refine V.if_ne (tgt := 24) dX11_needs_1 (by decide) (fun hc1 => ?_) (fun hc1 => ?_)
  · replace h := ite_f hc1 h
    have e1 := inj1 h
    subst e1
    exact V.vret dX11_needs_24 rfl
  replace h := ite_t hc1 h
  refine V.aload_n dX11_needs_4 rfl ?_
  refine V.getI dX11_needs_5 fl_RX11_124 s0_103 rfl rfl ?_
  refine V.if_ne (tgt := 24) dX11_needs_8 (by decide) (fun hc2 => ?_) (fun hc2 => ?_)
  · replace h := ite_f hc2 h
    have e1 := inj1 h
    subst e1
    exact V.vret dX11_needs_24 rfl
  replace h := ite_t hc2 h
  refine V.aload_n dX11_needs_11 rfl ?_
  refine V.iload_n dX11_needs_12 rfl ?_
  refine V.putI dX11_needs_13 fp_RX11_124 s0_103 rfl rfl (fun M3 hM3 => ?_)
  replace h := setM_at h M3 hM3
  refine V.aload_n dX11_needs_16 rfl ?_
  refine V.aload_n dX11_needs_17 rfl ?_
  refine V.getI dX11_needs_18 fl_RX11_127 s0_103 rfl rfl ?_
  refine V.putI dX11_needs_21 fp_RX11_130 s0_103 rfl rfl (fun M4 hM4 => ?_)
  replace h := setM_at h M4 hM4
  have e1 := inj1 h
  subst e1
  exact V.vret dX11_needs_24 rfl
theorem ok_Mod_look {X : Sc} {l : Launch}  {M : Mem} {x1 : Int32} {r : Int32}  (h : f_Mod_look M x1 = some r) : Mt X l yX11_look cX11_look 2 (some .int) 0 0 0 [.ref 103, .int x1] S0 M (some (.int r)) S0 M := by
  refine Mt.ofV (by decide) (Nat.le_of_ble_eq_true rfl) ?_
  show V X yX11_look cX11_look 2 (some .int) (rmD 0 0 0) l (FM (some (.int r)) S0 M 0 0) 0 [some (.ref 103), some (.int x1)] [] S0 M 0 0
  unfold f_Mod_look at h
  refine V.iload_n dX11_look_0 rfl ?_
  refine V.aload_n dX11_look_1 rfl ?_
  refine V.getI dX11_look_2 fl_RX11_115 s0_103 rfl rfl ?_
  refine V.icmp_ge (tgt := 17) dX11_look_5 (by decide) (fun hc1 => ?_) (fun hc1 => ?_)
  · replace h := ite_t hc1 h
    refine V.iconst dX11_look_17 ic_m1 ?_
    have e1 := inj1 h
    subst e1
    exact V.iret dX11_look_18 rfl rfl
  replace h := ite_f hc1 h
  refine V.aload_n dX11_look_8 rfl ?_
  refine V.getR dX11_look_9 fl_RX11_35 s0_103 rfl rfl ?_
  refine V.iload_n dX11_look_12 rfl ?_
  obtain ⟨hb2, h⟩ := ck_s h
  refine V.iald dX11_look_13 s0_112 rfl (vp_of hb2) ?_
  refine V.goto (tgt := 18) dX11_look_14 (by decide) ?_
  have e1 := inj1 h
  subst e1
  exact V.iret dX11_look_18 rfl rfl
theorem ok_Mod_is {X : Sc} {l : Launch}  {M : Mem} {x1 : Int32} {x2 : Int32} {x3 : Int32} {x4 : Int32} {x5 : Int32} {r : Int32}  (h : f_Mod_is M x1 x2 x3 x4 x5 = some r) : Mt X l yX11_is cX11_is 6 (some .boolean) 1 0 0 [.ref 103, .int x1, .int x2, .int x3, .int x4, .int x5] S0 M (some (.int r)) S0 M := by
  refine Mt.ofV (by decide) (Nat.le_of_ble_eq_true rfl) ?_
  show V X yX11_is cX11_is 6 (some .boolean) (rmD 1 0 0) l (FM (some (.int r)) S0 M 0 0) 0 [some (.ref 103), some (.int x1), some (.int x2), some (.int x3), some (.int x4), some (.int x5)] [] S0 M 0 0
  unfold f_Mod_is at h
  refine V.aload_n dX11_is_0 rfl ?_
  refine V.getI dX11_is_1 fl_RX11_133 s0_103 rfl rfl ?_
  refine V.aload_n dX11_is_4 rfl ?_
  refine V.getI dX11_is_5 fl_RX11_127 s0_103 rfl rfl ?_
  refine V.isub dX11_is_8 ?_
  refine V.iload_n dX11_is_9 rfl ?_
  refine V.icmp_ne (tgt := 78) dX11_is_10 (by decide) (fun hc1 => ?_) (fun hc1 => ?_)
  · replace h := ite_f hc1 h
    refine V.iconst dX11_is_78 ic_0 ?_
    have e1 := inj1 h
    subst e1
    exact V.iret dX11_is_79 rfl rfl
  replace h := ite_t hc1 h
  refine V.aload_n dX11_is_13 rfl ?_
  refine V.aload_n dX11_is_14 rfl ?_
  refine V.getI dX11_is_15 fl_RX11_127 s0_103 rfl rfl ?_
  obtain ⟨v3, hv2, h⟩ := bnd_s h
  refine V.cVi dX11_is_18 rfl mv_RX11_136 (ok_Mod_look hv2) rfl rfl s0_103 rfl (by decide) ⟨Nat.zero_le _, Nat.zero_le _⟩ (Nat.le_of_ble_eq_true rfl) (Nat.zero_le _) ?_
  refine V.iload_n dX11_is_21 rfl ?_
  refine V.icmp_ne (tgt := 78) dX11_is_22 (by decide) (fun hc4 => ?_) (fun hc4 => ?_)
  · replace h := ite_f hc4 h
    refine V.iconst dX11_is_78 ic_0 ?_
    have e1 := inj1 h
    subst e1
    exact V.iret dX11_is_79 rfl rfl
  replace h := ite_t hc4 h
  refine V.aload_n dX11_is_25 rfl ?_
  refine V.aload_n dX11_is_26 rfl ?_
  refine V.getI dX11_is_27 fl_RX11_127 s0_103 rfl rfl ?_
  refine V.iconst dX11_is_30 ic_1 ?_
  refine V.iadd dX11_is_31 ?_
  obtain ⟨v6, hv5, h⟩ := bnd_s h
  refine V.cVi dX11_is_32 rfl mv_RX11_136 (ok_Mod_look hv5) rfl rfl s0_103 rfl (by decide) ⟨Nat.zero_le _, Nat.zero_le _⟩ (Nat.le_of_ble_eq_true rfl) (Nat.zero_le _) ?_
  refine V.iload_n dX11_is_35 rfl ?_
  refine V.icmp_ne (tgt := 78) dX11_is_36 (by decide) (fun hc7 => ?_) (fun hc7 => ?_)
  · replace h := ite_f hc7 h
    refine V.iconst dX11_is_78 ic_0 ?_
    have e1 := inj1 h
    subst e1
    exact V.iret dX11_is_79 rfl rfl
  replace h := ite_t hc7 h
  refine V.aload_n dX11_is_39 rfl ?_
  refine V.aload_n dX11_is_40 rfl ?_
  refine V.getI dX11_is_41 fl_RX11_127 s0_103 rfl rfl ?_
  refine V.iconst dX11_is_44 ic_2 ?_
  refine V.iadd dX11_is_45 ?_
  obtain ⟨v9, hv8, h⟩ := bnd_s h
  refine V.cVi dX11_is_46 rfl mv_RX11_136 (ok_Mod_look hv8) rfl rfl s0_103 rfl (by decide) ⟨Nat.zero_le _, Nat.zero_le _⟩ (Nat.le_of_ble_eq_true rfl) (Nat.zero_le _) ?_
  refine V.iload dX11_is_49 rfl ?_
  refine V.icmp_ne (tgt := 78) dX11_is_51 (by decide) (fun hc10 => ?_) (fun hc10 => ?_)
  · replace h := ite_f hc10 h
    refine V.iconst dX11_is_78 ic_0 ?_
    have e1 := inj1 h
    subst e1
    exact V.iret dX11_is_79 rfl rfl
  replace h := ite_t hc10 h
  refine V.iload_n dX11_is_54 rfl ?_
  refine V.iconst dX11_is_55 ic_4 ?_
  refine V.icmp_lt (tgt := 74) dX11_is_56 (by decide) (fun hc11 => ?_) (fun hc11 => ?_)
  · replace h := ite_t hc11 h
    refine V.iconst dX11_is_74 ic_1 ?_
    refine V.goto (tgt := 79) dX11_is_75 (by decide) ?_
    have e1 := inj1 h
    subst e1
    exact V.iret dX11_is_79 rfl rfl
  replace h := ite_f hc11 h
  refine V.aload_n dX11_is_59 rfl ?_
  refine V.aload_n dX11_is_60 rfl ?_
  refine V.getI dX11_is_61 fl_RX11_127 s0_103 rfl rfl ?_
  refine V.iconst dX11_is_64 ic_3 ?_
  refine V.iadd dX11_is_65 ?_
  obtain ⟨v13, hv12, h⟩ := bnd_s h
  refine V.cVi dX11_is_66 rfl mv_RX11_136 (ok_Mod_look hv12) rfl rfl s0_103 rfl (by decide) ⟨Nat.zero_le _, Nat.zero_le _⟩ (Nat.le_of_ble_eq_true rfl) (Nat.zero_le _) ?_
  refine V.iload dX11_is_69 rfl ?_
  refine V.icmp_ne (tgt := 78) dX11_is_71 (by decide) (fun hc14 => ?_) (fun hc14 => ?_)
  · replace h := ite_f hc14 h
    refine V.iconst dX11_is_78 ic_0 ?_
    have e1 := inj1 h
    subst e1
    exact V.iret dX11_is_79 rfl rfl
  replace h := ite_t hc14 h
  refine V.iconst dX11_is_74 ic_1 ?_
  refine V.goto (tgt := 79) dX11_is_75 (by decide) ?_
  have e1 := inj1 h
  subst e1
  exact V.iret dX11_is_79 rfl rfl
theorem ok_Mod_ends {X : Sc} {l : Launch}  {M : Mem} {x1 : Int32} {x2 : Int32} {x3 : Int32} {x4 : Int32} {r : Int32}  (h : f_Mod_ends M x1 x2 x3 x4 = some r) : Mt X l yX11_ends cX11_ends 5 (some .boolean) 1 0 0 [.ref 103, .int x1, .int x2, .int x3, .int x4] S0 M (some (.int r)) S0 M := by
  refine Mt.ofV (by decide) (Nat.le_of_ble_eq_true rfl) ?_
  show V X yX11_ends cX11_ends 5 (some .boolean) (rmD 1 0 0) l (FM (some (.int r)) S0 M 0 0) 0 [some (.ref 103), some (.int x1), some (.int x2), some (.int x3), some (.int x4)] [] S0 M 0 0
  unfold f_Mod_ends at h
  refine V.aload_n dX11_ends_0 rfl ?_
  refine V.aload_n dX11_ends_1 rfl ?_
  refine V.getI dX11_ends_2 fl_RX11_127 s0_103 rfl rfl ?_
  refine V.iload_n dX11_ends_5 rfl ?_
  refine V.iadd dX11_ends_6 ?_
  obtain ⟨v2, hv1, h⟩ := bnd_s h
  refine V.cVi dX11_ends_7 rfl mv_RX11_136 (ok_Mod_look hv1) rfl rfl s0_103 rfl (by decide) ⟨Nat.zero_le _, Nat.zero_le _⟩ (Nat.le_of_ble_eq_true rfl) (Nat.zero_le _) ?_
  refine V.iload_n dX11_ends_10 rfl ?_
  refine V.icmp_ne (tgt := 56) dX11_ends_11 (by decide) (fun hc3 => ?_) (fun hc3 => ?_)
  · replace h := ite_f hc3 h
    refine V.iconst dX11_ends_56 ic_0 ?_
    have e1 := inj1 h
    subst e1
    exact V.iret dX11_ends_57 rfl rfl
  replace h := ite_t hc3 h
  refine V.aload_n dX11_ends_14 rfl ?_
  refine V.aload_n dX11_ends_15 rfl ?_
  refine V.getI dX11_ends_16 fl_RX11_127 s0_103 rfl rfl ?_
  refine V.iload_n dX11_ends_19 rfl ?_
  refine V.iadd dX11_ends_20 ?_
  refine V.iconst dX11_ends_21 ic_1 ?_
  refine V.iadd dX11_ends_22 ?_
  obtain ⟨v5, hv4, h⟩ := bnd_s h
  refine V.cVi dX11_ends_23 rfl mv_RX11_136 (ok_Mod_look hv4) rfl rfl s0_103 rfl (by decide) ⟨Nat.zero_le _, Nat.zero_le _⟩ (Nat.le_of_ble_eq_true rfl) (Nat.zero_le _) ?_
  refine V.iload_n dX11_ends_26 rfl ?_
  refine V.icmp_ne (tgt := 56) dX11_ends_27 (by decide) (fun hc6 => ?_) (fun hc6 => ?_)
  · replace h := ite_f hc6 h
    refine V.iconst dX11_ends_56 ic_0 ?_
    have e1 := inj1 h
    subst e1
    exact V.iret dX11_ends_57 rfl rfl
  replace h := ite_t hc6 h
  refine V.iload dX11_ends_30 rfl ?_
  refine V.if_eq (tgt := 52) dX11_ends_32 (by decide) (fun hc7 => ?_) (fun hc7 => ?_)
  · replace h := ite_t hc7 h
    refine V.iconst dX11_ends_52 ic_1 ?_
    refine V.goto (tgt := 57) dX11_ends_53 (by decide) ?_
    have e1 := inj1 h
    subst e1
    exact V.iret dX11_ends_57 rfl rfl
  replace h := ite_f hc7 h
  refine V.aload_n dX11_ends_35 rfl ?_
  refine V.aload_n dX11_ends_36 rfl ?_
  refine V.getI dX11_ends_37 fl_RX11_127 s0_103 rfl rfl ?_
  refine V.iload_n dX11_ends_40 rfl ?_
  refine V.iadd dX11_ends_41 ?_
  refine V.iconst dX11_ends_42 ic_2 ?_
  refine V.iadd dX11_ends_43 ?_
  obtain ⟨v9, hv8, h⟩ := bnd_s h
  refine V.cVi dX11_ends_44 rfl mv_RX11_136 (ok_Mod_look hv8) rfl rfl s0_103 rfl (by decide) ⟨Nat.zero_le _, Nat.zero_le _⟩ (Nat.le_of_ble_eq_true rfl) (Nat.zero_le _) ?_
  refine V.iload dX11_ends_47 rfl ?_
  refine V.icmp_ne (tgt := 56) dX11_ends_49 (by decide) (fun hc10 => ?_) (fun hc10 => ?_)
  · replace h := ite_f hc10 h
    refine V.iconst dX11_ends_56 ic_0 ?_
    have e1 := inj1 h
    subst e1
    exact V.iret dX11_ends_57 rfl rfl
  replace h := ite_t hc10 h
  refine V.iconst dX11_ends_52 ic_1 ?_
  refine V.goto (tgt := 57) dX11_ends_53 (by decide) ?_
  have e1 := inj1 h
  subst e1
  exact V.iret dX11_ends_57 rfl rfl
theorem okc_Mod_ruleNow_68 {X : Sc} {l : Launch}   {M : Mem}    {r : Int32} (h : f_Mod_ruleNow_J68 M  = some r) : V X yX11_ruleNow cX11_ruleNow 1 (some .int) (rmD 2 0 0) l (FM (some (.int r)) S0 M 0 0) 68 [some (.ref 103)] [] S0 M 0 0 := by
  unfold f_Mod_ruleNow_J68 at h
  refine V.aload_n dX11_ruleNow_68 rfl ?_
  refine V.iconst dX11_ruleNow_69 ic_4 ?_
  refine V.bipush dX11_ruleNow_70 bp_119 ?_
  refine V.bipush dX11_ruleNow_72 bp_97 ?_
  refine V.bipush dX11_ruleNow_74 bp_114 ?_
  refine V.bipush dX11_ruleNow_76 bp_109 ?_
  obtain ⟨v2, hv1, h⟩ := bnd_s h
  refine V.cVi dX11_ruleNow_78 rfl mv_RX11_140 (ok_Mod_is hv1) rfl rfl s0_103 rfl (by decide) ⟨Nat.zero_le _, Nat.zero_le _⟩ (Nat.le_of_ble_eq_true rfl) (Nat.zero_le _) ?_
  refine V.if_eq (tgt := 86) dX11_ruleNow_81 (by decide) (fun hc3 => ?_) (fun hc3 => ?_)
  · replace h := ite_t hc3 h
    refine V.aload_n dX11_ruleNow_86 rfl ?_
    refine V.bipush dX11_ruleNow_87 bp_6 ?_
    refine V.bipush dX11_ruleNow_89 bp_112 ?_
    refine V.bipush dX11_ruleNow_91 bp_101 ?_
    refine V.bipush dX11_ruleNow_93 bp_111 ?_
    refine V.bipush dX11_ruleNow_95 bp_112 ?_
    obtain ⟨v5, hv4, h⟩ := bnd_s h
    refine V.cVi dX11_ruleNow_97 rfl mv_RX11_140 (ok_Mod_is hv4) rfl rfl s0_103 rfl (by decide) ⟨Nat.zero_le _, Nat.zero_le _⟩ (Nat.le_of_ble_eq_true rfl) (Nat.zero_le _) ?_
    refine V.if_eq (tgt := 120) dX11_ruleNow_100 (by decide) (fun hc6 => ?_) (fun hc6 => ?_)
    · replace h := ite_t hc6 h
      refine V.bipush dX11_ruleNow_120 bp_m4 ?_
      have e1 := inj1 h
      subst e1
      exact V.iret dX11_ruleNow_122 rfl rfl
    replace h := ite_f hc6 h
    refine V.aload_n dX11_ruleNow_103 rfl ?_
    refine V.iconst dX11_ruleNow_104 ic_4 ?_
    refine V.bipush dX11_ruleNow_105 bp_108 ?_
    refine V.bipush dX11_ruleNow_107 bp_101 ?_
    refine V.iconst dX11_ruleNow_109 ic_0 ?_
    obtain ⟨v8, hv7, h⟩ := bnd_s h
    refine V.cVi dX11_ruleNow_110 rfl mv_RX11_144 (ok_Mod_ends hv7) rfl rfl s0_103 rfl (by decide) ⟨Nat.zero_le _, Nat.zero_le _⟩ (Nat.le_of_ble_eq_true rfl) (Nat.zero_le _) ?_
    refine V.if_eq (tgt := 120) dX11_ruleNow_113 (by decide) (fun hc9 => ?_) (fun hc9 => ?_)
    · replace h := ite_t hc9 h
      refine V.bipush dX11_ruleNow_120 bp_m4 ?_
      have e1 := inj1 h
      subst e1
      exact V.iret dX11_ruleNow_122 rfl rfl
    replace h := ite_f hc9 h
    refine V.iconst dX11_ruleNow_116 ic_4 ?_
    refine V.goto (tgt := 122) dX11_ruleNow_117 (by decide) ?_
    have e1 := inj1 h
    subst e1
    exact V.iret dX11_ruleNow_122 rfl rfl
  replace h := ite_f hc3 h
  refine V.iconst dX11_ruleNow_84 ic_3 ?_
  have e1 := inj1 h
  subst e1
  exact V.iret dX11_ruleNow_85 rfl rfl
theorem ok_Mod_ruleNow {X : Sc} {l : Launch}  {M : Mem}  {r : Int32}  (h : f_Mod_ruleNow M = some r) : Mt X l yX11_ruleNow cX11_ruleNow 1 (some .int) 2 0 0 [.ref 103] S0 M (some (.int r)) S0 M := by
  refine Mt.ofV (by decide) (Nat.le_of_ble_eq_true rfl) ?_
  show V X yX11_ruleNow cX11_ruleNow 1 (some .int) (rmD 2 0 0) l (FM (some (.int r)) S0 M 0 0) 0 [some (.ref 103)] [] S0 M 0 0
  unfold f_Mod_ruleNow at h
  refine V.aload_n dX11_ruleNow_0 rfl ?_
  refine V.iconst dX11_ruleNow_1 ic_4 ?_
  refine V.bipush dX11_ruleNow_2 bp_104 ?_
  refine V.bipush dX11_ruleNow_4 bp_97 ?_
  refine V.bipush dX11_ruleNow_6 bp_108 ?_
  refine V.bipush dX11_ruleNow_8 bp_108 ?_
  obtain ⟨v2, hv1, h⟩ := bnd_s h
  refine V.cVi dX11_ruleNow_10 rfl mv_RX11_140 (ok_Mod_is hv1) rfl rfl s0_103 rfl (by decide) ⟨Nat.zero_le _, Nat.zero_le _⟩ (Nat.le_of_ble_eq_true rfl) (Nat.zero_le _) ?_
  refine V.if_eq (tgt := 18) dX11_ruleNow_13 (by decide) (fun hc3 => ?_) (fun hc3 => ?_)
  · replace h := ite_t hc3 h
    refine V.aload_n dX11_ruleNow_18 rfl ?_
    refine V.iconst dX11_ruleNow_19 ic_4 ?_
    refine V.bipush dX11_ruleNow_20 bp_102 ?_
    refine V.bipush dX11_ruleNow_22 bp_97 ?_
    refine V.bipush dX11_ruleNow_24 bp_100 ?_
    refine V.bipush dX11_ruleNow_26 bp_101 ?_
    obtain ⟨v5, hv4, h⟩ := bnd_s h
    refine V.cVi dX11_ruleNow_28 rfl mv_RX11_140 (ok_Mod_is hv4) rfl rfl s0_103 rfl (by decide) ⟨Nat.zero_le _, Nat.zero_le _⟩ (Nat.le_of_ble_eq_true rfl) (Nat.zero_le _) ?_
    refine V.if_eq (tgt := 36) dX11_ruleNow_31 (by decide) (fun hc6 => ?_) (fun hc6 => ?_)
    · replace h := ite_t hc6 h
      refine V.aload_n dX11_ruleNow_36 rfl ?_
      refine V.bipush dX11_ruleNow_37 bp_6 ?_
      refine V.bipush dX11_ruleNow_39 bp_98 ?_
      refine V.bipush dX11_ruleNow_41 bp_111 ?_
      refine V.bipush dX11_ruleNow_43 bp_117 ?_
      refine V.bipush dX11_ruleNow_45 bp_110 ?_
      obtain ⟨v8, hv7, h⟩ := bnd_s h
      refine V.cVi dX11_ruleNow_47 rfl mv_RX11_140 (ok_Mod_is hv7) rfl rfl s0_103 rfl (by decide) ⟨Nat.zero_le _, Nat.zero_le _⟩ (Nat.le_of_ble_eq_true rfl) (Nat.zero_le _) ?_
      refine V.if_eq (tgt := 68) dX11_ruleNow_50 (by decide) (fun hc9 => ?_) (fun hc9 => ?_)
      · replace h := ite_t hc9 h
        exact okc_Mod_ruleNow_68 h
      replace h := ite_f hc9 h
      refine V.aload_n dX11_ruleNow_53 rfl ?_
      refine V.iconst dX11_ruleNow_54 ic_4 ?_
      refine V.bipush dX11_ruleNow_55 bp_99 ?_
      refine V.bipush dX11_ruleNow_57 bp_101 ?_
      refine V.iconst dX11_ruleNow_59 ic_0 ?_
      obtain ⟨v11, hv10, h⟩ := bnd_s h
      refine V.cVi dX11_ruleNow_60 rfl mv_RX11_144 (ok_Mod_ends hv10) rfl rfl s0_103 rfl (by decide) ⟨Nat.zero_le _, Nat.zero_le _⟩ (Nat.le_of_ble_eq_true rfl) (Nat.zero_le _) ?_
      refine V.if_eq (tgt := 68) dX11_ruleNow_63 (by decide) (fun hc12 => ?_) (fun hc12 => ?_)
      · replace h := ite_t hc12 h
        exact okc_Mod_ruleNow_68 h
      replace h := ite_f hc12 h
      refine V.iconst dX11_ruleNow_66 ic_2 ?_
      have e1 := inj1 h
      subst e1
      exact V.iret dX11_ruleNow_67 rfl rfl
    replace h := ite_f hc6 h
    refine V.iconst dX11_ruleNow_34 ic_1 ?_
    have e1 := inj1 h
    subst e1
    exact V.iret dX11_ruleNow_35 rfl rfl
  replace h := ite_f hc3 h
  refine V.iconst dX11_ruleNow_16 ic_0 ?_
  have e1 := inj1 h
  subst e1
  exact V.iret dX11_ruleNow_17 rfl rfl
theorem okc_Mod_nameNow_173 {X : Sc} {l : Launch}   {M : Mem}    {r : Int32} (h : f_Mod_nameNow_J173 M  = some r) : V X yX11_nameNow cX11_nameNow 1 (some .int) (rmD 3 0 0) l (FM (some (.int r)) S0 M 0 0) 173 [some (.ref 103)] [] S0 M 0 0 := by
  unfold f_Mod_nameNow_J173 at h
  refine V.aload_n dX11_nameNow_173 rfl ?_
  obtain ⟨v2, hv1, h⟩ := bnd_s h
  refine V.cVi dX11_nameNow_174 rfl mv_RX11_148 (ok_Mod_ruleNow hv1) rfl rfl s0_103 rfl (by decide) ⟨Nat.zero_le _, Nat.zero_le _⟩ (Nat.le_of_ble_eq_true rfl) (Nat.zero_le _) ?_
  have e1 := inj1 h
  subst e1
  exact V.iret dX11_nameNow_177 rfl rfl
theorem okc_Mod_nameNow_100 {X : Sc} {l : Launch}   {M : Mem}    {r : Int32} (h : f_Mod_nameNow_J100 M  = some r) : V X yX11_nameNow cX11_nameNow 1 (some .int) (rmD 3 0 0) l (FM (some (.int r)) S0 M 0 0) 100 [some (.ref 103)] [] S0 M 0 0 := by
  unfold f_Mod_nameNow_J100 at h
  refine V.aload_n dX11_nameNow_100 rfl ?_
  refine V.iconst dX11_nameNow_101 ic_4 ?_
  refine V.bipush dX11_nameNow_102 bp_106 ?_
  refine V.bipush dX11_nameNow_104 bp_111 ?_
  refine V.bipush dX11_nameNow_106 bp_105 ?_
  refine V.bipush dX11_nameNow_108 bp_110 ?_
  obtain ⟨v2, hv1, h⟩ := bnd_s h
  refine V.cVi dX11_nameNow_110 rfl mv_RX11_140 (ok_Mod_is hv1) rfl rfl s0_103 rfl (by decide) ⟨Nat.zero_le _, Nat.zero_le _⟩ (Nat.le_of_ble_eq_true rfl) (Nat.zero_le _) ?_
  refine V.if_eq (tgt := 119) dX11_nameNow_113 (by decide) (fun hc3 => ?_) (fun hc3 => ?_)
  · replace h := ite_t hc3 h
    refine V.aload_n dX11_nameNow_119 rfl ?_
    refine V.iconst dX11_nameNow_120 ic_3 ?_
    refine V.bipush dX11_nameNow_121 bp_98 ?_
    refine V.bipush dX11_nameNow_123 bp_97 ?_
    refine V.bipush dX11_nameNow_125 bp_114 ?_
    refine V.iconst dX11_nameNow_127 ic_0 ?_
    obtain ⟨v5, hv4, h⟩ := bnd_s h
    refine V.cVi dX11_nameNow_128 rfl mv_RX11_140 (ok_Mod_is hv4) rfl rfl s0_103 rfl (by decide) ⟨Nat.zero_le _, Nat.zero_le _⟩ (Nat.le_of_ble_eq_true rfl) (Nat.zero_le _) ?_
    refine V.if_eq (tgt := 137) dX11_nameNow_131 (by decide) (fun hc6 => ?_) (fun hc6 => ?_)
    · replace h := ite_t hc6 h
      refine V.aload_n dX11_nameNow_137 rfl ?_
      refine V.bipush dX11_nameNow_138 bp_7 ?_
      refine V.bipush dX11_nameNow_140 bp_119 ?_
      refine V.bipush dX11_nameNow_142 bp_104 ?_
      refine V.bipush dX11_nameNow_144 bp_105 ?_
      refine V.bipush dX11_nameNow_146 bp_115 ?_
      obtain ⟨v8, hv7, h⟩ := bnd_s h
      refine V.cVi dX11_nameNow_148 rfl mv_RX11_140 (ok_Mod_is hv7) rfl rfl s0_103 rfl (by decide) ⟨Nat.zero_le _, Nat.zero_le _⟩ (Nat.le_of_ble_eq_true rfl) (Nat.zero_le _) ?_
      refine V.if_eq (tgt := 173) dX11_nameNow_151 (by decide) (fun hc9 => ?_) (fun hc9 => ?_)
      · replace h := ite_t hc9 h
        exact okc_Mod_nameNow_173 h
      replace h := ite_f hc9 h
      refine V.aload_n dX11_nameNow_154 rfl ?_
      refine V.iconst dX11_nameNow_155 ic_4 ?_
      refine V.bipush dX11_nameNow_156 bp_112 ?_
      refine V.bipush dX11_nameNow_158 bp_101 ?_
      refine V.bipush dX11_nameNow_160 bp_114 ?_
      obtain ⟨v11, hv10, h⟩ := bnd_s h
      refine V.cVi dX11_nameNow_162 rfl mv_RX11_144 (ok_Mod_ends hv10) rfl rfl s0_103 rfl (by decide) ⟨Nat.zero_le _, Nat.zero_le _⟩ (Nat.le_of_ble_eq_true rfl) (Nat.zero_le _) ?_
      refine V.if_eq (tgt := 173) dX11_nameNow_165 (by decide) (fun hc12 => ?_) (fun hc12 => ?_)
      · replace h := ite_t hc12 h
        exact okc_Mod_nameNow_173 h
      replace h := ite_f hc12 h
      refine V.bipush dX11_nameNow_168 bp_10 ?_
      refine V.goto (tgt := 177) dX11_nameNow_170 (by decide) ?_
      have e1 := inj1 h
      subst e1
      exact V.iret dX11_nameNow_177 rfl rfl
    replace h := ite_f hc6 h
    refine V.bipush dX11_nameNow_134 bp_9 ?_
    have e1 := inj1 h
    subst e1
    exact V.iret dX11_nameNow_136 rfl rfl
  replace h := ite_f hc3 h
  refine V.bipush dX11_nameNow_116 bp_8 ?_
  have e1 := inj1 h
  subst e1
  exact V.iret dX11_nameNow_118 rfl rfl
theorem okc_Mod_nameNow_66 {X : Sc} {l : Launch}   {M : Mem}    {r : Int32} (h : f_Mod_nameNow_J66 M  = some r) : V X yX11_nameNow cX11_nameNow 1 (some .int) (rmD 3 0 0) l (FM (some (.int r)) S0 M 0 0) 66 [some (.ref 103)] [] S0 M 0 0 := by
  unfold f_Mod_nameNow_J66 at h
  refine V.aload_n dX11_nameNow_66 rfl ?_
  refine V.bipush dX11_nameNow_67 bp_7 ?_
  refine V.bipush dX11_nameNow_69 bp_99 ?_
  refine V.bipush dX11_nameNow_71 bp_117 ?_
  refine V.bipush dX11_nameNow_73 bp_114 ?_
  refine V.bipush dX11_nameNow_75 bp_116 ?_
  obtain ⟨v2, hv1, h⟩ := bnd_s h
  refine V.cVi dX11_nameNow_77 rfl mv_RX11_140 (ok_Mod_is hv1) rfl rfl s0_103 rfl (by decide) ⟨Nat.zero_le _, Nat.zero_le _⟩ (Nat.le_of_ble_eq_true rfl) (Nat.zero_le _) ?_
  refine V.if_eq (tgt := 100) dX11_nameNow_80 (by decide) (fun hc3 => ?_) (fun hc3 => ?_)
  · replace h := ite_t hc3 h
    exact okc_Mod_nameNow_100 h
  replace h := ite_f hc3 h
  refine V.aload_n dX11_nameNow_83 rfl ?_
  refine V.iconst dX11_nameNow_84 ic_4 ?_
  refine V.bipush dX11_nameNow_85 bp_97 ?_
  refine V.bipush dX11_nameNow_87 bp_105 ?_
  refine V.bipush dX11_nameNow_89 bp_110 ?_
  obtain ⟨v5, hv4, h⟩ := bnd_s h
  refine V.cVi dX11_nameNow_91 rfl mv_RX11_144 (ok_Mod_ends hv4) rfl rfl s0_103 rfl (by decide) ⟨Nat.zero_le _, Nat.zero_le _⟩ (Nat.le_of_ble_eq_true rfl) (Nat.zero_le _) ?_
  refine V.if_eq (tgt := 100) dX11_nameNow_94 (by decide) (fun hc6 => ?_) (fun hc6 => ?_)
  · replace h := ite_t hc6 h
    exact okc_Mod_nameNow_100 h
  replace h := ite_f hc6 h
  refine V.bipush dX11_nameNow_97 bp_7 ?_
  have e1 := inj1 h
  subst e1
  exact V.iret dX11_nameNow_99 rfl rfl
theorem okc_Mod_nameNow_33 {X : Sc} {l : Launch}   {M : Mem}    {r : Int32} (h : f_Mod_nameNow_J33 M  = some r) : V X yX11_nameNow cX11_nameNow 1 (some .int) (rmD 3 0 0) l (FM (some (.int r)) S0 M 0 0) 33 [some (.ref 103)] [] S0 M 0 0 := by
  unfold f_Mod_nameNow_J33 at h
  refine V.aload_n dX11_nameNow_33 rfl ?_
  refine V.bipush dX11_nameNow_34 bp_6 ?_
  refine V.bipush dX11_nameNow_36 bp_112 ?_
  refine V.bipush dX11_nameNow_38 bp_105 ?_
  refine V.bipush dX11_nameNow_40 bp_108 ?_
  refine V.bipush dX11_nameNow_42 bp_108 ?_
  obtain ⟨v2, hv1, h⟩ := bnd_s h
  refine V.cVi dX11_nameNow_44 rfl mv_RX11_140 (ok_Mod_is hv1) rfl rfl s0_103 rfl (by decide) ⟨Nat.zero_le _, Nat.zero_le _⟩ (Nat.le_of_ble_eq_true rfl) (Nat.zero_le _) ?_
  refine V.if_eq (tgt := 66) dX11_nameNow_47 (by decide) (fun hc3 => ?_) (fun hc3 => ?_)
  · replace h := ite_t hc3 h
    exact okc_Mod_nameNow_66 h
  replace h := ite_f hc3 h
  refine V.aload_n dX11_nameNow_50 rfl ?_
  refine V.iconst dX11_nameNow_51 ic_4 ?_
  refine V.bipush dX11_nameNow_52 bp_97 ?_
  refine V.bipush dX11_nameNow_54 bp_114 ?_
  refine V.iconst dX11_nameNow_56 ic_0 ?_
  obtain ⟨v5, hv4, h⟩ := bnd_s h
  refine V.cVi dX11_nameNow_57 rfl mv_RX11_144 (ok_Mod_ends hv4) rfl rfl s0_103 rfl (by decide) ⟨Nat.zero_le _, Nat.zero_le _⟩ (Nat.le_of_ble_eq_true rfl) (Nat.zero_le _) ?_
  refine V.if_eq (tgt := 66) dX11_nameNow_60 (by decide) (fun hc6 => ?_) (fun hc6 => ?_)
  · replace h := ite_t hc6 h
    exact okc_Mod_nameNow_66 h
  replace h := ite_f hc6 h
  refine V.bipush dX11_nameNow_63 bp_6 ?_
  have e1 := inj1 h
  subst e1
  exact V.iret dX11_nameNow_65 rfl rfl
theorem ok_Mod_nameNow {X : Sc} {l : Launch}  {M : Mem}  {r : Int32}  (h : f_Mod_nameNow M = some r) : Mt X l yX11_nameNow cX11_nameNow 1 (some .int) 3 0 0 [.ref 103] S0 M (some (.int r)) S0 M := by
  refine Mt.ofV (by decide) (Nat.le_of_ble_eq_true rfl) ?_
  show V X yX11_nameNow cX11_nameNow 1 (some .int) (rmD 3 0 0) l (FM (some (.int r)) S0 M 0 0) 0 [some (.ref 103)] [] S0 M 0 0
  unfold f_Mod_nameNow at h
  refine V.aload_n dX11_nameNow_0 rfl ?_
  refine V.iconst dX11_nameNow_1 ic_5 ?_
  refine V.bipush dX11_nameNow_2 bp_98 ?_
  refine V.bipush dX11_nameNow_4 bp_101 ?_
  refine V.bipush dX11_nameNow_6 bp_110 ?_
  refine V.bipush dX11_nameNow_8 bp_99 ?_
  obtain ⟨v2, hv1, h⟩ := bnd_s h
  refine V.cVi dX11_nameNow_10 rfl mv_RX11_140 (ok_Mod_is hv1) rfl rfl s0_103 rfl (by decide) ⟨Nat.zero_le _, Nat.zero_le _⟩ (Nat.le_of_ble_eq_true rfl) (Nat.zero_le _) ?_
  refine V.if_eq (tgt := 33) dX11_nameNow_13 (by decide) (fun hc3 => ?_) (fun hc3 => ?_)
  · replace h := ite_t hc3 h
    exact okc_Mod_nameNow_33 h
  replace h := ite_f hc3 h
  refine V.aload_n dX11_nameNow_16 rfl ?_
  refine V.aload_n dX11_nameNow_17 rfl ?_
  refine V.getI dX11_nameNow_18 fl_RX11_127 s0_103 rfl rfl ?_
  refine V.iconst dX11_nameNow_21 ic_4 ?_
  refine V.iadd dX11_nameNow_22 ?_
  obtain ⟨v5, hv4, h⟩ := bnd_s h
  refine V.cVi dX11_nameNow_23 rfl mv_RX11_136 (ok_Mod_look hv4) rfl rfl s0_103 rfl (by decide) ⟨Nat.zero_le _, Nat.zero_le _⟩ (Nat.le_of_ble_eq_true rfl) (Nat.zero_le _) ?_
  refine V.bipush dX11_nameNow_26 bp_104 ?_
  refine V.icmp_ne (tgt := 33) dX11_nameNow_28 (by decide) (fun hc6 => ?_) (fun hc6 => ?_)
  · replace h := ite_f hc6 h
    exact okc_Mod_nameNow_33 h
  replace h := ite_t hc6 h
  refine V.iconst dX11_nameNow_31 ic_5 ?_
  have e1 := inj1 h
  subst e1
  exact V.iret dX11_nameNow_32 rfl rfl
theorem okc_Mod_kindNow_129 {X : Sc} {l : Launch}   {M : Mem}    {r : Int32} (h : f_Mod_kindNow_J129 M  = some r) : V X yX11_kindNow cX11_kindNow 1 (some .int) (rmD 2 0 0) l (FM (some (.int r)) S0 M 0 0) 129 [some (.ref 103)] [] S0 M 0 0 := by
  unfold f_Mod_kindNow_J129 at h
  refine V.aload_n dX11_kindNow_129 rfl ?_
  refine V.bipush dX11_kindNow_130 bp_9 ?_
  refine V.bipush dX11_kindNow_132 bp_108 ?_
  refine V.bipush dX11_kindNow_134 bp_105 ?_
  refine V.bipush dX11_kindNow_136 bp_115 ?_
  refine V.bipush dX11_kindNow_138 bp_116 ?_
  obtain ⟨v2, hv1, h⟩ := bnd_s h
  refine V.cVi dX11_kindNow_140 rfl mv_RX11_140 (ok_Mod_is hv1) rfl rfl s0_103 rfl (by decide) ⟨Nat.zero_le _, Nat.zero_le _⟩ (Nat.le_of_ble_eq_true rfl) (Nat.zero_le _) ?_
  refine V.if_eq (tgt := 178) dX11_kindNow_143 (by decide) (fun hc3 => ?_) (fun hc3 => ?_)
  · replace h := ite_t hc3 h
    refine V.bipush dX11_kindNow_178 bp_m4 ?_
    have e1 := inj1 h
    subst e1
    exact V.iret dX11_kindNow_180 rfl rfl
  replace h := ite_f hc3 h
  refine V.aload_n dX11_kindNow_146 rfl ?_
  refine V.iconst dX11_kindNow_147 ic_4 ?_
  refine V.bipush dX11_kindNow_148 bp_101 ?_
  refine V.bipush dX11_kindNow_150 bp_110 ?_
  refine V.bipush dX11_kindNow_152 bp_105 ?_
  obtain ⟨v5, hv4, h⟩ := bnd_s h
  refine V.cVi dX11_kindNow_154 rfl mv_RX11_144 (ok_Mod_ends hv4) rfl rfl s0_103 rfl (by decide) ⟨Nat.zero_le _, Nat.zero_le _⟩ (Nat.le_of_ble_eq_true rfl) (Nat.zero_le _) ?_
  refine V.if_eq (tgt := 178) dX11_kindNow_157 (by decide) (fun hc6 => ?_) (fun hc6 => ?_)
  · replace h := ite_t hc6 h
    refine V.bipush dX11_kindNow_178 bp_m4 ?_
    have e1 := inj1 h
    subst e1
    exact V.iret dX11_kindNow_180 rfl rfl
  replace h := ite_f hc6 h
  refine V.aload_n dX11_kindNow_160 rfl ?_
  refine V.bipush dX11_kindNow_161 bp_7 ?_
  refine V.bipush dX11_kindNow_163 bp_110 ?_
  refine V.bipush dX11_kindNow_165 bp_103 ?_
  refine V.iconst dX11_kindNow_167 ic_0 ?_
  obtain ⟨v8, hv7, h⟩ := bnd_s h
  refine V.cVi dX11_kindNow_168 rfl mv_RX11_144 (ok_Mod_ends hv7) rfl rfl s0_103 rfl (by decide) ⟨Nat.zero_le _, Nat.zero_le _⟩ (Nat.le_of_ble_eq_true rfl) (Nat.zero_le _) ?_
  refine V.if_eq (tgt := 178) dX11_kindNow_171 (by decide) (fun hc9 => ?_) (fun hc9 => ?_)
  · replace h := ite_t hc9 h
    refine V.bipush dX11_kindNow_178 bp_m4 ?_
    have e1 := inj1 h
    subst e1
    exact V.iret dX11_kindNow_180 rfl rfl
  replace h := ite_f hc9 h
  refine V.iconst dX11_kindNow_174 ic_4 ?_
  refine V.goto (tgt := 180) dX11_kindNow_175 (by decide) ?_
  have e1 := inj1 h
  subst e1
  exact V.iret dX11_kindNow_180 rfl rfl
theorem okc_Mod_kindNow_97 {X : Sc} {l : Launch}   {M : Mem}    {r : Int32} (h : f_Mod_kindNow_J97 M  = some r) : V X yX11_kindNow cX11_kindNow 1 (some .int) (rmD 2 0 0) l (FM (some (.int r)) S0 M 0 0) 97 [some (.ref 103)] [] S0 M 0 0 := by
  unfold f_Mod_kindNow_J97 at h
  refine V.aload_n dX11_kindNow_97 rfl ?_
  refine V.bipush dX11_kindNow_98 bp_6 ?_
  refine V.bipush dX11_kindNow_100 bp_114 ?_
  refine V.bipush dX11_kindNow_102 bp_97 ?_
  refine V.bipush dX11_kindNow_104 bp_105 ?_
  refine V.bipush dX11_kindNow_106 bp_115 ?_
  obtain ⟨v2, hv1, h⟩ := bnd_s h
  refine V.cVi dX11_kindNow_108 rfl mv_RX11_140 (ok_Mod_is hv1) rfl rfl s0_103 rfl (by decide) ⟨Nat.zero_le _, Nat.zero_le _⟩ (Nat.le_of_ble_eq_true rfl) (Nat.zero_le _) ?_
  refine V.if_eq (tgt := 129) dX11_kindNow_111 (by decide) (fun hc3 => ?_) (fun hc3 => ?_)
  · replace h := ite_t hc3 h
    exact okc_Mod_kindNow_129 h
  replace h := ite_f hc3 h
  refine V.aload_n dX11_kindNow_114 rfl ?_
  refine V.iconst dX11_kindNow_115 ic_4 ?_
  refine V.bipush dX11_kindNow_116 bp_101 ?_
  refine V.bipush dX11_kindNow_118 bp_100 ?_
  refine V.iconst dX11_kindNow_120 ic_0 ?_
  obtain ⟨v5, hv4, h⟩ := bnd_s h
  refine V.cVi dX11_kindNow_121 rfl mv_RX11_144 (ok_Mod_ends hv4) rfl rfl s0_103 rfl (by decide) ⟨Nat.zero_le _, Nat.zero_le _⟩ (Nat.le_of_ble_eq_true rfl) (Nat.zero_le _) ?_
  refine V.if_eq (tgt := 129) dX11_kindNow_124 (by decide) (fun hc6 => ?_) (fun hc6 => ?_)
  · replace h := ite_t hc6 h
    exact okc_Mod_kindNow_129 h
  replace h := ite_f hc6 h
  refine V.iconst dX11_kindNow_127 ic_3 ?_
  have e1 := inj1 h
  subst e1
  exact V.iret dX11_kindNow_128 rfl rfl
theorem okc_Mod_kindNow_65 {X : Sc} {l : Launch}   {M : Mem}    {r : Int32} (h : f_Mod_kindNow_J65 M  = some r) : V X yX11_kindNow cX11_kindNow 1 (some .int) (rmD 2 0 0) l (FM (some (.int r)) S0 M 0 0) 65 [some (.ref 103)] [] S0 M 0 0 := by
  unfold f_Mod_kindNow_J65 at h
  refine V.aload_n dX11_kindNow_65 rfl ?_
  refine V.bipush dX11_kindNow_66 bp_6 ?_
  refine V.bipush dX11_kindNow_68 bp_109 ?_
  refine V.bipush dX11_kindNow_70 bp_111 ?_
  refine V.bipush dX11_kindNow_72 bp_118 ?_
  refine V.bipush dX11_kindNow_74 bp_105 ?_
  obtain ⟨v2, hv1, h⟩ := bnd_s h
  refine V.cVi dX11_kindNow_76 rfl mv_RX11_140 (ok_Mod_is hv1) rfl rfl s0_103 rfl (by decide) ⟨Nat.zero_le _, Nat.zero_le _⟩ (Nat.le_of_ble_eq_true rfl) (Nat.zero_le _) ?_
  refine V.if_eq (tgt := 97) dX11_kindNow_79 (by decide) (fun hc3 => ?_) (fun hc3 => ?_)
  · replace h := ite_t hc3 h
    exact okc_Mod_kindNow_97 h
  replace h := ite_f hc3 h
  refine V.aload_n dX11_kindNow_82 rfl ?_
  refine V.iconst dX11_kindNow_83 ic_4 ?_
  refine V.bipush dX11_kindNow_84 bp_110 ?_
  refine V.bipush dX11_kindNow_86 bp_103 ?_
  refine V.iconst dX11_kindNow_88 ic_0 ?_
  obtain ⟨v5, hv4, h⟩ := bnd_s h
  refine V.cVi dX11_kindNow_89 rfl mv_RX11_144 (ok_Mod_ends hv4) rfl rfl s0_103 rfl (by decide) ⟨Nat.zero_le _, Nat.zero_le _⟩ (Nat.le_of_ble_eq_true rfl) (Nat.zero_le _) ?_
  refine V.if_eq (tgt := 97) dX11_kindNow_92 (by decide) (fun hc6 => ?_) (fun hc6 => ?_)
  · replace h := ite_t hc6 h
    exact okc_Mod_kindNow_97 h
  replace h := ite_f hc6 h
  refine V.iconst dX11_kindNow_95 ic_2 ?_
  have e1 := inj1 h
  subst e1
  exact V.iret dX11_kindNow_96 rfl rfl
theorem okc_Mod_kindNow_33 {X : Sc} {l : Launch}   {M : Mem}    {r : Int32} (h : f_Mod_kindNow_J33 M  = some r) : V X yX11_kindNow cX11_kindNow 1 (some .int) (rmD 2 0 0) l (FM (some (.int r)) S0 M 0 0) 33 [some (.ref 103)] [] S0 M 0 0 := by
  unfold f_Mod_kindNow_J33 at h
  refine V.aload_n dX11_kindNow_33 rfl ?_
  refine V.bipush dX11_kindNow_34 bp_6 ?_
  refine V.bipush dX11_kindNow_36 bp_116 ?_
  refine V.bipush dX11_kindNow_38 bp_117 ?_
  refine V.bipush dX11_kindNow_40 bp_114 ?_
  refine V.bipush dX11_kindNow_42 bp_110 ?_
  obtain ⟨v2, hv1, h⟩ := bnd_s h
  refine V.cVi dX11_kindNow_44 rfl mv_RX11_140 (ok_Mod_is hv1) rfl rfl s0_103 rfl (by decide) ⟨Nat.zero_le _, Nat.zero_le _⟩ (Nat.le_of_ble_eq_true rfl) (Nat.zero_le _) ?_
  refine V.if_eq (tgt := 65) dX11_kindNow_47 (by decide) (fun hc3 => ?_) (fun hc3 => ?_)
  · replace h := ite_t hc3 h
    exact okc_Mod_kindNow_65 h
  replace h := ite_f hc3 h
  refine V.aload_n dX11_kindNow_50 rfl ?_
  refine V.iconst dX11_kindNow_51 ic_4 ?_
  refine V.bipush dX11_kindNow_52 bp_101 ?_
  refine V.bipush dX11_kindNow_54 bp_100 ?_
  refine V.iconst dX11_kindNow_56 ic_0 ?_
  obtain ⟨v5, hv4, h⟩ := bnd_s h
  refine V.cVi dX11_kindNow_57 rfl mv_RX11_144 (ok_Mod_ends hv4) rfl rfl s0_103 rfl (by decide) ⟨Nat.zero_le _, Nat.zero_le _⟩ (Nat.le_of_ble_eq_true rfl) (Nat.zero_le _) ?_
  refine V.if_eq (tgt := 65) dX11_kindNow_60 (by decide) (fun hc6 => ?_) (fun hc6 => ?_)
  · replace h := ite_t hc6 h
    exact okc_Mod_kindNow_65 h
  replace h := ite_f hc6 h
  refine V.iconst dX11_kindNow_63 ic_1 ?_
  have e1 := inj1 h
  subst e1
  exact V.iret dX11_kindNow_64 rfl rfl
theorem ok_Mod_kindNow {X : Sc} {l : Launch}  {M : Mem}  {r : Int32}  (h : f_Mod_kindNow M = some r) : Mt X l yX11_kindNow cX11_kindNow 1 (some .int) 2 0 0 [.ref 103] S0 M (some (.int r)) S0 M := by
  refine Mt.ofV (by decide) (Nat.le_of_ble_eq_true rfl) ?_
  show V X yX11_kindNow cX11_kindNow 1 (some .int) (rmD 2 0 0) l (FM (some (.int r)) S0 M 0 0) 0 [some (.ref 103)] [] S0 M 0 0
  unfold f_Mod_kindNow at h
  refine V.aload_n dX11_kindNow_0 rfl ?_
  refine V.iconst dX11_kindNow_1 ic_5 ?_
  refine V.bipush dX11_kindNow_2 bp_112 ?_
  refine V.bipush dX11_kindNow_4 bp_108 ?_
  refine V.bipush dX11_kindNow_6 bp_97 ?_
  refine V.bipush dX11_kindNow_8 bp_105 ?_
  obtain ⟨v2, hv1, h⟩ := bnd_s h
  refine V.cVi dX11_kindNow_10 rfl mv_RX11_140 (ok_Mod_is hv1) rfl rfl s0_103 rfl (by decide) ⟨Nat.zero_le _, Nat.zero_le _⟩ (Nat.le_of_ble_eq_true rfl) (Nat.zero_le _) ?_
  refine V.if_eq (tgt := 33) dX11_kindNow_13 (by decide) (fun hc3 => ?_) (fun hc3 => ?_)
  · replace h := ite_t hc3 h
    exact okc_Mod_kindNow_33 h
  replace h := ite_f hc3 h
  refine V.aload_n dX11_kindNow_16 rfl ?_
  refine V.aload_n dX11_kindNow_17 rfl ?_
  refine V.getI dX11_kindNow_18 fl_RX11_127 s0_103 rfl rfl ?_
  refine V.iconst dX11_kindNow_21 ic_4 ?_
  refine V.iadd dX11_kindNow_22 ?_
  obtain ⟨v5, hv4, h⟩ := bnd_s h
  refine V.cVi dX11_kindNow_23 rfl mv_RX11_136 (ok_Mod_look hv4) rfl rfl s0_103 rfl (by decide) ⟨Nat.zero_le _, Nat.zero_le _⟩ (Nat.le_of_ble_eq_true rfl) (Nat.zero_le _) ?_
  refine V.bipush dX11_kindNow_26 bp_110 ?_
  refine V.icmp_ne (tgt := 33) dX11_kindNow_28 (by decide) (fun hc6 => ?_) (fun hc6 => ?_)
  · replace h := ite_f hc6 h
    exact okc_Mod_kindNow_33 h
  replace h := ite_t hc6 h
  refine V.iconst dX11_kindNow_31 ic_0 ?_
  have e1 := inj1 h
  subst e1
  exact V.iret dX11_kindNow_32 rfl rfl
theorem okc_Mod_next_260 {X : Sc} {l : Launch}     {s1 : Int32} {M : Mem} {M' : Mem} (h : f_Mod_next_J260  s1 M = some M') : V X yX11_next cX11_next 2 none (rmD 1 0 0) l (FM none S0 M' 0 0) 260 [some (.ref 103), none] [.int s1, .ref 103] S0 M 0 0 := by
  unfold f_Mod_next_J260 at h
  refine V.iconst dX11_next_260 ic_1 ?_
  obtain ⟨M2, hv1, h⟩ := bnd_s h
  refine V.cVv dX11_next_261 rfl mv_RX11_165 (ok_Mod_needs hv1) rfl rfl s0_103 rfl (by decide) ⟨Nat.zero_le _, Nat.zero_le _⟩ (Nat.le_of_ble_eq_true rfl) (Nat.zero_le _) ?_
  refine V.aload_n dX11_next_264 rfl ?_
  refine V.dup dX11_next_265 rfl ?_
  refine V.getI dX11_next_266 fl_RX11_133 s0_103 rfl rfl ?_
  refine V.iconst dX11_next_269 ic_1 ?_
  refine V.iadd dX11_next_270 ?_
  refine V.putI dX11_next_271 fp_RX11_133 s0_103 rfl rfl (fun M3 hM3 => ?_)
  replace h := setM_at h M3 hM3
  have e1 := inj1 h
  subst e1
  exact V.vret dX11_next_274 rfl
theorem okc_Mod_next_236 {X : Sc} {l : Launch}     {s1 : Int32} {M : Mem} {M' : Mem} (h : f_Mod_next_J236  s1 M = some M') : V X yX11_next cX11_next 2 none (rmD 1 0 0) l (FM none S0 M' 0 0) 236 [none, none] [.int s1, .ref 103] S0 M 0 0 := by
  unfold f_Mod_next_J236 at h
  refine V.iconst dX11_next_236 ic_1 ?_
  obtain ⟨M2, hv1, h⟩ := bnd_s h
  refine V.cVv dX11_next_237 rfl mv_RX11_165 (ok_Mod_needs hv1) rfl rfl s0_103 rfl (by decide) ⟨Nat.zero_le _, Nat.zero_le _⟩ (Nat.le_of_ble_eq_true rfl) (Nat.zero_le _) ?_
  refine V.goto (tgt := 274) dX11_next_240 (by decide) ?_
  have e1 := inj1 h
  subst e1
  exact V.vret dX11_next_274 rfl
theorem okc_Mod_next_201 {X : Sc} {l : Launch} {k140 : Mem → Option Mem}  (hk140 : ∀  (M : Mem) (M' : Mem), k140 M = some M' → V X yX11_next cX11_next 2 none (rmD 1 0 0) l (FM none S0 M' 0 0) 140 [some (.ref 103), none] [] S0 M 0 0)  {s1 : Int32} {M : Mem} {M' : Mem} (h : f_Mod_next_J201 k140 s1 M = some M') : V X yX11_next cX11_next 2 none (rmD 1 0 0) l (FM none S0 M' 0 0) 201 [some (.ref 103), none] [.int s1, .ref 103] S0 M 0 0 := by
  unfold f_Mod_next_J201 at h
  refine V.putI dX11_next_201 fp_RX11_162 s0_103 rfl rfl (fun M1 hM1 => ?_)
  replace h := setM_at h M1 hM1
  refine V.aload_n dX11_next_204 rfl ?_
  refine V.dup dX11_next_205 rfl ?_
  refine V.getI dX11_next_206 fl_RX11_133 s0_103 rfl rfl ?_
  refine V.iconst dX11_next_209 ic_1 ?_
  refine V.iadd dX11_next_210 ?_
  refine V.putI dX11_next_211 fp_RX11_133 s0_103 rfl rfl (fun M2 hM2 => ?_)
  replace h := setM_at h M2 hM2
  refine V.goto (tgt := 140) dX11_next_214 (by decide) ?_
  exact hk140 _ _ h
theorem okc_Mod_next_140 {X : Sc} {l : Launch}     : ∀ (n : Nat)  (M : Mem) (M' : Mem), f_Mod_next_L140  n M = some M' → V X yX11_next cX11_next 2 none (rmD 1 0 0) l (FM none S0 M' 0 0) 140 [some (.ref 103), none] [] S0 M 0 0 := by
  intro n
  induction n with
  | zero =>
    intro M M' h
    rw [f_Mod_next_L140] at h
    cases h
  | succ n ih =>
    intro M M' h
    rw [f_Mod_next_L140] at h
    refine V.aload_n dX11_next_140 rfl ?_
    refine V.aload_n dX11_next_141 rfl ?_
    refine V.getI dX11_next_142 fl_RX11_133 s0_103 rfl rfl ?_
    obtain ⟨v2, hv1, h⟩ := bnd_s h
    refine V.cVi dX11_next_145 rfl mv_RX11_136 (ok_Mod_look hv1) rfl rfl s0_103 rfl (by decide) ⟨Nat.zero_le _, Nat.zero_le _⟩ (Nat.le_of_ble_eq_true rfl) (Nat.zero_le _) ?_
    refine V.i2l dX11_next_148 ?_
    refine V.ldc2 dX11_next_149 rfl kc_RX11_158 ?_
    refine V.ldc2 dX11_next_152 rfl kc_RX11_160 ?_
    obtain ⟨v4, hv3, h⟩ := bnd_s h
    refine V.cSi dX11_next_155 rfl mv_RX11_120 (ok_Mod_in hv3) rfl rfl (by decide) ⟨Nat.zero_le _, Nat.zero_le _⟩ (Nat.le_of_ble_eq_true rfl) (Nat.zero_le _) ?_
    refine V.if_eq (tgt := 217) dX11_next_158 (by decide) (fun hc5 => ?_) (fun hc5 => ?_)
    · replace h := ite_t hc5 h
      refine V.aload_n dX11_next_217 rfl ?_
      refine V.aload_n dX11_next_218 rfl ?_
      refine V.getI dX11_next_219 fl_RX11_133 s0_103 rfl rfl ?_
      refine V.aload_n dX11_next_222 rfl ?_
      refine V.getI dX11_next_223 fl_RX11_127 s0_103 rfl rfl ?_
      refine V.isub dX11_next_226 ?_
      refine V.iconst dX11_next_227 ic_3 ?_
      refine V.icmp_gt (tgt := 235) dX11_next_228 (by decide) (fun hc6 => ?_) (fun hc6 => ?_)
      · replace h := ite_t hc6 h
        refine V.iconst dX11_next_235 ic_0 ?_
        refine V.mask [false, false] rfl ?_
        exact okc_Mod_next_236 h
      replace h := ite_f hc6 h
      refine V.iconst dX11_next_231 ic_1 ?_
      refine V.goto (tgt := 236) dX11_next_232 (by decide) ?_
      refine V.mask [false, false] rfl ?_
      exact okc_Mod_next_236 h
    replace h := ite_f hc5 h
    refine V.aload_n dX11_next_161 rfl ?_
    refine V.aload_n dX11_next_162 rfl ?_
    refine V.getI dX11_next_163 fl_RX11_133 s0_103 rfl rfl ?_
    refine V.aload_n dX11_next_166 rfl ?_
    refine V.getI dX11_next_167 fl_RX11_127 s0_103 rfl rfl ?_
    refine V.isub dX11_next_170 ?_
    refine V.iconst dX11_next_171 ic_3 ?_
    refine V.icmp_ge (tgt := 197) dX11_next_172 (by decide) (fun hc7 => ?_) (fun hc7 => ?_)
    · replace h := ite_t hc7 h
      refine V.aload_n dX11_next_197 rfl ?_
      refine V.getI dX11_next_198 fl_RX11_162 s0_103 rfl rfl ?_
      exact okc_Mod_next_201 ih h
    replace h := ite_f hc7 h
    refine V.bipush dX11_next_175 bp_10 ?_
    refine V.aload_n dX11_next_177 rfl ?_
    refine V.getI dX11_next_178 fl_RX11_162 s0_103 rfl rfl ?_
    refine V.imul dX11_next_181 ?_
    refine V.aload_n dX11_next_182 rfl ?_
    refine V.aload_n dX11_next_183 rfl ?_
    refine V.getI dX11_next_184 fl_RX11_133 s0_103 rfl rfl ?_
    obtain ⟨v9, hv8, h⟩ := bnd_s h
    refine V.cVi dX11_next_187 rfl mv_RX11_136 (ok_Mod_look hv8) rfl rfl s0_103 rfl (by decide) ⟨Nat.zero_le _, Nat.zero_le _⟩ (Nat.le_of_ble_eq_true rfl) (Nat.zero_le _) ?_
    refine V.iadd dX11_next_190 ?_
    refine V.bipush dX11_next_191 bp_48 ?_
    refine V.isub dX11_next_193 ?_
    refine V.goto (tgt := 201) dX11_next_194 (by decide) ?_
    exact okc_Mod_next_201 ih h
theorem okc_Mod_next_82 {X : Sc} {l : Launch}     : ∀ (n : Nat)  (M : Mem) (M' : Mem), f_Mod_next_L82  n M = some M' → V X yX11_next cX11_next 2 none (rmD 1 0 0) l (FM none S0 M' 0 0) 82 [some (.ref 103), none] [] S0 M 0 0 := by
  intro n
  induction n with
  | zero =>
    intro M M' h
    rw [f_Mod_next_L82] at h
    cases h
  | succ n ih =>
    intro M M' h
    rw [f_Mod_next_L82] at h
    refine V.aload_n dX11_next_82 rfl ?_
    refine V.aload_n dX11_next_83 rfl ?_
    refine V.getI dX11_next_84 fl_RX11_133 s0_103 rfl rfl ?_
    obtain ⟨v2, hv1, h⟩ := bnd_s h
    refine V.cVi dX11_next_87 rfl mv_RX11_136 (ok_Mod_look hv1) rfl rfl s0_103 rfl (by decide) ⟨Nat.zero_le _, Nat.zero_le _⟩ (Nat.le_of_ble_eq_true rfl) (Nat.zero_le _) ?_
    refine V.i2l dX11_next_90 ?_
    refine V.ldc2 dX11_next_91 rfl kc_RX11_154 ?_
    refine V.ldc2 dX11_next_94 rfl kc_RX11_156 ?_
    obtain ⟨v4, hv3, h⟩ := bnd_s h
    refine V.cSi dX11_next_97 rfl mv_RX11_120 (ok_Mod_in hv3) rfl rfl (by decide) ⟨Nat.zero_le _, Nat.zero_le _⟩ (Nat.le_of_ble_eq_true rfl) (Nat.zero_le _) ?_
    refine V.if_eq (tgt := 274) dX11_next_100 (by decide) (fun hc5 => ?_) (fun hc5 => ?_)
    · replace h := ite_t hc5 h
      have e1 := inj1 h
      subst e1
      exact V.vret dX11_next_274 rfl
    replace h := ite_f hc5 h
    refine V.aload_n dX11_next_103 rfl ?_
    refine V.dup dX11_next_104 rfl ?_
    refine V.getI dX11_next_105 fl_RX11_133 s0_103 rfl rfl ?_
    refine V.iconst dX11_next_108 ic_1 ?_
    refine V.iadd dX11_next_109 ?_
    refine V.putI dX11_next_110 fp_RX11_133 s0_103 rfl rfl (fun M6 hM6 => ?_)
    replace h := setM_at h M6 hM6
    refine V.goto (tgt := 82) dX11_next_113 (by decide) ?_
    exact ih _ _ h
theorem okc_Mod_next_8 {X : Sc} {l : Launch}     : ∀ (n : Nat)  (M : Mem) (M' : Mem), f_Mod_next_L8  n M = some M' → V X yX11_next cX11_next 2 none (rmD 1 0 0) l (FM none S0 M' 0 0) 8 [some (.ref 103), none] [] S0 M 0 0 := by
  intro n
  induction n with
  | zero =>
    intro M M' h
    rw [f_Mod_next_L8] at h
    cases h
  | succ n ih =>
    intro M M' h
    rw [f_Mod_next_L8] at h
    refine V.aload_n dX11_next_8 rfl ?_
    refine V.aload_n dX11_next_9 rfl ?_
    refine V.getI dX11_next_10 fl_RX11_133 s0_103 rfl rfl ?_
    obtain ⟨v2, hv1, h⟩ := bnd_s h
    refine V.cVi dX11_next_13 rfl mv_RX11_136 (ok_Mod_look hv1) rfl rfl s0_103 rfl (by decide) ⟨Nat.zero_le _, Nat.zero_le _⟩ (Nat.le_of_ble_eq_true rfl) (Nat.zero_le _) ?_
    refine V.bipush dX11_next_16 bp_32 ?_
    refine V.icmp_ne (tgt := 34) dX11_next_18 (by decide) (fun hc3 => ?_) (fun hc3 => ?_)
    · replace h := ite_f hc3 h
      refine V.aload_n dX11_next_34 rfl ?_
      refine V.aload_n dX11_next_35 rfl ?_
      refine V.getI dX11_next_36 fl_RX11_133 s0_103 rfl rfl ?_
      refine V.putI dX11_next_39 fp_RX11_127 s0_103 rfl rfl (fun M4 hM4 => ?_)
      replace h := setM_at h M4 hM4
      refine V.aload_n dX11_next_42 rfl ?_
      refine V.aload_n dX11_next_43 rfl ?_
      refine V.getI dX11_next_44 fl_RX11_133 s0_103 rfl rfl ?_
      obtain ⟨v6, hv5, h⟩ := bnd_s h
      refine V.cVi dX11_next_47 rfl mv_RX11_136 (ok_Mod_look hv5) rfl rfl s0_103 rfl (by decide) ⟨Nat.zero_le _, Nat.zero_le _⟩ (Nat.le_of_ble_eq_true rfl) (Nat.zero_le _) ?_
      refine V.istore_n dX11_next_50 (by decide) rfl ?_
      refine V.iload_n dX11_next_51 rfl ?_
      refine V.if_ge (tgt := 63) dX11_next_52 (by decide) (fun hc7 => ?_) (fun hc7 => ?_)
      · replace h := ite_t hc7 h
        refine V.iload_n dX11_next_63 rfl ?_
        refine V.i2l dX11_next_64 ?_
        refine V.ldc2 dX11_next_65 rfl kc_RX11_154 ?_
        refine V.ldc2 dX11_next_68 rfl kc_RX11_156 ?_
        obtain ⟨v9, hv8, h⟩ := bnd_s h
        refine V.cSi dX11_next_71 rfl mv_RX11_120 (ok_Mod_in hv8) rfl rfl (by decide) ⟨Nat.zero_le _, Nat.zero_le _⟩ (Nat.le_of_ble_eq_true rfl) (Nat.zero_le _) ?_
        refine V.if_eq (tgt := 116) dX11_next_74 (by decide) (fun hc10 => ?_) (fun hc10 => ?_)
        · replace h := ite_t hc10 h
          refine V.iload_n dX11_next_116 rfl ?_
          refine V.i2l dX11_next_117 ?_
          refine V.ldc2 dX11_next_118 rfl kc_RX11_158 ?_
          refine V.ldc2 dX11_next_121 rfl kc_RX11_160 ?_
          obtain ⟨v12, hv11, h⟩ := bnd_s h
          refine V.cSi dX11_next_124 rfl mv_RX11_120 (ok_Mod_in hv11) rfl rfl (by decide) ⟨Nat.zero_le _, Nat.zero_le _⟩ (Nat.le_of_ble_eq_true rfl) (Nat.zero_le _) ?_
          refine V.if_eq (tgt := 243) dX11_next_127 (by decide) (fun hc13 => ?_) (fun hc13 => ?_)
          · replace h := ite_t hc13 h
            refine V.aload_n dX11_next_243 rfl ?_
            refine V.iconst dX11_next_244 ic_3 ?_
            refine V.putI dX11_next_245 fp_RX11_151 s0_103 rfl rfl (fun M14 hM14 => ?_)
            replace h := setM_at h M14 hM14
            refine V.aload_n dX11_next_248 rfl ?_
            refine V.iload_n dX11_next_249 rfl ?_
            refine V.bipush dX11_next_250 bp_59 ?_
            refine V.icmp_ne (tgt := 259) dX11_next_252 (by decide) (fun hc15 => ?_) (fun hc15 => ?_)
            · replace h := ite_f hc15 h
              refine V.iconst dX11_next_259 ic_0 ?_
              refine V.mask [true, false] rfl ?_
              exact okc_Mod_next_260 h
            replace h := ite_t hc15 h
            refine V.iconst dX11_next_255 ic_1 ?_
            refine V.goto (tgt := 260) dX11_next_256 (by decide) ?_
            refine V.mask [true, false] rfl ?_
            exact okc_Mod_next_260 h
          replace h := ite_f hc13 h
          refine V.aload_n dX11_next_130 rfl ?_
          refine V.iconst dX11_next_131 ic_2 ?_
          refine V.putI dX11_next_132 fp_RX11_151 s0_103 rfl rfl (fun M16 hM16 => ?_)
          replace h := setM_at h M16 hM16
          refine V.aload_n dX11_next_135 rfl ?_
          refine V.iconst dX11_next_136 ic_0 ?_
          refine V.putI dX11_next_137 fp_RX11_162 s0_103 rfl rfl (fun M17 hM17 => ?_)
          replace h := setM_at h M17 hM17
          refine V.mask [true, false] rfl ?_
          exact okc_Mod_next_140 _ _ _ h
        replace h := ite_f hc10 h
        refine V.aload_n dX11_next_77 rfl ?_
        refine V.iconst dX11_next_78 ic_1 ?_
        refine V.putI dX11_next_79 fp_RX11_151 s0_103 rfl rfl (fun M18 hM18 => ?_)
        replace h := setM_at h M18 hM18
        refine V.mask [true, false] rfl ?_
        exact okc_Mod_next_82 _ _ _ h
      replace h := ite_f hc7 h
      refine V.aload_n dX11_next_55 rfl ?_
      refine V.iconst dX11_next_56 ic_0 ?_
      refine V.putI dX11_next_57 fp_RX11_151 s0_103 rfl rfl (fun M19 hM19 => ?_)
      replace h := setM_at h M19 hM19
      refine V.goto (tgt := 274) dX11_next_60 (by decide) ?_
      have e1 := inj1 h
      subst e1
      exact V.vret dX11_next_274 rfl
    replace h := ite_t hc3 h
    refine V.aload_n dX11_next_21 rfl ?_
    refine V.dup dX11_next_22 rfl ?_
    refine V.getI dX11_next_23 fl_RX11_133 s0_103 rfl rfl ?_
    refine V.iconst dX11_next_26 ic_1 ?_
    refine V.iadd dX11_next_27 ?_
    refine V.putI dX11_next_28 fp_RX11_133 s0_103 rfl rfl (fun M20 hM20 => ?_)
    replace h := setM_at h M20 hM20
    refine V.goto (tgt := 8) dX11_next_31 (by decide) ?_
    exact ih _ _ h
theorem ok_Mod_next {X : Sc} {l : Launch}  {M : Mem}  {M' : Mem}  (h : f_Mod_next M = some M') : Mt X l yX11_next cX11_next 2 none 1 0 0 [.ref 103] S0 M none S0 M' := by
  refine Mt.ofV (by decide) (Nat.le_of_ble_eq_true rfl) ?_
  show V X yX11_next cX11_next 2 none (rmD 1 0 0) l (FM none S0 M' 0 0) 0 [some (.ref 103), none] [] S0 M 0 0
  unfold f_Mod_next at h
  refine V.aload_n dX11_next_0 rfl ?_
  refine V.getI dX11_next_1 fl_RX11_124 s0_103 rfl rfl ?_
  refine V.if_le (tgt := 8) dX11_next_4 (by decide) (fun hc1 => ?_) (fun hc1 => ?_)
  · replace h := ite_t hc1 h
    exact okc_Mod_next_8 _ _ _ h
  replace h := ite_f hc1 h
  have e1 := inj1 h
  subst e1
  exact V.vret dX11_next_7 rfl
theorem okc_Mod_looked_49 {X : Sc} {l : Launch}      {M : Mem} {r : Int32} {M' : Mem} (h : f_Mod_looked_J49  M = some (r, M')) : V X yX11_looked cX11_looked 3 (some .int) (rmD 1 0 0) l (FM (some (.int r)) S0 M' 0 0) 49 [some (.ref 103), none, none] [] S0 M 0 0 := by
  unfold f_Mod_looked_J49 at h
  refine V.aload_n dX11_looked_49 rfl ?_
  refine V.getI dX11_looked_50 fl_RX11_124 s0_103 rfl rfl ?_
  refine V.if_ne (tgt := 63) dX11_looked_53 (by decide) (fun hc1 => ?_) (fun hc1 => ?_)
  · replace h := ite_f hc1 h
    refine V.iconst dX11_looked_63 ic_0 ?_
    obtain ⟨e1, e2⟩ := inj2 h
    subst e1
    subst e2
    exact V.iret dX11_looked_64 rfl rfl
  replace h := ite_t hc1 h
  refine V.aload_n dX11_looked_56 rfl ?_
  refine V.getI dX11_looked_57 fl_RX11_162 s0_103 rfl rfl ?_
  refine V.goto (tgt := 64) dX11_looked_60 (by decide) ?_
  obtain ⟨e1, e2⟩ := inj2 h
  subst e1
  subst e2
  exact V.iret dX11_looked_64 rfl rfl
theorem okc_Mod_looked_25 {X : Sc} {l : Launch}     {x1 : Int32} {x2 : Int32} {M : Mem} {r : Int32} {M' : Mem} (h : f_Mod_looked_J25  x1 x2 M = some (r, M')) : V X yX11_looked cX11_looked 3 (some .int) (rmD 1 0 0) l (FM (some (.int r)) S0 M' 0 0) 25 [some (.ref 103), some (.int x1), some (.int x2)] [] S0 M 0 0 := by
  unfold f_Mod_looked_J25 at h
  refine V.aload_n dX11_looked_25 rfl ?_
  refine V.getI dX11_looked_26 fl_RX11_124 s0_103 rfl rfl ?_
  refine V.if_ne (tgt := 49) dX11_looked_29 (by decide) (fun hc1 => ?_) (fun hc1 => ?_)
  · replace h := ite_f hc1 h
    refine V.mask [true, false, false] rfl ?_
    exact okc_Mod_looked_49 h
  replace h := ite_t hc1 h
  refine V.aload_n dX11_looked_32 rfl ?_
  refine V.aload_n dX11_looked_33 rfl ?_
  refine V.getI dX11_looked_34 fl_RX11_162 s0_103 rfl rfl ?_
  refine V.i2l dX11_looked_37 ?_
  refine V.iload_n dX11_looked_38 rfl ?_
  refine V.i2l dX11_looked_39 ?_
  refine V.iload_n dX11_looked_40 rfl ?_
  refine V.i2l dX11_looked_41 ?_
  obtain ⟨v3, hv2, h⟩ := bnd_s h
  refine V.cSi dX11_looked_42 rfl mv_RX11_120 (ok_Mod_in hv2) rfl rfl (by decide) ⟨Nat.zero_le _, Nat.zero_le _⟩ (Nat.le_of_ble_eq_true rfl) (Nat.zero_le _) ?_
  refine V.iconst dX11_looked_45 ic_3 ?_
  obtain ⟨M5, hv4, h⟩ := bnd_s h
  refine V.cVv dX11_looked_46 rfl mv_RX11_165 (ok_Mod_needs hv4) rfl rfl s0_103 rfl (by decide) ⟨Nat.zero_le _, Nat.zero_le _⟩ (Nat.le_of_ble_eq_true rfl) (Nat.zero_le _) ?_
  refine V.mask [true, false, false] rfl ?_
  exact okc_Mod_looked_49 h
theorem okc_Mod_looked_21 {X : Sc} {l : Launch}     {x1 : Int32} {x2 : Int32} {s1 : Int32} {M : Mem} {r : Int32} {M' : Mem} (h : f_Mod_looked_J21  x1 x2 s1 M = some (r, M')) : V X yX11_looked cX11_looked 3 (some .int) (rmD 1 0 0) l (FM (some (.int r)) S0 M' 0 0) 21 [some (.ref 103), some (.int x1), some (.int x2)] [.int s1, .ref 103] S0 M 0 0 := by
  unfold f_Mod_looked_J21 at h
  refine V.iconst dX11_looked_21 ic_2 ?_
  obtain ⟨M2, hv1, h⟩ := bnd_s h
  refine V.cVv dX11_looked_22 rfl mv_RX11_165 (ok_Mod_needs hv1) rfl rfl s0_103 rfl (by decide) ⟨Nat.zero_le _, Nat.zero_le _⟩ (Nat.le_of_ble_eq_true rfl) (Nat.zero_le _) ?_
  exact okc_Mod_looked_25 h
theorem ok_Mod_looked {X : Sc} {l : Launch}  {M : Mem} {x1 : Int32} {x2 : Int32} {r : Int32} {M' : Mem}  (h : f_Mod_looked x1 x2 M = some (r, M')) : Mt X l yX11_looked cX11_looked 3 (some .int) 1 0 0 [.ref 103, .int x1, .int x2] S0 M (some (.int r)) S0 M' := by
  refine Mt.ofV (by decide) (Nat.le_of_ble_eq_true rfl) ?_
  show V X yX11_looked cX11_looked 3 (some .int) (rmD 1 0 0) l (FM (some (.int r)) S0 M' 0 0) 0 [some (.ref 103), some (.int x1), some (.int x2)] [] S0 M 0 0
  unfold f_Mod_looked at h
  refine V.aload_n dX11_looked_0 rfl ?_
  refine V.getI dX11_looked_1 fl_RX11_124 s0_103 rfl rfl ?_
  refine V.if_ne (tgt := 25) dX11_looked_4 (by decide) (fun hc1 => ?_) (fun hc1 => ?_)
  · replace h := ite_f hc1 h
    exact okc_Mod_looked_25 h
  replace h := ite_t hc1 h
  refine V.aload_n dX11_looked_7 rfl ?_
  refine V.aload_n dX11_looked_8 rfl ?_
  refine V.getI dX11_looked_9 fl_RX11_151 s0_103 rfl rfl ?_
  refine V.iconst dX11_looked_12 ic_2 ?_
  refine V.icmp_ne (tgt := 20) dX11_looked_13 (by decide) (fun hc2 => ?_) (fun hc2 => ?_)
  · replace h := ite_f hc2 h
    refine V.iconst dX11_looked_20 ic_0 ?_
    exact okc_Mod_looked_21 h
  replace h := ite_t hc2 h
  refine V.iconst dX11_looked_16 ic_1 ?_
  refine V.goto (tgt := 21) dX11_looked_17 (by decide) ?_
  exact okc_Mod_looked_21 h
theorem ok_Mod_readNumber {X : Sc} {l : Launch}  {M : Mem} {x1 : Int32} {x2 : Int32} {r : Int32} {M' : Mem}  (h : f_Mod_readNumber x1 x2 M = some (r, M')) : Mt X l yX11_readNumber cX11_readNumber 4 (some .int) 2 0 0 [.ref 103, .int x1, .int x2] S0 M (some (.int r)) S0 M' := by
  refine Mt.ofV (by decide) (Nat.le_of_ble_eq_true rfl) ?_
  show V X yX11_readNumber cX11_readNumber 4 (some .int) (rmD 2 0 0) l (FM (some (.int r)) S0 M' 0 0) 0 [some (.ref 103), some (.int x1), some (.int x2), none] [] S0 M 0 0
  unfold f_Mod_readNumber at h
  refine V.aload_n dX11_readNumber_0 rfl ?_
  refine V.iload_n dX11_readNumber_1 rfl ?_
  refine V.iload_n dX11_readNumber_2 rfl ?_
  obtain ⟨v2, M3, hv1, h⟩ := bnd2_s h
  refine V.cVi dX11_readNumber_3 rfl mv_RX11_169 (ok_Mod_looked hv1) rfl rfl s0_103 rfl (by decide) ⟨Nat.zero_le _, Nat.zero_le _⟩ (Nat.le_of_ble_eq_true rfl) (Nat.zero_le _) ?_
  refine V.istore_n dX11_readNumber_6 (by decide) rfl ?_
  refine V.aload_n dX11_readNumber_7 rfl ?_
  obtain ⟨M5, hv4, h⟩ := bnd_s h
  refine V.cVv dX11_readNumber_8 rfl mv_RX11_173 (ok_Mod_next hv4) rfl rfl s0_103 rfl (by decide) ⟨Nat.zero_le _, Nat.zero_le _⟩ (Nat.le_of_ble_eq_true rfl) (Nat.zero_le _) ?_
  refine V.iload_n dX11_readNumber_11 rfl ?_
  obtain ⟨e1, e2⟩ := inj2 h
  subst e1
  subst e2
  exact V.iret dX11_readNumber_12 rfl rfl
theorem okc_Mod_readCell_92 {X : Sc} {l : Launch}     {x2 : Int32} {x3 : Int32} {s1 : Int32} {M : Mem} {r : Int32} {M' : Mem} (h : f_Mod_readCell_J92  x2 x3 s1 M = some (r, M')) : V X yX11_readCell cX11_readCell 4 (some .int) (rmD 3 0 0) l (FM (some (.int r)) S0 M' 0 0) 92 [none, none, some (.int x2), some (.int x3)] [.int s1, .ref 103] S0 M 0 0 := by
  unfold f_Mod_readCell_J92 at h
  refine V.putI dX11_readCell_92 fp_RX11_84 s0_103 rfl rfl (fun M1 hM1 => ?_)
  replace h := setM_at h M1 hM1
  refine V.bipush dX11_readCell_95 bp_9 ?_
  refine V.iload_n dX11_readCell_97 rfl ?_
  refine V.imul dX11_readCell_98 ?_
  refine V.iload_n dX11_readCell_99 rfl ?_
  refine V.iadd dX11_readCell_100 ?_
  obtain ⟨e1, e2⟩ := inj2 h
  subst e1
  subst e2
  exact V.iret dX11_readCell_101 rfl rfl
theorem okc_Mod_readCell_72 {X : Sc} {l : Launch}     {x2 : Int32} {x3 : Int32} {s1 : Int32} {M : Mem} {r : Int32} {M' : Mem} (h : f_Mod_readCell_J72  x2 x3 s1 M = some (r, M')) : V X yX11_readCell cX11_readCell 4 (some .int) (rmD 3 0 0) l (FM (some (.int r)) S0 M' 0 0) 72 [some (.ref 103), none, some (.int x2), some (.int x3)] [.int s1, .ref 103] S0 M 0 0 := by
  unfold f_Mod_readCell_J72 at h
  refine V.putI dX11_readCell_72 fp_RX11_81 s0_103 rfl rfl (fun M1 hM1 => ?_)
  replace h := setM_at h M1 hM1
  refine V.aload_n dX11_readCell_75 rfl ?_
  refine V.iload_n dX11_readCell_76 rfl ?_
  refine V.aload_n dX11_readCell_77 rfl ?_
  refine V.getI dX11_readCell_78 fl_RX11_84 s0_103 rfl rfl ?_
  refine V.icmp_le (tgt := 88) dX11_readCell_81 (by decide) (fun hc2 => ?_) (fun hc2 => ?_)
  · replace h := ite_t hc2 h
    refine V.aload_n dX11_readCell_88 rfl ?_
    refine V.getI dX11_readCell_89 fl_RX11_84 s0_103 rfl rfl ?_
    refine V.mask [false, false, true, true] rfl ?_
    exact okc_Mod_readCell_92 h
  replace h := ite_f hc2 h
  refine V.iload_n dX11_readCell_84 rfl ?_
  refine V.goto (tgt := 92) dX11_readCell_85 (by decide) ?_
  refine V.mask [false, false, true, true] rfl ?_
  exact okc_Mod_readCell_92 h
theorem okc_Mod_readCell_51 {X : Sc} {l : Launch}     {x2 : Int32} {x3 : Int32} {M : Mem} {r : Int32} {M' : Mem} (h : f_Mod_readCell_J51  x2 x3 M = some (r, M')) : V X yX11_readCell cX11_readCell 4 (some .int) (rmD 3 0 0) l (FM (some (.int r)) S0 M' 0 0) 51 [some (.ref 103), none, some (.int x2), some (.int x3)] [] S0 M 0 0 := by
  unfold f_Mod_readCell_J51 at h
  refine V.aload_n dX11_readCell_51 rfl ?_
  obtain ⟨M2, hv1, h⟩ := bnd_s h
  refine V.cVv dX11_readCell_52 rfl mv_RX11_173 (ok_Mod_next hv1) rfl rfl s0_103 rfl (by decide) ⟨Nat.zero_le _, Nat.zero_le _⟩ (Nat.le_of_ble_eq_true rfl) (Nat.zero_le _) ?_
  refine V.aload_n dX11_readCell_55 rfl ?_
  refine V.iload_n dX11_readCell_56 rfl ?_
  refine V.aload_n dX11_readCell_57 rfl ?_
  refine V.getI dX11_readCell_58 fl_RX11_81 s0_103 rfl rfl ?_
  refine V.icmp_le (tgt := 68) dX11_readCell_61 (by decide) (fun hc3 => ?_) (fun hc3 => ?_)
  · replace h := ite_t hc3 h
    refine V.aload_n dX11_readCell_68 rfl ?_
    refine V.getI dX11_readCell_69 fl_RX11_81 s0_103 rfl rfl ?_
    exact okc_Mod_readCell_72 h
  replace h := ite_f hc3 h
  refine V.iload_n dX11_readCell_64 rfl ?_
  refine V.goto (tgt := 72) dX11_readCell_65 (by decide) ?_
  exact okc_Mod_readCell_72 h
theorem okc_Mod_readCell_47 {X : Sc} {l : Launch}     {x2 : Int32} {x3 : Int32} {s1 : Int32} {M : Mem} {r : Int32} {M' : Mem} (h : f_Mod_readCell_J47  x2 x3 s1 M = some (r, M')) : V X yX11_readCell cX11_readCell 4 (some .int) (rmD 3 0 0) l (FM (some (.int r)) S0 M' 0 0) 47 [some (.ref 103), none, some (.int x2), some (.int x3)] [.int s1, .ref 103] S0 M 0 0 := by
  unfold f_Mod_readCell_J47 at h
  refine V.iconst dX11_readCell_47 ic_4 ?_
  obtain ⟨M2, hv1, h⟩ := bnd_s h
  refine V.cVv dX11_readCell_48 rfl mv_RX11_165 (ok_Mod_needs hv1) rfl rfl s0_103 rfl (by decide) ⟨Nat.zero_le _, Nat.zero_le _⟩ (Nat.le_of_ble_eq_true rfl) (Nat.zero_le _) ?_
  exact okc_Mod_readCell_51 h
theorem ok_Mod_readCell {X : Sc} {l : Launch}  {M : Mem} {x1 : Int32} {r : Int32} {M' : Mem}  (h : f_Mod_readCell x1 M = some (r, M')) : Mt X l yX11_readCell cX11_readCell 4 (some .int) 3 0 0 [.ref 103, .int x1] S0 M (some (.int r)) S0 M' := by
  refine Mt.ofV (by decide) (Nat.le_of_ble_eq_true rfl) ?_
  show V X yX11_readCell cX11_readCell 4 (some .int) (rmD 3 0 0) l (FM (some (.int r)) S0 M' 0 0) 0 [some (.ref 103), some (.int x1), none, none] [] S0 M 0 0
  unfold f_Mod_readCell at h
  refine V.aload_n dX11_readCell_0 rfl ?_
  refine V.iconst dX11_readCell_1 ic_0 ?_
  refine V.bipush dX11_readCell_2 bp_8 ?_
  obtain ⟨v2, M3, hv1, h⟩ := bnd2_s h
  refine V.cVi dX11_readCell_4 rfl mv_RX11_176 (ok_Mod_readNumber hv1) rfl rfl s0_103 rfl (by decide) ⟨Nat.zero_le _, Nat.zero_le _⟩ (Nat.le_of_ble_eq_true rfl) (Nat.zero_le _) ?_
  refine V.istore_n dX11_readCell_7 (by decide) rfl ?_
  refine V.aload_n dX11_readCell_8 rfl ?_
  refine V.iconst dX11_readCell_9 ic_0 ?_
  refine V.bipush dX11_readCell_10 bp_8 ?_
  obtain ⟨v5, M6, hv4, h⟩ := bnd2_s h
  refine V.cVi dX11_readCell_12 rfl mv_RX11_169 (ok_Mod_looked hv4) rfl rfl s0_103 rfl (by decide) ⟨Nat.zero_le _, Nat.zero_le _⟩ (Nat.le_of_ble_eq_true rfl) (Nat.zero_le _) ?_
  refine V.istore_n dX11_readCell_15 (by decide) rfl ?_
  refine V.aload_n dX11_readCell_16 rfl ?_
  refine V.getI dX11_readCell_17 fl_RX11_124 s0_103 rfl rfl ?_
  refine V.if_ne (tgt := 51) dX11_readCell_20 (by decide) (fun hc7 => ?_) (fun hc7 => ?_)
  · replace h := ite_f hc7 h
    refine V.mask [true, false, true, true] rfl ?_
    exact okc_Mod_readCell_51 h
  replace h := ite_t hc7 h
  refine V.iload_n dX11_readCell_23 rfl ?_
  refine V.if_eq (tgt := 51) dX11_readCell_24 (by decide) (fun hc8 => ?_) (fun hc8 => ?_)
  · replace h := ite_t hc8 h
    refine V.mask [true, false, true, true] rfl ?_
    exact okc_Mod_readCell_51 h
  replace h := ite_f hc8 h
  refine V.aload_n dX11_readCell_27 rfl ?_
  refine V.aload_n dX11_readCell_28 rfl ?_
  refine V.getR dX11_readCell_29 fl_RX11_23 s0_103 rfl rfl ?_
  refine V.bipush dX11_readCell_32 bp_9 ?_
  refine V.iload_n dX11_readCell_34 rfl ?_
  refine V.imul dX11_readCell_35 ?_
  refine V.iload_n dX11_readCell_36 rfl ?_
  refine V.iadd dX11_readCell_37 ?_
  obtain ⟨hb9, h⟩ := ck_s h
  refine V.iald dX11_readCell_38 s0_108 rfl (vp_of hb9) ?_
  refine V.if_ne (tgt := 46) dX11_readCell_39 (by decide) (fun hc10 => ?_) (fun hc10 => ?_)
  · replace h := ite_f hc10 h
    refine V.iconst dX11_readCell_46 ic_0 ?_
    refine V.mask [true, false, true, true] rfl ?_
    exact okc_Mod_readCell_47 h
  replace h := ite_t hc10 h
  refine V.iconst dX11_readCell_42 ic_1 ?_
  refine V.goto (tgt := 47) dX11_readCell_43 (by decide) ?_
  refine V.mask [true, false, true, true] rfl ?_
  exact okc_Mod_readCell_47 h
theorem okc_Mod_readOne_50 {X : Sc} {l : Launch}     {x2 : Int32} {s1 : Int32} {M : Mem} {r : Int32} {M' : Mem} (h : f_Mod_readOne_J50  x2 s1 M = some (r, M')) : V X yX11_readOne cX11_readOne 3 (some .int) (rmD 2 0 0) l (FM (some (.int r)) S0 M' 0 0) 50 [none, none, some (.int x2)] [.int s1, .ref 103] S0 M 0 0 := by
  unfold f_Mod_readOne_J50 at h
  refine V.putI dX11_readOne_50 fp_RX11_78 s0_103 rfl rfl (fun M1 hM1 => ?_)
  replace h := setM_at h M1 hM1
  refine V.iload_n dX11_readOne_53 rfl ?_
  obtain ⟨e1, e2⟩ := inj2 h
  subst e1
  subst e2
  exact V.iret dX11_readOne_54 rfl rfl
theorem okc_Mod_readOne_29 {X : Sc} {l : Launch}     {x2 : Int32} {M : Mem} {r : Int32} {M' : Mem} (h : f_Mod_readOne_J29  x2 M = some (r, M')) : V X yX11_readOne cX11_readOne 3 (some .int) (rmD 2 0 0) l (FM (some (.int r)) S0 M' 0 0) 29 [some (.ref 103), none, some (.int x2)] [] S0 M 0 0 := by
  unfold f_Mod_readOne_J29 at h
  refine V.aload_n dX11_readOne_29 rfl ?_
  obtain ⟨M2, hv1, h⟩ := bnd_s h
  refine V.cVv dX11_readOne_30 rfl mv_RX11_173 (ok_Mod_next hv1) rfl rfl s0_103 rfl (by decide) ⟨Nat.zero_le _, Nat.zero_le _⟩ (Nat.le_of_ble_eq_true rfl) (Nat.zero_le _) ?_
  refine V.aload_n dX11_readOne_33 rfl ?_
  refine V.iload_n dX11_readOne_34 rfl ?_
  refine V.aload_n dX11_readOne_35 rfl ?_
  refine V.getI dX11_readOne_36 fl_RX11_78 s0_103 rfl rfl ?_
  refine V.icmp_le (tgt := 46) dX11_readOne_39 (by decide) (fun hc3 => ?_) (fun hc3 => ?_)
  · replace h := ite_t hc3 h
    refine V.aload_n dX11_readOne_46 rfl ?_
    refine V.getI dX11_readOne_47 fl_RX11_78 s0_103 rfl rfl ?_
    refine V.mask [false, false, true] rfl ?_
    exact okc_Mod_readOne_50 h
  replace h := ite_f hc3 h
  refine V.iload_n dX11_readOne_42 rfl ?_
  refine V.goto (tgt := 50) dX11_readOne_43 (by decide) ?_
  refine V.mask [false, false, true] rfl ?_
  exact okc_Mod_readOne_50 h
theorem okc_Mod_readOne_25 {X : Sc} {l : Launch}     {x2 : Int32} {s1 : Int32} {M : Mem} {r : Int32} {M' : Mem} (h : f_Mod_readOne_J25  x2 s1 M = some (r, M')) : V X yX11_readOne cX11_readOne 3 (some .int) (rmD 2 0 0) l (FM (some (.int r)) S0 M' 0 0) 25 [some (.ref 103), none, some (.int x2)] [.int s1, .ref 103] S0 M 0 0 := by
  unfold f_Mod_readOne_J25 at h
  refine V.iconst dX11_readOne_25 ic_4 ?_
  obtain ⟨M2, hv1, h⟩ := bnd_s h
  refine V.cVv dX11_readOne_26 rfl mv_RX11_165 (ok_Mod_needs hv1) rfl rfl s0_103 rfl (by decide) ⟨Nat.zero_le _, Nat.zero_le _⟩ (Nat.le_of_ble_eq_true rfl) (Nat.zero_le _) ?_
  exact okc_Mod_readOne_29 h
theorem ok_Mod_readOne {X : Sc} {l : Launch}  {M : Mem} {x1 : Int32} {r : Int32} {M' : Mem}  (h : f_Mod_readOne x1 M = some (r, M')) : Mt X l yX11_readOne cX11_readOne 3 (some .int) 2 0 0 [.ref 103, .int x1] S0 M (some (.int r)) S0 M' := by
  refine Mt.ofV (by decide) (Nat.le_of_ble_eq_true rfl) ?_
  show V X yX11_readOne cX11_readOne 3 (some .int) (rmD 2 0 0) l (FM (some (.int r)) S0 M' 0 0) 0 [some (.ref 103), some (.int x1), none] [] S0 M 0 0
  unfold f_Mod_readOne at h
  refine V.aload_n dX11_readOne_0 rfl ?_
  refine V.iconst dX11_readOne_1 ic_0 ?_
  refine V.iconst dX11_readOne_2 ic_5 ?_
  obtain ⟨v2, M3, hv1, h⟩ := bnd2_s h
  refine V.cVi dX11_readOne_3 rfl mv_RX11_169 (ok_Mod_looked hv1) rfl rfl s0_103 rfl (by decide) ⟨Nat.zero_le _, Nat.zero_le _⟩ (Nat.le_of_ble_eq_true rfl) (Nat.zero_le _) ?_
  refine V.istore_n dX11_readOne_6 (by decide) rfl ?_
  refine V.aload_n dX11_readOne_7 rfl ?_
  refine V.getI dX11_readOne_8 fl_RX11_124 s0_103 rfl rfl ?_
  refine V.if_ne (tgt := 29) dX11_readOne_11 (by decide) (fun hc4 => ?_) (fun hc4 => ?_)
  · replace h := ite_f hc4 h
    refine V.mask [true, false, true] rfl ?_
    exact okc_Mod_readOne_29 h
  replace h := ite_t hc4 h
  refine V.aload_n dX11_readOne_14 rfl ?_
  refine V.iload_n dX11_readOne_15 rfl ?_
  refine V.iload_n dX11_readOne_16 rfl ?_
  refine V.icmp_eq (tgt := 24) dX11_readOne_17 (by decide) (fun hc5 => ?_) (fun hc5 => ?_)
  · replace h := ite_t hc5 h
    refine V.iconst dX11_readOne_24 ic_0 ?_
    refine V.mask [true, false, true] rfl ?_
    exact okc_Mod_readOne_25 h
  replace h := ite_f hc5 h
  refine V.iconst dX11_readOne_20 ic_1 ?_
  refine V.goto (tgt := 25) dX11_readOne_21 (by decide) ?_
  refine V.mask [true, false, true] rfl ?_
  exact okc_Mod_readOne_25 h
theorem okc_Mod_readBench_106 {X : Sc} {l : Launch}      {M : Mem} {M' : Mem} (h : f_Mod_readBench_J106  M = some M') : V X yX11_readBench cX11_readBench 3 none (rmD 4 0 0) l (FM none S0 M' 0 0) 106 [some (.ref 103), none, none] [] S0 M 0 0 := by
  unfold f_Mod_readBench_J106 at h
  refine V.aload_n dX11_readBench_106 rfl ?_
  refine V.dup dX11_readBench_107 rfl ?_
  refine V.getI dX11_readBench_108 fl_RX11_71 s0_103 rfl rfl ?_
  refine V.iconst dX11_readBench_111 ic_1 ?_
  refine V.iadd dX11_readBench_112 ?_
  refine V.putI dX11_readBench_113 fp_RX11_71 s0_103 rfl rfl (fun M1 hM1 => ?_)
  replace h := setM_at h M1 hM1
  have e1 := inj1 h
  subst e1
  exact V.vret dX11_readBench_116 rfl
theorem okc_Mod_readBench_89 {X : Sc} {l : Launch}     {x1 : Int32} {x2 : Int32} {s1 : Int32} {M : Mem} {M' : Mem} (h : f_Mod_readBench_J89  x1 x2 s1 M = some M') : V X yX11_readBench cX11_readBench 3 none (rmD 4 0 0) l (FM none S0 M' 0 0) 89 [some (.ref 103), some (.int x1), some (.int x2)] [.int s1, .ref 103] S0 M 0 0 := by
  unfold f_Mod_readBench_J89 at h
  refine V.iconst dX11_readBench_89 ic_2 ?_
  obtain ⟨M2, hv1, h⟩ := bnd_s h
  refine V.cVv dX11_readBench_90 rfl mv_RX11_165 (ok_Mod_needs hv1) rfl rfl s0_103 rfl (by decide) ⟨Nat.zero_le _, Nat.zero_le _⟩ (Nat.le_of_ble_eq_true rfl) (Nat.zero_le _) ?_
  refine V.aload_n dX11_readBench_93 rfl ?_
  refine V.getR dX11_readBench_94 fl_RX11_26 s0_103 rfl rfl ?_
  refine V.iload_n dX11_readBench_97 rfl ?_
  refine V.iconst dX11_readBench_98 ic_3 ?_
  refine V.iadd dX11_readBench_99 ?_
  refine V.iload_n dX11_readBench_100 rfl ?_
  obtain ⟨hb3, h⟩ := ck_s h
  refine V.iast dX11_readBench_101 s0_109 rfl (vp_of hb3) (fun M4 hM4 => ?_)
  replace h := setM_at h M4 hM4
  refine V.aload_n dX11_readBench_102 rfl ?_
  obtain ⟨M6, hv5, h⟩ := bnd_s h
  refine V.cVv dX11_readBench_103 rfl mv_RX11_173 (ok_Mod_next hv5) rfl rfl s0_103 rfl (by decide) ⟨Nat.zero_le _, Nat.zero_le _⟩ (Nat.le_of_ble_eq_true rfl) (Nat.zero_le _) ?_
  refine V.mask [true, false, false] rfl ?_
  exact okc_Mod_readBench_106 h
theorem ok_Mod_readBench {X : Sc} {l : Launch}  {M : Mem}  {M' : Mem}  (h : f_Mod_readBench M = some M') : Mt X l yX11_readBench cX11_readBench 3 none 4 0 0 [.ref 103] S0 M none S0 M' := by
  refine Mt.ofV (by decide) (Nat.le_of_ble_eq_true rfl) ?_
  show V X yX11_readBench cX11_readBench 3 none (rmD 4 0 0) l (FM none S0 M' 0 0) 0 [some (.ref 103), none, none] [] S0 M 0 0
  unfold f_Mod_readBench at h
  refine V.iconst dX11_readBench_0 ic_4 ?_
  refine V.aload_n dX11_readBench_1 rfl ?_
  refine V.getI dX11_readBench_2 fl_RX11_71 s0_103 rfl rfl ?_
  refine V.imul dX11_readBench_5 ?_
  refine V.nmI (fun w1 hw1 => ?_)
  replace h := nmI_at h w1 hw1
  refine V.istore_n dX11_readBench_6 (by decide) rfl ?_
  refine V.aload_n dX11_readBench_7 rfl ?_
  refine V.getR dX11_readBench_8 fl_RX11_26 s0_103 rfl rfl ?_
  refine V.iload_n dX11_readBench_11 rfl ?_
  refine V.aload_n dX11_readBench_12 rfl ?_
  refine V.iconst dX11_readBench_13 ic_0 ?_
  obtain ⟨v3, M4, hv2, h⟩ := bnd2_s h
  refine V.cVi dX11_readBench_14 rfl mv_RX11_179 (ok_Mod_readCell hv2) rfl rfl s0_103 rfl (by decide) ⟨Nat.zero_le _, Nat.zero_le _⟩ (Nat.le_of_ble_eq_true rfl) (Nat.zero_le _) ?_
  obtain ⟨hb5, h⟩ := ck_s h
  refine V.iast dX11_readBench_17 s0_109 rfl (vp_of hb5) (fun M6 hM6 => ?_)
  replace h := setM_at h M6 hM6
  refine V.aload_n dX11_readBench_18 rfl ?_
  refine V.getR dX11_readBench_19 fl_RX11_26 s0_103 rfl rfl ?_
  refine V.iload_n dX11_readBench_22 rfl ?_
  refine V.iconst dX11_readBench_23 ic_1 ?_
  refine V.iadd dX11_readBench_24 ?_
  refine V.aload_n dX11_readBench_25 rfl ?_
  refine V.iconst dX11_readBench_26 ic_0 ?_
  refine V.bipush dX11_readBench_27 bp_7 ?_
  obtain ⟨v8, M9, hv7, h⟩ := bnd2_s h
  refine V.cVi dX11_readBench_29 rfl mv_RX11_176 (ok_Mod_readNumber hv7) rfl rfl s0_103 rfl (by decide) ⟨Nat.zero_le _, Nat.zero_le _⟩ (Nat.le_of_ble_eq_true rfl) (Nat.zero_le _) ?_
  obtain ⟨hb10, h⟩ := ck_s h
  refine V.iast dX11_readBench_32 s0_109 rfl (vp_of hb10) (fun M11 hM11 => ?_)
  replace h := setM_at h M11 hM11
  refine V.aload_n dX11_readBench_33 rfl ?_
  refine V.getR dX11_readBench_34 fl_RX11_26 s0_103 rfl rfl ?_
  refine V.iload_n dX11_readBench_37 rfl ?_
  refine V.iconst dX11_readBench_38 ic_2 ?_
  refine V.iadd dX11_readBench_39 ?_
  refine V.aload_n dX11_readBench_40 rfl ?_
  refine V.iconst dX11_readBench_41 ic_1 ?_
  refine V.bipush dX11_readBench_42 bp_100 ?_
  obtain ⟨v13, M14, hv12, h⟩ := bnd2_s h
  refine V.cVi dX11_readBench_44 rfl mv_RX11_176 (ok_Mod_readNumber hv12) rfl rfl s0_103 rfl (by decide) ⟨Nat.zero_le _, Nat.zero_le _⟩ (Nat.le_of_ble_eq_true rfl) (Nat.zero_le _) ?_
  obtain ⟨hb15, h⟩ := ck_s h
  refine V.iast dX11_readBench_47 s0_109 rfl (vp_of hb15) (fun M16 hM16 => ?_)
  replace h := setM_at h M16 hM16
  refine V.aload_n dX11_readBench_48 rfl ?_
  refine V.getR dX11_readBench_49 fl_RX11_26 s0_103 rfl rfl ?_
  refine V.iload_n dX11_readBench_52 rfl ?_
  refine V.iconst dX11_readBench_53 ic_3 ?_
  refine V.iadd dX11_readBench_54 ?_
  refine V.iconst dX11_readBench_55 ic_0 ?_
  obtain ⟨hb17, h⟩ := ck_s h
  refine V.iast dX11_readBench_56 s0_109 rfl (vp_of hb17) (fun M18 hM18 => ?_)
  replace h := setM_at h M18 hM18
  refine V.aload_n dX11_readBench_57 rfl ?_
  refine V.getI dX11_readBench_58 fl_RX11_124 s0_103 rfl rfl ?_
  refine V.if_ne (tgt := 106) dX11_readBench_61 (by decide) (fun hc19 => ?_) (fun hc19 => ?_)
  · replace h := ite_f hc19 h
    refine V.mask [true, false, false] rfl ?_
    exact okc_Mod_readBench_106 h
  replace h := ite_t hc19 h
  refine V.aload_n dX11_readBench_64 rfl ?_
  refine V.getI dX11_readBench_65 fl_RX11_151 s0_103 rfl rfl ?_
  refine V.iconst dX11_readBench_68 ic_1 ?_
  refine V.icmp_ne (tgt := 106) dX11_readBench_69 (by decide) (fun hc20 => ?_) (fun hc20 => ?_)
  · replace h := ite_f hc20 h
    refine V.mask [true, false, false] rfl ?_
    exact okc_Mod_readBench_106 h
  replace h := ite_t hc20 h
  refine V.aload_n dX11_readBench_72 rfl ?_
  obtain ⟨v22, hv21, h⟩ := bnd_s h
  refine V.cVi dX11_readBench_73 rfl mv_RX11_183 (ok_Mod_kindNow hv21) rfl rfl s0_103 rfl (by decide) ⟨Nat.zero_le _, Nat.zero_le _⟩ (Nat.le_of_ble_eq_true rfl) (Nat.zero_le _) ?_
  refine V.istore_n dX11_readBench_76 (by decide) rfl ?_
  refine V.aload_n dX11_readBench_77 rfl ?_
  refine V.iload_n dX11_readBench_78 rfl ?_
  refine V.bipush dX11_readBench_79 bp_m4 ?_
  refine V.icmp_eq (tgt := 88) dX11_readBench_81 (by decide) (fun hc23 => ?_) (fun hc23 => ?_)
  · replace h := ite_t hc23 h
    refine V.iconst dX11_readBench_88 ic_0 ?_
    exact okc_Mod_readBench_89 h
  replace h := ite_f hc23 h
  refine V.iconst dX11_readBench_84 ic_1 ?_
  refine V.goto (tgt := 89) dX11_readBench_85 (by decide) ?_
  exact okc_Mod_readBench_89 h
theorem ok_Mod_readWant {X : Sc} {l : Launch}  {M : Mem} {x1 : Int32} {M' : Mem}  (h : f_Mod_readWant x1 M = some M') : Mt X l yX11_readWant cX11_readWant 3 none 3 0 0 [.ref 103, .int x1] S0 M none S0 M' := by
  refine Mt.ofV (by decide) (Nat.le_of_ble_eq_true rfl) ?_
  show V X yX11_readWant cX11_readWant 3 none (rmD 3 0 0) l (FM none S0 M' 0 0) 0 [some (.ref 103), some (.int x1), none] [] S0 M 0 0
  unfold f_Mod_readWant at h
  refine V.iconst dX11_readWant_0 ic_3 ?_
  refine V.aload_n dX11_readWant_1 rfl ?_
  refine V.getI dX11_readWant_2 fl_RX11_75 s0_103 rfl rfl ?_
  refine V.imul dX11_readWant_5 ?_
  refine V.nmI (fun w1 hw1 => ?_)
  replace h := nmI_at h w1 hw1
  refine V.istore_n dX11_readWant_6 (by decide) rfl ?_
  refine V.aload_n dX11_readWant_7 rfl ?_
  refine V.getR dX11_readWant_8 fl_RX11_29 s0_103 rfl rfl ?_
  refine V.iload_n dX11_readWant_11 rfl ?_
  refine V.aload_n dX11_readWant_12 rfl ?_
  refine V.bipush dX11_readWant_13 bp_m4 ?_
  obtain ⟨v3, M4, hv2, h⟩ := bnd2_s h
  refine V.cVi dX11_readWant_15 rfl mv_RX11_186 (ok_Mod_readOne hv2) rfl rfl s0_103 rfl (by decide) ⟨Nat.zero_le _, Nat.zero_le _⟩ (Nat.le_of_ble_eq_true rfl) (Nat.zero_le _) ?_
  obtain ⟨hb5, h⟩ := ck_s h
  refine V.iast dX11_readWant_18 s0_110 rfl (vp_of hb5) (fun M6 hM6 => ?_)
  replace h := setM_at h M6 hM6
  refine V.aload_n dX11_readWant_19 rfl ?_
  refine V.getR dX11_readWant_20 fl_RX11_29 s0_103 rfl rfl ?_
  refine V.iload_n dX11_readWant_23 rfl ?_
  refine V.iconst dX11_readWant_24 ic_1 ?_
  refine V.iadd dX11_readWant_25 ?_
  refine V.aload_n dX11_readWant_26 rfl ?_
  refine V.aload_n dX11_readWant_27 rfl ?_
  refine V.getR dX11_readWant_28 fl_RX11_29 s0_103 rfl rfl ?_
  refine V.iload_n dX11_readWant_31 rfl ?_
  obtain ⟨hb7, h⟩ := ck_s h
  refine V.iald dX11_readWant_32 s0_110 rfl (vp_of hb7) ?_
  obtain ⟨v9, M10, hv8, h⟩ := bnd2_s h
  refine V.cVi dX11_readWant_33 rfl mv_RX11_186 (ok_Mod_readOne hv8) rfl rfl s0_103 rfl (by decide) ⟨Nat.zero_le _, Nat.zero_le _⟩ (Nat.le_of_ble_eq_true rfl) (Nat.zero_le _) ?_
  obtain ⟨hb11, h⟩ := ck_s h
  refine V.iast dX11_readWant_36 s0_110 rfl (vp_of hb11) (fun M12 hM12 => ?_)
  replace h := setM_at h M12 hM12
  refine V.aload_n dX11_readWant_37 rfl ?_
  refine V.getR dX11_readWant_38 fl_RX11_29 s0_103 rfl rfl ?_
  refine V.iload_n dX11_readWant_41 rfl ?_
  refine V.iconst dX11_readWant_42 ic_2 ?_
  refine V.iadd dX11_readWant_43 ?_
  refine V.iload_n dX11_readWant_44 rfl ?_
  obtain ⟨hb13, h⟩ := ck_s h
  refine V.iast dX11_readWant_45 s0_110 rfl (vp_of hb13) (fun M14 hM14 => ?_)
  replace h := setM_at h M14 hM14
  refine V.aload_n dX11_readWant_46 rfl ?_
  refine V.dup dX11_readWant_47 rfl ?_
  refine V.getI dX11_readWant_48 fl_RX11_75 s0_103 rfl rfl ?_
  refine V.iconst dX11_readWant_51 ic_1 ?_
  refine V.iadd dX11_readWant_52 ?_
  refine V.putI dX11_readWant_53 fp_RX11_75 s0_103 rfl rfl (fun M15 hM15 => ?_)
  replace h := setM_at h M15 hM15
  have e1 := inj1 h
  subst e1
  exact V.vret dX11_readWant_56 rfl
theorem okc_Mod_readWhisper_37 {X : Sc} {l : Launch}     {x1 : Int32} {x2 : Int32} {s1 : Int32} {s3 : Int32} {M : Mem} {M' : Mem} (h : f_Mod_readWhisper_J37  x1 x2 s1 s3 M = some M') : V X yX11_readWhisper cX11_readWhisper 3 none (rmD 3 0 0) l (FM none S0 M' 0 0) 37 [some (.ref 103), some (.int x1), some (.int x2)] [.int s3, .ref 103, .int s1, .ref 108] S0 M 0 0 := by
  unfold f_Mod_readWhisper_J37 at h
  refine V.bipush dX11_readWhisper_37 bp_11 ?_
  obtain ⟨v2, M3, hv1, h⟩ := bnd2_s h
  refine V.cVi dX11_readWhisper_39 rfl mv_RX11_176 (ok_Mod_readNumber hv1) rfl rfl s0_103 rfl (by decide) ⟨Nat.zero_le _, Nat.zero_le _⟩ (Nat.le_of_ble_eq_true rfl) (Nat.zero_le _) ?_
  obtain ⟨hb4, h⟩ := ck_s h
  refine V.iast dX11_readWhisper_42 s0_108 rfl (vp_of hb4) (fun M5 hM5 => ?_)
  replace h := setM_at h M5 hM5
  refine V.aload_n dX11_readWhisper_43 rfl ?_
  refine V.getR dX11_readWhisper_44 fl_RX11_23 s0_103 rfl rfl ?_
  refine V.iload_n dX11_readWhisper_47 rfl ?_
  refine V.iconst dX11_readWhisper_48 ic_1 ?_
  refine V.iadd dX11_readWhisper_49 ?_
  refine V.aload_n dX11_readWhisper_50 rfl ?_
  refine V.bipush dX11_readWhisper_51 bp_m4 ?_
  obtain ⟨v7, M8, hv6, h⟩ := bnd2_s h
  refine V.cVi dX11_readWhisper_53 rfl mv_RX11_186 (ok_Mod_readOne hv6) rfl rfl s0_103 rfl (by decide) ⟨Nat.zero_le _, Nat.zero_le _⟩ (Nat.le_of_ble_eq_true rfl) (Nat.zero_le _) ?_
  obtain ⟨hb9, h⟩ := ck_s h
  refine V.iast dX11_readWhisper_56 s0_108 rfl (vp_of hb9) (fun M10 hM10 => ?_)
  replace h := setM_at h M10 hM10
  refine V.aload_n dX11_readWhisper_57 rfl ?_
  refine V.getR dX11_readWhisper_58 fl_RX11_23 s0_103 rfl rfl ?_
  refine V.iload_n dX11_readWhisper_61 rfl ?_
  refine V.iconst dX11_readWhisper_62 ic_2 ?_
  refine V.iadd dX11_readWhisper_63 ?_
  refine V.aload_n dX11_readWhisper_64 rfl ?_
  refine V.iconst dX11_readWhisper_65 ic_0 ?_
  refine V.bipush dX11_readWhisper_66 bp_7 ?_
  obtain ⟨v12, M13, hv11, h⟩ := bnd2_s h
  refine V.cVi dX11_readWhisper_68 rfl mv_RX11_176 (ok_Mod_readNumber hv11) rfl rfl s0_103 rfl (by decide) ⟨Nat.zero_le _, Nat.zero_le _⟩ (Nat.le_of_ble_eq_true rfl) (Nat.zero_le _) ?_
  obtain ⟨hb14, h⟩ := ck_s h
  refine V.iast dX11_readWhisper_71 s0_108 rfl (vp_of hb14) (fun M15 hM15 => ?_)
  replace h := setM_at h M15 hM15
  refine V.aload_n dX11_readWhisper_72 rfl ?_
  refine V.getR dX11_readWhisper_73 fl_RX11_23 s0_103 rfl rfl ?_
  refine V.bipush dX11_readWhisper_76 bp_88 ?_
  refine V.iload_n dX11_readWhisper_78 rfl ?_
  refine V.iconst dX11_readWhisper_79 ic_1 ?_
  refine V.iadd dX11_readWhisper_80 ?_
  refine V.iast dX11_readWhisper_81 s0_108 rfl (vp_of (by decide)) (fun M16 hM16 => ?_)
  replace h := setM_at h M16 hM16
  have e1 := inj1 h
  subst e1
  exact V.vret dX11_readWhisper_82 rfl
theorem ok_Mod_readWhisper {X : Sc} {l : Launch}  {M : Mem}  {M' : Mem}  (h : f_Mod_readWhisper M = some M') : Mt X l yX11_readWhisper cX11_readWhisper 3 none 3 0 0 [.ref 103] S0 M none S0 M' := by
  refine Mt.ofV (by decide) (Nat.le_of_ble_eq_true rfl) ?_
  show V X yX11_readWhisper cX11_readWhisper 3 none (rmD 3 0 0) l (FM none S0 M' 0 0) 0 [some (.ref 103), none, none] [] S0 M 0 0
  unfold f_Mod_readWhisper at h
  refine V.aload_n dX11_readWhisper_0 rfl ?_
  refine V.getR dX11_readWhisper_1 fl_RX11_23 s0_103 rfl rfl ?_
  refine V.bipush dX11_readWhisper_4 bp_88 ?_
  refine V.iald dX11_readWhisper_6 s0_108 rfl (vp_of (by decide)) ?_
  refine V.nmI (fun w1 hw1 => ?_)
  replace h := nmI_at h w1 hw1
  refine V.istore_n dX11_readWhisper_7 (by decide) rfl ?_
  refine V.bipush dX11_readWhisper_8 bp_89 ?_
  refine V.iconst dX11_readWhisper_10 ic_3 ?_
  refine V.iload_n dX11_readWhisper_11 rfl ?_
  refine V.imul dX11_readWhisper_12 ?_
  refine V.iadd dX11_readWhisper_13 ?_
  refine V.nmI (fun w2 hw2 => ?_)
  replace h := nmI_at h w2 hw2
  refine V.istore_n dX11_readWhisper_14 (by decide) rfl ?_
  refine V.aload_n dX11_readWhisper_15 rfl ?_
  refine V.getR dX11_readWhisper_16 fl_RX11_23 s0_103 rfl rfl ?_
  refine V.iload_n dX11_readWhisper_19 rfl ?_
  refine V.aload_n dX11_readWhisper_20 rfl ?_
  refine V.iload_n dX11_readWhisper_21 rfl ?_
  refine V.if_ne (tgt := 29) dX11_readWhisper_22 (by decide) (fun hc3 => ?_) (fun hc3 => ?_)
  · replace h := ite_f hc3 h
    refine V.aload_n dX11_readWhisper_29 rfl ?_
    refine V.getR dX11_readWhisper_30 fl_RX11_23 s0_103 rfl rfl ?_
    refine V.iload_n dX11_readWhisper_33 rfl ?_
    refine V.iconst dX11_readWhisper_34 ic_3 ?_
    refine V.isub dX11_readWhisper_35 ?_
    obtain ⟨hb4, h⟩ := ck_s h
    refine V.iald dX11_readWhisper_36 s0_108 rfl (vp_of hb4) ?_
    exact okc_Mod_readWhisper_37 h
  replace h := ite_t hc3 h
  refine V.iconst dX11_readWhisper_25 ic_0 ?_
  refine V.goto (tgt := 37) dX11_readWhisper_26 (by decide) ?_
  exact okc_Mod_readWhisper_37 h
theorem okc_Mod_readLineOf_217 {X : Sc} {l : Launch}     {s1 : Int32} {M : Mem} {M' : Mem} (h : f_Mod_readLineOf_J217  s1 M = some M') : V X yX11_readLineOf cX11_readLineOf 3 none (rmD 5 0 0) l (FM none S0 M' 0 0) 217 [none, none, none] [.int s1, .ref 103] S0 M 0 0 := by
  unfold f_Mod_readLineOf_J217 at h
  obtain ⟨v2, hv1, h⟩ := bnd_s h
  refine V.cSi dX11_readLineOf_217 rfl mv_RX11_195 (ok_Mod_flag hv1) rfl rfl (by decide) ⟨Nat.zero_le _, Nat.zero_le _⟩ (Nat.le_of_ble_eq_true rfl) (Nat.zero_le _) ?_
  obtain ⟨M4, hv3, h⟩ := bnd_s h
  refine V.cVv dX11_readLineOf_220 rfl mv_RX11_198 (ok_Mod_readWant hv3) rfl rfl s0_103 rfl (by decide) ⟨Nat.zero_le _, Nat.zero_le _⟩ (Nat.le_of_ble_eq_true rfl) (Nat.zero_le _) ?_
  have e1 := inj1 h
  subst e1
  exact V.vret dX11_readLineOf_223 rfl
theorem okc_Mod_readLineOf_205 {X : Sc} {l : Launch}     {x1 : Int32} {M : Mem} {M' : Mem} (h : f_Mod_readLineOf_J205  x1 M = some M') : V X yX11_readLineOf cX11_readLineOf 3 none (rmD 5 0 0) l (FM none S0 M' 0 0) 205 [some (.ref 103), some (.int x1), none] [] S0 M 0 0 := by
  unfold f_Mod_readLineOf_J205 at h
  refine V.aload_n dX11_readLineOf_205 rfl ?_
  refine V.iload_n dX11_readLineOf_206 rfl ?_
  refine V.bipush dX11_readLineOf_207 bp_8 ?_
  refine V.icmp_ne (tgt := 216) dX11_readLineOf_209 (by decide) (fun hc1 => ?_) (fun hc1 => ?_)
  · replace h := ite_f hc1 h
    refine V.iconst dX11_readLineOf_216 ic_0 ?_
    refine V.mask [false, false, false] rfl ?_
    exact okc_Mod_readLineOf_217 h
  replace h := ite_t hc1 h
  refine V.iconst dX11_readLineOf_212 ic_1 ?_
  refine V.goto (tgt := 217) dX11_readLineOf_213 (by decide) ?_
  refine V.mask [false, false, false] rfl ?_
  exact okc_Mod_readLineOf_217 h
theorem okc_Mod_readLineOf_183 {X : Sc} {l : Launch}     {x1 : Int32} {x2 : Int32} {M : Mem} {M' : Mem} (h : f_Mod_readLineOf_J183  x1 x2 M = some M') : V X yX11_readLineOf cX11_readLineOf 3 none (rmD 5 0 0) l (FM none S0 M' 0 0) 183 [some (.ref 103), some (.int x1), some (.int x2)] [] S0 M 0 0 := by
  unfold f_Mod_readLineOf_J183 at h
  refine V.aload_n dX11_readLineOf_183 rfl ?_
  refine V.getR dX11_readLineOf_184 fl_RX11_23 s0_103 rfl rfl ?_
  refine V.iload_n dX11_readLineOf_187 rfl ?_
  refine V.iload_n dX11_readLineOf_188 rfl ?_
  refine V.bipush dX11_readLineOf_189 bp_6 ?_
  refine V.isub dX11_readLineOf_191 ?_
  refine V.iconst dX11_readLineOf_192 ic_1 ?_
  refine V.iadd dX11_readLineOf_193 ?_
  obtain ⟨hb1, h⟩ := ck_s h
  refine V.iast dX11_readLineOf_194 s0_108 rfl (vp_of hb1) (fun M2 hM2 => ?_)
  replace h := setM_at h M2 hM2
  refine V.goto (tgt := 223) dX11_readLineOf_195 (by decide) ?_
  have e1 := inj1 h
  subst e1
  exact V.vret dX11_readLineOf_223 rfl
theorem okc_Mod_readLineOf_161 {X : Sc} {l : Launch}     {x1 : Int32} {M : Mem} {M' : Mem} (h : f_Mod_readLineOf_J161  x1 M = some M') : V X yX11_readLineOf cX11_readLineOf 3 none (rmD 5 0 0) l (FM none S0 M' 0 0) 161 [some (.ref 103), some (.int x1), none] [] S0 M 0 0 := by
  unfold f_Mod_readLineOf_J161 at h
  refine V.aload_n dX11_readLineOf_161 rfl ?_
  refine V.iconst dX11_readLineOf_162 ic_1 ?_
  obtain ⟨v2, M3, hv1, h⟩ := bnd2_s h
  refine V.cVi dX11_readLineOf_163 rfl mv_RX11_179 (ok_Mod_readCell hv1) rfl rfl s0_103 rfl (by decide) ⟨Nat.zero_le _, Nat.zero_le _⟩ (Nat.le_of_ble_eq_true rfl) (Nat.zero_le _) ?_
  refine V.istore_n dX11_readLineOf_166 (by decide) rfl ?_
  refine V.aload_n dX11_readLineOf_167 rfl ?_
  refine V.getI dX11_readLineOf_168 fl_RX11_124 s0_103 rfl rfl ?_
  refine V.if_eq (tgt := 183) dX11_readLineOf_171 (by decide) (fun hc4 => ?_) (fun hc4 => ?_)
  · replace h := ite_t hc4 h
    exact okc_Mod_readLineOf_183 h
  replace h := ite_f hc4 h
  refine V.aload_n dX11_readLineOf_174 rfl ?_
  refine V.getR dX11_readLineOf_175 fl_RX11_23 s0_103 rfl rfl ?_
  refine V.iload_n dX11_readLineOf_178 rfl ?_
  obtain ⟨hb5, h⟩ := ck_s h
  refine V.iald dX11_readLineOf_179 s0_108 rfl (vp_of hb5) ?_
  refine V.if_ne (tgt := 223) dX11_readLineOf_180 (by decide) (fun hc6 => ?_) (fun hc6 => ?_)
  · replace h := ite_f hc6 h
    have e1 := inj1 h
    subst e1
    exact V.vret dX11_readLineOf_223 rfl
  replace h := ite_t hc6 h
  exact okc_Mod_readLineOf_183 h
theorem ok_Mod_readLineOf {X : Sc} {l : Launch}  {M : Mem} {x1 : Int32} {M' : Mem}  (h : f_Mod_readLineOf x1 M = some M') : Mt X l yX11_readLineOf cX11_readLineOf 3 none 5 0 0 [.ref 103, .int x1] S0 M none S0 M' := by
  refine Mt.ofV (by decide) (Nat.le_of_ble_eq_true rfl) ?_
  show V X yX11_readLineOf cX11_readLineOf 3 none (rmD 5 0 0) l (FM none S0 M' 0 0) 0 [some (.ref 103), some (.int x1), none] [] S0 M 0 0
  unfold f_Mod_readLineOf at h
  refine V.iload_n dX11_readLineOf_0 rfl ?_
  by_cases hc1 : x1 = 0
  · replace h := ite_t hc1 h
    refine V.tabAt (off := 59) (tgt := 60) dX11_readLineOf_1 hc1 (by decide) (by decide) (by decide) (by decide) ?_
    refine V.aload_n dX11_readLineOf_60 rfl ?_
    refine V.getR dX11_readLineOf_61 fl_RX11_32 s0_103 rfl rfl ?_
    refine V.iconst dX11_readLineOf_64 ic_0 ?_
    refine V.aload_n dX11_readLineOf_65 rfl ?_
    refine V.iconst dX11_readLineOf_66 ic_3 ?_
    refine V.bipush dX11_readLineOf_67 bp_9 ?_
    obtain ⟨v3, M4, hv2, h⟩ := bnd2_s h
    refine V.cVi dX11_readLineOf_69 rfl mv_RX11_176 (ok_Mod_readNumber hv2) rfl rfl s0_103 rfl (by decide) ⟨Nat.zero_le _, Nat.zero_le _⟩ (Nat.le_of_ble_eq_true rfl) (Nat.zero_le _) ?_
    refine V.iast dX11_readLineOf_72 s0_111 rfl (vp_of (by decide)) (fun M5 hM5 => ?_)
    replace h := setM_at h M5 hM5
    refine V.aload_n dX11_readLineOf_73 rfl ?_
    refine V.getR dX11_readLineOf_74 fl_RX11_32 s0_103 rfl rfl ?_
    refine V.iconst dX11_readLineOf_77 ic_1 ?_
    refine V.aload_n dX11_readLineOf_78 rfl ?_
    refine V.iconst dX11_readLineOf_79 ic_3 ?_
    refine V.bipush dX11_readLineOf_80 bp_9 ?_
    obtain ⟨v7, M8, hv6, h⟩ := bnd2_s h
    refine V.cVi dX11_readLineOf_82 rfl mv_RX11_176 (ok_Mod_readNumber hv6) rfl rfl s0_103 rfl (by decide) ⟨Nat.zero_le _, Nat.zero_le _⟩ (Nat.le_of_ble_eq_true rfl) (Nat.zero_le _) ?_
    refine V.iast dX11_readLineOf_85 s0_111 rfl (vp_of (by decide)) (fun M9 hM9 => ?_)
    replace h := setM_at h M9 hM9
    refine V.goto (tgt := 223) dX11_readLineOf_86 (by decide) ?_
    have e1 := inj1 h
    subst e1
    exact V.vret dX11_readLineOf_223 rfl
  replace h := ite_f hc1 h
  by_cases hc10 : x1 = 1
  · replace h := ite_t hc10 h
    refine V.tabAt (off := 88) (tgt := 89) dX11_readLineOf_1 hc10 (by decide) (by decide) (by decide) (by decide) ?_
    refine V.aload_n dX11_readLineOf_89 rfl ?_
    refine V.getR dX11_readLineOf_90 fl_RX11_32 s0_103 rfl rfl ?_
    refine V.iconst dX11_readLineOf_93 ic_2 ?_
    refine V.aload_n dX11_readLineOf_94 rfl ?_
    refine V.iconst dX11_readLineOf_95 ic_0 ?_
    refine V.bipush dX11_readLineOf_96 bp_20 ?_
    obtain ⟨v12, M13, hv11, h⟩ := bnd2_s h
    refine V.cVi dX11_readLineOf_98 rfl mv_RX11_176 (ok_Mod_readNumber hv11) rfl rfl s0_103 rfl (by decide) ⟨Nat.zero_le _, Nat.zero_le _⟩ (Nat.le_of_ble_eq_true rfl) (Nat.zero_le _) ?_
    refine V.iast dX11_readLineOf_101 s0_111 rfl (vp_of (by decide)) (fun M14 hM14 => ?_)
    replace h := setM_at h M14 hM14
    refine V.goto (tgt := 223) dX11_readLineOf_102 (by decide) ?_
    have e1 := inj1 h
    subst e1
    exact V.vret dX11_readLineOf_223 rfl
  replace h := ite_f hc10 h
  by_cases hc15 : x1 = 2
  · replace h := ite_t hc15 h
    refine V.tabAt (off := 104) (tgt := 105) dX11_readLineOf_1 hc15 (by decide) (by decide) (by decide) (by decide) ?_
    refine V.aload_n dX11_readLineOf_105 rfl ?_
    refine V.getR dX11_readLineOf_106 fl_RX11_32 s0_103 rfl rfl ?_
    refine V.iconst dX11_readLineOf_109 ic_3 ?_
    refine V.aload_n dX11_readLineOf_110 rfl ?_
    refine V.iconst dX11_readLineOf_111 ic_0 ?_
    refine V.bipush dX11_readLineOf_112 bp_50 ?_
    obtain ⟨v17, M18, hv16, h⟩ := bnd2_s h
    refine V.cVi dX11_readLineOf_114 rfl mv_RX11_176 (ok_Mod_readNumber hv16) rfl rfl s0_103 rfl (by decide) ⟨Nat.zero_le _, Nat.zero_le _⟩ (Nat.le_of_ble_eq_true rfl) (Nat.zero_le _) ?_
    refine V.iast dX11_readLineOf_117 s0_111 rfl (vp_of (by decide)) (fun M19 hM19 => ?_)
    replace h := setM_at h M19 hM19
    refine V.goto (tgt := 223) dX11_readLineOf_118 (by decide) ?_
    have e1 := inj1 h
    subst e1
    exact V.vret dX11_readLineOf_223 rfl
  replace h := ite_f hc15 h
  by_cases hc20 : x1 = 3
  · replace h := ite_t hc20 h
    refine V.tabAt (off := 120) (tgt := 121) dX11_readLineOf_1 hc20 (by decide) (by decide) (by decide) (by decide) ?_
    refine V.aload_n dX11_readLineOf_121 rfl ?_
    refine V.getR dX11_readLineOf_122 fl_RX11_23 s0_103 rfl rfl ?_
    refine V.bipush dX11_readLineOf_125 bp_81 ?_
    refine V.aload_n dX11_readLineOf_127 rfl ?_
    refine V.iconst dX11_readLineOf_128 ic_0 ?_
    refine V.bipush dX11_readLineOf_129 bp_9 ?_
    obtain ⟨v22, M23, hv21, h⟩ := bnd2_s h
    refine V.cVi dX11_readLineOf_131 rfl mv_RX11_176 (ok_Mod_readNumber hv21) rfl rfl s0_103 rfl (by decide) ⟨Nat.zero_le _, Nat.zero_le _⟩ (Nat.le_of_ble_eq_true rfl) (Nat.zero_le _) ?_
    refine V.iast dX11_readLineOf_134 s0_108 rfl (vp_of (by decide)) (fun M24 hM24 => ?_)
    replace h := setM_at h M24 hM24
    refine V.goto (tgt := 223) dX11_readLineOf_135 (by decide) ?_
    have e1 := inj1 h
    subst e1
    exact V.vret dX11_readLineOf_223 rfl
  replace h := ite_f hc20 h
  by_cases hc25 : x1 = 4
  · replace h := ite_t hc25 h
    refine V.tabAt (off := 137) (tgt := 138) dX11_readLineOf_1 hc25 (by decide) (by decide) (by decide) (by decide) ?_
    refine V.aload_n dX11_readLineOf_138 rfl ?_
    refine V.getR dX11_readLineOf_139 fl_RX11_32 s0_103 rfl rfl ?_
    refine V.iconst dX11_readLineOf_142 ic_4 ?_
    refine V.aload_n dX11_readLineOf_143 rfl ?_
    refine V.iconst dX11_readLineOf_144 ic_0 ?_
    refine V.bipush dX11_readLineOf_145 bp_6 ?_
    obtain ⟨v27, M28, hv26, h⟩ := bnd2_s h
    refine V.cVi dX11_readLineOf_147 rfl mv_RX11_176 (ok_Mod_readNumber hv26) rfl rfl s0_103 rfl (by decide) ⟨Nat.zero_le _, Nat.zero_le _⟩ (Nat.le_of_ble_eq_true rfl) (Nat.zero_le _) ?_
    refine V.iast dX11_readLineOf_150 s0_111 rfl (vp_of (by decide)) (fun M29 hM29 => ?_)
    replace h := setM_at h M29 hM29
    refine V.goto (tgt := 223) dX11_readLineOf_151 (by decide) ?_
    have e1 := inj1 h
    subst e1
    exact V.vret dX11_readLineOf_223 rfl
  replace h := ite_f hc25 h
  by_cases hc30 : x1 = 5
  · replace h := ite_t hc30 h
    refine V.tabAt (off := 153) (tgt := 154) dX11_readLineOf_1 hc30 (by decide) (by decide) (by decide) (by decide) ?_
    refine V.aload_n dX11_readLineOf_154 rfl ?_
    obtain ⟨M32, hv31, h⟩ := bnd_s h
    refine V.cVv dX11_readLineOf_155 rfl mv_RX11_189 (ok_Mod_readBench hv31) rfl rfl s0_103 rfl (by decide) ⟨Nat.zero_le _, Nat.zero_le _⟩ (Nat.le_of_ble_eq_true rfl) (Nat.zero_le _) ?_
    refine V.goto (tgt := 223) dX11_readLineOf_158 (by decide) ?_
    have e1 := inj1 h
    subst e1
    exact V.vret dX11_readLineOf_223 rfl
  replace h := ite_f hc30 h
  by_cases hc33 : x1 = 6
  · replace h := ite_t hc33 h
    refine V.tabAt (off := 160) (tgt := 161) dX11_readLineOf_1 hc33 (by decide) (by decide) (by decide) (by decide) ?_
    exact okc_Mod_readLineOf_161 h
  replace h := ite_f hc33 h
  by_cases hc34 : x1 = 7
  · replace h := ite_t hc34 h
    refine V.tabAt (off := 160) (tgt := 161) dX11_readLineOf_1 hc34 (by decide) (by decide) (by decide) (by decide) ?_
    exact okc_Mod_readLineOf_161 h
  replace h := ite_f hc34 h
  by_cases hc35 : x1 = 8
  · replace h := ite_t hc35 h
    refine V.tabAt (off := 204) (tgt := 205) dX11_readLineOf_1 hc35 (by decide) (by decide) (by decide) (by decide) ?_
    exact okc_Mod_readLineOf_205 h
  replace h := ite_f hc35 h
  by_cases hc36 : x1 = 9
  · replace h := ite_t hc36 h
    refine V.tabAt (off := 204) (tgt := 205) dX11_readLineOf_1 hc36 (by decide) (by decide) (by decide) (by decide) ?_
    exact okc_Mod_readLineOf_205 h
  replace h := ite_f hc36 h
  by_cases hc37 : x1 = 10
  · replace h := ite_t hc37 h
    refine V.tabAt (off := 197) (tgt := 198) dX11_readLineOf_1 hc37 (by decide) (by decide) (by decide) (by decide) ?_
    refine V.aload_n dX11_readLineOf_198 rfl ?_
    obtain ⟨M39, hv38, h⟩ := bnd_s h
    refine V.cVv dX11_readLineOf_199 rfl mv_RX11_192 (ok_Mod_readWhisper hv38) rfl rfl s0_103 rfl (by decide) ⟨Nat.zero_le _, Nat.zero_le _⟩ (Nat.le_of_ble_eq_true rfl) (Nat.zero_le _) ?_
    refine V.goto (tgt := 223) dX11_readLineOf_202 (by decide) ?_
    have e1 := inj1 h
    subst e1
    exact V.vret dX11_readLineOf_223 rfl
  replace h := ite_f hc37 h
  refine V.tabOut (tgt := 205) dX11_readLineOf_1 (by have e0 := i32_lit (k := 0) hc1 (by decide); have e1 := i32_lit (k := 1) hc10 (by decide); have e2 := i32_lit (k := 2) hc15 (by decide); have e3 := i32_lit (k := 3) hc20 (by decide); have e4 := i32_lit (k := 4) hc25 (by decide); have e5 := i32_lit (k := 5) hc30 (by decide); have e6 := i32_lit (k := 6) hc33 (by decide); have e7 := i32_lit (k := 7) hc34 (by decide); have e8 := i32_lit (k := 8) hc35 (by decide); have e9 := i32_lit (k := 9) hc36 (by decide); have e10 := i32_lit (k := 10) hc37 (by decide); omega) (by decide) ?_
  exact okc_Mod_readLineOf_205 h
theorem okc_Mod_readLine_184 {X : Sc} {l : Launch}      {M : Mem} {M' : Mem} (h : f_Mod_readLine_J184  M = some M') : V X yX11_readLine cX11_readLine 2 none (rmD 6 0 0) l (FM none S0 M' 0 0) 184 [some (.ref 103), none] [] S0 M 0 0 := by
  unfold f_Mod_readLine_J184 at h
  refine V.aload_n dX11_readLine_184 rfl ?_
  obtain ⟨M2, hv1, h⟩ := bnd_s h
  refine V.cVv dX11_readLine_185 rfl mv_RX11_173 (ok_Mod_next hv1) rfl rfl s0_103 rfl (by decide) ⟨Nat.zero_le _, Nat.zero_le _⟩ (Nat.le_of_ble_eq_true rfl) (Nat.zero_le _) ?_
  have e1 := inj1 h
  subst e1
  exact V.vret dX11_readLine_188 rfl
theorem okc_Mod_readLine_180 {X : Sc} {l : Launch}     {s1 : Int32} {M : Mem} {M' : Mem} (h : f_Mod_readLine_J180  s1 M = some M') : V X yX11_readLine cX11_readLine 2 none (rmD 6 0 0) l (FM none S0 M' 0 0) 180 [some (.ref 103), none] [.int s1, .ref 103] S0 M 0 0 := by
  unfold f_Mod_readLine_J180 at h
  refine V.iconst dX11_readLine_180 ic_2 ?_
  obtain ⟨M2, hv1, h⟩ := bnd_s h
  refine V.cVv dX11_readLine_181 rfl mv_RX11_165 (ok_Mod_needs hv1) rfl rfl s0_103 rfl (by decide) ⟨Nat.zero_le _, Nat.zero_le _⟩ (Nat.le_of_ble_eq_true rfl) (Nat.zero_le _) ?_
  exact okc_Mod_readLine_184 h
theorem okc_Mod_readLine_142 {X : Sc} {l : Launch}     {x1 : Int32} {M : Mem} {M' : Mem} (h : f_Mod_readLine_J142  x1 M = some M') : V X yX11_readLine cX11_readLine 2 none (rmD 6 0 0) l (FM none S0 M' 0 0) 142 [some (.ref 103), some (.int x1)] [] S0 M 0 0 := by
  unfold f_Mod_readLine_J142 at h
  refine V.aload_n dX11_readLine_142 rfl ?_
  obtain ⟨M2, hv1, h⟩ := bnd_s h
  refine V.cVv dX11_readLine_143 rfl mv_RX11_173 (ok_Mod_next hv1) rfl rfl s0_103 rfl (by decide) ⟨Nat.zero_le _, Nat.zero_le _⟩ (Nat.le_of_ble_eq_true rfl) (Nat.zero_le _) ?_
  refine V.aload_n dX11_readLine_146 rfl ?_
  refine V.getI dX11_readLine_147 fl_RX11_124 s0_103 rfl rfl ?_
  refine V.if_le (tgt := 154) dX11_readLine_150 (by decide) (fun hc3 => ?_) (fun hc3 => ?_)
  · replace h := ite_t hc3 h
    refine V.aload_n dX11_readLine_154 rfl ?_
    refine V.iload_n dX11_readLine_155 rfl ?_
    obtain ⟨M5, hv4, h⟩ := bnd_s h
    refine V.cVv dX11_readLine_156 rfl mv_RX11_205 (ok_Mod_readLineOf hv4) rfl rfl s0_103 rfl (by decide) ⟨Nat.zero_le _, Nat.zero_le _⟩ (Nat.le_of_ble_eq_true rfl) (Nat.zero_le _) ?_
    refine V.aload_n dX11_readLine_159 rfl ?_
    refine V.getI dX11_readLine_160 fl_RX11_124 s0_103 rfl rfl ?_
    refine V.if_ne (tgt := 184) dX11_readLine_163 (by decide) (fun hc6 => ?_) (fun hc6 => ?_)
    · replace h := ite_f hc6 h
      refine V.mask [true, false] rfl ?_
      exact okc_Mod_readLine_184 h
    replace h := ite_t hc6 h
    refine V.aload_n dX11_readLine_166 rfl ?_
    refine V.aload_n dX11_readLine_167 rfl ?_
    refine V.getI dX11_readLine_168 fl_RX11_151 s0_103 rfl rfl ?_
    refine V.iconst dX11_readLine_171 ic_3 ?_
    refine V.icmp_ne (tgt := 179) dX11_readLine_172 (by decide) (fun hc7 => ?_) (fun hc7 => ?_)
    · replace h := ite_f hc7 h
      refine V.iconst dX11_readLine_179 ic_0 ?_
      refine V.mask [true, false] rfl ?_
      exact okc_Mod_readLine_180 h
    replace h := ite_t hc7 h
    refine V.iconst dX11_readLine_175 ic_1 ?_
    refine V.goto (tgt := 180) dX11_readLine_176 (by decide) ?_
    refine V.mask [true, false] rfl ?_
    exact okc_Mod_readLine_180 h
  replace h := ite_f hc3 h
  have e1 := inj1 h
  subst e1
  exact V.vret dX11_readLine_153 rfl
theorem okc_Mod_readLine_126 {X : Sc} {l : Launch}     {x1 : Int32} {s1 : Int32} {M : Mem} {M' : Mem} (h : f_Mod_readLine_J126  x1 s1 M = some M') : V X yX11_readLine cX11_readLine 2 none (rmD 6 0 0) l (FM none S0 M' 0 0) 126 [some (.ref 103), some (.int x1)] [.int s1, .ref 103] S0 M 0 0 := by
  unfold f_Mod_readLine_J126 at h
  refine V.iconst dX11_readLine_126 ic_4 ?_
  obtain ⟨M2, hv1, h⟩ := bnd_s h
  refine V.cVv dX11_readLine_127 rfl mv_RX11_165 (ok_Mod_needs hv1) rfl rfl s0_103 rfl (by decide) ⟨Nat.zero_le _, Nat.zero_le _⟩ (Nat.le_of_ble_eq_true rfl) (Nat.zero_le _) ?_
  refine V.aload_n dX11_readLine_130 rfl ?_
  refine V.dup dX11_readLine_131 rfl ?_
  refine V.getI dX11_readLine_132 fl_RX11_87 s0_103 rfl rfl ?_
  refine V.iconst dX11_readLine_135 ic_1 ?_
  refine V.iload_n dX11_readLine_136 rfl ?_
  refine V.ishl dX11_readLine_137 ?_
  refine V.ior dX11_readLine_138 ?_
  refine V.putI dX11_readLine_139 fp_RX11_87 s0_103 rfl rfl (fun M3 hM3 => ?_)
  replace h := setM_at h M3 hM3
  exact okc_Mod_readLine_142 h
theorem okc_Mod_readLine_93 {X : Sc} {l : Launch}     {x1 : Int32} {s1 : Int32} {M : Mem} {M' : Mem} (h : f_Mod_readLine_J93  x1 s1 M = some M') : V X yX11_readLine cX11_readLine 2 none (rmD 6 0 0) l (FM none S0 M' 0 0) 93 [some (.ref 103), some (.int x1)] [.int s1, .ref 103] S0 M 0 0 := by
  unfold f_Mod_readLine_J93 at h
  refine V.iconst dX11_readLine_93 ic_5 ?_
  obtain ⟨M2, hv1, h⟩ := bnd_s h
  refine V.cVv dX11_readLine_94 rfl mv_RX11_165 (ok_Mod_needs hv1) rfl rfl s0_103 rfl (by decide) ⟨Nat.zero_le _, Nat.zero_le _⟩ (Nat.le_of_ble_eq_true rfl) (Nat.zero_le _) ?_
  refine V.aload_n dX11_readLine_97 rfl ?_
  refine V.getI dX11_readLine_98 fl_RX11_124 s0_103 rfl rfl ?_
  refine V.if_ne (tgt := 142) dX11_readLine_101 (by decide) (fun hc3 => ?_) (fun hc3 => ?_)
  · replace h := ite_f hc3 h
    exact okc_Mod_readLine_142 h
  replace h := ite_t hc3 h
  refine V.iload_n dX11_readLine_104 rfl ?_
  refine V.iconst dX11_readLine_105 ic_5 ?_
  refine V.icmp_ge (tgt := 142) dX11_readLine_106 (by decide) (fun hc4 => ?_) (fun hc4 => ?_)
  · replace h := ite_t hc4 h
    exact okc_Mod_readLine_142 h
  replace h := ite_f hc4 h
  refine V.aload_n dX11_readLine_109 rfl ?_
  refine V.aload_n dX11_readLine_110 rfl ?_
  refine V.getI dX11_readLine_111 fl_RX11_87 s0_103 rfl rfl ?_
  refine V.iload_n dX11_readLine_114 rfl ?_
  refine V.ishr dX11_readLine_115 ?_
  refine V.iconst dX11_readLine_116 ic_1 ?_
  refine V.iand dX11_readLine_117 ?_
  refine V.if_ne (tgt := 125) dX11_readLine_118 (by decide) (fun hc5 => ?_) (fun hc5 => ?_)
  · replace h := ite_f hc5 h
    refine V.iconst dX11_readLine_125 ic_0 ?_
    exact okc_Mod_readLine_126 h
  replace h := ite_t hc5 h
  refine V.iconst dX11_readLine_121 ic_1 ?_
  refine V.goto (tgt := 126) dX11_readLine_122 (by decide) ?_
  exact okc_Mod_readLine_126 h
theorem okc_Mod_readLine_92 {X : Sc} {l : Launch}     {x1 : Int32} {M : Mem} {M' : Mem} (h : f_Mod_readLine_J92  x1 M = some M') : V X yX11_readLine cX11_readLine 2 none (rmD 6 0 0) l (FM none S0 M' 0 0) 92 [some (.ref 103), some (.int x1)] [.ref 103] S0 M 0 0 := by
  unfold f_Mod_readLine_J92 at h
  refine V.iconst dX11_readLine_92 ic_0 ?_
  exact okc_Mod_readLine_93 h
theorem okc_Mod_readLine_88 {X : Sc} {l : Launch}     {x1 : Int32} {M : Mem} {M' : Mem} (h : f_Mod_readLine_J88  x1 M = some M') : V X yX11_readLine cX11_readLine 2 none (rmD 6 0 0) l (FM none S0 M' 0 0) 88 [some (.ref 103), some (.int x1)] [.ref 103] S0 M 0 0 := by
  unfold f_Mod_readLine_J88 at h
  refine V.iconst dX11_readLine_88 ic_1 ?_
  refine V.goto (tgt := 93) dX11_readLine_89 (by decide) ?_
  exact okc_Mod_readLine_93 h
theorem okc_Mod_readLine_70 {X : Sc} {l : Launch}     {x1 : Int32} {M : Mem} {M' : Mem} (h : f_Mod_readLine_J70  x1 M = some M') : V X yX11_readLine cX11_readLine 2 none (rmD 6 0 0) l (FM none S0 M' 0 0) 70 [some (.ref 103), some (.int x1)] [.ref 103] S0 M 0 0 := by
  unfold f_Mod_readLine_J70 at h
  refine V.iload_n dX11_readLine_70 rfl ?_
  refine V.bipush dX11_readLine_71 bp_10 ?_
  refine V.icmp_ne (tgt := 88) dX11_readLine_73 (by decide) (fun hc1 => ?_) (fun hc1 => ?_)
  · replace h := ite_f hc1 h
    exact okc_Mod_readLine_88 h
  replace h := ite_t hc1 h
  refine V.aload_n dX11_readLine_76 rfl ?_
  refine V.getR dX11_readLine_77 fl_RX11_23 s0_103 rfl rfl ?_
  refine V.bipush dX11_readLine_80 bp_88 ?_
  refine V.iald dX11_readLine_82 s0_108 rfl (vp_of (by decide)) ?_
  refine V.bipush dX11_readLine_83 bp_12 ?_
  refine V.icmp_ge (tgt := 92) dX11_readLine_85 (by decide) (fun hc2 => ?_) (fun hc2 => ?_)
  · replace h := ite_t hc2 h
    exact okc_Mod_readLine_92 h
  replace h := ite_f hc2 h
  exact okc_Mod_readLine_88 h
theorem okc_Mod_readLine_61 {X : Sc} {l : Launch}     {x1 : Int32} {M : Mem} {M' : Mem} (h : f_Mod_readLine_J61  x1 M = some M') : V X yX11_readLine cX11_readLine 2 none (rmD 6 0 0) l (FM none S0 M' 0 0) 61 [some (.ref 103), some (.int x1)] [.ref 103] S0 M 0 0 := by
  unfold f_Mod_readLine_J61 at h
  refine V.aload_n dX11_readLine_61 rfl ?_
  refine V.getI dX11_readLine_62 fl_RX11_75 s0_103 rfl rfl ?_
  refine V.bipush dX11_readLine_65 bp_8 ?_
  refine V.icmp_ge (tgt := 92) dX11_readLine_67 (by decide) (fun hc1 => ?_) (fun hc1 => ?_)
  · replace h := ite_t hc1 h
    exact okc_Mod_readLine_92 h
  replace h := ite_f hc1 h
  exact okc_Mod_readLine_70 h
theorem okc_Mod_readLine_49 {X : Sc} {l : Launch}     {x1 : Int32} {M : Mem} {M' : Mem} (h : f_Mod_readLine_J49  x1 M = some M') : V X yX11_readLine cX11_readLine 2 none (rmD 6 0 0) l (FM none S0 M' 0 0) 49 [some (.ref 103), some (.int x1)] [.ref 103] S0 M 0 0 := by
  unfold f_Mod_readLine_J49 at h
  refine V.iload_n dX11_readLine_49 rfl ?_
  refine V.bipush dX11_readLine_50 bp_8 ?_
  refine V.icmp_eq (tgt := 61) dX11_readLine_52 (by decide) (fun hc1 => ?_) (fun hc1 => ?_)
  · replace h := ite_t hc1 h
    exact okc_Mod_readLine_61 h
  replace h := ite_f hc1 h
  refine V.iload_n dX11_readLine_55 rfl ?_
  refine V.bipush dX11_readLine_56 bp_9 ?_
  refine V.icmp_ne (tgt := 70) dX11_readLine_58 (by decide) (fun hc2 => ?_) (fun hc2 => ?_)
  · replace h := ite_f hc2 h
    exact okc_Mod_readLine_70 h
  replace h := ite_t hc2 h
  exact okc_Mod_readLine_61 h
theorem okc_Mod_readLine_30 {X : Sc} {l : Launch}     {x1 : Int32} {s1 : Int32} {M : Mem} {M' : Mem} (h : f_Mod_readLine_J30  x1 s1 M = some M') : V X yX11_readLine cX11_readLine 2 none (rmD 6 0 0) l (FM none S0 M' 0 0) 30 [some (.ref 103), some (.int x1)] [.int s1, .ref 103] S0 M 0 0 := by
  unfold f_Mod_readLine_J30 at h
  refine V.iconst dX11_readLine_30 ic_2 ?_
  obtain ⟨M2, hv1, h⟩ := bnd_s h
  refine V.cVv dX11_readLine_31 rfl mv_RX11_165 (ok_Mod_needs hv1) rfl rfl s0_103 rfl (by decide) ⟨Nat.zero_le _, Nat.zero_le _⟩ (Nat.le_of_ble_eq_true rfl) (Nat.zero_le _) ?_
  refine V.aload_n dX11_readLine_34 rfl ?_
  refine V.iload_n dX11_readLine_35 rfl ?_
  refine V.iconst dX11_readLine_36 ic_5 ?_
  refine V.icmp_ne (tgt := 49) dX11_readLine_37 (by decide) (fun hc3 => ?_) (fun hc3 => ?_)
  · replace h := ite_f hc3 h
    exact okc_Mod_readLine_49 h
  replace h := ite_t hc3 h
  refine V.aload_n dX11_readLine_40 rfl ?_
  refine V.getI dX11_readLine_41 fl_RX11_71 s0_103 rfl rfl ?_
  refine V.bipush dX11_readLine_44 bp_8 ?_
  refine V.icmp_ge (tgt := 92) dX11_readLine_46 (by decide) (fun hc4 => ?_) (fun hc4 => ?_)
  · replace h := ite_t hc4 h
    exact okc_Mod_readLine_92 h
  replace h := ite_f hc4 h
  exact okc_Mod_readLine_49 h
theorem okc_Mod_readLine_17 {X : Sc} {l : Launch}     {s0 : Int32} {M : Mem} {M' : Mem} (h : f_Mod_readLine_J17  s0 M = some M') : V X yX11_readLine cX11_readLine 2 none (rmD 6 0 0) l (FM none S0 M' 0 0) 17 [some (.ref 103), none] [.int s0] S0 M 0 0 := by
  unfold f_Mod_readLine_J17 at h
  refine V.istore_n dX11_readLine_17 (by decide) rfl ?_
  refine V.aload_n dX11_readLine_18 rfl ?_
  refine V.iload_n dX11_readLine_19 rfl ?_
  refine V.bipush dX11_readLine_20 bp_m4 ?_
  refine V.icmp_eq (tgt := 29) dX11_readLine_22 (by decide) (fun hc1 => ?_) (fun hc1 => ?_)
  · replace h := ite_t hc1 h
    refine V.iconst dX11_readLine_29 ic_0 ?_
    exact okc_Mod_readLine_30 h
  replace h := ite_f hc1 h
  refine V.iconst dX11_readLine_25 ic_1 ?_
  refine V.goto (tgt := 30) dX11_readLine_26 (by decide) ?_
  exact okc_Mod_readLine_30 h
theorem ok_Mod_readLine {X : Sc} {l : Launch}  {M : Mem}  {M' : Mem}  (h : f_Mod_readLine M = some M') : Mt X l yX11_readLine cX11_readLine 2 none 6 0 0 [.ref 103] S0 M none S0 M' := by
  refine Mt.ofV (by decide) (Nat.le_of_ble_eq_true rfl) ?_
  show V X yX11_readLine cX11_readLine 2 none (rmD 6 0 0) l (FM none S0 M' 0 0) 0 [some (.ref 103), none] [] S0 M 0 0
  unfold f_Mod_readLine at h
  refine V.aload_n dX11_readLine_0 rfl ?_
  refine V.getI dX11_readLine_1 fl_RX11_151 s0_103 rfl rfl ?_
  refine V.iconst dX11_readLine_4 ic_1 ?_
  refine V.icmp_ne (tgt := 15) dX11_readLine_5 (by decide) (fun hc1 => ?_) (fun hc1 => ?_)
  · replace h := ite_f hc1 h
    refine V.bipush dX11_readLine_15 bp_m4 ?_
    exact okc_Mod_readLine_17 h
  replace h := ite_t hc1 h
  refine V.aload_n dX11_readLine_8 rfl ?_
  obtain ⟨v3, hv2, h⟩ := bnd_s h
  refine V.cVi dX11_readLine_9 rfl mv_RX11_202 (ok_Mod_nameNow hv2) rfl rfl s0_103 rfl (by decide) ⟨Nat.zero_le _, Nat.zero_le _⟩ (Nat.le_of_ble_eq_true rfl) (Nat.zero_le _) ?_
  refine V.goto (tgt := 17) dX11_readLine_12 (by decide) ?_
  exact okc_Mod_readLine_17 h
theorem okc_Mod_areFree_4 {X : Sc} {l : Launch}   {M : Mem}   : ∀ (n : Nat) (x1 : Int32) (x2 : Int32) (r : Int32), f_Mod_areFree_L4 M n x1 x2 = some r → V X yX11_areFree cX11_areFree 3 (some .boolean) (rmD 0 0 0) l (FM (some (.int r)) S0 M 0 0) 4 [some (.ref 103), some (.int x1), some (.int x2)] [] S0 M 0 0 := by
  intro n
  induction n with
  | zero =>
    intro x1 x2 r h
    rw [f_Mod_areFree_L4] at h
    cases h
  | succ n ih =>
    intro x1 x2 r h
    rw [f_Mod_areFree_L4] at h
    refine V.iload_n dX11_areFree_4 rfl ?_
    refine V.aload_n dX11_areFree_5 rfl ?_
    refine V.getI dX11_areFree_6 fl_RX11_71 s0_103 rfl rfl ?_
    refine V.icmp_ge (tgt := 44) dX11_areFree_9 (by decide) (fun hc1 => ?_) (fun hc1 => ?_)
    · replace h := ite_t hc1 h
      refine V.iload_n dX11_areFree_44 rfl ?_
      obtain ⟨hB2, h⟩ := ck_s h
      have e1 := inj1 h
      subst e1
      exact V.iret dX11_areFree_45 rfl (isB_n hB2)
    replace h := ite_f hc1 h
    refine V.iload_n dX11_areFree_12 rfl ?_
    refine V.if_eq (tgt := 36) dX11_areFree_13 (by decide) (fun hc3 => ?_) (fun hc3 => ?_)
    · replace h := ite_t hc3 h
      refine V.iconst dX11_areFree_36 ic_0 ?_
      refine V.istore_n dX11_areFree_37 (by decide) rfl ?_
      refine V.iinc dX11_areFree_38 rfl (iinc_c ic_1) (by decide) rfl ?_
      refine V.goto (tgt := 4) dX11_areFree_41 (by decide) ?_
      exact ih _ _ _ h
    replace h := ite_f hc3 h
    refine V.aload_n dX11_areFree_16 rfl ?_
    refine V.getR dX11_areFree_17 fl_RX11_23 s0_103 rfl rfl ?_
    refine V.aload_n dX11_areFree_20 rfl ?_
    refine V.getR dX11_areFree_21 fl_RX11_26 s0_103 rfl rfl ?_
    refine V.iconst dX11_areFree_24 ic_4 ?_
    refine V.iload_n dX11_areFree_25 rfl ?_
    refine V.imul dX11_areFree_26 ?_
    obtain ⟨hb4, h⟩ := ck_s h
    refine V.iald dX11_areFree_27 s0_109 rfl (vp_of hb4) ?_
    obtain ⟨hb5, h⟩ := ck_s h
    refine V.iald dX11_areFree_28 s0_108 rfl (vp_of hb5) ?_
    refine V.if_ne (tgt := 36) dX11_areFree_29 (by decide) (fun hc6 => ?_) (fun hc6 => ?_)
    · replace h := ite_f hc6 h
      refine V.iconst dX11_areFree_36 ic_0 ?_
      refine V.istore_n dX11_areFree_37 (by decide) rfl ?_
      refine V.iinc dX11_areFree_38 rfl (iinc_c ic_1) (by decide) rfl ?_
      refine V.goto (tgt := 4) dX11_areFree_41 (by decide) ?_
      exact ih _ _ _ h
    replace h := ite_t hc6 h
    refine V.iconst dX11_areFree_32 ic_1 ?_
    refine V.goto (tgt := 37) dX11_areFree_33 (by decide) ?_
    refine V.istore_n dX11_areFree_37 (by decide) rfl ?_
    refine V.iinc dX11_areFree_38 rfl (iinc_c ic_1) (by decide) rfl ?_
    refine V.goto (tgt := 4) dX11_areFree_41 (by decide) ?_
    exact ih _ _ _ h
theorem ok_Mod_areFree {X : Sc} {l : Launch}  {M : Mem}  {r : Int32}  (h : f_Mod_areFree M = some r) : Mt X l yX11_areFree cX11_areFree 3 (some .boolean) 0 0 0 [.ref 103] S0 M (some (.int r)) S0 M := by
  refine Mt.ofV (by decide) (Nat.le_of_ble_eq_true rfl) ?_
  show V X yX11_areFree cX11_areFree 3 (some .boolean) (rmD 0 0 0) l (FM (some (.int r)) S0 M 0 0) 0 [some (.ref 103), none, none] [] S0 M 0 0
  unfold f_Mod_areFree at h
  refine V.iconst dX11_areFree_0 ic_1 ?_
  refine V.istore_n dX11_areFree_1 (by decide) rfl ?_
  refine V.iconst dX11_areFree_2 ic_0 ?_
  refine V.istore_n dX11_areFree_3 (by decide) rfl ?_
  exact okc_Mod_areFree_4 _ _ _ _ h
theorem okc_Mod_text_120 {X : Sc} {l : Launch}     {x1 : Int32} {M : Mem} {r : Int32} {M' : Mem} (h : f_Mod_text_J120  x1 M = some (r, M')) : V X yX11_text cX11_text 2 (some .int) (rmD 7 0 0) l (FM (some (.int r)) S0 M' 0 0) 120 [some (.ref 103), some (.int x1)] [] S0 M 0 0 := by
  unfold f_Mod_text_J120 at h
  refine V.aload_n dX11_text_120 rfl ?_
  refine V.iconst dX11_text_121 ic_0 ?_
  refine V.putI dX11_text_122 fp_RX11_115 s0_103 rfl rfl (fun M1 hM1 => ?_)
  replace h := setM_at h M1 hM1
  refine V.aload_n dX11_text_125 rfl ?_
  refine V.getI dX11_text_126 fl_RX11_124 s0_103 rfl rfl ?_
  refine V.if_le (tgt := 140) dX11_text_129 (by decide) (fun hc2 => ?_) (fun hc2 => ?_)
  · replace h := ite_t hc2 h
    refine V.aload_n dX11_text_140 rfl ?_
    obtain ⟨M4, hv3, h⟩ := bnd_s h
    refine V.cVv dX11_text_141 rfl mv_RX11_68 (ok_Mod_keepDraft hv3) rfl rfl s0_103 rfl (by decide) ⟨Nat.zero_le _, Nat.zero_le _⟩ (Nat.le_of_ble_eq_true rfl) (Nat.zero_le _) ?_
    refine V.iload_n dX11_text_144 rfl ?_
    obtain ⟨e1, e2⟩ := inj2 h
    subst e1
    subst e2
    exact V.iret dX11_text_145 rfl rfl
  replace h := ite_f hc2 h
  refine V.bipush dX11_text_132 bp_m10 ?_
  refine V.aload_n dX11_text_134 rfl ?_
  refine V.getI dX11_text_135 fl_RX11_130 s0_103 rfl rfl ?_
  refine V.isub dX11_text_138 ?_
  obtain ⟨e1, e2⟩ := inj2 h
  subst e1
  subst e2
  exact V.iret dX11_text_139 rfl rfl
theorem okc_Mod_text_105 {X : Sc} {l : Launch}     {x1 : Int32} {s1 : Int32} {M : Mem} {r : Int32} {M' : Mem} (h : f_Mod_text_J105  x1 s1 M = some (r, M')) : V X yX11_text cX11_text 2 (some .int) (rmD 7 0 0) l (FM (some (.int r)) S0 M' 0 0) 105 [some (.ref 103), some (.int x1)] [.int s1, .ref 103] S0 M 0 0 := by
  unfold f_Mod_text_J105 at h
  refine V.bipush dX11_text_105 bp_6 ?_
  obtain ⟨M2, hv1, h⟩ := bnd_s h
  refine V.cVv dX11_text_107 rfl mv_RX11_165 (ok_Mod_needs hv1) rfl rfl s0_103 rfl (by decide) ⟨Nat.zero_le _, Nat.zero_le _⟩ (Nat.le_of_ble_eq_true rfl) (Nat.zero_le _) ?_
  refine V.aload_n dX11_text_110 rfl ?_
  refine V.aload_n dX11_text_111 rfl ?_
  obtain ⟨v4, hv3, h⟩ := bnd_s h
  refine V.cVi dX11_text_112 rfl mv_RX11_211 (ok_Mod_areFree hv3) rfl rfl s0_103 rfl (by decide) ⟨Nat.zero_le _, Nat.zero_le _⟩ (Nat.le_of_ble_eq_true rfl) (Nat.zero_le _) ?_
  refine V.bipush dX11_text_115 bp_7 ?_
  obtain ⟨M6, hv5, h⟩ := bnd_s h
  refine V.cVv dX11_text_117 rfl mv_RX11_165 (ok_Mod_needs hv5) rfl rfl s0_103 rfl (by decide) ⟨Nat.zero_le _, Nat.zero_le _⟩ (Nat.le_of_ble_eq_true rfl) (Nat.zero_le _) ?_
  exact okc_Mod_text_120 h
theorem okc_Mod_text_104 {X : Sc} {l : Launch}     {x1 : Int32} {M : Mem} {r : Int32} {M' : Mem} (h : f_Mod_text_J104  x1 M = some (r, M')) : V X yX11_text cX11_text 2 (some .int) (rmD 7 0 0) l (FM (some (.int r)) S0 M' 0 0) 104 [some (.ref 103), some (.int x1)] [.ref 103] S0 M 0 0 := by
  unfold f_Mod_text_J104 at h
  refine V.iconst dX11_text_104 ic_0 ?_
  exact okc_Mod_text_105 h
theorem okc_Mod_text_44 {X : Sc} {l : Launch}     {x1 : Int32} {M : Mem} {r : Int32} {M' : Mem} (h : f_Mod_text_J44  x1 M = some (r, M')) : V X yX11_text cX11_text 2 (some .int) (rmD 7 0 0) l (FM (some (.int r)) S0 M' 0 0) 44 [some (.ref 103), some (.int x1)] [] S0 M 0 0 := by
  unfold f_Mod_text_J44 at h
  refine V.aload_n dX11_text_44 rfl ?_
  refine V.getI dX11_text_45 fl_RX11_124 s0_103 rfl rfl ?_
  refine V.if_ne (tgt := 120) dX11_text_48 (by decide) (fun hc1 => ?_) (fun hc1 => ?_)
  · replace h := ite_f hc1 h
    exact okc_Mod_text_120 h
  replace h := ite_t hc1 h
  refine V.aload_n dX11_text_51 rfl ?_
  refine V.aload_n dX11_text_52 rfl ?_
  refine V.getI dX11_text_53 fl_RX11_81 s0_103 rfl rfl ?_
  refine V.aload_n dX11_text_56 rfl ?_
  refine V.getR dX11_text_57 fl_RX11_32 s0_103 rfl rfl ?_
  refine V.iconst dX11_text_60 ic_0 ?_
  refine V.iald dX11_text_61 s0_111 rfl (vp_of (by decide)) ?_
  refine V.icmp_ge (tgt := 104) dX11_text_62 (by decide) (fun hc2 => ?_) (fun hc2 => ?_)
  · replace h := ite_t hc2 h
    exact okc_Mod_text_104 h
  replace h := ite_f hc2 h
  refine V.aload_n dX11_text_65 rfl ?_
  refine V.getI dX11_text_66 fl_RX11_84 s0_103 rfl rfl ?_
  refine V.aload_n dX11_text_69 rfl ?_
  refine V.getR dX11_text_70 fl_RX11_32 s0_103 rfl rfl ?_
  refine V.iconst dX11_text_73 ic_1 ?_
  refine V.iald dX11_text_74 s0_111 rfl (vp_of (by decide)) ?_
  refine V.icmp_ge (tgt := 104) dX11_text_75 (by decide) (fun hc3 => ?_) (fun hc3 => ?_)
  · replace h := ite_t hc3 h
    exact okc_Mod_text_104 h
  replace h := ite_f hc3 h
  refine V.aload_n dX11_text_78 rfl ?_
  refine V.getI dX11_text_79 fl_RX11_78 s0_103 rfl rfl ?_
  refine V.aload_n dX11_text_82 rfl ?_
  obtain ⟨v5, hv4, h⟩ := bnd_s h
  refine V.cVi dX11_text_83 rfl mv_RX11_105 (ok_Mod_dPeople hv4) rfl rfl s0_103 rfl (by decide) ⟨Nat.zero_le _, Nat.zero_le _⟩ (Nat.le_of_ble_eq_true rfl) (Nat.zero_le _) ?_
  refine V.icmp_ge (tgt := 104) dX11_text_86 (by decide) (fun hc6 => ?_) (fun hc6 => ?_)
  · replace h := ite_t hc6 h
    exact okc_Mod_text_104 h
  replace h := ite_f hc6 h
  refine V.aload_n dX11_text_89 rfl ?_
  obtain ⟨v8, hv7, h⟩ := bnd_s h
  refine V.cVi dX11_text_90 rfl mv_RX11_105 (ok_Mod_dPeople hv7) rfl rfl s0_103 rfl (by decide) ⟨Nat.zero_le _, Nat.zero_le _⟩ (Nat.le_of_ble_eq_true rfl) (Nat.zero_le _) ?_
  refine V.aload_n dX11_text_93 rfl ?_
  refine V.getI dX11_text_94 fl_RX11_71 s0_103 rfl rfl ?_
  refine V.icmp_gt (tgt := 104) dX11_text_97 (by decide) (fun hc9 => ?_) (fun hc9 => ?_)
  · replace h := ite_t hc9 h
    exact okc_Mod_text_104 h
  replace h := ite_f hc9 h
  refine V.iconst dX11_text_100 ic_1 ?_
  refine V.goto (tgt := 105) dX11_text_101 (by decide) ?_
  exact okc_Mod_text_105 h
theorem okc_Mod_text_20 {X : Sc} {l : Launch}     : ∀ (n : Nat) (x1 : Int32) (M : Mem) (r : Int32) (M' : Mem), f_Mod_text_L20  n x1 M = some (r, M') → V X yX11_text cX11_text 2 (some .int) (rmD 7 0 0) l (FM (some (.int r)) S0 M' 0 0) 20 [some (.ref 103), some (.int x1)] [] S0 M 0 0 := by
  intro n
  induction n with
  | zero =>
    intro x1 M r M' h
    rw [f_Mod_text_L20] at h
    cases h
  | succ n ih =>
    intro x1 M r M' h
    rw [f_Mod_text_L20] at h
    refine V.aload_n dX11_text_20 rfl ?_
    refine V.getI dX11_text_21 fl_RX11_124 s0_103 rfl rfl ?_
    refine V.if_ne (tgt := 44) dX11_text_24 (by decide) (fun hc1 => ?_) (fun hc1 => ?_)
    · replace h := ite_f hc1 h
      exact okc_Mod_text_44 h
    replace h := ite_t hc1 h
    refine V.aload_n dX11_text_27 rfl ?_
    refine V.getI dX11_text_28 fl_RX11_151 s0_103 rfl rfl ?_
    refine V.if_eq (tgt := 44) dX11_text_31 (by decide) (fun hc2 => ?_) (fun hc2 => ?_)
    · replace h := ite_t hc2 h
      exact okc_Mod_text_44 h
    replace h := ite_f hc2 h
    refine V.aload_n dX11_text_34 rfl ?_
    obtain ⟨M4, hv3, h⟩ := bnd_s h
    refine V.cVv dX11_text_35 rfl mv_RX11_208 (ok_Mod_readLine hv3) rfl rfl s0_103 rfl (by decide) ⟨Nat.zero_le _, Nat.zero_le _⟩ (Nat.le_of_ble_eq_true rfl) (Nat.zero_le _) ?_
    refine V.iinc dX11_text_38 rfl (iinc_c ic_1) (by decide) rfl ?_
    refine V.goto (tgt := 20) dX11_text_41 (by decide) ?_
    exact ih _ _ _ _ h
theorem ok_Mod_text {X : Sc} {l : Launch}  {M : Mem}  {r : Int32} {M' : Mem}  (h : f_Mod_text M = some (r, M')) : Mt X l yX11_text cX11_text 2 (some .int) 7 0 0 [.ref 103] S0 M (some (.int r)) S0 M' := by
  refine Mt.ofV (by decide) (Nat.le_of_ble_eq_true rfl) ?_
  show V X yX11_text cX11_text 2 (some .int) (rmD 7 0 0) l (FM (some (.int r)) S0 M' 0 0) 0 [some (.ref 103), none] [] S0 M 0 0
  unfold f_Mod_text at h
  refine V.iconst dX11_text_0 ic_0 ?_
  refine V.istore_n dX11_text_1 (by decide) rfl ?_
  refine V.aload_n dX11_text_2 rfl ?_
  refine V.iconst dX11_text_3 ic_0 ?_
  refine V.putI dX11_text_4 fp_RX11_124 s0_103 rfl rfl (fun M1 hM1 => ?_)
  replace h := setM_at h M1 hM1
  refine V.aload_n dX11_text_7 rfl ?_
  refine V.iconst dX11_text_8 ic_0 ?_
  refine V.putI dX11_text_9 fp_RX11_133 s0_103 rfl rfl (fun M2 hM2 => ?_)
  replace h := setM_at h M2 hM2
  refine V.aload_n dX11_text_12 rfl ?_
  obtain ⟨M4, hv3, h⟩ := bnd_s h
  refine V.cVv dX11_text_13 rfl mv_RX11_65 (ok_Mod_firstDraft hv3) rfl rfl s0_103 rfl (by decide) ⟨Nat.zero_le _, Nat.zero_le _⟩ (Nat.le_of_ble_eq_true rfl) (Nat.zero_le _) ?_
  refine V.aload_n dX11_text_16 rfl ?_
  obtain ⟨M6, hv5, h⟩ := bnd_s h
  refine V.cVv dX11_text_17 rfl mv_RX11_173 (ok_Mod_next hv5) rfl rfl s0_103 rfl (by decide) ⟨Nat.zero_le _, Nat.zero_le _⟩ (Nat.le_of_ble_eq_true rfl) (Nat.zero_le _) ?_
  exact okc_Mod_text_20 _ _ _ _ _ h
theorem ok_Mod_fault {X : Sc} {l : Launch}  {M : Mem}  {r : Int32}  (h : f_Mod_fault M = some r) : Mt X l yX11_fault cX11_fault 1 (some .int) 0 0 0 [.ref 103] S0 M (some (.int r)) S0 M := by
  refine Mt.ofV (by decide) (Nat.le_of_ble_eq_true rfl) ?_
  show V X yX11_fault cX11_fault 1 (some .int) (rmD 0 0 0) l (FM (some (.int r)) S0 M 0 0) 0 [some (.ref 103)] [] S0 M 0 0
  unfold f_Mod_fault at h
  refine V.aload_n dX11_fault_0 rfl ?_
  refine V.getI dX11_fault_1 fl_RX11_124 s0_103 rfl rfl ?_
  have e1 := inj1 h
  subst e1
  exact V.iret dX11_fault_4 rfl rfl
theorem ok_Mod_rule {X : Sc} {l : Launch}  {M : Mem} {x1 : Int32} {r : Int32}  (h : f_Mod_rule M x1 = some r) : Mt X l yX11_rule cX11_rule 2 (some .int) 0 0 0 [.ref 103, .int x1] S0 M (some (.int r)) S0 M := by
  refine Mt.ofV (by decide) (Nat.le_of_ble_eq_true rfl) ?_
  show V X yX11_rule cX11_rule 2 (some .int) (rmD 0 0 0) l (FM (some (.int r)) S0 M 0 0) 0 [some (.ref 103), some (.int x1)] [] S0 M 0 0
  unfold f_Mod_rule at h
  refine V.iload_n dX11_rule_0 rfl ?_
  by_cases hc1 : x1 = 0
  · replace h := ite_t hc1 h
    refine V.tabAt (off := 35) (tgt := 36) dX11_rule_1 hc1 (by decide) (by decide) (by decide) (by decide) ?_
    refine V.aload_n dX11_rule_36 rfl ?_
    refine V.getI dX11_rule_37 fl_RX11_90 s0_103 rfl rfl ?_
    have e1 := inj1 h
    subst e1
    exact V.iret dX11_rule_40 rfl rfl
  replace h := ite_f hc1 h
  by_cases hc2 : x1 = 1
  · replace h := ite_t hc2 h
    refine V.tabAt (off := 40) (tgt := 41) dX11_rule_1 hc2 (by decide) (by decide) (by decide) (by decide) ?_
    refine V.aload_n dX11_rule_41 rfl ?_
    refine V.getI dX11_rule_42 fl_RX11_93 s0_103 rfl rfl ?_
    have e1 := inj1 h
    subst e1
    exact V.iret dX11_rule_45 rfl rfl
  replace h := ite_f hc2 h
  by_cases hc3 : x1 = 2
  · replace h := ite_t hc3 h
    refine V.tabAt (off := 45) (tgt := 46) dX11_rule_1 hc3 (by decide) (by decide) (by decide) (by decide) ?_
    refine V.aload_n dX11_rule_46 rfl ?_
    refine V.getI dX11_rule_47 fl_RX11_96 s0_103 rfl rfl ?_
    have e1 := inj1 h
    subst e1
    exact V.iret dX11_rule_50 rfl rfl
  replace h := ite_f hc3 h
  by_cases hc4 : x1 = 3
  · replace h := ite_t hc4 h
    refine V.tabAt (off := 50) (tgt := 51) dX11_rule_1 hc4 (by decide) (by decide) (by decide) (by decide) ?_
    refine V.aload_n dX11_rule_51 rfl ?_
    refine V.getI dX11_rule_52 fl_RX11_99 s0_103 rfl rfl ?_
    have e1 := inj1 h
    subst e1
    exact V.iret dX11_rule_55 rfl rfl
  replace h := ite_f hc4 h
  by_cases hc5 : x1 = 4
  · replace h := ite_t hc5 h
    refine V.tabAt (off := 55) (tgt := 56) dX11_rule_1 hc5 (by decide) (by decide) (by decide) (by decide) ?_
    refine V.aload_n dX11_rule_56 rfl ?_
    refine V.getR dX11_rule_57 fl_RX11_7 s0_103 rfl rfl ?_
    refine V.bipush dX11_rule_60 bp_81 ?_
    refine V.iald dX11_rule_62 s0_104 rfl (vp_of (by decide)) ?_
    have e1 := inj1 h
    subst e1
    exact V.iret dX11_rule_63 rfl rfl
  replace h := ite_f hc5 h
  refine V.tabOut (tgt := 64) dX11_rule_1 (by have e0 := i32_lit (k := 0) hc1 (by decide); have e1 := i32_lit (k := 1) hc2 (by decide); have e2 := i32_lit (k := 2) hc3 (by decide); have e3 := i32_lit (k := 3) hc4 (by decide); have e4 := i32_lit (k := 4) hc5 (by decide); omega) (by decide) ?_
  refine V.iconst dX11_rule_64 ic_m1 ?_
  have e1 := inj1 h
  subst e1
  exact V.iret dX11_rule_65 rfl rfl
theorem ok_Mod_isCell {X : Sc} {l : Launch}  {M : Mem} {x1 : Int32} {r : Int32}  (h : f_Mod_isCell M x1 = some r) : Mt X l yX11_isCell cX11_isCell 2 (some .boolean) 1 0 0 [.ref 103, .int x1] S0 M (some (.int r)) S0 M := by
  refine Mt.ofV (by decide) (Nat.le_of_ble_eq_true rfl) ?_
  show V X yX11_isCell cX11_isCell 2 (some .boolean) (rmD 1 0 0) l (FM (some (.int r)) S0 M 0 0) 0 [some (.ref 103), some (.int x1)] [] S0 M 0 0
  unfold f_Mod_isCell at h
  refine V.iload_n dX11_isCell_0 rfl ?_
  refine V.i2l dX11_isCell_1 ?_
  refine V.lconst dX11_isCell_2 lc_0 ?_
  refine V.ldc2 dX11_isCell_3 rfl kc_RX11_215 ?_
  obtain ⟨v2, hv1, h⟩ := bnd_s h
  refine V.cSi dX11_isCell_6 rfl mv_RX11_120 (ok_Mod_in hv1) rfl rfl (by decide) ⟨Nat.zero_le _, Nat.zero_le _⟩ (Nat.le_of_ble_eq_true rfl) (Nat.zero_le _) ?_
  refine V.if_eq (tgt := 38) dX11_isCell_9 (by decide) (fun hc3 => ?_) (fun hc3 => ?_)
  · replace h := ite_t hc3 h
    refine V.iconst dX11_isCell_38 ic_0 ?_
    have e1 := inj1 h
    subst e1
    exact V.iret dX11_isCell_39 rfl rfl
  replace h := ite_f hc3 h
  refine V.iload_n dX11_isCell_12 rfl ?_
  refine V.bipush dX11_isCell_13 bp_9 ?_
  refine V.irem dX11_isCell_15 (by decide) ?_
  refine V.aload_n dX11_isCell_16 rfl ?_
  refine V.getI dX11_isCell_17 fl_RX11_90 s0_103 rfl rfl ?_
  refine V.icmp_ge (tgt := 38) dX11_isCell_20 (by decide) (fun hc4 => ?_) (fun hc4 => ?_)
  · replace h := ite_t hc4 h
    refine V.iconst dX11_isCell_38 ic_0 ?_
    have e1 := inj1 h
    subst e1
    exact V.iret dX11_isCell_39 rfl rfl
  replace h := ite_f hc4 h
  refine V.iload_n dX11_isCell_23 rfl ?_
  refine V.bipush dX11_isCell_24 bp_9 ?_
  refine V.idiv dX11_isCell_26 (by decide) ?_
  refine V.aload_n dX11_isCell_27 rfl ?_
  refine V.getI dX11_isCell_28 fl_RX11_93 s0_103 rfl rfl ?_
  refine V.icmp_ge (tgt := 38) dX11_isCell_31 (by decide) (fun hc5 => ?_) (fun hc5 => ?_)
  · replace h := ite_t hc5 h
    refine V.iconst dX11_isCell_38 ic_0 ?_
    have e1 := inj1 h
    subst e1
    exact V.iret dX11_isCell_39 rfl rfl
  replace h := ite_f hc5 h
  refine V.iconst dX11_isCell_34 ic_1 ?_
  refine V.goto (tgt := 39) dX11_isCell_35 (by decide) ?_
  have e1 := inj1 h
  subst e1
  exact V.iret dX11_isCell_39 rfl rfl
theorem ok_Mod_isBench {X : Sc} {l : Launch}  {M : Mem} {x1 : Int32} {r : Int32}  (h : f_Mod_isBench M x1 = some r) : Mt X l yX11_isBench cX11_isBench 2 (some .boolean) 1 0 0 [.ref 103, .int x1] S0 M (some (.int r)) S0 M := by
  refine Mt.ofV (by decide) (Nat.le_of_ble_eq_true rfl) ?_
  show V X yX11_isBench cX11_isBench 2 (some .boolean) (rmD 1 0 0) l (FM (some (.int r)) S0 M 0 0) 0 [some (.ref 103), some (.int x1)] [] S0 M 0 0
  unfold f_Mod_isBench at h
  refine V.iload_n dX11_isBench_0 rfl ?_
  refine V.i2l dX11_isBench_1 ?_
  refine V.lconst dX11_isBench_2 lc_0 ?_
  refine V.aload_n dX11_isBench_3 rfl ?_
  refine V.getI dX11_isBench_4 fl_RX11_102 s0_103 rfl rfl ?_
  refine V.iconst dX11_isBench_7 ic_1 ?_
  refine V.isub dX11_isBench_8 ?_
  refine V.i2l dX11_isBench_9 ?_
  obtain ⟨v2, hv1, h⟩ := bnd_s h
  refine V.cSi dX11_isBench_10 rfl mv_RX11_120 (ok_Mod_in hv1) rfl rfl (by decide) ⟨Nat.zero_le _, Nat.zero_le _⟩ (Nat.le_of_ble_eq_true rfl) (Nat.zero_le _) ?_
  obtain ⟨hB3, h⟩ := ck_s h
  have e1 := inj1 h
  subst e1
  exact V.iret dX11_isBench_13 rfl (isB_n hB3)
theorem ok_Mod_isOne {X : Sc} {l : Launch}  {M : Mem} {x1 : Int32} {r : Int32}  (h : f_Mod_isOne M x1 = some r) : Mt X l yX11_isOne cX11_isOne 2 (some .boolean) 1 0 0 [.ref 103, .int x1] S0 M (some (.int r)) S0 M := by
  refine Mt.ofV (by decide) (Nat.le_of_ble_eq_true rfl) ?_
  show V X yX11_isOne cX11_isOne 2 (some .boolean) (rmD 1 0 0) l (FM (some (.int r)) S0 M 0 0) 0 [some (.ref 103), some (.int x1)] [] S0 M 0 0
  unfold f_Mod_isOne at h
  refine V.iload_n dX11_isOne_0 rfl ?_
  refine V.i2l dX11_isOne_1 ?_
  refine V.lconst dX11_isOne_2 lc_0 ?_
  refine V.aload_n dX11_isOne_3 rfl ?_
  refine V.getI dX11_isOne_4 fl_RX11_109 s0_103 rfl rfl ?_
  refine V.iconst dX11_isOne_7 ic_1 ?_
  refine V.isub dX11_isOne_8 ?_
  refine V.i2l dX11_isOne_9 ?_
  obtain ⟨v2, hv1, h⟩ := bnd_s h
  refine V.cSi dX11_isOne_10 rfl mv_RX11_120 (ok_Mod_in hv1) rfl rfl (by decide) ⟨Nat.zero_le _, Nat.zero_le _⟩ (Nat.le_of_ble_eq_true rfl) (Nat.zero_le _) ?_
  obtain ⟨hB3, h⟩ := ck_s h
  have e1 := inj1 h
  subst e1
  exact V.iret dX11_isOne_13 rfl (isB_n hB3)
